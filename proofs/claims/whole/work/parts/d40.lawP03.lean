theorem l_L_law_C18 {G : Gx} {d : Nat} (hl : G.1.stackTraces = false) (hd : 15 ≤ d) {pC1 : Nat} {pC2 : Nat} {pC3 : Nat} {xC4 : Int32} {sC : Sto} {r : (Int32 × Sto)} {kJ : Sto → Option (Int32 × Sto)} (hkJ : ∀ (sJ : Sto), kJ sJ = some r → J G d m_L_law 3394 [(0, .ref 0), (1, .ref pC1), (2, .ref pC2), (3, .ref pC3), (4, .int xC4)] [] sJ (.inl (some (.int r.1))) r.2) (h : F_L_law_C18 G.sl G.sx pC1 pC2 pC3 xC4 sC kJ = some r) : J G d m_L_law 1507 [(0, .ref 0), (1, .ref pC1), (2, .ref pC2), (3, .ref pC3), (4, .int xC4)] [] sC (.inl (some (.int r.1))) r.2 := by
  rw [F_L_law_C18] at h
  refine r_aload_n (dc_L_law_13 34 rfl) rfl rfl ?_
  refine r_aload_n (dc_L_law_13 35 rfl) rfl rfl ?_
  refine r_iload (dc_L_law_13 36 rfl) rfl ?_
  refine r_iconst (dc_L_law_13 37 rfl) kiconst_1 ?_
  refine r_iadd (dc_L_law_13 38 rfl) ?_
  obtain ⟨x200, e0, h⟩ := Option.bind_eq_some_iff.mp h
  obtain ⟨hin, ex⟩ := sld_some e0
  refine r_sld (dc_L_law_13 39 rfl) hin ?_
  rw [← ex]
  refine r_aload_n (dc_L_law_13 40 rfl) rfl rfl ?_
  refine r_iload (dc_L_law_13 41 rfl) rfl ?_
  refine r_iconst (dc_L_law_13 42 rfl) kiconst_2 ?_
  refine r_iadd (dc_L_law_13 43 rfl) ?_
  obtain ⟨x201, e0, h⟩ := Option.bind_eq_some_iff.mp h
  obtain ⟨hin, ex⟩ := sld_some e0
  refine r_sld (dc_L_law_13 44 rfl) hin ?_
  rw [← ex]
  refine r_aload_n (dc_L_law_13 45 rfl) rfl rfl ?_
  refine r_iload (dc_L_law_13 46 rfl) rfl ?_
  refine r_iconst (dc_L_law_13 47 rfl) kiconst_3 ?_
  refine r_iadd (dc_L_law_13 48 rfl) ?_
  obtain ⟨x202, e0, h⟩ := Option.bind_eq_some_iff.mp h
  obtain ⟨hin, ex⟩ := sld_some e0
  refine r_sld (dc_L_law_13 49 rfl) hin ?_
  rw [← ex]
  refine r_aload_n (dc_L_law_13 50 rfl) rfl rfl ?_
  obtain ⟨x204, s203, e0, h⟩ := wb_some h
  refine r_callSH (dc_L_law_13 51 rfl) mh_L_view ml_RL_225 (As := [.ref pC1, .int x200, .int x201, .int x202, .ref pC3]) (t_L_view (d := d - 1) hl (by omega) e0) (by omega) rfl (Nat.le_of_ble_eq_true rfl) ?_
  refine r_istore (dc_L_law_13 52 rfl) (by decide) (lo' := [(5, .int x204), (0, .ref 0), (1, .ref pC1), (2, .ref pC2), (3, .ref pC3), (4, .int xC4)]) rfl ?_
  refine r_aload_n (dc_L_law_13 53 rfl) rfl rfl ?_
  refine r_aload_n (dc_L_law_13 54 rfl) rfl rfl ?_
  refine r_iload (dc_L_law_13 55 rfl) rfl ?_
  refine r_iconst (dc_L_law_13 56 rfl) kiconst_1 ?_
  refine r_iadd (dc_L_law_13 57 rfl) ?_
  obtain ⟨x205, e0, h⟩ := Option.bind_eq_some_iff.mp h
  obtain ⟨hin, ex⟩ := sld_some e0
  refine r_sld (dc_L_law_13 58 rfl) hin ?_
  rw [← ex]
  refine r_aload_n (dc_L_law_13 59 rfl) rfl rfl ?_
  refine r_iload (dc_L_law_13 60 rfl) rfl ?_
  refine r_iconst (dc_L_law_13 61 rfl) kiconst_2 ?_
  refine r_iadd (dc_L_law_13 62 rfl) ?_
  obtain ⟨x206, e0, h⟩ := Option.bind_eq_some_iff.mp h
  obtain ⟨hin, ex⟩ := sld_some e0
  refine r_sld (dc_L_law_13 63 rfl) hin ?_
  rw [← ex]
  refine r_aload_n (dc_L_law_14 0 rfl) rfl rfl ?_
  refine r_iload (dc_L_law_14 1 rfl) rfl ?_
  refine r_iconst (dc_L_law_14 2 rfl) kiconst_3 ?_
  refine r_iadd (dc_L_law_14 3 rfl) ?_
  obtain ⟨x207, e0, h⟩ := Option.bind_eq_some_iff.mp h
  obtain ⟨hin, ex⟩ := sld_some e0
  refine r_sld (dc_L_law_14 4 rfl) hin ?_
  rw [← ex]
  obtain ⟨x209, s208, e0, h⟩ := wb_some h
  refine r_callV (dc_L_law_14 5 rfl) mv_X10_view ml_RL_227 (As := [.int x205, .int x206, .int x207]) (t_X10_view (d := d - 1) hl (by omega) e0) (by omega) rfl (Nat.le_of_ble_eq_true rfl) ?_
  refine r_istore (dc_L_law_14 6 rfl) (by decide) (lo' := [(6, .int x209), (5, .int x204), (0, .ref 0), (1, .ref pC1), (2, .ref pC2), (3, .ref pC3), (4, .int xC4)]) rfl ?_
  refine r_aload_n (dc_L_law_14 7 rfl) rfl rfl ?_
  obtain ⟨x210, e0, h⟩ := Option.bind_eq_some_iff.mp h
  refine r_callV (dc_L_law_14 8 rfl) mv_X10_thrown ml_RL_166 (As := []) (t_X10_thrown (d := d - 1) hl (by omega) e0) (by omega) rfl (Nat.le_of_ble_eq_true rfl) ?_
  refine r_iload (dc_L_law_14 9 rfl) rfl ?_
  refine r_icmp_eq (dc_L_law_14 10 rfl) (tgt := 1567) (by decide) (fun c0 => ?_) (fun c0 => ?_)
  · rw [if_pos c0] at h
    refine r_iload (dc_L_law_14 13 rfl) rfl ?_
    refine r_if_ne (dc_L_law_14 14 rfl) (tgt := 1584) (by decide) (fun c0 => ?_) (fun c0 => ?_)
    · rw [if_neg c0] at h
      refine r_goto (dc_L_law_14 24 rfl) (tgt := 3394) (by decide) ?_
      refine r_pick [2, 3, 4, 5, 6] (lo' := [(0, .ref 0), (1, .ref pC1), (2, .ref pC2), (3, .ref pC3), (4, .int xC4)]) rfl ?_
      exact hkJ _ h
    · rw [if_pos c0] at h
      refine r_aload_n (dc_L_law_14 15 rfl) rfl rfl ?_
      refine r_iconst (dc_L_law_14 16 rfl) kiconst_0 ?_
      obtain ⟨y211, e0, h⟩ := Option.bind_eq_some_iff.mp h
      refine r_lald (dc_L_law_14 17 rfl) e0 ?_
      refine r_iload (dc_L_law_14 18 rfl) rfl ?_
      refine r_i2l (dc_L_law_14 19 rfl) ?_
      refine r_lcmp (dc_L_law_14 20 rfl) ?_
      refine r_if_eq (dc_L_law_14 21 rfl) (tgt := 1584) (by decide) (fun c0 => ?_) (fun c0 => ?_)
      · rw [if_pos c0] at h
        refine r_goto (dc_L_law_14 24 rfl) (tgt := 3394) (by decide) ?_
        refine r_pick [2, 3, 4, 5, 6] (lo' := [(0, .ref 0), (1, .ref pC1), (2, .ref pC2), (3, .ref pC3), (4, .int xC4)]) rfl ?_
        exact hkJ _ h
      · rw [if_neg c0] at h
        refine r_iconst (dc_L_law_14 22 rfl) kiconst_0 ?_
        cases h
        exact r_zreturn (dc_L_law_14 23 rfl) rfl (Or.inl rfl)
  · rw [if_neg c0] at h
    refine r_iconst (dc_L_law_14 11 rfl) kiconst_0 ?_
    cases h
    exact r_zreturn (dc_L_law_14 12 rfl) rfl (Or.inl rfl)
theorem l_L_law_C19 {G : Gx} {d : Nat} (hl : G.1.stackTraces = false) (hd : 15 ≤ d) {pC1 : Nat} {pC2 : Nat} {pC3 : Nat} {xC4 : Int32} {sC : Sto} {r : (Int32 × Sto)} {kJ : Sto → Option (Int32 × Sto)} (hkJ : ∀ (sJ : Sto), kJ sJ = some r → J G d m_L_law 3394 [(0, .ref 0), (1, .ref pC1), (2, .ref pC2), (3, .ref pC3), (4, .int xC4)] [] sJ (.inl (some (.int r.1))) r.2) (h : F_L_law_C19 G.sl G.sx pC1 pC2 pC3 xC4 sC kJ = some r) : J G d m_L_law 1587 [(0, .ref 0), (1, .ref pC1), (2, .ref pC2), (3, .ref pC3), (4, .int xC4)] [] sC (.inl (some (.int r.1))) r.2 := by
  rw [F_L_law_C19] at h
  refine r_aload_n (dc_L_law_14 25 rfl) rfl rfl ?_
  refine r_aload_n (dc_L_law_14 26 rfl) rfl rfl ?_
  refine r_iload (dc_L_law_14 27 rfl) rfl ?_
  refine r_iconst (dc_L_law_14 28 rfl) kiconst_1 ?_
  refine r_iadd (dc_L_law_14 29 rfl) ?_
  obtain ⟨x212, e0, h⟩ := Option.bind_eq_some_iff.mp h
  obtain ⟨hin, ex⟩ := sld_some e0
  refine r_sld (dc_L_law_14 30 rfl) hin ?_
  rw [← ex]
  refine r_aload_n (dc_L_law_14 31 rfl) rfl rfl ?_
  refine r_iload (dc_L_law_14 32 rfl) rfl ?_
  refine r_iconst (dc_L_law_14 33 rfl) kiconst_2 ?_
  refine r_iadd (dc_L_law_14 34 rfl) ?_
  obtain ⟨x213, e0, h⟩ := Option.bind_eq_some_iff.mp h
  obtain ⟨hin, ex⟩ := sld_some e0
  refine r_sld (dc_L_law_14 35 rfl) hin ?_
  rw [← ex]
  refine r_aload_n (dc_L_law_14 36 rfl) rfl rfl ?_
  refine r_iload (dc_L_law_14 37 rfl) rfl ?_
  refine r_iconst (dc_L_law_14 38 rfl) kiconst_3 ?_
  refine r_iadd (dc_L_law_14 39 rfl) ?_
  obtain ⟨x214, e0, h⟩ := Option.bind_eq_some_iff.mp h
  obtain ⟨hin, ex⟩ := sld_some e0
  refine r_sld (dc_L_law_14 40 rfl) hin ?_
  rw [← ex]
  refine r_aload_n (dc_L_law_14 41 rfl) rfl rfl ?_
  obtain ⟨x216, s215, e0, h⟩ := wb_some h
  refine r_callSH (dc_L_law_14 42 rfl) mh_L_named ml_RL_228 (As := [.ref pC1, .int x212, .int x213, .int x214, .ref pC3]) (t_L_named (d := d - 1) hl (by omega) e0) (by omega) rfl (Nat.le_of_ble_eq_true rfl) ?_
  refine r_istore (dc_L_law_14 43 rfl) (by decide) (lo' := [(5, .int x216), (0, .ref 0), (1, .ref pC1), (2, .ref pC2), (3, .ref pC3), (4, .int xC4)]) rfl ?_
  refine r_aload_n (dc_L_law_14 44 rfl) rfl rfl ?_
  refine r_aload_n (dc_L_law_14 45 rfl) rfl rfl ?_
  refine r_iload (dc_L_law_14 46 rfl) rfl ?_
  refine r_iconst (dc_L_law_14 47 rfl) kiconst_1 ?_
  refine r_iadd (dc_L_law_14 48 rfl) ?_
  obtain ⟨x217, e0, h⟩ := Option.bind_eq_some_iff.mp h
  obtain ⟨hin, ex⟩ := sld_some e0
  refine r_sld (dc_L_law_14 49 rfl) hin ?_
  rw [← ex]
  refine r_aload_n (dc_L_law_14 50 rfl) rfl rfl ?_
  refine r_iload (dc_L_law_14 51 rfl) rfl ?_
  refine r_iconst (dc_L_law_14 52 rfl) kiconst_2 ?_
  refine r_iadd (dc_L_law_14 53 rfl) ?_
  obtain ⟨x218, e0, h⟩ := Option.bind_eq_some_iff.mp h
  obtain ⟨hin, ex⟩ := sld_some e0
  refine r_sld (dc_L_law_14 54 rfl) hin ?_
  rw [← ex]
  refine r_aload_n (dc_L_law_14 55 rfl) rfl rfl ?_
  refine r_iload (dc_L_law_14 56 rfl) rfl ?_
  refine r_iconst (dc_L_law_14 57 rfl) kiconst_3 ?_
  refine r_iadd (dc_L_law_14 58 rfl) ?_
  obtain ⟨x219, e0, h⟩ := Option.bind_eq_some_iff.mp h
  obtain ⟨hin, ex⟩ := sld_some e0
  refine r_sld (dc_L_law_14 59 rfl) hin ?_
  rw [← ex]
  obtain ⟨x221, s220, e0, h⟩ := wb_some h
  refine r_callV (dc_L_law_14 60 rfl) mv_X10_named ml_RL_230 (As := [.int x217, .int x218, .int x219]) (t_X10_named (d := d - 1) hl (by omega) e0) (by omega) rfl (Nat.le_of_ble_eq_true rfl) ?_
  refine r_istore (dc_L_law_14 61 rfl) (by decide) (lo' := [(6, .int x221), (5, .int x216), (0, .ref 0), (1, .ref pC1), (2, .ref pC2), (3, .ref pC3), (4, .int xC4)]) rfl ?_
  refine r_aload_n (dc_L_law_14 62 rfl) rfl rfl ?_
  obtain ⟨x222, e0, h⟩ := Option.bind_eq_some_iff.mp h
  refine r_callV (dc_L_law_14 63 rfl) mv_X10_thrown ml_RL_166 (As := []) (t_X10_thrown (d := d - 1) hl (by omega) e0) (by omega) rfl (Nat.le_of_ble_eq_true rfl) ?_
  refine r_iload (dc_L_law_15 0 rfl) rfl ?_
  refine r_icmp_eq (dc_L_law_15 1 rfl) (tgt := 1647) (by decide) (fun c0 => ?_) (fun c0 => ?_)
  · rw [if_pos c0] at h
    refine r_iload (dc_L_law_15 4 rfl) rfl ?_
    refine r_if_ne (dc_L_law_15 5 rfl) (tgt := 1664) (by decide) (fun c0 => ?_) (fun c0 => ?_)
    · rw [if_neg c0] at h
      refine r_goto (dc_L_law_15 15 rfl) (tgt := 3394) (by decide) ?_
      refine r_pick [2, 3, 4, 5, 6] (lo' := [(0, .ref 0), (1, .ref pC1), (2, .ref pC2), (3, .ref pC3), (4, .int xC4)]) rfl ?_
      exact hkJ _ h
    · rw [if_pos c0] at h
      refine r_aload_n (dc_L_law_15 6 rfl) rfl rfl ?_
      refine r_iconst (dc_L_law_15 7 rfl) kiconst_0 ?_
      obtain ⟨y223, e0, h⟩ := Option.bind_eq_some_iff.mp h
      refine r_lald (dc_L_law_15 8 rfl) e0 ?_
      refine r_iload (dc_L_law_15 9 rfl) rfl ?_
      refine r_i2l (dc_L_law_15 10 rfl) ?_
      refine r_lcmp (dc_L_law_15 11 rfl) ?_
      refine r_if_eq (dc_L_law_15 12 rfl) (tgt := 1664) (by decide) (fun c0 => ?_) (fun c0 => ?_)
      · rw [if_pos c0] at h
        refine r_goto (dc_L_law_15 15 rfl) (tgt := 3394) (by decide) ?_
        refine r_pick [2, 3, 4, 5, 6] (lo' := [(0, .ref 0), (1, .ref pC1), (2, .ref pC2), (3, .ref pC3), (4, .int xC4)]) rfl ?_
        exact hkJ _ h
      · rw [if_neg c0] at h
        refine r_iconst (dc_L_law_15 13 rfl) kiconst_0 ?_
        cases h
        exact r_zreturn (dc_L_law_15 14 rfl) rfl (Or.inl rfl)
  · rw [if_neg c0] at h
    refine r_iconst (dc_L_law_15 2 rfl) kiconst_0 ?_
    cases h
    exact r_zreturn (dc_L_law_15 3 rfl) rfl (Or.inl rfl)
theorem l_L_law_C20 {G : Gx} {d : Nat} (hl : G.1.stackTraces = false) (hd : 15 ≤ d) {pC1 : Nat} {pC2 : Nat} {pC3 : Nat} {xC4 : Int32} {sC : Sto} {r : (Int32 × Sto)} {kJ : Sto → Option (Int32 × Sto)} (hkJ : ∀ (sJ : Sto), kJ sJ = some r → J G d m_L_law 3394 [(0, .ref 0), (1, .ref pC1), (2, .ref pC2), (3, .ref pC3), (4, .int xC4)] [] sJ (.inl (some (.int r.1))) r.2) (h : F_L_law_C20 G.sl G.sx pC1 pC2 pC3 xC4 sC kJ = some r) : J G d m_L_law 1667 [(0, .ref 0), (1, .ref pC1), (2, .ref pC2), (3, .ref pC3), (4, .int xC4)] [] sC (.inl (some (.int r.1))) r.2 := by
  rw [F_L_law_C20] at h
  refine r_aload_n (dc_L_law_15 16 rfl) rfl rfl ?_
  refine r_aload_n (dc_L_law_15 17 rfl) rfl rfl ?_
  refine r_iload (dc_L_law_15 18 rfl) rfl ?_
  refine r_iconst (dc_L_law_15 19 rfl) kiconst_1 ?_
  refine r_iadd (dc_L_law_15 20 rfl) ?_
  obtain ⟨x224, e0, h⟩ := Option.bind_eq_some_iff.mp h
  obtain ⟨hin, ex⟩ := sld_some e0
  refine r_sld (dc_L_law_15 21 rfl) hin ?_
  rw [← ex]
  refine r_aload_n (dc_L_law_15 22 rfl) rfl rfl ?_
  refine r_iload (dc_L_law_15 23 rfl) rfl ?_
  refine r_iconst (dc_L_law_15 24 rfl) kiconst_2 ?_
  refine r_iadd (dc_L_law_15 25 rfl) ?_
  obtain ⟨x225, e0, h⟩ := Option.bind_eq_some_iff.mp h
  obtain ⟨hin, ex⟩ := sld_some e0
  refine r_sld (dc_L_law_15 26 rfl) hin ?_
  rw [← ex]
  refine r_aload_n (dc_L_law_15 27 rfl) rfl rfl ?_
  obtain ⟨x227, s226, e0, h⟩ := wb_some h
  refine r_callSH (dc_L_law_15 28 rfl) mh_L_log ml_RL_231 (As := [.ref pC1, .int x224, .int x225, .ref pC3]) (t_L_log (d := d - 1) hl (by omega) e0) (by omega) rfl (Nat.le_of_ble_eq_true rfl) ?_
  refine r_istore (dc_L_law_15 29 rfl) (by decide) (lo' := [(5, .int x227), (0, .ref 0), (1, .ref pC1), (2, .ref pC2), (3, .ref pC3), (4, .int xC4)]) rfl ?_
  refine r_aload_n (dc_L_law_15 30 rfl) rfl rfl ?_
  refine r_aload_n (dc_L_law_15 31 rfl) rfl rfl ?_
  refine r_iload (dc_L_law_15 32 rfl) rfl ?_
  refine r_iconst (dc_L_law_15 33 rfl) kiconst_1 ?_
  refine r_iadd (dc_L_law_15 34 rfl) ?_
  obtain ⟨x228, e0, h⟩ := Option.bind_eq_some_iff.mp h
  obtain ⟨hin, ex⟩ := sld_some e0
  refine r_sld (dc_L_law_15 35 rfl) hin ?_
  rw [← ex]
  refine r_aload_n (dc_L_law_15 36 rfl) rfl rfl ?_
  refine r_iload (dc_L_law_15 37 rfl) rfl ?_
  refine r_iconst (dc_L_law_15 38 rfl) kiconst_2 ?_
  refine r_iadd (dc_L_law_15 39 rfl) ?_
  obtain ⟨x229, e0, h⟩ := Option.bind_eq_some_iff.mp h
  obtain ⟨hin, ex⟩ := sld_some e0
  refine r_sld (dc_L_law_15 40 rfl) hin ?_
  rw [← ex]
  obtain ⟨x231, s230, e0, h⟩ := wb_some h
  refine r_callV (dc_L_law_15 41 rfl) mv_X10_log ml_RL_233 (As := [.int x228, .int x229]) (t_X10_log (d := d - 1) hl (by omega) e0) (by omega) rfl (Nat.le_of_ble_eq_true rfl) ?_
  refine r_istore (dc_L_law_15 42 rfl) (by decide) (lo' := [(6, .int x231), (5, .int x227), (0, .ref 0), (1, .ref pC1), (2, .ref pC2), (3, .ref pC3), (4, .int xC4)]) rfl ?_
  refine r_aload_n (dc_L_law_15 43 rfl) rfl rfl ?_
  obtain ⟨x232, e0, h⟩ := Option.bind_eq_some_iff.mp h
  refine r_callV (dc_L_law_15 44 rfl) mv_X10_thrown ml_RL_166 (As := []) (t_X10_thrown (d := d - 1) hl (by omega) e0) (by omega) rfl (Nat.le_of_ble_eq_true rfl) ?_
  refine r_iload (dc_L_law_15 45 rfl) rfl ?_
  refine r_icmp_eq (dc_L_law_15 46 rfl) (tgt := 1715) (by decide) (fun c0 => ?_) (fun c0 => ?_)
  · rw [if_pos c0] at h
    refine r_iload (dc_L_law_15 49 rfl) rfl ?_
    refine r_if_ne (dc_L_law_15 50 rfl) (tgt := 1732) (by decide) (fun c0 => ?_) (fun c0 => ?_)
    · rw [if_neg c0] at h
      refine r_goto (dc_L_law_15 60 rfl) (tgt := 3394) (by decide) ?_
      refine r_pick [2, 3, 4, 5, 6] (lo' := [(0, .ref 0), (1, .ref pC1), (2, .ref pC2), (3, .ref pC3), (4, .int xC4)]) rfl ?_
      exact hkJ _ h
    · rw [if_pos c0] at h
      refine r_aload_n (dc_L_law_15 51 rfl) rfl rfl ?_
      refine r_iconst (dc_L_law_15 52 rfl) kiconst_0 ?_
      obtain ⟨y233, e0, h⟩ := Option.bind_eq_some_iff.mp h
      refine r_lald (dc_L_law_15 53 rfl) e0 ?_
      refine r_iload (dc_L_law_15 54 rfl) rfl ?_
      refine r_i2l (dc_L_law_15 55 rfl) ?_
      refine r_lcmp (dc_L_law_15 56 rfl) ?_
      refine r_if_eq (dc_L_law_15 57 rfl) (tgt := 1732) (by decide) (fun c0 => ?_) (fun c0 => ?_)
      · rw [if_pos c0] at h
        refine r_goto (dc_L_law_15 60 rfl) (tgt := 3394) (by decide) ?_
        refine r_pick [2, 3, 4, 5, 6] (lo' := [(0, .ref 0), (1, .ref pC1), (2, .ref pC2), (3, .ref pC3), (4, .int xC4)]) rfl ?_
        exact hkJ _ h
      · rw [if_neg c0] at h
        refine r_iconst (dc_L_law_15 58 rfl) kiconst_0 ?_
        cases h
        exact r_zreturn (dc_L_law_15 59 rfl) rfl (Or.inl rfl)
  · rw [if_neg c0] at h
    refine r_iconst (dc_L_law_15 47 rfl) kiconst_0 ?_
    cases h
    exact r_zreturn (dc_L_law_15 48 rfl) rfl (Or.inl rfl)
theorem l_L_law_C21 {G : Gx} {d : Nat} (hl : G.1.stackTraces = false) (hd : 15 ≤ d) {pC1 : Nat} {pC2 : Nat} {pC3 : Nat} {xC4 : Int32} {sC : Sto} {r : (Int32 × Sto)} {kJ : Sto → Option (Int32 × Sto)} (hkJ : ∀ (sJ : Sto), kJ sJ = some r → J G d m_L_law 3394 [(0, .ref 0), (1, .ref pC1), (2, .ref pC2), (3, .ref pC3), (4, .int xC4)] [] sJ (.inl (some (.int r.1))) r.2) (h : F_L_law_C21 G.sl G.sx pC1 pC2 pC3 xC4 sC kJ = some r) : J G d m_L_law 1735 [(0, .ref 0), (1, .ref pC1), (2, .ref pC2), (3, .ref pC3), (4, .int xC4)] [] sC (.inl (some (.int r.1))) r.2 := by
  rw [F_L_law_C21] at h
  refine r_aload_n (dc_L_law_15 61 rfl) rfl rfl ?_
  refine r_aload_n (dc_L_law_15 62 rfl) rfl rfl ?_
  refine r_iload (dc_L_law_15 63 rfl) rfl ?_
  refine r_iconst (dc_L_law_16 0 rfl) kiconst_1 ?_
  refine r_iadd (dc_L_law_16 1 rfl) ?_
  obtain ⟨x234, e0, h⟩ := Option.bind_eq_some_iff.mp h
  obtain ⟨hin, ex⟩ := sld_some e0
  refine r_sld (dc_L_law_16 2 rfl) hin ?_
  rw [← ex]
  refine r_aload_n (dc_L_law_16 3 rfl) rfl rfl ?_
  refine r_iload (dc_L_law_16 4 rfl) rfl ?_
  refine r_iconst (dc_L_law_16 5 rfl) kiconst_2 ?_
  refine r_iadd (dc_L_law_16 6 rfl) ?_
  obtain ⟨x235, e0, h⟩ := Option.bind_eq_some_iff.mp h
  obtain ⟨hin, ex⟩ := sld_some e0
  refine r_sld (dc_L_law_16 7 rfl) hin ?_
  rw [← ex]
  refine r_aload_n (dc_L_law_16 8 rfl) rfl rfl ?_
  refine r_iload (dc_L_law_16 9 rfl) rfl ?_
  refine r_iconst (dc_L_law_16 10 rfl) kiconst_3 ?_
  refine r_iadd (dc_L_law_16 11 rfl) ?_
  obtain ⟨x236, e0, h⟩ := Option.bind_eq_some_iff.mp h
  obtain ⟨hin, ex⟩ := sld_some e0
  refine r_sld (dc_L_law_16 12 rfl) hin ?_
  rw [← ex]
  refine r_aload_n (dc_L_law_16 13 rfl) rfl rfl ?_
  obtain ⟨x238, s237, e0, h⟩ := wb_some h
  refine r_callSH (dc_L_law_16 14 rfl) mh_L_table ml_RL_234 (As := [.ref pC1, .int x234, .int x235, .int x236, .ref pC3]) (t_L_table (d := d - 1) hl (by omega) e0) (by omega) rfl (Nat.le_of_ble_eq_true rfl) ?_
  refine r_istore (dc_L_law_16 15 rfl) (by decide) (lo' := [(5, .int x238), (0, .ref 0), (1, .ref pC1), (2, .ref pC2), (3, .ref pC3), (4, .int xC4)]) rfl ?_
  refine r_aload_n (dc_L_law_16 16 rfl) rfl rfl ?_
  refine r_aload_n (dc_L_law_16 17 rfl) rfl rfl ?_
  refine r_iload (dc_L_law_16 18 rfl) rfl ?_
  refine r_iconst (dc_L_law_16 19 rfl) kiconst_1 ?_
  refine r_iadd (dc_L_law_16 20 rfl) ?_
  obtain ⟨x239, e0, h⟩ := Option.bind_eq_some_iff.mp h
  obtain ⟨hin, ex⟩ := sld_some e0
  refine r_sld (dc_L_law_16 21 rfl) hin ?_
  rw [← ex]
  refine r_aload_n (dc_L_law_16 22 rfl) rfl rfl ?_
  refine r_iload (dc_L_law_16 23 rfl) rfl ?_
  refine r_iconst (dc_L_law_16 24 rfl) kiconst_2 ?_
  refine r_iadd (dc_L_law_16 25 rfl) ?_
  obtain ⟨x240, e0, h⟩ := Option.bind_eq_some_iff.mp h
  obtain ⟨hin, ex⟩ := sld_some e0
  refine r_sld (dc_L_law_16 26 rfl) hin ?_
  rw [← ex]
  refine r_aload_n (dc_L_law_16 27 rfl) rfl rfl ?_
  refine r_iload (dc_L_law_16 28 rfl) rfl ?_
  refine r_iconst (dc_L_law_16 29 rfl) kiconst_3 ?_
  refine r_iadd (dc_L_law_16 30 rfl) ?_
  obtain ⟨x241, e0, h⟩ := Option.bind_eq_some_iff.mp h
  obtain ⟨hin, ex⟩ := sld_some e0
  refine r_sld (dc_L_law_16 31 rfl) hin ?_
  rw [← ex]
  obtain ⟨x243, s242, e0, h⟩ := wb_some h
  refine r_callV (dc_L_law_16 32 rfl) mv_X10_table ml_RL_236 (As := [.int x239, .int x240, .int x241]) (t_X10_table (d := d - 1) hl (by omega) e0) (by omega) rfl (Nat.le_of_ble_eq_true rfl) ?_
  refine r_istore (dc_L_law_16 33 rfl) (by decide) (lo' := [(6, .int x243), (5, .int x238), (0, .ref 0), (1, .ref pC1), (2, .ref pC2), (3, .ref pC3), (4, .int xC4)]) rfl ?_
  refine r_aload_n (dc_L_law_16 34 rfl) rfl rfl ?_
  obtain ⟨x244, e0, h⟩ := Option.bind_eq_some_iff.mp h
  refine r_callV (dc_L_law_16 35 rfl) mv_X10_thrown ml_RL_166 (As := []) (t_X10_thrown (d := d - 1) hl (by omega) e0) (by omega) rfl (Nat.le_of_ble_eq_true rfl) ?_
  refine r_iload (dc_L_law_16 36 rfl) rfl ?_
  refine r_icmp_eq (dc_L_law_16 37 rfl) (tgt := 1795) (by decide) (fun c0 => ?_) (fun c0 => ?_)
  · rw [if_pos c0] at h
    refine r_iload (dc_L_law_16 40 rfl) rfl ?_
    refine r_if_ne (dc_L_law_16 41 rfl) (tgt := 1812) (by decide) (fun c0 => ?_) (fun c0 => ?_)
    · rw [if_neg c0] at h
      refine r_goto (dc_L_law_16 51 rfl) (tgt := 3394) (by decide) ?_
      refine r_pick [2, 3, 4, 5, 6] (lo' := [(0, .ref 0), (1, .ref pC1), (2, .ref pC2), (3, .ref pC3), (4, .int xC4)]) rfl ?_
      exact hkJ _ h
    · rw [if_pos c0] at h
      refine r_aload_n (dc_L_law_16 42 rfl) rfl rfl ?_
      refine r_iconst (dc_L_law_16 43 rfl) kiconst_0 ?_
      obtain ⟨y245, e0, h⟩ := Option.bind_eq_some_iff.mp h
      refine r_lald (dc_L_law_16 44 rfl) e0 ?_
      refine r_iload (dc_L_law_16 45 rfl) rfl ?_
      refine r_i2l (dc_L_law_16 46 rfl) ?_
      refine r_lcmp (dc_L_law_16 47 rfl) ?_
      refine r_if_eq (dc_L_law_16 48 rfl) (tgt := 1812) (by decide) (fun c0 => ?_) (fun c0 => ?_)
      · rw [if_pos c0] at h
        refine r_goto (dc_L_law_16 51 rfl) (tgt := 3394) (by decide) ?_
        refine r_pick [2, 3, 4, 5, 6] (lo' := [(0, .ref 0), (1, .ref pC1), (2, .ref pC2), (3, .ref pC3), (4, .int xC4)]) rfl ?_
        exact hkJ _ h
      · rw [if_neg c0] at h
        refine r_iconst (dc_L_law_16 49 rfl) kiconst_0 ?_
        cases h
        exact r_zreturn (dc_L_law_16 50 rfl) rfl (Or.inl rfl)
  · rw [if_neg c0] at h
    refine r_iconst (dc_L_law_16 38 rfl) kiconst_0 ?_
    cases h
    exact r_zreturn (dc_L_law_16 39 rfl) rfl (Or.inl rfl)
theorem l_L_law_C22 {G : Gx} {d : Nat} (hl : G.1.stackTraces = false) (hd : 15 ≤ d) {pC1 : Nat} {pC2 : Nat} {pC3 : Nat} {xC4 : Int32} {sC : Sto} {r : (Int32 × Sto)} {kJ : Sto → Option (Int32 × Sto)} (hkJ : ∀ (sJ : Sto), kJ sJ = some r → J G d m_L_law 3394 [(0, .ref 0), (1, .ref pC1), (2, .ref pC2), (3, .ref pC3), (4, .int xC4)] [] sJ (.inl (some (.int r.1))) r.2) (h : F_L_law_C22 G.sl G.sx pC1 pC2 pC3 xC4 sC kJ = some r) : J G d m_L_law 1815 [(0, .ref 0), (1, .ref pC1), (2, .ref pC2), (3, .ref pC3), (4, .int xC4)] [] sC (.inl (some (.int r.1))) r.2 := by
  rw [F_L_law_C22] at h
  refine r_aload_n (dc_L_law_16 52 rfl) rfl rfl ?_
  refine r_aload_n (dc_L_law_16 53 rfl) rfl rfl ?_
  refine r_iload (dc_L_law_16 54 rfl) rfl ?_
  refine r_iconst (dc_L_law_16 55 rfl) kiconst_1 ?_
  refine r_iadd (dc_L_law_16 56 rfl) ?_
  obtain ⟨x246, e0, h⟩ := Option.bind_eq_some_iff.mp h
  obtain ⟨hin, ex⟩ := sld_some e0
  refine r_sld (dc_L_law_16 57 rfl) hin ?_
  rw [← ex]
  refine r_aload_n (dc_L_law_16 58 rfl) rfl rfl ?_
  refine r_iload (dc_L_law_16 59 rfl) rfl ?_
  refine r_iconst (dc_L_law_16 60 rfl) kiconst_2 ?_
  refine r_iadd (dc_L_law_16 61 rfl) ?_
  obtain ⟨x247, e0, h⟩ := Option.bind_eq_some_iff.mp h
  obtain ⟨hin, ex⟩ := sld_some e0
  refine r_sld (dc_L_law_16 62 rfl) hin ?_
  rw [← ex]
  refine r_aload_n (dc_L_law_16 63 rfl) rfl rfl ?_
  refine r_iload (dc_L_law_17 0 rfl) rfl ?_
  refine r_iconst (dc_L_law_17 1 rfl) kiconst_3 ?_
  refine r_iadd (dc_L_law_17 2 rfl) ?_
  obtain ⟨x248, e0, h⟩ := Option.bind_eq_some_iff.mp h
  obtain ⟨hin, ex⟩ := sld_some e0
  refine r_sld (dc_L_law_17 3 rfl) hin ?_
  rw [← ex]
  refine r_aload_n (dc_L_law_17 4 rfl) rfl rfl ?_
  obtain ⟨x250, s249, e0, h⟩ := wb_some h
  refine r_callSH (dc_L_law_17 5 rfl) mh_L_knows ml_RL_237 (As := [.ref pC1, .int x246, .int x247, .int x248, .ref pC3]) (t_L_knows (d := d - 1) hl (by omega) e0) (by omega) rfl (Nat.le_of_ble_eq_true rfl) ?_
  refine r_istore (dc_L_law_17 6 rfl) (by decide) (lo' := [(5, .int x250), (0, .ref 0), (1, .ref pC1), (2, .ref pC2), (3, .ref pC3), (4, .int xC4)]) rfl ?_
  refine r_aload_n (dc_L_law_17 7 rfl) rfl rfl ?_
  refine r_aload_n (dc_L_law_17 8 rfl) rfl rfl ?_
  refine r_iload (dc_L_law_17 9 rfl) rfl ?_
  refine r_iconst (dc_L_law_17 10 rfl) kiconst_1 ?_
  refine r_iadd (dc_L_law_17 11 rfl) ?_
  obtain ⟨x251, e0, h⟩ := Option.bind_eq_some_iff.mp h
  obtain ⟨hin, ex⟩ := sld_some e0
  refine r_sld (dc_L_law_17 12 rfl) hin ?_
  rw [← ex]
  refine r_aload_n (dc_L_law_17 13 rfl) rfl rfl ?_
  refine r_iload (dc_L_law_17 14 rfl) rfl ?_
  refine r_iconst (dc_L_law_17 15 rfl) kiconst_2 ?_
  refine r_iadd (dc_L_law_17 16 rfl) ?_
  obtain ⟨x252, e0, h⟩ := Option.bind_eq_some_iff.mp h
  obtain ⟨hin, ex⟩ := sld_some e0
  refine r_sld (dc_L_law_17 17 rfl) hin ?_
  rw [← ex]
  refine r_aload_n (dc_L_law_17 18 rfl) rfl rfl ?_
  refine r_iload (dc_L_law_17 19 rfl) rfl ?_
  refine r_iconst (dc_L_law_17 20 rfl) kiconst_3 ?_
  refine r_iadd (dc_L_law_17 21 rfl) ?_
  obtain ⟨x253, e0, h⟩ := Option.bind_eq_some_iff.mp h
  obtain ⟨hin, ex⟩ := sld_some e0
  refine r_sld (dc_L_law_17 22 rfl) hin ?_
  rw [← ex]
  obtain ⟨x255, s254, e0, h⟩ := wb_some h
  refine r_callV (dc_L_law_17 23 rfl) mv_X10_knows ml_RL_239 (As := [.int x251, .int x252, .int x253]) (t_X10_knows (d := d - 1) hl (by omega) e0) (by omega) rfl (Nat.le_of_ble_eq_true rfl) ?_
  refine r_istore (dc_L_law_17 24 rfl) (by decide) (lo' := [(6, .int x255), (5, .int x250), (0, .ref 0), (1, .ref pC1), (2, .ref pC2), (3, .ref pC3), (4, .int xC4)]) rfl ?_
  refine r_aload_n (dc_L_law_17 25 rfl) rfl rfl ?_
  obtain ⟨x256, e0, h⟩ := Option.bind_eq_some_iff.mp h
  refine r_callV (dc_L_law_17 26 rfl) mv_X10_thrown ml_RL_166 (As := []) (t_X10_thrown (d := d - 1) hl (by omega) e0) (by omega) rfl (Nat.le_of_ble_eq_true rfl) ?_
  refine r_iload (dc_L_law_17 27 rfl) rfl ?_
  refine r_icmp_eq (dc_L_law_17 28 rfl) (tgt := 1875) (by decide) (fun c0 => ?_) (fun c0 => ?_)
  · rw [if_pos c0] at h
    refine r_iload (dc_L_law_17 31 rfl) rfl ?_
    refine r_if_ne (dc_L_law_17 32 rfl) (tgt := 1899) (by decide) (fun c0 => ?_) (fun c0 => ?_)
    · rw [if_neg c0] at h
      refine r_goto (dc_L_law_17 45 rfl) (tgt := 3394) (by decide) ?_
      refine r_pick [2, 3, 4, 5, 6] (lo' := [(0, .ref 0), (1, .ref pC1), (2, .ref pC2), (3, .ref pC3), (4, .int xC4)]) rfl ?_
      exact hkJ _ h
    · rw [if_pos c0] at h
      refine r_aload_n (dc_L_law_17 33 rfl) rfl rfl ?_
      refine r_iconst (dc_L_law_17 34 rfl) kiconst_0 ?_
      obtain ⟨y257, e0, h⟩ := Option.bind_eq_some_iff.mp h
      refine r_lald (dc_L_law_17 35 rfl) e0 ?_
      refine r_iload (dc_L_law_17 36 rfl) rfl ?_
      refine jn_elim h (Q := fun (j : Int64 → Option (Int32 × Sto)) => ∀ (y259 : Int64), j y259 = some r → J G d m_L_law 1893 [(0, .ref 0), (1, .ref pC1), (2, .ref pC2), (3, .ref pC3), (4, .int xC4)] [.long y259, .long y257] s254 (.inl (some (.int r.1))) r.2) ?_ (fun j258 hj258 h => ?_)
      · intro y259 h
        refine r_lcmp (dc_L_law_17 41 rfl) ?_
        refine r_if_eq (dc_L_law_17 42 rfl) (tgt := 1899) (by decide) (fun c0 => ?_) (fun c0 => ?_)
        · rw [if_pos c0] at h
          refine r_goto (dc_L_law_17 45 rfl) (tgt := 3394) (by decide) ?_
          exact hkJ _ h
        · rw [if_neg c0] at h
          refine r_iconst (dc_L_law_17 43 rfl) kiconst_0 ?_
          cases h
          exact r_zreturn (dc_L_law_17 44 rfl) rfl (Or.inl rfl)
      refine r_if_eq (dc_L_law_17 37 rfl) (tgt := 1892) (by decide) (fun c0 => ?_) (fun c0 => ?_)
      · rw [if_pos c0] at h
        refine r_lconst (dc_L_law_17 40 rfl) klconst_0 ?_
        refine r_pick [2, 3, 4, 5, 6] (lo' := [(0, .ref 0), (1, .ref pC1), (2, .ref pC2), (3, .ref pC3), (4, .int xC4)]) rfl ?_
        exact hj258 _ h
      · rw [if_neg c0] at h
        refine r_lconst (dc_L_law_17 38 rfl) klconst_1 ?_
        refine r_goto (dc_L_law_17 39 rfl) (tgt := 1893) (by decide) ?_
        refine r_pick [2, 3, 4, 5, 6] (lo' := [(0, .ref 0), (1, .ref pC1), (2, .ref pC2), (3, .ref pC3), (4, .int xC4)]) rfl ?_
        exact hj258 _ h
  · rw [if_neg c0] at h
    refine r_iconst (dc_L_law_17 29 rfl) kiconst_0 ?_
    cases h
    exact r_zreturn (dc_L_law_17 30 rfl) rfl (Or.inl rfl)
theorem l_L_law_C23 {G : Gx} {d : Nat} (hl : G.1.stackTraces = false) (hd : 15 ≤ d) {pC1 : Nat} {pC2 : Nat} {pC3 : Nat} {xC4 : Int32} {sC : Sto} {r : (Int32 × Sto)} {kJ : Sto → Option (Int32 × Sto)} (hkJ : ∀ (sJ : Sto), kJ sJ = some r → J G d m_L_law 3394 [(0, .ref 0), (1, .ref pC1), (2, .ref pC2), (3, .ref pC3), (4, .int xC4)] [] sJ (.inl (some (.int r.1))) r.2) (h : F_L_law_C23 G.sl G.sx pC1 pC2 pC3 xC4 sC kJ = some r) : J G d m_L_law 1902 [(0, .ref 0), (1, .ref pC1), (2, .ref pC2), (3, .ref pC3), (4, .int xC4)] [] sC (.inl (some (.int r.1))) r.2 := by
  rw [F_L_law_C23] at h
  refine r_aload_n (dc_L_law_17 46 rfl) rfl rfl ?_
  refine r_aload_n (dc_L_law_17 47 rfl) rfl rfl ?_
  refine r_iload (dc_L_law_17 48 rfl) rfl ?_
  refine r_iconst (dc_L_law_17 49 rfl) kiconst_1 ?_
  refine r_iadd (dc_L_law_17 50 rfl) ?_
  obtain ⟨x260, e0, h⟩ := Option.bind_eq_some_iff.mp h
  obtain ⟨hin, ex⟩ := sld_some e0
  refine r_sld (dc_L_law_17 51 rfl) hin ?_
  rw [← ex]
  refine r_aload_n (dc_L_law_17 52 rfl) rfl rfl ?_
  refine r_iload (dc_L_law_17 53 rfl) rfl ?_
  refine r_iconst (dc_L_law_17 54 rfl) kiconst_2 ?_
  refine r_iadd (dc_L_law_17 55 rfl) ?_
  obtain ⟨x261, e0, h⟩ := Option.bind_eq_some_iff.mp h
  obtain ⟨hin, ex⟩ := sld_some e0
  refine r_sld (dc_L_law_17 56 rfl) hin ?_
  rw [← ex]
  refine r_aload_n (dc_L_law_17 57 rfl) rfl rfl ?_
  obtain ⟨x263, s262, e0, h⟩ := wb_some h
  refine r_callSH (dc_L_law_17 58 rfl) mh_L_has ml_RL_240 (As := [.ref pC1, .int x260, .int x261, .ref pC3]) (t_L_has (d := d - 1) hl (by omega) e0) (by omega) rfl (Nat.le_of_ble_eq_true rfl) ?_
  refine r_istore (dc_L_law_17 59 rfl) (by decide) (lo' := [(5, .int x263), (0, .ref 0), (1, .ref pC1), (2, .ref pC2), (3, .ref pC3), (4, .int xC4)]) rfl ?_
  refine r_aload_n (dc_L_law_17 60 rfl) rfl rfl ?_
  refine r_aload_n (dc_L_law_17 61 rfl) rfl rfl ?_
  refine r_iload (dc_L_law_17 62 rfl) rfl ?_
  refine r_iconst (dc_L_law_17 63 rfl) kiconst_1 ?_
  refine r_iadd (dc_L_law_18 0 rfl) ?_
  obtain ⟨x264, e0, h⟩ := Option.bind_eq_some_iff.mp h
  obtain ⟨hin, ex⟩ := sld_some e0
  refine r_sld (dc_L_law_18 1 rfl) hin ?_
  rw [← ex]
  refine r_aload_n (dc_L_law_18 2 rfl) rfl rfl ?_
  refine r_iload (dc_L_law_18 3 rfl) rfl ?_
  refine r_iconst (dc_L_law_18 4 rfl) kiconst_2 ?_
  refine r_iadd (dc_L_law_18 5 rfl) ?_
  obtain ⟨x265, e0, h⟩ := Option.bind_eq_some_iff.mp h
  obtain ⟨hin, ex⟩ := sld_some e0
  refine r_sld (dc_L_law_18 6 rfl) hin ?_
  rw [← ex]
  obtain ⟨x267, s266, e0, h⟩ := wb_some h
  refine r_callV (dc_L_law_18 7 rfl) mv_X10_has ml_RL_242 (As := [.int x264, .int x265]) (t_X10_has (d := d - 1) hl (by omega) e0) (by omega) rfl (Nat.le_of_ble_eq_true rfl) ?_
  refine r_istore (dc_L_law_18 8 rfl) (by decide) (lo' := [(6, .int x267), (5, .int x263), (0, .ref 0), (1, .ref pC1), (2, .ref pC2), (3, .ref pC3), (4, .int xC4)]) rfl ?_
  refine r_aload_n (dc_L_law_18 9 rfl) rfl rfl ?_
  obtain ⟨x268, e0, h⟩ := Option.bind_eq_some_iff.mp h
  refine r_callV (dc_L_law_18 10 rfl) mv_X10_thrown ml_RL_166 (As := []) (t_X10_thrown (d := d - 1) hl (by omega) e0) (by omega) rfl (Nat.le_of_ble_eq_true rfl) ?_
  refine r_iload (dc_L_law_18 11 rfl) rfl ?_
  refine r_icmp_eq (dc_L_law_18 12 rfl) (tgt := 1950) (by decide) (fun c0 => ?_) (fun c0 => ?_)
  · rw [if_pos c0] at h
    refine r_iload (dc_L_law_18 15 rfl) rfl ?_
    refine r_if_ne (dc_L_law_18 16 rfl) (tgt := 1974) (by decide) (fun c0 => ?_) (fun c0 => ?_)
    · rw [if_neg c0] at h
      refine r_goto (dc_L_law_18 29 rfl) (tgt := 3394) (by decide) ?_
      refine r_pick [2, 3, 4, 5, 6] (lo' := [(0, .ref 0), (1, .ref pC1), (2, .ref pC2), (3, .ref pC3), (4, .int xC4)]) rfl ?_
      exact hkJ _ h
    · rw [if_pos c0] at h
      refine r_aload_n (dc_L_law_18 17 rfl) rfl rfl ?_
      refine r_iconst (dc_L_law_18 18 rfl) kiconst_0 ?_
      obtain ⟨y269, e0, h⟩ := Option.bind_eq_some_iff.mp h
      refine r_lald (dc_L_law_18 19 rfl) e0 ?_
      refine r_iload (dc_L_law_18 20 rfl) rfl ?_
      refine jn_elim h (Q := fun (j : Int64 → Option (Int32 × Sto)) => ∀ (y271 : Int64), j y271 = some r → J G d m_L_law 1968 [(0, .ref 0), (1, .ref pC1), (2, .ref pC2), (3, .ref pC3), (4, .int xC4)] [.long y271, .long y269] s266 (.inl (some (.int r.1))) r.2) ?_ (fun j270 hj270 h => ?_)
      · intro y271 h
        refine r_lcmp (dc_L_law_18 25 rfl) ?_
        refine r_if_eq (dc_L_law_18 26 rfl) (tgt := 1974) (by decide) (fun c0 => ?_) (fun c0 => ?_)
        · rw [if_pos c0] at h
          refine r_goto (dc_L_law_18 29 rfl) (tgt := 3394) (by decide) ?_
          exact hkJ _ h
        · rw [if_neg c0] at h
          refine r_iconst (dc_L_law_18 27 rfl) kiconst_0 ?_
          cases h
          exact r_zreturn (dc_L_law_18 28 rfl) rfl (Or.inl rfl)
      refine r_if_eq (dc_L_law_18 21 rfl) (tgt := 1967) (by decide) (fun c0 => ?_) (fun c0 => ?_)
      · rw [if_pos c0] at h
        refine r_lconst (dc_L_law_18 24 rfl) klconst_0 ?_
        refine r_pick [2, 3, 4, 5, 6] (lo' := [(0, .ref 0), (1, .ref pC1), (2, .ref pC2), (3, .ref pC3), (4, .int xC4)]) rfl ?_
        exact hj270 _ h
      · rw [if_neg c0] at h
        refine r_lconst (dc_L_law_18 22 rfl) klconst_1 ?_
        refine r_goto (dc_L_law_18 23 rfl) (tgt := 1968) (by decide) ?_
        refine r_pick [2, 3, 4, 5, 6] (lo' := [(0, .ref 0), (1, .ref pC1), (2, .ref pC2), (3, .ref pC3), (4, .int xC4)]) rfl ?_
        exact hj270 _ h
  · rw [if_neg c0] at h
    refine r_iconst (dc_L_law_18 13 rfl) kiconst_0 ?_
    cases h
    exact r_zreturn (dc_L_law_18 14 rfl) rfl (Or.inl rfl)
theorem l_L_law_C24 {G : Gx} {d : Nat} (hl : G.1.stackTraces = false) (hd : 15 ≤ d) {pC1 : Nat} {pC2 : Nat} {pC3 : Nat} {xC4 : Int32} {sC : Sto} {r : (Int32 × Sto)} {kJ : Sto → Option (Int32 × Sto)} (hkJ : ∀ (sJ : Sto), kJ sJ = some r → J G d m_L_law 3394 [(0, .ref 0), (1, .ref pC1), (2, .ref pC2), (3, .ref pC3), (4, .int xC4)] [] sJ (.inl (some (.int r.1))) r.2) (h : F_L_law_C24 G.sl G.sx pC1 pC2 pC3 xC4 sC kJ = some r) : J G d m_L_law 1977 [(0, .ref 0), (1, .ref pC1), (2, .ref pC2), (3, .ref pC3), (4, .int xC4)] [] sC (.inl (some (.int r.1))) r.2 := by
  rw [F_L_law_C24] at h
  refine r_aload_n (dc_L_law_18 30 rfl) rfl rfl ?_
  refine r_aload_n (dc_L_law_18 31 rfl) rfl rfl ?_
  refine r_iload (dc_L_law_18 32 rfl) rfl ?_
  refine r_iconst (dc_L_law_18 33 rfl) kiconst_1 ?_
  refine r_iadd (dc_L_law_18 34 rfl) ?_
  obtain ⟨x272, e0, h⟩ := Option.bind_eq_some_iff.mp h
  obtain ⟨hin, ex⟩ := sld_some e0
  refine r_sld (dc_L_law_18 35 rfl) hin ?_
  rw [← ex]
  refine r_aload_n (dc_L_law_18 36 rfl) rfl rfl ?_
  refine r_iload (dc_L_law_18 37 rfl) rfl ?_
  refine r_iconst (dc_L_law_18 38 rfl) kiconst_2 ?_
  refine r_iadd (dc_L_law_18 39 rfl) ?_
  obtain ⟨x273, e0, h⟩ := Option.bind_eq_some_iff.mp h
  obtain ⟨hin, ex⟩ := sld_some e0
  refine r_sld (dc_L_law_18 40 rfl) hin ?_
  rw [← ex]
  refine r_aload_n (dc_L_law_18 41 rfl) rfl rfl ?_
  obtain ⟨x275, s274, e0, h⟩ := wb_some h
  refine r_callSH (dc_L_law_18 42 rfl) mh_L_site ml_RL_243 (As := [.ref pC1, .int x272, .int x273, .ref pC3]) (t_L_site (d := d - 1) hl (by omega) e0) (by omega) rfl (Nat.le_of_ble_eq_true rfl) ?_
  refine r_istore (dc_L_law_18 43 rfl) (by decide) (lo' := [(5, .int x275), (0, .ref 0), (1, .ref pC1), (2, .ref pC2), (3, .ref pC3), (4, .int xC4)]) rfl ?_
  refine r_aload_n (dc_L_law_18 44 rfl) rfl rfl ?_
  refine r_aload_n (dc_L_law_18 45 rfl) rfl rfl ?_
  refine r_iload (dc_L_law_18 46 rfl) rfl ?_
  refine r_iconst (dc_L_law_18 47 rfl) kiconst_1 ?_
  refine r_iadd (dc_L_law_18 48 rfl) ?_
  obtain ⟨x276, e0, h⟩ := Option.bind_eq_some_iff.mp h
  obtain ⟨hin, ex⟩ := sld_some e0
  refine r_sld (dc_L_law_18 49 rfl) hin ?_
  rw [← ex]
  refine r_aload_n (dc_L_law_18 50 rfl) rfl rfl ?_
  refine r_iload (dc_L_law_18 51 rfl) rfl ?_
  refine r_iconst (dc_L_law_18 52 rfl) kiconst_2 ?_
  refine r_iadd (dc_L_law_18 53 rfl) ?_
  obtain ⟨x277, e0, h⟩ := Option.bind_eq_some_iff.mp h
  obtain ⟨hin, ex⟩ := sld_some e0
  refine r_sld (dc_L_law_18 54 rfl) hin ?_
  rw [← ex]
  obtain ⟨x279, s278, e0, h⟩ := wb_some h
  refine r_callV (dc_L_law_18 55 rfl) mv_X10_site ml_RL_245 (As := [.int x276, .int x277]) (t_X10_site (d := d - 1) hl (by omega) e0) (by omega) rfl (Nat.le_of_ble_eq_true rfl) ?_
  refine r_istore (dc_L_law_18 56 rfl) (by decide) (lo' := [(6, .int x279), (5, .int x275), (0, .ref 0), (1, .ref pC1), (2, .ref pC2), (3, .ref pC3), (4, .int xC4)]) rfl ?_
  refine r_aload_n (dc_L_law_18 57 rfl) rfl rfl ?_
  obtain ⟨x280, e0, h⟩ := Option.bind_eq_some_iff.mp h
  refine r_callV (dc_L_law_18 58 rfl) mv_X10_thrown ml_RL_166 (As := []) (t_X10_thrown (d := d - 1) hl (by omega) e0) (by omega) rfl (Nat.le_of_ble_eq_true rfl) ?_
  refine r_iload (dc_L_law_18 59 rfl) rfl ?_
  refine r_icmp_eq (dc_L_law_18 60 rfl) (tgt := 2025) (by decide) (fun c0 => ?_) (fun c0 => ?_)
  · rw [if_pos c0] at h
    refine r_iload (dc_L_law_18 63 rfl) rfl ?_
    refine r_if_ne (dc_L_law_19 0 rfl) (tgt := 2042) (by decide) (fun c0 => ?_) (fun c0 => ?_)
    · rw [if_neg c0] at h
      refine r_goto (dc_L_law_19 10 rfl) (tgt := 3394) (by decide) ?_
      refine r_pick [2, 3, 4, 5, 6] (lo' := [(0, .ref 0), (1, .ref pC1), (2, .ref pC2), (3, .ref pC3), (4, .int xC4)]) rfl ?_
      exact hkJ _ h
    · rw [if_pos c0] at h
      refine r_aload_n (dc_L_law_19 1 rfl) rfl rfl ?_
      refine r_iconst (dc_L_law_19 2 rfl) kiconst_0 ?_
      obtain ⟨y281, e0, h⟩ := Option.bind_eq_some_iff.mp h
      refine r_lald (dc_L_law_19 3 rfl) e0 ?_
      refine r_iload (dc_L_law_19 4 rfl) rfl ?_
      refine r_i2l (dc_L_law_19 5 rfl) ?_
      refine r_lcmp (dc_L_law_19 6 rfl) ?_
      refine r_if_eq (dc_L_law_19 7 rfl) (tgt := 2042) (by decide) (fun c0 => ?_) (fun c0 => ?_)
      · rw [if_pos c0] at h
        refine r_goto (dc_L_law_19 10 rfl) (tgt := 3394) (by decide) ?_
        refine r_pick [2, 3, 4, 5, 6] (lo' := [(0, .ref 0), (1, .ref pC1), (2, .ref pC2), (3, .ref pC3), (4, .int xC4)]) rfl ?_
        exact hkJ _ h
      · rw [if_neg c0] at h
        refine r_iconst (dc_L_law_19 8 rfl) kiconst_0 ?_
        cases h
        exact r_zreturn (dc_L_law_19 9 rfl) rfl (Or.inl rfl)
  · rw [if_neg c0] at h
    refine r_iconst (dc_L_law_18 61 rfl) kiconst_0 ?_
    cases h
    exact r_zreturn (dc_L_law_18 62 rfl) rfl (Or.inl rfl)
theorem l_L_law_C25 {G : Gx} {d : Nat} (hl : G.1.stackTraces = false) (hd : 15 ≤ d) {pC1 : Nat} {pC2 : Nat} {pC3 : Nat} {xC4 : Int32} {sC : Sto} {r : (Int32 × Sto)} {kJ : Sto → Option (Int32 × Sto)} (hkJ : ∀ (sJ : Sto), kJ sJ = some r → J G d m_L_law 3394 [(0, .ref 0), (1, .ref pC1), (2, .ref pC2), (3, .ref pC3), (4, .int xC4)] [] sJ (.inl (some (.int r.1))) r.2) (h : F_L_law_C25 G.sl G.sx pC1 pC2 pC3 xC4 sC kJ = some r) : J G d m_L_law 2045 [(0, .ref 0), (1, .ref pC1), (2, .ref pC2), (3, .ref pC3), (4, .int xC4)] [] sC (.inl (some (.int r.1))) r.2 := by
  rw [F_L_law_C25] at h
  refine r_aload_n (dc_L_law_19 11 rfl) rfl rfl ?_
  refine r_aload_n (dc_L_law_19 12 rfl) rfl rfl ?_
  refine r_iload (dc_L_law_19 13 rfl) rfl ?_
  refine r_iconst (dc_L_law_19 14 rfl) kiconst_1 ?_
  refine r_iadd (dc_L_law_19 15 rfl) ?_
  obtain ⟨x282, e0, h⟩ := Option.bind_eq_some_iff.mp h
  obtain ⟨hin, ex⟩ := sld_some e0
  refine r_sld (dc_L_law_19 16 rfl) hin ?_
  rw [← ex]
  refine r_aload_n (dc_L_law_19 17 rfl) rfl rfl ?_
  refine r_iload (dc_L_law_19 18 rfl) rfl ?_
  refine r_iconst (dc_L_law_19 19 rfl) kiconst_2 ?_
  refine r_iadd (dc_L_law_19 20 rfl) ?_
  obtain ⟨x283, e0, h⟩ := Option.bind_eq_some_iff.mp h
  obtain ⟨hin, ex⟩ := sld_some e0
  refine r_sld (dc_L_law_19 21 rfl) hin ?_
  rw [← ex]
  refine r_aload_n (dc_L_law_19 22 rfl) rfl rfl ?_
  obtain ⟨x285, s284, e0, h⟩ := wb_some h
  refine r_callSH (dc_L_law_19 23 rfl) mh_L_unlike ml_RL_246 (As := [.ref pC1, .int x282, .int x283, .ref pC3]) (t_L_unlike (d := d - 1) hl (by omega) e0) (by omega) rfl (Nat.le_of_ble_eq_true rfl) ?_
  refine r_istore (dc_L_law_19 24 rfl) (by decide) (lo' := [(5, .int x285), (0, .ref 0), (1, .ref pC1), (2, .ref pC2), (3, .ref pC3), (4, .int xC4)]) rfl ?_
  refine r_aload_n (dc_L_law_19 25 rfl) rfl rfl ?_
  refine r_aload_n (dc_L_law_19 26 rfl) rfl rfl ?_
  refine r_iload (dc_L_law_19 27 rfl) rfl ?_
  refine r_iconst (dc_L_law_19 28 rfl) kiconst_1 ?_
  refine r_iadd (dc_L_law_19 29 rfl) ?_
  obtain ⟨x286, e0, h⟩ := Option.bind_eq_some_iff.mp h
  obtain ⟨hin, ex⟩ := sld_some e0
  refine r_sld (dc_L_law_19 30 rfl) hin ?_
  rw [← ex]
  refine r_aload_n (dc_L_law_19 31 rfl) rfl rfl ?_
  refine r_iload (dc_L_law_19 32 rfl) rfl ?_
  refine r_iconst (dc_L_law_19 33 rfl) kiconst_2 ?_
  refine r_iadd (dc_L_law_19 34 rfl) ?_
  obtain ⟨x287, e0, h⟩ := Option.bind_eq_some_iff.mp h
  obtain ⟨hin, ex⟩ := sld_some e0
  refine r_sld (dc_L_law_19 35 rfl) hin ?_
  rw [← ex]
  obtain ⟨x289, s288, e0, h⟩ := wb_some h
  refine r_callV (dc_L_law_19 36 rfl) mv_X10_unlike ml_RL_248 (As := [.int x286, .int x287]) (t_X10_unlike (d := d - 1) hl (by omega) e0) (by omega) rfl (Nat.le_of_ble_eq_true rfl) ?_
  refine r_istore (dc_L_law_19 37 rfl) (by decide) (lo' := [(6, .int x289), (5, .int x285), (0, .ref 0), (1, .ref pC1), (2, .ref pC2), (3, .ref pC3), (4, .int xC4)]) rfl ?_
  refine r_aload_n (dc_L_law_19 38 rfl) rfl rfl ?_
  obtain ⟨x290, e0, h⟩ := Option.bind_eq_some_iff.mp h
  refine r_callV (dc_L_law_19 39 rfl) mv_X10_thrown ml_RL_166 (As := []) (t_X10_thrown (d := d - 1) hl (by omega) e0) (by omega) rfl (Nat.le_of_ble_eq_true rfl) ?_
  refine r_iload (dc_L_law_19 40 rfl) rfl ?_
  refine r_icmp_eq (dc_L_law_19 41 rfl) (tgt := 2093) (by decide) (fun c0 => ?_) (fun c0 => ?_)
  · rw [if_pos c0] at h
    refine r_iload (dc_L_law_19 44 rfl) rfl ?_
    refine r_if_ne (dc_L_law_19 45 rfl) (tgt := 2110) (by decide) (fun c0 => ?_) (fun c0 => ?_)
    · rw [if_neg c0] at h
      refine r_goto (dc_L_law_19 55 rfl) (tgt := 3394) (by decide) ?_
      refine r_pick [2, 3, 4, 5, 6] (lo' := [(0, .ref 0), (1, .ref pC1), (2, .ref pC2), (3, .ref pC3), (4, .int xC4)]) rfl ?_
      exact hkJ _ h
    · rw [if_pos c0] at h
      refine r_aload_n (dc_L_law_19 46 rfl) rfl rfl ?_
      refine r_iconst (dc_L_law_19 47 rfl) kiconst_0 ?_
      obtain ⟨y291, e0, h⟩ := Option.bind_eq_some_iff.mp h
      refine r_lald (dc_L_law_19 48 rfl) e0 ?_
      refine r_iload (dc_L_law_19 49 rfl) rfl ?_
      refine r_i2l (dc_L_law_19 50 rfl) ?_
      refine r_lcmp (dc_L_law_19 51 rfl) ?_
      refine r_if_eq (dc_L_law_19 52 rfl) (tgt := 2110) (by decide) (fun c0 => ?_) (fun c0 => ?_)
      · rw [if_pos c0] at h
        refine r_goto (dc_L_law_19 55 rfl) (tgt := 3394) (by decide) ?_
        refine r_pick [2, 3, 4, 5, 6] (lo' := [(0, .ref 0), (1, .ref pC1), (2, .ref pC2), (3, .ref pC3), (4, .int xC4)]) rfl ?_
        exact hkJ _ h
      · rw [if_neg c0] at h
        refine r_iconst (dc_L_law_19 53 rfl) kiconst_0 ?_
        cases h
        exact r_zreturn (dc_L_law_19 54 rfl) rfl (Or.inl rfl)
  · rw [if_neg c0] at h
    refine r_iconst (dc_L_law_19 42 rfl) kiconst_0 ?_
    cases h
    exact r_zreturn (dc_L_law_19 43 rfl) rfl (Or.inl rfl)
theorem l_L_law_C26 {G : Gx} {d : Nat} (hl : G.1.stackTraces = false) (hd : 15 ≤ d) {pC1 : Nat} {pC2 : Nat} {pC3 : Nat} {xC4 : Int32} {sC : Sto} {r : (Int32 × Sto)} {kJ : Sto → Option (Int32 × Sto)} (hkJ : ∀ (sJ : Sto), kJ sJ = some r → J G d m_L_law 3394 [(0, .ref 0), (1, .ref pC1), (2, .ref pC2), (3, .ref pC3), (4, .int xC4)] [] sJ (.inl (some (.int r.1))) r.2) (h : F_L_law_C26 G.sl G.sx pC1 pC2 pC3 xC4 sC kJ = some r) : J G d m_L_law 2113 [(0, .ref 0), (1, .ref pC1), (2, .ref pC2), (3, .ref pC3), (4, .int xC4)] [] sC (.inl (some (.int r.1))) r.2 := by
  rw [F_L_law_C26] at h
  refine r_aload_n (dc_L_law_19 56 rfl) rfl rfl ?_
  refine r_aload_n (dc_L_law_19 57 rfl) rfl rfl ?_
  refine r_iload (dc_L_law_19 58 rfl) rfl ?_
  refine r_iconst (dc_L_law_19 59 rfl) kiconst_1 ?_
  refine r_iadd (dc_L_law_19 60 rfl) ?_
  obtain ⟨x292, e0, h⟩ := Option.bind_eq_some_iff.mp h
  obtain ⟨hin, ex⟩ := sld_some e0
  refine r_sld (dc_L_law_19 61 rfl) hin ?_
  rw [← ex]
  refine r_aload_n (dc_L_law_19 62 rfl) rfl rfl ?_
  refine r_iload (dc_L_law_19 63 rfl) rfl ?_
  refine r_iconst (dc_L_law_20 0 rfl) kiconst_2 ?_
  refine r_iadd (dc_L_law_20 1 rfl) ?_
  obtain ⟨x293, e0, h⟩ := Option.bind_eq_some_iff.mp h
  obtain ⟨hin, ex⟩ := sld_some e0
  refine r_sld (dc_L_law_20 2 rfl) hin ?_
  rw [← ex]
  refine r_aload_n (dc_L_law_20 3 rfl) rfl rfl ?_
  refine r_iload (dc_L_law_20 4 rfl) rfl ?_
  refine r_iconst (dc_L_law_20 5 rfl) kiconst_3 ?_
  refine r_iadd (dc_L_law_20 6 rfl) ?_
  obtain ⟨x294, e0, h⟩ := Option.bind_eq_some_iff.mp h
  obtain ⟨hin, ex⟩ := sld_some e0
  refine r_sld (dc_L_law_20 7 rfl) hin ?_
  rw [← ex]
  refine r_aload_n (dc_L_law_20 8 rfl) rfl rfl ?_
  obtain ⟨x296, s295, e0, h⟩ := wb_some h
  refine r_callSH (dc_L_law_20 9 rfl) mh_L_would ml_RL_249 (As := [.ref pC1, .int x292, .int x293, .int x294, .ref pC3]) (t_L_would (d := d - 1) hl (by omega) e0) (by omega) rfl (Nat.le_of_ble_eq_true rfl) ?_
  refine r_istore (dc_L_law_20 10 rfl) (by decide) (lo' := [(5, .int x296), (0, .ref 0), (1, .ref pC1), (2, .ref pC2), (3, .ref pC3), (4, .int xC4)]) rfl ?_
  refine r_aload_n (dc_L_law_20 11 rfl) rfl rfl ?_
  refine r_aload_n (dc_L_law_20 12 rfl) rfl rfl ?_
  refine r_iload (dc_L_law_20 13 rfl) rfl ?_
  refine r_iconst (dc_L_law_20 14 rfl) kiconst_1 ?_
  refine r_iadd (dc_L_law_20 15 rfl) ?_
  obtain ⟨x297, e0, h⟩ := Option.bind_eq_some_iff.mp h
  obtain ⟨hin, ex⟩ := sld_some e0
  refine r_sld (dc_L_law_20 16 rfl) hin ?_
  rw [← ex]
  refine r_aload_n (dc_L_law_20 17 rfl) rfl rfl ?_
  refine r_iload (dc_L_law_20 18 rfl) rfl ?_
  refine r_iconst (dc_L_law_20 19 rfl) kiconst_2 ?_
  refine r_iadd (dc_L_law_20 20 rfl) ?_
  obtain ⟨x298, e0, h⟩ := Option.bind_eq_some_iff.mp h
  obtain ⟨hin, ex⟩ := sld_some e0
  refine r_sld (dc_L_law_20 21 rfl) hin ?_
  rw [← ex]
  refine r_aload_n (dc_L_law_20 22 rfl) rfl rfl ?_
  refine r_iload (dc_L_law_20 23 rfl) rfl ?_
  refine r_iconst (dc_L_law_20 24 rfl) kiconst_3 ?_
  refine r_iadd (dc_L_law_20 25 rfl) ?_
  obtain ⟨x299, e0, h⟩ := Option.bind_eq_some_iff.mp h
  obtain ⟨hin, ex⟩ := sld_some e0
  refine r_sld (dc_L_law_20 26 rfl) hin ?_
  rw [← ex]
  obtain ⟨x301, s300, e0, h⟩ := wb_some h
  refine r_callV (dc_L_law_20 27 rfl) mv_X10_would ml_RL_251 (As := [.int x297, .int x298, .int x299]) (t_X10_would (d := d - 1) hl (by omega) e0) (by omega) rfl (Nat.le_of_ble_eq_true rfl) ?_
  refine r_istore (dc_L_law_20 28 rfl) (by decide) (lo' := [(6, .int x301), (5, .int x296), (0, .ref 0), (1, .ref pC1), (2, .ref pC2), (3, .ref pC3), (4, .int xC4)]) rfl ?_
  refine r_aload_n (dc_L_law_20 29 rfl) rfl rfl ?_
  obtain ⟨x302, e0, h⟩ := Option.bind_eq_some_iff.mp h
  refine r_callV (dc_L_law_20 30 rfl) mv_X10_thrown ml_RL_166 (As := []) (t_X10_thrown (d := d - 1) hl (by omega) e0) (by omega) rfl (Nat.le_of_ble_eq_true rfl) ?_
  refine r_iload (dc_L_law_20 31 rfl) rfl ?_
  refine r_icmp_eq (dc_L_law_20 32 rfl) (tgt := 2173) (by decide) (fun c0 => ?_) (fun c0 => ?_)
  · rw [if_pos c0] at h
    refine r_iload (dc_L_law_20 35 rfl) rfl ?_
    refine r_if_ne (dc_L_law_20 36 rfl) (tgt := 2190) (by decide) (fun c0 => ?_) (fun c0 => ?_)
    · rw [if_neg c0] at h
      refine r_goto (dc_L_law_20 46 rfl) (tgt := 3394) (by decide) ?_
      refine r_pick [2, 3, 4, 5, 6] (lo' := [(0, .ref 0), (1, .ref pC1), (2, .ref pC2), (3, .ref pC3), (4, .int xC4)]) rfl ?_
      exact hkJ _ h
    · rw [if_pos c0] at h
      refine r_aload_n (dc_L_law_20 37 rfl) rfl rfl ?_
      refine r_iconst (dc_L_law_20 38 rfl) kiconst_0 ?_
      obtain ⟨y303, e0, h⟩ := Option.bind_eq_some_iff.mp h
      refine r_lald (dc_L_law_20 39 rfl) e0 ?_
      refine r_iload (dc_L_law_20 40 rfl) rfl ?_
      refine r_i2l (dc_L_law_20 41 rfl) ?_
      refine r_lcmp (dc_L_law_20 42 rfl) ?_
      refine r_if_eq (dc_L_law_20 43 rfl) (tgt := 2190) (by decide) (fun c0 => ?_) (fun c0 => ?_)
      · rw [if_pos c0] at h
        refine r_goto (dc_L_law_20 46 rfl) (tgt := 3394) (by decide) ?_
        refine r_pick [2, 3, 4, 5, 6] (lo' := [(0, .ref 0), (1, .ref pC1), (2, .ref pC2), (3, .ref pC3), (4, .int xC4)]) rfl ?_
        exact hkJ _ h
      · rw [if_neg c0] at h
        refine r_iconst (dc_L_law_20 44 rfl) kiconst_0 ?_
        cases h
        exact r_zreturn (dc_L_law_20 45 rfl) rfl (Or.inl rfl)
  · rw [if_neg c0] at h
    refine r_iconst (dc_L_law_20 33 rfl) kiconst_0 ?_
    cases h
    exact r_zreturn (dc_L_law_20 34 rfl) rfl (Or.inl rfl)
theorem l_L_law_C27 {G : Gx} {d : Nat} (hl : G.1.stackTraces = false) (hd : 15 ≤ d) {pC1 : Nat} {pC2 : Nat} {pC3 : Nat} {xC4 : Int32} {sC : Sto} {r : (Int32 × Sto)} {kJ : Sto → Option (Int32 × Sto)} (hkJ : ∀ (sJ : Sto), kJ sJ = some r → J G d m_L_law 3394 [(0, .ref 0), (1, .ref pC1), (2, .ref pC2), (3, .ref pC3), (4, .int xC4)] [] sJ (.inl (some (.int r.1))) r.2) (h : F_L_law_C27 G.sl G.sx pC1 pC2 pC3 xC4 sC kJ = some r) : J G d m_L_law 2193 [(0, .ref 0), (1, .ref pC1), (2, .ref pC2), (3, .ref pC3), (4, .int xC4)] [] sC (.inl (some (.int r.1))) r.2 := by
  rw [F_L_law_C27] at h
  refine r_aload_n (dc_L_law_20 47 rfl) rfl rfl ?_
  refine r_aload_n (dc_L_law_20 48 rfl) rfl rfl ?_
  refine r_iload (dc_L_law_20 49 rfl) rfl ?_
  refine r_iconst (dc_L_law_20 50 rfl) kiconst_1 ?_
  refine r_iadd (dc_L_law_20 51 rfl) ?_
  obtain ⟨x304, e0, h⟩ := Option.bind_eq_some_iff.mp h
  obtain ⟨hin, ex⟩ := sld_some e0
  refine r_sld (dc_L_law_20 52 rfl) hin ?_
  rw [← ex]
  refine r_aload_n (dc_L_law_20 53 rfl) rfl rfl ?_
  refine r_iload (dc_L_law_20 54 rfl) rfl ?_
  refine r_iconst (dc_L_law_20 55 rfl) kiconst_2 ?_
  refine r_iadd (dc_L_law_20 56 rfl) ?_
  obtain ⟨x305, e0, h⟩ := Option.bind_eq_some_iff.mp h
  obtain ⟨hin, ex⟩ := sld_some e0
  refine r_sld (dc_L_law_20 57 rfl) hin ?_
  rw [← ex]
  refine r_aload_n (dc_L_law_20 58 rfl) rfl rfl ?_
  obtain ⟨x307, s306, e0, h⟩ := wb_some h
  refine r_callSH (dc_L_law_20 59 rfl) mh_L_event ml_RL_252 (As := [.ref pC1, .int x304, .int x305, .ref pC3]) (t_L_event (d := d - 1) hl (by omega) e0) (by omega) rfl (Nat.le_of_ble_eq_true rfl) ?_
  refine r_istore (dc_L_law_20 60 rfl) (by decide) (lo' := [(5, .int x307), (0, .ref 0), (1, .ref pC1), (2, .ref pC2), (3, .ref pC3), (4, .int xC4)]) rfl ?_
  refine r_aload_n (dc_L_law_20 61 rfl) rfl rfl ?_
  refine r_aload_n (dc_L_law_20 62 rfl) rfl rfl ?_
  refine r_iload (dc_L_law_20 63 rfl) rfl ?_
  refine r_iconst (dc_L_law_21 0 rfl) kiconst_1 ?_
  refine r_iadd (dc_L_law_21 1 rfl) ?_
  obtain ⟨x308, e0, h⟩ := Option.bind_eq_some_iff.mp h
  obtain ⟨hin, ex⟩ := sld_some e0
  refine r_sld (dc_L_law_21 2 rfl) hin ?_
  rw [← ex]
  refine r_aload_n (dc_L_law_21 3 rfl) rfl rfl ?_
  refine r_iload (dc_L_law_21 4 rfl) rfl ?_
  refine r_iconst (dc_L_law_21 5 rfl) kiconst_2 ?_
  refine r_iadd (dc_L_law_21 6 rfl) ?_
  obtain ⟨x309, e0, h⟩ := Option.bind_eq_some_iff.mp h
  obtain ⟨hin, ex⟩ := sld_some e0
  refine r_sld (dc_L_law_21 7 rfl) hin ?_
  rw [← ex]
  obtain ⟨x311, s310, e0, h⟩ := wb_some h
  refine r_callV (dc_L_law_21 8 rfl) mv_X10_event ml_RL_254 (As := [.int x308, .int x309]) (t_X10_event (d := d - 1) hl (by omega) e0) (by omega) rfl (Nat.le_of_ble_eq_true rfl) ?_
  refine r_istore (dc_L_law_21 9 rfl) (by decide) (lo' := [(6, .int x311), (5, .int x307), (0, .ref 0), (1, .ref pC1), (2, .ref pC2), (3, .ref pC3), (4, .int xC4)]) rfl ?_
  refine r_aload_n (dc_L_law_21 10 rfl) rfl rfl ?_
  obtain ⟨x312, e0, h⟩ := Option.bind_eq_some_iff.mp h
  refine r_callV (dc_L_law_21 11 rfl) mv_X10_thrown ml_RL_166 (As := []) (t_X10_thrown (d := d - 1) hl (by omega) e0) (by omega) rfl (Nat.le_of_ble_eq_true rfl) ?_
  refine r_iload (dc_L_law_21 12 rfl) rfl ?_
  refine r_icmp_eq (dc_L_law_21 13 rfl) (tgt := 2241) (by decide) (fun c0 => ?_) (fun c0 => ?_)
  · rw [if_pos c0] at h
    refine r_iload (dc_L_law_21 16 rfl) rfl ?_
    refine r_if_ne (dc_L_law_21 17 rfl) (tgt := 2258) (by decide) (fun c0 => ?_) (fun c0 => ?_)
    · rw [if_neg c0] at h
      refine r_goto (dc_L_law_21 27 rfl) (tgt := 3394) (by decide) ?_
      refine r_pick [2, 3, 4, 5, 6] (lo' := [(0, .ref 0), (1, .ref pC1), (2, .ref pC2), (3, .ref pC3), (4, .int xC4)]) rfl ?_
      exact hkJ _ h
    · rw [if_pos c0] at h
      refine r_aload_n (dc_L_law_21 18 rfl) rfl rfl ?_
      refine r_iconst (dc_L_law_21 19 rfl) kiconst_0 ?_
      obtain ⟨y313, e0, h⟩ := Option.bind_eq_some_iff.mp h
      refine r_lald (dc_L_law_21 20 rfl) e0 ?_
      refine r_iload (dc_L_law_21 21 rfl) rfl ?_
      refine r_i2l (dc_L_law_21 22 rfl) ?_
      refine r_lcmp (dc_L_law_21 23 rfl) ?_
      refine r_if_eq (dc_L_law_21 24 rfl) (tgt := 2258) (by decide) (fun c0 => ?_) (fun c0 => ?_)
      · rw [if_pos c0] at h
        refine r_goto (dc_L_law_21 27 rfl) (tgt := 3394) (by decide) ?_
        refine r_pick [2, 3, 4, 5, 6] (lo' := [(0, .ref 0), (1, .ref pC1), (2, .ref pC2), (3, .ref pC3), (4, .int xC4)]) rfl ?_
        exact hkJ _ h
      · rw [if_neg c0] at h
        refine r_iconst (dc_L_law_21 25 rfl) kiconst_0 ?_
        cases h
        exact r_zreturn (dc_L_law_21 26 rfl) rfl (Or.inl rfl)
  · rw [if_neg c0] at h
    refine r_iconst (dc_L_law_21 14 rfl) kiconst_0 ?_
    cases h
    exact r_zreturn (dc_L_law_21 15 rfl) rfl (Or.inl rfl)
theorem l_L_law_C28 {G : Gx} {d : Nat} (hl : G.1.stackTraces = false) (hd : 15 ≤ d) {pC1 : Nat} {pC2 : Nat} {pC3 : Nat} {xC4 : Int32} {sC : Sto} {r : (Int32 × Sto)} {kJ : Sto → Option (Int32 × Sto)} (hkJ : ∀ (sJ : Sto), kJ sJ = some r → J G d m_L_law 3394 [(0, .ref 0), (1, .ref pC1), (2, .ref pC2), (3, .ref pC3), (4, .int xC4)] [] sJ (.inl (some (.int r.1))) r.2) (h : F_L_law_C28 G.sl G.sx pC1 pC2 pC3 xC4 sC kJ = some r) : J G d m_L_law 2261 [(0, .ref 0), (1, .ref pC1), (2, .ref pC2), (3, .ref pC3), (4, .int xC4)] [] sC (.inl (some (.int r.1))) r.2 := by
  rw [F_L_law_C28] at h
  refine r_aload_n (dc_L_law_21 28 rfl) rfl rfl ?_
  refine r_aload_n (dc_L_law_21 29 rfl) rfl rfl ?_
  refine r_iload (dc_L_law_21 30 rfl) rfl ?_
  refine r_iconst (dc_L_law_21 31 rfl) kiconst_1 ?_
  refine r_iadd (dc_L_law_21 32 rfl) ?_
  obtain ⟨x314, e0, h⟩ := Option.bind_eq_some_iff.mp h
  obtain ⟨hin, ex⟩ := sld_some e0
  refine r_sld (dc_L_law_21 33 rfl) hin ?_
  rw [← ex]
  refine r_aload_n (dc_L_law_21 34 rfl) rfl rfl ?_
  refine r_iload (dc_L_law_21 35 rfl) rfl ?_
  refine r_iconst (dc_L_law_21 36 rfl) kiconst_2 ?_
  refine r_iadd (dc_L_law_21 37 rfl) ?_
  obtain ⟨x315, e0, h⟩ := Option.bind_eq_some_iff.mp h
  obtain ⟨hin, ex⟩ := sld_some e0
  refine r_sld (dc_L_law_21 38 rfl) hin ?_
  rw [← ex]
  refine r_aload_n (dc_L_law_21 39 rfl) rfl rfl ?_
  obtain ⟨x317, s316, e0, h⟩ := wb_some h
  refine r_callSH (dc_L_law_21 40 rfl) mh_L_ahead ml_RL_255 (As := [.ref pC1, .int x314, .int x315, .ref pC3]) (t_L_ahead (d := d - 1) hl (by omega) e0) (by omega) rfl (Nat.le_of_ble_eq_true rfl) ?_
  refine r_istore (dc_L_law_21 41 rfl) (by decide) (lo' := [(5, .int x317), (0, .ref 0), (1, .ref pC1), (2, .ref pC2), (3, .ref pC3), (4, .int xC4)]) rfl ?_
  refine r_aload_n (dc_L_law_21 42 rfl) rfl rfl ?_
  refine r_aload_n (dc_L_law_21 43 rfl) rfl rfl ?_
  refine r_iload (dc_L_law_21 44 rfl) rfl ?_
  refine r_iconst (dc_L_law_21 45 rfl) kiconst_1 ?_
  refine r_iadd (dc_L_law_21 46 rfl) ?_
  obtain ⟨x318, e0, h⟩ := Option.bind_eq_some_iff.mp h
  obtain ⟨hin, ex⟩ := sld_some e0
  refine r_sld (dc_L_law_21 47 rfl) hin ?_
  rw [← ex]
  refine r_aload_n (dc_L_law_21 48 rfl) rfl rfl ?_
  refine r_iload (dc_L_law_21 49 rfl) rfl ?_
  refine r_iconst (dc_L_law_21 50 rfl) kiconst_2 ?_
  refine r_iadd (dc_L_law_21 51 rfl) ?_
  obtain ⟨x319, e0, h⟩ := Option.bind_eq_some_iff.mp h
  obtain ⟨hin, ex⟩ := sld_some e0
  refine r_sld (dc_L_law_21 52 rfl) hin ?_
  rw [← ex]
  obtain ⟨x321, s320, e0, h⟩ := wb_some h
  refine r_callV (dc_L_law_21 53 rfl) mv_X10_ahead ml_RL_257 (As := [.int x318, .int x319]) (t_X10_ahead (d := d - 1) hl (by omega) e0) (by omega) rfl (Nat.le_of_ble_eq_true rfl) ?_
  refine r_istore (dc_L_law_21 54 rfl) (by decide) (lo' := [(6, .int x321), (5, .int x317), (0, .ref 0), (1, .ref pC1), (2, .ref pC2), (3, .ref pC3), (4, .int xC4)]) rfl ?_
  refine r_aload_n (dc_L_law_21 55 rfl) rfl rfl ?_
  obtain ⟨x322, e0, h⟩ := Option.bind_eq_some_iff.mp h
  refine r_callV (dc_L_law_21 56 rfl) mv_X10_thrown ml_RL_166 (As := []) (t_X10_thrown (d := d - 1) hl (by omega) e0) (by omega) rfl (Nat.le_of_ble_eq_true rfl) ?_
  refine r_iload (dc_L_law_21 57 rfl) rfl ?_
  refine r_icmp_eq (dc_L_law_21 58 rfl) (tgt := 2309) (by decide) (fun c0 => ?_) (fun c0 => ?_)
  · rw [if_pos c0] at h
    refine r_iload (dc_L_law_21 61 rfl) rfl ?_
    refine r_if_ne (dc_L_law_21 62 rfl) (tgt := 2333) (by decide) (fun c0 => ?_) (fun c0 => ?_)
    · rw [if_neg c0] at h
      refine r_goto (dc_L_law_22 11 rfl) (tgt := 3394) (by decide) ?_
      refine r_pick [2, 3, 4, 5, 6] (lo' := [(0, .ref 0), (1, .ref pC1), (2, .ref pC2), (3, .ref pC3), (4, .int xC4)]) rfl ?_
      exact hkJ _ h
    · rw [if_pos c0] at h
      refine r_aload_n (dc_L_law_21 63 rfl) rfl rfl ?_
      refine r_iconst (dc_L_law_22 0 rfl) kiconst_0 ?_
      obtain ⟨y323, e0, h⟩ := Option.bind_eq_some_iff.mp h
      refine r_lald (dc_L_law_22 1 rfl) e0 ?_
      refine r_iload (dc_L_law_22 2 rfl) rfl ?_
      refine jn_elim h (Q := fun (j : Int64 → Option (Int32 × Sto)) => ∀ (y325 : Int64), j y325 = some r → J G d m_L_law 2327 [(0, .ref 0), (1, .ref pC1), (2, .ref pC2), (3, .ref pC3), (4, .int xC4)] [.long y325, .long y323] s320 (.inl (some (.int r.1))) r.2) ?_ (fun j324 hj324 h => ?_)
      · intro y325 h
        refine r_lcmp (dc_L_law_22 7 rfl) ?_
        refine r_if_eq (dc_L_law_22 8 rfl) (tgt := 2333) (by decide) (fun c0 => ?_) (fun c0 => ?_)
        · rw [if_pos c0] at h
          refine r_goto (dc_L_law_22 11 rfl) (tgt := 3394) (by decide) ?_
          exact hkJ _ h
        · rw [if_neg c0] at h
          refine r_iconst (dc_L_law_22 9 rfl) kiconst_0 ?_
          cases h
          exact r_zreturn (dc_L_law_22 10 rfl) rfl (Or.inl rfl)
      refine r_if_eq (dc_L_law_22 3 rfl) (tgt := 2326) (by decide) (fun c0 => ?_) (fun c0 => ?_)
      · rw [if_pos c0] at h
        refine r_lconst (dc_L_law_22 6 rfl) klconst_0 ?_
        refine r_pick [2, 3, 4, 5, 6] (lo' := [(0, .ref 0), (1, .ref pC1), (2, .ref pC2), (3, .ref pC3), (4, .int xC4)]) rfl ?_
        exact hj324 _ h
      · rw [if_neg c0] at h
        refine r_lconst (dc_L_law_22 4 rfl) klconst_1 ?_
        refine r_goto (dc_L_law_22 5 rfl) (tgt := 2327) (by decide) ?_
        refine r_pick [2, 3, 4, 5, 6] (lo' := [(0, .ref 0), (1, .ref pC1), (2, .ref pC2), (3, .ref pC3), (4, .int xC4)]) rfl ?_
        exact hj324 _ h
  · rw [if_neg c0] at h
    refine r_iconst (dc_L_law_21 59 rfl) kiconst_0 ?_
    cases h
    exact r_zreturn (dc_L_law_21 60 rfl) rfl (Or.inl rfl)
theorem l_L_law_C29 {G : Gx} {d : Nat} (hl : G.1.stackTraces = false) (hd : 15 ≤ d) {pC1 : Nat} {pC2 : Nat} {pC3 : Nat} {xC4 : Int32} {sC : Sto} {r : (Int32 × Sto)} {kJ : Sto → Option (Int32 × Sto)} (hkJ : ∀ (sJ : Sto), kJ sJ = some r → J G d m_L_law 3394 [(0, .ref 0), (1, .ref pC1), (2, .ref pC2), (3, .ref pC3), (4, .int xC4)] [] sJ (.inl (some (.int r.1))) r.2) (h : F_L_law_C29 G.sl G.sx pC1 pC2 pC3 xC4 sC kJ = some r) : J G d m_L_law 2336 [(0, .ref 0), (1, .ref pC1), (2, .ref pC2), (3, .ref pC3), (4, .int xC4)] [] sC (.inl (some (.int r.1))) r.2 := by
  rw [F_L_law_C29] at h
  refine r_aload_n (dc_L_law_22 12 rfl) rfl rfl ?_
  refine r_aload_n (dc_L_law_22 13 rfl) rfl rfl ?_
  refine r_iload (dc_L_law_22 14 rfl) rfl ?_
  refine r_iconst (dc_L_law_22 15 rfl) kiconst_1 ?_
  refine r_iadd (dc_L_law_22 16 rfl) ?_
  obtain ⟨x326, e0, h⟩ := Option.bind_eq_some_iff.mp h
  obtain ⟨hin, ex⟩ := sld_some e0
  refine r_sld (dc_L_law_22 17 rfl) hin ?_
  rw [← ex]
  refine r_aload_n (dc_L_law_22 18 rfl) rfl rfl ?_
  obtain ⟨x328, s327, e0, h⟩ := wb_some h
  refine r_callSH (dc_L_law_22 19 rfl) mh_L_wide ml_RL_258 (As := [.ref pC1, .int x326, .ref pC3]) (t_L_wide (d := d - 1) hl (by omega) e0) (by omega) rfl (Nat.le_of_ble_eq_true rfl) ?_
  refine r_istore (dc_L_law_22 20 rfl) (by decide) (lo' := [(5, .int x328), (0, .ref 0), (1, .ref pC1), (2, .ref pC2), (3, .ref pC3), (4, .int xC4)]) rfl ?_
  refine r_aload_n (dc_L_law_22 21 rfl) rfl rfl ?_
  refine r_aload_n (dc_L_law_22 22 rfl) rfl rfl ?_
  refine r_iload (dc_L_law_22 23 rfl) rfl ?_
  refine r_iconst (dc_L_law_22 24 rfl) kiconst_1 ?_
  refine r_iadd (dc_L_law_22 25 rfl) ?_
  obtain ⟨x329, e0, h⟩ := Option.bind_eq_some_iff.mp h
  obtain ⟨hin, ex⟩ := sld_some e0
  refine r_sld (dc_L_law_22 26 rfl) hin ?_
  rw [← ex]
  obtain ⟨x331, s330, e0, h⟩ := wb_some h
  refine r_callV (dc_L_law_22 27 rfl) mv_X10_wide ml_RL_260 (As := [.int x329]) (t_X10_wide (d := d - 1) hl (by omega) e0) (by omega) rfl (Nat.le_of_ble_eq_true rfl) ?_
  refine r_istore (dc_L_law_22 28 rfl) (by decide) (lo' := [(6, .int x331), (5, .int x328), (0, .ref 0), (1, .ref pC1), (2, .ref pC2), (3, .ref pC3), (4, .int xC4)]) rfl ?_
  refine r_aload_n (dc_L_law_22 29 rfl) rfl rfl ?_
  obtain ⟨x332, e0, h⟩ := Option.bind_eq_some_iff.mp h
  refine r_callV (dc_L_law_22 30 rfl) mv_X10_thrown ml_RL_166 (As := []) (t_X10_thrown (d := d - 1) hl (by omega) e0) (by omega) rfl (Nat.le_of_ble_eq_true rfl) ?_
  refine r_iload (dc_L_law_22 31 rfl) rfl ?_
  refine r_icmp_eq (dc_L_law_22 32 rfl) (tgt := 2372) (by decide) (fun c0 => ?_) (fun c0 => ?_)
  · rw [if_pos c0] at h
    refine r_iload (dc_L_law_22 35 rfl) rfl ?_
    refine r_if_ne (dc_L_law_22 36 rfl) (tgt := 2389) (by decide) (fun c0 => ?_) (fun c0 => ?_)
    · rw [if_neg c0] at h
      refine r_goto (dc_L_law_22 46 rfl) (tgt := 3394) (by decide) ?_
      refine r_pick [2, 3, 4, 5, 6] (lo' := [(0, .ref 0), (1, .ref pC1), (2, .ref pC2), (3, .ref pC3), (4, .int xC4)]) rfl ?_
      exact hkJ _ h
    · rw [if_pos c0] at h
      refine r_aload_n (dc_L_law_22 37 rfl) rfl rfl ?_
      refine r_iconst (dc_L_law_22 38 rfl) kiconst_0 ?_
      obtain ⟨y333, e0, h⟩ := Option.bind_eq_some_iff.mp h
      refine r_lald (dc_L_law_22 39 rfl) e0 ?_
      refine r_iload (dc_L_law_22 40 rfl) rfl ?_
      refine r_i2l (dc_L_law_22 41 rfl) ?_
      refine r_lcmp (dc_L_law_22 42 rfl) ?_
      refine r_if_eq (dc_L_law_22 43 rfl) (tgt := 2389) (by decide) (fun c0 => ?_) (fun c0 => ?_)
      · rw [if_pos c0] at h
        refine r_goto (dc_L_law_22 46 rfl) (tgt := 3394) (by decide) ?_
        refine r_pick [2, 3, 4, 5, 6] (lo' := [(0, .ref 0), (1, .ref pC1), (2, .ref pC2), (3, .ref pC3), (4, .int xC4)]) rfl ?_
        exact hkJ _ h
      · rw [if_neg c0] at h
        refine r_iconst (dc_L_law_22 44 rfl) kiconst_0 ?_
        cases h
        exact r_zreturn (dc_L_law_22 45 rfl) rfl (Or.inl rfl)
  · rw [if_neg c0] at h
    refine r_iconst (dc_L_law_22 33 rfl) kiconst_0 ?_
    cases h
    exact r_zreturn (dc_L_law_22 34 rfl) rfl (Or.inl rfl)
