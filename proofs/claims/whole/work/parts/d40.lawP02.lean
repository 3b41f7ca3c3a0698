theorem l_L_law_C5 {G : Gx} {d : Nat} (hl : G.1.stackTraces = false) (hd : 15 ≤ d) {pC1 : Nat} {pC2 : Nat} {pC3 : Nat} {xC4 : Int32} {sC : Sto} {r : (Int32 × Sto)} {kJ : Sto → Option (Int32 × Sto)} (hkJ : ∀ (sJ : Sto), kJ sJ = some r → J G d m_L_law 3394 [(0, .ref 0), (1, .ref pC1), (2, .ref pC2), (3, .ref pC3), (4, .int xC4)] [] sJ (.inl (some (.int r.1))) r.2) (h : F_L_law_C5 G.sl G.sx pC1 pC2 pC3 xC4 sC kJ = some r) : J G d m_L_law 552 [(0, .ref 0), (1, .ref pC1), (2, .ref pC2), (3, .ref pC3), (4, .int xC4)] [] sC (.inl (some (.int r.1))) r.2 := by
  rw [F_L_law_C5] at h
  refine r_aload_n (dc_L_law_3 38 rfl) rfl rfl ?_
  refine r_aload_n (dc_L_law_3 39 rfl) rfl rfl ?_
  refine r_iload (dc_L_law_3 40 rfl) rfl ?_
  refine r_iconst (dc_L_law_3 41 rfl) kiconst_1 ?_
  refine r_iadd (dc_L_law_3 42 rfl) ?_
  obtain ⟨x56, e0, h⟩ := Option.bind_eq_some_iff.mp h
  obtain ⟨hin, ex⟩ := sld_some e0
  refine r_sld (dc_L_law_3 43 rfl) hin ?_
  rw [← ex]
  refine r_aload_n (dc_L_law_3 44 rfl) rfl rfl ?_
  refine r_iload (dc_L_law_3 45 rfl) rfl ?_
  refine r_iconst (dc_L_law_3 46 rfl) kiconst_2 ?_
  refine r_iadd (dc_L_law_3 47 rfl) ?_
  obtain ⟨x57, e0, h⟩ := Option.bind_eq_some_iff.mp h
  obtain ⟨hin, ex⟩ := sld_some e0
  refine r_sld (dc_L_law_3 48 rfl) hin ?_
  rw [← ex]
  refine r_aload_n (dc_L_law_3 49 rfl) rfl rfl ?_
  refine r_iload (dc_L_law_3 50 rfl) rfl ?_
  refine r_iconst (dc_L_law_3 51 rfl) kiconst_3 ?_
  refine r_iadd (dc_L_law_3 52 rfl) ?_
  obtain ⟨x58, e0, h⟩ := Option.bind_eq_some_iff.mp h
  obtain ⟨hin, ex⟩ := sld_some e0
  refine r_sld (dc_L_law_3 53 rfl) hin ?_
  rw [← ex]
  refine r_aload_n (dc_L_law_3 54 rfl) rfl rfl ?_
  obtain ⟨x60, s59, e0, h⟩ := wb_some h
  refine r_callSH (dc_L_law_3 55 rfl) mh_L_come ml_RL_183 (As := [.ref pC1, .int x56, .int x57, .int x58, .ref pC3]) (t_L_come (d := d - 1) hl (by omega) e0) (by omega) rfl (Nat.le_of_ble_eq_true rfl) ?_
  refine r_istore (dc_L_law_3 56 rfl) (by decide) (lo' := [(5, .int x60), (0, .ref 0), (1, .ref pC1), (2, .ref pC2), (3, .ref pC3), (4, .int xC4)]) rfl ?_
  refine r_aload_n (dc_L_law_3 57 rfl) rfl rfl ?_
  refine r_aload_n (dc_L_law_3 58 rfl) rfl rfl ?_
  refine r_iload (dc_L_law_3 59 rfl) rfl ?_
  refine r_iconst (dc_L_law_3 60 rfl) kiconst_1 ?_
  refine r_iadd (dc_L_law_3 61 rfl) ?_
  obtain ⟨x61, e0, h⟩ := Option.bind_eq_some_iff.mp h
  obtain ⟨hin, ex⟩ := sld_some e0
  refine r_sld (dc_L_law_3 62 rfl) hin ?_
  rw [← ex]
  refine r_aload_n (dc_L_law_3 63 rfl) rfl rfl ?_
  refine r_iload (dc_L_law_4 0 rfl) rfl ?_
  refine r_iconst (dc_L_law_4 1 rfl) kiconst_2 ?_
  refine r_iadd (dc_L_law_4 2 rfl) ?_
  obtain ⟨x62, e0, h⟩ := Option.bind_eq_some_iff.mp h
  obtain ⟨hin, ex⟩ := sld_some e0
  refine r_sld (dc_L_law_4 3 rfl) hin ?_
  rw [← ex]
  refine r_aload_n (dc_L_law_4 4 rfl) rfl rfl ?_
  refine r_iload (dc_L_law_4 5 rfl) rfl ?_
  refine r_iconst (dc_L_law_4 6 rfl) kiconst_3 ?_
  refine r_iadd (dc_L_law_4 7 rfl) ?_
  obtain ⟨x63, e0, h⟩ := Option.bind_eq_some_iff.mp h
  obtain ⟨hin, ex⟩ := sld_some e0
  refine r_sld (dc_L_law_4 8 rfl) hin ?_
  rw [← ex]
  obtain ⟨x65, s64, e0, h⟩ := wb_some h
  refine r_callV (dc_L_law_4 9 rfl) mv_X10_come ml_RL_186 (As := [.int x61, .int x62, .int x63]) (t_X10_come (d := d - 1) hl (by omega) e0) (by omega) rfl (Nat.le_of_ble_eq_true rfl) ?_
  refine r_istore (dc_L_law_4 10 rfl) (by decide) (lo' := [(6, .int x65), (5, .int x60), (0, .ref 0), (1, .ref pC1), (2, .ref pC2), (3, .ref pC3), (4, .int xC4)]) rfl ?_
  refine r_aload_n (dc_L_law_4 11 rfl) rfl rfl ?_
  obtain ⟨x66, e0, h⟩ := Option.bind_eq_some_iff.mp h
  refine r_callV (dc_L_law_4 12 rfl) mv_X10_thrown ml_RL_166 (As := []) (t_X10_thrown (d := d - 1) hl (by omega) e0) (by omega) rfl (Nat.le_of_ble_eq_true rfl) ?_
  refine r_iload (dc_L_law_4 13 rfl) rfl ?_
  refine r_icmp_eq (dc_L_law_4 14 rfl) (tgt := 612) (by decide) (fun c0 => ?_) (fun c0 => ?_)
  · rw [if_pos c0] at h
    refine r_iload (dc_L_law_4 17 rfl) rfl ?_
    refine r_if_ne (dc_L_law_4 18 rfl) (tgt := 629) (by decide) (fun c0 => ?_) (fun c0 => ?_)
    · rw [if_neg c0] at h
      refine r_goto (dc_L_law_4 28 rfl) (tgt := 3394) (by decide) ?_
      refine r_pick [2, 3, 4, 5, 6] (lo' := [(0, .ref 0), (1, .ref pC1), (2, .ref pC2), (3, .ref pC3), (4, .int xC4)]) rfl ?_
      exact hkJ _ h
    · rw [if_pos c0] at h
      refine r_aload_n (dc_L_law_4 19 rfl) rfl rfl ?_
      refine r_iconst (dc_L_law_4 20 rfl) kiconst_0 ?_
      obtain ⟨y67, e0, h⟩ := Option.bind_eq_some_iff.mp h
      refine r_lald (dc_L_law_4 21 rfl) e0 ?_
      refine r_iload (dc_L_law_4 22 rfl) rfl ?_
      refine r_i2l (dc_L_law_4 23 rfl) ?_
      refine r_lcmp (dc_L_law_4 24 rfl) ?_
      refine r_if_eq (dc_L_law_4 25 rfl) (tgt := 629) (by decide) (fun c0 => ?_) (fun c0 => ?_)
      · rw [if_pos c0] at h
        refine r_goto (dc_L_law_4 28 rfl) (tgt := 3394) (by decide) ?_
        refine r_pick [2, 3, 4, 5, 6] (lo' := [(0, .ref 0), (1, .ref pC1), (2, .ref pC2), (3, .ref pC3), (4, .int xC4)]) rfl ?_
        exact hkJ _ h
      · rw [if_neg c0] at h
        refine r_iconst (dc_L_law_4 26 rfl) kiconst_0 ?_
        cases h
        exact r_zreturn (dc_L_law_4 27 rfl) rfl (Or.inl rfl)
  · rw [if_neg c0] at h
    refine r_iconst (dc_L_law_4 15 rfl) kiconst_0 ?_
    cases h
    exact r_zreturn (dc_L_law_4 16 rfl) rfl (Or.inl rfl)
theorem l_L_law_C6 {G : Gx} {d : Nat} (hl : G.1.stackTraces = false) (hd : 15 ≤ d) {pC1 : Nat} {pC2 : Nat} {pC3 : Nat} {xC4 : Int32} {sC : Sto} {r : (Int32 × Sto)} {kJ : Sto → Option (Int32 × Sto)} (hkJ : ∀ (sJ : Sto), kJ sJ = some r → J G d m_L_law 3394 [(0, .ref 0), (1, .ref pC1), (2, .ref pC2), (3, .ref pC3), (4, .int xC4)] [] sJ (.inl (some (.int r.1))) r.2) (h : F_L_law_C6 G.sl G.sx pC1 pC2 pC3 xC4 sC kJ = some r) : J G d m_L_law 632 [(0, .ref 0), (1, .ref pC1), (2, .ref pC2), (3, .ref pC3), (4, .int xC4)] [] sC (.inl (some (.int r.1))) r.2 := by
  rw [F_L_law_C6] at h
  refine r_aload_n (dc_L_law_4 29 rfl) rfl rfl ?_
  refine r_aload_n (dc_L_law_4 30 rfl) rfl rfl ?_
  refine r_iload (dc_L_law_4 31 rfl) rfl ?_
  refine r_iconst (dc_L_law_4 32 rfl) kiconst_1 ?_
  refine r_iadd (dc_L_law_4 33 rfl) ?_
  obtain ⟨x68, e0, h⟩ := Option.bind_eq_some_iff.mp h
  obtain ⟨hin, ex⟩ := sld_some e0
  refine r_sld (dc_L_law_4 34 rfl) hin ?_
  rw [← ex]
  refine r_aload_n (dc_L_law_4 35 rfl) rfl rfl ?_
  refine r_iload (dc_L_law_4 36 rfl) rfl ?_
  refine r_iconst (dc_L_law_4 37 rfl) kiconst_2 ?_
  refine r_iadd (dc_L_law_4 38 rfl) ?_
  obtain ⟨x69, e0, h⟩ := Option.bind_eq_some_iff.mp h
  obtain ⟨hin, ex⟩ := sld_some e0
  refine r_sld (dc_L_law_4 39 rfl) hin ?_
  rw [← ex]
  refine r_aload_n (dc_L_law_4 40 rfl) rfl rfl ?_
  refine r_iload (dc_L_law_4 41 rfl) rfl ?_
  refine r_iconst (dc_L_law_4 42 rfl) kiconst_3 ?_
  refine r_iadd (dc_L_law_4 43 rfl) ?_
  obtain ⟨x70, e0, h⟩ := Option.bind_eq_some_iff.mp h
  obtain ⟨hin, ex⟩ := sld_some e0
  refine r_sld (dc_L_law_4 44 rfl) hin ?_
  rw [← ex]
  refine r_aload_n (dc_L_law_4 45 rfl) rfl rfl ?_
  obtain ⟨x72, s71, e0, h⟩ := wb_some h
  refine r_callSH (dc_L_law_4 46 rfl) mh_L_lose ml_RL_187 (As := [.ref pC1, .int x68, .int x69, .int x70, .ref pC3]) (t_L_lose (d := d - 1) hl (by omega) e0) (by omega) rfl (Nat.le_of_ble_eq_true rfl) ?_
  refine r_istore (dc_L_law_4 47 rfl) (by decide) (lo' := [(5, .int x72), (0, .ref 0), (1, .ref pC1), (2, .ref pC2), (3, .ref pC3), (4, .int xC4)]) rfl ?_
  refine r_aload_n (dc_L_law_4 48 rfl) rfl rfl ?_
  refine r_aload_n (dc_L_law_4 49 rfl) rfl rfl ?_
  refine r_iload (dc_L_law_4 50 rfl) rfl ?_
  refine r_iconst (dc_L_law_4 51 rfl) kiconst_1 ?_
  refine r_iadd (dc_L_law_4 52 rfl) ?_
  obtain ⟨x73, e0, h⟩ := Option.bind_eq_some_iff.mp h
  obtain ⟨hin, ex⟩ := sld_some e0
  refine r_sld (dc_L_law_4 53 rfl) hin ?_
  rw [← ex]
  refine r_aload_n (dc_L_law_4 54 rfl) rfl rfl ?_
  refine r_iload (dc_L_law_4 55 rfl) rfl ?_
  refine r_iconst (dc_L_law_4 56 rfl) kiconst_2 ?_
  refine r_iadd (dc_L_law_4 57 rfl) ?_
  obtain ⟨x74, e0, h⟩ := Option.bind_eq_some_iff.mp h
  obtain ⟨hin, ex⟩ := sld_some e0
  refine r_sld (dc_L_law_4 58 rfl) hin ?_
  rw [← ex]
  refine r_aload_n (dc_L_law_4 59 rfl) rfl rfl ?_
  refine r_iload (dc_L_law_4 60 rfl) rfl ?_
  refine r_iconst (dc_L_law_4 61 rfl) kiconst_3 ?_
  refine r_iadd (dc_L_law_4 62 rfl) ?_
  obtain ⟨x75, e0, h⟩ := Option.bind_eq_some_iff.mp h
  obtain ⟨hin, ex⟩ := sld_some e0
  refine r_sld (dc_L_law_4 63 rfl) hin ?_
  rw [← ex]
  obtain ⟨x77, s76, e0, h⟩ := wb_some h
  refine r_callV (dc_L_law_5 0 rfl) mv_X10_lose ml_RL_189 (As := [.int x73, .int x74, .int x75]) (t_X10_lose (d := d - 1) hl (by omega) e0) (by omega) rfl (Nat.le_of_ble_eq_true rfl) ?_
  refine r_istore (dc_L_law_5 1 rfl) (by decide) (lo' := [(6, .int x77), (5, .int x72), (0, .ref 0), (1, .ref pC1), (2, .ref pC2), (3, .ref pC3), (4, .int xC4)]) rfl ?_
  refine r_aload_n (dc_L_law_5 2 rfl) rfl rfl ?_
  obtain ⟨x78, e0, h⟩ := Option.bind_eq_some_iff.mp h
  refine r_callV (dc_L_law_5 3 rfl) mv_X10_thrown ml_RL_166 (As := []) (t_X10_thrown (d := d - 1) hl (by omega) e0) (by omega) rfl (Nat.le_of_ble_eq_true rfl) ?_
  refine r_iload (dc_L_law_5 4 rfl) rfl ?_
  refine r_icmp_eq (dc_L_law_5 5 rfl) (tgt := 692) (by decide) (fun c0 => ?_) (fun c0 => ?_)
  · rw [if_pos c0] at h
    refine r_iload (dc_L_law_5 8 rfl) rfl ?_
    refine r_if_ne (dc_L_law_5 9 rfl) (tgt := 709) (by decide) (fun c0 => ?_) (fun c0 => ?_)
    · rw [if_neg c0] at h
      refine r_goto (dc_L_law_5 19 rfl) (tgt := 3394) (by decide) ?_
      refine r_pick [2, 3, 4, 5, 6] (lo' := [(0, .ref 0), (1, .ref pC1), (2, .ref pC2), (3, .ref pC3), (4, .int xC4)]) rfl ?_
      exact hkJ _ h
    · rw [if_pos c0] at h
      refine r_aload_n (dc_L_law_5 10 rfl) rfl rfl ?_
      refine r_iconst (dc_L_law_5 11 rfl) kiconst_0 ?_
      obtain ⟨y79, e0, h⟩ := Option.bind_eq_some_iff.mp h
      refine r_lald (dc_L_law_5 12 rfl) e0 ?_
      refine r_iload (dc_L_law_5 13 rfl) rfl ?_
      refine r_i2l (dc_L_law_5 14 rfl) ?_
      refine r_lcmp (dc_L_law_5 15 rfl) ?_
      refine r_if_eq (dc_L_law_5 16 rfl) (tgt := 709) (by decide) (fun c0 => ?_) (fun c0 => ?_)
      · rw [if_pos c0] at h
        refine r_goto (dc_L_law_5 19 rfl) (tgt := 3394) (by decide) ?_
        refine r_pick [2, 3, 4, 5, 6] (lo' := [(0, .ref 0), (1, .ref pC1), (2, .ref pC2), (3, .ref pC3), (4, .int xC4)]) rfl ?_
        exact hkJ _ h
      · rw [if_neg c0] at h
        refine r_iconst (dc_L_law_5 17 rfl) kiconst_0 ?_
        cases h
        exact r_zreturn (dc_L_law_5 18 rfl) rfl (Or.inl rfl)
  · rw [if_neg c0] at h
    refine r_iconst (dc_L_law_5 6 rfl) kiconst_0 ?_
    cases h
    exact r_zreturn (dc_L_law_5 7 rfl) rfl (Or.inl rfl)
theorem l_L_law_C7 {G : Gx} {d : Nat} (hl : G.1.stackTraces = false) (hd : 15 ≤ d) {pC1 : Nat} {pC2 : Nat} {pC3 : Nat} {xC4 : Int32} {sC : Sto} {r : (Int32 × Sto)} {kJ : Sto → Option (Int32 × Sto)} (hkJ : ∀ (sJ : Sto), kJ sJ = some r → J G d m_L_law 3394 [(0, .ref 0), (1, .ref pC1), (2, .ref pC2), (3, .ref pC3), (4, .int xC4)] [] sJ (.inl (some (.int r.1))) r.2) (h : F_L_law_C7 G.sl G.sx pC1 pC2 pC3 xC4 sC kJ = some r) : J G d m_L_law 712 [(0, .ref 0), (1, .ref pC1), (2, .ref pC2), (3, .ref pC3), (4, .int xC4)] [] sC (.inl (some (.int r.1))) r.2 := by
  rw [F_L_law_C7] at h
  refine r_aload_n (dc_L_law_5 20 rfl) rfl rfl ?_
  refine r_aload_n (dc_L_law_5 21 rfl) rfl rfl ?_
  refine r_iload (dc_L_law_5 22 rfl) rfl ?_
  refine r_iconst (dc_L_law_5 23 rfl) kiconst_1 ?_
  refine r_iadd (dc_L_law_5 24 rfl) ?_
  obtain ⟨x80, e0, h⟩ := Option.bind_eq_some_iff.mp h
  obtain ⟨hin, ex⟩ := sld_some e0
  refine r_sld (dc_L_law_5 25 rfl) hin ?_
  rw [← ex]
  refine r_aload_n (dc_L_law_5 26 rfl) rfl rfl ?_
  refine r_iload (dc_L_law_5 27 rfl) rfl ?_
  refine r_iconst (dc_L_law_5 28 rfl) kiconst_2 ?_
  refine r_iadd (dc_L_law_5 29 rfl) ?_
  obtain ⟨x81, e0, h⟩ := Option.bind_eq_some_iff.mp h
  obtain ⟨hin, ex⟩ := sld_some e0
  refine r_sld (dc_L_law_5 30 rfl) hin ?_
  rw [← ex]
  refine r_aload_n (dc_L_law_5 31 rfl) rfl rfl ?_
  refine r_iload (dc_L_law_5 32 rfl) rfl ?_
  refine r_iconst (dc_L_law_5 33 rfl) kiconst_3 ?_
  refine r_iadd (dc_L_law_5 34 rfl) ?_
  obtain ⟨x82, e0, h⟩ := Option.bind_eq_some_iff.mp h
  obtain ⟨hin, ex⟩ := sld_some e0
  refine r_sld (dc_L_law_5 35 rfl) hin ?_
  rw [← ex]
  refine r_aload_n (dc_L_law_5 36 rfl) rfl rfl ?_
  obtain ⟨x84, s83, e0, h⟩ := wb_some h
  refine r_callSH (dc_L_law_5 37 rfl) mh_L_twice ml_RL_190 (As := [.ref pC1, .int x80, .int x81, .int x82, .ref pC3]) (t_L_twice (d := d - 1) hl (by omega) e0) (by omega) rfl (Nat.le_of_ble_eq_true rfl) ?_
  refine r_istore (dc_L_law_5 38 rfl) (by decide) (lo' := [(5, .int x84), (0, .ref 0), (1, .ref pC1), (2, .ref pC2), (3, .ref pC3), (4, .int xC4)]) rfl ?_
  refine r_aload_n (dc_L_law_5 39 rfl) rfl rfl ?_
  refine r_aload_n (dc_L_law_5 40 rfl) rfl rfl ?_
  refine r_iload (dc_L_law_5 41 rfl) rfl ?_
  refine r_iconst (dc_L_law_5 42 rfl) kiconst_1 ?_
  refine r_iadd (dc_L_law_5 43 rfl) ?_
  obtain ⟨x85, e0, h⟩ := Option.bind_eq_some_iff.mp h
  obtain ⟨hin, ex⟩ := sld_some e0
  refine r_sld (dc_L_law_5 44 rfl) hin ?_
  rw [← ex]
  refine r_aload_n (dc_L_law_5 45 rfl) rfl rfl ?_
  refine r_iload (dc_L_law_5 46 rfl) rfl ?_
  refine r_iconst (dc_L_law_5 47 rfl) kiconst_2 ?_
  refine r_iadd (dc_L_law_5 48 rfl) ?_
  obtain ⟨x86, e0, h⟩ := Option.bind_eq_some_iff.mp h
  obtain ⟨hin, ex⟩ := sld_some e0
  refine r_sld (dc_L_law_5 49 rfl) hin ?_
  rw [← ex]
  refine r_aload_n (dc_L_law_5 50 rfl) rfl rfl ?_
  refine r_iload (dc_L_law_5 51 rfl) rfl ?_
  refine r_iconst (dc_L_law_5 52 rfl) kiconst_3 ?_
  refine r_iadd (dc_L_law_5 53 rfl) ?_
  obtain ⟨x87, e0, h⟩ := Option.bind_eq_some_iff.mp h
  obtain ⟨hin, ex⟩ := sld_some e0
  refine r_sld (dc_L_law_5 54 rfl) hin ?_
  rw [← ex]
  obtain ⟨x89, s88, e0, h⟩ := wb_some h
  refine r_callV (dc_L_law_5 55 rfl) mv_X10_twice ml_RL_192 (As := [.int x85, .int x86, .int x87]) (t_X10_twice (d := d - 1) hl (by omega) e0) (by omega) rfl (Nat.le_of_ble_eq_true rfl) ?_
  refine r_istore (dc_L_law_5 56 rfl) (by decide) (lo' := [(6, .int x89), (5, .int x84), (0, .ref 0), (1, .ref pC1), (2, .ref pC2), (3, .ref pC3), (4, .int xC4)]) rfl ?_
  refine r_aload_n (dc_L_law_5 57 rfl) rfl rfl ?_
  obtain ⟨x90, e0, h⟩ := Option.bind_eq_some_iff.mp h
  refine r_callV (dc_L_law_5 58 rfl) mv_X10_thrown ml_RL_166 (As := []) (t_X10_thrown (d := d - 1) hl (by omega) e0) (by omega) rfl (Nat.le_of_ble_eq_true rfl) ?_
  refine r_iload (dc_L_law_5 59 rfl) rfl ?_
  refine r_icmp_eq (dc_L_law_5 60 rfl) (tgt := 772) (by decide) (fun c0 => ?_) (fun c0 => ?_)
  · rw [if_pos c0] at h
    refine r_iload (dc_L_law_5 63 rfl) rfl ?_
    refine r_if_ne (dc_L_law_6 0 rfl) (tgt := 789) (by decide) (fun c0 => ?_) (fun c0 => ?_)
    · rw [if_neg c0] at h
      refine r_goto (dc_L_law_6 10 rfl) (tgt := 3394) (by decide) ?_
      refine r_pick [2, 3, 4, 5, 6] (lo' := [(0, .ref 0), (1, .ref pC1), (2, .ref pC2), (3, .ref pC3), (4, .int xC4)]) rfl ?_
      exact hkJ _ h
    · rw [if_pos c0] at h
      refine r_aload_n (dc_L_law_6 1 rfl) rfl rfl ?_
      refine r_iconst (dc_L_law_6 2 rfl) kiconst_0 ?_
      obtain ⟨y91, e0, h⟩ := Option.bind_eq_some_iff.mp h
      refine r_lald (dc_L_law_6 3 rfl) e0 ?_
      refine r_iload (dc_L_law_6 4 rfl) rfl ?_
      refine r_i2l (dc_L_law_6 5 rfl) ?_
      refine r_lcmp (dc_L_law_6 6 rfl) ?_
      refine r_if_eq (dc_L_law_6 7 rfl) (tgt := 789) (by decide) (fun c0 => ?_) (fun c0 => ?_)
      · rw [if_pos c0] at h
        refine r_goto (dc_L_law_6 10 rfl) (tgt := 3394) (by decide) ?_
        refine r_pick [2, 3, 4, 5, 6] (lo' := [(0, .ref 0), (1, .ref pC1), (2, .ref pC2), (3, .ref pC3), (4, .int xC4)]) rfl ?_
        exact hkJ _ h
      · rw [if_neg c0] at h
        refine r_iconst (dc_L_law_6 8 rfl) kiconst_0 ?_
        cases h
        exact r_zreturn (dc_L_law_6 9 rfl) rfl (Or.inl rfl)
  · rw [if_neg c0] at h
    refine r_iconst (dc_L_law_5 61 rfl) kiconst_0 ?_
    cases h
    exact r_zreturn (dc_L_law_5 62 rfl) rfl (Or.inl rfl)
theorem l_L_law_C8 {G : Gx} {d : Nat} (hl : G.1.stackTraces = false) (hd : 15 ≤ d) {pC1 : Nat} {pC2 : Nat} {pC3 : Nat} {xC4 : Int32} {sC : Sto} {r : (Int32 × Sto)} {kJ : Sto → Option (Int32 × Sto)} (hkJ : ∀ (sJ : Sto), kJ sJ = some r → J G d m_L_law 3394 [(0, .ref 0), (1, .ref pC1), (2, .ref pC2), (3, .ref pC3), (4, .int xC4)] [] sJ (.inl (some (.int r.1))) r.2) (h : F_L_law_C8 G.sl G.sx pC1 pC2 pC3 xC4 sC kJ = some r) : J G d m_L_law 792 [(0, .ref 0), (1, .ref pC1), (2, .ref pC2), (3, .ref pC3), (4, .int xC4)] [] sC (.inl (some (.int r.1))) r.2 := by
  rw [F_L_law_C8] at h
  refine r_aload_n (dc_L_law_6 11 rfl) rfl rfl ?_
  refine r_aload_n (dc_L_law_6 12 rfl) rfl rfl ?_
  refine r_iload (dc_L_law_6 13 rfl) rfl ?_
  refine r_iconst (dc_L_law_6 14 rfl) kiconst_1 ?_
  refine r_iadd (dc_L_law_6 15 rfl) ?_
  obtain ⟨x92, e0, h⟩ := Option.bind_eq_some_iff.mp h
  obtain ⟨hin, ex⟩ := sld_some e0
  refine r_sld (dc_L_law_6 16 rfl) hin ?_
  rw [← ex]
  refine r_aload_n (dc_L_law_6 17 rfl) rfl rfl ?_
  refine r_iload (dc_L_law_6 18 rfl) rfl ?_
  refine r_iconst (dc_L_law_6 19 rfl) kiconst_2 ?_
  refine r_iadd (dc_L_law_6 20 rfl) ?_
  obtain ⟨x93, e0, h⟩ := Option.bind_eq_some_iff.mp h
  obtain ⟨hin, ex⟩ := sld_some e0
  refine r_sld (dc_L_law_6 21 rfl) hin ?_
  rw [← ex]
  refine r_aload_n (dc_L_law_6 22 rfl) rfl rfl ?_
  obtain ⟨x95, s94, e0, h⟩ := wb_some h
  refine r_callSH (dc_L_law_6 23 rfl) mh_L_waiting ml_RL_193 (As := [.ref pC1, .int x92, .int x93, .ref pC3]) (t_L_waiting (d := d - 1) hl (by omega) e0) (by omega) rfl (Nat.le_of_ble_eq_true rfl) ?_
  refine r_istore (dc_L_law_6 24 rfl) (by decide) (lo' := [(5, .int x95), (0, .ref 0), (1, .ref pC1), (2, .ref pC2), (3, .ref pC3), (4, .int xC4)]) rfl ?_
  refine r_aload_n (dc_L_law_6 25 rfl) rfl rfl ?_
  refine r_aload_n (dc_L_law_6 26 rfl) rfl rfl ?_
  refine r_iload (dc_L_law_6 27 rfl) rfl ?_
  refine r_iconst (dc_L_law_6 28 rfl) kiconst_1 ?_
  refine r_iadd (dc_L_law_6 29 rfl) ?_
  obtain ⟨x96, e0, h⟩ := Option.bind_eq_some_iff.mp h
  obtain ⟨hin, ex⟩ := sld_some e0
  refine r_sld (dc_L_law_6 30 rfl) hin ?_
  rw [← ex]
  refine r_aload_n (dc_L_law_6 31 rfl) rfl rfl ?_
  refine r_iload (dc_L_law_6 32 rfl) rfl ?_
  refine r_iconst (dc_L_law_6 33 rfl) kiconst_2 ?_
  refine r_iadd (dc_L_law_6 34 rfl) ?_
  obtain ⟨x97, e0, h⟩ := Option.bind_eq_some_iff.mp h
  obtain ⟨hin, ex⟩ := sld_some e0
  refine r_sld (dc_L_law_6 35 rfl) hin ?_
  rw [← ex]
  obtain ⟨x99, s98, e0, h⟩ := wb_some h
  refine r_callV (dc_L_law_6 36 rfl) mv_X10_waiting ml_RL_195 (As := [.int x96, .int x97]) (t_X10_waiting (d := d - 1) hl (by omega) e0) (by omega) rfl (Nat.le_of_ble_eq_true rfl) ?_
  refine r_istore (dc_L_law_6 37 rfl) (by decide) (lo' := [(6, .int x99), (5, .int x95), (0, .ref 0), (1, .ref pC1), (2, .ref pC2), (3, .ref pC3), (4, .int xC4)]) rfl ?_
  refine r_aload_n (dc_L_law_6 38 rfl) rfl rfl ?_
  obtain ⟨x100, e0, h⟩ := Option.bind_eq_some_iff.mp h
  refine r_callV (dc_L_law_6 39 rfl) mv_X10_thrown ml_RL_166 (As := []) (t_X10_thrown (d := d - 1) hl (by omega) e0) (by omega) rfl (Nat.le_of_ble_eq_true rfl) ?_
  refine r_iload (dc_L_law_6 40 rfl) rfl ?_
  refine r_icmp_eq (dc_L_law_6 41 rfl) (tgt := 840) (by decide) (fun c0 => ?_) (fun c0 => ?_)
  · rw [if_pos c0] at h
    refine r_iload (dc_L_law_6 44 rfl) rfl ?_
    refine r_if_ne (dc_L_law_6 45 rfl) (tgt := 857) (by decide) (fun c0 => ?_) (fun c0 => ?_)
    · rw [if_neg c0] at h
      refine r_goto (dc_L_law_6 55 rfl) (tgt := 3394) (by decide) ?_
      refine r_pick [2, 3, 4, 5, 6] (lo' := [(0, .ref 0), (1, .ref pC1), (2, .ref pC2), (3, .ref pC3), (4, .int xC4)]) rfl ?_
      exact hkJ _ h
    · rw [if_pos c0] at h
      refine r_aload_n (dc_L_law_6 46 rfl) rfl rfl ?_
      refine r_iconst (dc_L_law_6 47 rfl) kiconst_0 ?_
      obtain ⟨y101, e0, h⟩ := Option.bind_eq_some_iff.mp h
      refine r_lald (dc_L_law_6 48 rfl) e0 ?_
      refine r_iload (dc_L_law_6 49 rfl) rfl ?_
      refine r_i2l (dc_L_law_6 50 rfl) ?_
      refine r_lcmp (dc_L_law_6 51 rfl) ?_
      refine r_if_eq (dc_L_law_6 52 rfl) (tgt := 857) (by decide) (fun c0 => ?_) (fun c0 => ?_)
      · rw [if_pos c0] at h
        refine r_goto (dc_L_law_6 55 rfl) (tgt := 3394) (by decide) ?_
        refine r_pick [2, 3, 4, 5, 6] (lo' := [(0, .ref 0), (1, .ref pC1), (2, .ref pC2), (3, .ref pC3), (4, .int xC4)]) rfl ?_
        exact hkJ _ h
      · rw [if_neg c0] at h
        refine r_iconst (dc_L_law_6 53 rfl) kiconst_0 ?_
        cases h
        exact r_zreturn (dc_L_law_6 54 rfl) rfl (Or.inl rfl)
  · rw [if_neg c0] at h
    refine r_iconst (dc_L_law_6 42 rfl) kiconst_0 ?_
    cases h
    exact r_zreturn (dc_L_law_6 43 rfl) rfl (Or.inl rfl)
theorem l_L_law_C9 {G : Gx} {d : Nat} (hl : G.1.stackTraces = false) (hd : 15 ≤ d) {pC1 : Nat} {pC2 : Nat} {pC3 : Nat} {xC4 : Int32} {sC : Sto} {r : (Int32 × Sto)} {kJ : Sto → Option (Int32 × Sto)} (hkJ : ∀ (sJ : Sto), kJ sJ = some r → J G d m_L_law 3394 [(0, .ref 0), (1, .ref pC1), (2, .ref pC2), (3, .ref pC3), (4, .int xC4)] [] sJ (.inl (some (.int r.1))) r.2) (h : F_L_law_C9 G.sl G.sx pC1 pC2 pC3 xC4 sC kJ = some r) : J G d m_L_law 860 [(0, .ref 0), (1, .ref pC1), (2, .ref pC2), (3, .ref pC3), (4, .int xC4)] [] sC (.inl (some (.int r.1))) r.2 := by
  rw [F_L_law_C9] at h
  refine r_aload_n (dc_L_law_6 56 rfl) rfl rfl ?_
  refine r_aload_n (dc_L_law_6 57 rfl) rfl rfl ?_
  refine r_iload (dc_L_law_6 58 rfl) rfl ?_
  refine r_iconst (dc_L_law_6 59 rfl) kiconst_1 ?_
  refine r_iadd (dc_L_law_6 60 rfl) ?_
  obtain ⟨x102, e0, h⟩ := Option.bind_eq_some_iff.mp h
  obtain ⟨hin, ex⟩ := sld_some e0
  refine r_sld (dc_L_law_6 61 rfl) hin ?_
  rw [← ex]
  refine r_aload_n (dc_L_law_6 62 rfl) rfl rfl ?_
  refine r_iload (dc_L_law_6 63 rfl) rfl ?_
  refine r_iconst (dc_L_law_7 0 rfl) kiconst_2 ?_
  refine r_iadd (dc_L_law_7 1 rfl) ?_
  obtain ⟨x103, e0, h⟩ := Option.bind_eq_some_iff.mp h
  obtain ⟨hin, ex⟩ := sld_some e0
  refine r_sld (dc_L_law_7 2 rfl) hin ?_
  rw [← ex]
  refine r_aload_n (dc_L_law_7 3 rfl) rfl rfl ?_
  refine r_iload (dc_L_law_7 4 rfl) rfl ?_
  refine r_iconst (dc_L_law_7 5 rfl) kiconst_3 ?_
  refine r_iadd (dc_L_law_7 6 rfl) ?_
  obtain ⟨x104, e0, h⟩ := Option.bind_eq_some_iff.mp h
  obtain ⟨hin, ex⟩ := sld_some e0
  refine r_sld (dc_L_law_7 7 rfl) hin ?_
  rw [← ex]
  refine r_aload_n (dc_L_law_7 8 rfl) rfl rfl ?_
  refine r_iload (dc_L_law_7 9 rfl) rfl ?_
  refine r_iconst (dc_L_law_7 10 rfl) kiconst_4 ?_
  refine r_iadd (dc_L_law_7 11 rfl) ?_
  obtain ⟨x105, e0, h⟩ := Option.bind_eq_some_iff.mp h
  obtain ⟨hin, ex⟩ := sld_some e0
  refine r_sld (dc_L_law_7 12 rfl) hin ?_
  rw [← ex]
  refine r_aload_n (dc_L_law_7 13 rfl) rfl rfl ?_
  obtain ⟨x107, s106, e0, h⟩ := wb_some h
  refine r_callSH (dc_L_law_7 14 rfl) mh_L_letter ml_RL_196 (As := [.ref pC1, .int x102, .int x103, .int x104, .int x105, .ref pC3]) (t_L_letter (d := d - 1) hl (by omega) e0) (by omega) rfl (Nat.le_of_ble_eq_true rfl) ?_
  refine r_istore (dc_L_law_7 15 rfl) (by decide) (lo' := [(5, .int x107), (0, .ref 0), (1, .ref pC1), (2, .ref pC2), (3, .ref pC3), (4, .int xC4)]) rfl ?_
  refine r_aload_n (dc_L_law_7 16 rfl) rfl rfl ?_
  refine r_aload_n (dc_L_law_7 17 rfl) rfl rfl ?_
  refine r_iload (dc_L_law_7 18 rfl) rfl ?_
  refine r_iconst (dc_L_law_7 19 rfl) kiconst_1 ?_
  refine r_iadd (dc_L_law_7 20 rfl) ?_
  obtain ⟨x108, e0, h⟩ := Option.bind_eq_some_iff.mp h
  obtain ⟨hin, ex⟩ := sld_some e0
  refine r_sld (dc_L_law_7 21 rfl) hin ?_
  rw [← ex]
  refine r_aload_n (dc_L_law_7 22 rfl) rfl rfl ?_
  refine r_iload (dc_L_law_7 23 rfl) rfl ?_
  refine r_iconst (dc_L_law_7 24 rfl) kiconst_2 ?_
  refine r_iadd (dc_L_law_7 25 rfl) ?_
  obtain ⟨x109, e0, h⟩ := Option.bind_eq_some_iff.mp h
  obtain ⟨hin, ex⟩ := sld_some e0
  refine r_sld (dc_L_law_7 26 rfl) hin ?_
  rw [← ex]
  refine r_aload_n (dc_L_law_7 27 rfl) rfl rfl ?_
  refine r_iload (dc_L_law_7 28 rfl) rfl ?_
  refine r_iconst (dc_L_law_7 29 rfl) kiconst_3 ?_
  refine r_iadd (dc_L_law_7 30 rfl) ?_
  obtain ⟨x110, e0, h⟩ := Option.bind_eq_some_iff.mp h
  obtain ⟨hin, ex⟩ := sld_some e0
  refine r_sld (dc_L_law_7 31 rfl) hin ?_
  rw [← ex]
  refine r_aload_n (dc_L_law_7 32 rfl) rfl rfl ?_
  refine r_iload (dc_L_law_7 33 rfl) rfl ?_
  refine r_iconst (dc_L_law_7 34 rfl) kiconst_4 ?_
  refine r_iadd (dc_L_law_7 35 rfl) ?_
  obtain ⟨x111, e0, h⟩ := Option.bind_eq_some_iff.mp h
  obtain ⟨hin, ex⟩ := sld_some e0
  refine r_sld (dc_L_law_7 36 rfl) hin ?_
  rw [← ex]
  obtain ⟨x113, s112, e0, h⟩ := wb_some h
  refine r_callV (dc_L_law_7 37 rfl) mv_X10_letter ml_RL_199 (As := [.int x108, .int x109, .int x110, .int x111]) (t_X10_letter (d := d - 1) hl (by omega) e0) (by omega) rfl (Nat.le_of_ble_eq_true rfl) ?_
  refine r_istore (dc_L_law_7 38 rfl) (by decide) (lo' := [(6, .int x113), (5, .int x107), (0, .ref 0), (1, .ref pC1), (2, .ref pC2), (3, .ref pC3), (4, .int xC4)]) rfl ?_
  refine r_aload_n (dc_L_law_7 39 rfl) rfl rfl ?_
  obtain ⟨x114, e0, h⟩ := Option.bind_eq_some_iff.mp h
  refine r_callV (dc_L_law_7 40 rfl) mv_X10_thrown ml_RL_166 (As := []) (t_X10_thrown (d := d - 1) hl (by omega) e0) (by omega) rfl (Nat.le_of_ble_eq_true rfl) ?_
  refine r_iload (dc_L_law_7 41 rfl) rfl ?_
  refine r_icmp_eq (dc_L_law_7 42 rfl) (tgt := 932) (by decide) (fun c0 => ?_) (fun c0 => ?_)
  · rw [if_pos c0] at h
    refine r_iload (dc_L_law_7 45 rfl) rfl ?_
    refine r_if_ne (dc_L_law_7 46 rfl) (tgt := 949) (by decide) (fun c0 => ?_) (fun c0 => ?_)
    · rw [if_neg c0] at h
      refine r_goto (dc_L_law_7 56 rfl) (tgt := 3394) (by decide) ?_
      refine r_pick [2, 3, 4, 5, 6] (lo' := [(0, .ref 0), (1, .ref pC1), (2, .ref pC2), (3, .ref pC3), (4, .int xC4)]) rfl ?_
      exact hkJ _ h
    · rw [if_pos c0] at h
      refine r_aload_n (dc_L_law_7 47 rfl) rfl rfl ?_
      refine r_iconst (dc_L_law_7 48 rfl) kiconst_0 ?_
      obtain ⟨y115, e0, h⟩ := Option.bind_eq_some_iff.mp h
      refine r_lald (dc_L_law_7 49 rfl) e0 ?_
      refine r_iload (dc_L_law_7 50 rfl) rfl ?_
      refine r_i2l (dc_L_law_7 51 rfl) ?_
      refine r_lcmp (dc_L_law_7 52 rfl) ?_
      refine r_if_eq (dc_L_law_7 53 rfl) (tgt := 949) (by decide) (fun c0 => ?_) (fun c0 => ?_)
      · rw [if_pos c0] at h
        refine r_goto (dc_L_law_7 56 rfl) (tgt := 3394) (by decide) ?_
        refine r_pick [2, 3, 4, 5, 6] (lo' := [(0, .ref 0), (1, .ref pC1), (2, .ref pC2), (3, .ref pC3), (4, .int xC4)]) rfl ?_
        exact hkJ _ h
      · rw [if_neg c0] at h
        refine r_iconst (dc_L_law_7 54 rfl) kiconst_0 ?_
        cases h
        exact r_zreturn (dc_L_law_7 55 rfl) rfl (Or.inl rfl)
  · rw [if_neg c0] at h
    refine r_iconst (dc_L_law_7 43 rfl) kiconst_0 ?_
    cases h
    exact r_zreturn (dc_L_law_7 44 rfl) rfl (Or.inl rfl)
theorem l_L_law_C10 {G : Gx} {d : Nat} (hl : G.1.stackTraces = false) (hd : 15 ≤ d) {pC1 : Nat} {pC2 : Nat} {pC3 : Nat} {xC4 : Int32} {sC : Sto} {r : (Int32 × Sto)} {kJ : Sto → Option (Int32 × Sto)} (hkJ : ∀ (sJ : Sto), kJ sJ = some r → J G d m_L_law 3394 [(0, .ref 0), (1, .ref pC1), (2, .ref pC2), (3, .ref pC3), (4, .int xC4)] [] sJ (.inl (some (.int r.1))) r.2) (h : F_L_law_C10 G.sl G.sx pC1 pC2 pC3 xC4 sC kJ = some r) : J G d m_L_law 952 [(0, .ref 0), (1, .ref pC1), (2, .ref pC2), (3, .ref pC3), (4, .int xC4)] [] sC (.inl (some (.int r.1))) r.2 := by
  rw [F_L_law_C10] at h
  refine r_aload_n (dc_L_law_7 57 rfl) rfl rfl ?_
  refine r_aload_n (dc_L_law_7 58 rfl) rfl rfl ?_
  refine r_iload (dc_L_law_7 59 rfl) rfl ?_
  refine r_iconst (dc_L_law_7 60 rfl) kiconst_1 ?_
  refine r_iadd (dc_L_law_7 61 rfl) ?_
  obtain ⟨x116, e0, h⟩ := Option.bind_eq_some_iff.mp h
  obtain ⟨hin, ex⟩ := sld_some e0
  refine r_sld (dc_L_law_7 62 rfl) hin ?_
  rw [← ex]
  refine r_aload_n (dc_L_law_7 63 rfl) rfl rfl ?_
  refine r_iload (dc_L_law_8 0 rfl) rfl ?_
  refine r_iconst (dc_L_law_8 1 rfl) kiconst_2 ?_
  refine r_iadd (dc_L_law_8 2 rfl) ?_
  obtain ⟨x117, e0, h⟩ := Option.bind_eq_some_iff.mp h
  obtain ⟨hin, ex⟩ := sld_some e0
  refine r_sld (dc_L_law_8 3 rfl) hin ?_
  rw [← ex]
  refine r_aload_n (dc_L_law_8 4 rfl) rfl rfl ?_
  refine r_iload (dc_L_law_8 5 rfl) rfl ?_
  refine r_iconst (dc_L_law_8 6 rfl) kiconst_3 ?_
  refine r_iadd (dc_L_law_8 7 rfl) ?_
  obtain ⟨x118, e0, h⟩ := Option.bind_eq_some_iff.mp h
  obtain ⟨hin, ex⟩ := sld_some e0
  refine r_sld (dc_L_law_8 8 rfl) hin ?_
  rw [← ex]
  refine r_aload_n (dc_L_law_8 9 rfl) rfl rfl ?_
  refine r_iload (dc_L_law_8 10 rfl) rfl ?_
  refine r_iconst (dc_L_law_8 11 rfl) kiconst_4 ?_
  refine r_iadd (dc_L_law_8 12 rfl) ?_
  obtain ⟨x119, e0, h⟩ := Option.bind_eq_some_iff.mp h
  obtain ⟨hin, ex⟩ := sld_some e0
  refine r_sld (dc_L_law_8 13 rfl) hin ?_
  rw [← ex]
  refine r_aload_n (dc_L_law_8 14 rfl) rfl rfl ?_
  obtain ⟨x121, s120, e0, h⟩ := wb_some h
  refine r_callSH (dc_L_law_8 15 rfl) mh_L_inLetter ml_RL_200 (As := [.ref pC1, .int x116, .int x117, .int x118, .int x119, .ref pC3]) (t_L_inLetter (d := d - 1) hl (by omega) e0) (by omega) rfl (Nat.le_of_ble_eq_true rfl) ?_
  refine r_istore (dc_L_law_8 16 rfl) (by decide) (lo' := [(5, .int x121), (0, .ref 0), (1, .ref pC1), (2, .ref pC2), (3, .ref pC3), (4, .int xC4)]) rfl ?_
  refine r_aload_n (dc_L_law_8 17 rfl) rfl rfl ?_
  refine r_aload_n (dc_L_law_8 18 rfl) rfl rfl ?_
  refine r_iload (dc_L_law_8 19 rfl) rfl ?_
  refine r_iconst (dc_L_law_8 20 rfl) kiconst_1 ?_
  refine r_iadd (dc_L_law_8 21 rfl) ?_
  obtain ⟨x122, e0, h⟩ := Option.bind_eq_some_iff.mp h
  obtain ⟨hin, ex⟩ := sld_some e0
  refine r_sld (dc_L_law_8 22 rfl) hin ?_
  rw [← ex]
  refine r_aload_n (dc_L_law_8 23 rfl) rfl rfl ?_
  refine r_iload (dc_L_law_8 24 rfl) rfl ?_
  refine r_iconst (dc_L_law_8 25 rfl) kiconst_2 ?_
  refine r_iadd (dc_L_law_8 26 rfl) ?_
  obtain ⟨x123, e0, h⟩ := Option.bind_eq_some_iff.mp h
  obtain ⟨hin, ex⟩ := sld_some e0
  refine r_sld (dc_L_law_8 27 rfl) hin ?_
  rw [← ex]
  refine r_aload_n (dc_L_law_8 28 rfl) rfl rfl ?_
  refine r_iload (dc_L_law_8 29 rfl) rfl ?_
  refine r_iconst (dc_L_law_8 30 rfl) kiconst_3 ?_
  refine r_iadd (dc_L_law_8 31 rfl) ?_
  obtain ⟨x124, e0, h⟩ := Option.bind_eq_some_iff.mp h
  obtain ⟨hin, ex⟩ := sld_some e0
  refine r_sld (dc_L_law_8 32 rfl) hin ?_
  rw [← ex]
  refine r_aload_n (dc_L_law_8 33 rfl) rfl rfl ?_
  refine r_iload (dc_L_law_8 34 rfl) rfl ?_
  refine r_iconst (dc_L_law_8 35 rfl) kiconst_4 ?_
  refine r_iadd (dc_L_law_8 36 rfl) ?_
  obtain ⟨x125, e0, h⟩ := Option.bind_eq_some_iff.mp h
  obtain ⟨hin, ex⟩ := sld_some e0
  refine r_sld (dc_L_law_8 37 rfl) hin ?_
  rw [← ex]
  obtain ⟨x127, s126, e0, h⟩ := wb_some h
  refine r_callV (dc_L_law_8 38 rfl) mv_X10_inLetter ml_RL_202 (As := [.int x122, .int x123, .int x124, .int x125]) (t_X10_inLetter (d := d - 1) hl (by omega) e0) (by omega) rfl (Nat.le_of_ble_eq_true rfl) ?_
  refine r_istore (dc_L_law_8 39 rfl) (by decide) (lo' := [(6, .int x127), (5, .int x121), (0, .ref 0), (1, .ref pC1), (2, .ref pC2), (3, .ref pC3), (4, .int xC4)]) rfl ?_
  refine r_aload_n (dc_L_law_8 40 rfl) rfl rfl ?_
  obtain ⟨x128, e0, h⟩ := Option.bind_eq_some_iff.mp h
  refine r_callV (dc_L_law_8 41 rfl) mv_X10_thrown ml_RL_166 (As := []) (t_X10_thrown (d := d - 1) hl (by omega) e0) (by omega) rfl (Nat.le_of_ble_eq_true rfl) ?_
  refine r_iload (dc_L_law_8 42 rfl) rfl ?_
  refine r_icmp_eq (dc_L_law_8 43 rfl) (tgt := 1024) (by decide) (fun c0 => ?_) (fun c0 => ?_)
  · rw [if_pos c0] at h
    refine r_iload (dc_L_law_8 46 rfl) rfl ?_
    refine r_if_ne (dc_L_law_8 47 rfl) (tgt := 1041) (by decide) (fun c0 => ?_) (fun c0 => ?_)
    · rw [if_neg c0] at h
      refine r_goto (dc_L_law_8 57 rfl) (tgt := 3394) (by decide) ?_
      refine r_pick [2, 3, 4, 5, 6] (lo' := [(0, .ref 0), (1, .ref pC1), (2, .ref pC2), (3, .ref pC3), (4, .int xC4)]) rfl ?_
      exact hkJ _ h
    · rw [if_pos c0] at h
      refine r_aload_n (dc_L_law_8 48 rfl) rfl rfl ?_
      refine r_iconst (dc_L_law_8 49 rfl) kiconst_0 ?_
      obtain ⟨y129, e0, h⟩ := Option.bind_eq_some_iff.mp h
      refine r_lald (dc_L_law_8 50 rfl) e0 ?_
      refine r_iload (dc_L_law_8 51 rfl) rfl ?_
      refine r_i2l (dc_L_law_8 52 rfl) ?_
      refine r_lcmp (dc_L_law_8 53 rfl) ?_
      refine r_if_eq (dc_L_law_8 54 rfl) (tgt := 1041) (by decide) (fun c0 => ?_) (fun c0 => ?_)
      · rw [if_pos c0] at h
        refine r_goto (dc_L_law_8 57 rfl) (tgt := 3394) (by decide) ?_
        refine r_pick [2, 3, 4, 5, 6] (lo' := [(0, .ref 0), (1, .ref pC1), (2, .ref pC2), (3, .ref pC3), (4, .int xC4)]) rfl ?_
        exact hkJ _ h
      · rw [if_neg c0] at h
        refine r_iconst (dc_L_law_8 55 rfl) kiconst_0 ?_
        cases h
        exact r_zreturn (dc_L_law_8 56 rfl) rfl (Or.inl rfl)
  · rw [if_neg c0] at h
    refine r_iconst (dc_L_law_8 44 rfl) kiconst_0 ?_
    cases h
    exact r_zreturn (dc_L_law_8 45 rfl) rfl (Or.inl rfl)
theorem l_L_law_C11 {G : Gx} {d : Nat} (hl : G.1.stackTraces = false) (hd : 15 ≤ d) {pC1 : Nat} {pC2 : Nat} {pC3 : Nat} {xC4 : Int32} {sC : Sto} {r : (Int32 × Sto)} {kJ : Sto → Option (Int32 × Sto)} (hkJ : ∀ (sJ : Sto), kJ sJ = some r → J G d m_L_law 3394 [(0, .ref 0), (1, .ref pC1), (2, .ref pC2), (3, .ref pC3), (4, .int xC4)] [] sJ (.inl (some (.int r.1))) r.2) (h : F_L_law_C11 G.sl G.sx pC1 pC2 pC3 xC4 sC kJ = some r) : J G d m_L_law 1044 [(0, .ref 0), (1, .ref pC1), (2, .ref pC2), (3, .ref pC3), (4, .int xC4)] [] sC (.inl (some (.int r.1))) r.2 := by
  rw [F_L_law_C11] at h
  refine r_aload_n (dc_L_law_8 58 rfl) rfl rfl ?_
  refine r_aload_n (dc_L_law_8 59 rfl) rfl rfl ?_
  refine r_iload (dc_L_law_8 60 rfl) rfl ?_
  refine r_iconst (dc_L_law_8 61 rfl) kiconst_1 ?_
  refine r_iadd (dc_L_law_8 62 rfl) ?_
  obtain ⟨x130, e0, h⟩ := Option.bind_eq_some_iff.mp h
  obtain ⟨hin, ex⟩ := sld_some e0
  refine r_sld (dc_L_law_8 63 rfl) hin ?_
  rw [← ex]
  refine r_aload_n (dc_L_law_9 0 rfl) rfl rfl ?_
  obtain ⟨x132, s131, e0, h⟩ := wb_some h
  refine r_callSH (dc_L_law_9 1 rfl) mh_L_save ml_RL_203 (As := [.ref pC1, .int x130, .ref pC3]) (t_L_save (d := d - 1) hl (by omega) e0) (by omega) rfl (Nat.le_of_ble_eq_true rfl) ?_
  refine r_istore (dc_L_law_9 2 rfl) (by decide) (lo' := [(5, .int x132), (0, .ref 0), (1, .ref pC1), (2, .ref pC2), (3, .ref pC3), (4, .int xC4)]) rfl ?_
  refine r_aload_n (dc_L_law_9 3 rfl) rfl rfl ?_
  refine r_aload_n (dc_L_law_9 4 rfl) rfl rfl ?_
  refine r_iload (dc_L_law_9 5 rfl) rfl ?_
  refine r_iconst (dc_L_law_9 6 rfl) kiconst_1 ?_
  refine r_iadd (dc_L_law_9 7 rfl) ?_
  obtain ⟨x133, e0, h⟩ := Option.bind_eq_some_iff.mp h
  obtain ⟨hin, ex⟩ := sld_some e0
  refine r_sld (dc_L_law_9 8 rfl) hin ?_
  rw [← ex]
  obtain ⟨x135, s134, e0, h⟩ := wb_some h
  refine r_callV (dc_L_law_9 9 rfl) mv_X10_save ml_RL_205 (As := [.int x133]) (t_X10_save (d := d - 1) hl (by omega) e0) (by omega) rfl (Nat.le_of_ble_eq_true rfl) ?_
  refine r_istore (dc_L_law_9 10 rfl) (by decide) (lo' := [(6, .int x135), (5, .int x132), (0, .ref 0), (1, .ref pC1), (2, .ref pC2), (3, .ref pC3), (4, .int xC4)]) rfl ?_
  refine r_aload_n (dc_L_law_9 11 rfl) rfl rfl ?_
  obtain ⟨x136, e0, h⟩ := Option.bind_eq_some_iff.mp h
  refine r_callV (dc_L_law_9 12 rfl) mv_X10_thrown ml_RL_166 (As := []) (t_X10_thrown (d := d - 1) hl (by omega) e0) (by omega) rfl (Nat.le_of_ble_eq_true rfl) ?_
  refine r_iload (dc_L_law_9 13 rfl) rfl ?_
  refine r_icmp_eq (dc_L_law_9 14 rfl) (tgt := 1080) (by decide) (fun c0 => ?_) (fun c0 => ?_)
  · rw [if_pos c0] at h
    refine r_iload (dc_L_law_9 17 rfl) rfl ?_
    refine r_if_ne (dc_L_law_9 18 rfl) (tgt := 1097) (by decide) (fun c0 => ?_) (fun c0 => ?_)
    · rw [if_neg c0] at h
      refine r_goto (dc_L_law_9 28 rfl) (tgt := 3394) (by decide) ?_
      refine r_pick [2, 3, 4, 5, 6] (lo' := [(0, .ref 0), (1, .ref pC1), (2, .ref pC2), (3, .ref pC3), (4, .int xC4)]) rfl ?_
      exact hkJ _ h
    · rw [if_pos c0] at h
      refine r_aload_n (dc_L_law_9 19 rfl) rfl rfl ?_
      refine r_iconst (dc_L_law_9 20 rfl) kiconst_0 ?_
      obtain ⟨y137, e0, h⟩ := Option.bind_eq_some_iff.mp h
      refine r_lald (dc_L_law_9 21 rfl) e0 ?_
      refine r_iload (dc_L_law_9 22 rfl) rfl ?_
      refine r_i2l (dc_L_law_9 23 rfl) ?_
      refine r_lcmp (dc_L_law_9 24 rfl) ?_
      refine r_if_eq (dc_L_law_9 25 rfl) (tgt := 1097) (by decide) (fun c0 => ?_) (fun c0 => ?_)
      · rw [if_pos c0] at h
        refine r_goto (dc_L_law_9 28 rfl) (tgt := 3394) (by decide) ?_
        refine r_pick [2, 3, 4, 5, 6] (lo' := [(0, .ref 0), (1, .ref pC1), (2, .ref pC2), (3, .ref pC3), (4, .int xC4)]) rfl ?_
        exact hkJ _ h
      · rw [if_neg c0] at h
        refine r_iconst (dc_L_law_9 26 rfl) kiconst_0 ?_
        cases h
        exact r_zreturn (dc_L_law_9 27 rfl) rfl (Or.inl rfl)
  · rw [if_neg c0] at h
    refine r_iconst (dc_L_law_9 15 rfl) kiconst_0 ?_
    cases h
    exact r_zreturn (dc_L_law_9 16 rfl) rfl (Or.inl rfl)
theorem l_L_law_C12 {G : Gx} {d : Nat} (hl : G.1.stackTraces = false) (hd : 15 ≤ d) {pC1 : Nat} {pC2 : Nat} {pC3 : Nat} {xC4 : Int32} {sC : Sto} {r : (Int32 × Sto)} {kJ : Sto → Option (Int32 × Sto)} (hkJ : ∀ (sJ : Sto), kJ sJ = some r → J G d m_L_law 3394 [(0, .ref 0), (1, .ref pC1), (2, .ref pC2), (3, .ref pC3), (4, .int xC4)] [] sJ (.inl (some (.int r.1))) r.2) (h : F_L_law_C12 G.sl G.sx pC1 pC2 pC3 xC4 sC kJ = some r) : J G d m_L_law 1100 [(0, .ref 0), (1, .ref pC1), (2, .ref pC2), (3, .ref pC3), (4, .int xC4)] [] sC (.inl (some (.int r.1))) r.2 := by
  rw [F_L_law_C12] at h
  refine r_aload_n (dc_L_law_9 29 rfl) rfl rfl ?_
  refine r_aload_n (dc_L_law_9 30 rfl) rfl rfl ?_
  refine r_iload (dc_L_law_9 31 rfl) rfl ?_
  refine r_iconst (dc_L_law_9 32 rfl) kiconst_1 ?_
  refine r_iadd (dc_L_law_9 33 rfl) ?_
  obtain ⟨x138, e0, h⟩ := Option.bind_eq_some_iff.mp h
  obtain ⟨hin, ex⟩ := sld_some e0
  refine r_sld (dc_L_law_9 34 rfl) hin ?_
  rw [← ex]
  refine r_aload_n (dc_L_law_9 35 rfl) rfl rfl ?_
  obtain ⟨x140, s139, e0, h⟩ := wb_some h
  refine r_callSH (dc_L_law_9 36 rfl) mh_L_fall ml_RL_206 (As := [.ref pC1, .int x138, .ref pC3]) (t_L_fall (d := d - 1) hl (by omega) e0) (by omega) rfl (Nat.le_of_ble_eq_true rfl) ?_
  refine r_istore (dc_L_law_9 37 rfl) (by decide) (lo' := [(5, .int x140), (0, .ref 0), (1, .ref pC1), (2, .ref pC2), (3, .ref pC3), (4, .int xC4)]) rfl ?_
  refine r_aload_n (dc_L_law_9 38 rfl) rfl rfl ?_
  refine r_aload_n (dc_L_law_9 39 rfl) rfl rfl ?_
  refine r_iload (dc_L_law_9 40 rfl) rfl ?_
  refine r_iconst (dc_L_law_9 41 rfl) kiconst_1 ?_
  refine r_iadd (dc_L_law_9 42 rfl) ?_
  obtain ⟨x141, e0, h⟩ := Option.bind_eq_some_iff.mp h
  obtain ⟨hin, ex⟩ := sld_some e0
  refine r_sld (dc_L_law_9 43 rfl) hin ?_
  rw [← ex]
  obtain ⟨x143, s142, e0, h⟩ := wb_some h
  refine r_callV (dc_L_law_9 44 rfl) mv_X10_fall ml_RL_208 (As := [.int x141]) (t_X10_fall (d := d - 1) hl (by omega) e0) (by omega) rfl (Nat.le_of_ble_eq_true rfl) ?_
  refine r_istore (dc_L_law_9 45 rfl) (by decide) (lo' := [(6, .int x143), (5, .int x140), (0, .ref 0), (1, .ref pC1), (2, .ref pC2), (3, .ref pC3), (4, .int xC4)]) rfl ?_
  refine r_aload_n (dc_L_law_9 46 rfl) rfl rfl ?_
  obtain ⟨x144, e0, h⟩ := Option.bind_eq_some_iff.mp h
  refine r_callV (dc_L_law_9 47 rfl) mv_X10_thrown ml_RL_166 (As := []) (t_X10_thrown (d := d - 1) hl (by omega) e0) (by omega) rfl (Nat.le_of_ble_eq_true rfl) ?_
  refine r_iload (dc_L_law_9 48 rfl) rfl ?_
  refine r_icmp_eq (dc_L_law_9 49 rfl) (tgt := 1136) (by decide) (fun c0 => ?_) (fun c0 => ?_)
  · rw [if_pos c0] at h
    refine r_iload (dc_L_law_9 52 rfl) rfl ?_
    refine r_if_ne (dc_L_law_9 53 rfl) (tgt := 1153) (by decide) (fun c0 => ?_) (fun c0 => ?_)
    · rw [if_neg c0] at h
      refine r_goto (dc_L_law_9 63 rfl) (tgt := 3394) (by decide) ?_
      refine r_pick [2, 3, 4, 5, 6] (lo' := [(0, .ref 0), (1, .ref pC1), (2, .ref pC2), (3, .ref pC3), (4, .int xC4)]) rfl ?_
      exact hkJ _ h
    · rw [if_pos c0] at h
      refine r_aload_n (dc_L_law_9 54 rfl) rfl rfl ?_
      refine r_iconst (dc_L_law_9 55 rfl) kiconst_0 ?_
      obtain ⟨y145, e0, h⟩ := Option.bind_eq_some_iff.mp h
      refine r_lald (dc_L_law_9 56 rfl) e0 ?_
      refine r_iload (dc_L_law_9 57 rfl) rfl ?_
      refine r_i2l (dc_L_law_9 58 rfl) ?_
      refine r_lcmp (dc_L_law_9 59 rfl) ?_
      refine r_if_eq (dc_L_law_9 60 rfl) (tgt := 1153) (by decide) (fun c0 => ?_) (fun c0 => ?_)
      · rw [if_pos c0] at h
        refine r_goto (dc_L_law_9 63 rfl) (tgt := 3394) (by decide) ?_
        refine r_pick [2, 3, 4, 5, 6] (lo' := [(0, .ref 0), (1, .ref pC1), (2, .ref pC2), (3, .ref pC3), (4, .int xC4)]) rfl ?_
        exact hkJ _ h
      · rw [if_neg c0] at h
        refine r_iconst (dc_L_law_9 61 rfl) kiconst_0 ?_
        cases h
        exact r_zreturn (dc_L_law_9 62 rfl) rfl (Or.inl rfl)
  · rw [if_neg c0] at h
    refine r_iconst (dc_L_law_9 50 rfl) kiconst_0 ?_
    cases h
    exact r_zreturn (dc_L_law_9 51 rfl) rfl (Or.inl rfl)
theorem l_L_law_C13 {G : Gx} {d : Nat} (hl : G.1.stackTraces = false) (hd : 15 ≤ d) {pC1 : Nat} {pC2 : Nat} {pC3 : Nat} {xC4 : Int32} {sC : Sto} {r : (Int32 × Sto)} {kJ : Sto → Option (Int32 × Sto)} (hkJ : ∀ (sJ : Sto), kJ sJ = some r → J G d m_L_law 3394 [(0, .ref 0), (1, .ref pC1), (2, .ref pC2), (3, .ref pC3), (4, .int xC4)] [] sJ (.inl (some (.int r.1))) r.2) (h : F_L_law_C13 G.sl G.sx pC1 pC2 pC3 xC4 sC kJ = some r) : J G d m_L_law 1156 [(0, .ref 0), (1, .ref pC1), (2, .ref pC2), (3, .ref pC3), (4, .int xC4)] [] sC (.inl (some (.int r.1))) r.2 := by
  rw [F_L_law_C13] at h
  refine r_aload_n (dc_L_law_10 0 rfl) rfl rfl ?_
  refine r_aload_n (dc_L_law_10 1 rfl) rfl rfl ?_
  refine r_iload (dc_L_law_10 2 rfl) rfl ?_
  refine r_iconst (dc_L_law_10 3 rfl) kiconst_1 ?_
  refine r_iadd (dc_L_law_10 4 rfl) ?_
  obtain ⟨x146, e0, h⟩ := Option.bind_eq_some_iff.mp h
  obtain ⟨hin, ex⟩ := sld_some e0
  refine r_sld (dc_L_law_10 5 rfl) hin ?_
  rw [← ex]
  refine r_aload_n (dc_L_law_10 6 rfl) rfl rfl ?_
  refine r_iload (dc_L_law_10 7 rfl) rfl ?_
  refine r_iconst (dc_L_law_10 8 rfl) kiconst_2 ?_
  refine r_iadd (dc_L_law_10 9 rfl) ?_
  obtain ⟨x147, e0, h⟩ := Option.bind_eq_some_iff.mp h
  obtain ⟨hin, ex⟩ := sld_some e0
  refine r_sld (dc_L_law_10 10 rfl) hin ?_
  rw [← ex]
  refine r_aload_n (dc_L_law_10 11 rfl) rfl rfl ?_
  obtain ⟨x149, s148, e0, h⟩ := wb_some h
  refine r_callSH (dc_L_law_10 12 rfl) mh_L_join ml_RL_209 (As := [.ref pC1, .int x146, .int x147, .ref pC3]) (t_L_join (d := d - 1) hl (by omega) e0) (by omega) rfl (Nat.le_of_ble_eq_true rfl) ?_
  refine r_istore (dc_L_law_10 13 rfl) (by decide) (lo' := [(5, .int x149), (0, .ref 0), (1, .ref pC1), (2, .ref pC2), (3, .ref pC3), (4, .int xC4)]) rfl ?_
  refine r_aload_n (dc_L_law_10 14 rfl) rfl rfl ?_
  refine r_aload_n (dc_L_law_10 15 rfl) rfl rfl ?_
  refine r_iload (dc_L_law_10 16 rfl) rfl ?_
  refine r_iconst (dc_L_law_10 17 rfl) kiconst_1 ?_
  refine r_iadd (dc_L_law_10 18 rfl) ?_
  obtain ⟨x150, e0, h⟩ := Option.bind_eq_some_iff.mp h
  obtain ⟨hin, ex⟩ := sld_some e0
  refine r_sld (dc_L_law_10 19 rfl) hin ?_
  rw [← ex]
  refine r_aload_n (dc_L_law_10 20 rfl) rfl rfl ?_
  refine r_iload (dc_L_law_10 21 rfl) rfl ?_
  refine r_iconst (dc_L_law_10 22 rfl) kiconst_2 ?_
  refine r_iadd (dc_L_law_10 23 rfl) ?_
  obtain ⟨x151, e0, h⟩ := Option.bind_eq_some_iff.mp h
  obtain ⟨hin, ex⟩ := sld_some e0
  refine r_sld (dc_L_law_10 24 rfl) hin ?_
  rw [← ex]
  obtain ⟨x153, s152, e0, h⟩ := wb_some h
  refine r_callV (dc_L_law_10 25 rfl) mv_X10_join ml_RL_211 (As := [.int x150, .int x151]) (t_X10_join (d := d - 1) hl (by omega) e0) (by omega) rfl (Nat.le_of_ble_eq_true rfl) ?_
  refine r_istore (dc_L_law_10 26 rfl) (by decide) (lo' := [(6, .int x153), (5, .int x149), (0, .ref 0), (1, .ref pC1), (2, .ref pC2), (3, .ref pC3), (4, .int xC4)]) rfl ?_
  refine r_aload_n (dc_L_law_10 27 rfl) rfl rfl ?_
  obtain ⟨x154, e0, h⟩ := Option.bind_eq_some_iff.mp h
  refine r_callV (dc_L_law_10 28 rfl) mv_X10_thrown ml_RL_166 (As := []) (t_X10_thrown (d := d - 1) hl (by omega) e0) (by omega) rfl (Nat.le_of_ble_eq_true rfl) ?_
  refine r_iload (dc_L_law_10 29 rfl) rfl ?_
  refine r_icmp_eq (dc_L_law_10 30 rfl) (tgt := 1204) (by decide) (fun c0 => ?_) (fun c0 => ?_)
  · rw [if_pos c0] at h
    refine r_iload (dc_L_law_10 33 rfl) rfl ?_
    refine r_if_ne (dc_L_law_10 34 rfl) (tgt := 1221) (by decide) (fun c0 => ?_) (fun c0 => ?_)
    · rw [if_neg c0] at h
      refine r_goto (dc_L_law_10 44 rfl) (tgt := 3394) (by decide) ?_
      refine r_pick [2, 3, 4, 5, 6] (lo' := [(0, .ref 0), (1, .ref pC1), (2, .ref pC2), (3, .ref pC3), (4, .int xC4)]) rfl ?_
      exact hkJ _ h
    · rw [if_pos c0] at h
      refine r_aload_n (dc_L_law_10 35 rfl) rfl rfl ?_
      refine r_iconst (dc_L_law_10 36 rfl) kiconst_0 ?_
      obtain ⟨y155, e0, h⟩ := Option.bind_eq_some_iff.mp h
      refine r_lald (dc_L_law_10 37 rfl) e0 ?_
      refine r_iload (dc_L_law_10 38 rfl) rfl ?_
      refine r_i2l (dc_L_law_10 39 rfl) ?_
      refine r_lcmp (dc_L_law_10 40 rfl) ?_
      refine r_if_eq (dc_L_law_10 41 rfl) (tgt := 1221) (by decide) (fun c0 => ?_) (fun c0 => ?_)
      · rw [if_pos c0] at h
        refine r_goto (dc_L_law_10 44 rfl) (tgt := 3394) (by decide) ?_
        refine r_pick [2, 3, 4, 5, 6] (lo' := [(0, .ref 0), (1, .ref pC1), (2, .ref pC2), (3, .ref pC3), (4, .int xC4)]) rfl ?_
        exact hkJ _ h
      · rw [if_neg c0] at h
        refine r_iconst (dc_L_law_10 42 rfl) kiconst_0 ?_
        cases h
        exact r_zreturn (dc_L_law_10 43 rfl) rfl (Or.inl rfl)
  · rw [if_neg c0] at h
    refine r_iconst (dc_L_law_10 31 rfl) kiconst_0 ?_
    cases h
    exact r_zreturn (dc_L_law_10 32 rfl) rfl (Or.inl rfl)
theorem l_L_law_C14 {G : Gx} {d : Nat} (hl : G.1.stackTraces = false) (hd : 15 ≤ d) {pC1 : Nat} {pC2 : Nat} {pC3 : Nat} {xC4 : Int32} {sC : Sto} {r : (Int32 × Sto)} {kJ : Sto → Option (Int32 × Sto)} (hkJ : ∀ (sJ : Sto), kJ sJ = some r → J G d m_L_law 3394 [(0, .ref 0), (1, .ref pC1), (2, .ref pC2), (3, .ref pC3), (4, .int xC4)] [] sJ (.inl (some (.int r.1))) r.2) (h : F_L_law_C14 G.sl G.sx pC1 pC2 pC3 xC4 sC kJ = some r) : J G d m_L_law 1224 [(0, .ref 0), (1, .ref pC1), (2, .ref pC2), (3, .ref pC3), (4, .int xC4)] [] sC (.inl (some (.int r.1))) r.2 := by
  rw [F_L_law_C14] at h
  refine r_aload_n (dc_L_law_10 45 rfl) rfl rfl ?_
  refine r_aload_n (dc_L_law_10 46 rfl) rfl rfl ?_
  refine r_iload (dc_L_law_10 47 rfl) rfl ?_
  refine r_iconst (dc_L_law_10 48 rfl) kiconst_1 ?_
  refine r_iadd (dc_L_law_10 49 rfl) ?_
  obtain ⟨x156, e0, h⟩ := Option.bind_eq_some_iff.mp h
  obtain ⟨hin, ex⟩ := sld_some e0
  refine r_sld (dc_L_law_10 50 rfl) hin ?_
  rw [← ex]
  refine r_aload_n (dc_L_law_10 51 rfl) rfl rfl ?_
  refine r_iload (dc_L_law_10 52 rfl) rfl ?_
  refine r_iconst (dc_L_law_10 53 rfl) kiconst_2 ?_
  refine r_iadd (dc_L_law_10 54 rfl) ?_
  obtain ⟨x157, e0, h⟩ := Option.bind_eq_some_iff.mp h
  obtain ⟨hin, ex⟩ := sld_some e0
  refine r_sld (dc_L_law_10 55 rfl) hin ?_
  rw [← ex]
  refine r_aload_n (dc_L_law_10 56 rfl) rfl rfl ?_
  obtain ⟨x159, s158, e0, h⟩ := wb_some h
  refine r_callSH (dc_L_law_10 57 rfl) mh_L_chance ml_RL_212 (As := [.ref pC1, .int x156, .int x157, .ref pC3]) (t_L_chance (d := d - 1) hl (by omega) e0) (by omega) rfl (Nat.le_of_ble_eq_true rfl) ?_
  refine r_istore (dc_L_law_10 58 rfl) (by decide) (lo' := [(5, .int x159), (0, .ref 0), (1, .ref pC1), (2, .ref pC2), (3, .ref pC3), (4, .int xC4)]) rfl ?_
  refine r_aload_n (dc_L_law_10 59 rfl) rfl rfl ?_
  refine r_aload_n (dc_L_law_10 60 rfl) rfl rfl ?_
  refine r_iload (dc_L_law_10 61 rfl) rfl ?_
  refine r_iconst (dc_L_law_10 62 rfl) kiconst_1 ?_
  refine r_iadd (dc_L_law_10 63 rfl) ?_
  obtain ⟨x160, e0, h⟩ := Option.bind_eq_some_iff.mp h
  obtain ⟨hin, ex⟩ := sld_some e0
  refine r_sld (dc_L_law_11 0 rfl) hin ?_
  rw [← ex]
  refine r_aload_n (dc_L_law_11 1 rfl) rfl rfl ?_
  refine r_iload (dc_L_law_11 2 rfl) rfl ?_
  refine r_iconst (dc_L_law_11 3 rfl) kiconst_2 ?_
  refine r_iadd (dc_L_law_11 4 rfl) ?_
  obtain ⟨x161, e0, h⟩ := Option.bind_eq_some_iff.mp h
  obtain ⟨hin, ex⟩ := sld_some e0
  refine r_sld (dc_L_law_11 5 rfl) hin ?_
  rw [← ex]
  obtain ⟨x163, s162, e0, h⟩ := wb_some h
  refine r_callV (dc_L_law_11 6 rfl) mv_X10_chance ml_RL_214 (As := [.int x160, .int x161]) (t_X10_chance (d := d - 1) hl (by omega) e0) (by omega) rfl (Nat.le_of_ble_eq_true rfl) ?_
  refine r_istore (dc_L_law_11 7 rfl) (by decide) (lo' := [(6, .int x163), (5, .int x159), (0, .ref 0), (1, .ref pC1), (2, .ref pC2), (3, .ref pC3), (4, .int xC4)]) rfl ?_
  refine r_aload_n (dc_L_law_11 8 rfl) rfl rfl ?_
  obtain ⟨x164, e0, h⟩ := Option.bind_eq_some_iff.mp h
  refine r_callV (dc_L_law_11 9 rfl) mv_X10_thrown ml_RL_166 (As := []) (t_X10_thrown (d := d - 1) hl (by omega) e0) (by omega) rfl (Nat.le_of_ble_eq_true rfl) ?_
  refine r_iload (dc_L_law_11 10 rfl) rfl ?_
  refine r_icmp_eq (dc_L_law_11 11 rfl) (tgt := 1272) (by decide) (fun c0 => ?_) (fun c0 => ?_)
  · rw [if_pos c0] at h
    refine r_iload (dc_L_law_11 14 rfl) rfl ?_
    refine r_if_ne (dc_L_law_11 15 rfl) (tgt := 1289) (by decide) (fun c0 => ?_) (fun c0 => ?_)
    · rw [if_neg c0] at h
      refine r_goto (dc_L_law_11 25 rfl) (tgt := 3394) (by decide) ?_
      refine r_pick [2, 3, 4, 5, 6] (lo' := [(0, .ref 0), (1, .ref pC1), (2, .ref pC2), (3, .ref pC3), (4, .int xC4)]) rfl ?_
      exact hkJ _ h
    · rw [if_pos c0] at h
      refine r_aload_n (dc_L_law_11 16 rfl) rfl rfl ?_
      refine r_iconst (dc_L_law_11 17 rfl) kiconst_0 ?_
      obtain ⟨y165, e0, h⟩ := Option.bind_eq_some_iff.mp h
      refine r_lald (dc_L_law_11 18 rfl) e0 ?_
      refine r_iload (dc_L_law_11 19 rfl) rfl ?_
      refine r_i2l (dc_L_law_11 20 rfl) ?_
      refine r_lcmp (dc_L_law_11 21 rfl) ?_
      refine r_if_eq (dc_L_law_11 22 rfl) (tgt := 1289) (by decide) (fun c0 => ?_) (fun c0 => ?_)
      · rw [if_pos c0] at h
        refine r_goto (dc_L_law_11 25 rfl) (tgt := 3394) (by decide) ?_
        refine r_pick [2, 3, 4, 5, 6] (lo' := [(0, .ref 0), (1, .ref pC1), (2, .ref pC2), (3, .ref pC3), (4, .int xC4)]) rfl ?_
        exact hkJ _ h
      · rw [if_neg c0] at h
        refine r_iconst (dc_L_law_11 23 rfl) kiconst_0 ?_
        cases h
        exact r_zreturn (dc_L_law_11 24 rfl) rfl (Or.inl rfl)
  · rw [if_neg c0] at h
    refine r_iconst (dc_L_law_11 12 rfl) kiconst_0 ?_
    cases h
    exact r_zreturn (dc_L_law_11 13 rfl) rfl (Or.inl rfl)
theorem l_L_law_C15 {G : Gx} {d : Nat} (hl : G.1.stackTraces = false) (hd : 15 ≤ d) {pC1 : Nat} {pC2 : Nat} {pC3 : Nat} {xC4 : Int32} {sC : Sto} {r : (Int32 × Sto)} {kJ : Sto → Option (Int32 × Sto)} (hkJ : ∀ (sJ : Sto), kJ sJ = some r → J G d m_L_law 3394 [(0, .ref 0), (1, .ref pC1), (2, .ref pC2), (3, .ref pC3), (4, .int xC4)] [] sJ (.inl (some (.int r.1))) r.2) (h : F_L_law_C15 G.sl G.sx pC1 pC2 pC3 xC4 sC kJ = some r) : J G d m_L_law 1292 [(0, .ref 0), (1, .ref pC1), (2, .ref pC2), (3, .ref pC3), (4, .int xC4)] [] sC (.inl (some (.int r.1))) r.2 := by
  rw [F_L_law_C15] at h
  refine r_aload_n (dc_L_law_11 26 rfl) rfl rfl ?_
  refine r_aload_n (dc_L_law_11 27 rfl) rfl rfl ?_
  refine r_iload (dc_L_law_11 28 rfl) rfl ?_
  refine r_iconst (dc_L_law_11 29 rfl) kiconst_1 ?_
  refine r_iadd (dc_L_law_11 30 rfl) ?_
  obtain ⟨x166, e0, h⟩ := Option.bind_eq_some_iff.mp h
  obtain ⟨hin, ex⟩ := sld_some e0
  refine r_sld (dc_L_law_11 31 rfl) hin ?_
  rw [← ex]
  refine r_aload_n (dc_L_law_11 32 rfl) rfl rfl ?_
  obtain ⟨x168, s167, e0, h⟩ := wb_some h
  refine r_callSH (dc_L_law_11 33 rfl) mh_L_keep ml_RL_215 (As := [.ref pC1, .int x166, .ref pC3]) (t_L_keep (d := d - 1) hl (by omega) e0) (by omega) rfl (Nat.le_of_ble_eq_true rfl) ?_
  refine r_istore (dc_L_law_11 34 rfl) (by decide) (lo' := [(5, .int x168), (0, .ref 0), (1, .ref pC1), (2, .ref pC2), (3, .ref pC3), (4, .int xC4)]) rfl ?_
  refine r_aload_n (dc_L_law_11 35 rfl) rfl rfl ?_
  refine r_aload_n (dc_L_law_11 36 rfl) rfl rfl ?_
  refine r_iload (dc_L_law_11 37 rfl) rfl ?_
  refine r_iconst (dc_L_law_11 38 rfl) kiconst_1 ?_
  refine r_iadd (dc_L_law_11 39 rfl) ?_
  obtain ⟨x169, e0, h⟩ := Option.bind_eq_some_iff.mp h
  obtain ⟨hin, ex⟩ := sld_some e0
  refine r_sld (dc_L_law_11 40 rfl) hin ?_
  rw [← ex]
  obtain ⟨x171, s170, e0, h⟩ := wb_some h
  refine r_callV (dc_L_law_11 41 rfl) mv_X10_keep ml_RL_217 (As := [.int x169]) (t_X10_keep (d := d - 1) hl (by omega) e0) (by omega) rfl (Nat.le_of_ble_eq_true rfl) ?_
  refine r_istore (dc_L_law_11 42 rfl) (by decide) (lo' := [(6, .int x171), (5, .int x168), (0, .ref 0), (1, .ref pC1), (2, .ref pC2), (3, .ref pC3), (4, .int xC4)]) rfl ?_
  refine r_aload_n (dc_L_law_11 43 rfl) rfl rfl ?_
  obtain ⟨x172, e0, h⟩ := Option.bind_eq_some_iff.mp h
  refine r_callV (dc_L_law_11 44 rfl) mv_X10_thrown ml_RL_166 (As := []) (t_X10_thrown (d := d - 1) hl (by omega) e0) (by omega) rfl (Nat.le_of_ble_eq_true rfl) ?_
  refine r_iload (dc_L_law_11 45 rfl) rfl ?_
  refine r_icmp_eq (dc_L_law_11 46 rfl) (tgt := 1328) (by decide) (fun c0 => ?_) (fun c0 => ?_)
  · rw [if_pos c0] at h
    refine r_iload (dc_L_law_11 49 rfl) rfl ?_
    refine r_if_ne (dc_L_law_11 50 rfl) (tgt := 1345) (by decide) (fun c0 => ?_) (fun c0 => ?_)
    · rw [if_neg c0] at h
      refine r_goto (dc_L_law_11 60 rfl) (tgt := 3394) (by decide) ?_
      refine r_pick [2, 3, 4, 5, 6] (lo' := [(0, .ref 0), (1, .ref pC1), (2, .ref pC2), (3, .ref pC3), (4, .int xC4)]) rfl ?_
      exact hkJ _ h
    · rw [if_pos c0] at h
      refine r_aload_n (dc_L_law_11 51 rfl) rfl rfl ?_
      refine r_iconst (dc_L_law_11 52 rfl) kiconst_0 ?_
      obtain ⟨y173, e0, h⟩ := Option.bind_eq_some_iff.mp h
      refine r_lald (dc_L_law_11 53 rfl) e0 ?_
      refine r_iload (dc_L_law_11 54 rfl) rfl ?_
      refine r_i2l (dc_L_law_11 55 rfl) ?_
      refine r_lcmp (dc_L_law_11 56 rfl) ?_
      refine r_if_eq (dc_L_law_11 57 rfl) (tgt := 1345) (by decide) (fun c0 => ?_) (fun c0 => ?_)
      · rw [if_pos c0] at h
        refine r_goto (dc_L_law_11 60 rfl) (tgt := 3394) (by decide) ?_
        refine r_pick [2, 3, 4, 5, 6] (lo' := [(0, .ref 0), (1, .ref pC1), (2, .ref pC2), (3, .ref pC3), (4, .int xC4)]) rfl ?_
        exact hkJ _ h
      · rw [if_neg c0] at h
        refine r_iconst (dc_L_law_11 58 rfl) kiconst_0 ?_
        cases h
        exact r_zreturn (dc_L_law_11 59 rfl) rfl (Or.inl rfl)
  · rw [if_neg c0] at h
    refine r_iconst (dc_L_law_11 47 rfl) kiconst_0 ?_
    cases h
    exact r_zreturn (dc_L_law_11 48 rfl) rfl (Or.inl rfl)
theorem l_L_law_C16 {G : Gx} {d : Nat} (hl : G.1.stackTraces = false) (hd : 15 ≤ d) {pC1 : Nat} {pC2 : Nat} {pC3 : Nat} {xC4 : Int32} {sC : Sto} {r : (Int32 × Sto)} {kJ : Sto → Option (Int32 × Sto)} (hkJ : ∀ (sJ : Sto), kJ sJ = some r → J G d m_L_law 3394 [(0, .ref 0), (1, .ref pC1), (2, .ref pC2), (3, .ref pC3), (4, .int xC4)] [] sJ (.inl (some (.int r.1))) r.2) (h : F_L_law_C16 G.sl G.sx pC1 pC2 pC3 xC4 sC kJ = some r) : J G d m_L_law 1348 [(0, .ref 0), (1, .ref pC1), (2, .ref pC2), (3, .ref pC3), (4, .int xC4)] [] sC (.inl (some (.int r.1))) r.2 := by
  rw [F_L_law_C16] at h
  refine r_aload_n (dc_L_law_11 61 rfl) rfl rfl ?_
  refine r_aload_n (dc_L_law_11 62 rfl) rfl rfl ?_
  refine r_iload (dc_L_law_11 63 rfl) rfl ?_
  refine r_iconst (dc_L_law_12 0 rfl) kiconst_1 ?_
  refine r_iadd (dc_L_law_12 1 rfl) ?_
  obtain ⟨x174, e0, h⟩ := Option.bind_eq_some_iff.mp h
  obtain ⟨hin, ex⟩ := sld_some e0
  refine r_sld (dc_L_law_12 2 rfl) hin ?_
  rw [← ex]
  refine r_aload_n (dc_L_law_12 3 rfl) rfl rfl ?_
  obtain ⟨x176, s175, e0, h⟩ := wb_some h
  refine r_callSH (dc_L_law_12 4 rfl) mh_L_back ml_RL_218 (As := [.ref pC1, .int x174, .ref pC3]) (t_L_back (d := d - 1) hl (by omega) e0) (by omega) rfl (Nat.le_of_ble_eq_true rfl) ?_
  refine r_istore (dc_L_law_12 5 rfl) (by decide) (lo' := [(5, .int x176), (0, .ref 0), (1, .ref pC1), (2, .ref pC2), (3, .ref pC3), (4, .int xC4)]) rfl ?_
  refine r_aload_n (dc_L_law_12 6 rfl) rfl rfl ?_
  refine r_aload_n (dc_L_law_12 7 rfl) rfl rfl ?_
  refine r_iload (dc_L_law_12 8 rfl) rfl ?_
  refine r_iconst (dc_L_law_12 9 rfl) kiconst_1 ?_
  refine r_iadd (dc_L_law_12 10 rfl) ?_
  obtain ⟨x177, e0, h⟩ := Option.bind_eq_some_iff.mp h
  obtain ⟨hin, ex⟩ := sld_some e0
  refine r_sld (dc_L_law_12 11 rfl) hin ?_
  rw [← ex]
  obtain ⟨x179, s178, e0, h⟩ := wb_some h
  refine r_callV (dc_L_law_12 12 rfl) mv_X10_back ml_RL_220 (As := [.int x177]) (t_X10_back (d := d - 1) hl (by omega) e0) (by omega) rfl (Nat.le_of_ble_eq_true rfl) ?_
  refine r_istore (dc_L_law_12 13 rfl) (by decide) (lo' := [(6, .int x179), (5, .int x176), (0, .ref 0), (1, .ref pC1), (2, .ref pC2), (3, .ref pC3), (4, .int xC4)]) rfl ?_
  refine r_aload_n (dc_L_law_12 14 rfl) rfl rfl ?_
  obtain ⟨x180, e0, h⟩ := Option.bind_eq_some_iff.mp h
  refine r_callV (dc_L_law_12 15 rfl) mv_X10_thrown ml_RL_166 (As := []) (t_X10_thrown (d := d - 1) hl (by omega) e0) (by omega) rfl (Nat.le_of_ble_eq_true rfl) ?_
  refine r_iload (dc_L_law_12 16 rfl) rfl ?_
  refine r_icmp_eq (dc_L_law_12 17 rfl) (tgt := 1384) (by decide) (fun c0 => ?_) (fun c0 => ?_)
  · rw [if_pos c0] at h
    refine r_iload (dc_L_law_12 20 rfl) rfl ?_
    refine r_if_ne (dc_L_law_12 21 rfl) (tgt := 1401) (by decide) (fun c0 => ?_) (fun c0 => ?_)
    · rw [if_neg c0] at h
      refine r_goto (dc_L_law_12 31 rfl) (tgt := 3394) (by decide) ?_
      refine r_pick [2, 3, 4, 5, 6] (lo' := [(0, .ref 0), (1, .ref pC1), (2, .ref pC2), (3, .ref pC3), (4, .int xC4)]) rfl ?_
      exact hkJ _ h
    · rw [if_pos c0] at h
      refine r_aload_n (dc_L_law_12 22 rfl) rfl rfl ?_
      refine r_iconst (dc_L_law_12 23 rfl) kiconst_0 ?_
      obtain ⟨y181, e0, h⟩ := Option.bind_eq_some_iff.mp h
      refine r_lald (dc_L_law_12 24 rfl) e0 ?_
      refine r_iload (dc_L_law_12 25 rfl) rfl ?_
      refine r_i2l (dc_L_law_12 26 rfl) ?_
      refine r_lcmp (dc_L_law_12 27 rfl) ?_
      refine r_if_eq (dc_L_law_12 28 rfl) (tgt := 1401) (by decide) (fun c0 => ?_) (fun c0 => ?_)
      · rw [if_pos c0] at h
        refine r_goto (dc_L_law_12 31 rfl) (tgt := 3394) (by decide) ?_
        refine r_pick [2, 3, 4, 5, 6] (lo' := [(0, .ref 0), (1, .ref pC1), (2, .ref pC2), (3, .ref pC3), (4, .int xC4)]) rfl ?_
        exact hkJ _ h
      · rw [if_neg c0] at h
        refine r_iconst (dc_L_law_12 29 rfl) kiconst_0 ?_
        cases h
        exact r_zreturn (dc_L_law_12 30 rfl) rfl (Or.inl rfl)
  · rw [if_neg c0] at h
    refine r_iconst (dc_L_law_12 18 rfl) kiconst_0 ?_
    cases h
    exact r_zreturn (dc_L_law_12 19 rfl) rfl (Or.inl rfl)
theorem l_L_law_C17 {G : Gx} {d : Nat} (hl : G.1.stackTraces = false) (hd : 15 ≤ d) {pC1 : Nat} {pC2 : Nat} {pC3 : Nat} {xC4 : Int32} {sC : Sto} {r : (Int32 × Sto)} {kJ : Sto → Option (Int32 × Sto)} (hkJ : ∀ (sJ : Sto), kJ sJ = some r → J G d m_L_law 3394 [(0, .ref 0), (1, .ref pC1), (2, .ref pC2), (3, .ref pC3), (4, .int xC4)] [] sJ (.inl (some (.int r.1))) r.2) (h : F_L_law_C17 G.sl G.sx pC1 pC2 pC3 xC4 sC kJ = some r) : J G d m_L_law 1404 [(0, .ref 0), (1, .ref pC1), (2, .ref pC2), (3, .ref pC3), (4, .int xC4)] [] sC (.inl (some (.int r.1))) r.2 := by
  rw [F_L_law_C17] at h
  refine r_aload_n (dc_L_law_12 32 rfl) rfl rfl ?_
  refine r_aload_n (dc_L_law_12 33 rfl) rfl rfl ?_
  refine r_iload (dc_L_law_12 34 rfl) rfl ?_
  refine r_iconst (dc_L_law_12 35 rfl) kiconst_1 ?_
  refine r_iadd (dc_L_law_12 36 rfl) ?_
  obtain ⟨x182, e0, h⟩ := Option.bind_eq_some_iff.mp h
  obtain ⟨hin, ex⟩ := sld_some e0
  refine r_sld (dc_L_law_12 37 rfl) hin ?_
  rw [← ex]
  refine r_aload_n (dc_L_law_12 38 rfl) rfl rfl ?_
  refine r_iload (dc_L_law_12 39 rfl) rfl ?_
  refine r_iconst (dc_L_law_12 40 rfl) kiconst_2 ?_
  refine r_iadd (dc_L_law_12 41 rfl) ?_
  obtain ⟨x183, e0, h⟩ := Option.bind_eq_some_iff.mp h
  obtain ⟨hin, ex⟩ := sld_some e0
  refine r_sld (dc_L_law_12 42 rfl) hin ?_
  rw [← ex]
  refine r_aload_n (dc_L_law_12 43 rfl) rfl rfl ?_
  refine r_iload (dc_L_law_12 44 rfl) rfl ?_
  refine r_iconst (dc_L_law_12 45 rfl) kiconst_3 ?_
  refine r_iadd (dc_L_law_12 46 rfl) ?_
  obtain ⟨x184, e0, h⟩ := Option.bind_eq_some_iff.mp h
  obtain ⟨hin, ex⟩ := sld_some e0
  refine r_sld (dc_L_law_12 47 rfl) hin ?_
  rw [← ex]
  refine jn_elim h (Q := fun (j : Int32 → Option (Int32 × Sto)) => ∀ (x186 : Int32), j x186 = some r → J G d m_L_law 1431 [(0, .ref 0), (1, .ref pC1), (2, .ref pC2), (3, .ref pC3), (4, .int xC4)] [.int x186, .int x183, .int x182, .ref pC1] sC (.inl (some (.int r.1))) r.2) ?_ (fun j185 hj185 h => ?_)
  · intro x186 h
    refine r_aload_n (dc_L_law_12 52 rfl) rfl rfl ?_
    obtain ⟨x188, s187, e0, h⟩ := wb_some h
    refine r_callSH (dc_L_law_12 53 rfl) mh_L_cut ml_RL_221 (As := [.ref pC1, .int x182, .int x183, .int x186, .ref pC3]) (t_L_cut (d := d - 1) hl (by omega) e0) (by omega) rfl (Nat.le_of_ble_eq_true rfl) ?_
    refine r_istore (dc_L_law_12 54 rfl) (by decide) (lo' := [(5, .int x188), (0, .ref 0), (1, .ref pC1), (2, .ref pC2), (3, .ref pC3), (4, .int xC4)]) rfl ?_
    refine r_aload_n (dc_L_law_12 55 rfl) rfl rfl ?_
    refine r_aload_n (dc_L_law_12 56 rfl) rfl rfl ?_
    refine r_iload (dc_L_law_12 57 rfl) rfl ?_
    refine r_iconst (dc_L_law_12 58 rfl) kiconst_1 ?_
    refine r_iadd (dc_L_law_12 59 rfl) ?_
    obtain ⟨x189, e0, h⟩ := Option.bind_eq_some_iff.mp h
    obtain ⟨hin, ex⟩ := sld_some e0
    refine r_sld (dc_L_law_12 60 rfl) hin ?_
    rw [← ex]
    refine r_aload_n (dc_L_law_12 61 rfl) rfl rfl ?_
    refine r_iload (dc_L_law_12 62 rfl) rfl ?_
    refine r_iconst (dc_L_law_12 63 rfl) kiconst_2 ?_
    refine r_iadd (dc_L_law_13 0 rfl) ?_
    obtain ⟨x190, e0, h⟩ := Option.bind_eq_some_iff.mp h
    obtain ⟨hin, ex⟩ := sld_some e0
    refine r_sld (dc_L_law_13 1 rfl) hin ?_
    rw [← ex]
    refine r_aload_n (dc_L_law_13 2 rfl) rfl rfl ?_
    refine r_iload (dc_L_law_13 3 rfl) rfl ?_
    refine r_iconst (dc_L_law_13 4 rfl) kiconst_3 ?_
    refine r_iadd (dc_L_law_13 5 rfl) ?_
    obtain ⟨x191, e0, h⟩ := Option.bind_eq_some_iff.mp h
    obtain ⟨hin, ex⟩ := sld_some e0
    refine r_sld (dc_L_law_13 6 rfl) hin ?_
    rw [← ex]
    refine jn_elim h (Q := fun (j : Int32 → Option (Int32 × Sto)) => ∀ (x193 : Int32), j x193 = some r → J G d m_L_law 1464 [(0, .ref 0), (1, .ref pC1), (2, .ref pC2), (3, .ref pC3), (4, .int xC4), (5, .int x188)] [.int x193, .int x190, .int x189, .ref pC2] s187 (.inl (some (.int r.1))) r.2) ?_ (fun j192 hj192 h => ?_)
    · intro x193 h
      obtain ⟨x195, s194, e0, h⟩ := wb_some h
      refine r_callV (dc_L_law_13 11 rfl) mv_X10_cut ml_RL_224 (As := [.int x189, .int x190, .int x193]) (t_X10_cut (d := d - 1) hl (by omega) e0) (by omega) rfl (Nat.le_of_ble_eq_true rfl) ?_
      refine r_istore (dc_L_law_13 12 rfl) (by decide) (lo' := [(6, .int x195), (0, .ref 0), (1, .ref pC1), (2, .ref pC2), (3, .ref pC3), (4, .int xC4), (5, .int x188)]) rfl ?_
      refine r_aload_n (dc_L_law_13 13 rfl) rfl rfl ?_
      obtain ⟨x196, e0, h⟩ := Option.bind_eq_some_iff.mp h
      refine r_callV (dc_L_law_13 14 rfl) mv_X10_thrown ml_RL_166 (As := []) (t_X10_thrown (d := d - 1) hl (by omega) e0) (by omega) rfl (Nat.le_of_ble_eq_true rfl) ?_
      refine r_iload (dc_L_law_13 15 rfl) rfl ?_
      refine r_icmp_eq (dc_L_law_13 16 rfl) (tgt := 1480) (by decide) (fun c0 => ?_) (fun c0 => ?_)
      · rw [if_pos c0] at h
        refine r_iload (dc_L_law_13 19 rfl) rfl ?_
        refine r_if_ne (dc_L_law_13 20 rfl) (tgt := 1504) (by decide) (fun c0 => ?_) (fun c0 => ?_)
        · rw [if_neg c0] at h
          refine r_goto (dc_L_law_13 33 rfl) (tgt := 3394) (by decide) ?_
          refine r_pick [1, 2, 3, 4, 5] (lo' := [(0, .ref 0), (1, .ref pC1), (2, .ref pC2), (3, .ref pC3), (4, .int xC4)]) rfl ?_
          exact hkJ _ h
        · rw [if_pos c0] at h
          refine r_aload_n (dc_L_law_13 21 rfl) rfl rfl ?_
          refine r_iconst (dc_L_law_13 22 rfl) kiconst_0 ?_
          obtain ⟨y197, e0, h⟩ := Option.bind_eq_some_iff.mp h
          refine r_lald (dc_L_law_13 23 rfl) e0 ?_
          refine r_iload (dc_L_law_13 24 rfl) rfl ?_
          refine jn_elim h (Q := fun (j : Int64 → Option (Int32 × Sto)) => ∀ (y199 : Int64), j y199 = some r → J G d m_L_law 1498 [(0, .ref 0), (1, .ref pC1), (2, .ref pC2), (3, .ref pC3), (4, .int xC4)] [.long y199, .long y197] s194 (.inl (some (.int r.1))) r.2) ?_ (fun j198 hj198 h => ?_)
          · intro y199 h
            refine r_lcmp (dc_L_law_13 29 rfl) ?_
            refine r_if_eq (dc_L_law_13 30 rfl) (tgt := 1504) (by decide) (fun c0 => ?_) (fun c0 => ?_)
            · rw [if_pos c0] at h
              refine r_goto (dc_L_law_13 33 rfl) (tgt := 3394) (by decide) ?_
              exact hkJ _ h
            · rw [if_neg c0] at h
              refine r_iconst (dc_L_law_13 31 rfl) kiconst_0 ?_
              cases h
              exact r_zreturn (dc_L_law_13 32 rfl) rfl (Or.inl rfl)
          refine r_if_eq (dc_L_law_13 25 rfl) (tgt := 1497) (by decide) (fun c0 => ?_) (fun c0 => ?_)
          · rw [if_pos c0] at h
            refine r_lconst (dc_L_law_13 28 rfl) klconst_0 ?_
            refine r_pick [1, 2, 3, 4, 5] (lo' := [(0, .ref 0), (1, .ref pC1), (2, .ref pC2), (3, .ref pC3), (4, .int xC4)]) rfl ?_
            exact hj198 _ h
          · rw [if_neg c0] at h
            refine r_lconst (dc_L_law_13 26 rfl) klconst_1 ?_
            refine r_goto (dc_L_law_13 27 rfl) (tgt := 1498) (by decide) ?_
            refine r_pick [1, 2, 3, 4, 5] (lo' := [(0, .ref 0), (1, .ref pC1), (2, .ref pC2), (3, .ref pC3), (4, .int xC4)]) rfl ?_
            exact hj198 _ h
      · rw [if_neg c0] at h
        refine r_iconst (dc_L_law_13 17 rfl) kiconst_0 ?_
        cases h
        exact r_zreturn (dc_L_law_13 18 rfl) rfl (Or.inl rfl)
    refine r_if_eq (dc_L_law_13 7 rfl) (tgt := 1463) (by decide) (fun c0 => ?_) (fun c0 => ?_)
    · rw [if_pos c0] at h
      refine r_iconst (dc_L_law_13 10 rfl) kiconst_0 ?_
      refine r_pick [1, 2, 3, 4, 5, 0] (lo' := [(0, .ref 0), (1, .ref pC1), (2, .ref pC2), (3, .ref pC3), (4, .int xC4), (5, .int x188)]) rfl ?_
      exact hj192 _ h
    · rw [if_neg c0] at h
      refine r_iconst (dc_L_law_13 8 rfl) kiconst_1 ?_
      refine r_goto (dc_L_law_13 9 rfl) (tgt := 1464) (by decide) ?_
      refine r_pick [1, 2, 3, 4, 5, 0] (lo' := [(0, .ref 0), (1, .ref pC1), (2, .ref pC2), (3, .ref pC3), (4, .int xC4), (5, .int x188)]) rfl ?_
      exact hj192 _ h
  refine r_if_eq (dc_L_law_12 48 rfl) (tgt := 1430) (by decide) (fun c0 => ?_) (fun c0 => ?_)
  · rw [if_pos c0] at h
    refine r_iconst (dc_L_law_12 51 rfl) kiconst_0 ?_
    exact hj185 _ h
  · rw [if_neg c0] at h
    refine r_iconst (dc_L_law_12 49 rfl) kiconst_1 ?_
    refine r_goto (dc_L_law_12 50 rfl) (tgt := 1431) (by decide) ?_
    exact hj185 _ h
