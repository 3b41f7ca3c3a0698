theorem l_L_law_C30 {G : Gx} {d : Nat} (hl : G.1.stackTraces = false) (hd : 15 ≤ d) {pC1 : Nat} {pC2 : Nat} {pC3 : Nat} {xC4 : Int32} {sC : Sto} {r : (Int32 × Sto)} {kJ : Sto → Option (Int32 × Sto)} (hkJ : ∀ (sJ : Sto), kJ sJ = some r → J G d m_L_law 3394 [(0, .ref 0), (1, .ref pC1), (2, .ref pC2), (3, .ref pC3), (4, .int xC4)] [] sJ (.inl (some (.int r.1))) r.2) (h : F_L_law_C30 G.sl G.sx pC1 pC2 pC3 xC4 sC kJ = some r) : J G d m_L_law 2392 [(0, .ref 0), (1, .ref pC1), (2, .ref pC2), (3, .ref pC3), (4, .int xC4)] [] sC (.inl (some (.int r.1))) r.2 := by
  rw [F_L_law_C30] at h
  refine r_aload_n (dc_L_law_22 47 rfl) rfl rfl ?_
  refine r_aload_n (dc_L_law_22 48 rfl) rfl rfl ?_
  refine r_iload (dc_L_law_22 49 rfl) rfl ?_
  refine r_iconst (dc_L_law_22 50 rfl) kiconst_1 ?_
  refine r_iadd (dc_L_law_22 51 rfl) ?_
  obtain ⟨x334, e0, h⟩ := Option.bind_eq_some_iff.mp h
  obtain ⟨hin, ex⟩ := sld_some e0
  refine r_sld (dc_L_law_22 52 rfl) hin ?_
  rw [← ex]
  refine r_aload_n (dc_L_law_22 53 rfl) rfl rfl ?_
  refine r_iload (dc_L_law_22 54 rfl) rfl ?_
  refine r_iconst (dc_L_law_22 55 rfl) kiconst_2 ?_
  refine r_iadd (dc_L_law_22 56 rfl) ?_
  obtain ⟨x335, e0, h⟩ := Option.bind_eq_some_iff.mp h
  obtain ⟨hin, ex⟩ := sld_some e0
  refine r_sld (dc_L_law_22 57 rfl) hin ?_
  rw [← ex]
  refine r_aload_n (dc_L_law_22 58 rfl) rfl rfl ?_
  refine r_iload (dc_L_law_22 59 rfl) rfl ?_
  refine r_iconst (dc_L_law_22 60 rfl) kiconst_3 ?_
  refine r_iadd (dc_L_law_22 61 rfl) ?_
  obtain ⟨x336, e0, h⟩ := Option.bind_eq_some_iff.mp h
  obtain ⟨hin, ex⟩ := sld_some e0
  refine r_sld (dc_L_law_22 62 rfl) hin ?_
  rw [← ex]
  refine r_aload_n (dc_L_law_22 63 rfl) rfl rfl ?_
  obtain ⟨x338, s337, e0, h⟩ := wb_some h
  refine r_callSH (dc_L_law_23 0 rfl) mh_L_came ml_RL_261 (As := [.ref pC1, .int x334, .int x335, .int x336, .ref pC3]) (t_L_came (d := d - 1) hl (by omega) e0) (by omega) rfl (Nat.le_of_ble_eq_true rfl) ?_
  refine r_istore (dc_L_law_23 1 rfl) (by decide) (lo' := [(5, .int x338), (0, .ref 0), (1, .ref pC1), (2, .ref pC2), (3, .ref pC3), (4, .int xC4)]) rfl ?_
  refine r_aload_n (dc_L_law_23 2 rfl) rfl rfl ?_
  refine r_aload_n (dc_L_law_23 3 rfl) rfl rfl ?_
  refine r_iload (dc_L_law_23 4 rfl) rfl ?_
  refine r_iconst (dc_L_law_23 5 rfl) kiconst_1 ?_
  refine r_iadd (dc_L_law_23 6 rfl) ?_
  obtain ⟨x339, e0, h⟩ := Option.bind_eq_some_iff.mp h
  obtain ⟨hin, ex⟩ := sld_some e0
  refine r_sld (dc_L_law_23 7 rfl) hin ?_
  rw [← ex]
  refine r_aload_n (dc_L_law_23 8 rfl) rfl rfl ?_
  refine r_iload (dc_L_law_23 9 rfl) rfl ?_
  refine r_iconst (dc_L_law_23 10 rfl) kiconst_2 ?_
  refine r_iadd (dc_L_law_23 11 rfl) ?_
  obtain ⟨x340, e0, h⟩ := Option.bind_eq_some_iff.mp h
  obtain ⟨hin, ex⟩ := sld_some e0
  refine r_sld (dc_L_law_23 12 rfl) hin ?_
  rw [← ex]
  refine r_aload_n (dc_L_law_23 13 rfl) rfl rfl ?_
  refine r_iload (dc_L_law_23 14 rfl) rfl ?_
  refine r_iconst (dc_L_law_23 15 rfl) kiconst_3 ?_
  refine r_iadd (dc_L_law_23 16 rfl) ?_
  obtain ⟨x341, e0, h⟩ := Option.bind_eq_some_iff.mp h
  obtain ⟨hin, ex⟩ := sld_some e0
  refine r_sld (dc_L_law_23 17 rfl) hin ?_
  rw [← ex]
  obtain ⟨x343, s342, e0, h⟩ := wb_some h
  refine r_callV (dc_L_law_23 18 rfl) mv_X10_came ml_RL_263 (As := [.int x339, .int x340, .int x341]) (t_X10_came (d := d - 1) hl (by omega) e0) (by omega) rfl (Nat.le_of_ble_eq_true rfl) ?_
  refine r_istore (dc_L_law_23 19 rfl) (by decide) (lo' := [(6, .int x343), (5, .int x338), (0, .ref 0), (1, .ref pC1), (2, .ref pC2), (3, .ref pC3), (4, .int xC4)]) rfl ?_
  refine r_aload_n (dc_L_law_23 20 rfl) rfl rfl ?_
  obtain ⟨x344, e0, h⟩ := Option.bind_eq_some_iff.mp h
  refine r_callV (dc_L_law_23 21 rfl) mv_X10_thrown ml_RL_166 (As := []) (t_X10_thrown (d := d - 1) hl (by omega) e0) (by omega) rfl (Nat.le_of_ble_eq_true rfl) ?_
  refine r_iload (dc_L_law_23 22 rfl) rfl ?_
  refine r_icmp_eq (dc_L_law_23 23 rfl) (tgt := 2452) (by decide) (fun c0 => ?_) (fun c0 => ?_)
  · rw [if_pos c0] at h
    refine r_iload (dc_L_law_23 26 rfl) rfl ?_
    refine r_if_ne (dc_L_law_23 27 rfl) (tgt := 2469) (by decide) (fun c0 => ?_) (fun c0 => ?_)
    · rw [if_neg c0] at h
      refine r_goto (dc_L_law_23 37 rfl) (tgt := 3394) (by decide) ?_
      refine r_pick [2, 3, 4, 5, 6] (lo' := [(0, .ref 0), (1, .ref pC1), (2, .ref pC2), (3, .ref pC3), (4, .int xC4)]) rfl ?_
      exact hkJ _ h
    · rw [if_pos c0] at h
      refine r_aload_n (dc_L_law_23 28 rfl) rfl rfl ?_
      refine r_iconst (dc_L_law_23 29 rfl) kiconst_0 ?_
      obtain ⟨y345, e0, h⟩ := Option.bind_eq_some_iff.mp h
      refine r_lald (dc_L_law_23 30 rfl) e0 ?_
      refine r_iload (dc_L_law_23 31 rfl) rfl ?_
      refine r_i2l (dc_L_law_23 32 rfl) ?_
      refine r_lcmp (dc_L_law_23 33 rfl) ?_
      refine r_if_eq (dc_L_law_23 34 rfl) (tgt := 2469) (by decide) (fun c0 => ?_) (fun c0 => ?_)
      · rw [if_pos c0] at h
        refine r_goto (dc_L_law_23 37 rfl) (tgt := 3394) (by decide) ?_
        refine r_pick [2, 3, 4, 5, 6] (lo' := [(0, .ref 0), (1, .ref pC1), (2, .ref pC2), (3, .ref pC3), (4, .int xC4)]) rfl ?_
        exact hkJ _ h
      · rw [if_neg c0] at h
        refine r_iconst (dc_L_law_23 35 rfl) kiconst_0 ?_
        cases h
        exact r_zreturn (dc_L_law_23 36 rfl) rfl (Or.inl rfl)
  · rw [if_neg c0] at h
    refine r_iconst (dc_L_law_23 24 rfl) kiconst_0 ?_
    cases h
    exact r_zreturn (dc_L_law_23 25 rfl) rfl (Or.inl rfl)
theorem l_L_law_C31 {G : Gx} {d : Nat} (hl : G.1.stackTraces = false) (hd : 15 ≤ d) {pC1 : Nat} {pC2 : Nat} {pC3 : Nat} {xC4 : Int32} {sC : Sto} {r : (Int32 × Sto)} {kJ : Sto → Option (Int32 × Sto)} (hkJ : ∀ (sJ : Sto), kJ sJ = some r → J G d m_L_law 3394 [(0, .ref 0), (1, .ref pC1), (2, .ref pC2), (3, .ref pC3), (4, .int xC4)] [] sJ (.inl (some (.int r.1))) r.2) (h : F_L_law_C31 G.sl G.sx pC1 pC2 pC3 xC4 sC kJ = some r) : J G d m_L_law 2472 [(0, .ref 0), (1, .ref pC1), (2, .ref pC2), (3, .ref pC3), (4, .int xC4)] [] sC (.inl (some (.int r.1))) r.2 := by
  rw [F_L_law_C31] at h
  refine r_aload_n (dc_L_law_23 38 rfl) rfl rfl ?_
  refine r_aload_n (dc_L_law_23 39 rfl) rfl rfl ?_
  refine r_iload (dc_L_law_23 40 rfl) rfl ?_
  refine r_iconst (dc_L_law_23 41 rfl) kiconst_1 ?_
  refine r_iadd (dc_L_law_23 42 rfl) ?_
  obtain ⟨x346, e0, h⟩ := Option.bind_eq_some_iff.mp h
  obtain ⟨hin, ex⟩ := sld_some e0
  refine r_sld (dc_L_law_23 43 rfl) hin ?_
  rw [← ex]
  refine r_aload_n (dc_L_law_23 44 rfl) rfl rfl ?_
  refine r_iload (dc_L_law_23 45 rfl) rfl ?_
  refine r_iconst (dc_L_law_23 46 rfl) kiconst_2 ?_
  refine r_iadd (dc_L_law_23 47 rfl) ?_
  obtain ⟨x347, e0, h⟩ := Option.bind_eq_some_iff.mp h
  obtain ⟨hin, ex⟩ := sld_some e0
  refine r_sld (dc_L_law_23 48 rfl) hin ?_
  rw [← ex]
  refine r_aload_n (dc_L_law_23 49 rfl) rfl rfl ?_
  refine r_iload (dc_L_law_23 50 rfl) rfl ?_
  refine r_iconst (dc_L_law_23 51 rfl) kiconst_3 ?_
  refine r_iadd (dc_L_law_23 52 rfl) ?_
  obtain ⟨x348, e0, h⟩ := Option.bind_eq_some_iff.mp h
  obtain ⟨hin, ex⟩ := sld_some e0
  refine r_sld (dc_L_law_23 53 rfl) hin ?_
  rw [← ex]
  refine r_aload_n (dc_L_law_23 54 rfl) rfl rfl ?_
  obtain ⟨x350, s349, e0, h⟩ := wb_some h
  refine r_callSH (dc_L_law_23 55 rfl) mh_L_way ml_RL_264 (As := [.ref pC1, .int x346, .int x347, .int x348, .ref pC3]) (t_L_way (d := d - 1) hl (by omega) e0) (by omega) rfl (Nat.le_of_ble_eq_true rfl) ?_
  refine r_istore (dc_L_law_23 56 rfl) (by decide) (lo' := [(5, .int x350), (0, .ref 0), (1, .ref pC1), (2, .ref pC2), (3, .ref pC3), (4, .int xC4)]) rfl ?_
  refine r_aload_n (dc_L_law_23 57 rfl) rfl rfl ?_
  refine r_aload_n (dc_L_law_23 58 rfl) rfl rfl ?_
  refine r_iload (dc_L_law_23 59 rfl) rfl ?_
  refine r_iconst (dc_L_law_23 60 rfl) kiconst_1 ?_
  refine r_iadd (dc_L_law_23 61 rfl) ?_
  obtain ⟨x351, e0, h⟩ := Option.bind_eq_some_iff.mp h
  obtain ⟨hin, ex⟩ := sld_some e0
  refine r_sld (dc_L_law_23 62 rfl) hin ?_
  rw [← ex]
  refine r_aload_n (dc_L_law_23 63 rfl) rfl rfl ?_
  refine r_iload (dc_L_law_24 0 rfl) rfl ?_
  refine r_iconst (dc_L_law_24 1 rfl) kiconst_2 ?_
  refine r_iadd (dc_L_law_24 2 rfl) ?_
  obtain ⟨x352, e0, h⟩ := Option.bind_eq_some_iff.mp h
  obtain ⟨hin, ex⟩ := sld_some e0
  refine r_sld (dc_L_law_24 3 rfl) hin ?_
  rw [← ex]
  refine r_aload_n (dc_L_law_24 4 rfl) rfl rfl ?_
  refine r_iload (dc_L_law_24 5 rfl) rfl ?_
  refine r_iconst (dc_L_law_24 6 rfl) kiconst_3 ?_
  refine r_iadd (dc_L_law_24 7 rfl) ?_
  obtain ⟨x353, e0, h⟩ := Option.bind_eq_some_iff.mp h
  obtain ⟨hin, ex⟩ := sld_some e0
  refine r_sld (dc_L_law_24 8 rfl) hin ?_
  rw [← ex]
  obtain ⟨x355, s354, e0, h⟩ := wb_some h
  refine r_callV (dc_L_law_24 9 rfl) mv_X10_way ml_RL_266 (As := [.int x351, .int x352, .int x353]) (t_X10_way (d := d - 1) hl (by omega) e0) (by omega) rfl (Nat.le_of_ble_eq_true rfl) ?_
  refine r_istore (dc_L_law_24 10 rfl) (by decide) (lo' := [(6, .int x355), (5, .int x350), (0, .ref 0), (1, .ref pC1), (2, .ref pC2), (3, .ref pC3), (4, .int xC4)]) rfl ?_
  refine r_aload_n (dc_L_law_24 11 rfl) rfl rfl ?_
  obtain ⟨x356, e0, h⟩ := Option.bind_eq_some_iff.mp h
  refine r_callV (dc_L_law_24 12 rfl) mv_X10_thrown ml_RL_166 (As := []) (t_X10_thrown (d := d - 1) hl (by omega) e0) (by omega) rfl (Nat.le_of_ble_eq_true rfl) ?_
  refine r_iload (dc_L_law_24 13 rfl) rfl ?_
  refine r_icmp_eq (dc_L_law_24 14 rfl) (tgt := 2532) (by decide) (fun c0 => ?_) (fun c0 => ?_)
  · rw [if_pos c0] at h
    refine r_iload (dc_L_law_24 17 rfl) rfl ?_
    refine r_if_ne (dc_L_law_24 18 rfl) (tgt := 2549) (by decide) (fun c0 => ?_) (fun c0 => ?_)
    · rw [if_neg c0] at h
      refine r_goto (dc_L_law_24 28 rfl) (tgt := 3394) (by decide) ?_
      refine r_pick [2, 3, 4, 5, 6] (lo' := [(0, .ref 0), (1, .ref pC1), (2, .ref pC2), (3, .ref pC3), (4, .int xC4)]) rfl ?_
      exact hkJ _ h
    · rw [if_pos c0] at h
      refine r_aload_n (dc_L_law_24 19 rfl) rfl rfl ?_
      refine r_iconst (dc_L_law_24 20 rfl) kiconst_0 ?_
      obtain ⟨y357, e0, h⟩ := Option.bind_eq_some_iff.mp h
      refine r_lald (dc_L_law_24 21 rfl) e0 ?_
      refine r_iload (dc_L_law_24 22 rfl) rfl ?_
      refine r_i2l (dc_L_law_24 23 rfl) ?_
      refine r_lcmp (dc_L_law_24 24 rfl) ?_
      refine r_if_eq (dc_L_law_24 25 rfl) (tgt := 2549) (by decide) (fun c0 => ?_) (fun c0 => ?_)
      · rw [if_pos c0] at h
        refine r_goto (dc_L_law_24 28 rfl) (tgt := 3394) (by decide) ?_
        refine r_pick [2, 3, 4, 5, 6] (lo' := [(0, .ref 0), (1, .ref pC1), (2, .ref pC2), (3, .ref pC3), (4, .int xC4)]) rfl ?_
        exact hkJ _ h
      · rw [if_neg c0] at h
        refine r_iconst (dc_L_law_24 26 rfl) kiconst_0 ?_
        cases h
        exact r_zreturn (dc_L_law_24 27 rfl) rfl (Or.inl rfl)
  · rw [if_neg c0] at h
    refine r_iconst (dc_L_law_24 15 rfl) kiconst_0 ?_
    cases h
    exact r_zreturn (dc_L_law_24 16 rfl) rfl (Or.inl rfl)
theorem l_L_law_C32 {G : Gx} {d : Nat} (hl : G.1.stackTraces = false) (hd : 15 ≤ d) {pC1 : Nat} {pC2 : Nat} {pC3 : Nat} {xC4 : Int32} {sC : Sto} {r : (Int32 × Sto)} {kJ : Sto → Option (Int32 × Sto)} (hkJ : ∀ (sJ : Sto), kJ sJ = some r → J G d m_L_law 3394 [(0, .ref 0), (1, .ref pC1), (2, .ref pC2), (3, .ref pC3), (4, .int xC4)] [] sJ (.inl (some (.int r.1))) r.2) (h : F_L_law_C32 G.sl G.sx pC1 pC2 pC3 xC4 sC kJ = some r) : J G d m_L_law 2552 [(0, .ref 0), (1, .ref pC1), (2, .ref pC2), (3, .ref pC3), (4, .int xC4)] [] sC (.inl (some (.int r.1))) r.2 := by
  rw [F_L_law_C32] at h
  refine r_aload_n (dc_L_law_24 29 rfl) rfl rfl ?_
  refine r_aload_n (dc_L_law_24 30 rfl) rfl rfl ?_
  refine r_iload (dc_L_law_24 31 rfl) rfl ?_
  refine r_iconst (dc_L_law_24 32 rfl) kiconst_1 ?_
  refine r_iadd (dc_L_law_24 33 rfl) ?_
  obtain ⟨x358, e0, h⟩ := Option.bind_eq_some_iff.mp h
  obtain ⟨hin, ex⟩ := sld_some e0
  refine r_sld (dc_L_law_24 34 rfl) hin ?_
  rw [← ex]
  refine r_aload_n (dc_L_law_24 35 rfl) rfl rfl ?_
  obtain ⟨x360, s359, e0, h⟩ := wb_some h
  refine r_callSH (dc_L_law_24 36 rfl) mh_L_slowest ml_RL_267 (As := [.ref pC1, .int x358, .ref pC3]) (t_L_slowest (d := d - 1) hl (by omega) e0) (by omega) rfl (Nat.le_of_ble_eq_true rfl) ?_
  refine r_istore (dc_L_law_24 37 rfl) (by decide) (lo' := [(5, .int x360), (0, .ref 0), (1, .ref pC1), (2, .ref pC2), (3, .ref pC3), (4, .int xC4)]) rfl ?_
  refine r_aload_n (dc_L_law_24 38 rfl) rfl rfl ?_
  refine r_aload_n (dc_L_law_24 39 rfl) rfl rfl ?_
  refine r_iload (dc_L_law_24 40 rfl) rfl ?_
  refine r_iconst (dc_L_law_24 41 rfl) kiconst_1 ?_
  refine r_iadd (dc_L_law_24 42 rfl) ?_
  obtain ⟨x361, e0, h⟩ := Option.bind_eq_some_iff.mp h
  obtain ⟨hin, ex⟩ := sld_some e0
  refine r_sld (dc_L_law_24 43 rfl) hin ?_
  rw [← ex]
  obtain ⟨x363, s362, e0, h⟩ := wb_some h
  refine r_callV (dc_L_law_24 44 rfl) mv_X10_slowest ml_RL_269 (As := [.int x361]) (t_X10_slowest (d := d - 1) hl (by omega) e0) (by omega) rfl (Nat.le_of_ble_eq_true rfl) ?_
  refine r_istore (dc_L_law_24 45 rfl) (by decide) (lo' := [(6, .int x363), (5, .int x360), (0, .ref 0), (1, .ref pC1), (2, .ref pC2), (3, .ref pC3), (4, .int xC4)]) rfl ?_
  refine r_aload_n (dc_L_law_24 46 rfl) rfl rfl ?_
  obtain ⟨x364, e0, h⟩ := Option.bind_eq_some_iff.mp h
  refine r_callV (dc_L_law_24 47 rfl) mv_X10_thrown ml_RL_166 (As := []) (t_X10_thrown (d := d - 1) hl (by omega) e0) (by omega) rfl (Nat.le_of_ble_eq_true rfl) ?_
  refine r_iload (dc_L_law_24 48 rfl) rfl ?_
  refine r_icmp_eq (dc_L_law_24 49 rfl) (tgt := 2588) (by decide) (fun c0 => ?_) (fun c0 => ?_)
  · rw [if_pos c0] at h
    refine r_iload (dc_L_law_24 52 rfl) rfl ?_
    refine r_if_ne (dc_L_law_24 53 rfl) (tgt := 2605) (by decide) (fun c0 => ?_) (fun c0 => ?_)
    · rw [if_neg c0] at h
      refine r_goto (dc_L_law_24 63 rfl) (tgt := 3394) (by decide) ?_
      refine r_pick [2, 3, 4, 5, 6] (lo' := [(0, .ref 0), (1, .ref pC1), (2, .ref pC2), (3, .ref pC3), (4, .int xC4)]) rfl ?_
      exact hkJ _ h
    · rw [if_pos c0] at h
      refine r_aload_n (dc_L_law_24 54 rfl) rfl rfl ?_
      refine r_iconst (dc_L_law_24 55 rfl) kiconst_0 ?_
      obtain ⟨y365, e0, h⟩ := Option.bind_eq_some_iff.mp h
      refine r_lald (dc_L_law_24 56 rfl) e0 ?_
      refine r_iload (dc_L_law_24 57 rfl) rfl ?_
      refine r_i2l (dc_L_law_24 58 rfl) ?_
      refine r_lcmp (dc_L_law_24 59 rfl) ?_
      refine r_if_eq (dc_L_law_24 60 rfl) (tgt := 2605) (by decide) (fun c0 => ?_) (fun c0 => ?_)
      · rw [if_pos c0] at h
        refine r_goto (dc_L_law_24 63 rfl) (tgt := 3394) (by decide) ?_
        refine r_pick [2, 3, 4, 5, 6] (lo' := [(0, .ref 0), (1, .ref pC1), (2, .ref pC2), (3, .ref pC3), (4, .int xC4)]) rfl ?_
        exact hkJ _ h
      · rw [if_neg c0] at h
        refine r_iconst (dc_L_law_24 61 rfl) kiconst_0 ?_
        cases h
        exact r_zreturn (dc_L_law_24 62 rfl) rfl (Or.inl rfl)
  · rw [if_neg c0] at h
    refine r_iconst (dc_L_law_24 50 rfl) kiconst_0 ?_
    cases h
    exact r_zreturn (dc_L_law_24 51 rfl) rfl (Or.inl rfl)
theorem l_L_law_C33 {G : Gx} {d : Nat} (hl : G.1.stackTraces = false) (hd : 15 ≤ d) {pC1 : Nat} {pC2 : Nat} {pC3 : Nat} {xC4 : Int32} {sC : Sto} {r : (Int32 × Sto)} {kJ : Sto → Option (Int32 × Sto)} (hkJ : ∀ (sJ : Sto), kJ sJ = some r → J G d m_L_law 3394 [(0, .ref 0), (1, .ref pC1), (2, .ref pC2), (3, .ref pC3), (4, .int xC4)] [] sJ (.inl (some (.int r.1))) r.2) (h : F_L_law_C33 G.sl G.sx pC1 pC2 pC3 xC4 sC kJ = some r) : J G d m_L_law 2608 [(0, .ref 0), (1, .ref pC1), (2, .ref pC2), (3, .ref pC3), (4, .int xC4)] [] sC (.inl (some (.int r.1))) r.2 := by
  rw [F_L_law_C33] at h
  refine r_aload_n (dc_L_law_25 0 rfl) rfl rfl ?_
  refine r_aload_n (dc_L_law_25 1 rfl) rfl rfl ?_
  refine r_iload (dc_L_law_25 2 rfl) rfl ?_
  refine r_iconst (dc_L_law_25 3 rfl) kiconst_1 ?_
  refine r_iadd (dc_L_law_25 4 rfl) ?_
  obtain ⟨x366, e0, h⟩ := Option.bind_eq_some_iff.mp h
  obtain ⟨hin, ex⟩ := sld_some e0
  refine r_sld (dc_L_law_25 5 rfl) hin ?_
  rw [← ex]
  refine r_aload_n (dc_L_law_25 6 rfl) rfl rfl ?_
  refine r_iload (dc_L_law_25 7 rfl) rfl ?_
  refine r_iconst (dc_L_law_25 8 rfl) kiconst_2 ?_
  refine r_iadd (dc_L_law_25 9 rfl) ?_
  obtain ⟨x367, e0, h⟩ := Option.bind_eq_some_iff.mp h
  obtain ⟨hin, ex⟩ := sld_some e0
  refine r_sld (dc_L_law_25 10 rfl) hin ?_
  rw [← ex]
  refine r_aload_n (dc_L_law_25 11 rfl) rfl rfl ?_
  obtain ⟨x369, s368, e0, h⟩ := wb_some h
  refine r_callSH (dc_L_law_25 12 rfl) mh_L_chain ml_RL_270 (As := [.ref pC1, .int x366, .int x367, .ref pC3]) (t_L_chain (d := d - 1) hl (by omega) e0) (by omega) rfl (Nat.le_of_ble_eq_true rfl) ?_
  refine r_istore (dc_L_law_25 13 rfl) (by decide) (lo' := [(5, .int x369), (0, .ref 0), (1, .ref pC1), (2, .ref pC2), (3, .ref pC3), (4, .int xC4)]) rfl ?_
  refine r_aload_n (dc_L_law_25 14 rfl) rfl rfl ?_
  refine r_aload_n (dc_L_law_25 15 rfl) rfl rfl ?_
  refine r_iload (dc_L_law_25 16 rfl) rfl ?_
  refine r_iconst (dc_L_law_25 17 rfl) kiconst_1 ?_
  refine r_iadd (dc_L_law_25 18 rfl) ?_
  obtain ⟨x370, e0, h⟩ := Option.bind_eq_some_iff.mp h
  obtain ⟨hin, ex⟩ := sld_some e0
  refine r_sld (dc_L_law_25 19 rfl) hin ?_
  rw [← ex]
  refine r_aload_n (dc_L_law_25 20 rfl) rfl rfl ?_
  refine r_iload (dc_L_law_25 21 rfl) rfl ?_
  refine r_iconst (dc_L_law_25 22 rfl) kiconst_2 ?_
  refine r_iadd (dc_L_law_25 23 rfl) ?_
  obtain ⟨x371, e0, h⟩ := Option.bind_eq_some_iff.mp h
  obtain ⟨hin, ex⟩ := sld_some e0
  refine r_sld (dc_L_law_25 24 rfl) hin ?_
  rw [← ex]
  obtain ⟨x373, s372, e0, h⟩ := wb_some h
  refine r_callV (dc_L_law_25 25 rfl) mv_X10_chain ml_RL_272 (As := [.int x370, .int x371]) (t_X10_chain (d := d - 1) hl (by omega) e0) (by omega) rfl (Nat.le_of_ble_eq_true rfl) ?_
  refine r_istore (dc_L_law_25 26 rfl) (by decide) (lo' := [(6, .int x373), (5, .int x369), (0, .ref 0), (1, .ref pC1), (2, .ref pC2), (3, .ref pC3), (4, .int xC4)]) rfl ?_
  refine r_aload_n (dc_L_law_25 27 rfl) rfl rfl ?_
  obtain ⟨x374, e0, h⟩ := Option.bind_eq_some_iff.mp h
  refine r_callV (dc_L_law_25 28 rfl) mv_X10_thrown ml_RL_166 (As := []) (t_X10_thrown (d := d - 1) hl (by omega) e0) (by omega) rfl (Nat.le_of_ble_eq_true rfl) ?_
  refine r_iload (dc_L_law_25 29 rfl) rfl ?_
  refine r_icmp_eq (dc_L_law_25 30 rfl) (tgt := 2656) (by decide) (fun c0 => ?_) (fun c0 => ?_)
  · rw [if_pos c0] at h
    refine r_iload (dc_L_law_25 33 rfl) rfl ?_
    refine r_if_ne (dc_L_law_25 34 rfl) (tgt := 2673) (by decide) (fun c0 => ?_) (fun c0 => ?_)
    · rw [if_neg c0] at h
      refine r_goto (dc_L_law_25 44 rfl) (tgt := 3394) (by decide) ?_
      refine r_pick [2, 3, 4, 5, 6] (lo' := [(0, .ref 0), (1, .ref pC1), (2, .ref pC2), (3, .ref pC3), (4, .int xC4)]) rfl ?_
      exact hkJ _ h
    · rw [if_pos c0] at h
      refine r_aload_n (dc_L_law_25 35 rfl) rfl rfl ?_
      refine r_iconst (dc_L_law_25 36 rfl) kiconst_0 ?_
      obtain ⟨y375, e0, h⟩ := Option.bind_eq_some_iff.mp h
      refine r_lald (dc_L_law_25 37 rfl) e0 ?_
      refine r_iload (dc_L_law_25 38 rfl) rfl ?_
      refine r_i2l (dc_L_law_25 39 rfl) ?_
      refine r_lcmp (dc_L_law_25 40 rfl) ?_
      refine r_if_eq (dc_L_law_25 41 rfl) (tgt := 2673) (by decide) (fun c0 => ?_) (fun c0 => ?_)
      · rw [if_pos c0] at h
        refine r_goto (dc_L_law_25 44 rfl) (tgt := 3394) (by decide) ?_
        refine r_pick [2, 3, 4, 5, 6] (lo' := [(0, .ref 0), (1, .ref pC1), (2, .ref pC2), (3, .ref pC3), (4, .int xC4)]) rfl ?_
        exact hkJ _ h
      · rw [if_neg c0] at h
        refine r_iconst (dc_L_law_25 42 rfl) kiconst_0 ?_
        cases h
        exact r_zreturn (dc_L_law_25 43 rfl) rfl (Or.inl rfl)
  · rw [if_neg c0] at h
    refine r_iconst (dc_L_law_25 31 rfl) kiconst_0 ?_
    cases h
    exact r_zreturn (dc_L_law_25 32 rfl) rfl (Or.inl rfl)
theorem l_L_law_C34 {G : Gx} {d : Nat} (hl : G.1.stackTraces = false) (hd : 15 ≤ d) {pC1 : Nat} {pC2 : Nat} {pC3 : Nat} {xC4 : Int32} {sC : Sto} {r : (Int32 × Sto)} {kJ : Sto → Option (Int32 × Sto)} (hkJ : ∀ (sJ : Sto), kJ sJ = some r → J G d m_L_law 3394 [(0, .ref 0), (1, .ref pC1), (2, .ref pC2), (3, .ref pC3), (4, .int xC4)] [] sJ (.inl (some (.int r.1))) r.2) (h : F_L_law_C34 G.sl G.sx pC1 pC2 pC3 xC4 sC kJ = some r) : J G d m_L_law 2676 [(0, .ref 0), (1, .ref pC1), (2, .ref pC2), (3, .ref pC3), (4, .int xC4)] [] sC (.inl (some (.int r.1))) r.2 := by
  rw [F_L_law_C34] at h
  refine r_aload_n (dc_L_law_25 45 rfl) rfl rfl ?_
  refine r_aload_n (dc_L_law_25 46 rfl) rfl rfl ?_
  refine r_iload (dc_L_law_25 47 rfl) rfl ?_
  refine r_iconst (dc_L_law_25 48 rfl) kiconst_1 ?_
  refine r_iadd (dc_L_law_25 49 rfl) ?_
  obtain ⟨x376, e0, h⟩ := Option.bind_eq_some_iff.mp h
  obtain ⟨hin, ex⟩ := sld_some e0
  refine r_sld (dc_L_law_25 50 rfl) hin ?_
  rw [← ex]
  refine r_aload_n (dc_L_law_25 51 rfl) rfl rfl ?_
  refine r_iload (dc_L_law_25 52 rfl) rfl ?_
  refine r_iconst (dc_L_law_25 53 rfl) kiconst_2 ?_
  refine r_iadd (dc_L_law_25 54 rfl) ?_
  obtain ⟨x377, e0, h⟩ := Option.bind_eq_some_iff.mp h
  obtain ⟨hin, ex⟩ := sld_some e0
  refine r_sld (dc_L_law_25 55 rfl) hin ?_
  rw [← ex]
  refine r_aload_n (dc_L_law_25 56 rfl) rfl rfl ?_
  obtain ⟨x379, s378, e0, h⟩ := wb_some h
  refine r_callSH (dc_L_law_25 57 rfl) mh_L_between ml_RL_273 (As := [.ref pC1, .int x376, .int x377, .ref pC3]) (t_L_between (d := d - 1) hl (by omega) e0) (by omega) rfl (Nat.le_of_ble_eq_true rfl) ?_
  refine r_istore (dc_L_law_25 58 rfl) (by decide) (lo' := [(5, .int x379), (0, .ref 0), (1, .ref pC1), (2, .ref pC2), (3, .ref pC3), (4, .int xC4)]) rfl ?_
  refine r_aload_n (dc_L_law_25 59 rfl) rfl rfl ?_
  refine r_aload_n (dc_L_law_25 60 rfl) rfl rfl ?_
  refine r_iload (dc_L_law_25 61 rfl) rfl ?_
  refine r_iconst (dc_L_law_25 62 rfl) kiconst_1 ?_
  refine r_iadd (dc_L_law_25 63 rfl) ?_
  obtain ⟨x380, e0, h⟩ := Option.bind_eq_some_iff.mp h
  obtain ⟨hin, ex⟩ := sld_some e0
  refine r_sld (dc_L_law_26 0 rfl) hin ?_
  rw [← ex]
  refine r_aload_n (dc_L_law_26 1 rfl) rfl rfl ?_
  refine r_iload (dc_L_law_26 2 rfl) rfl ?_
  refine r_iconst (dc_L_law_26 3 rfl) kiconst_2 ?_
  refine r_iadd (dc_L_law_26 4 rfl) ?_
  obtain ⟨x381, e0, h⟩ := Option.bind_eq_some_iff.mp h
  obtain ⟨hin, ex⟩ := sld_some e0
  refine r_sld (dc_L_law_26 5 rfl) hin ?_
  rw [← ex]
  obtain ⟨x383, s382, e0, h⟩ := wb_some h
  refine r_callV (dc_L_law_26 6 rfl) mv_X10_between ml_RL_275 (As := [.int x380, .int x381]) (t_X10_between (d := d - 1) hl (by omega) e0) (by omega) rfl (Nat.le_of_ble_eq_true rfl) ?_
  refine r_istore (dc_L_law_26 7 rfl) (by decide) (lo' := [(6, .int x383), (5, .int x379), (0, .ref 0), (1, .ref pC1), (2, .ref pC2), (3, .ref pC3), (4, .int xC4)]) rfl ?_
  refine r_aload_n (dc_L_law_26 8 rfl) rfl rfl ?_
  obtain ⟨x384, e0, h⟩ := Option.bind_eq_some_iff.mp h
  refine r_callV (dc_L_law_26 9 rfl) mv_X10_thrown ml_RL_166 (As := []) (t_X10_thrown (d := d - 1) hl (by omega) e0) (by omega) rfl (Nat.le_of_ble_eq_true rfl) ?_
  refine r_iload (dc_L_law_26 10 rfl) rfl ?_
  refine r_icmp_eq (dc_L_law_26 11 rfl) (tgt := 2724) (by decide) (fun c0 => ?_) (fun c0 => ?_)
  · rw [if_pos c0] at h
    refine r_iload (dc_L_law_26 14 rfl) rfl ?_
    refine r_if_ne (dc_L_law_26 15 rfl) (tgt := 2741) (by decide) (fun c0 => ?_) (fun c0 => ?_)
    · rw [if_neg c0] at h
      refine r_goto (dc_L_law_26 25 rfl) (tgt := 3394) (by decide) ?_
      refine r_pick [2, 3, 4, 5, 6] (lo' := [(0, .ref 0), (1, .ref pC1), (2, .ref pC2), (3, .ref pC3), (4, .int xC4)]) rfl ?_
      exact hkJ _ h
    · rw [if_pos c0] at h
      refine r_aload_n (dc_L_law_26 16 rfl) rfl rfl ?_
      refine r_iconst (dc_L_law_26 17 rfl) kiconst_0 ?_
      obtain ⟨y385, e0, h⟩ := Option.bind_eq_some_iff.mp h
      refine r_lald (dc_L_law_26 18 rfl) e0 ?_
      refine r_iload (dc_L_law_26 19 rfl) rfl ?_
      refine r_i2l (dc_L_law_26 20 rfl) ?_
      refine r_lcmp (dc_L_law_26 21 rfl) ?_
      refine r_if_eq (dc_L_law_26 22 rfl) (tgt := 2741) (by decide) (fun c0 => ?_) (fun c0 => ?_)
      · rw [if_pos c0] at h
        refine r_goto (dc_L_law_26 25 rfl) (tgt := 3394) (by decide) ?_
        refine r_pick [2, 3, 4, 5, 6] (lo' := [(0, .ref 0), (1, .ref pC1), (2, .ref pC2), (3, .ref pC3), (4, .int xC4)]) rfl ?_
        exact hkJ _ h
      · rw [if_neg c0] at h
        refine r_iconst (dc_L_law_26 23 rfl) kiconst_0 ?_
        cases h
        exact r_zreturn (dc_L_law_26 24 rfl) rfl (Or.inl rfl)
  · rw [if_neg c0] at h
    refine r_iconst (dc_L_law_26 12 rfl) kiconst_0 ?_
    cases h
    exact r_zreturn (dc_L_law_26 13 rfl) rfl (Or.inl rfl)
theorem l_L_law_C35 {G : Gx} {d : Nat} (hl : G.1.stackTraces = false) (hd : 15 ≤ d) {pC1 : Nat} {pC2 : Nat} {pC3 : Nat} {xC4 : Int32} {sC : Sto} {r : (Int32 × Sto)} {kJ : Sto → Option (Int32 × Sto)} (hkJ : ∀ (sJ : Sto), kJ sJ = some r → J G d m_L_law 3394 [(0, .ref 0), (1, .ref pC1), (2, .ref pC2), (3, .ref pC3), (4, .int xC4)] [] sJ (.inl (some (.int r.1))) r.2) (h : F_L_law_C35 G.sl G.sx pC1 pC2 pC3 xC4 sC kJ = some r) : J G d m_L_law 2744 [(0, .ref 0), (1, .ref pC1), (2, .ref pC2), (3, .ref pC3), (4, .int xC4)] [] sC (.inl (some (.int r.1))) r.2 := by
  rw [F_L_law_C35] at h
  refine r_aload_n (dc_L_law_26 26 rfl) rfl rfl ?_
  refine r_aload_n (dc_L_law_26 27 rfl) rfl rfl ?_
  refine r_iload (dc_L_law_26 28 rfl) rfl ?_
  refine r_iconst (dc_L_law_26 29 rfl) kiconst_1 ?_
  refine r_iadd (dc_L_law_26 30 rfl) ?_
  obtain ⟨x386, e0, h⟩ := Option.bind_eq_some_iff.mp h
  obtain ⟨hin, ex⟩ := sld_some e0
  refine r_sld (dc_L_law_26 31 rfl) hin ?_
  rw [← ex]
  refine r_aload_n (dc_L_law_26 32 rfl) rfl rfl ?_
  refine r_iload (dc_L_law_26 33 rfl) rfl ?_
  refine r_iconst (dc_L_law_26 34 rfl) kiconst_2 ?_
  refine r_iadd (dc_L_law_26 35 rfl) ?_
  obtain ⟨x387, e0, h⟩ := Option.bind_eq_some_iff.mp h
  obtain ⟨hin, ex⟩ := sld_some e0
  refine r_sld (dc_L_law_26 36 rfl) hin ?_
  rw [← ex]
  refine r_aload_n (dc_L_law_26 37 rfl) rfl rfl ?_
  obtain ⟨x389, s388, e0, h⟩ := wb_some h
  refine r_callSH (dc_L_law_26 38 rfl) mh_L_front ml_RL_276 (As := [.ref pC1, .int x386, .int x387, .ref pC3]) (t_L_front (d := d - 1) hl (by omega) e0) (by omega) rfl (Nat.le_of_ble_eq_true rfl) ?_
  refine r_istore (dc_L_law_26 39 rfl) (by decide) (lo' := [(5, .int x389), (0, .ref 0), (1, .ref pC1), (2, .ref pC2), (3, .ref pC3), (4, .int xC4)]) rfl ?_
  refine r_aload_n (dc_L_law_26 40 rfl) rfl rfl ?_
  refine r_aload_n (dc_L_law_26 41 rfl) rfl rfl ?_
  refine r_iload (dc_L_law_26 42 rfl) rfl ?_
  refine r_iconst (dc_L_law_26 43 rfl) kiconst_1 ?_
  refine r_iadd (dc_L_law_26 44 rfl) ?_
  obtain ⟨x390, e0, h⟩ := Option.bind_eq_some_iff.mp h
  obtain ⟨hin, ex⟩ := sld_some e0
  refine r_sld (dc_L_law_26 45 rfl) hin ?_
  rw [← ex]
  refine r_aload_n (dc_L_law_26 46 rfl) rfl rfl ?_
  refine r_iload (dc_L_law_26 47 rfl) rfl ?_
  refine r_iconst (dc_L_law_26 48 rfl) kiconst_2 ?_
  refine r_iadd (dc_L_law_26 49 rfl) ?_
  obtain ⟨x391, e0, h⟩ := Option.bind_eq_some_iff.mp h
  obtain ⟨hin, ex⟩ := sld_some e0
  refine r_sld (dc_L_law_26 50 rfl) hin ?_
  rw [← ex]
  obtain ⟨x393, s392, e0, h⟩ := wb_some h
  refine r_callV (dc_L_law_26 51 rfl) mv_X10_front ml_RL_278 (As := [.int x390, .int x391]) (t_X10_front (d := d - 1) hl (by omega) e0) (by omega) rfl (Nat.le_of_ble_eq_true rfl) ?_
  refine r_istore (dc_L_law_26 52 rfl) (by decide) (lo' := [(6, .int x393), (5, .int x389), (0, .ref 0), (1, .ref pC1), (2, .ref pC2), (3, .ref pC3), (4, .int xC4)]) rfl ?_
  refine r_aload_n (dc_L_law_26 53 rfl) rfl rfl ?_
  obtain ⟨x394, e0, h⟩ := Option.bind_eq_some_iff.mp h
  refine r_callV (dc_L_law_26 54 rfl) mv_X10_thrown ml_RL_166 (As := []) (t_X10_thrown (d := d - 1) hl (by omega) e0) (by omega) rfl (Nat.le_of_ble_eq_true rfl) ?_
  refine r_iload (dc_L_law_26 55 rfl) rfl ?_
  refine r_icmp_eq (dc_L_law_26 56 rfl) (tgt := 2792) (by decide) (fun c0 => ?_) (fun c0 => ?_)
  · rw [if_pos c0] at h
    refine r_iload (dc_L_law_26 59 rfl) rfl ?_
    refine r_if_ne (dc_L_law_26 60 rfl) (tgt := 2809) (by decide) (fun c0 => ?_) (fun c0 => ?_)
    · rw [if_neg c0] at h
      refine r_goto (dc_L_law_27 6 rfl) (tgt := 3394) (by decide) ?_
      refine r_pick [2, 3, 4, 5, 6] (lo' := [(0, .ref 0), (1, .ref pC1), (2, .ref pC2), (3, .ref pC3), (4, .int xC4)]) rfl ?_
      exact hkJ _ h
    · rw [if_pos c0] at h
      refine r_aload_n (dc_L_law_26 61 rfl) rfl rfl ?_
      refine r_iconst (dc_L_law_26 62 rfl) kiconst_0 ?_
      obtain ⟨y395, e0, h⟩ := Option.bind_eq_some_iff.mp h
      refine r_lald (dc_L_law_26 63 rfl) e0 ?_
      refine r_iload (dc_L_law_27 0 rfl) rfl ?_
      refine r_i2l (dc_L_law_27 1 rfl) ?_
      refine r_lcmp (dc_L_law_27 2 rfl) ?_
      refine r_if_eq (dc_L_law_27 3 rfl) (tgt := 2809) (by decide) (fun c0 => ?_) (fun c0 => ?_)
      · rw [if_pos c0] at h
        refine r_goto (dc_L_law_27 6 rfl) (tgt := 3394) (by decide) ?_
        refine r_pick [2, 3, 4, 5, 6] (lo' := [(0, .ref 0), (1, .ref pC1), (2, .ref pC2), (3, .ref pC3), (4, .int xC4)]) rfl ?_
        exact hkJ _ h
      · rw [if_neg c0] at h
        refine r_iconst (dc_L_law_27 4 rfl) kiconst_0 ?_
        cases h
        exact r_zreturn (dc_L_law_27 5 rfl) rfl (Or.inl rfl)
  · rw [if_neg c0] at h
    refine r_iconst (dc_L_law_26 57 rfl) kiconst_0 ?_
    cases h
    exact r_zreturn (dc_L_law_26 58 rfl) rfl (Or.inl rfl)
theorem l_L_law_C36 {G : Gx} {d : Nat} (hl : G.1.stackTraces = false) (hd : 15 ≤ d) {pC1 : Nat} {pC2 : Nat} {pC3 : Nat} {xC4 : Int32} {sC : Sto} {r : (Int32 × Sto)} {kJ : Sto → Option (Int32 × Sto)} (hkJ : ∀ (sJ : Sto), kJ sJ = some r → J G d m_L_law 3394 [(0, .ref 0), (1, .ref pC1), (2, .ref pC2), (3, .ref pC3), (4, .int xC4)] [] sJ (.inl (some (.int r.1))) r.2) (h : F_L_law_C36 G.sl G.sx pC1 pC2 pC3 xC4 sC kJ = some r) : J G d m_L_law 2812 [(0, .ref 0), (1, .ref pC1), (2, .ref pC2), (3, .ref pC3), (4, .int xC4)] [] sC (.inl (some (.int r.1))) r.2 := by
  rw [F_L_law_C36] at h
  refine r_aload_n (dc_L_law_27 7 rfl) rfl rfl ?_
  refine r_aload_n (dc_L_law_27 8 rfl) rfl rfl ?_
  refine r_iload (dc_L_law_27 9 rfl) rfl ?_
  refine r_iconst (dc_L_law_27 10 rfl) kiconst_1 ?_
  refine r_iadd (dc_L_law_27 11 rfl) ?_
  obtain ⟨x396, e0, h⟩ := Option.bind_eq_some_iff.mp h
  obtain ⟨hin, ex⟩ := sld_some e0
  refine r_sld (dc_L_law_27 12 rfl) hin ?_
  rw [← ex]
  refine r_aload_n (dc_L_law_27 13 rfl) rfl rfl ?_
  refine r_iload (dc_L_law_27 14 rfl) rfl ?_
  refine r_iconst (dc_L_law_27 15 rfl) kiconst_2 ?_
  refine r_iadd (dc_L_law_27 16 rfl) ?_
  obtain ⟨x397, e0, h⟩ := Option.bind_eq_some_iff.mp h
  obtain ⟨hin, ex⟩ := sld_some e0
  refine r_sld (dc_L_law_27 17 rfl) hin ?_
  rw [← ex]
  refine r_aload_n (dc_L_law_27 18 rfl) rfl rfl ?_
  refine r_iload (dc_L_law_27 19 rfl) rfl ?_
  refine r_iconst (dc_L_law_27 20 rfl) kiconst_3 ?_
  refine r_iadd (dc_L_law_27 21 rfl) ?_
  obtain ⟨x398, e0, h⟩ := Option.bind_eq_some_iff.mp h
  obtain ⟨hin, ex⟩ := sld_some e0
  refine r_sld (dc_L_law_27 22 rfl) hin ?_
  rw [← ex]
  refine r_aload_n (dc_L_law_27 23 rfl) rfl rfl ?_
  obtain ⟨x400, s399, e0, h⟩ := wb_some h
  refine r_callSH (dc_L_law_27 24 rfl) mh_L_only ml_RL_279 (As := [.ref pC1, .int x396, .int x397, .int x398, .ref pC3]) (t_L_only (d := d - 1) hl (by omega) e0) (by omega) rfl (Nat.le_of_ble_eq_true rfl) ?_
  refine r_istore (dc_L_law_27 25 rfl) (by decide) (lo' := [(5, .int x400), (0, .ref 0), (1, .ref pC1), (2, .ref pC2), (3, .ref pC3), (4, .int xC4)]) rfl ?_
  refine r_aload_n (dc_L_law_27 26 rfl) rfl rfl ?_
  refine r_aload_n (dc_L_law_27 27 rfl) rfl rfl ?_
  refine r_iload (dc_L_law_27 28 rfl) rfl ?_
  refine r_iconst (dc_L_law_27 29 rfl) kiconst_1 ?_
  refine r_iadd (dc_L_law_27 30 rfl) ?_
  obtain ⟨x401, e0, h⟩ := Option.bind_eq_some_iff.mp h
  obtain ⟨hin, ex⟩ := sld_some e0
  refine r_sld (dc_L_law_27 31 rfl) hin ?_
  rw [← ex]
  refine r_aload_n (dc_L_law_27 32 rfl) rfl rfl ?_
  refine r_iload (dc_L_law_27 33 rfl) rfl ?_
  refine r_iconst (dc_L_law_27 34 rfl) kiconst_2 ?_
  refine r_iadd (dc_L_law_27 35 rfl) ?_
  obtain ⟨x402, e0, h⟩ := Option.bind_eq_some_iff.mp h
  obtain ⟨hin, ex⟩ := sld_some e0
  refine r_sld (dc_L_law_27 36 rfl) hin ?_
  rw [← ex]
  refine r_aload_n (dc_L_law_27 37 rfl) rfl rfl ?_
  refine r_iload (dc_L_law_27 38 rfl) rfl ?_
  refine r_iconst (dc_L_law_27 39 rfl) kiconst_3 ?_
  refine r_iadd (dc_L_law_27 40 rfl) ?_
  obtain ⟨x403, e0, h⟩ := Option.bind_eq_some_iff.mp h
  obtain ⟨hin, ex⟩ := sld_some e0
  refine r_sld (dc_L_law_27 41 rfl) hin ?_
  rw [← ex]
  obtain ⟨x405, s404, e0, h⟩ := wb_some h
  refine r_callV (dc_L_law_27 42 rfl) mv_X10_only ml_RL_281 (As := [.int x401, .int x402, .int x403]) (t_X10_only (d := d - 1) hl (by omega) e0) (by omega) rfl (Nat.le_of_ble_eq_true rfl) ?_
  refine r_istore (dc_L_law_27 43 rfl) (by decide) (lo' := [(6, .int x405), (5, .int x400), (0, .ref 0), (1, .ref pC1), (2, .ref pC2), (3, .ref pC3), (4, .int xC4)]) rfl ?_
  refine r_aload_n (dc_L_law_27 44 rfl) rfl rfl ?_
  obtain ⟨x406, e0, h⟩ := Option.bind_eq_some_iff.mp h
  refine r_callV (dc_L_law_27 45 rfl) mv_X10_thrown ml_RL_166 (As := []) (t_X10_thrown (d := d - 1) hl (by omega) e0) (by omega) rfl (Nat.le_of_ble_eq_true rfl) ?_
  refine r_iload (dc_L_law_27 46 rfl) rfl ?_
  refine r_icmp_eq (dc_L_law_27 47 rfl) (tgt := 2872) (by decide) (fun c0 => ?_) (fun c0 => ?_)
  · rw [if_pos c0] at h
    refine r_iload (dc_L_law_27 50 rfl) rfl ?_
    refine r_if_ne (dc_L_law_27 51 rfl) (tgt := 2889) (by decide) (fun c0 => ?_) (fun c0 => ?_)
    · rw [if_neg c0] at h
      refine r_goto (dc_L_law_27 61 rfl) (tgt := 3394) (by decide) ?_
      refine r_pick [2, 3, 4, 5, 6] (lo' := [(0, .ref 0), (1, .ref pC1), (2, .ref pC2), (3, .ref pC3), (4, .int xC4)]) rfl ?_
      exact hkJ _ h
    · rw [if_pos c0] at h
      refine r_aload_n (dc_L_law_27 52 rfl) rfl rfl ?_
      refine r_iconst (dc_L_law_27 53 rfl) kiconst_0 ?_
      obtain ⟨y407, e0, h⟩ := Option.bind_eq_some_iff.mp h
      refine r_lald (dc_L_law_27 54 rfl) e0 ?_
      refine r_iload (dc_L_law_27 55 rfl) rfl ?_
      refine r_i2l (dc_L_law_27 56 rfl) ?_
      refine r_lcmp (dc_L_law_27 57 rfl) ?_
      refine r_if_eq (dc_L_law_27 58 rfl) (tgt := 2889) (by decide) (fun c0 => ?_) (fun c0 => ?_)
      · rw [if_pos c0] at h
        refine r_goto (dc_L_law_27 61 rfl) (tgt := 3394) (by decide) ?_
        refine r_pick [2, 3, 4, 5, 6] (lo' := [(0, .ref 0), (1, .ref pC1), (2, .ref pC2), (3, .ref pC3), (4, .int xC4)]) rfl ?_
        exact hkJ _ h
      · rw [if_neg c0] at h
        refine r_iconst (dc_L_law_27 59 rfl) kiconst_0 ?_
        cases h
        exact r_zreturn (dc_L_law_27 60 rfl) rfl (Or.inl rfl)
  · rw [if_neg c0] at h
    refine r_iconst (dc_L_law_27 48 rfl) kiconst_0 ?_
    cases h
    exact r_zreturn (dc_L_law_27 49 rfl) rfl (Or.inl rfl)
theorem l_L_law_C37 {G : Gx} {d : Nat} (hl : G.1.stackTraces = false) (hd : 15 ≤ d) {pC1 : Nat} {pC2 : Nat} {pC3 : Nat} {xC4 : Int32} {sC : Sto} {r : (Int32 × Sto)} {kJ : Sto → Option (Int32 × Sto)} (hkJ : ∀ (sJ : Sto), kJ sJ = some r → J G d m_L_law 3394 [(0, .ref 0), (1, .ref pC1), (2, .ref pC2), (3, .ref pC3), (4, .int xC4)] [] sJ (.inl (some (.int r.1))) r.2) (h : F_L_law_C37 G.sl G.sx pC1 pC2 pC3 xC4 sC kJ = some r) : J G d m_L_law 2892 [(0, .ref 0), (1, .ref pC1), (2, .ref pC2), (3, .ref pC3), (4, .int xC4)] [] sC (.inl (some (.int r.1))) r.2 := by
  rw [F_L_law_C37] at h
  refine r_aload_n (dc_L_law_27 62 rfl) rfl rfl ?_
  refine r_aload_n (dc_L_law_27 63 rfl) rfl rfl ?_
  refine r_iload (dc_L_law_28 0 rfl) rfl ?_
  refine r_iconst (dc_L_law_28 1 rfl) kiconst_1 ?_
  refine r_iadd (dc_L_law_28 2 rfl) ?_
  obtain ⟨x408, e0, h⟩ := Option.bind_eq_some_iff.mp h
  obtain ⟨hin, ex⟩ := sld_some e0
  refine r_sld (dc_L_law_28 3 rfl) hin ?_
  rw [← ex]
  refine r_aload_n (dc_L_law_28 4 rfl) rfl rfl ?_
  refine r_iload (dc_L_law_28 5 rfl) rfl ?_
  refine r_iconst (dc_L_law_28 6 rfl) kiconst_2 ?_
  refine r_iadd (dc_L_law_28 7 rfl) ?_
  obtain ⟨x409, e0, h⟩ := Option.bind_eq_some_iff.mp h
  obtain ⟨hin, ex⟩ := sld_some e0
  refine r_sld (dc_L_law_28 8 rfl) hin ?_
  rw [← ex]
  refine r_aload_n (dc_L_law_28 9 rfl) rfl rfl ?_
  obtain ⟨x411, s410, e0, h⟩ := wb_some h
  refine r_callSH (dc_L_law_28 10 rfl) mh_L_sure ml_RL_282 (As := [.ref pC1, .int x408, .int x409, .ref pC3]) (t_L_sure (d := d - 1) hl (by omega) e0) (by omega) rfl (Nat.le_of_ble_eq_true rfl) ?_
  refine r_istore (dc_L_law_28 11 rfl) (by decide) (lo' := [(5, .int x411), (0, .ref 0), (1, .ref pC1), (2, .ref pC2), (3, .ref pC3), (4, .int xC4)]) rfl ?_
  refine r_aload_n (dc_L_law_28 12 rfl) rfl rfl ?_
  refine r_aload_n (dc_L_law_28 13 rfl) rfl rfl ?_
  refine r_iload (dc_L_law_28 14 rfl) rfl ?_
  refine r_iconst (dc_L_law_28 15 rfl) kiconst_1 ?_
  refine r_iadd (dc_L_law_28 16 rfl) ?_
  obtain ⟨x412, e0, h⟩ := Option.bind_eq_some_iff.mp h
  obtain ⟨hin, ex⟩ := sld_some e0
  refine r_sld (dc_L_law_28 17 rfl) hin ?_
  rw [← ex]
  refine r_aload_n (dc_L_law_28 18 rfl) rfl rfl ?_
  refine r_iload (dc_L_law_28 19 rfl) rfl ?_
  refine r_iconst (dc_L_law_28 20 rfl) kiconst_2 ?_
  refine r_iadd (dc_L_law_28 21 rfl) ?_
  obtain ⟨x413, e0, h⟩ := Option.bind_eq_some_iff.mp h
  obtain ⟨hin, ex⟩ := sld_some e0
  refine r_sld (dc_L_law_28 22 rfl) hin ?_
  rw [← ex]
  obtain ⟨x415, s414, e0, h⟩ := wb_some h
  refine r_callV (dc_L_law_28 23 rfl) mv_X10_sure ml_RL_284 (As := [.int x412, .int x413]) (t_X10_sure (d := d - 1) hl (by omega) e0) (by omega) rfl (Nat.le_of_ble_eq_true rfl) ?_
  refine r_istore (dc_L_law_28 24 rfl) (by decide) (lo' := [(6, .int x415), (5, .int x411), (0, .ref 0), (1, .ref pC1), (2, .ref pC2), (3, .ref pC3), (4, .int xC4)]) rfl ?_
  refine r_aload_n (dc_L_law_28 25 rfl) rfl rfl ?_
  obtain ⟨x416, e0, h⟩ := Option.bind_eq_some_iff.mp h
  refine r_callV (dc_L_law_28 26 rfl) mv_X10_thrown ml_RL_166 (As := []) (t_X10_thrown (d := d - 1) hl (by omega) e0) (by omega) rfl (Nat.le_of_ble_eq_true rfl) ?_
  refine r_iload (dc_L_law_28 27 rfl) rfl ?_
  refine r_icmp_eq (dc_L_law_28 28 rfl) (tgt := 2940) (by decide) (fun c0 => ?_) (fun c0 => ?_)
  · rw [if_pos c0] at h
    refine r_iload (dc_L_law_28 31 rfl) rfl ?_
    refine r_if_ne (dc_L_law_28 32 rfl) (tgt := 2957) (by decide) (fun c0 => ?_) (fun c0 => ?_)
    · rw [if_neg c0] at h
      refine r_goto (dc_L_law_28 42 rfl) (tgt := 3394) (by decide) ?_
      refine r_pick [2, 3, 4, 5, 6] (lo' := [(0, .ref 0), (1, .ref pC1), (2, .ref pC2), (3, .ref pC3), (4, .int xC4)]) rfl ?_
      exact hkJ _ h
    · rw [if_pos c0] at h
      refine r_aload_n (dc_L_law_28 33 rfl) rfl rfl ?_
      refine r_iconst (dc_L_law_28 34 rfl) kiconst_0 ?_
      obtain ⟨y417, e0, h⟩ := Option.bind_eq_some_iff.mp h
      refine r_lald (dc_L_law_28 35 rfl) e0 ?_
      refine r_iload (dc_L_law_28 36 rfl) rfl ?_
      refine r_i2l (dc_L_law_28 37 rfl) ?_
      refine r_lcmp (dc_L_law_28 38 rfl) ?_
      refine r_if_eq (dc_L_law_28 39 rfl) (tgt := 2957) (by decide) (fun c0 => ?_) (fun c0 => ?_)
      · rw [if_pos c0] at h
        refine r_goto (dc_L_law_28 42 rfl) (tgt := 3394) (by decide) ?_
        refine r_pick [2, 3, 4, 5, 6] (lo' := [(0, .ref 0), (1, .ref pC1), (2, .ref pC2), (3, .ref pC3), (4, .int xC4)]) rfl ?_
        exact hkJ _ h
      · rw [if_neg c0] at h
        refine r_iconst (dc_L_law_28 40 rfl) kiconst_0 ?_
        cases h
        exact r_zreturn (dc_L_law_28 41 rfl) rfl (Or.inl rfl)
  · rw [if_neg c0] at h
    refine r_iconst (dc_L_law_28 29 rfl) kiconst_0 ?_
    cases h
    exact r_zreturn (dc_L_law_28 30 rfl) rfl (Or.inl rfl)
theorem l_L_law_C38 {G : Gx} {d : Nat} (hl : G.1.stackTraces = false) (hd : 15 ≤ d) {pC1 : Nat} {pC2 : Nat} {pC3 : Nat} {xC4 : Int32} {sC : Sto} {r : (Int32 × Sto)} {kJ : Sto → Option (Int32 × Sto)} (hkJ : ∀ (sJ : Sto), kJ sJ = some r → J G d m_L_law 3394 [(0, .ref 0), (1, .ref pC1), (2, .ref pC2), (3, .ref pC3), (4, .int xC4)] [] sJ (.inl (some (.int r.1))) r.2) (h : F_L_law_C38 G.sl G.sx pC1 pC2 pC3 xC4 sC kJ = some r) : J G d m_L_law 2960 [(0, .ref 0), (1, .ref pC1), (2, .ref pC2), (3, .ref pC3), (4, .int xC4)] [] sC (.inl (some (.int r.1))) r.2 := by
  rw [F_L_law_C38] at h
  refine r_aload_n (dc_L_law_28 43 rfl) rfl rfl ?_
  refine r_aload_n (dc_L_law_28 44 rfl) rfl rfl ?_
  refine r_iload (dc_L_law_28 45 rfl) rfl ?_
  refine r_iconst (dc_L_law_28 46 rfl) kiconst_1 ?_
  refine r_iadd (dc_L_law_28 47 rfl) ?_
  obtain ⟨x418, e0, h⟩ := Option.bind_eq_some_iff.mp h
  obtain ⟨hin, ex⟩ := sld_some e0
  refine r_sld (dc_L_law_28 48 rfl) hin ?_
  rw [← ex]
  refine r_aload_n (dc_L_law_28 49 rfl) rfl rfl ?_
  obtain ⟨x420, s419, e0, h⟩ := wb_some h
  refine r_callSH (dc_L_law_28 50 rfl) mh_L_part ml_RL_285 (As := [.ref pC1, .int x418, .ref pC3]) (t_L_part (d := d - 1) hl (by omega) e0) (by omega) rfl (Nat.le_of_ble_eq_true rfl) ?_
  refine r_istore (dc_L_law_28 51 rfl) (by decide) (lo' := [(5, .int x420), (0, .ref 0), (1, .ref pC1), (2, .ref pC2), (3, .ref pC3), (4, .int xC4)]) rfl ?_
  refine r_aload_n (dc_L_law_28 52 rfl) rfl rfl ?_
  refine r_aload_n (dc_L_law_28 53 rfl) rfl rfl ?_
  refine r_iload (dc_L_law_28 54 rfl) rfl ?_
  refine r_iconst (dc_L_law_28 55 rfl) kiconst_1 ?_
  refine r_iadd (dc_L_law_28 56 rfl) ?_
  obtain ⟨x421, e0, h⟩ := Option.bind_eq_some_iff.mp h
  obtain ⟨hin, ex⟩ := sld_some e0
  refine r_sld (dc_L_law_28 57 rfl) hin ?_
  rw [← ex]
  obtain ⟨x423, s422, e0, h⟩ := wb_some h
  refine r_callV (dc_L_law_28 58 rfl) mv_X10_part ml_RL_287 (As := [.int x421]) (t_X10_part (d := d - 1) hl (by omega) e0) (by omega) rfl (Nat.le_of_ble_eq_true rfl) ?_
  refine r_istore (dc_L_law_28 59 rfl) (by decide) (lo' := [(6, .int x423), (5, .int x420), (0, .ref 0), (1, .ref pC1), (2, .ref pC2), (3, .ref pC3), (4, .int xC4)]) rfl ?_
  refine r_aload_n (dc_L_law_28 60 rfl) rfl rfl ?_
  obtain ⟨x424, e0, h⟩ := Option.bind_eq_some_iff.mp h
  refine r_callV (dc_L_law_28 61 rfl) mv_X10_thrown ml_RL_166 (As := []) (t_X10_thrown (d := d - 1) hl (by omega) e0) (by omega) rfl (Nat.le_of_ble_eq_true rfl) ?_
  refine r_iload (dc_L_law_28 62 rfl) rfl ?_
  refine r_icmp_eq (dc_L_law_28 63 rfl) (tgt := 2996) (by decide) (fun c0 => ?_) (fun c0 => ?_)
  · rw [if_pos c0] at h
    refine r_iload (dc_L_law_29 2 rfl) rfl ?_
    refine r_if_ne (dc_L_law_29 3 rfl) (tgt := 3013) (by decide) (fun c0 => ?_) (fun c0 => ?_)
    · rw [if_neg c0] at h
      refine r_goto (dc_L_law_29 13 rfl) (tgt := 3394) (by decide) ?_
      refine r_pick [2, 3, 4, 5, 6] (lo' := [(0, .ref 0), (1, .ref pC1), (2, .ref pC2), (3, .ref pC3), (4, .int xC4)]) rfl ?_
      exact hkJ _ h
    · rw [if_pos c0] at h
      refine r_aload_n (dc_L_law_29 4 rfl) rfl rfl ?_
      refine r_iconst (dc_L_law_29 5 rfl) kiconst_0 ?_
      obtain ⟨y425, e0, h⟩ := Option.bind_eq_some_iff.mp h
      refine r_lald (dc_L_law_29 6 rfl) e0 ?_
      refine r_iload (dc_L_law_29 7 rfl) rfl ?_
      refine r_i2l (dc_L_law_29 8 rfl) ?_
      refine r_lcmp (dc_L_law_29 9 rfl) ?_
      refine r_if_eq (dc_L_law_29 10 rfl) (tgt := 3013) (by decide) (fun c0 => ?_) (fun c0 => ?_)
      · rw [if_pos c0] at h
        refine r_goto (dc_L_law_29 13 rfl) (tgt := 3394) (by decide) ?_
        refine r_pick [2, 3, 4, 5, 6] (lo' := [(0, .ref 0), (1, .ref pC1), (2, .ref pC2), (3, .ref pC3), (4, .int xC4)]) rfl ?_
        exact hkJ _ h
      · rw [if_neg c0] at h
        refine r_iconst (dc_L_law_29 11 rfl) kiconst_0 ?_
        cases h
        exact r_zreturn (dc_L_law_29 12 rfl) rfl (Or.inl rfl)
  · rw [if_neg c0] at h
    refine r_iconst (dc_L_law_29 0 rfl) kiconst_0 ?_
    cases h
    exact r_zreturn (dc_L_law_29 1 rfl) rfl (Or.inl rfl)
theorem l_L_law_C39 {G : Gx} {d : Nat} (hl : G.1.stackTraces = false) (hd : 15 ≤ d) {pC1 : Nat} {pC2 : Nat} {pC3 : Nat} {xC4 : Int32} {sC : Sto} {r : (Int32 × Sto)} {kJ : Sto → Option (Int32 × Sto)} (hkJ : ∀ (sJ : Sto), kJ sJ = some r → J G d m_L_law 3394 [(0, .ref 0), (1, .ref pC1), (2, .ref pC2), (3, .ref pC3), (4, .int xC4)] [] sJ (.inl (some (.int r.1))) r.2) (h : F_L_law_C39 G.sl G.sx pC1 pC2 pC3 xC4 sC kJ = some r) : J G d m_L_law 3016 [(0, .ref 0), (1, .ref pC1), (2, .ref pC2), (3, .ref pC3), (4, .int xC4)] [] sC (.inl (some (.int r.1))) r.2 := by
  rw [F_L_law_C39] at h
  refine r_aload_n (dc_L_law_29 14 rfl) rfl rfl ?_
  refine r_aload_n (dc_L_law_29 15 rfl) rfl rfl ?_
  refine r_iload (dc_L_law_29 16 rfl) rfl ?_
  refine r_iconst (dc_L_law_29 17 rfl) kiconst_1 ?_
  refine r_iadd (dc_L_law_29 18 rfl) ?_
  obtain ⟨x426, e0, h⟩ := Option.bind_eq_some_iff.mp h
  obtain ⟨hin, ex⟩ := sld_some e0
  refine r_sld (dc_L_law_29 19 rfl) hin ?_
  rw [← ex]
  refine r_aload_n (dc_L_law_29 20 rfl) rfl rfl ?_
  refine r_iload (dc_L_law_29 21 rfl) rfl ?_
  refine r_iconst (dc_L_law_29 22 rfl) kiconst_2 ?_
  refine r_iadd (dc_L_law_29 23 rfl) ?_
  obtain ⟨x427, e0, h⟩ := Option.bind_eq_some_iff.mp h
  obtain ⟨hin, ex⟩ := sld_some e0
  refine r_sld (dc_L_law_29 24 rfl) hin ?_
  rw [← ex]
  refine r_aload_n (dc_L_law_29 25 rfl) rfl rfl ?_
  obtain ⟨x429, s428, e0, h⟩ := wb_some h
  refine r_callSH (dc_L_law_29 26 rfl) mh_L_trace ml_RL_288 (As := [.ref pC1, .int x426, .int x427, .ref pC3]) (t_L_trace (d := d - 1) hl (by omega) e0) (by omega) rfl (Nat.le_of_ble_eq_true rfl) ?_
  refine r_istore (dc_L_law_29 27 rfl) (by decide) (lo' := [(5, .int x429), (0, .ref 0), (1, .ref pC1), (2, .ref pC2), (3, .ref pC3), (4, .int xC4)]) rfl ?_
  refine r_aload_n (dc_L_law_29 28 rfl) rfl rfl ?_
  refine r_aload_n (dc_L_law_29 29 rfl) rfl rfl ?_
  refine r_iload (dc_L_law_29 30 rfl) rfl ?_
  refine r_iconst (dc_L_law_29 31 rfl) kiconst_1 ?_
  refine r_iadd (dc_L_law_29 32 rfl) ?_
  obtain ⟨x430, e0, h⟩ := Option.bind_eq_some_iff.mp h
  obtain ⟨hin, ex⟩ := sld_some e0
  refine r_sld (dc_L_law_29 33 rfl) hin ?_
  rw [← ex]
  refine r_aload_n (dc_L_law_29 34 rfl) rfl rfl ?_
  refine r_iload (dc_L_law_29 35 rfl) rfl ?_
  refine r_iconst (dc_L_law_29 36 rfl) kiconst_2 ?_
  refine r_iadd (dc_L_law_29 37 rfl) ?_
  obtain ⟨x431, e0, h⟩ := Option.bind_eq_some_iff.mp h
  obtain ⟨hin, ex⟩ := sld_some e0
  refine r_sld (dc_L_law_29 38 rfl) hin ?_
  rw [← ex]
  obtain ⟨x433, s432, e0, h⟩ := wb_some h
  refine r_callV (dc_L_law_29 39 rfl) mv_X10_trace ml_RL_290 (As := [.int x430, .int x431]) (t_X10_trace (d := d - 1) hl (by omega) e0) (by omega) rfl (Nat.le_of_ble_eq_true rfl) ?_
  refine r_istore (dc_L_law_29 40 rfl) (by decide) (lo' := [(6, .int x433), (5, .int x429), (0, .ref 0), (1, .ref pC1), (2, .ref pC2), (3, .ref pC3), (4, .int xC4)]) rfl ?_
  refine r_aload_n (dc_L_law_29 41 rfl) rfl rfl ?_
  obtain ⟨x434, e0, h⟩ := Option.bind_eq_some_iff.mp h
  refine r_callV (dc_L_law_29 42 rfl) mv_X10_thrown ml_RL_166 (As := []) (t_X10_thrown (d := d - 1) hl (by omega) e0) (by omega) rfl (Nat.le_of_ble_eq_true rfl) ?_
  refine r_iload (dc_L_law_29 43 rfl) rfl ?_
  refine r_icmp_eq (dc_L_law_29 44 rfl) (tgt := 3064) (by decide) (fun c0 => ?_) (fun c0 => ?_)
  · rw [if_pos c0] at h
    refine r_iload (dc_L_law_29 47 rfl) rfl ?_
    refine r_if_ne (dc_L_law_29 48 rfl) (tgt := 3081) (by decide) (fun c0 => ?_) (fun c0 => ?_)
    · rw [if_neg c0] at h
      refine r_goto (dc_L_law_29 58 rfl) (tgt := 3394) (by decide) ?_
      refine r_pick [2, 3, 4, 5, 6] (lo' := [(0, .ref 0), (1, .ref pC1), (2, .ref pC2), (3, .ref pC3), (4, .int xC4)]) rfl ?_
      exact hkJ _ h
    · rw [if_pos c0] at h
      refine r_aload_n (dc_L_law_29 49 rfl) rfl rfl ?_
      refine r_iconst (dc_L_law_29 50 rfl) kiconst_0 ?_
      obtain ⟨y435, e0, h⟩ := Option.bind_eq_some_iff.mp h
      refine r_lald (dc_L_law_29 51 rfl) e0 ?_
      refine r_iload (dc_L_law_29 52 rfl) rfl ?_
      refine r_i2l (dc_L_law_29 53 rfl) ?_
      refine r_lcmp (dc_L_law_29 54 rfl) ?_
      refine r_if_eq (dc_L_law_29 55 rfl) (tgt := 3081) (by decide) (fun c0 => ?_) (fun c0 => ?_)
      · rw [if_pos c0] at h
        refine r_goto (dc_L_law_29 58 rfl) (tgt := 3394) (by decide) ?_
        refine r_pick [2, 3, 4, 5, 6] (lo' := [(0, .ref 0), (1, .ref pC1), (2, .ref pC2), (3, .ref pC3), (4, .int xC4)]) rfl ?_
        exact hkJ _ h
      · rw [if_neg c0] at h
        refine r_iconst (dc_L_law_29 56 rfl) kiconst_0 ?_
        cases h
        exact r_zreturn (dc_L_law_29 57 rfl) rfl (Or.inl rfl)
  · rw [if_neg c0] at h
    refine r_iconst (dc_L_law_29 45 rfl) kiconst_0 ?_
    cases h
    exact r_zreturn (dc_L_law_29 46 rfl) rfl (Or.inl rfl)
theorem l_L_law_C40 {G : Gx} {d : Nat} (hl : G.1.stackTraces = false) (hd : 15 ≤ d) {pC1 : Nat} {pC2 : Nat} {pC3 : Nat} {xC4 : Int32} {sC : Sto} {r : (Int32 × Sto)} {kJ : Sto → Option (Int32 × Sto)} (hkJ : ∀ (sJ : Sto), kJ sJ = some r → J G d m_L_law 3394 [(0, .ref 0), (1, .ref pC1), (2, .ref pC2), (3, .ref pC3), (4, .int xC4)] [] sJ (.inl (some (.int r.1))) r.2) (h : F_L_law_C40 G.sl G.sx pC1 pC2 pC3 xC4 sC kJ = some r) : J G d m_L_law 3084 [(0, .ref 0), (1, .ref pC1), (2, .ref pC2), (3, .ref pC3), (4, .int xC4)] [] sC (.inl (some (.int r.1))) r.2 := by
  rw [F_L_law_C40] at h
  refine r_aload_n (dc_L_law_29 59 rfl) rfl rfl ?_
  refine r_aload_n (dc_L_law_29 60 rfl) rfl rfl ?_
  refine r_iload (dc_L_law_29 61 rfl) rfl ?_
  refine r_iconst (dc_L_law_29 62 rfl) kiconst_1 ?_
  refine r_iadd (dc_L_law_29 63 rfl) ?_
  obtain ⟨x436, e0, h⟩ := Option.bind_eq_some_iff.mp h
  obtain ⟨hin, ex⟩ := sld_some e0
  refine r_sld (dc_L_law_30 0 rfl) hin ?_
  rw [← ex]
  refine r_aload_n (dc_L_law_30 1 rfl) rfl rfl ?_
  obtain ⟨x438, s437, e0, h⟩ := wb_some h
  refine r_callSH (dc_L_law_30 2 rfl) mh_L_gossip ml_RL_291 (As := [.ref pC1, .int x436, .ref pC3]) (t_L_gossip (d := d - 1) hl (by omega) e0) (by omega) rfl (Nat.le_of_ble_eq_true rfl) ?_
  refine r_istore (dc_L_law_30 3 rfl) (by decide) (lo' := [(5, .int x438), (0, .ref 0), (1, .ref pC1), (2, .ref pC2), (3, .ref pC3), (4, .int xC4)]) rfl ?_
  refine r_aload_n (dc_L_law_30 4 rfl) rfl rfl ?_
  refine r_aload_n (dc_L_law_30 5 rfl) rfl rfl ?_
  refine r_iload (dc_L_law_30 6 rfl) rfl ?_
  refine r_iconst (dc_L_law_30 7 rfl) kiconst_1 ?_
  refine r_iadd (dc_L_law_30 8 rfl) ?_
  obtain ⟨x439, e0, h⟩ := Option.bind_eq_some_iff.mp h
  obtain ⟨hin, ex⟩ := sld_some e0
  refine r_sld (dc_L_law_30 9 rfl) hin ?_
  rw [← ex]
  obtain ⟨x441, s440, e0, h⟩ := wb_some h
  refine r_callV (dc_L_law_30 10 rfl) mv_X10_gossip ml_RL_293 (As := [.int x439]) (t_X10_gossip (d := d - 1) hl (by omega) e0) (by omega) rfl (Nat.le_of_ble_eq_true rfl) ?_
  refine r_istore (dc_L_law_30 11 rfl) (by decide) (lo' := [(6, .int x441), (5, .int x438), (0, .ref 0), (1, .ref pC1), (2, .ref pC2), (3, .ref pC3), (4, .int xC4)]) rfl ?_
  refine r_aload_n (dc_L_law_30 12 rfl) rfl rfl ?_
  obtain ⟨x442, e0, h⟩ := Option.bind_eq_some_iff.mp h
  refine r_callV (dc_L_law_30 13 rfl) mv_X10_thrown ml_RL_166 (As := []) (t_X10_thrown (d := d - 1) hl (by omega) e0) (by omega) rfl (Nat.le_of_ble_eq_true rfl) ?_
  refine r_iload (dc_L_law_30 14 rfl) rfl ?_
  refine r_icmp_eq (dc_L_law_30 15 rfl) (tgt := 3120) (by decide) (fun c0 => ?_) (fun c0 => ?_)
  · rw [if_pos c0] at h
    refine r_iload (dc_L_law_30 18 rfl) rfl ?_
    refine r_if_ne (dc_L_law_30 19 rfl) (tgt := 3137) (by decide) (fun c0 => ?_) (fun c0 => ?_)
    · rw [if_neg c0] at h
      refine r_goto (dc_L_law_30 29 rfl) (tgt := 3394) (by decide) ?_
      refine r_pick [2, 3, 4, 5, 6] (lo' := [(0, .ref 0), (1, .ref pC1), (2, .ref pC2), (3, .ref pC3), (4, .int xC4)]) rfl ?_
      exact hkJ _ h
    · rw [if_pos c0] at h
      refine r_aload_n (dc_L_law_30 20 rfl) rfl rfl ?_
      refine r_iconst (dc_L_law_30 21 rfl) kiconst_0 ?_
      obtain ⟨y443, e0, h⟩ := Option.bind_eq_some_iff.mp h
      refine r_lald (dc_L_law_30 22 rfl) e0 ?_
      refine r_iload (dc_L_law_30 23 rfl) rfl ?_
      refine r_i2l (dc_L_law_30 24 rfl) ?_
      refine r_lcmp (dc_L_law_30 25 rfl) ?_
      refine r_if_eq (dc_L_law_30 26 rfl) (tgt := 3137) (by decide) (fun c0 => ?_) (fun c0 => ?_)
      · rw [if_pos c0] at h
        refine r_goto (dc_L_law_30 29 rfl) (tgt := 3394) (by decide) ?_
        refine r_pick [2, 3, 4, 5, 6] (lo' := [(0, .ref 0), (1, .ref pC1), (2, .ref pC2), (3, .ref pC3), (4, .int xC4)]) rfl ?_
        exact hkJ _ h
      · rw [if_neg c0] at h
        refine r_iconst (dc_L_law_30 27 rfl) kiconst_0 ?_
        cases h
        exact r_zreturn (dc_L_law_30 28 rfl) rfl (Or.inl rfl)
  · rw [if_neg c0] at h
    refine r_iconst (dc_L_law_30 16 rfl) kiconst_0 ?_
    cases h
    exact r_zreturn (dc_L_law_30 17 rfl) rfl (Or.inl rfl)
theorem l_L_law_C41 {G : Gx} {d : Nat} (hl : G.1.stackTraces = false) (hd : 15 ≤ d) {pC1 : Nat} {pC2 : Nat} {pC3 : Nat} {xC4 : Int32} {sC : Sto} {r : (Int32 × Sto)} {kJ : Sto → Option (Int32 × Sto)} (hkJ : ∀ (sJ : Sto), kJ sJ = some r → J G d m_L_law 3394 [(0, .ref 0), (1, .ref pC1), (2, .ref pC2), (3, .ref pC3), (4, .int xC4)] [] sJ (.inl (some (.int r.1))) r.2) (h : F_L_law_C41 G.sl G.sx pC1 pC2 pC3 xC4 sC kJ = some r) : J G d m_L_law 3140 [(0, .ref 0), (1, .ref pC1), (2, .ref pC2), (3, .ref pC3), (4, .int xC4)] [] sC (.inl (some (.int r.1))) r.2 := by
  rw [F_L_law_C41] at h
  refine r_aload_n (dc_L_law_30 30 rfl) rfl rfl ?_
  refine r_aload_n (dc_L_law_30 31 rfl) rfl rfl ?_
  refine r_iload (dc_L_law_30 32 rfl) rfl ?_
  refine r_iconst (dc_L_law_30 33 rfl) kiconst_1 ?_
  refine r_iadd (dc_L_law_30 34 rfl) ?_
  obtain ⟨x444, e0, h⟩ := Option.bind_eq_some_iff.mp h
  obtain ⟨hin, ex⟩ := sld_some e0
  refine r_sld (dc_L_law_30 35 rfl) hin ?_
  rw [← ex]
  refine r_aload_n (dc_L_law_30 36 rfl) rfl rfl ?_
  refine r_iload (dc_L_law_30 37 rfl) rfl ?_
  refine r_iconst (dc_L_law_30 38 rfl) kiconst_2 ?_
  refine r_iadd (dc_L_law_30 39 rfl) ?_
  obtain ⟨x445, e0, h⟩ := Option.bind_eq_some_iff.mp h
  obtain ⟨hin, ex⟩ := sld_some e0
  refine r_sld (dc_L_law_30 40 rfl) hin ?_
  rw [← ex]
  refine r_aload_n (dc_L_law_30 41 rfl) rfl rfl ?_
  obtain ⟨x447, s446, e0, h⟩ := wb_some h
  refine r_callSH (dc_L_law_30 42 rfl) mh_L_falling ml_RL_294 (As := [.ref pC1, .int x444, .int x445, .ref pC3]) (t_L_falling (d := d - 1) hl (by omega) e0) (by omega) rfl (Nat.le_of_ble_eq_true rfl) ?_
  refine r_istore (dc_L_law_30 43 rfl) (by decide) (lo' := [(5, .int x447), (0, .ref 0), (1, .ref pC1), (2, .ref pC2), (3, .ref pC3), (4, .int xC4)]) rfl ?_
  refine r_aload_n (dc_L_law_30 44 rfl) rfl rfl ?_
  refine r_aload_n (dc_L_law_30 45 rfl) rfl rfl ?_
  refine r_iload (dc_L_law_30 46 rfl) rfl ?_
  refine r_iconst (dc_L_law_30 47 rfl) kiconst_1 ?_
  refine r_iadd (dc_L_law_30 48 rfl) ?_
  obtain ⟨x448, e0, h⟩ := Option.bind_eq_some_iff.mp h
  obtain ⟨hin, ex⟩ := sld_some e0
  refine r_sld (dc_L_law_30 49 rfl) hin ?_
  rw [← ex]
  refine r_aload_n (dc_L_law_30 50 rfl) rfl rfl ?_
  refine r_iload (dc_L_law_30 51 rfl) rfl ?_
  refine r_iconst (dc_L_law_30 52 rfl) kiconst_2 ?_
  refine r_iadd (dc_L_law_30 53 rfl) ?_
  obtain ⟨x449, e0, h⟩ := Option.bind_eq_some_iff.mp h
  obtain ⟨hin, ex⟩ := sld_some e0
  refine r_sld (dc_L_law_30 54 rfl) hin ?_
  rw [← ex]
  obtain ⟨x451, s450, e0, h⟩ := wb_some h
  refine r_callV (dc_L_law_30 55 rfl) mv_X10_falling ml_RL_296 (As := [.int x448, .int x449]) (t_X10_falling (d := d - 1) hl (by omega) e0) (by omega) rfl (Nat.le_of_ble_eq_true rfl) ?_
  refine r_istore (dc_L_law_30 56 rfl) (by decide) (lo' := [(6, .int x451), (5, .int x447), (0, .ref 0), (1, .ref pC1), (2, .ref pC2), (3, .ref pC3), (4, .int xC4)]) rfl ?_
  refine r_aload_n (dc_L_law_30 57 rfl) rfl rfl ?_
  obtain ⟨x452, e0, h⟩ := Option.bind_eq_some_iff.mp h
  refine r_callV (dc_L_law_30 58 rfl) mv_X10_thrown ml_RL_166 (As := []) (t_X10_thrown (d := d - 1) hl (by omega) e0) (by omega) rfl (Nat.le_of_ble_eq_true rfl) ?_
  refine r_iload (dc_L_law_30 59 rfl) rfl ?_
  refine r_icmp_eq (dc_L_law_30 60 rfl) (tgt := 3188) (by decide) (fun c0 => ?_) (fun c0 => ?_)
  · rw [if_pos c0] at h
    refine r_iload (dc_L_law_30 63 rfl) rfl ?_
    refine r_if_ne (dc_L_law_31 0 rfl) (tgt := 3205) (by decide) (fun c0 => ?_) (fun c0 => ?_)
    · rw [if_neg c0] at h
      refine r_goto (dc_L_law_31 10 rfl) (tgt := 3394) (by decide) ?_
      refine r_pick [2, 3, 4, 5, 6] (lo' := [(0, .ref 0), (1, .ref pC1), (2, .ref pC2), (3, .ref pC3), (4, .int xC4)]) rfl ?_
      exact hkJ _ h
    · rw [if_pos c0] at h
      refine r_aload_n (dc_L_law_31 1 rfl) rfl rfl ?_
      refine r_iconst (dc_L_law_31 2 rfl) kiconst_0 ?_
      obtain ⟨y453, e0, h⟩ := Option.bind_eq_some_iff.mp h
      refine r_lald (dc_L_law_31 3 rfl) e0 ?_
      refine r_iload (dc_L_law_31 4 rfl) rfl ?_
      refine r_i2l (dc_L_law_31 5 rfl) ?_
      refine r_lcmp (dc_L_law_31 6 rfl) ?_
      refine r_if_eq (dc_L_law_31 7 rfl) (tgt := 3205) (by decide) (fun c0 => ?_) (fun c0 => ?_)
      · rw [if_pos c0] at h
        refine r_goto (dc_L_law_31 10 rfl) (tgt := 3394) (by decide) ?_
        refine r_pick [2, 3, 4, 5, 6] (lo' := [(0, .ref 0), (1, .ref pC1), (2, .ref pC2), (3, .ref pC3), (4, .int xC4)]) rfl ?_
        exact hkJ _ h
      · rw [if_neg c0] at h
        refine r_iconst (dc_L_law_31 8 rfl) kiconst_0 ?_
        cases h
        exact r_zreturn (dc_L_law_31 9 rfl) rfl (Or.inl rfl)
  · rw [if_neg c0] at h
    refine r_iconst (dc_L_law_30 61 rfl) kiconst_0 ?_
    cases h
    exact r_zreturn (dc_L_law_30 62 rfl) rfl (Or.inl rfl)
theorem l_L_law_C42 {G : Gx} {d : Nat} (hl : G.1.stackTraces = false) (hd : 15 ≤ d) {pC1 : Nat} {pC2 : Nat} {pC3 : Nat} {xC4 : Int32} {sC : Sto} {r : (Int32 × Sto)} {kJ : Sto → Option (Int32 × Sto)} (hkJ : ∀ (sJ : Sto), kJ sJ = some r → J G d m_L_law 3394 [(0, .ref 0), (1, .ref pC1), (2, .ref pC2), (3, .ref pC3), (4, .int xC4)] [] sJ (.inl (some (.int r.1))) r.2) (h : F_L_law_C42 G.sl G.sx pC1 pC2 pC3 xC4 sC kJ = some r) : J G d m_L_law 3208 [(0, .ref 0), (1, .ref pC1), (2, .ref pC2), (3, .ref pC3), (4, .int xC4)] [] sC (.inl (some (.int r.1))) r.2 := by
  rw [F_L_law_C42] at h
  refine r_aload_n (dc_L_law_31 11 rfl) rfl rfl ?_
  refine r_aload_n (dc_L_law_31 12 rfl) rfl rfl ?_
  refine r_iload (dc_L_law_31 13 rfl) rfl ?_
  refine r_iconst (dc_L_law_31 14 rfl) kiconst_1 ?_
  refine r_iadd (dc_L_law_31 15 rfl) ?_
  obtain ⟨x454, e0, h⟩ := Option.bind_eq_some_iff.mp h
  obtain ⟨hin, ex⟩ := sld_some e0
  refine r_sld (dc_L_law_31 16 rfl) hin ?_
  rw [← ex]
  refine r_aload_n (dc_L_law_31 17 rfl) rfl rfl ?_
  refine r_iload (dc_L_law_31 18 rfl) rfl ?_
  refine r_iconst (dc_L_law_31 19 rfl) kiconst_2 ?_
  refine r_iadd (dc_L_law_31 20 rfl) ?_
  obtain ⟨x455, e0, h⟩ := Option.bind_eq_some_iff.mp h
  obtain ⟨hin, ex⟩ := sld_some e0
  refine r_sld (dc_L_law_31 21 rfl) hin ?_
  rw [← ex]
  refine r_aload_n (dc_L_law_31 22 rfl) rfl rfl ?_
  refine r_iload (dc_L_law_31 23 rfl) rfl ?_
  refine r_iconst (dc_L_law_31 24 rfl) kiconst_3 ?_
  refine r_iadd (dc_L_law_31 25 rfl) ?_
  obtain ⟨x456, e0, h⟩ := Option.bind_eq_some_iff.mp h
  obtain ⟨hin, ex⟩ := sld_some e0
  refine r_sld (dc_L_law_31 26 rfl) hin ?_
  rw [← ex]
  refine r_aload_n (dc_L_law_31 27 rfl) rfl rfl ?_
  obtain ⟨x458, s457, e0, h⟩ := wb_some h
  refine r_callSH (dc_L_law_31 28 rfl) mh_L_joining ml_RL_297 (As := [.ref pC1, .int x454, .int x455, .int x456, .ref pC3]) (t_L_joining (d := d - 1) hl (by omega) e0) (by omega) rfl (Nat.le_of_ble_eq_true rfl) ?_
  refine r_istore (dc_L_law_31 29 rfl) (by decide) (lo' := [(5, .int x458), (0, .ref 0), (1, .ref pC1), (2, .ref pC2), (3, .ref pC3), (4, .int xC4)]) rfl ?_
  refine r_aload_n (dc_L_law_31 30 rfl) rfl rfl ?_
  refine r_aload_n (dc_L_law_31 31 rfl) rfl rfl ?_
  refine r_iload (dc_L_law_31 32 rfl) rfl ?_
  refine r_iconst (dc_L_law_31 33 rfl) kiconst_1 ?_
  refine r_iadd (dc_L_law_31 34 rfl) ?_
  obtain ⟨x459, e0, h⟩ := Option.bind_eq_some_iff.mp h
  obtain ⟨hin, ex⟩ := sld_some e0
  refine r_sld (dc_L_law_31 35 rfl) hin ?_
  rw [← ex]
  refine r_aload_n (dc_L_law_31 36 rfl) rfl rfl ?_
  refine r_iload (dc_L_law_31 37 rfl) rfl ?_
  refine r_iconst (dc_L_law_31 38 rfl) kiconst_2 ?_
  refine r_iadd (dc_L_law_31 39 rfl) ?_
  obtain ⟨x460, e0, h⟩ := Option.bind_eq_some_iff.mp h
  obtain ⟨hin, ex⟩ := sld_some e0
  refine r_sld (dc_L_law_31 40 rfl) hin ?_
  rw [← ex]
  refine r_aload_n (dc_L_law_31 41 rfl) rfl rfl ?_
  refine r_iload (dc_L_law_31 42 rfl) rfl ?_
  refine r_iconst (dc_L_law_31 43 rfl) kiconst_3 ?_
  refine r_iadd (dc_L_law_31 44 rfl) ?_
  obtain ⟨x461, e0, h⟩ := Option.bind_eq_some_iff.mp h
  obtain ⟨hin, ex⟩ := sld_some e0
  refine r_sld (dc_L_law_31 45 rfl) hin ?_
  rw [← ex]
  obtain ⟨x463, s462, e0, h⟩ := wb_some h
  refine r_callV (dc_L_law_31 46 rfl) mv_X10_joining ml_RL_299 (As := [.int x459, .int x460, .int x461]) (t_X10_joining (d := d - 1) hl (by omega) e0) (by omega) rfl (Nat.le_of_ble_eq_true rfl) ?_
  refine r_istore (dc_L_law_31 47 rfl) (by decide) (lo' := [(6, .int x463), (5, .int x458), (0, .ref 0), (1, .ref pC1), (2, .ref pC2), (3, .ref pC3), (4, .int xC4)]) rfl ?_
  refine r_aload_n (dc_L_law_31 48 rfl) rfl rfl ?_
  obtain ⟨x464, e0, h⟩ := Option.bind_eq_some_iff.mp h
  refine r_callV (dc_L_law_31 49 rfl) mv_X10_thrown ml_RL_166 (As := []) (t_X10_thrown (d := d - 1) hl (by omega) e0) (by omega) rfl (Nat.le_of_ble_eq_true rfl) ?_
  refine r_iload (dc_L_law_31 50 rfl) rfl ?_
  refine r_icmp_eq (dc_L_law_31 51 rfl) (tgt := 3268) (by decide) (fun c0 => ?_) (fun c0 => ?_)
  · rw [if_pos c0] at h
    refine r_iload (dc_L_law_31 54 rfl) rfl ?_
    refine r_if_ne (dc_L_law_31 55 rfl) (tgt := 3285) (by decide) (fun c0 => ?_) (fun c0 => ?_)
    · rw [if_neg c0] at h
      refine r_goto (dc_L_law_32 1 rfl) (tgt := 3394) (by decide) ?_
      refine r_pick [2, 3, 4, 5, 6] (lo' := [(0, .ref 0), (1, .ref pC1), (2, .ref pC2), (3, .ref pC3), (4, .int xC4)]) rfl ?_
      exact hkJ _ h
    · rw [if_pos c0] at h
      refine r_aload_n (dc_L_law_31 56 rfl) rfl rfl ?_
      refine r_iconst (dc_L_law_31 57 rfl) kiconst_0 ?_
      obtain ⟨y465, e0, h⟩ := Option.bind_eq_some_iff.mp h
      refine r_lald (dc_L_law_31 58 rfl) e0 ?_
      refine r_iload (dc_L_law_31 59 rfl) rfl ?_
      refine r_i2l (dc_L_law_31 60 rfl) ?_
      refine r_lcmp (dc_L_law_31 61 rfl) ?_
      refine r_if_eq (dc_L_law_31 62 rfl) (tgt := 3285) (by decide) (fun c0 => ?_) (fun c0 => ?_)
      · rw [if_pos c0] at h
        refine r_goto (dc_L_law_32 1 rfl) (tgt := 3394) (by decide) ?_
        refine r_pick [2, 3, 4, 5, 6] (lo' := [(0, .ref 0), (1, .ref pC1), (2, .ref pC2), (3, .ref pC3), (4, .int xC4)]) rfl ?_
        exact hkJ _ h
      · rw [if_neg c0] at h
        refine r_iconst (dc_L_law_31 63 rfl) kiconst_0 ?_
        cases h
        exact r_zreturn (dc_L_law_32 0 rfl) rfl (Or.inl rfl)
  · rw [if_neg c0] at h
    refine r_iconst (dc_L_law_31 52 rfl) kiconst_0 ?_
    cases h
    exact r_zreturn (dc_L_law_31 53 rfl) rfl (Or.inl rfl)
