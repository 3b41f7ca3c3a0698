theorem l_L_law_C43 {G : Gx} {d : Nat} (hl : G.1.stackTraces = false) (hd : 15 ≤ d) {pC1 : Nat} {pC2 : Nat} {pC3 : Nat} {xC4 : Int32} {sC : Sto} {r : (Int32 × Sto)} {kJ : Sto → Option (Int32 × Sto)} (hkJ : ∀ (sJ : Sto), kJ sJ = some r → J G d m_L_law 3394 [(0, .ref 0), (1, .ref pC1), (2, .ref pC2), (3, .ref pC3), (4, .int xC4)] [] sJ (.inl (some (.int r.1))) r.2) (h : F_L_law_C43 G.sl G.sx pC1 pC2 pC3 xC4 sC kJ = some r) : J G d m_L_law 3288 [(0, .ref 0), (1, .ref pC1), (2, .ref pC2), (3, .ref pC3), (4, .int xC4)] [] sC (.inl (some (.int r.1))) r.2 := by
  rw [F_L_law_C43] at h
  refine r_aload_n (dc_L_law_32 2 rfl) rfl rfl ?_
  refine r_aload_n (dc_L_law_32 3 rfl) rfl rfl ?_
  refine r_iload (dc_L_law_32 4 rfl) rfl ?_
  refine r_iconst (dc_L_law_32 5 rfl) kiconst_1 ?_
  refine r_iadd (dc_L_law_32 6 rfl) ?_
  obtain ⟨x466, e0, h⟩ := Option.bind_eq_some_iff.mp h
  obtain ⟨hin, ex⟩ := sld_some e0
  refine r_sld (dc_L_law_32 7 rfl) hin ?_
  rw [← ex]
  refine r_aload_n (dc_L_law_32 8 rfl) rfl rfl ?_
  obtain ⟨x468, s467, e0, h⟩ := wb_some h
  refine r_callSH (dc_L_law_32 9 rfl) mh_L_best ml_RL_300 (As := [.ref pC1, .int x466, .ref pC3]) (t_L_best (d := d - 1) hl (by omega) e0) (by omega) rfl (Nat.le_of_ble_eq_true rfl) ?_
  refine r_istore (dc_L_law_32 10 rfl) (by decide) (lo' := [(5, .int x468), (0, .ref 0), (1, .ref pC1), (2, .ref pC2), (3, .ref pC3), (4, .int xC4)]) rfl ?_
  refine r_aload_n (dc_L_law_32 11 rfl) rfl rfl ?_
  refine r_aload_n (dc_L_law_32 12 rfl) rfl rfl ?_
  refine r_iload (dc_L_law_32 13 rfl) rfl ?_
  refine r_iconst (dc_L_law_32 14 rfl) kiconst_1 ?_
  refine r_iadd (dc_L_law_32 15 rfl) ?_
  obtain ⟨x469, e0, h⟩ := Option.bind_eq_some_iff.mp h
  obtain ⟨hin, ex⟩ := sld_some e0
  refine r_sld (dc_L_law_32 16 rfl) hin ?_
  rw [← ex]
  obtain ⟨x471, s470, e0, h⟩ := wb_some h
  refine r_callV (dc_L_law_32 17 rfl) mv_X10_best ml_RL_302 (As := [.int x469]) (t_X10_best (d := d - 1) hl (by omega) e0) (by omega) rfl (Nat.le_of_ble_eq_true rfl) ?_
  refine r_istore (dc_L_law_32 18 rfl) (by decide) (lo' := [(6, .int x471), (5, .int x468), (0, .ref 0), (1, .ref pC1), (2, .ref pC2), (3, .ref pC3), (4, .int xC4)]) rfl ?_
  refine r_aload_n (dc_L_law_32 19 rfl) rfl rfl ?_
  obtain ⟨x472, e0, h⟩ := Option.bind_eq_some_iff.mp h
  refine r_callV (dc_L_law_32 20 rfl) mv_X10_thrown ml_RL_166 (As := []) (t_X10_thrown (d := d - 1) hl (by omega) e0) (by omega) rfl (Nat.le_of_ble_eq_true rfl) ?_
  refine r_iload (dc_L_law_32 21 rfl) rfl ?_
  refine r_icmp_eq (dc_L_law_32 22 rfl) (tgt := 3324) (by decide) (fun c0 => ?_) (fun c0 => ?_)
  · rw [if_pos c0] at h
    refine r_iload (dc_L_law_32 25 rfl) rfl ?_
    refine r_if_ne (dc_L_law_32 26 rfl) (tgt := 3341) (by decide) (fun c0 => ?_) (fun c0 => ?_)
    · rw [if_neg c0] at h
      refine r_goto (dc_L_law_32 36 rfl) (tgt := 3394) (by decide) ?_
      refine r_pick [2, 3, 4, 5, 6] (lo' := [(0, .ref 0), (1, .ref pC1), (2, .ref pC2), (3, .ref pC3), (4, .int xC4)]) rfl ?_
      exact hkJ _ h
    · rw [if_pos c0] at h
      refine r_aload_n (dc_L_law_32 27 rfl) rfl rfl ?_
      refine r_iconst (dc_L_law_32 28 rfl) kiconst_0 ?_
      obtain ⟨y473, e0, h⟩ := Option.bind_eq_some_iff.mp h
      refine r_lald (dc_L_law_32 29 rfl) e0 ?_
      refine r_iload (dc_L_law_32 30 rfl) rfl ?_
      refine r_i2l (dc_L_law_32 31 rfl) ?_
      refine r_lcmp (dc_L_law_32 32 rfl) ?_
      refine r_if_eq (dc_L_law_32 33 rfl) (tgt := 3341) (by decide) (fun c0 => ?_) (fun c0 => ?_)
      · rw [if_pos c0] at h
        refine r_goto (dc_L_law_32 36 rfl) (tgt := 3394) (by decide) ?_
        refine r_pick [2, 3, 4, 5, 6] (lo' := [(0, .ref 0), (1, .ref pC1), (2, .ref pC2), (3, .ref pC3), (4, .int xC4)]) rfl ?_
        exact hkJ _ h
      · rw [if_neg c0] at h
        refine r_iconst (dc_L_law_32 34 rfl) kiconst_0 ?_
        cases h
        exact r_zreturn (dc_L_law_32 35 rfl) rfl (Or.inl rfl)
  · rw [if_neg c0] at h
    refine r_iconst (dc_L_law_32 23 rfl) kiconst_0 ?_
    cases h
    exact r_zreturn (dc_L_law_32 24 rfl) rfl (Or.inl rfl)
theorem l_L_law_C44 {G : Gx} {d : Nat} (hl : G.1.stackTraces = false) (hd : 15 ≤ d) {pC1 : Nat} {pC2 : Nat} {pC3 : Nat} {xC4 : Int32} {sC : Sto} {r : (Int32 × Sto)} {kJ : Sto → Option (Int32 × Sto)} (hkJ : ∀ (sJ : Sto), kJ sJ = some r → J G d m_L_law 3394 [(0, .ref 0), (1, .ref pC1), (2, .ref pC2), (3, .ref pC3), (4, .int xC4)] [] sJ (.inl (some (.int r.1))) r.2) (h : F_L_law_C44 G.sl G.sx pC1 pC2 pC3 xC4 sC kJ = some r) : J G d m_L_law 3344 [(0, .ref 0), (1, .ref pC1), (2, .ref pC2), (3, .ref pC3), (4, .int xC4)] [] sC (.inl (some (.int r.1))) r.2 := by
  rw [F_L_law_C44] at h
  refine r_aload_n (dc_L_law_32 37 rfl) rfl rfl ?_
  refine r_aload_n (dc_L_law_32 38 rfl) rfl rfl ?_
  refine r_iload (dc_L_law_32 39 rfl) rfl ?_
  refine r_iconst (dc_L_law_32 40 rfl) kiconst_1 ?_
  refine r_iadd (dc_L_law_32 41 rfl) ?_
  obtain ⟨x474, e0, h⟩ := Option.bind_eq_some_iff.mp h
  obtain ⟨hin, ex⟩ := sld_some e0
  refine r_sld (dc_L_law_32 42 rfl) hin ?_
  rw [← ex]
  obtain ⟨x476, s475, e0, h⟩ := wb_some h
  refine r_callV (dc_L_law_32 43 rfl) mv_X9_fewest ml_RL_303 (As := [.int x474]) (t_X9_fewest (d := d - 1) hl (by omega) e0) (by omega) rfl (Nat.le_of_ble_eq_true rfl) ?_
  refine r_aload_n (dc_L_law_32 44 rfl) rfl rfl ?_
  refine r_aload_n (dc_L_law_32 45 rfl) rfl rfl ?_
  refine r_iload (dc_L_law_32 46 rfl) rfl ?_
  refine r_iconst (dc_L_law_32 47 rfl) kiconst_1 ?_
  refine r_iadd (dc_L_law_32 48 rfl) ?_
  obtain ⟨x477, e0, h⟩ := Option.bind_eq_some_iff.mp h
  obtain ⟨hin, ex⟩ := sld_some e0
  refine r_sld (dc_L_law_32 49 rfl) hin ?_
  rw [← ex]
  obtain ⟨x479, s478, e0, h⟩ := wb_some h
  refine r_callV (dc_L_law_32 50 rfl) mv_X10_fewest ml_RL_306 (As := [.int x477]) (t_X10_fewest (d := d - 1) hl (by omega) e0) (by omega) rfl (Nat.le_of_ble_eq_true rfl) ?_
  refine r_icmp_eq (dc_L_law_32 51 rfl) (tgt := 3394) (by decide) (fun c0 => ?_) (fun c0 => ?_)
  · rw [if_pos c0] at h
    exact hkJ _ h
  · rw [if_neg c0] at h
    refine r_iconst (dc_L_law_32 52 rfl) kiconst_0 ?_
    cases h
    exact r_zreturn (dc_L_law_32 53 rfl) rfl (Or.inl rfl)
theorem l_L_law_C45 {G : Gx} {d : Nat} (hl : G.1.stackTraces = false) (hd : 15 ≤ d) {pC1 : Nat} {pC2 : Nat} {pC3 : Nat} {xC4 : Int32} {sC : Sto} {r : (Int32 × Sto)} {kJ : Sto → Option (Int32 × Sto)} (hkJ : ∀ (sJ : Sto), kJ sJ = some r → J G d m_L_law 3394 [(0, .ref 0), (1, .ref pC1), (2, .ref pC2), (3, .ref pC3), (4, .int xC4)] [] sJ (.inl (some (.int r.1))) r.2) (h : F_L_law_C45 G.sl G.sx pC1 pC2 pC3 xC4 sC kJ = some r) : J G d m_L_law 3369 [(0, .ref 0), (1, .ref pC1), (2, .ref pC2), (3, .ref pC3), (4, .int xC4)] [] sC (.inl (some (.int r.1))) r.2 := by
  rw [F_L_law_C45] at h
  refine r_aload_n (dc_L_law_32 54 rfl) rfl rfl ?_
  refine r_aload_n (dc_L_law_32 55 rfl) rfl rfl ?_
  refine r_iload (dc_L_law_32 56 rfl) rfl ?_
  refine r_iconst (dc_L_law_32 57 rfl) kiconst_1 ?_
  refine r_iadd (dc_L_law_32 58 rfl) ?_
  obtain ⟨x480, e0, h⟩ := Option.bind_eq_some_iff.mp h
  obtain ⟨hin, ex⟩ := sld_some e0
  refine r_sld (dc_L_law_32 59 rfl) hin ?_
  rw [← ex]
  obtain ⟨x482, s481, e0, h⟩ := wb_some h
  refine r_callV (dc_L_law_32 60 rfl) mv_X9_count ml_RL_307 (As := [.int x480]) (t_X9_count (d := d - 1) hl (by omega) e0) (by omega) rfl (Nat.le_of_ble_eq_true rfl) ?_
  refine r_aload_n (dc_L_law_32 61 rfl) rfl rfl ?_
  refine r_aload_n (dc_L_law_32 62 rfl) rfl rfl ?_
  refine r_iload (dc_L_law_32 63 rfl) rfl ?_
  refine r_iconst (dc_L_law_33 0 rfl) kiconst_1 ?_
  refine r_iadd (dc_L_law_33 1 rfl) ?_
  obtain ⟨x483, e0, h⟩ := Option.bind_eq_some_iff.mp h
  obtain ⟨hin, ex⟩ := sld_some e0
  refine r_sld (dc_L_law_33 2 rfl) hin ?_
  rw [← ex]
  obtain ⟨x485, s484, e0, h⟩ := wb_some h
  refine r_callV (dc_L_law_33 3 rfl) mv_X10_count ml_RL_310 (As := [.int x483]) (t_X10_count (d := d - 1) hl (by omega) e0) (by omega) rfl (Nat.le_of_ble_eq_true rfl) ?_
  refine r_icmp_eq (dc_L_law_33 4 rfl) (tgt := 3394) (by decide) (fun c0 => ?_) (fun c0 => ?_)
  · rw [if_pos c0] at h
    exact hkJ _ h
  · rw [if_neg c0] at h
    refine r_iconst (dc_L_law_33 5 rfl) kiconst_0 ?_
    cases h
    exact r_zreturn (dc_L_law_33 6 rfl) rfl (Or.inl rfl)
theorem l_L_law_L23 {G : Gx} {d : Nat} (hl : G.1.stackTraces = false) (hd : 15 ≤ d) {pL1 : Nat} {pL2 : Nat} {pL3 : Nat} {r : (Int32 × Sto)} {k3400 : Sto → Option (Int32 × Sto)}
    (hk3400 : ∀ (sL : Sto), k3400 sL = some r → J G d m_L_law 3400 [] [] sL (.inl (some (.int r.1))) r.2)
  : ∀ (f : Nat) (xL4 : Int32) (sL : Sto), F_L_law_L23 G.sl G.sx pL1 pL2 pL3 f xL4 sL k3400 = some r → J G d m_L_law 23 [(0, .ref 0), (1, .ref pL1), (2, .ref pL2), (3, .ref pL3), (4, .int xL4)] [] sL (.inl (some (.int r.1))) r.2 := by
  intro f
  induction f with
  | zero => intro xL4 sL h; rw [F_L_law_L23] at h; cases h
  | succ f ih =>
    intro xL4 sL h
    rw [F_L_law_L23] at h
    refine r_iload (dc_L_law_0 13 rfl) rfl ?_
    refine r_aload_n (dc_L_law_0 14 rfl) rfl rfl ?_
    refine r_slen (dc_L_law_0 15 rfl) ?_
    refine r_iconst (dc_L_law_0 16 rfl) kiconst_5 ?_
    refine r_isub (dc_L_law_0 17 rfl) ?_
    refine r_icmp_gt (dc_L_law_0 18 rfl) (tgt := 3400) (by decide) (fun c0 => ?_) (fun c0 => ?_)
    · rw [if_pos c0] at h
      refine r_pick [] (lo' := []) rfl ?_
      exact hk3400 _ h
    · rw [if_neg c0] at h
      refine r_aload_n (dc_L_law_0 19 rfl) rfl rfl ?_
      refine r_iload (dc_L_law_0 20 rfl) rfl ?_
      obtain ⟨x9, e0, h⟩ := Option.bind_eq_some_iff.mp h
      obtain ⟨hin, ex⟩ := sld_some e0
      refine r_sld (dc_L_law_0 21 rfl) hin ?_
      rw [← ex]
      refine r_bipush (dc_L_law_0 22 rfl) kbipush_63 ?_
      refine r_iand (dc_L_law_0 23 rfl) ?_
      refine jn_elim h (Q := fun (j : Sto → Option (Int32 × Sto)) => ∀ (sJ : Sto), j sJ = some r → J G d m_L_law 3394 [(0, .ref 0), (1, .ref pL1), (2, .ref pL2), (3, .ref pL3), (4, .int xL4)] [] sJ (.inl (some (.int r.1))) r.2) ?_ (fun kJ hkJ h => ?_)
      · intro sJ h
        refine r_iinc (dc_L_law_33 7 rfl) rfl (kinc_5 _) (by decide) (lo' := [(4, .int (xL4 + (5 : Int32))), (0, .ref 0), (1, .ref pL1), (2, .ref pL2), (3, .ref pL3)]) rfl ?_
        refine r_goto (dc_L_law_33 8 rfl) (tgt := 23) (by decide) ?_
        refine r_pick [1, 2, 3, 4, 0] (lo' := [(0, .ref 0), (1, .ref pL1), (2, .ref pL2), (3, .ref pL3), (4, .int (xL4 + (5 : Int32)))]) rfl ?_
        exact ih _ _ h
      by_cases c0 : (x9 &&& (63 : Int32)) = (0 : Int32)
      · rw [if_pos c0] at h
        refine r_tsInE c0 (dc_L_law_0 24 rfl) (tgt := 236) (off := 197) (by decide) (by decide) (by decide) (by decide) ?_
        exact l_L_law_C0 hl hd hkJ h
      rw [if_neg c0] at h
      by_cases c1 : (x9 &&& (63 : Int32)) = (1 : Int32)
      · rw [if_pos c1] at h
        refine r_tsInE c1 (dc_L_law_0 24 rfl) (tgt := 292) (off := 253) (by decide) (by decide) (by decide) (by decide) ?_
        exact l_L_law_C1 hl hd hkJ h
      rw [if_neg c1] at h
      by_cases c2 : (x9 &&& (63 : Int32)) = (2 : Int32)
      · rw [if_pos c2] at h
        refine r_tsInE c2 (dc_L_law_0 24 rfl) (tgt := 348) (off := 309) (by decide) (by decide) (by decide) (by decide) ?_
        exact l_L_law_C2 hl hd hkJ h
      rw [if_neg c2] at h
      by_cases c3 : (x9 &&& (63 : Int32)) = (3 : Int32)
      · rw [if_pos c3] at h
        refine r_tsInE c3 (dc_L_law_0 24 rfl) (tgt := 416) (off := 377) (by decide) (by decide) (by decide) (by decide) ?_
        exact l_L_law_C3 hl hd hkJ h
      rw [if_neg c3] at h
      by_cases c4 : (x9 &&& (63 : Int32)) = (4 : Int32)
      · rw [if_pos c4] at h
        refine r_tsInE c4 (dc_L_law_0 24 rfl) (tgt := 484) (off := 445) (by decide) (by decide) (by decide) (by decide) ?_
        exact l_L_law_C4 hl hd hkJ h
      rw [if_neg c4] at h
      by_cases c5 : (x9 &&& (63 : Int32)) = (5 : Int32)
      · rw [if_pos c5] at h
        refine r_tsInE c5 (dc_L_law_0 24 rfl) (tgt := 552) (off := 513) (by decide) (by decide) (by decide) (by decide) ?_
        exact l_L_law_C5 hl hd hkJ h
      rw [if_neg c5] at h
      by_cases c6 : (x9 &&& (63 : Int32)) = (6 : Int32)
      · rw [if_pos c6] at h
        refine r_tsInE c6 (dc_L_law_0 24 rfl) (tgt := 632) (off := 593) (by decide) (by decide) (by decide) (by decide) ?_
        exact l_L_law_C6 hl hd hkJ h
      rw [if_neg c6] at h
      by_cases c7 : (x9 &&& (63 : Int32)) = (7 : Int32)
      · rw [if_pos c7] at h
        refine r_tsInE c7 (dc_L_law_0 24 rfl) (tgt := 712) (off := 673) (by decide) (by decide) (by decide) (by decide) ?_
        exact l_L_law_C7 hl hd hkJ h
      rw [if_neg c7] at h
      by_cases c8 : (x9 &&& (63 : Int32)) = (8 : Int32)
      · rw [if_pos c8] at h
        refine r_tsInE c8 (dc_L_law_0 24 rfl) (tgt := 792) (off := 753) (by decide) (by decide) (by decide) (by decide) ?_
        exact l_L_law_C8 hl hd hkJ h
      rw [if_neg c8] at h
      by_cases c9 : (x9 &&& (63 : Int32)) = (9 : Int32)
      · rw [if_pos c9] at h
        refine r_tsInE c9 (dc_L_law_0 24 rfl) (tgt := 860) (off := 821) (by decide) (by decide) (by decide) (by decide) ?_
        exact l_L_law_C9 hl hd hkJ h
      rw [if_neg c9] at h
      by_cases c10 : (x9 &&& (63 : Int32)) = (10 : Int32)
      · rw [if_pos c10] at h
        refine r_tsInE c10 (dc_L_law_0 24 rfl) (tgt := 952) (off := 913) (by decide) (by decide) (by decide) (by decide) ?_
        exact l_L_law_C10 hl hd hkJ h
      rw [if_neg c10] at h
      by_cases c11 : (x9 &&& (63 : Int32)) = (11 : Int32)
      · rw [if_pos c11] at h
        refine r_tsInE c11 (dc_L_law_0 24 rfl) (tgt := 1044) (off := 1005) (by decide) (by decide) (by decide) (by decide) ?_
        exact l_L_law_C11 hl hd hkJ h
      rw [if_neg c11] at h
      by_cases c12 : (x9 &&& (63 : Int32)) = (12 : Int32)
      · rw [if_pos c12] at h
        refine r_tsInE c12 (dc_L_law_0 24 rfl) (tgt := 1100) (off := 1061) (by decide) (by decide) (by decide) (by decide) ?_
        exact l_L_law_C12 hl hd hkJ h
      rw [if_neg c12] at h
      by_cases c13 : (x9 &&& (63 : Int32)) = (13 : Int32)
      · rw [if_pos c13] at h
        refine r_tsInE c13 (dc_L_law_0 24 rfl) (tgt := 1156) (off := 1117) (by decide) (by decide) (by decide) (by decide) ?_
        exact l_L_law_C13 hl hd hkJ h
      rw [if_neg c13] at h
      by_cases c14 : (x9 &&& (63 : Int32)) = (14 : Int32)
      · rw [if_pos c14] at h
        refine r_tsInE c14 (dc_L_law_0 24 rfl) (tgt := 1224) (off := 1185) (by decide) (by decide) (by decide) (by decide) ?_
        exact l_L_law_C14 hl hd hkJ h
      rw [if_neg c14] at h
      by_cases c15 : (x9 &&& (63 : Int32)) = (15 : Int32)
      · rw [if_pos c15] at h
        refine r_tsInE c15 (dc_L_law_0 24 rfl) (tgt := 1292) (off := 1253) (by decide) (by decide) (by decide) (by decide) ?_
        exact l_L_law_C15 hl hd hkJ h
      rw [if_neg c15] at h
      by_cases c16 : (x9 &&& (63 : Int32)) = (16 : Int32)
      · rw [if_pos c16] at h
        refine r_tsInE c16 (dc_L_law_0 24 rfl) (tgt := 1348) (off := 1309) (by decide) (by decide) (by decide) (by decide) ?_
        exact l_L_law_C16 hl hd hkJ h
      rw [if_neg c16] at h
      by_cases c17 : (x9 &&& (63 : Int32)) = (17 : Int32)
      · rw [if_pos c17] at h
        refine r_tsInE c17 (dc_L_law_0 24 rfl) (tgt := 1404) (off := 1365) (by decide) (by decide) (by decide) (by decide) ?_
        exact l_L_law_C17 hl hd hkJ h
      rw [if_neg c17] at h
      by_cases c18 : (x9 &&& (63 : Int32)) = (18 : Int32)
      · rw [if_pos c18] at h
        refine r_tsInE c18 (dc_L_law_0 24 rfl) (tgt := 1507) (off := 1468) (by decide) (by decide) (by decide) (by decide) ?_
        exact l_L_law_C18 hl hd hkJ h
      rw [if_neg c18] at h
      by_cases c19 : (x9 &&& (63 : Int32)) = (19 : Int32)
      · rw [if_pos c19] at h
        refine r_tsInE c19 (dc_L_law_0 24 rfl) (tgt := 1587) (off := 1548) (by decide) (by decide) (by decide) (by decide) ?_
        exact l_L_law_C19 hl hd hkJ h
      rw [if_neg c19] at h
      by_cases c20 : (x9 &&& (63 : Int32)) = (20 : Int32)
      · rw [if_pos c20] at h
        refine r_tsInE c20 (dc_L_law_0 24 rfl) (tgt := 1667) (off := 1628) (by decide) (by decide) (by decide) (by decide) ?_
        exact l_L_law_C20 hl hd hkJ h
      rw [if_neg c20] at h
      by_cases c21 : (x9 &&& (63 : Int32)) = (21 : Int32)
      · rw [if_pos c21] at h
        refine r_tsInE c21 (dc_L_law_0 24 rfl) (tgt := 1735) (off := 1696) (by decide) (by decide) (by decide) (by decide) ?_
        exact l_L_law_C21 hl hd hkJ h
      rw [if_neg c21] at h
      by_cases c22 : (x9 &&& (63 : Int32)) = (22 : Int32)
      · rw [if_pos c22] at h
        refine r_tsInE c22 (dc_L_law_0 24 rfl) (tgt := 1815) (off := 1776) (by decide) (by decide) (by decide) (by decide) ?_
        exact l_L_law_C22 hl hd hkJ h
      rw [if_neg c22] at h
      by_cases c23 : (x9 &&& (63 : Int32)) = (23 : Int32)
      · rw [if_pos c23] at h
        refine r_tsInE c23 (dc_L_law_0 24 rfl) (tgt := 1902) (off := 1863) (by decide) (by decide) (by decide) (by decide) ?_
        exact l_L_law_C23 hl hd hkJ h
      rw [if_neg c23] at h
      by_cases c24 : (x9 &&& (63 : Int32)) = (24 : Int32)
      · rw [if_pos c24] at h
        refine r_tsInE c24 (dc_L_law_0 24 rfl) (tgt := 1977) (off := 1938) (by decide) (by decide) (by decide) (by decide) ?_
        exact l_L_law_C24 hl hd hkJ h
      rw [if_neg c24] at h
      by_cases c25 : (x9 &&& (63 : Int32)) = (25 : Int32)
      · rw [if_pos c25] at h
        refine r_tsInE c25 (dc_L_law_0 24 rfl) (tgt := 2045) (off := 2006) (by decide) (by decide) (by decide) (by decide) ?_
        exact l_L_law_C25 hl hd hkJ h
      rw [if_neg c25] at h
      by_cases c26 : (x9 &&& (63 : Int32)) = (26 : Int32)
      · rw [if_pos c26] at h
        refine r_tsInE c26 (dc_L_law_0 24 rfl) (tgt := 2113) (off := 2074) (by decide) (by decide) (by decide) (by decide) ?_
        exact l_L_law_C26 hl hd hkJ h
      rw [if_neg c26] at h
      by_cases c27 : (x9 &&& (63 : Int32)) = (27 : Int32)
      · rw [if_pos c27] at h
        refine r_tsInE c27 (dc_L_law_0 24 rfl) (tgt := 2193) (off := 2154) (by decide) (by decide) (by decide) (by decide) ?_
        exact l_L_law_C27 hl hd hkJ h
      rw [if_neg c27] at h
      by_cases c28 : (x9 &&& (63 : Int32)) = (28 : Int32)
      · rw [if_pos c28] at h
        refine r_tsInE c28 (dc_L_law_0 24 rfl) (tgt := 2261) (off := 2222) (by decide) (by decide) (by decide) (by decide) ?_
        exact l_L_law_C28 hl hd hkJ h
      rw [if_neg c28] at h
      by_cases c29 : (x9 &&& (63 : Int32)) = (29 : Int32)
      · rw [if_pos c29] at h
        refine r_tsInE c29 (dc_L_law_0 24 rfl) (tgt := 2336) (off := 2297) (by decide) (by decide) (by decide) (by decide) ?_
        exact l_L_law_C29 hl hd hkJ h
      rw [if_neg c29] at h
      by_cases c30 : (x9 &&& (63 : Int32)) = (30 : Int32)
      · rw [if_pos c30] at h
        refine r_tsInE c30 (dc_L_law_0 24 rfl) (tgt := 2392) (off := 2353) (by decide) (by decide) (by decide) (by decide) ?_
        exact l_L_law_C30 hl hd hkJ h
      rw [if_neg c30] at h
      by_cases c31 : (x9 &&& (63 : Int32)) = (31 : Int32)
      · rw [if_pos c31] at h
        refine r_tsInE c31 (dc_L_law_0 24 rfl) (tgt := 2472) (off := 2433) (by decide) (by decide) (by decide) (by decide) ?_
        exact l_L_law_C31 hl hd hkJ h
      rw [if_neg c31] at h
      by_cases c32 : (x9 &&& (63 : Int32)) = (32 : Int32)
      · rw [if_pos c32] at h
        refine r_tsInE c32 (dc_L_law_0 24 rfl) (tgt := 2552) (off := 2513) (by decide) (by decide) (by decide) (by decide) ?_
        exact l_L_law_C32 hl hd hkJ h
      rw [if_neg c32] at h
      by_cases c33 : (x9 &&& (63 : Int32)) = (33 : Int32)
      · rw [if_pos c33] at h
        refine r_tsInE c33 (dc_L_law_0 24 rfl) (tgt := 2608) (off := 2569) (by decide) (by decide) (by decide) (by decide) ?_
        exact l_L_law_C33 hl hd hkJ h
      rw [if_neg c33] at h
      by_cases c34 : (x9 &&& (63 : Int32)) = (34 : Int32)
      · rw [if_pos c34] at h
        refine r_tsInE c34 (dc_L_law_0 24 rfl) (tgt := 2676) (off := 2637) (by decide) (by decide) (by decide) (by decide) ?_
        exact l_L_law_C34 hl hd hkJ h
      rw [if_neg c34] at h
      by_cases c35 : (x9 &&& (63 : Int32)) = (35 : Int32)
      · rw [if_pos c35] at h
        refine r_tsInE c35 (dc_L_law_0 24 rfl) (tgt := 2744) (off := 2705) (by decide) (by decide) (by decide) (by decide) ?_
        exact l_L_law_C35 hl hd hkJ h
      rw [if_neg c35] at h
      by_cases c36 : (x9 &&& (63 : Int32)) = (36 : Int32)
      · rw [if_pos c36] at h
        refine r_tsInE c36 (dc_L_law_0 24 rfl) (tgt := 2812) (off := 2773) (by decide) (by decide) (by decide) (by decide) ?_
        exact l_L_law_C36 hl hd hkJ h
      rw [if_neg c36] at h
      by_cases c37 : (x9 &&& (63 : Int32)) = (37 : Int32)
      · rw [if_pos c37] at h
        refine r_tsInE c37 (dc_L_law_0 24 rfl) (tgt := 2892) (off := 2853) (by decide) (by decide) (by decide) (by decide) ?_
        exact l_L_law_C37 hl hd hkJ h
      rw [if_neg c37] at h
      by_cases c38 : (x9 &&& (63 : Int32)) = (38 : Int32)
      · rw [if_pos c38] at h
        refine r_tsInE c38 (dc_L_law_0 24 rfl) (tgt := 2960) (off := 2921) (by decide) (by decide) (by decide) (by decide) ?_
        exact l_L_law_C38 hl hd hkJ h
      rw [if_neg c38] at h
      by_cases c39 : (x9 &&& (63 : Int32)) = (39 : Int32)
      · rw [if_pos c39] at h
        refine r_tsInE c39 (dc_L_law_0 24 rfl) (tgt := 3016) (off := 2977) (by decide) (by decide) (by decide) (by decide) ?_
        exact l_L_law_C39 hl hd hkJ h
      rw [if_neg c39] at h
      by_cases c40 : (x9 &&& (63 : Int32)) = (40 : Int32)
      · rw [if_pos c40] at h
        refine r_tsInE c40 (dc_L_law_0 24 rfl) (tgt := 3084) (off := 3045) (by decide) (by decide) (by decide) (by decide) ?_
        exact l_L_law_C40 hl hd hkJ h
      rw [if_neg c40] at h
      by_cases c41 : (x9 &&& (63 : Int32)) = (41 : Int32)
      · rw [if_pos c41] at h
        refine r_tsInE c41 (dc_L_law_0 24 rfl) (tgt := 3140) (off := 3101) (by decide) (by decide) (by decide) (by decide) ?_
        exact l_L_law_C41 hl hd hkJ h
      rw [if_neg c41] at h
      by_cases c42 : (x9 &&& (63 : Int32)) = (42 : Int32)
      · rw [if_pos c42] at h
        refine r_tsInE c42 (dc_L_law_0 24 rfl) (tgt := 3208) (off := 3169) (by decide) (by decide) (by decide) (by decide) ?_
        exact l_L_law_C42 hl hd hkJ h
      rw [if_neg c42] at h
      by_cases c43 : (x9 &&& (63 : Int32)) = (43 : Int32)
      · rw [if_pos c43] at h
        refine r_tsInE c43 (dc_L_law_0 24 rfl) (tgt := 3288) (off := 3249) (by decide) (by decide) (by decide) (by decide) ?_
        exact l_L_law_C43 hl hd hkJ h
      rw [if_neg c43] at h
      by_cases c44 : (x9 &&& (63 : Int32)) = (44 : Int32)
      · rw [if_pos c44] at h
        refine r_tsInE c44 (dc_L_law_0 24 rfl) (tgt := 3344) (off := 3305) (by decide) (by decide) (by decide) (by decide) ?_
        exact l_L_law_C44 hl hd hkJ h
      rw [if_neg c44] at h
      by_cases c45 : (x9 &&& (63 : Int32)) = (45 : Int32)
      · rw [if_pos c45] at h
        refine r_tsInE c45 (dc_L_law_0 24 rfl) (tgt := 3369) (off := 3330) (by decide) (by decide) (by decide) (by decide) ?_
        exact l_L_law_C45 hl hd hkJ h
      rw [if_neg c45] at h
      refine r_tsOut (dc_L_law_0 24 rfl) (tgt := 3394) (ts_out (n := 46) (fun k hk => match k, hk with | 0, _ => c0 | 1, _ => c1 | 2, _ => c2 | 3, _ => c3 | 4, _ => c4 | 5, _ => c5 | 6, _ => c6 | 7, _ => c7 | 8, _ => c8 | 9, _ => c9 | 10, _ => c10 | 11, _ => c11 | 12, _ => c12 | 13, _ => c13 | 14, _ => c14 | 15, _ => c15 | 16, _ => c16 | 17, _ => c17 | 18, _ => c18 | 19, _ => c19 | 20, _ => c20 | 21, _ => c21 | 22, _ => c22 | 23, _ => c23 | 24, _ => c24 | 25, _ => c25 | 26, _ => c26 | 27, _ => c27 | 28, _ => c28 | 29, _ => c29 | 30, _ => c30 | 31, _ => c31 | 32, _ => c32 | 33, _ => c33 | 34, _ => c34 | 35, _ => c35 | 36, _ => c36 | 37, _ => c37 | 38, _ => c38 | 39, _ => c39 | 40, _ => c40 | 41, _ => c41 | 42, _ => c42 | 43, _ => c43 | 44, _ => c44 | 45, _ => c45 | k + 46, hk => absurd hk (by omega)) (by decide)) (by decide) ?_
      exact hkJ _ h
theorem j_L_law {G : Gx} {d : Nat} (hl : G.1.stackTraces = false) (hd : 15 ≤ d) {σ : Sto} {r : Int32 × Sto} (h : F_L_law G.sl G.sx σ = some r) : J G d m_L_law 0 [(0, .ref 0)] [] σ (.inl (some (.int r.1))) r.2 := by
  rw [F_L_law] at h
  obtain ⟨p2, s1, ev, es, h⟩ := nw_some h
  refine r_new (dc_L_law_0 0 rfl) nl_RL_8 ?_
  rw [← ev, ← es]
  refine r_dup (dc_L_law_0 1 rfl) rfl ?_
  obtain ⟨s3, e0, h⟩ := Option.bind_eq_some_iff.mp h
  refine r_callI (dc_L_law_0 2 rfl) mi_X9_init ml_RL_156 (As := []) (t_X9_init (d := d - 1) hl (by omega) e0) (by omega) rfl (Nat.le_of_ble_eq_true rfl) ?_
  refine r_astore_n (dc_L_law_0 3 rfl) rfl (by decide) (lo' := [(1, .ref p2), (0, .ref 0)]) rfl ?_
  obtain ⟨p5, s4, ev, es, h⟩ := nw_some h
  refine r_new (dc_L_law_0 4 rfl) nl_RL_157 ?_
  rw [← ev, ← es]
  refine r_dup (dc_L_law_0 5 rfl) rfl ?_
  obtain ⟨s6, e0, h⟩ := Option.bind_eq_some_iff.mp h
  refine r_callI (dc_L_law_0 6 rfl) mi_X10_init ml_RL_159 (As := []) (t_X10_init (d := d - 1) hl (by omega) e0) (by omega) rfl (Nat.le_of_ble_eq_true rfl) ?_
  refine r_astore_n (dc_L_law_0 7 rfl) rfl (by decide) (lo' := [(2, .ref p5), (1, .ref p2), (0, .ref 0)]) rfl ?_
  refine r_iconst (dc_L_law_0 8 rfl) kiconst_1 ?_
  obtain ⟨p8, s7, ev, es, h⟩ := nw_some h
  refine r_newL (dc_L_law_0 9 rfl) ac_long (by decide) (by decide +kernel) ?_
  rw [← ev, ← es]
  refine r_astore_n (dc_L_law_0 10 rfl) rfl (by decide) (lo' := [(3, .ref p8), (2, .ref p5), (1, .ref p2), (0, .ref 0)]) rfl ?_
  refine r_iconst (dc_L_law_0 11 rfl) kiconst_0 ?_
  refine r_istore (dc_L_law_0 12 rfl) (by decide) (lo' := [(4, .int (0 : Int32)), (3, .ref p8), (2, .ref p5), (1, .ref p2), (0, .ref 0)]) rfl ?_
  refine r_pick [4, 3, 2, 1, 0] (lo' := [(0, .ref 0), (1, .ref p2), (2, .ref p5), (3, .ref p8), (4, .int (0 : Int32))]) rfl ?_
  refine l_L_law_L23 hl hd (hk3400 := ?_) fu _ _ h
  · intro s486 h
    refine r_iconst (dc_L_law_33 9 rfl) kiconst_1 ?_
    cases h
    exact r_zreturn (dc_L_law_33 10 rfl) rfl (Or.inr rfl)
