theorem t_X9_needEvent {G : Gx} {d : Nat} (hl : G.1.stackTraces = false) (hd : 6 ≤ d) {σ : Sto} {a0 : Nat} {xa1 : Int32} {r : ((Unit ⊕ String) × Sto)} (h : F_X9_needEvent σ a0 xa1 = some r) : Mi G d m_X9_needEvent 9 a0 [.int xa1] σ (toU r.1) r.2 := by
  rw [F_X9_needEvent] at h
  obtain ⟨hg, h⟩ := chk_some h
  refine ⟨J.toMt (lo := [(0, .ref a0), (1, .int xa1)]) pn_RX9 rfl hl (Nat.le_of_ble_eq_true rfl) rfl ?_, hg⟩
  refine r_aload_n (dc_X9_needEvent 0 rfl) rfl rfl ?_
  obtain ⟨p1, e0, h⟩ := Option.bind_eq_some_iff.mp h
  refine r_getR (dc_X9_needEvent 1 rfl) fl_RX9_12 e0 ?_
  obtain ⟨p2, e0, h⟩ := Option.bind_eq_some_iff.mp h
  refine r_getR (dc_X9_needEvent 2 rfl) fl_RX9_84 e0 ?_
  refine r_iload_n (dc_X9_needEvent 3 rfl) rfl rfl ?_
  obtain ⟨x3, e0, h⟩ := Option.bind_eq_some_iff.mp h
  refine r_callV (dc_X9_needEvent 4 rfl) mv_X2_contains ml_RX9_88 (As := [.int xa1]) (t_X2_contains (d := d - 1) hl (by omega) e0) (by omega) rfl (Nat.le_of_ble_eq_true rfl) ?_
  refine r_if_ne (dc_X9_needEvent 5 rfl) (tgt := 25) (by decide) (fun c0 => ?_) (fun c0 => ?_)
  · rw [if_neg c0] at h
    cases h
    exact r_vreturn (dc_X9_needEvent 11 rfl) rfl
  · rw [if_pos c0] at h
    cases h
    exact r_throwSW tl_RX9_400_404 (str_in 18 rfl) (dc_X9_needEvent 6 rfl) (dc_X9_needEvent 7 rfl) (dc_X9_needEvent 8 rfl) (dc_X9_needEvent 9 rfl) (dc_X9_needEvent 10 rfl) rfl (by omega) (Nat.le_of_ble_eq_true rfl)
theorem t_X9_knows {G : Gx} {d : Nat} (hl : G.1.stackTraces = false) (hd : 7 ≤ d) {σ : Sto} {a0 : Nat} {xa1 : Int32} {xa2 : Int32} {xa3 : Int32} {r : ((Int32 ⊕ String) × Sto)} (h : F_X9_knows σ a0 xa1 xa2 xa3 = some r) : Mi G d m_X9_knows 9 a0 [.int xa1, .int xa2, .int xa3] σ (toI r.1) r.2 := by
  rw [F_X9_knows] at h
  obtain ⟨hg, h⟩ := chk_some h
  refine ⟨J.toMt (lo := [(0, .ref a0), (1, .int xa1), (2, .int xa2), (3, .int xa3)]) pn_RX9 rfl hl (Nat.le_of_ble_eq_true rfl) rfl ?_, hg⟩
  refine r_aload_n (dc_X9_knows 0 rfl) rfl rfl ?_
  refine r_iload_n (dc_X9_knows 1 rfl) rfl rfl ?_
  rcases tb_some h with ⟨u0, s1, e0, h⟩ | ⟨E0, s1, e0, h⟩
  rotate_left
  · subst h
    exact r_callVX (dc_X9_knows 2 rfl) mv_X9_needSite ml_RX9_67 (As := [.int xa1]) (t_X9_needSite (d := d - 1) hl (by omega) e0) (by omega) rfl (Nat.le_of_ble_eq_true rfl) rfl
  refine r_callV (dc_X9_knows 2 rfl) mv_X9_needSite ml_RX9_67 (As := [.int xa1]) (t_X9_needSite (d := d - 1) hl (by omega) e0) (by omega) rfl (Nat.le_of_ble_eq_true rfl) ?_
  refine r_aload_n (dc_X9_knows 3 rfl) rfl rfl ?_
  refine r_iload_n (dc_X9_knows 4 rfl) rfl rfl ?_
  rcases tb_some h with ⟨u0, s2, e0, h⟩ | ⟨E0, s2, e0, h⟩
  rotate_left
  · subst h
    exact r_callVX (dc_X9_knows 5 rfl) mv_X9_needSite ml_RX9_67 (As := [.int xa2]) (t_X9_needSite (d := d - 1) hl (by omega) e0) (by omega) rfl (Nat.le_of_ble_eq_true rfl) rfl
  refine r_callV (dc_X9_knows 5 rfl) mv_X9_needSite ml_RX9_67 (As := [.int xa2]) (t_X9_needSite (d := d - 1) hl (by omega) e0) (by omega) rfl (Nat.le_of_ble_eq_true rfl) ?_
  refine r_aload_n (dc_X9_knows 6 rfl) rfl rfl ?_
  refine r_iload_n (dc_X9_knows 7 rfl) rfl rfl ?_
  rcases tb_some h with ⟨u0, s3, e0, h⟩ | ⟨E0, s3, e0, h⟩
  rotate_left
  · subst h
    exact r_callVX (dc_X9_knows 8 rfl) mv_X9_needEvent ml_RX9_243 (As := [.int xa3]) (t_X9_needEvent (d := d - 1) hl (by omega) e0) (by omega) rfl (Nat.le_of_ble_eq_true rfl) rfl
  refine r_callV (dc_X9_knows 8 rfl) mv_X9_needEvent ml_RX9_243 (As := [.int xa3]) (t_X9_needEvent (d := d - 1) hl (by omega) e0) (by omega) rfl (Nat.le_of_ble_eq_true rfl) ?_
  refine r_aload_n (dc_X9_knows 9 rfl) rfl rfl ?_
  obtain ⟨p4, e0, h⟩ := Option.bind_eq_some_iff.mp h
  refine r_getR (dc_X9_knows 10 rfl) fl_RX9_12 e0 ?_
  obtain ⟨p5, e0, h⟩ := Option.bind_eq_some_iff.mp h
  refine r_getR (dc_X9_knows 11 rfl) fl_RX9_94 e0 ?_
  refine r_iload_n (dc_X9_knows 12 rfl) rfl rfl ?_
  obtain ⟨p6, e0, h⟩ := Option.bind_eq_some_iff.mp h
  refine r_aaldR (dc_X9_knows 13 rfl) (kd := 4) rfl e0 ?_
  refine r_aload_n (dc_X9_knows 14 rfl) rfl rfl ?_
  obtain ⟨p7, e0, h⟩ := Option.bind_eq_some_iff.mp h
  refine r_getR (dc_X9_knows 15 rfl) fl_RX9_12 e0 ?_
  obtain ⟨p8, e0, h⟩ := Option.bind_eq_some_iff.mp h
  refine r_getR (dc_X9_knows 16 rfl) fl_RX9_84 e0 ?_
  refine r_iload_n (dc_X9_knows 17 rfl) rfl rfl ?_
  refine r_iload_n (dc_X9_knows 18 rfl) rfl rfl ?_
  obtain ⟨x9, e0, h⟩ := Option.bind_eq_some_iff.mp h
  refine r_callV (dc_X9_knows 19 rfl) mv_X6_isKnown ml_RX9_246 (As := [.ref p8, .int xa2, .int xa3]) (t_X6_isKnown (d := d - 1) hl (by omega) e0) (by omega) rfl (Nat.le_of_ble_eq_true rfl) ?_
  split at h
  · rename_i c0
    cases h
    exact r_zreturn (dc_X9_knows 20 rfl) rfl c0
  · cases h
theorem t_X9_has {G : Gx} {d : Nat} (hl : G.1.stackTraces = false) (hd : 7 ≤ d) {σ : Sto} {a0 : Nat} {xa1 : Int32} {xa2 : Int32} {r : ((Int32 ⊕ String) × Sto)} (h : F_X9_has σ a0 xa1 xa2 = some r) : Mi G d m_X9_has 9 a0 [.int xa1, .int xa2] σ (toI r.1) r.2 := by
  rw [F_X9_has] at h
  obtain ⟨hg, h⟩ := chk_some h
  refine ⟨J.toMt (lo := [(0, .ref a0), (1, .int xa1), (2, .int xa2)]) pn_RX9 rfl hl (Nat.le_of_ble_eq_true rfl) rfl ?_, hg⟩
  refine r_aload_n (dc_X9_has 0 rfl) rfl rfl ?_
  refine r_iload_n (dc_X9_has 1 rfl) rfl rfl ?_
  rcases tb_some h with ⟨u0, s1, e0, h⟩ | ⟨E0, s1, e0, h⟩
  rotate_left
  · subst h
    exact r_callVX (dc_X9_has 2 rfl) mv_X9_needSite ml_RX9_67 (As := [.int xa1]) (t_X9_needSite (d := d - 1) hl (by omega) e0) (by omega) rfl (Nat.le_of_ble_eq_true rfl) rfl
  refine r_callV (dc_X9_has 2 rfl) mv_X9_needSite ml_RX9_67 (As := [.int xa1]) (t_X9_needSite (d := d - 1) hl (by omega) e0) (by omega) rfl (Nat.le_of_ble_eq_true rfl) ?_
  refine r_aload_n (dc_X9_has 3 rfl) rfl rfl ?_
  refine r_iload_n (dc_X9_has 4 rfl) rfl rfl ?_
  rcases tb_some h with ⟨u0, s2, e0, h⟩ | ⟨E0, s2, e0, h⟩
  rotate_left
  · subst h
    exact r_callVX (dc_X9_has 5 rfl) mv_X9_needEvent ml_RX9_243 (As := [.int xa2]) (t_X9_needEvent (d := d - 1) hl (by omega) e0) (by omega) rfl (Nat.le_of_ble_eq_true rfl) rfl
  refine r_callV (dc_X9_has 5 rfl) mv_X9_needEvent ml_RX9_243 (As := [.int xa2]) (t_X9_needEvent (d := d - 1) hl (by omega) e0) (by omega) rfl (Nat.le_of_ble_eq_true rfl) ?_
  refine r_aload_n (dc_X9_has 6 rfl) rfl rfl ?_
  obtain ⟨p3, e0, h⟩ := Option.bind_eq_some_iff.mp h
  refine r_getR (dc_X9_has 7 rfl) fl_RX9_12 e0 ?_
  obtain ⟨p4, e0, h⟩ := Option.bind_eq_some_iff.mp h
  refine r_getR (dc_X9_has 8 rfl) fl_RX9_94 e0 ?_
  refine r_iload_n (dc_X9_has 9 rfl) rfl rfl ?_
  obtain ⟨p5, e0, h⟩ := Option.bind_eq_some_iff.mp h
  refine r_aaldR (dc_X9_has 10 rfl) (kd := 4) rfl e0 ?_
  obtain ⟨p6, e0, h⟩ := Option.bind_eq_some_iff.mp h
  refine r_getR (dc_X9_has 11 rfl) fl_RX9_180 e0 ?_
  refine r_iload_n (dc_X9_has 12 rfl) rfl rfl ?_
  obtain ⟨x7, e0, h⟩ := Option.bind_eq_some_iff.mp h
  refine r_callV (dc_X9_has 13 rfl) mv_X1_holds ml_RX9_104 (As := [.int xa2]) (t_X1_holds (d := d - 1) hl (by omega) e0) (by omega) rfl (Nat.le_of_ble_eq_true rfl) ?_
  split at h
  · rename_i c0
    cases h
    exact r_zreturn (dc_X9_has 14 rfl) rfl c0
  · cases h
theorem t_X9_site {G : Gx} {d : Nat} (hl : G.1.stackTraces = false) (hd : 7 ≤ d) {σ : Sto} {a0 : Nat} {xa1 : Int32} {xa2 : Int32} {r : ((Int32 ⊕ String) × Sto)} (h : F_X9_site σ a0 xa1 xa2 = some r) : Mi G d m_X9_site 9 a0 [.int xa1, .int xa2] σ (toI r.1) r.2 := by
  rw [F_X9_site] at h
  obtain ⟨hg, h⟩ := chk_some h
  refine ⟨J.toMt (lo := [(0, .ref a0), (1, .int xa1), (2, .int xa2)]) pn_RX9 rfl hl (Nat.le_of_ble_eq_true rfl) rfl ?_, hg⟩
  refine r_aload_n (dc_X9_site 0 rfl) rfl rfl ?_
  refine r_iload_n (dc_X9_site 1 rfl) rfl rfl ?_
  rcases tb_some h with ⟨u0, s1, e0, h⟩ | ⟨E0, s1, e0, h⟩
  rotate_left
  · subst h
    exact r_callVX (dc_X9_site 2 rfl) mv_X9_needSite ml_RX9_67 (As := [.int xa1]) (t_X9_needSite (d := d - 1) hl (by omega) e0) (by omega) rfl (Nat.le_of_ble_eq_true rfl) rfl
  refine r_callV (dc_X9_site 2 rfl) mv_X9_needSite ml_RX9_67 (As := [.int xa1]) (t_X9_needSite (d := d - 1) hl (by omega) e0) (by omega) rfl (Nat.le_of_ble_eq_true rfl) ?_
  refine r_aload_n (dc_X9_site 3 rfl) rfl rfl ?_
  refine r_iload_n (dc_X9_site 4 rfl) rfl rfl ?_
  refine r_bipush (dc_X9_site 5 rfl) kbipush_8 ?_
  rcases tb_some h with ⟨u0, s2, e0, h⟩ | ⟨E0, s2, e0, h⟩
  rotate_left
  · subst h
    exact r_callVX (dc_X9_site 6 rfl) mv_X9_needWhat ml_RX9_166 (As := [.int xa2, .int (8 : Int32)]) (t_X9_needWhat (d := d - 1) hl (by omega) e0) (by omega) rfl (Nat.le_of_ble_eq_true rfl) rfl
  refine r_callV (dc_X9_site 6 rfl) mv_X9_needWhat ml_RX9_166 (As := [.int xa2, .int (8 : Int32)]) (t_X9_needWhat (d := d - 1) hl (by omega) e0) (by omega) rfl (Nat.le_of_ble_eq_true rfl) ?_
  refine r_aload_n (dc_X9_site 7 rfl) rfl rfl ?_
  obtain ⟨p3, e0, h⟩ := Option.bind_eq_some_iff.mp h
  refine r_getR (dc_X9_site 8 rfl) fl_RX9_12 e0 ?_
  obtain ⟨p4, e0, h⟩ := Option.bind_eq_some_iff.mp h
  refine r_getR (dc_X9_site 9 rfl) fl_RX9_94 e0 ?_
  refine r_iload_n (dc_X9_site 10 rfl) rfl rfl ?_
  obtain ⟨p5, e0, h⟩ := Option.bind_eq_some_iff.mp h
  refine r_aaldR (dc_X9_site 11 rfl) (kd := 4) rfl e0 ?_
  refine r_astore_n (dc_X9_site 12 rfl) rfl (by decide) (lo' := [(3, .ref p5), (0, .ref a0), (1, .int xa1), (2, .int xa2)]) rfl ?_
  refine r_iload_n (dc_X9_site 13 rfl) rfl rfl ?_
  by_cases c0 : xa2 = (0 : Int32)
  · rw [if_pos c0] at h
    refine r_tsInE c0 (dc_X9_site 14 rfl) (tgt := 64) (off := 41) (by decide) (by decide) (by decide) (by decide) ?_
    refine r_aload_n (dc_X9_site 15 rfl) rfl rfl ?_
    obtain ⟨p6, e0, h⟩ := Option.bind_eq_some_iff.mp h
    refine r_getR (dc_X9_site 16 rfl) fl_RX9_12 e0 ?_
    obtain ⟨p7, e0, h⟩ := Option.bind_eq_some_iff.mp h
    refine r_getR (dc_X9_site 17 rfl) fl_RX9_84 e0 ?_
    obtain ⟨p8, e0, h⟩ := Option.bind_eq_some_iff.mp h
    refine r_getR (dc_X9_site 18 rfl) fl_RX9_250 e0 ?_
    refine r_iload_n (dc_X9_site 19 rfl) rfl rfl ?_
    obtain ⟨x9, e0, h⟩ := Option.bind_eq_some_iff.mp h
    refine r_iald (dc_X9_site 20 rfl) e0 ?_
    cases h
    exact r_ireturn (dc_X9_site 21 rfl) rfl
  rw [if_neg c0] at h
  by_cases c1 : xa2 = (1 : Int32)
  · rw [if_pos c1] at h
    refine r_tsInE c1 (dc_X9_site 14 rfl) (tgt := 77) (off := 54) (by decide) (by decide) (by decide) (by decide) ?_
    refine r_aload_n (dc_X9_site 22 rfl) rfl rfl ?_
    obtain ⟨p10, e0, h⟩ := Option.bind_eq_some_iff.mp h
    refine r_getR (dc_X9_site 23 rfl) fl_RX9_98 e0 ?_
    obtain ⟨x11, e0, h⟩ := Option.bind_eq_some_iff.mp h
    refine r_callV (dc_X9_site 24 rfl) mv_X1_size ml_RX9_253 (As := []) (t_X1_size (d := d - 1) hl (by omega) e0) (by omega) rfl (Nat.le_of_ble_eq_true rfl) ?_
    cases h
    exact r_ireturn (dc_X9_site 25 rfl) rfl
  rw [if_neg c1] at h
  by_cases c2 : xa2 = (2 : Int32)
  · rw [if_pos c2] at h
    refine r_tsInE c2 (dc_X9_site 14 rfl) (tgt := 85) (off := 62) (by decide) (by decide) (by decide) (by decide) ?_
    refine r_aload_n (dc_X9_site 26 rfl) rfl rfl ?_
    obtain ⟨x12, e0, h⟩ := Option.bind_eq_some_iff.mp h
    refine r_getI (dc_X9_site 27 rfl) fl_RX9_229 e0 ?_
    cases h
    exact r_ireturn (dc_X9_site 28 rfl) rfl
  rw [if_neg c2] at h
  by_cases c3 : xa2 = (3 : Int32)
  · rw [if_pos c3] at h
    refine r_tsInE c3 (dc_X9_site 14 rfl) (tgt := 90) (off := 67) (by decide) (by decide) (by decide) (by decide) ?_
    refine r_aload_n (dc_X9_site 29 rfl) rfl rfl ?_
    obtain ⟨p13, e0, h⟩ := Option.bind_eq_some_iff.mp h
    refine r_getR (dc_X9_site 30 rfl) fl_RX9_180 e0 ?_
    obtain ⟨x14, e0, h⟩ := Option.bind_eq_some_iff.mp h
    refine r_callV (dc_X9_site 31 rfl) mv_X1_size ml_RX9_253 (As := []) (t_X1_size (d := d - 1) hl (by omega) e0) (by omega) rfl (Nat.le_of_ble_eq_true rfl) ?_
    cases h
    exact r_ireturn (dc_X9_site 32 rfl) rfl
  rw [if_neg c3] at h
  by_cases c4 : xa2 = (4 : Int32)
  · rw [if_pos c4] at h
    refine r_tsInE c4 (dc_X9_site 14 rfl) (tgt := 98) (off := 75) (by decide) (by decide) (by decide) (by decide) ?_
    refine r_aload_n (dc_X9_site 33 rfl) rfl rfl ?_
    obtain ⟨p15, e0, h⟩ := Option.bind_eq_some_iff.mp h
    refine r_getR (dc_X9_site 34 rfl) fl_RX9_32 e0 ?_
    refine r_iload_n (dc_X9_site 35 rfl) rfl rfl ?_
    obtain ⟨x17, s16, e0, h⟩ := wb_some h
    refine r_callV (dc_X9_site 36 rfl) mv_X5_overstatedAt ml_RX9_256 (As := [.int xa1]) (t_X5_overstatedAt (d := d - 1) hl (by omega) e0) (by omega) rfl (Nat.le_of_ble_eq_true rfl) ?_
    cases h
    exact r_ireturn (dc_X9_site 37 rfl) rfl
  rw [if_neg c4] at h
  by_cases c5 : xa2 = (5 : Int32)
  · rw [if_pos c5] at h
    refine r_tsInE c5 (dc_X9_site 14 rfl) (tgt := 107) (off := 84) (by decide) (by decide) (by decide) (by decide) ?_
    refine r_aload_n (dc_X9_site 38 rfl) rfl rfl ?_
    obtain ⟨p18, e0, h⟩ := Option.bind_eq_some_iff.mp h
    refine r_getR (dc_X9_site 39 rfl) fl_RX9_32 e0 ?_
    refine r_iload_n (dc_X9_site 40 rfl) rfl rfl ?_
    obtain ⟨x20, s19, e0, h⟩ := wb_some h
    refine r_callV (dc_X9_site 41 rfl) mv_X5_lostTo ml_RX9_259 (As := [.int xa1]) (t_X5_lostTo (d := d - 1) hl (by omega) e0) (by omega) rfl (Nat.le_of_ble_eq_true rfl) ?_
    cases h
    exact r_ireturn (dc_X9_site 42 rfl) rfl
  rw [if_neg c5] at h
  by_cases c6 : xa2 = (6 : Int32)
  · rw [if_pos c6] at h
    refine r_tsInE c6 (dc_X9_site 14 rfl) (tgt := 116) (off := 93) (by decide) (by decide) (by decide) (by decide) ?_
    refine r_aload_n (dc_X9_site 43 rfl) rfl rfl ?_
    obtain ⟨p21, e0, h⟩ := Option.bind_eq_some_iff.mp h
    refine r_getR (dc_X9_site 44 rfl) fl_RX9_32 e0 ?_
    obtain ⟨x23, s22, e0, h⟩ := wb_some h
    refine r_callV (dc_X9_site 45 rfl) mv_X5_heldByAll ml_RX9_262 (As := []) (t_X5_heldByAll (d := d - 1) hl (by omega) e0) (by omega) rfl (Nat.le_of_ble_eq_true rfl) ?_
    cases h
    exact r_ireturn (dc_X9_site 46 rfl) rfl
  rw [if_neg c6] at h
  refine r_tsOut (dc_X9_site 14 rfl) (tgt := 124) (ts_out (n := 7) (fun k hk => match k, hk with | 0, _ => c0 | 1, _ => c1 | 2, _ => c2 | 3, _ => c3 | 4, _ => c4 | 5, _ => c5 | 6, _ => c6 | k + 7, hk => absurd hk (by omega)) (by decide)) (by decide) ?_
  refine r_aload_n (dc_X9_site 47 rfl) rfl rfl ?_
  obtain ⟨p24, e0, h⟩ := Option.bind_eq_some_iff.mp h
  refine r_getR (dc_X9_site 48 rfl) fl_RX9_32 e0 ?_
  refine r_iload_n (dc_X9_site 49 rfl) rfl rfl ?_
  obtain ⟨x26, s25, e0, h⟩ := wb_some h
  refine r_callV (dc_X9_site 50 rfl) mv_X5_heldByAllInLog ml_RX9_265 (As := [.int xa1]) (t_X5_heldByAllInLog (d := d - 1) hl (by omega) e0) (by omega) rfl (Nat.le_of_ble_eq_true rfl) ?_
  cases h
  exact r_ireturn (dc_X9_site 51 rfl) rfl
theorem t_X9_unlike {G : Gx} {d : Nat} (hl : G.1.stackTraces = false) (hd : 7 ≤ d) {σ : Sto} {a0 : Nat} {xa1 : Int32} {xa2 : Int32} {r : ((Int32 ⊕ String) × Sto)} (h : F_X9_unlike σ a0 xa1 xa2 = some r) : Mi G d m_X9_unlike 9 a0 [.int xa1, .int xa2] σ (toI r.1) r.2 := by
  rw [F_X9_unlike] at h
  obtain ⟨hg, h⟩ := chk_some h
  refine ⟨J.toMt (lo := [(0, .ref a0), (1, .int xa1), (2, .int xa2)]) pn_RX9 rfl hl (Nat.le_of_ble_eq_true rfl) rfl ?_, hg⟩
  refine r_aload_n (dc_X9_unlike 0 rfl) rfl rfl ?_
  refine r_iload_n (dc_X9_unlike 1 rfl) rfl rfl ?_
  refine r_iload_n (dc_X9_unlike 2 rfl) rfl rfl ?_
  rcases tb_some h with ⟨u0, s1, e0, h⟩ | ⟨E0, s1, e0, h⟩
  rotate_left
  · subst h
    exact r_callVX (dc_X9_unlike 3 rfl) mv_X9_needTwoSites ml_RX9_117 (As := [.int xa1, .int xa2]) (t_X9_needTwoSites (d := d - 1) hl (by omega) e0) (by omega) rfl (Nat.le_of_ble_eq_true rfl) rfl
  refine r_callV (dc_X9_unlike 3 rfl) mv_X9_needTwoSites ml_RX9_117 (As := [.int xa1, .int xa2]) (t_X9_needTwoSites (d := d - 1) hl (by omega) e0) (by omega) rfl (Nat.le_of_ble_eq_true rfl) ?_
  refine r_aload_n (dc_X9_unlike 4 rfl) rfl rfl ?_
  obtain ⟨p2, e0, h⟩ := Option.bind_eq_some_iff.mp h
  refine r_getR (dc_X9_unlike 5 rfl) fl_RX9_12 e0 ?_
  obtain ⟨p3, e0, h⟩ := Option.bind_eq_some_iff.mp h
  refine r_getR (dc_X9_unlike 6 rfl) fl_RX9_94 e0 ?_
  refine r_iload_n (dc_X9_unlike 7 rfl) rfl rfl ?_
  obtain ⟨p4, e0, h⟩ := Option.bind_eq_some_iff.mp h
  refine r_aaldR (dc_X9_unlike 8 rfl) (kd := 4) rfl e0 ?_
  obtain ⟨p5, e0, h⟩ := Option.bind_eq_some_iff.mp h
  refine r_getR (dc_X9_unlike 9 rfl) fl_RX9_98 e0 ?_
  refine r_astore_n (dc_X9_unlike 10 rfl) rfl (by decide) (lo' := [(3, .ref p5), (0, .ref a0), (1, .int xa1), (2, .int xa2)]) rfl ?_
  refine r_aload_n (dc_X9_unlike 11 rfl) rfl rfl ?_
  obtain ⟨x6, e0, h⟩ := Option.bind_eq_some_iff.mp h
  refine r_callV (dc_X9_unlike 12 rfl) mv_X1_size ml_RX9_253 (As := []) (t_X1_size (d := d - 1) hl (by omega) e0) (by omega) rfl (Nat.le_of_ble_eq_true rfl) ?_
  refine r_aload_n (dc_X9_unlike 13 rfl) rfl rfl ?_
  refine r_aload_n (dc_X9_unlike 14 rfl) rfl rfl ?_
  obtain ⟨p7, e0, h⟩ := Option.bind_eq_some_iff.mp h
  refine r_getR (dc_X9_unlike 15 rfl) fl_RX9_12 e0 ?_
  obtain ⟨p8, e0, h⟩ := Option.bind_eq_some_iff.mp h
  refine r_getR (dc_X9_unlike 16 rfl) fl_RX9_94 e0 ?_
  refine r_iload_n (dc_X9_unlike 17 rfl) rfl rfl ?_
  obtain ⟨p9, e0, h⟩ := Option.bind_eq_some_iff.mp h
  refine r_aaldR (dc_X9_unlike 18 rfl) (kd := 4) rfl e0 ?_
  obtain ⟨p10, e0, h⟩ := Option.bind_eq_some_iff.mp h
  refine r_getR (dc_X9_unlike 19 rfl) fl_RX9_98 e0 ?_
  obtain ⟨x11, e0, h⟩ := Option.bind_eq_some_iff.mp h
  refine r_callV (dc_X9_unlike 20 rfl) mv_X1_shared ml_RX9_183 (As := [.ref p10]) (t_X1_shared (d := d - 1) hl (by omega) e0) (by omega) rfl (Nat.le_of_ble_eq_true rfl) ?_
  refine r_isub (dc_X9_unlike 21 rfl) ?_
  cases h
  exact r_ireturn (dc_X9_unlike 22 rfl) rfl
theorem t_X9_would {G : Gx} {d : Nat} (hl : G.1.stackTraces = false) (hd : 7 ≤ d) {σ : Sto} {a0 : Nat} {xa1 : Int32} {xa2 : Int32} {xa3 : Int32} {r : ((Int32 ⊕ String) × Sto)} (h : F_X9_would σ a0 xa1 xa2 xa3 = some r) : Mi G d m_X9_would 9 a0 [.int xa1, .int xa2, .int xa3] σ (toI r.1) r.2 := by
  rw [F_X9_would] at h
  obtain ⟨hg, h⟩ := chk_some h
  refine ⟨J.toMt (lo := [(0, .ref a0), (1, .int xa1), (2, .int xa2), (3, .int xa3)]) pn_RX9 rfl hl (Nat.le_of_ble_eq_true rfl) rfl ?_, hg⟩
  refine r_aload_n (dc_X9_would 0 rfl) rfl rfl ?_
  refine r_iload_n (dc_X9_would 1 rfl) rfl rfl ?_
  refine r_iload_n (dc_X9_would 2 rfl) rfl rfl ?_
  rcases tb_some h with ⟨u0, s1, e0, h⟩ | ⟨E0, s1, e0, h⟩
  rotate_left
  · subst h
    exact r_callVX (dc_X9_would 3 rfl) mv_X9_needTwoSites ml_RX9_117 (As := [.int xa1, .int xa2]) (t_X9_needTwoSites (d := d - 1) hl (by omega) e0) (by omega) rfl (Nat.le_of_ble_eq_true rfl) rfl
  refine r_callV (dc_X9_would 3 rfl) mv_X9_needTwoSites ml_RX9_117 (As := [.int xa1, .int xa2]) (t_X9_needTwoSites (d := d - 1) hl (by omega) e0) (by omega) rfl (Nat.le_of_ble_eq_true rfl) ?_
  refine r_aload_n (dc_X9_would 4 rfl) rfl rfl ?_
  refine r_iload_n (dc_X9_would 5 rfl) rfl rfl ?_
  refine r_iconst (dc_X9_would 6 rfl) kiconst_3 ?_
  rcases tb_some h with ⟨u0, s2, e0, h⟩ | ⟨E0, s2, e0, h⟩
  rotate_left
  · subst h
    exact r_callVX (dc_X9_would 7 rfl) mv_X9_needWhat ml_RX9_166 (As := [.int xa3, .int (3 : Int32)]) (t_X9_needWhat (d := d - 1) hl (by omega) e0) (by omega) rfl (Nat.le_of_ble_eq_true rfl) rfl
  refine r_callV (dc_X9_would 7 rfl) mv_X9_needWhat ml_RX9_166 (As := [.int xa3, .int (3 : Int32)]) (t_X9_needWhat (d := d - 1) hl (by omega) e0) (by omega) rfl (Nat.le_of_ble_eq_true rfl) ?_
  refine r_aload_n (dc_X9_would 8 rfl) rfl rfl ?_
  obtain ⟨p3, e0, h⟩ := Option.bind_eq_some_iff.mp h
  refine r_getR (dc_X9_would 9 rfl) fl_RX9_32 e0 ?_
  refine r_iload_n (dc_X9_would 10 rfl) rfl rfl ?_
  refine r_iload_n (dc_X9_would 11 rfl) rfl rfl ?_
  refine r_iload_n (dc_X9_would 12 rfl) rfl rfl ?_
  obtain ⟨x5, s4, e0, h⟩ := wb_some h
  refine r_callV (dc_X9_would 13 rfl) mv_X5_wouldCarry ml_RX9_268 (As := [.int xa1, .int xa2, .int xa3]) (t_X5_wouldCarry (d := d - 1) hl (by omega) e0) (by omega) rfl (Nat.le_of_ble_eq_true rfl) ?_
  cases h
  exact r_ireturn (dc_X9_would 14 rfl) rfl
theorem t_X9_event {G : Gx} {d : Nat} (hl : G.1.stackTraces = false) (hd : 7 ≤ d) {σ : Sto} {a0 : Nat} {xa1 : Int32} {xa2 : Int32} {r : ((Int32 ⊕ String) × Sto)} (h : F_X9_event σ a0 xa1 xa2 = some r) : Mi G d m_X9_event 9 a0 [.int xa1, .int xa2] σ (toI r.1) r.2 := by
  rw [F_X9_event] at h
  obtain ⟨hg, h⟩ := chk_some h
  refine ⟨J.toMt (lo := [(0, .ref a0), (1, .int xa1), (2, .int xa2)]) pn_RX9 rfl hl (Nat.le_of_ble_eq_true rfl) rfl ?_, hg⟩
  refine r_aload_n (dc_X9_event 0 rfl) rfl rfl ?_
  refine r_iload_n (dc_X9_event 1 rfl) rfl rfl ?_
  rcases tb_some h with ⟨u0, s1, e0, h⟩ | ⟨E0, s1, e0, h⟩
  rotate_left
  · subst h
    exact r_callVX (dc_X9_event 2 rfl) mv_X9_needEvent ml_RX9_243 (As := [.int xa1]) (t_X9_needEvent (d := d - 1) hl (by omega) e0) (by omega) rfl (Nat.le_of_ble_eq_true rfl) rfl
  refine r_callV (dc_X9_event 2 rfl) mv_X9_needEvent ml_RX9_243 (As := [.int xa1]) (t_X9_needEvent (d := d - 1) hl (by omega) e0) (by omega) rfl (Nat.le_of_ble_eq_true rfl) ?_
  refine r_aload_n (dc_X9_event 3 rfl) rfl rfl ?_
  refine r_iload_n (dc_X9_event 4 rfl) rfl rfl ?_
  refine r_bipush (dc_X9_event 5 rfl) kbipush_9 ?_
  rcases tb_some h with ⟨u0, s2, e0, h⟩ | ⟨E0, s2, e0, h⟩
  rotate_left
  · subst h
    exact r_callVX (dc_X9_event 6 rfl) mv_X9_needWhat ml_RX9_166 (As := [.int xa2, .int (9 : Int32)]) (t_X9_needWhat (d := d - 1) hl (by omega) e0) (by omega) rfl (Nat.le_of_ble_eq_true rfl) rfl
  refine r_callV (dc_X9_event 6 rfl) mv_X9_needWhat ml_RX9_166 (As := [.int xa2, .int (9 : Int32)]) (t_X9_needWhat (d := d - 1) hl (by omega) e0) (by omega) rfl (Nat.le_of_ble_eq_true rfl) ?_
  refine r_aload_n (dc_X9_event 7 rfl) rfl rfl ?_
  obtain ⟨p3, e0, h⟩ := Option.bind_eq_some_iff.mp h
  refine r_getR (dc_X9_event 8 rfl) fl_RX9_12 e0 ?_
  obtain ⟨p4, e0, h⟩ := Option.bind_eq_some_iff.mp h
  refine r_getR (dc_X9_event 9 rfl) fl_RX9_84 e0 ?_
  refine r_astore_n (dc_X9_event 10 rfl) rfl (by decide) (lo' := [(3, .ref p4), (0, .ref a0), (1, .int xa1), (2, .int xa2)]) rfl ?_
  refine r_iload_n (dc_X9_event 11 rfl) rfl rfl ?_
  by_cases c0 : xa2 = (0 : Int32)
  · rw [if_pos c0] at h
    refine r_tsInE c0 (dc_X9_event 12 rfl) (tgt := 68) (off := 47) (by decide) (by decide) (by decide) (by decide) ?_
    refine r_aload_n (dc_X9_event 13 rfl) rfl rfl ?_
    obtain ⟨p5, e0, h⟩ := Option.bind_eq_some_iff.mp h
    refine r_getR (dc_X9_event 14 rfl) fl_RX9_271 e0 ?_
    refine r_iload_n (dc_X9_event 15 rfl) rfl rfl ?_
    obtain ⟨x6, e0, h⟩ := Option.bind_eq_some_iff.mp h
    refine r_iald (dc_X9_event 16 rfl) e0 ?_
    cases h
    exact r_ireturn (dc_X9_event 17 rfl) rfl
  rw [if_neg c0] at h
  by_cases c1 : xa2 = (1 : Int32)
  · rw [if_pos c1] at h
    refine r_tsInE c1 (dc_X9_event 12 rfl) (tgt := 75) (off := 54) (by decide) (by decide) (by decide) (by decide) ?_
    refine r_aload_n (dc_X9_event 18 rfl) rfl rfl ?_
    obtain ⟨p7, e0, h⟩ := Option.bind_eq_some_iff.mp h
    refine r_getR (dc_X9_event 19 rfl) fl_RX9_274 e0 ?_
    refine r_iload_n (dc_X9_event 20 rfl) rfl rfl ?_
    obtain ⟨x8, e0, h⟩ := Option.bind_eq_some_iff.mp h
    refine r_iald (dc_X9_event 21 rfl) e0 ?_
    cases h
    exact r_ireturn (dc_X9_event 22 rfl) rfl
  rw [if_neg c1] at h
  by_cases c2 : xa2 = (2 : Int32)
  · rw [if_pos c2] at h
    refine r_tsInE c2 (dc_X9_event 12 rfl) (tgt := 82) (off := 61) (by decide) (by decide) (by decide) (by decide) ?_
    refine r_aload_n (dc_X9_event 23 rfl) rfl rfl ?_
    refine r_iload_n (dc_X9_event 24 rfl) rfl rfl ?_
    obtain ⟨x9, e0, h⟩ := Option.bind_eq_some_iff.mp h
    refine r_callV (dc_X9_event 25 rfl) mv_X2_isOut ml_RX9_277 (As := [.int xa1]) (t_X2_isOut (d := d - 1) hl (by omega) e0) (by omega) rfl (Nat.le_of_ble_eq_true rfl) ?_
    refine r_if_eq (dc_X9_event 26 rfl) (tgt := 94) (by decide) (fun c0 => ?_) (fun c0 => ?_)
    · rw [if_pos c0] at h
      refine r_iconst (dc_X9_event 29 rfl) kiconst_0 ?_
      cases h
      exact r_ireturn (dc_X9_event 30 rfl) rfl
    · rw [if_neg c0] at h
      refine r_iconst (dc_X9_event 27 rfl) kiconst_1 ?_
      refine r_goto (dc_X9_event 28 rfl) (tgt := 95) (by decide) ?_
      cases h
      exact r_ireturn (dc_X9_event 30 rfl) rfl
  rw [if_neg c2] at h
  by_cases c3 : xa2 = (3 : Int32)
  · rw [if_pos c3] at h
    refine r_tsInE c3 (dc_X9_event 12 rfl) (tgt := 96) (off := 75) (by decide) (by decide) (by decide) (by decide) ?_
    refine r_aload_n (dc_X9_event 31 rfl) rfl rfl ?_
    obtain ⟨p10, e0, h⟩ := Option.bind_eq_some_iff.mp h
    refine r_getR (dc_X9_event 32 rfl) fl_RX9_280 e0 ?_
    refine r_iload_n (dc_X9_event 33 rfl) rfl rfl ?_
    obtain ⟨x11, e0, h⟩ := Option.bind_eq_some_iff.mp h
    refine r_iald (dc_X9_event 34 rfl) e0 ?_
    cases h
    exact r_ireturn (dc_X9_event 35 rfl) rfl
  rw [if_neg c3] at h
  by_cases c4 : xa2 = (4 : Int32)
  · rw [if_pos c4] at h
    refine r_tsInE c4 (dc_X9_event 12 rfl) (tgt := 103) (off := 82) (by decide) (by decide) (by decide) (by decide) ?_
    refine r_aload_n (dc_X9_event 36 rfl) rfl rfl ?_
    obtain ⟨p12, e0, h⟩ := Option.bind_eq_some_iff.mp h
    refine r_getR (dc_X9_event 37 rfl) fl_RX9_226 e0 ?_
    refine r_iload_n (dc_X9_event 38 rfl) rfl rfl ?_
    obtain ⟨x13, e0, h⟩ := Option.bind_eq_some_iff.mp h
    refine r_iald (dc_X9_event 39 rfl) e0 ?_
    cases h
    exact r_ireturn (dc_X9_event 40 rfl) rfl
  rw [if_neg c4] at h
  by_cases c5 : xa2 = (5 : Int32)
  · rw [if_pos c5] at h
    refine r_tsInE c5 (dc_X9_event 12 rfl) (tgt := 110) (off := 89) (by decide) (by decide) (by decide) (by decide) ?_
    refine r_aload_n (dc_X9_event 41 rfl) rfl rfl ?_
    obtain ⟨p14, e0, h⟩ := Option.bind_eq_some_iff.mp h
    refine r_getR (dc_X9_event 42 rfl) fl_RX9_12 e0 ?_
    refine r_iload_n (dc_X9_event 43 rfl) rfl rfl ?_
    obtain ⟨x15, e0, h⟩ := Option.bind_eq_some_iff.mp h
    refine r_callV (dc_X9_event 44 rfl) mv_X8_holders ml_RX9_283 (As := [.int xa1]) (t_X8_holders (d := d - 1) hl (by omega) e0) (by omega) rfl (Nat.le_of_ble_eq_true rfl) ?_
    cases h
    exact r_ireturn (dc_X9_event 45 rfl) rfl
  rw [if_neg c5] at h
  by_cases c6 : xa2 = (6 : Int32)
  · rw [if_pos c6] at h
    refine r_tsInE c6 (dc_X9_event 12 rfl) (tgt := 119) (off := 98) (by decide) (by decide) (by decide) (by decide) ?_
    refine r_aload_n (dc_X9_event 46 rfl) rfl rfl ?_
    obtain ⟨p16, e0, h⟩ := Option.bind_eq_some_iff.mp h
    refine r_getR (dc_X9_event 47 rfl) fl_RX9_12 e0 ?_
    refine r_iload_n (dc_X9_event 48 rfl) rfl rfl ?_
    obtain ⟨x17, e0, h⟩ := Option.bind_eq_some_iff.mp h
    refine r_callV (dc_X9_event 49 rfl) mv_X8_logsWith ml_RX9_286 (As := [.int xa1]) (t_X8_logsWith (d := d - 1) hl (by omega) e0) (by omega) rfl (Nat.le_of_ble_eq_true rfl) ?_
    cases h
    exact r_ireturn (dc_X9_event 50 rfl) rfl
  rw [if_neg c6] at h
  by_cases c7 : xa2 = (7 : Int32)
  · rw [if_pos c7] at h
    refine r_tsInE c7 (dc_X9_event 12 rfl) (tgt := 128) (off := 107) (by decide) (by decide) (by decide) (by decide) ?_
    refine r_aload_n (dc_X9_event 51 rfl) rfl rfl ?_
    obtain ⟨p18, e0, h⟩ := Option.bind_eq_some_iff.mp h
    refine r_getR (dc_X9_event 52 rfl) fl_RX9_289 e0 ?_
    refine r_iload_n (dc_X9_event 53 rfl) rfl rfl ?_
    obtain ⟨x19, e0, h⟩ := Option.bind_eq_some_iff.mp h
    refine r_iald (dc_X9_event 54 rfl) e0 ?_
    cases h
    exact r_ireturn (dc_X9_event 55 rfl) rfl
  rw [if_neg c7] at h
  refine r_tsOut (dc_X9_event 12 rfl) (tgt := 135) (ts_out (n := 8) (fun k hk => match k, hk with | 0, _ => c0 | 1, _ => c1 | 2, _ => c2 | 3, _ => c3 | 4, _ => c4 | 5, _ => c5 | 6, _ => c6 | 7, _ => c7 | k + 8, hk => absurd hk (by omega)) (by decide)) (by decide) ?_
  refine r_aload_n (dc_X9_event 56 rfl) rfl rfl ?_
  refine r_iload_n (dc_X9_event 57 rfl) rfl rfl ?_
  obtain ⟨x20, e0, h⟩ := Option.bind_eq_some_iff.mp h
  refine r_callV (dc_X9_event 58 rfl) mv_X2_concurrentWith ml_RX9_292 (As := [.int xa1]) (t_X2_concurrentWith (d := d - 1) hl (by omega) e0) (by omega) rfl (Nat.le_of_ble_eq_true rfl) ?_
  cases h
  exact r_ireturn (dc_X9_event 59 rfl) rfl
theorem t_X9_ahead {G : Gx} {d : Nat} (hl : G.1.stackTraces = false) (hd : 7 ≤ d) {σ : Sto} {a0 : Nat} {xa1 : Int32} {xa2 : Int32} {r : ((Int32 ⊕ String) × Sto)} (h : F_X9_ahead σ a0 xa1 xa2 = some r) : Mi G d m_X9_ahead 9 a0 [.int xa1, .int xa2] σ (toI r.1) r.2 := by
  rw [F_X9_ahead] at h
  obtain ⟨hg, h⟩ := chk_some h
  refine ⟨J.toMt (lo := [(0, .ref a0), (1, .int xa1), (2, .int xa2)]) pn_RX9 rfl hl (Nat.le_of_ble_eq_true rfl) rfl ?_, hg⟩
  refine r_aload_n (dc_X9_ahead 0 rfl) rfl rfl ?_
  refine r_iload_n (dc_X9_ahead 1 rfl) rfl rfl ?_
  rcases tb_some h with ⟨u0, s1, e0, h⟩ | ⟨E0, s1, e0, h⟩
  rotate_left
  · subst h
    exact r_callVX (dc_X9_ahead 2 rfl) mv_X9_needEvent ml_RX9_243 (As := [.int xa1]) (t_X9_needEvent (d := d - 1) hl (by omega) e0) (by omega) rfl (Nat.le_of_ble_eq_true rfl) rfl
  refine r_callV (dc_X9_ahead 2 rfl) mv_X9_needEvent ml_RX9_243 (As := [.int xa1]) (t_X9_needEvent (d := d - 1) hl (by omega) e0) (by omega) rfl (Nat.le_of_ble_eq_true rfl) ?_
  refine r_aload_n (dc_X9_ahead 3 rfl) rfl rfl ?_
  refine r_iload_n (dc_X9_ahead 4 rfl) rfl rfl ?_
  rcases tb_some h with ⟨u0, s2, e0, h⟩ | ⟨E0, s2, e0, h⟩
  rotate_left
  · subst h
    exact r_callVX (dc_X9_ahead 5 rfl) mv_X9_needEvent ml_RX9_243 (As := [.int xa2]) (t_X9_needEvent (d := d - 1) hl (by omega) e0) (by omega) rfl (Nat.le_of_ble_eq_true rfl) rfl
  refine r_callV (dc_X9_ahead 5 rfl) mv_X9_needEvent ml_RX9_243 (As := [.int xa2]) (t_X9_needEvent (d := d - 1) hl (by omega) e0) (by omega) rfl (Nat.le_of_ble_eq_true rfl) ?_
  refine r_aload_n (dc_X9_ahead 6 rfl) rfl rfl ?_
  obtain ⟨p3, e0, h⟩ := Option.bind_eq_some_iff.mp h
  refine r_getR (dc_X9_ahead 7 rfl) fl_RX9_12 e0 ?_
  obtain ⟨p4, e0, h⟩ := Option.bind_eq_some_iff.mp h
  refine r_getR (dc_X9_ahead 8 rfl) fl_RX9_84 e0 ?_
  refine r_iload_n (dc_X9_ahead 9 rfl) rfl rfl ?_
  refine r_iload_n (dc_X9_ahead 10 rfl) rfl rfl ?_
  obtain ⟨x5, e0, h⟩ := Option.bind_eq_some_iff.mp h
  refine r_callV (dc_X9_ahead 11 rfl) mv_X2_isAhead ml_RX9_295 (As := [.int xa1, .int xa2]) (t_X2_isAhead (d := d - 1) hl (by omega) e0) (by omega) rfl (Nat.le_of_ble_eq_true rfl) ?_
  split at h
  · rename_i c0
    cases h
    exact r_zreturn (dc_X9_ahead 12 rfl) rfl c0
  · cases h
theorem t_X9_wide {G : Gx} {d : Nat} (hl : G.1.stackTraces = false) (hd : 7 ≤ d) {σ : Sto} {a0 : Nat} {xa1 : Int32} {r : ((Int32 ⊕ String) × Sto)} (h : F_X9_wide σ a0 xa1 = some r) : Mi G d m_X9_wide 9 a0 [.int xa1] σ (toI r.1) r.2 := by
  rw [F_X9_wide] at h
  obtain ⟨hg, h⟩ := chk_some h
  refine ⟨J.toMt (lo := [(0, .ref a0), (1, .int xa1)]) pn_RX9 rfl hl (Nat.le_of_ble_eq_true rfl) rfl ?_, hg⟩
  refine r_aload_n (dc_X9_wide 0 rfl) rfl rfl ?_
  refine r_iload_n (dc_X9_wide 1 rfl) rfl rfl ?_
  refine r_iconst (dc_X9_wide 2 rfl) kiconst_3 ?_
  rcases tb_some h with ⟨u0, s1, e0, h⟩ | ⟨E0, s1, e0, h⟩
  rotate_left
  · subst h
    exact r_callVX (dc_X9_wide 3 rfl) mv_X9_needWhat ml_RX9_166 (As := [.int xa1, .int (3 : Int32)]) (t_X9_needWhat (d := d - 1) hl (by omega) e0) (by omega) rfl (Nat.le_of_ble_eq_true rfl) rfl
  refine r_callV (dc_X9_wide 3 rfl) mv_X9_needWhat ml_RX9_166 (As := [.int xa1, .int (3 : Int32)]) (t_X9_needWhat (d := d - 1) hl (by omega) e0) (by omega) rfl (Nat.le_of_ble_eq_true rfl) ?_
  refine r_iload_n (dc_X9_wide 4 rfl) rfl rfl ?_
  refine r_if_ne (dc_X9_wide 5 rfl) (tgt := 21) (by decide) (fun c0 => ?_) (fun c0 => ?_)
  · rw [if_neg c0] at h
    refine r_aload_n (dc_X9_wide 11 rfl) rfl rfl ?_
    obtain ⟨p2, e0, h⟩ := Option.bind_eq_some_iff.mp h
    refine r_getR (dc_X9_wide 12 rfl) fl_RX9_12 e0 ?_
    obtain ⟨p3, e0, h⟩ := Option.bind_eq_some_iff.mp h
    refine r_getR (dc_X9_wide 13 rfl) fl_RX9_84 e0 ?_
    obtain ⟨x4, e0, h⟩ := Option.bind_eq_some_iff.mp h
    refine r_callV (dc_X9_wide 14 rfl) mv_X2_highest ml_RX9_301 (As := []) (t_X2_highest (d := d - 1) hl (by omega) e0) (by omega) rfl (Nat.le_of_ble_eq_true rfl) ?_
    refine r_istore_n (dc_X9_wide 15 rfl) rfl (by decide) (lo' := [(2, .int x4), (0, .ref a0), (1, .int xa1)]) rfl ?_
    refine r_iload_n (dc_X9_wide 16 rfl) rfl rfl ?_
    refine r_iconst (dc_X9_wide 17 rfl) kiconst_2 ?_
    refine r_icmp_ne (dc_X9_wide 18 rfl) (tgt := 39) (by decide) (fun c0 => ?_) (fun c0 => ?_)
    · rw [if_neg c0] at h
      refine r_iload_n (dc_X9_wide 21 rfl) rfl rfl ?_
      refine r_iconst (dc_X9_wide 22 rfl) kiconst_m1 ?_
      refine r_icmp_ne (dc_X9_wide 23 rfl) (tgt := 48) (by decide) (fun c0 => ?_) (fun c0 => ?_)
      · rw [if_neg c0] at h
        refine r_aload_n (dc_X9_wide 26 rfl) rfl rfl ?_
        obtain ⟨p5, e0, h⟩ := Option.bind_eq_some_iff.mp h
        refine r_getR (dc_X9_wide 27 rfl) fl_RX9_12 e0 ?_
        obtain ⟨p6, e0, h⟩ := Option.bind_eq_some_iff.mp h
        refine r_getR (dc_X9_wide 28 rfl) fl_RX9_84 e0 ?_
        obtain ⟨p7, e0, h⟩ := Option.bind_eq_some_iff.mp h
        refine r_getR (dc_X9_wide 29 rfl) fl_RX9_289 e0 ?_
        refine r_iload_n (dc_X9_wide 30 rfl) rfl rfl ?_
        obtain ⟨x8, e0, h⟩ := Option.bind_eq_some_iff.mp h
        refine r_iald (dc_X9_wide 31 rfl) e0 ?_
        cases h
        exact r_ireturn (dc_X9_wide 32 rfl) rfl
      · rw [if_pos c0] at h
        refine r_iconst (dc_X9_wide 24 rfl) kiconst_0 ?_
        refine r_goto (dc_X9_wide 25 rfl) (tgt := 60) (by decide) ?_
        cases h
        exact r_ireturn (dc_X9_wide 32 rfl) rfl
    · rw [if_pos c0] at h
      refine r_iload_n (dc_X9_wide 19 rfl) rfl rfl ?_
      cases h
      exact r_ireturn (dc_X9_wide 20 rfl) rfl
  · rw [if_pos c0] at h
    refine r_aload_n (dc_X9_wide 6 rfl) rfl rfl ?_
    obtain ⟨p9, e0, h⟩ := Option.bind_eq_some_iff.mp h
    refine r_getR (dc_X9_wide 7 rfl) fl_RX9_12 e0 ?_
    obtain ⟨p10, e0, h⟩ := Option.bind_eq_some_iff.mp h
    refine r_getR (dc_X9_wide 8 rfl) fl_RX9_84 e0 ?_
    obtain ⟨x11, e0, h⟩ := Option.bind_eq_some_iff.mp h
    refine r_callV (dc_X9_wide 9 rfl) mv_X2_concurrentCouples ml_RX9_298 (As := []) (t_X2_concurrentCouples (d := d - 1) hl (by omega) e0) (by omega) rfl (Nat.le_of_ble_eq_true rfl) ?_
    cases h
    exact r_ireturn (dc_X9_wide 10 rfl) rfl
theorem t_X9_came {G : Gx} {d : Nat} (hl : G.1.stackTraces = false) (hd : 7 ≤ d) {σ : Sto} {a0 : Nat} {xa1 : Int32} {xa2 : Int32} {xa3 : Int32} {r : ((Int32 ⊕ String) × Sto)} (h : F_X9_came σ a0 xa1 xa2 xa3 = some r) : Mi G d m_X9_came 9 a0 [.int xa1, .int xa2, .int xa3] σ (toI r.1) r.2 := by
  rw [F_X9_came] at h
  obtain ⟨hg, h⟩ := chk_some h
  refine ⟨J.toMt (lo := [(0, .ref a0), (1, .int xa1), (2, .int xa2), (3, .int xa3)]) pn_RX9 rfl hl (Nat.le_of_ble_eq_true rfl) rfl ?_, hg⟩
  refine r_aload_n (dc_X9_came 0 rfl) rfl rfl ?_
  refine r_iload_n (dc_X9_came 1 rfl) rfl rfl ?_
  rcases tb_some h with ⟨u0, s1, e0, h⟩ | ⟨E0, s1, e0, h⟩
  rotate_left
  · subst h
    exact r_callVX (dc_X9_came 2 rfl) mv_X9_needSite ml_RX9_67 (As := [.int xa1]) (t_X9_needSite (d := d - 1) hl (by omega) e0) (by omega) rfl (Nat.le_of_ble_eq_true rfl) rfl
  refine r_callV (dc_X9_came 2 rfl) mv_X9_needSite ml_RX9_67 (As := [.int xa1]) (t_X9_needSite (d := d - 1) hl (by omega) e0) (by omega) rfl (Nat.le_of_ble_eq_true rfl) ?_
  refine r_aload_n (dc_X9_came 3 rfl) rfl rfl ?_
  refine r_iload_n (dc_X9_came 4 rfl) rfl rfl ?_
  rcases tb_some h with ⟨u0, s2, e0, h⟩ | ⟨E0, s2, e0, h⟩
  rotate_left
  · subst h
    exact r_callVX (dc_X9_came 5 rfl) mv_X9_needEvent ml_RX9_243 (As := [.int xa2]) (t_X9_needEvent (d := d - 1) hl (by omega) e0) (by omega) rfl (Nat.le_of_ble_eq_true rfl) rfl
  refine r_callV (dc_X9_came 5 rfl) mv_X9_needEvent ml_RX9_243 (As := [.int xa2]) (t_X9_needEvent (d := d - 1) hl (by omega) e0) (by omega) rfl (Nat.le_of_ble_eq_true rfl) ?_
  refine r_aload_n (dc_X9_came 6 rfl) rfl rfl ?_
  refine r_iload_n (dc_X9_came 7 rfl) rfl rfl ?_
  refine r_iconst (dc_X9_came 8 rfl) kiconst_2 ?_
  rcases tb_some h with ⟨u0, s3, e0, h⟩ | ⟨E0, s3, e0, h⟩
  rotate_left
  · subst h
    exact r_callVX (dc_X9_came 9 rfl) mv_X9_needWhat ml_RX9_166 (As := [.int xa3, .int (2 : Int32)]) (t_X9_needWhat (d := d - 1) hl (by omega) e0) (by omega) rfl (Nat.le_of_ble_eq_true rfl) rfl
  refine r_callV (dc_X9_came 9 rfl) mv_X9_needWhat ml_RX9_166 (As := [.int xa3, .int (2 : Int32)]) (t_X9_needWhat (d := d - 1) hl (by omega) e0) (by omega) rfl (Nat.le_of_ble_eq_true rfl) ?_
  refine r_aload_n (dc_X9_came 10 rfl) rfl rfl ?_
  obtain ⟨p4, e0, h⟩ := Option.bind_eq_some_iff.mp h
  refine r_getR (dc_X9_came 11 rfl) fl_RX9_12 e0 ?_
  obtain ⟨p5, e0, h⟩ := Option.bind_eq_some_iff.mp h
  refine r_getR (dc_X9_came 12 rfl) fl_RX9_94 e0 ?_
  refine r_iload_n (dc_X9_came 13 rfl) rfl rfl ?_
  obtain ⟨p6, e0, h⟩ := Option.bind_eq_some_iff.mp h
  refine r_aaldR (dc_X9_came 14 rfl) (kd := 4) rfl e0 ?_
  refine r_astore (dc_X9_came 15 rfl) (by decide) (lo' := [(4, .ref p6), (0, .ref a0), (1, .int xa1), (2, .int xa2), (3, .int xa3)]) rfl ?_
  refine r_aload (dc_X9_came 16 rfl) rfl ?_
  obtain ⟨p7, e0, h⟩ := Option.bind_eq_some_iff.mp h
  refine r_getR (dc_X9_came 17 rfl) fl_RX9_180 e0 ?_
  refine r_iload_n (dc_X9_came 18 rfl) rfl rfl ?_
  obtain ⟨x8, e0, h⟩ := Option.bind_eq_some_iff.mp h
  refine r_callV (dc_X9_came 19 rfl) mv_X1_holds ml_RX9_104 (As := [.int xa2]) (t_X1_holds (d := d - 1) hl (by omega) e0) (by omega) rfl (Nat.le_of_ble_eq_true rfl) ?_
  refine r_if_ne (dc_X9_came 20 rfl) (tgt := 41) (by decide) (fun c0 => ?_) (fun c0 => ?_)
  · rw [if_neg c0] at h
    refine r_iload_n (dc_X9_came 23 rfl) rfl rfl ?_
    refine r_if_ne (dc_X9_came 24 rfl) (tgt := 55) (by decide) (fun c0 => ?_) (fun c0 => ?_)
    · rw [if_neg c0] at h
      refine r_aload (dc_X9_came 30 rfl) rfl ?_
      obtain ⟨p9, e0, h⟩ := Option.bind_eq_some_iff.mp h
      refine r_getR (dc_X9_came 31 rfl) fl_RX9_307 e0 ?_
      refine r_iload_n (dc_X9_came 32 rfl) rfl rfl ?_
      obtain ⟨x10, e0, h⟩ := Option.bind_eq_some_iff.mp h
      refine r_iald (dc_X9_came 33 rfl) e0 ?_
      cases h
      exact r_ireturn (dc_X9_came 34 rfl) rfl
    · rw [if_pos c0] at h
      refine r_aload (dc_X9_came 25 rfl) rfl ?_
      obtain ⟨p11, e0, h⟩ := Option.bind_eq_some_iff.mp h
      refine r_getR (dc_X9_came 26 rfl) fl_RX9_304 e0 ?_
      refine r_iload_n (dc_X9_came 27 rfl) rfl rfl ?_
      obtain ⟨x12, e0, h⟩ := Option.bind_eq_some_iff.mp h
      refine r_iald (dc_X9_came 28 rfl) e0 ?_
      refine r_goto (dc_X9_came 29 rfl) (tgt := 62) (by decide) ?_
      cases h
      exact r_ireturn (dc_X9_came 34 rfl) rfl
  · rw [if_pos c0] at h
    refine r_iconst (dc_X9_came 21 rfl) kiconst_m1 ?_
    cases h
    exact r_ireturn (dc_X9_came 22 rfl) rfl
theorem t_X9_way {G : Gx} {d : Nat} (hl : G.1.stackTraces = false) (hd : 7 ≤ d) {σ : Sto} {a0 : Nat} {xa1 : Int32} {xa2 : Int32} {xa3 : Int32} {r : ((Int32 ⊕ String) × Sto)} (h : F_X9_way σ a0 xa1 xa2 xa3 = some r) : Mi G d m_X9_way 9 a0 [.int xa1, .int xa2, .int xa3] σ (toI r.1) r.2 := by
  rw [F_X9_way] at h
  obtain ⟨hg, h⟩ := chk_some h
  refine ⟨J.toMt (lo := [(0, .ref a0), (1, .int xa1), (2, .int xa2), (3, .int xa3)]) pn_RX9 rfl hl (Nat.le_of_ble_eq_true rfl) rfl ?_, hg⟩
  refine r_aload_n (dc_X9_way 0 rfl) rfl rfl ?_
  refine r_iload_n (dc_X9_way 1 rfl) rfl rfl ?_
  rcases tb_some h with ⟨u0, s1, e0, h⟩ | ⟨E0, s1, e0, h⟩
  rotate_left
  · subst h
    exact r_callVX (dc_X9_way 2 rfl) mv_X9_needSite ml_RX9_67 (As := [.int xa1]) (t_X9_needSite (d := d - 1) hl (by omega) e0) (by omega) rfl (Nat.le_of_ble_eq_true rfl) rfl
  refine r_callV (dc_X9_way 2 rfl) mv_X9_needSite ml_RX9_67 (As := [.int xa1]) (t_X9_needSite (d := d - 1) hl (by omega) e0) (by omega) rfl (Nat.le_of_ble_eq_true rfl) ?_
  refine r_aload_n (dc_X9_way 3 rfl) rfl rfl ?_
  refine r_iload_n (dc_X9_way 4 rfl) rfl rfl ?_
  rcases tb_some h with ⟨u0, s2, e0, h⟩ | ⟨E0, s2, e0, h⟩
  rotate_left
  · subst h
    exact r_callVX (dc_X9_way 5 rfl) mv_X9_needEvent ml_RX9_243 (As := [.int xa2]) (t_X9_needEvent (d := d - 1) hl (by omega) e0) (by omega) rfl (Nat.le_of_ble_eq_true rfl) rfl
  refine r_callV (dc_X9_way 5 rfl) mv_X9_needEvent ml_RX9_243 (As := [.int xa2]) (t_X9_needEvent (d := d - 1) hl (by omega) e0) (by omega) rfl (Nat.le_of_ble_eq_true rfl) ?_
  refine r_aload_n (dc_X9_way 6 rfl) rfl rfl ?_
  obtain ⟨p3, e0, h⟩ := Option.bind_eq_some_iff.mp h
  refine r_getR (dc_X9_way 7 rfl) fl_RX9_12 e0 ?_
  refine r_iload_n (dc_X9_way 8 rfl) rfl rfl ?_
  refine r_iload_n (dc_X9_way 9 rfl) rfl rfl ?_
  refine r_iload_n (dc_X9_way 10 rfl) rfl rfl ?_
  obtain ⟨x4, e0, h⟩ := Option.bind_eq_some_iff.mp h
  refine r_callV (dc_X9_way 11 rfl) mv_X8_wayOf ml_RX9_310 (As := [.int xa1, .int xa2, .int xa3]) (t_X8_wayOf (d := d - 1) hl (by omega) e0) (by omega) rfl (Nat.le_of_ble_eq_true rfl) ?_
  cases h
  exact r_ireturn (dc_X9_way 12 rfl) rfl
theorem t_X9_slowest {G : Gx} {d : Nat} (hl : G.1.stackTraces = false) (hd : 7 ≤ d) {σ : Sto} {a0 : Nat} {xa1 : Int32} {r : ((Int32 ⊕ String) × Sto)} (h : F_X9_slowest σ a0 xa1 = some r) : Mi G d m_X9_slowest 9 a0 [.int xa1] σ (toI r.1) r.2 := by
  rw [F_X9_slowest] at h
  obtain ⟨hg, h⟩ := chk_some h
  refine ⟨J.toMt (lo := [(0, .ref a0), (1, .int xa1)]) pn_RX9 rfl hl (Nat.le_of_ble_eq_true rfl) rfl ?_, hg⟩
  refine r_aload_n (dc_X9_slowest 0 rfl) rfl rfl ?_
  refine r_iload_n (dc_X9_slowest 1 rfl) rfl rfl ?_
  refine r_iconst (dc_X9_slowest 2 rfl) kiconst_2 ?_
  rcases tb_some h with ⟨u0, s1, e0, h⟩ | ⟨E0, s1, e0, h⟩
  rotate_left
  · subst h
    exact r_callVX (dc_X9_slowest 3 rfl) mv_X9_needWhat ml_RX9_166 (As := [.int xa1, .int (2 : Int32)]) (t_X9_needWhat (d := d - 1) hl (by omega) e0) (by omega) rfl (Nat.le_of_ble_eq_true rfl) rfl
  refine r_callV (dc_X9_slowest 3 rfl) mv_X9_needWhat ml_RX9_166 (As := [.int xa1, .int (2 : Int32)]) (t_X9_needWhat (d := d - 1) hl (by omega) e0) (by omega) rfl (Nat.le_of_ble_eq_true rfl) ?_
  refine r_aload_n (dc_X9_slowest 4 rfl) rfl rfl ?_
  obtain ⟨p2, e0, h⟩ := Option.bind_eq_some_iff.mp h
  refine r_getR (dc_X9_slowest 5 rfl) fl_RX9_12 e0 ?_
  obtain ⟨x3, e0, h⟩ := Option.bind_eq_some_iff.mp h
  refine r_callV (dc_X9_slowest 6 rfl) mv_X8_slowestEvent ml_RX9_313 (As := []) (t_X8_slowestEvent (d := d - 1) hl (by omega) e0) (by omega) rfl (Nat.le_of_ble_eq_true rfl) ?_
  refine r_istore_n (dc_X9_slowest 7 rfl) rfl (by decide) (lo' := [(2, .int x3), (0, .ref a0), (1, .int xa1)]) rfl ?_
  refine r_iload_n (dc_X9_slowest 8 rfl) rfl rfl ?_
  refine r_iconst (dc_X9_slowest 9 rfl) kiconst_m1 ?_
  refine r_icmp_eq (dc_X9_slowest 10 rfl) (tgt := 24) (by decide) (fun c0 => ?_) (fun c0 => ?_)
  · rw [if_pos c0] at h
    refine r_iload_n (dc_X9_slowest 14 rfl) rfl rfl ?_
    refine r_goto (dc_X9_slowest 15 rfl) (tgt := 36) (by decide) ?_
    cases h
    exact r_ireturn (dc_X9_slowest 20 rfl) rfl
  · rw [if_neg c0] at h
    refine r_iload_n (dc_X9_slowest 11 rfl) rfl rfl ?_
    refine r_iconst (dc_X9_slowest 12 rfl) kiconst_1 ?_
    refine r_icmp_ne (dc_X9_slowest 13 rfl) (tgt := 28) (by decide) (fun c0 => ?_) (fun c0 => ?_)
    · rw [if_neg c0] at h
      refine r_aload_n (dc_X9_slowest 16 rfl) rfl rfl ?_
      obtain ⟨p4, e0, h⟩ := Option.bind_eq_some_iff.mp h
      refine r_getR (dc_X9_slowest 17 rfl) fl_RX9_12 e0 ?_
      refine r_iload_n (dc_X9_slowest 18 rfl) rfl rfl ?_
      obtain ⟨x5, e0, h⟩ := Option.bind_eq_some_iff.mp h
      refine r_callV (dc_X9_slowest 19 rfl) mv_X8_stepsToAll ml_RX9_316 (As := [.int x3]) (t_X8_stepsToAll (d := d - 1) hl (by omega) e0) (by omega) rfl (Nat.le_of_ble_eq_true rfl) ?_
      cases h
      exact r_ireturn (dc_X9_slowest 20 rfl) rfl
    · rw [if_pos c0] at h
      refine r_iload_n (dc_X9_slowest 14 rfl) rfl rfl ?_
      refine r_goto (dc_X9_slowest 15 rfl) (tgt := 36) (by decide) ?_
      cases h
      exact r_ireturn (dc_X9_slowest 20 rfl) rfl
theorem t_X9_chain {G : Gx} {d : Nat} (hl : G.1.stackTraces = false) (hd : 7 ≤ d) {σ : Sto} {a0 : Nat} {xa1 : Int32} {xa2 : Int32} {r : ((Int32 ⊕ String) × Sto)} (h : F_X9_chain σ a0 xa1 xa2 = some r) : Mi G d m_X9_chain 9 a0 [.int xa1, .int xa2] σ (toI r.1) r.2 := by
  rw [F_X9_chain] at h
  obtain ⟨hg, h⟩ := chk_some h
  refine ⟨J.toMt (lo := [(0, .ref a0), (1, .int xa1), (2, .int xa2)]) pn_RX9 rfl hl (Nat.le_of_ble_eq_true rfl) rfl ?_, hg⟩
  refine r_aload_n (dc_X9_chain 0 rfl) rfl rfl ?_
  refine r_iload_n (dc_X9_chain 1 rfl) rfl rfl ?_
  rcases tb_some h with ⟨u0, s1, e0, h⟩ | ⟨E0, s1, e0, h⟩
  rotate_left
  · subst h
    exact r_callVX (dc_X9_chain 2 rfl) mv_X9_needEvent ml_RX9_243 (As := [.int xa1]) (t_X9_needEvent (d := d - 1) hl (by omega) e0) (by omega) rfl (Nat.le_of_ble_eq_true rfl) rfl
  refine r_callV (dc_X9_chain 2 rfl) mv_X9_needEvent ml_RX9_243 (As := [.int xa1]) (t_X9_needEvent (d := d - 1) hl (by omega) e0) (by omega) rfl (Nat.le_of_ble_eq_true rfl) ?_
  refine r_aload_n (dc_X9_chain 3 rfl) rfl rfl ?_
  obtain ⟨p2, e0, h⟩ := Option.bind_eq_some_iff.mp h
  refine r_getR (dc_X9_chain 4 rfl) fl_RX9_32 e0 ?_
  refine r_iload_n (dc_X9_chain 5 rfl) rfl rfl ?_
  refine r_iload_n (dc_X9_chain 6 rfl) rfl rfl ?_
  obtain ⟨x4, s3, e0, h⟩ := wb_some h
  refine r_callV (dc_X9_chain 7 rfl) mv_X5_inLongestRow ml_RX9_319 (As := [.int xa1, .int xa2]) (t_X5_inLongestRow (d := d - 1) hl (by omega) e0) (by omega) rfl (Nat.le_of_ble_eq_true rfl) ?_
  cases h
  exact r_ireturn (dc_X9_chain 8 rfl) rfl
theorem l_X9_between_L15 {G : Gx} {d : Nat} (hl : G.1.stackTraces = false) (hd : 7 ≤ d) {sL : Sto} {pL0 : Nat} {xL1 : Int32} {xL2 : Int32} {r : ((Int32 ⊕ String) × Sto)} {k71 : Int32 → Option ((Int32 ⊕ String) × Sto)}
    (hk71 : ∀ (xL3 : Int32), k71 xL3 = some r → J G d m_X9_between 71 [(3, .int xL3)] [] sL (toI r.1) r.2)
  : ∀ (f : Nat) (xL3 : Int32) (xL4 : Int32), F_X9_between_L15 sL pL0 xL1 xL2 f xL3 xL4 k71 = some r → J G d m_X9_between 15 [(0, .ref pL0), (1, .int xL1), (2, .int xL2), (3, .int xL3), (4, .int xL4)] [] sL (toI r.1) r.2 := by
  intro f
  induction f with
  | zero => intro xL3 xL4 h; rw [F_X9_between_L15] at h; cases h
  | succ f ih =>
    intro xL3 xL4 h
    rw [F_X9_between_L15] at h
    refine r_iload (dc_X9_between 10 rfl) rfl ?_
    refine r_aload_n (dc_X9_between 11 rfl) rfl rfl ?_
    obtain ⟨p3, e0, h⟩ := Option.bind_eq_some_iff.mp h
    refine r_getR (dc_X9_between 12 rfl) fl_RX9_12 e0 ?_
    obtain ⟨p4, e0, h⟩ := Option.bind_eq_some_iff.mp h
    refine r_getR (dc_X9_between 13 rfl) fl_RX9_84 e0 ?_
    obtain ⟨x5, e0, h⟩ := Option.bind_eq_some_iff.mp h
    refine r_getI (dc_X9_between 14 rfl) fl_RX9_205 e0 ?_
    refine r_icmp_ge (dc_X9_between 15 rfl) (tgt := 71) (by decide) (fun c0 => ?_) (fun c0 => ?_)
    · rw [if_pos c0] at h
      refine r_pick [3] (lo' := [(3, .int xL3)]) rfl ?_
      exact hk71 _ h
    · rw [if_neg c0] at h
      refine r_aload_n (dc_X9_between 16 rfl) rfl rfl ?_
      obtain ⟨p6, e0, h⟩ := Option.bind_eq_some_iff.mp h
      refine r_getR (dc_X9_between 17 rfl) fl_RX9_12 e0 ?_
      obtain ⟨p7, e0, h⟩ := Option.bind_eq_some_iff.mp h
      refine r_getR (dc_X9_between 18 rfl) fl_RX9_84 e0 ?_
      refine r_iload_n (dc_X9_between 19 rfl) rfl rfl ?_
      refine r_iload (dc_X9_between 20 rfl) rfl ?_
      obtain ⟨x8, e0, h⟩ := Option.bind_eq_some_iff.mp h
      refine r_callV (dc_X9_between 21 rfl) mv_X2_isAhead ml_RX9_295 (As := [.int xL1, .int xL4]) (t_X2_isAhead (d := d - 1) hl (by omega) e0) (by omega) rfl (Nat.le_of_ble_eq_true rfl) ?_
      refine r_if_eq (dc_X9_between 22 rfl) (tgt := 65) (by decide) (fun c0 => ?_) (fun c0 => ?_)
      · rw [if_pos c0] at h
        refine r_iinc (dc_X9_between 31 rfl) rfl (kinc_1 _) (by decide) (lo' := [(4, .int (xL4 + (1 : Int32))), (0, .ref pL0), (1, .int xL1), (2, .int xL2), (3, .int xL3)]) rfl ?_
        refine r_goto (dc_X9_between 32 rfl) (tgt := 15) (by decide) ?_
        refine r_pick [1, 2, 3, 4, 0] (lo' := [(0, .ref pL0), (1, .int xL1), (2, .int xL2), (3, .int xL3), (4, .int (xL4 + (1 : Int32)))]) rfl ?_
        exact ih _ _ h
      · rw [if_neg c0] at h
        refine r_aload_n (dc_X9_between 23 rfl) rfl rfl ?_
        obtain ⟨p9, e0, h⟩ := Option.bind_eq_some_iff.mp h
        refine r_getR (dc_X9_between 24 rfl) fl_RX9_12 e0 ?_
        obtain ⟨p10, e0, h⟩ := Option.bind_eq_some_iff.mp h
        refine r_getR (dc_X9_between 25 rfl) fl_RX9_84 e0 ?_
        refine r_iload (dc_X9_between 26 rfl) rfl ?_
        refine r_iload_n (dc_X9_between 27 rfl) rfl rfl ?_
        obtain ⟨x11, e0, h⟩ := Option.bind_eq_some_iff.mp h
        refine r_callV (dc_X9_between 28 rfl) mv_X2_isAhead ml_RX9_295 (As := [.int xL4, .int xL2]) (t_X2_isAhead (d := d - 1) hl (by omega) e0) (by omega) rfl (Nat.le_of_ble_eq_true rfl) ?_
        refine r_if_eq (dc_X9_between 29 rfl) (tgt := 65) (by decide) (fun c0 => ?_) (fun c0 => ?_)
        · rw [if_pos c0] at h
          refine r_iinc (dc_X9_between 31 rfl) rfl (kinc_1 _) (by decide) (lo' := [(4, .int (xL4 + (1 : Int32))), (0, .ref pL0), (1, .int xL1), (2, .int xL2), (3, .int xL3)]) rfl ?_
          refine r_goto (dc_X9_between 32 rfl) (tgt := 15) (by decide) ?_
          refine r_pick [1, 2, 3, 4, 0] (lo' := [(0, .ref pL0), (1, .int xL1), (2, .int xL2), (3, .int xL3), (4, .int (xL4 + (1 : Int32)))]) rfl ?_
          exact ih _ _ h
        · rw [if_neg c0] at h
          refine r_iinc (dc_X9_between 30 rfl) rfl (kinc_1 _) (by decide) (lo' := [(3, .int (xL3 + (1 : Int32))), (0, .ref pL0), (1, .int xL1), (2, .int xL2), (4, .int xL4)]) rfl ?_
          refine r_iinc (dc_X9_between 31 rfl) rfl (kinc_1 _) (by decide) (lo' := [(4, .int (xL4 + (1 : Int32))), (3, .int (xL3 + (1 : Int32))), (0, .ref pL0), (1, .int xL1), (2, .int xL2)]) rfl ?_
          refine r_goto (dc_X9_between 32 rfl) (tgt := 15) (by decide) ?_
          refine r_pick [2, 3, 4, 1, 0] (lo' := [(0, .ref pL0), (1, .int xL1), (2, .int xL2), (3, .int (xL3 + (1 : Int32))), (4, .int (xL4 + (1 : Int32)))]) rfl ?_
          exact ih _ _ h
theorem t_X9_between {G : Gx} {d : Nat} (hl : G.1.stackTraces = false) (hd : 7 ≤ d) {σ : Sto} {a0 : Nat} {xa1 : Int32} {xa2 : Int32} {r : ((Int32 ⊕ String) × Sto)} (h : F_X9_between σ a0 xa1 xa2 = some r) : Mi G d m_X9_between 9 a0 [.int xa1, .int xa2] σ (toI r.1) r.2 := by
  rw [F_X9_between] at h
  obtain ⟨hg, h⟩ := chk_some h
  refine ⟨J.toMt (lo := [(0, .ref a0), (1, .int xa1), (2, .int xa2)]) pn_RX9 rfl hl (Nat.le_of_ble_eq_true rfl) rfl ?_, hg⟩
  refine r_aload_n (dc_X9_between 0 rfl) rfl rfl ?_
  refine r_iload_n (dc_X9_between 1 rfl) rfl rfl ?_
  rcases tb_some h with ⟨u0, s1, e0, h⟩ | ⟨E0, s1, e0, h⟩
  rotate_left
  · subst h
    exact r_callVX (dc_X9_between 2 rfl) mv_X9_needEvent ml_RX9_243 (As := [.int xa1]) (t_X9_needEvent (d := d - 1) hl (by omega) e0) (by omega) rfl (Nat.le_of_ble_eq_true rfl) rfl
  refine r_callV (dc_X9_between 2 rfl) mv_X9_needEvent ml_RX9_243 (As := [.int xa1]) (t_X9_needEvent (d := d - 1) hl (by omega) e0) (by omega) rfl (Nat.le_of_ble_eq_true rfl) ?_
  refine r_aload_n (dc_X9_between 3 rfl) rfl rfl ?_
  refine r_iload_n (dc_X9_between 4 rfl) rfl rfl ?_
  rcases tb_some h with ⟨u0, s2, e0, h⟩ | ⟨E0, s2, e0, h⟩
  rotate_left
  · subst h
    exact r_callVX (dc_X9_between 5 rfl) mv_X9_needEvent ml_RX9_243 (As := [.int xa2]) (t_X9_needEvent (d := d - 1) hl (by omega) e0) (by omega) rfl (Nat.le_of_ble_eq_true rfl) rfl
  refine r_callV (dc_X9_between 5 rfl) mv_X9_needEvent ml_RX9_243 (As := [.int xa2]) (t_X9_needEvent (d := d - 1) hl (by omega) e0) (by omega) rfl (Nat.le_of_ble_eq_true rfl) ?_
  refine r_iconst (dc_X9_between 6 rfl) kiconst_0 ?_
  refine r_istore_n (dc_X9_between 7 rfl) rfl (by decide) (lo' := [(3, .int (0 : Int32)), (0, .ref a0), (1, .int xa1), (2, .int xa2)]) rfl ?_
  refine r_iconst (dc_X9_between 8 rfl) kiconst_0 ?_
  refine r_istore (dc_X9_between 9 rfl) (by decide) (lo' := [(4, .int (0 : Int32)), (3, .int (0 : Int32)), (0, .ref a0), (1, .int xa1), (2, .int xa2)]) rfl ?_
  refine r_pick [2, 3, 4, 1, 0] (lo' := [(0, .ref a0), (1, .int xa1), (2, .int xa2), (3, .int (0 : Int32)), (4, .int (0 : Int32))]) rfl ?_
  refine l_X9_between_L15 hl hd (hk71 := ?_) fu _ _ h
  · intro x12 h
    refine r_iload_n (dc_X9_between 33 rfl) rfl rfl ?_
    cases h
    exact r_ireturn (dc_X9_between 34 rfl) rfl
theorem t_X9_front {G : Gx} {d : Nat} (hl : G.1.stackTraces = false) (hd : 7 ≤ d) {σ : Sto} {a0 : Nat} {xa1 : Int32} {xa2 : Int32} {r : ((Int32 ⊕ String) × Sto)} (h : F_X9_front σ a0 xa1 xa2 = some r) : Mi G d m_X9_front 9 a0 [.int xa1, .int xa2] σ (toI r.1) r.2 := by
  rw [F_X9_front] at h
  obtain ⟨hg, h⟩ := chk_some h
  refine ⟨J.toMt (lo := [(0, .ref a0), (1, .int xa1), (2, .int xa2)]) pn_RX9 rfl hl (Nat.le_of_ble_eq_true rfl) rfl ?_, hg⟩
  refine r_aload_n (dc_X9_front 0 rfl) rfl rfl ?_
  refine r_iload_n (dc_X9_front 1 rfl) rfl rfl ?_
  rcases tb_some h with ⟨u0, s1, e0, h⟩ | ⟨E0, s1, e0, h⟩
  rotate_left
  · subst h
    exact r_callVX (dc_X9_front 2 rfl) mv_X9_needSite ml_RX9_67 (As := [.int xa1]) (t_X9_needSite (d := d - 1) hl (by omega) e0) (by omega) rfl (Nat.le_of_ble_eq_true rfl) rfl
  refine r_callV (dc_X9_front 2 rfl) mv_X9_needSite ml_RX9_67 (As := [.int xa1]) (t_X9_needSite (d := d - 1) hl (by omega) e0) (by omega) rfl (Nat.le_of_ble_eq_true rfl) ?_
  refine r_aload_n (dc_X9_front 3 rfl) rfl rfl ?_
  obtain ⟨p2, e0, h⟩ := Option.bind_eq_some_iff.mp h
  refine r_getR (dc_X9_front 4 rfl) fl_RX9_32 e0 ?_
  refine r_iload_n (dc_X9_front 5 rfl) rfl rfl ?_
  obtain ⟨p4, s3, e0, h⟩ := wb_some h
  refine r_callV (dc_X9_front 6 rfl) mv_X5_frontOf ml_RX9_322 (As := [.int xa1]) (t_X5_frontOf (d := d - 1) hl (by omega) e0) (by omega) rfl (Nat.le_of_ble_eq_true rfl) ?_
  refine r_astore_n (dc_X9_front 7 rfl) rfl (by decide) (lo' := [(3, .ref p4), (0, .ref a0), (1, .int xa1), (2, .int xa2)]) rfl ?_
  refine r_iload_n (dc_X9_front 8 rfl) rfl rfl ?_
  refine r_iconst (dc_X9_front 9 rfl) kiconst_m1 ?_
  refine r_icmp_ne (dc_X9_front 10 rfl) (tgt := 26) (by decide) (fun c0 => ?_) (fun c0 => ?_)
  · rw [if_neg c0] at h
    refine r_aload_n (dc_X9_front 14 rfl) rfl rfl ?_
    refine r_iload_n (dc_X9_front 15 rfl) rfl rfl ?_
    obtain ⟨x5, e0, h⟩ := Option.bind_eq_some_iff.mp h
    refine r_callV (dc_X9_front 16 rfl) mv_X1_nth ml_RX9_221 (As := [.int xa2]) (t_X1_nth (d := d - 1) hl (by omega) e0) (by omega) rfl (Nat.le_of_ble_eq_true rfl) ?_
    cases h
    exact r_ireturn (dc_X9_front 17 rfl) rfl
  · rw [if_pos c0] at h
    refine r_aload_n (dc_X9_front 11 rfl) rfl rfl ?_
    obtain ⟨x6, e0, h⟩ := Option.bind_eq_some_iff.mp h
    refine r_callV (dc_X9_front 12 rfl) mv_X1_size ml_RX9_253 (As := []) (t_X1_size (d := d - 1) hl (by omega) e0) (by omega) rfl (Nat.le_of_ble_eq_true rfl) ?_
    refine r_goto (dc_X9_front 13 rfl) (tgt := 31) (by decide) ?_
    cases h
    exact r_ireturn (dc_X9_front 17 rfl) rfl
theorem t_X9_only {G : Gx} {d : Nat} (hl : G.1.stackTraces = false) (hd : 7 ≤ d) {σ : Sto} {a0 : Nat} {xa1 : Int32} {xa2 : Int32} {xa3 : Int32} {r : ((Int32 ⊕ String) × Sto)} (h : F_X9_only σ a0 xa1 xa2 xa3 = some r) : Mi G d m_X9_only 9 a0 [.int xa1, .int xa2, .int xa3] σ (toI r.1) r.2 := by
  rw [F_X9_only] at h
  obtain ⟨hg, h⟩ := chk_some h
  refine ⟨J.toMt (lo := [(0, .ref a0), (1, .int xa1), (2, .int xa2), (3, .int xa3)]) pn_RX9 rfl hl (Nat.le_of_ble_eq_true rfl) rfl ?_, hg⟩
  refine r_aload_n (dc_X9_only 0 rfl) rfl rfl ?_
  refine r_iload_n (dc_X9_only 1 rfl) rfl rfl ?_
  refine r_iload_n (dc_X9_only 2 rfl) rfl rfl ?_
  rcases tb_some h with ⟨u0, s1, e0, h⟩ | ⟨E0, s1, e0, h⟩
  rotate_left
  · subst h
    exact r_callVX (dc_X9_only 3 rfl) mv_X9_needTwoSites ml_RX9_117 (As := [.int xa1, .int xa2]) (t_X9_needTwoSites (d := d - 1) hl (by omega) e0) (by omega) rfl (Nat.le_of_ble_eq_true rfl) rfl
  refine r_callV (dc_X9_only 3 rfl) mv_X9_needTwoSites ml_RX9_117 (As := [.int xa1, .int xa2]) (t_X9_needTwoSites (d := d - 1) hl (by omega) e0) (by omega) rfl (Nat.le_of_ble_eq_true rfl) ?_
  refine r_aload_n (dc_X9_only 4 rfl) rfl rfl ?_
  obtain ⟨p2, e0, h⟩ := Option.bind_eq_some_iff.mp h
  refine r_getR (dc_X9_only 5 rfl) fl_RX9_32 e0 ?_
  refine r_iload_n (dc_X9_only 6 rfl) rfl rfl ?_
  refine r_iload_n (dc_X9_only 7 rfl) rfl rfl ?_
  obtain ⟨p4, s3, e0, h⟩ := wb_some h
  refine r_callV (dc_X9_only 8 rfl) mv_X5_onlyAt ml_RX9_326 (As := [.int xa1, .int xa2]) (t_X5_onlyAt (d := d - 1) hl (by omega) e0) (by omega) rfl (Nat.le_of_ble_eq_true rfl) ?_
  refine r_iload_n (dc_X9_only 9 rfl) rfl rfl ?_
  obtain ⟨x5, e0, h⟩ := Option.bind_eq_some_iff.mp h
  refine r_callV (dc_X9_only 10 rfl) mv_X1_nth ml_RX9_221 (As := [.int xa3]) (t_X1_nth (d := d - 1) hl (by omega) e0) (by omega) rfl (Nat.le_of_ble_eq_true rfl) ?_
  cases h
  exact r_ireturn (dc_X9_only 11 rfl) rfl
theorem l_X9_sure_L36 {G : Gx} {d : Nat} (hl : G.1.stackTraces = false) (hd : 7 ≤ d) {sL : Sto} {pL0 : Nat} {xL1 : Int32} {xL2 : Int32} {r : ((Int32 ⊕ String) × Sto)} {k112 : Int32 → Option ((Int32 ⊕ String) × Sto)}
    (hk112 : ∀ (xL3 : Int32), k112 xL3 = some r → J G d m_X9_sure 112 [(3, .int xL3)] [] sL (toI r.1) r.2)
  : ∀ (f : Nat) (xL3 : Int32) (xL4 : Int32), F_X9_sure_L36 sL pL0 xL1 xL2 f xL3 xL4 k112 = some r → J G d m_X9_sure 36 [(0, .ref pL0), (1, .int xL1), (2, .int xL2), (3, .int xL3), (4, .int xL4)] [] sL (toI r.1) r.2 := by
  intro f
  induction f with
  | zero => intro xL3 xL4 h; rw [F_X9_sure_L36] at h; cases h
  | succ f ih =>
    intro xL3 xL4 h
    rw [F_X9_sure_L36] at h
    refine r_iload (dc_X9_sure 19 rfl) rfl ?_
    refine r_aload_n (dc_X9_sure 20 rfl) rfl rfl ?_
    obtain ⟨p4, e0, h⟩ := Option.bind_eq_some_iff.mp h
    refine r_getR (dc_X9_sure 21 rfl) fl_RX9_12 e0 ?_
    obtain ⟨p5, e0, h⟩ := Option.bind_eq_some_iff.mp h
    refine r_getR (dc_X9_sure 22 rfl) fl_RX9_84 e0 ?_
    obtain ⟨x6, e0, h⟩ := Option.bind_eq_some_iff.mp h
    refine r_getI (dc_X9_sure 23 rfl) fl_RX9_205 e0 ?_
    refine r_icmp_ge (dc_X9_sure 24 rfl) (tgt := 112) (by decide) (fun c0 => ?_) (fun c0 => ?_)
    · rw [if_pos c0] at h
      refine r_pick [3] (lo' := [(3, .int xL3)]) rfl ?_
      exact hk112 _ h
    · rw [if_neg c0] at h
      refine r_aload_n (dc_X9_sure 25 rfl) rfl rfl ?_
      obtain ⟨p7, e0, h⟩ := Option.bind_eq_some_iff.mp h
      refine r_getR (dc_X9_sure 26 rfl) fl_RX9_12 e0 ?_
      obtain ⟨p8, e0, h⟩ := Option.bind_eq_some_iff.mp h
      refine r_getR (dc_X9_sure 27 rfl) fl_RX9_94 e0 ?_
      refine r_iload_n (dc_X9_sure 28 rfl) rfl rfl ?_
      obtain ⟨p9, e0, h⟩ := Option.bind_eq_some_iff.mp h
      refine r_aaldR (dc_X9_sure 29 rfl) (kd := 4) rfl e0 ?_
      obtain ⟨p10, e0, h⟩ := Option.bind_eq_some_iff.mp h
      refine r_getR (dc_X9_sure 30 rfl) fl_RX9_180 e0 ?_
      refine r_iload (dc_X9_sure 31 rfl) rfl ?_
      obtain ⟨x11, e0, h⟩ := Option.bind_eq_some_iff.mp h
      refine r_callV (dc_X9_sure 32 rfl) mv_X1_holds ml_RX9_104 (As := [.int xL4]) (t_X1_holds (d := d - 1) hl (by omega) e0) (by omega) rfl (Nat.le_of_ble_eq_true rfl) ?_
      refine r_if_eq (dc_X9_sure 33 rfl) (tgt := 106) (by decide) (fun c0 => ?_) (fun c0 => ?_)
      · rw [if_pos c0] at h
        refine r_iinc (dc_X9_sure 50 rfl) rfl (kinc_1 _) (by decide) (lo' := [(4, .int (xL4 + (1 : Int32))), (0, .ref pL0), (1, .int xL1), (2, .int xL2), (3, .int xL3)]) rfl ?_
        refine r_goto (dc_X9_sure 51 rfl) (tgt := 36) (by decide) ?_
        refine r_pick [1, 2, 3, 4, 0] (lo' := [(0, .ref pL0), (1, .int xL1), (2, .int xL2), (3, .int xL3), (4, .int (xL4 + (1 : Int32)))]) rfl ?_
        exact ih _ _ h
      · rw [if_neg c0] at h
        refine r_aload_n (dc_X9_sure 34 rfl) rfl rfl ?_
        obtain ⟨p12, e0, h⟩ := Option.bind_eq_some_iff.mp h
        refine r_getR (dc_X9_sure 35 rfl) fl_RX9_12 e0 ?_
        obtain ⟨p13, e0, h⟩ := Option.bind_eq_some_iff.mp h
        refine r_getR (dc_X9_sure 36 rfl) fl_RX9_94 e0 ?_
        refine r_iload_n (dc_X9_sure 37 rfl) rfl rfl ?_
        obtain ⟨p14, e0, h⟩ := Option.bind_eq_some_iff.mp h
        refine r_aaldR (dc_X9_sure 38 rfl) (kd := 4) rfl e0 ?_
        refine r_aload_n (dc_X9_sure 39 rfl) rfl rfl ?_
        obtain ⟨p15, e0, h⟩ := Option.bind_eq_some_iff.mp h
        refine r_getR (dc_X9_sure 40 rfl) fl_RX9_12 e0 ?_
        obtain ⟨p16, e0, h⟩ := Option.bind_eq_some_iff.mp h
        refine r_getR (dc_X9_sure 41 rfl) fl_RX9_84 e0 ?_
        refine r_iload (dc_X9_sure 42 rfl) rfl ?_
        refine r_aload_n (dc_X9_sure 43 rfl) rfl rfl ?_
        obtain ⟨p17, e0, h⟩ := Option.bind_eq_some_iff.mp h
        refine r_getR (dc_X9_sure 44 rfl) fl_RX9_12 e0 ?_
        obtain ⟨x18, e0, h⟩ := Option.bind_eq_some_iff.mp h
        refine r_getI (dc_X9_sure 45 rfl) fl_RX9_330 e0 ?_
        obtain ⟨x19, e0, h⟩ := Option.bind_eq_some_iff.mp h
        refine r_callV (dc_X9_sure 46 rfl) mv_X6_sitesThatKnow ml_RX9_335 (As := [.ref p16, .int xL4, .int x18]) (t_X6_sitesThatKnow (d := d - 1) hl (by omega) e0) (by omega) rfl (Nat.le_of_ble_eq_true rfl) ?_
        refine r_iload_n (dc_X9_sure 47 rfl) rfl rfl ?_
        refine r_icmp_lt (dc_X9_sure 48 rfl) (tgt := 106) (by decide) (fun c0 => ?_) (fun c0 => ?_)
        · rw [if_pos c0] at h
          refine r_iinc (dc_X9_sure 50 rfl) rfl (kinc_1 _) (by decide) (lo' := [(4, .int (xL4 + (1 : Int32))), (0, .ref pL0), (1, .int xL1), (2, .int xL2), (3, .int xL3)]) rfl ?_
          refine r_goto (dc_X9_sure 51 rfl) (tgt := 36) (by decide) ?_
          refine r_pick [1, 2, 3, 4, 0] (lo' := [(0, .ref pL0), (1, .int xL1), (2, .int xL2), (3, .int xL3), (4, .int (xL4 + (1 : Int32)))]) rfl ?_
          exact ih _ _ h
        · rw [if_neg c0] at h
          refine r_iinc (dc_X9_sure 49 rfl) rfl (kinc_1 _) (by decide) (lo' := [(3, .int (xL3 + (1 : Int32))), (0, .ref pL0), (1, .int xL1), (2, .int xL2), (4, .int xL4)]) rfl ?_
          refine r_iinc (dc_X9_sure 50 rfl) rfl (kinc_1 _) (by decide) (lo' := [(4, .int (xL4 + (1 : Int32))), (3, .int (xL3 + (1 : Int32))), (0, .ref pL0), (1, .int xL1), (2, .int xL2)]) rfl ?_
          refine r_goto (dc_X9_sure 51 rfl) (tgt := 36) (by decide) ?_
          refine r_pick [2, 3, 4, 1, 0] (lo' := [(0, .ref pL0), (1, .int xL1), (2, .int xL2), (3, .int (xL3 + (1 : Int32))), (4, .int (xL4 + (1 : Int32)))]) rfl ?_
          exact ih _ _ h
theorem t_X9_sure {G : Gx} {d : Nat} (hl : G.1.stackTraces = false) (hd : 7 ≤ d) {σ : Sto} {a0 : Nat} {xa1 : Int32} {xa2 : Int32} {r : ((Int32 ⊕ String) × Sto)} (h : F_X9_sure σ a0 xa1 xa2 = some r) : Mi G d m_X9_sure 9 a0 [.int xa1, .int xa2] σ (toI r.1) r.2 := by
  rw [F_X9_sure] at h
  obtain ⟨hg, h⟩ := chk_some h
  refine ⟨J.toMt (lo := [(0, .ref a0), (1, .int xa1), (2, .int xa2)]) pn_RX9 rfl hl (Nat.le_of_ble_eq_true rfl) rfl ?_, hg⟩
  refine r_aload_n (dc_X9_sure 0 rfl) rfl rfl ?_
  refine r_iload_n (dc_X9_sure 1 rfl) rfl rfl ?_
  rcases tb_some h with ⟨u0, s1, e0, h⟩ | ⟨E0, s1, e0, h⟩
  rotate_left
  · subst h
    exact r_callVX (dc_X9_sure 2 rfl) mv_X9_needSite ml_RX9_67 (As := [.int xa1]) (t_X9_needSite (d := d - 1) hl (by omega) e0) (by omega) rfl (Nat.le_of_ble_eq_true rfl) rfl
  refine r_callV (dc_X9_sure 2 rfl) mv_X9_needSite ml_RX9_67 (As := [.int xa1]) (t_X9_needSite (d := d - 1) hl (by omega) e0) (by omega) rfl (Nat.le_of_ble_eq_true rfl) ?_
  refine r_iload_n (dc_X9_sure 3 rfl) rfl rfl ?_
  refine r_if_lt (dc_X9_sure 4 rfl) (tgt := 20) (by decide) (fun c0 => ?_) (fun c0 => ?_)
  · rw [if_pos c0] at h
    cases h
    exact r_throwSW tl_RX9_47_51 (str_in 19 rfl) (dc_X9_sure 10 rfl) (dc_X9_sure 11 rfl) (dc_X9_sure 12 rfl) (dc_X9_sure 13 rfl) (dc_X9_sure 14 rfl) rfl (by omega) (Nat.le_of_ble_eq_true rfl)
  · rw [if_neg c0] at h
    refine r_iload_n (dc_X9_sure 5 rfl) rfl rfl ?_
    refine r_aload_n (dc_X9_sure 6 rfl) rfl rfl ?_
    obtain ⟨p2, e0, h⟩ := Option.bind_eq_some_iff.mp h
    refine r_getR (dc_X9_sure 7 rfl) fl_RX9_12 e0 ?_
    obtain ⟨x3, e0, h⟩ := Option.bind_eq_some_iff.mp h
    refine r_getI (dc_X9_sure 8 rfl) fl_RX9_330 e0 ?_
    refine r_icmp_le (dc_X9_sure 9 rfl) (tgt := 31) (by decide) (fun c0 => ?_) (fun c0 => ?_)
    · rw [if_pos c0] at h
      refine r_iconst (dc_X9_sure 15 rfl) kiconst_0 ?_
      refine r_istore_n (dc_X9_sure 16 rfl) rfl (by decide) (lo' := [(3, .int (0 : Int32)), (0, .ref a0), (1, .int xa1), (2, .int xa2)]) rfl ?_
      refine r_iconst (dc_X9_sure 17 rfl) kiconst_0 ?_
      refine r_istore (dc_X9_sure 18 rfl) (by decide) (lo' := [(4, .int (0 : Int32)), (3, .int (0 : Int32)), (0, .ref a0), (1, .int xa1), (2, .int xa2)]) rfl ?_
      refine r_pick [2, 3, 4, 1, 0] (lo' := [(0, .ref a0), (1, .int xa1), (2, .int xa2), (3, .int (0 : Int32)), (4, .int (0 : Int32))]) rfl ?_
      refine l_X9_sure_L36 hl hd (hk112 := ?_) fu _ _ h
      · intro x20 h
        refine r_iload_n (dc_X9_sure 52 rfl) rfl rfl ?_
        cases h
        exact r_ireturn (dc_X9_sure 53 rfl) rfl
    · rw [if_neg c0] at h
      cases h
      exact r_throwSW tl_RX9_47_51 (str_in 19 rfl) (dc_X9_sure 10 rfl) (dc_X9_sure 11 rfl) (dc_X9_sure 12 rfl) (dc_X9_sure 13 rfl) (dc_X9_sure 14 rfl) rfl (by omega) (Nat.le_of_ble_eq_true rfl)
