theorem t_X9_lose {G : Gx} {d : Nat} (hl : G.1.stackTraces = false) (hd : 7 ≤ d) {σ : Sto} {a0 : Nat} {xa1 : Int32} {xa2 : Int32} {xa3 : Int32} {r : ((Int32 ⊕ String) × Sto)} (h : F_X9_lose σ a0 xa1 xa2 xa3 = some r) : Mi G d m_X9_lose 9 a0 [.int xa1, .int xa2, .int xa3] σ (toI r.1) r.2 := by
  rw [F_X9_lose] at h
  obtain ⟨hg, h⟩ := chk_some h
  refine ⟨J.toMt (lo := [(0, .ref a0), (1, .int xa1), (2, .int xa2), (3, .int xa3)]) pn_RX9 rfl hl (Nat.le_of_ble_eq_true rfl) rfl ?_, hg⟩
  refine r_aload_n (dc_X9_lose 0 rfl) rfl rfl ?_
  refine r_iload_n (dc_X9_lose 1 rfl) rfl rfl ?_
  refine r_iload_n (dc_X9_lose 2 rfl) rfl rfl ?_
  rcases tb_some h with ⟨u0, s1, e0, h⟩ | ⟨E0, s1, e0, h⟩
  rotate_left
  · subst h
    exact r_callVX (dc_X9_lose 3 rfl) mv_X9_needTwoSites ml_RX9_117 (As := [.int xa1, .int xa2]) (t_X9_needTwoSites (d := d - 1) hl (by omega) e0) (by omega) rfl (Nat.le_of_ble_eq_true rfl) rfl
  refine r_callV (dc_X9_lose 3 rfl) mv_X9_needTwoSites ml_RX9_117 (As := [.int xa1, .int xa2]) (t_X9_needTwoSites (d := d - 1) hl (by omega) e0) (by omega) rfl (Nat.le_of_ble_eq_true rfl) ?_
  refine r_aload_n (dc_X9_lose 4 rfl) rfl rfl ?_
  refine r_iload_n (dc_X9_lose 5 rfl) rfl rfl ?_
  refine r_iload_n (dc_X9_lose 6 rfl) rfl rfl ?_
  refine r_iload_n (dc_X9_lose 7 rfl) rfl rfl ?_
  rcases tb_some h with ⟨u0, s2, e0, h⟩ | ⟨E0, s2, e0, h⟩
  rotate_left
  · subst h
    exact r_callVX (dc_X9_lose 8 rfl) mv_X9_needLetter ml_RX9_133 (As := [.int xa1, .int xa2, .int xa3]) (t_X9_needLetter (d := d - 1) hl (by omega) e0) (by omega) rfl (Nat.le_of_ble_eq_true rfl) rfl
  refine r_callV (dc_X9_lose 8 rfl) mv_X9_needLetter ml_RX9_133 (As := [.int xa1, .int xa2, .int xa3]) (t_X9_needLetter (d := d - 1) hl (by omega) e0) (by omega) rfl (Nat.le_of_ble_eq_true rfl) ?_
  refine r_aload_n (dc_X9_lose 9 rfl) rfl rfl ?_
  refine r_iconst (dc_X9_lose 10 rfl) kiconst_4 ?_
  refine r_iload_n (dc_X9_lose 11 rfl) rfl rfl ?_
  refine r_aload_n (dc_X9_lose 12 rfl) rfl rfl ?_
  obtain ⟨p3, e0, h⟩ := Option.bind_eq_some_iff.mp h
  refine r_getR (dc_X9_lose 13 rfl) fl_RX9_12 e0 ?_
  refine r_iload_n (dc_X9_lose 14 rfl) rfl rfl ?_
  refine r_iload_n (dc_X9_lose 15 rfl) rfl rfl ?_
  refine r_iload_n (dc_X9_lose 16 rfl) rfl rfl ?_
  obtain ⟨x5, s4, e0, h⟩ := wb_some h
  refine r_callV (dc_X9_lose 17 rfl) mv_X8_discard ml_RX9_145 (As := [.int xa1, .int xa2, .int xa3]) (t_X8_discard (d := d - 1) hl (by omega) e0) (by omega) rfl (Nat.le_of_ble_eq_true rfl) ?_
  obtain ⟨x7, s6, e0, h⟩ := wb_some h
  refine r_callV (dc_X9_lose 18 rfl) mv_X9_traced ml_RX9_80 (As := [.int (4 : Int32), .int xa1, .int x5]) (t_X9_traced (d := d - 1) hl (by omega) e0) (by omega) rfl (Nat.le_of_ble_eq_true rfl) ?_
  cases h
  exact r_ireturn (dc_X9_lose 19 rfl) rfl
theorem t_X9_twice {G : Gx} {d : Nat} (hl : G.1.stackTraces = false) (hd : 7 ≤ d) {σ : Sto} {a0 : Nat} {xa1 : Int32} {xa2 : Int32} {xa3 : Int32} {r : ((Int32 ⊕ String) × Sto)} (h : F_X9_twice σ a0 xa1 xa2 xa3 = some r) : Mi G d m_X9_twice 9 a0 [.int xa1, .int xa2, .int xa3] σ (toI r.1) r.2 := by
  rw [F_X9_twice] at h
  obtain ⟨hg, h⟩ := chk_some h
  refine ⟨J.toMt (lo := [(0, .ref a0), (1, .int xa1), (2, .int xa2), (3, .int xa3)]) pn_RX9 rfl hl (Nat.le_of_ble_eq_true rfl) rfl ?_, hg⟩
  refine r_aload_n (dc_X9_twice 0 rfl) rfl rfl ?_
  refine r_iload_n (dc_X9_twice 1 rfl) rfl rfl ?_
  refine r_iload_n (dc_X9_twice 2 rfl) rfl rfl ?_
  rcases tb_some h with ⟨u0, s1, e0, h⟩ | ⟨E0, s1, e0, h⟩
  rotate_left
  · subst h
    exact r_callVX (dc_X9_twice 3 rfl) mv_X9_needTwoSites ml_RX9_117 (As := [.int xa1, .int xa2]) (t_X9_needTwoSites (d := d - 1) hl (by omega) e0) (by omega) rfl (Nat.le_of_ble_eq_true rfl) rfl
  refine r_callV (dc_X9_twice 3 rfl) mv_X9_needTwoSites ml_RX9_117 (As := [.int xa1, .int xa2]) (t_X9_needTwoSites (d := d - 1) hl (by omega) e0) (by omega) rfl (Nat.le_of_ble_eq_true rfl) ?_
  refine r_aload_n (dc_X9_twice 4 rfl) rfl rfl ?_
  refine r_iload_n (dc_X9_twice 5 rfl) rfl rfl ?_
  refine r_iload_n (dc_X9_twice 6 rfl) rfl rfl ?_
  refine r_iload_n (dc_X9_twice 7 rfl) rfl rfl ?_
  rcases tb_some h with ⟨u0, s2, e0, h⟩ | ⟨E0, s2, e0, h⟩
  rotate_left
  · subst h
    exact r_callVX (dc_X9_twice 8 rfl) mv_X9_needLetter ml_RX9_133 (As := [.int xa1, .int xa2, .int xa3]) (t_X9_needLetter (d := d - 1) hl (by omega) e0) (by omega) rfl (Nat.le_of_ble_eq_true rfl) rfl
  refine r_callV (dc_X9_twice 8 rfl) mv_X9_needLetter ml_RX9_133 (As := [.int xa1, .int xa2, .int xa3]) (t_X9_needLetter (d := d - 1) hl (by omega) e0) (by omega) rfl (Nat.le_of_ble_eq_true rfl) ?_
  refine r_aload_n (dc_X9_twice 9 rfl) rfl rfl ?_
  obtain ⟨p3, e0, h⟩ := Option.bind_eq_some_iff.mp h
  refine r_getR (dc_X9_twice 10 rfl) fl_RX9_12 e0 ?_
  refine r_iload_n (dc_X9_twice 11 rfl) rfl rfl ?_
  refine r_iload_n (dc_X9_twice 12 rfl) rfl rfl ?_
  obtain ⟨p4, e0, h⟩ := Option.bind_eq_some_iff.mp h
  refine r_callV (dc_X9_twice 13 rfl) mv_X8_row ml_RX9_148 (As := [.int xa1, .int xa2]) (t_X8_row (d := d - 1) hl (by omega) e0) (by omega) rfl (Nat.le_of_ble_eq_true rfl) ?_
  obtain ⟨x5, e0, h⟩ := Option.bind_eq_some_iff.mp h
  refine r_callV (dc_X9_twice 14 rfl) mv_X4_isFull ml_RX9_152 (As := []) (t_X4_isFull (d := d - 1) hl (by omega) e0) (by omega) rfl (Nat.le_of_ble_eq_true rfl) ?_
  refine r_if_eq (dc_X9_twice 15 rfl) (tgt := 38) (by decide) (fun c0 => ?_) (fun c0 => ?_)
  · rw [if_pos c0] at h
    refine r_aload_n (dc_X9_twice 21 rfl) rfl rfl ?_
    refine r_iconst (dc_X9_twice 22 rfl) kiconst_5 ?_
    refine r_iload_n (dc_X9_twice 23 rfl) rfl rfl ?_
    refine r_aload_n (dc_X9_twice 24 rfl) rfl rfl ?_
    obtain ⟨p6, e0, h⟩ := Option.bind_eq_some_iff.mp h
    refine r_getR (dc_X9_twice 25 rfl) fl_RX9_12 e0 ?_
    refine r_iload_n (dc_X9_twice 26 rfl) rfl rfl ?_
    refine r_iload_n (dc_X9_twice 27 rfl) rfl rfl ?_
    refine r_iload_n (dc_X9_twice 28 rfl) rfl rfl ?_
    obtain ⟨x8, s7, e0, h⟩ := wb_some h
    refine r_callV (dc_X9_twice 29 rfl) mv_X8_repeat ml_RX9_160 (As := [.int xa1, .int xa2, .int xa3]) (t_X8_repeat (d := d - 1) hl (by omega) e0) (by omega) rfl (Nat.le_of_ble_eq_true rfl) ?_
    obtain ⟨x10, s9, e0, h⟩ := wb_some h
    refine r_callV (dc_X9_twice 30 rfl) mv_X9_traced ml_RX9_80 (As := [.int (5 : Int32), .int xa1, .int x8]) (t_X9_traced (d := d - 1) hl (by omega) e0) (by omega) rfl (Nat.le_of_ble_eq_true rfl) ?_
    cases h
    exact r_ireturn (dc_X9_twice 31 rfl) rfl
  · rw [if_neg c0] at h
    cases h
    exact r_throwS tl_RX9_125_129 (str_in 10 rfl) (dc_X9_twice 16 rfl) (dc_X9_twice 17 rfl) (dc_X9_twice 18 rfl) (dc_X9_twice 19 rfl) (dc_X9_twice 20 rfl) rfl (by omega) (Nat.le_of_ble_eq_true rfl)
theorem t_X9_waiting {G : Gx} {d : Nat} (hl : G.1.stackTraces = false) (hd : 7 ≤ d) {σ : Sto} {a0 : Nat} {xa1 : Int32} {xa2 : Int32} {r : ((Int32 ⊕ String) × Sto)} (h : F_X9_waiting σ a0 xa1 xa2 = some r) : Mi G d m_X9_waiting 9 a0 [.int xa1, .int xa2] σ (toI r.1) r.2 := by
  rw [F_X9_waiting] at h
  obtain ⟨hg, h⟩ := chk_some h
  refine ⟨J.toMt (lo := [(0, .ref a0), (1, .int xa1), (2, .int xa2)]) pn_RX9 rfl hl (Nat.le_of_ble_eq_true rfl) rfl ?_, hg⟩
  refine r_aload_n (dc_X9_waiting 0 rfl) rfl rfl ?_
  refine r_iload_n (dc_X9_waiting 1 rfl) rfl rfl ?_
  refine r_iload_n (dc_X9_waiting 2 rfl) rfl rfl ?_
  rcases tb_some h with ⟨u0, s1, e0, h⟩ | ⟨E0, s1, e0, h⟩
  rotate_left
  · subst h
    exact r_callVX (dc_X9_waiting 3 rfl) mv_X9_needTwoSites ml_RX9_117 (As := [.int xa1, .int xa2]) (t_X9_needTwoSites (d := d - 1) hl (by omega) e0) (by omega) rfl (Nat.le_of_ble_eq_true rfl) rfl
  refine r_callV (dc_X9_waiting 3 rfl) mv_X9_needTwoSites ml_RX9_117 (As := [.int xa1, .int xa2]) (t_X9_needTwoSites (d := d - 1) hl (by omega) e0) (by omega) rfl (Nat.le_of_ble_eq_true rfl) ?_
  refine r_aload_n (dc_X9_waiting 4 rfl) rfl rfl ?_
  obtain ⟨p2, e0, h⟩ := Option.bind_eq_some_iff.mp h
  refine r_getR (dc_X9_waiting 5 rfl) fl_RX9_12 e0 ?_
  refine r_iload_n (dc_X9_waiting 6 rfl) rfl rfl ?_
  refine r_iload_n (dc_X9_waiting 7 rfl) rfl rfl ?_
  obtain ⟨p3, e0, h⟩ := Option.bind_eq_some_iff.mp h
  refine r_callV (dc_X9_waiting 8 rfl) mv_X8_row ml_RX9_148 (As := [.int xa1, .int xa2]) (t_X8_row (d := d - 1) hl (by omega) e0) (by omega) rfl (Nat.le_of_ble_eq_true rfl) ?_
  obtain ⟨x4, e0, h⟩ := Option.bind_eq_some_iff.mp h
  refine r_getI (dc_X9_waiting 9 rfl) fl_RX9_163 e0 ?_
  cases h
  exact r_ireturn (dc_X9_waiting 10 rfl) rfl
theorem t_X9_needWhat {G : Gx} {d : Nat} (hl : G.1.stackTraces = false) (hd : 6 ≤ d) {σ : Sto} {a0 : Nat} {xa1 : Int32} {xa2 : Int32} {r : ((Unit ⊕ String) × Sto)} (h : F_X9_needWhat σ a0 xa1 xa2 = some r) : Mi G d m_X9_needWhat 9 a0 [.int xa1, .int xa2] σ (toU r.1) r.2 := by
  rw [F_X9_needWhat] at h
  obtain ⟨hg, h⟩ := chk_some h
  refine ⟨J.toMt (lo := [(0, .ref a0), (1, .int xa1), (2, .int xa2)]) pn_RX9 rfl hl (Nat.le_of_ble_eq_true rfl) rfl ?_, hg⟩
  refine r_iload_n (dc_X9_needWhat 0 rfl) rfl rfl ?_
  refine r_if_lt (dc_X9_needWhat 1 rfl) (tgt := 9) (by decide) (fun c0 => ?_) (fun c0 => ?_)
  · rw [if_pos c0] at h
    cases h
    exact r_throwSW tl_RX9_47_51 (str_in 11 rfl) (dc_X9_needWhat 5 rfl) (dc_X9_needWhat 6 rfl) (dc_X9_needWhat 7 rfl) (dc_X9_needWhat 8 rfl) (dc_X9_needWhat 9 rfl) rfl (by omega) (Nat.le_of_ble_eq_true rfl)
  · rw [if_neg c0] at h
    refine r_iload_n (dc_X9_needWhat 2 rfl) rfl rfl ?_
    refine r_iload_n (dc_X9_needWhat 3 rfl) rfl rfl ?_
    refine r_icmp_lt (dc_X9_needWhat 4 rfl) (tgt := 20) (by decide) (fun c0 => ?_) (fun c0 => ?_)
    · rw [if_pos c0] at h
      cases h
      exact r_vreturn (dc_X9_needWhat 10 rfl) rfl
    · rw [if_neg c0] at h
      cases h
      exact r_throwSW tl_RX9_47_51 (str_in 11 rfl) (dc_X9_needWhat 5 rfl) (dc_X9_needWhat 6 rfl) (dc_X9_needWhat 7 rfl) (dc_X9_needWhat 8 rfl) (dc_X9_needWhat 9 rfl) rfl (by omega) (Nat.le_of_ble_eq_true rfl)
theorem t_X9_letter {G : Gx} {d : Nat} (hl : G.1.stackTraces = false) (hd : 7 ≤ d) {σ : Sto} {a0 : Nat} {xa1 : Int32} {xa2 : Int32} {xa3 : Int32} {xa4 : Int32} {r : ((Int32 ⊕ String) × Sto)} (h : F_X9_letter σ a0 xa1 xa2 xa3 xa4 = some r) : Mi G d m_X9_letter 9 a0 [.int xa1, .int xa2, .int xa3, .int xa4] σ (toI r.1) r.2 := by
  rw [F_X9_letter] at h
  obtain ⟨hg, h⟩ := chk_some h
  refine ⟨J.toMt (lo := [(0, .ref a0), (1, .int xa1), (2, .int xa2), (3, .int xa3), (4, .int xa4)]) pn_RX9 rfl hl (Nat.le_of_ble_eq_true rfl) rfl ?_, hg⟩
  refine r_aload_n (dc_X9_letter 0 rfl) rfl rfl ?_
  refine r_iload_n (dc_X9_letter 1 rfl) rfl rfl ?_
  refine r_iload_n (dc_X9_letter 2 rfl) rfl rfl ?_
  rcases tb_some h with ⟨u0, s1, e0, h⟩ | ⟨E0, s1, e0, h⟩
  rotate_left
  · subst h
    exact r_callVX (dc_X9_letter 3 rfl) mv_X9_needTwoSites ml_RX9_117 (As := [.int xa1, .int xa2]) (t_X9_needTwoSites (d := d - 1) hl (by omega) e0) (by omega) rfl (Nat.le_of_ble_eq_true rfl) rfl
  refine r_callV (dc_X9_letter 3 rfl) mv_X9_needTwoSites ml_RX9_117 (As := [.int xa1, .int xa2]) (t_X9_needTwoSites (d := d - 1) hl (by omega) e0) (by omega) rfl (Nat.le_of_ble_eq_true rfl) ?_
  refine r_aload_n (dc_X9_letter 4 rfl) rfl rfl ?_
  refine r_iload_n (dc_X9_letter 5 rfl) rfl rfl ?_
  refine r_iload_n (dc_X9_letter 6 rfl) rfl rfl ?_
  refine r_iload_n (dc_X9_letter 7 rfl) rfl rfl ?_
  rcases tb_some h with ⟨u0, s2, e0, h⟩ | ⟨E0, s2, e0, h⟩
  rotate_left
  · subst h
    exact r_callVX (dc_X9_letter 8 rfl) mv_X9_needLetter ml_RX9_133 (As := [.int xa1, .int xa2, .int xa3]) (t_X9_needLetter (d := d - 1) hl (by omega) e0) (by omega) rfl (Nat.le_of_ble_eq_true rfl) rfl
  refine r_callV (dc_X9_letter 8 rfl) mv_X9_needLetter ml_RX9_133 (As := [.int xa1, .int xa2, .int xa3]) (t_X9_needLetter (d := d - 1) hl (by omega) e0) (by omega) rfl (Nat.le_of_ble_eq_true rfl) ?_
  refine r_aload_n (dc_X9_letter 9 rfl) rfl rfl ?_
  refine r_iload (dc_X9_letter 10 rfl) rfl ?_
  refine r_iconst (dc_X9_letter 11 rfl) kiconst_3 ?_
  rcases tb_some h with ⟨u0, s3, e0, h⟩ | ⟨E0, s3, e0, h⟩
  rotate_left
  · subst h
    exact r_callVX (dc_X9_letter 12 rfl) mv_X9_needWhat ml_RX9_166 (As := [.int xa4, .int (3 : Int32)]) (t_X9_needWhat (d := d - 1) hl (by omega) e0) (by omega) rfl (Nat.le_of_ble_eq_true rfl) rfl
  refine r_callV (dc_X9_letter 12 rfl) mv_X9_needWhat ml_RX9_166 (As := [.int xa4, .int (3 : Int32)]) (t_X9_needWhat (d := d - 1) hl (by omega) e0) (by omega) rfl (Nat.le_of_ble_eq_true rfl) ?_
  refine r_aload_n (dc_X9_letter 13 rfl) rfl rfl ?_
  obtain ⟨p4, e0, h⟩ := Option.bind_eq_some_iff.mp h
  refine r_getR (dc_X9_letter 14 rfl) fl_RX9_12 e0 ?_
  refine r_iload_n (dc_X9_letter 15 rfl) rfl rfl ?_
  refine r_iload_n (dc_X9_letter 16 rfl) rfl rfl ?_
  obtain ⟨p5, e0, h⟩ := Option.bind_eq_some_iff.mp h
  refine r_callV (dc_X9_letter 17 rfl) mv_X8_row ml_RX9_148 (As := [.int xa1, .int xa2]) (t_X8_row (d := d - 1) hl (by omega) e0) (by omega) rfl (Nat.le_of_ble_eq_true rfl) ?_
  refine r_iload_n (dc_X9_letter 18 rfl) rfl rfl ?_
  obtain ⟨p7, s6, e0, h⟩ := wb_some h
  refine r_callV (dc_X9_letter 19 rfl) mv_X4_at ml_RX9_169 (As := [.int xa3]) (t_X4_at (d := d - 1) hl (by omega) e0) (by omega) rfl (Nat.le_of_ble_eq_true rfl) ?_
  refine r_astore (dc_X9_letter 20 rfl) (by decide) (lo' := [(5, .ref p7), (0, .ref a0), (1, .int xa1), (2, .int xa2), (3, .int xa3), (4, .int xa4)]) rfl ?_
  refine r_iload (dc_X9_letter 21 rfl) rfl ?_
  refine r_if_ne (dc_X9_letter 22 rfl) (tgt := 46) (by decide) (fun c0 => ?_) (fun c0 => ?_)
  · rw [if_neg c0] at h
    refine r_iload (dc_X9_letter 26 rfl) rfl ?_
    refine r_iconst (dc_X9_letter 27 rfl) kiconst_1 ?_
    refine r_icmp_ne (dc_X9_letter 28 rfl) (tgt := 60) (by decide) (fun c0 => ?_) (fun c0 => ?_)
    · rw [if_neg c0] at h
      refine r_aload (dc_X9_letter 32 rfl) rfl ?_
      obtain ⟨p8, e0, h⟩ := Option.bind_eq_some_iff.mp h
      refine r_getR (dc_X9_letter 33 rfl) fl_RX9_177 e0 ?_
      refine r_aload_n (dc_X9_letter 34 rfl) rfl rfl ?_
      obtain ⟨p9, e0, h⟩ := Option.bind_eq_some_iff.mp h
      refine r_getR (dc_X9_letter 35 rfl) fl_RX9_12 e0 ?_
      obtain ⟨p10, e0, h⟩ := Option.bind_eq_some_iff.mp h
      refine r_getR (dc_X9_letter 36 rfl) fl_RX9_94 e0 ?_
      refine r_iload_n (dc_X9_letter 37 rfl) rfl rfl ?_
      obtain ⟨p11, e0, h⟩ := Option.bind_eq_some_iff.mp h
      refine r_aaldR (dc_X9_letter 38 rfl) (kd := 4) rfl e0 ?_
      obtain ⟨p12, e0, h⟩ := Option.bind_eq_some_iff.mp h
      refine r_getR (dc_X9_letter 39 rfl) fl_RX9_180 e0 ?_
      obtain ⟨x13, e0, h⟩ := Option.bind_eq_some_iff.mp h
      refine r_callV (dc_X9_letter 40 rfl) mv_X1_shared ml_RX9_183 (As := [.ref p12]) (t_X1_shared (d := d - 1) hl (by omega) e0) (by omega) rfl (Nat.le_of_ble_eq_true rfl) ?_
      cases h
      exact r_ireturn (dc_X9_letter 41 rfl) rfl
    · rw [if_pos c0] at h
      refine r_aload (dc_X9_letter 29 rfl) rfl ?_
      obtain ⟨x14, e0, h⟩ := Option.bind_eq_some_iff.mp h
      refine r_getI (dc_X9_letter 30 rfl) fl_RX9_176 e0 ?_
      refine r_goto (dc_X9_letter 31 rfl) (tgt := 80) (by decide) ?_
      cases h
      exact r_ireturn (dc_X9_letter 41 rfl) rfl
  · rw [if_pos c0] at h
    refine r_aload (dc_X9_letter 23 rfl) rfl ?_
    obtain ⟨x15, e0, h⟩ := Option.bind_eq_some_iff.mp h
    refine r_getI (dc_X9_letter 24 rfl) fl_RX9_173 e0 ?_
    cases h
    exact r_ireturn (dc_X9_letter 25 rfl) rfl
theorem t_X9_inLetter {G : Gx} {d : Nat} (hl : G.1.stackTraces = false) (hd : 7 ≤ d) {σ : Sto} {a0 : Nat} {xa1 : Int32} {xa2 : Int32} {xa3 : Int32} {xa4 : Int32} {r : ((Int32 ⊕ String) × Sto)} (h : F_X9_inLetter σ a0 xa1 xa2 xa3 xa4 = some r) : Mi G d m_X9_inLetter 9 a0 [.int xa1, .int xa2, .int xa3, .int xa4] σ (toI r.1) r.2 := by
  rw [F_X9_inLetter] at h
  obtain ⟨hg, h⟩ := chk_some h
  refine ⟨J.toMt (lo := [(0, .ref a0), (1, .int xa1), (2, .int xa2), (3, .int xa3), (4, .int xa4)]) pn_RX9 rfl hl (Nat.le_of_ble_eq_true rfl) rfl ?_, hg⟩
  refine r_aload_n (dc_X9_inLetter 0 rfl) rfl rfl ?_
  refine r_iload_n (dc_X9_inLetter 1 rfl) rfl rfl ?_
  refine r_iload_n (dc_X9_inLetter 2 rfl) rfl rfl ?_
  rcases tb_some h with ⟨u0, s1, e0, h⟩ | ⟨E0, s1, e0, h⟩
  rotate_left
  · subst h
    exact r_callVX (dc_X9_inLetter 3 rfl) mv_X9_needTwoSites ml_RX9_117 (As := [.int xa1, .int xa2]) (t_X9_needTwoSites (d := d - 1) hl (by omega) e0) (by omega) rfl (Nat.le_of_ble_eq_true rfl) rfl
  refine r_callV (dc_X9_inLetter 3 rfl) mv_X9_needTwoSites ml_RX9_117 (As := [.int xa1, .int xa2]) (t_X9_needTwoSites (d := d - 1) hl (by omega) e0) (by omega) rfl (Nat.le_of_ble_eq_true rfl) ?_
  refine r_aload_n (dc_X9_inLetter 4 rfl) rfl rfl ?_
  refine r_iload_n (dc_X9_inLetter 5 rfl) rfl rfl ?_
  refine r_iload_n (dc_X9_inLetter 6 rfl) rfl rfl ?_
  refine r_iload_n (dc_X9_inLetter 7 rfl) rfl rfl ?_
  rcases tb_some h with ⟨u0, s2, e0, h⟩ | ⟨E0, s2, e0, h⟩
  rotate_left
  · subst h
    exact r_callVX (dc_X9_inLetter 8 rfl) mv_X9_needLetter ml_RX9_133 (As := [.int xa1, .int xa2, .int xa3]) (t_X9_needLetter (d := d - 1) hl (by omega) e0) (by omega) rfl (Nat.le_of_ble_eq_true rfl) rfl
  refine r_callV (dc_X9_inLetter 8 rfl) mv_X9_needLetter ml_RX9_133 (As := [.int xa1, .int xa2, .int xa3]) (t_X9_needLetter (d := d - 1) hl (by omega) e0) (by omega) rfl (Nat.le_of_ble_eq_true rfl) ?_
  refine r_aload_n (dc_X9_inLetter 9 rfl) rfl rfl ?_
  obtain ⟨p3, e0, h⟩ := Option.bind_eq_some_iff.mp h
  refine r_getR (dc_X9_inLetter 10 rfl) fl_RX9_12 e0 ?_
  refine r_iload_n (dc_X9_inLetter 11 rfl) rfl rfl ?_
  refine r_iload_n (dc_X9_inLetter 12 rfl) rfl rfl ?_
  obtain ⟨p4, e0, h⟩ := Option.bind_eq_some_iff.mp h
  refine r_callV (dc_X9_inLetter 13 rfl) mv_X8_row ml_RX9_148 (As := [.int xa1, .int xa2]) (t_X8_row (d := d - 1) hl (by omega) e0) (by omega) rfl (Nat.le_of_ble_eq_true rfl) ?_
  refine r_iload_n (dc_X9_inLetter 14 rfl) rfl rfl ?_
  obtain ⟨p6, s5, e0, h⟩ := wb_some h
  refine r_callV (dc_X9_inLetter 15 rfl) mv_X4_at ml_RX9_169 (As := [.int xa3]) (t_X4_at (d := d - 1) hl (by omega) e0) (by omega) rfl (Nat.le_of_ble_eq_true rfl) ?_
  refine r_astore (dc_X9_inLetter 16 rfl) (by decide) (lo' := [(5, .ref p6), (0, .ref a0), (1, .int xa1), (2, .int xa2), (3, .int xa3), (4, .int xa4)]) rfl ?_
  refine r_iload (dc_X9_inLetter 17 rfl) rfl ?_
  refine r_if_lt (dc_X9_inLetter 18 rfl) (tgt := 43) (by decide) (fun c0 => ?_) (fun c0 => ?_)
  · rw [if_pos c0] at h
    cases h
    exact r_throwN tl_RX9_109_113 (str_in 12 rfl) (dc_X9_inLetter 23 rfl) (dc_X9_inLetter 24 rfl) (dc_X9_inLetter 25 rfl) (dc_X9_inLetter 26 rfl) (dc_X9_inLetter 27 rfl) rfl (by omega) (Nat.le_of_ble_eq_true rfl)
  · rw [if_neg c0] at h
    refine r_iload (dc_X9_inLetter 19 rfl) rfl ?_
    refine r_aload (dc_X9_inLetter 20 rfl) rfl ?_
    obtain ⟨x7, e0, h⟩ := Option.bind_eq_some_iff.mp h
    refine r_getI (dc_X9_inLetter 21 rfl) fl_RX9_173 e0 ?_
    refine r_icmp_lt (dc_X9_inLetter 22 rfl) (tgt := 53) (by decide) (fun c0 => ?_) (fun c0 => ?_)
    · rw [if_pos c0] at h
      refine r_aload (dc_X9_inLetter 28 rfl) rfl ?_
      obtain ⟨p8, e0, h⟩ := Option.bind_eq_some_iff.mp h
      refine r_getR (dc_X9_inLetter 29 rfl) fl_RX9_189 e0 ?_
      refine r_iload (dc_X9_inLetter 30 rfl) rfl ?_
      obtain ⟨x9, e0, h⟩ := Option.bind_eq_some_iff.mp h
      refine r_iald (dc_X9_inLetter 31 rfl) e0 ?_
      cases h
      exact r_ireturn (dc_X9_inLetter 32 rfl) rfl
    · rw [if_neg c0] at h
      cases h
      exact r_throwN tl_RX9_109_113 (str_in 12 rfl) (dc_X9_inLetter 23 rfl) (dc_X9_inLetter 24 rfl) (dc_X9_inLetter 25 rfl) (dc_X9_inLetter 26 rfl) (dc_X9_inLetter 27 rfl) rfl (by omega) (Nat.le_of_ble_eq_true rfl)
theorem t_X9_save {G : Gx} {d : Nat} (hl : G.1.stackTraces = false) (hd : 7 ≤ d) {σ : Sto} {a0 : Nat} {xa1 : Int32} {r : ((Int32 ⊕ String) × Sto)} (h : F_X9_save σ a0 xa1 = some r) : Mi G d m_X9_save 9 a0 [.int xa1] σ (toI r.1) r.2 := by
  rw [F_X9_save] at h
  obtain ⟨hg, h⟩ := chk_some h
  refine ⟨J.toMt (lo := [(0, .ref a0), (1, .int xa1)]) pn_RX9 rfl hl (Nat.le_of_ble_eq_true rfl) rfl ?_, hg⟩
  refine r_aload_n (dc_X9_save 0 rfl) rfl rfl ?_
  refine r_iload_n (dc_X9_save 1 rfl) rfl rfl ?_
  rcases tb_some h with ⟨u0, s1, e0, h⟩ | ⟨E0, s1, e0, h⟩
  rotate_left
  · subst h
    exact r_callVX (dc_X9_save 2 rfl) mv_X9_needSite ml_RX9_67 (As := [.int xa1]) (t_X9_needSite (d := d - 1) hl (by omega) e0) (by omega) rfl (Nat.le_of_ble_eq_true rfl) rfl
  refine r_callV (dc_X9_save 2 rfl) mv_X9_needSite ml_RX9_67 (As := [.int xa1]) (t_X9_needSite (d := d - 1) hl (by omega) e0) (by omega) rfl (Nat.le_of_ble_eq_true rfl) ?_
  refine r_aload_n (dc_X9_save 3 rfl) rfl rfl ?_
  refine r_bipush (dc_X9_save 4 rfl) kbipush_6 ?_
  refine r_iload_n (dc_X9_save 5 rfl) rfl rfl ?_
  refine r_aload_n (dc_X9_save 6 rfl) rfl rfl ?_
  obtain ⟨p2, e0, h⟩ := Option.bind_eq_some_iff.mp h
  refine r_getR (dc_X9_save 7 rfl) fl_RX9_12 e0 ?_
  refine r_iload_n (dc_X9_save 8 rfl) rfl rfl ?_
  obtain ⟨x4, s3, e0, h⟩ := wb_some h
  refine r_callV (dc_X9_save 9 rfl) mv_X8_store ml_RX9_193 (As := [.int xa1]) (t_X8_store (d := d - 1) hl (by omega) e0) (by omega) rfl (Nat.le_of_ble_eq_true rfl) ?_
  obtain ⟨x6, s5, e0, h⟩ := wb_some h
  refine r_callV (dc_X9_save 10 rfl) mv_X9_traced ml_RX9_80 (As := [.int (6 : Int32), .int xa1, .int x4]) (t_X9_traced (d := d - 1) hl (by omega) e0) (by omega) rfl (Nat.le_of_ble_eq_true rfl) ?_
  cases h
  exact r_ireturn (dc_X9_save 11 rfl) rfl
theorem t_X9_fall {G : Gx} {d : Nat} (hl : G.1.stackTraces = false) (hd : 7 ≤ d) {σ : Sto} {a0 : Nat} {xa1 : Int32} {r : ((Int32 ⊕ String) × Sto)} (h : F_X9_fall σ a0 xa1 = some r) : Mi G d m_X9_fall 9 a0 [.int xa1] σ (toI r.1) r.2 := by
  rw [F_X9_fall] at h
  obtain ⟨hg, h⟩ := chk_some h
  refine ⟨J.toMt (lo := [(0, .ref a0), (1, .int xa1)]) pn_RX9 rfl hl (Nat.le_of_ble_eq_true rfl) rfl ?_, hg⟩
  refine r_aload_n (dc_X9_fall 0 rfl) rfl rfl ?_
  refine r_iload_n (dc_X9_fall 1 rfl) rfl rfl ?_
  rcases tb_some h with ⟨u0, s1, e0, h⟩ | ⟨E0, s1, e0, h⟩
  rotate_left
  · subst h
    exact r_callVX (dc_X9_fall 2 rfl) mv_X9_needSite ml_RX9_67 (As := [.int xa1]) (t_X9_needSite (d := d - 1) hl (by omega) e0) (by omega) rfl (Nat.le_of_ble_eq_true rfl) rfl
  refine r_callV (dc_X9_fall 2 rfl) mv_X9_needSite ml_RX9_67 (As := [.int xa1]) (t_X9_needSite (d := d - 1) hl (by omega) e0) (by omega) rfl (Nat.le_of_ble_eq_true rfl) ?_
  refine r_aload_n (dc_X9_fall 3 rfl) rfl rfl ?_
  refine r_bipush (dc_X9_fall 4 rfl) kbipush_7 ?_
  refine r_iload_n (dc_X9_fall 5 rfl) rfl rfl ?_
  refine r_aload_n (dc_X9_fall 6 rfl) rfl rfl ?_
  obtain ⟨p2, e0, h⟩ := Option.bind_eq_some_iff.mp h
  refine r_getR (dc_X9_fall 7 rfl) fl_RX9_12 e0 ?_
  refine r_iload_n (dc_X9_fall 8 rfl) rfl rfl ?_
  obtain ⟨x4, s3, e0, h⟩ := wb_some h
  refine r_callV (dc_X9_fall 9 rfl) mv_X8_restore ml_RX9_197 (As := [.int xa1]) (t_X8_restore (d := d - 1) hl (by omega) e0) (by omega) rfl (Nat.le_of_ble_eq_true rfl) ?_
  obtain ⟨x6, s5, e0, h⟩ := wb_some h
  refine r_callV (dc_X9_fall 10 rfl) mv_X9_traced ml_RX9_80 (As := [.int (7 : Int32), .int xa1, .int x4]) (t_X9_traced (d := d - 1) hl (by omega) e0) (by omega) rfl (Nat.le_of_ble_eq_true rfl) ?_
  cases h
  exact r_ireturn (dc_X9_fall 11 rfl) rfl
theorem t_X9_join {G : Gx} {d : Nat} (hl : G.1.stackTraces = false) (hd : 7 ≤ d) {σ : Sto} {a0 : Nat} {xa1 : Int32} {xa2 : Int32} {r : ((Int32 ⊕ String) × Sto)} (h : F_X9_join σ a0 xa1 xa2 = some r) : Mi G d m_X9_join 9 a0 [.int xa1, .int xa2] σ (toI r.1) r.2 := by
  rw [F_X9_join] at h
  obtain ⟨hg, h⟩ := chk_some h
  refine ⟨J.toMt (lo := [(0, .ref a0), (1, .int xa1), (2, .int xa2)]) pn_RX9 rfl hl (Nat.le_of_ble_eq_true rfl) rfl ?_, hg⟩
  refine r_aload_n (dc_X9_join 0 rfl) rfl rfl ?_
  refine r_iload_n (dc_X9_join 1 rfl) rfl rfl ?_
  refine r_iload_n (dc_X9_join 2 rfl) rfl rfl ?_
  rcases tb_some h with ⟨u0, s1, e0, h⟩ | ⟨E0, s1, e0, h⟩
  rotate_left
  · subst h
    exact r_callVX (dc_X9_join 3 rfl) mv_X9_needTwoSites ml_RX9_117 (As := [.int xa1, .int xa2]) (t_X9_needTwoSites (d := d - 1) hl (by omega) e0) (by omega) rfl (Nat.le_of_ble_eq_true rfl) rfl
  refine r_callV (dc_X9_join 3 rfl) mv_X9_needTwoSites ml_RX9_117 (As := [.int xa1, .int xa2]) (t_X9_needTwoSites (d := d - 1) hl (by omega) e0) (by omega) rfl (Nat.le_of_ble_eq_true rfl) ?_
  refine r_aload_n (dc_X9_join 4 rfl) rfl rfl ?_
  refine r_bipush (dc_X9_join 5 rfl) kbipush_8 ?_
  refine r_iload_n (dc_X9_join 6 rfl) rfl rfl ?_
  refine r_aload_n (dc_X9_join 7 rfl) rfl rfl ?_
  obtain ⟨p2, e0, h⟩ := Option.bind_eq_some_iff.mp h
  refine r_getR (dc_X9_join 8 rfl) fl_RX9_12 e0 ?_
  refine r_iload_n (dc_X9_join 9 rfl) rfl rfl ?_
  refine r_iload_n (dc_X9_join 10 rfl) rfl rfl ?_
  obtain ⟨x4, s3, e0, h⟩ := wb_some h
  refine r_callV (dc_X9_join 11 rfl) mv_X8_adopt ml_RX9_200 (As := [.int xa1, .int xa2]) (t_X8_adopt (d := d - 1) hl (by omega) e0) (by omega) rfl (Nat.le_of_ble_eq_true rfl) ?_
  obtain ⟨x6, s5, e0, h⟩ := wb_some h
  refine r_callV (dc_X9_join 12 rfl) mv_X9_traced ml_RX9_80 (As := [.int (8 : Int32), .int xa1, .int x4]) (t_X9_traced (d := d - 1) hl (by omega) e0) (by omega) rfl (Nat.le_of_ble_eq_true rfl) ?_
  cases h
  exact r_ireturn (dc_X9_join 13 rfl) rfl
theorem t_X9_draw {G : Gx} {d : Nat} (hl : G.1.stackTraces = false) (hd : 0 ≤ d) {σ : Sto} {a0 : Nat} {xa1 : Int32} {r : (Int32 × Sto)} (h : F_X9_draw σ a0 xa1 = some r) : Mi G d m_X9_draw 9 a0 [.int xa1] σ (.inl (some (.int r.1))) r.2 := by
  rw [F_X9_draw] at h
  obtain ⟨hg, h⟩ := chk_some h
  refine ⟨J.toMt (lo := [(0, .ref a0), (1, .int xa1)]) pn_RX9 rfl hl (Nat.le_of_ble_eq_true rfl) rfl ?_, hg⟩
  refine r_aload_n (dc_X9_draw 0 rfl) rfl rfl ?_
  refine r_ldc2 (dc_X9_draw 1 rfl) ck_RX9_424 ?_
  refine r_aload_n (dc_X9_draw 2 rfl) rfl rfl ?_
  obtain ⟨y1, e0, h⟩ := Option.bind_eq_some_iff.mp h
  refine r_getL (dc_X9_draw 3 rfl) fl_RX9_43 e0 ?_
  refine r_lmul (dc_X9_draw 4 rfl) ?_
  refine r_ldc2 (dc_X9_draw 5 rfl) ck_RX9_426 ?_
  refine r_ladd (dc_X9_draw 6 rfl) ?_
  refine r_ldc2 (dc_X9_draw 7 rfl) ck_RX9_428 ?_
  refine r_land (dc_X9_draw 8 rfl) ?_
  obtain ⟨s2, e0, h⟩ := Option.bind_eq_some_iff.mp h
  refine r_put (dc_X9_draw 9 rfl) pl_RX9_43 rfl e0 ?_
  refine r_iload_n (dc_X9_draw 10 rfl) rfl rfl ?_
  refine r_if_le (dc_X9_draw 11 rfl) (tgt := 38) (by decide) (fun c0 => ?_) (fun c0 => ?_)
  · rw [if_pos c0] at h
    refine r_iconst (dc_X9_draw 21 rfl) kiconst_0 ?_
    cases h
    exact r_ireturn (dc_X9_draw 22 rfl) rfl
  · rw [if_neg c0] at h
    refine r_aload_n (dc_X9_draw 12 rfl) rfl rfl ?_
    obtain ⟨y3, e0, h⟩ := Option.bind_eq_some_iff.mp h
    refine r_getL (dc_X9_draw 13 rfl) fl_RX9_43 e0 ?_
    refine r_bipush (dc_X9_draw 14 rfl) kbipush_6 ?_
    refine r_lshr (dc_X9_draw 15 rfl) ?_
    refine r_iload_n (dc_X9_draw 16 rfl) rfl rfl ?_
    refine r_i2l (dc_X9_draw 17 rfl) ?_
    split at h
    · cases h
    rename_i c0
    refine r_lrem (dc_X9_draw 18 rfl) c0 ?_
    refine r_l2i (dc_X9_draw 19 rfl) ?_
    refine r_goto (dc_X9_draw 20 rfl) (tgt := 39) (by decide) ?_
    cases h
    exact r_ireturn (dc_X9_draw 22 rfl) rfl
theorem t_X9_inByChance {G : Gx} {d : Nat} (hl : G.1.stackTraces = false) (hd : 5 ≤ d) {σ : Sto} {a0 : Nat} {xa1 : Int32} {r : Sto} (h : F_X9_inByChance σ a0 xa1 = some r) : Mi G d m_X9_inByChance 9 a0 [.int xa1] σ (.inl none) r := by
  rw [F_X9_inByChance] at h
  obtain ⟨hg, h⟩ := chk_some h
  refine ⟨J.toMt (lo := [(0, .ref a0), (1, .int xa1)]) pn_RX9 rfl hl (Nat.le_of_ble_eq_true rfl) rfl ?_, hg⟩
  refine r_aload_n (dc_X9_inByChance 0 rfl) rfl rfl ?_
  refine r_bipush (dc_X9_inByChance 1 rfl) kbipush_100 ?_
  obtain ⟨x2, s1, e0, h⟩ := wb_some h
  refine r_callV (dc_X9_inByChance 2 rfl) mv_X9_draw ml_RX9_430 (As := [.int (100 : Int32)]) (t_X9_draw (d := d - 1) hl (by omega) e0) (by omega) rfl (Nat.le_of_ble_eq_true rfl) ?_
  refine r_istore_n (dc_X9_inByChance 3 rfl) rfl (by decide) (lo' := [(2, .int x2), (0, .ref a0), (1, .int xa1)]) rfl ?_
  refine r_aload_n (dc_X9_inByChance 4 rfl) rfl rfl ?_
  obtain ⟨p3, e0, h⟩ := Option.bind_eq_some_iff.mp h
  refine r_getR (dc_X9_inByChance 5 rfl) fl_RX9_12 e0 ?_
  obtain ⟨p4, e0, h⟩ := Option.bind_eq_some_iff.mp h
  refine r_getR (dc_X9_inByChance 6 rfl) fl_RX9_84 e0 ?_
  obtain ⟨x5, e0, h⟩ := Option.bind_eq_some_iff.mp h
  refine r_callV (dc_X9_inByChance 7 rfl) mv_X2_isFull ml_RX9_409 (As := []) (t_X2_isFull (d := d - 1) hl (by omega) e0) (by omega) rfl (Nat.le_of_ble_eq_true rfl) ?_
  refine r_if_ne (dc_X9_inByChance 8 rfl) (tgt := 36) (by decide) (fun c0 => ?_) (fun c0 => ?_)
  · rw [if_neg c0] at h
    cases h
    exact r_vreturn (dc_X9_inByChance 19 rfl) rfl
  · rw [if_pos c0] at h
    refine r_aload_n (dc_X9_inByChance 9 rfl) rfl rfl ?_
    refine r_iconst (dc_X9_inByChance 10 rfl) kiconst_0 ?_
    refine r_iload_n (dc_X9_inByChance 11 rfl) rfl rfl ?_
    refine r_aload_n (dc_X9_inByChance 12 rfl) rfl rfl ?_
    obtain ⟨p6, e0, h⟩ := Option.bind_eq_some_iff.mp h
    refine r_getR (dc_X9_inByChance 13 rfl) fl_RX9_12 e0 ?_
    refine r_iload_n (dc_X9_inByChance 14 rfl) rfl rfl ?_
    refine r_iload_n (dc_X9_inByChance 15 rfl) rfl rfl ?_
    obtain ⟨x8, s7, e0, h⟩ := wb_some h
    refine r_callV (dc_X9_inByChance 16 rfl) mv_X8_bringIn ml_RX9_76 (As := [.int xa1, .int x2]) (t_X8_bringIn (d := d - 1) hl (by omega) e0) (by omega) rfl (Nat.le_of_ble_eq_true rfl) ?_
    obtain ⟨x10, s9, e0, h⟩ := wb_some h
    refine r_callV (dc_X9_inByChance 17 rfl) mv_X9_traced ml_RX9_80 (As := [.int (0 : Int32), .int xa1, .int x8]) (t_X9_traced (d := d - 1) hl (by omega) e0) (by omega) rfl (Nat.le_of_ble_eq_true rfl) ?_
    refine r_pop (dc_X9_inByChance 18 rfl) rfl ?_
    cases h
    exact r_vreturn (dc_X9_inByChance 19 rfl) rfl
theorem t_X9_outByChance {G : Gx} {d : Nat} (hl : G.1.stackTraces = false) (hd : 5 ≤ d) {σ : Sto} {a0 : Nat} {xa1 : Int32} {r : Sto} (h : F_X9_outByChance σ a0 xa1 = some r) : Mi G d m_X9_outByChance 9 a0 [.int xa1] σ (.inl none) r := by
  rw [F_X9_outByChance] at h
  obtain ⟨hg, h⟩ := chk_some h
  refine ⟨J.toMt (lo := [(0, .ref a0), (1, .int xa1)]) pn_RX9 rfl hl (Nat.le_of_ble_eq_true rfl) rfl ?_, hg⟩
  refine r_aload_n (dc_X9_outByChance 0 rfl) rfl rfl ?_
  obtain ⟨p1, e0, h⟩ := Option.bind_eq_some_iff.mp h
  refine r_getR (dc_X9_outByChance 1 rfl) fl_RX9_12 e0 ?_
  obtain ⟨p2, e0, h⟩ := Option.bind_eq_some_iff.mp h
  refine r_getR (dc_X9_outByChance 2 rfl) fl_RX9_94 e0 ?_
  refine r_iload_n (dc_X9_outByChance 3 rfl) rfl rfl ?_
  obtain ⟨p3, e0, h⟩ := Option.bind_eq_some_iff.mp h
  refine r_aaldR (dc_X9_outByChance 4 rfl) (kd := 4) rfl e0 ?_
  obtain ⟨p4, e0, h⟩ := Option.bind_eq_some_iff.mp h
  refine r_getR (dc_X9_outByChance 5 rfl) fl_RX9_98 e0 ?_
  obtain ⟨x5, e0, h⟩ := Option.bind_eq_some_iff.mp h
  refine r_callV (dc_X9_outByChance 6 rfl) mv_X1_size ml_RX9_253 (As := []) (t_X1_size (d := d - 1) hl (by omega) e0) (by omega) rfl (Nat.le_of_ble_eq_true rfl) ?_
  refine r_istore_n (dc_X9_outByChance 7 rfl) rfl (by decide) (lo' := [(2, .int x5), (0, .ref a0), (1, .int xa1)]) rfl ?_
  refine r_iload_n (dc_X9_outByChance 8 rfl) rfl rfl ?_
  refine r_if_ne (dc_X9_outByChance 9 rfl) (tgt := 21) (by decide) (fun c0 => ?_) (fun c0 => ?_)
  · rw [if_neg c0] at h
    refine r_aload_n (dc_X9_outByChance 11 rfl) rfl rfl ?_
    obtain ⟨p6, e0, h⟩ := Option.bind_eq_some_iff.mp h
    refine r_getR (dc_X9_outByChance 12 rfl) fl_RX9_12 e0 ?_
    obtain ⟨p7, e0, h⟩ := Option.bind_eq_some_iff.mp h
    refine r_getR (dc_X9_outByChance 13 rfl) fl_RX9_94 e0 ?_
    refine r_iload_n (dc_X9_outByChance 14 rfl) rfl rfl ?_
    obtain ⟨p8, e0, h⟩ := Option.bind_eq_some_iff.mp h
    refine r_aaldR (dc_X9_outByChance 15 rfl) (kd := 4) rfl e0 ?_
    obtain ⟨p9, e0, h⟩ := Option.bind_eq_some_iff.mp h
    refine r_getR (dc_X9_outByChance 16 rfl) fl_RX9_98 e0 ?_
    refine r_aload_n (dc_X9_outByChance 17 rfl) rfl rfl ?_
    refine r_iload_n (dc_X9_outByChance 18 rfl) rfl rfl ?_
    obtain ⟨x11, s10, e0, h⟩ := wb_some h
    refine r_callV (dc_X9_outByChance 19 rfl) mv_X9_draw ml_RX9_430 (As := [.int x5]) (t_X9_draw (d := d - 1) hl (by omega) e0) (by omega) rfl (Nat.le_of_ble_eq_true rfl) ?_
    obtain ⟨x12, e0, h⟩ := Option.bind_eq_some_iff.mp h
    refine r_callV (dc_X9_outByChance 20 rfl) mv_X1_nth ml_RX9_221 (As := [.int x11]) (t_X1_nth (d := d - 1) hl (by omega) e0) (by omega) rfl (Nat.le_of_ble_eq_true rfl) ?_
    refine r_istore_n (dc_X9_outByChance 21 rfl) rfl (by decide) (lo' := [(3, .int x12), (2, .int x5), (0, .ref a0), (1, .int xa1)]) rfl ?_
    refine r_iload_n (dc_X9_outByChance 22 rfl) rfl rfl ?_
    refine r_iconst (dc_X9_outByChance 23 rfl) kiconst_m1 ?_
    refine r_icmp_eq (dc_X9_outByChance 24 rfl) (tgt := 76) (by decide) (fun c0 => ?_) (fun c0 => ?_)
    · rw [if_pos c0] at h
      cases h
      exact r_vreturn (dc_X9_outByChance 40 rfl) rfl
    · rw [if_neg c0] at h
      refine r_aload_n (dc_X9_outByChance 25 rfl) rfl rfl ?_
      obtain ⟨p13, e0, h⟩ := Option.bind_eq_some_iff.mp h
      refine r_getR (dc_X9_outByChance 26 rfl) fl_RX9_12 e0 ?_
      obtain ⟨p14, e0, h⟩ := Option.bind_eq_some_iff.mp h
      refine r_getR (dc_X9_outByChance 27 rfl) fl_RX9_84 e0 ?_
      obtain ⟨x15, e0, h⟩ := Option.bind_eq_some_iff.mp h
      refine r_callV (dc_X9_outByChance 28 rfl) mv_X2_isFull ml_RX9_409 (As := []) (t_X2_isFull (d := d - 1) hl (by omega) e0) (by omega) rfl (Nat.le_of_ble_eq_true rfl) ?_
      refine r_if_ne (dc_X9_outByChance 29 rfl) (tgt := 76) (by decide) (fun c0 => ?_) (fun c0 => ?_)
      · rw [if_neg c0] at h
        cases h
        exact r_vreturn (dc_X9_outByChance 40 rfl) rfl
      · rw [if_pos c0] at h
        refine r_aload_n (dc_X9_outByChance 30 rfl) rfl rfl ?_
        refine r_iconst (dc_X9_outByChance 31 rfl) kiconst_1 ?_
        refine r_iload_n (dc_X9_outByChance 32 rfl) rfl rfl ?_
        refine r_aload_n (dc_X9_outByChance 33 rfl) rfl rfl ?_
        obtain ⟨p16, e0, h⟩ := Option.bind_eq_some_iff.mp h
        refine r_getR (dc_X9_outByChance 34 rfl) fl_RX9_12 e0 ?_
        refine r_iload_n (dc_X9_outByChance 35 rfl) rfl rfl ?_
        refine r_iload_n (dc_X9_outByChance 36 rfl) rfl rfl ?_
        obtain ⟨x18, s17, e0, h⟩ := wb_some h
        refine r_callV (dc_X9_outByChance 37 rfl) mv_X8_takeOut ml_RX9_114 (As := [.int xa1, .int x12]) (t_X8_takeOut (d := d - 1) hl (by omega) e0) (by omega) rfl (Nat.le_of_ble_eq_true rfl) ?_
        obtain ⟨x20, s19, e0, h⟩ := wb_some h
        refine r_callV (dc_X9_outByChance 38 rfl) mv_X9_traced ml_RX9_80 (As := [.int (1 : Int32), .int xa1, .int x18]) (t_X9_traced (d := d - 1) hl (by omega) e0) (by omega) rfl (Nat.le_of_ble_eq_true rfl) ?_
        refine r_pop (dc_X9_outByChance 39 rfl) rfl ?_
        cases h
        exact r_vreturn (dc_X9_outByChance 40 rfl) rfl
  · rw [if_pos c0] at h
    cases h
    exact r_vreturn (dc_X9_outByChance 10 rfl) rfl
theorem t_X9_letterByChance {G : Gx} {d : Nat} (hl : G.1.stackTraces = false) (hd : 5 ≤ d) {σ : Sto} {a0 : Nat} {xa1 : Int32} {xa2 : Int32} {r : Sto} (h : F_X9_letterByChance σ a0 xa1 xa2 = some r) : Mi G d m_X9_letterByChance 9 a0 [.int xa1, .int xa2] σ (.inl none) r := by
  rw [F_X9_letterByChance] at h
  obtain ⟨hg, h⟩ := chk_some h
  refine ⟨J.toMt (lo := [(0, .ref a0), (1, .int xa1), (2, .int xa2)]) pn_RX9 rfl hl (Nat.le_of_ble_eq_true rfl) rfl ?_, hg⟩
  refine r_aload_n (dc_X9_letterByChance 0 rfl) rfl rfl ?_
  obtain ⟨p1, e0, h⟩ := Option.bind_eq_some_iff.mp h
  refine r_getR (dc_X9_letterByChance 1 rfl) fl_RX9_12 e0 ?_
  refine r_iload_n (dc_X9_letterByChance 2 rfl) rfl rfl ?_
  refine r_iload_n (dc_X9_letterByChance 3 rfl) rfl rfl ?_
  obtain ⟨x2, e0, h⟩ := Option.bind_eq_some_iff.mp h
  refine r_callV (dc_X9_letterByChance 4 rfl) mv_X8_canPost ml_RX9_121 (As := [.int xa1, .int xa2]) (t_X8_canPost (d := d - 1) hl (by omega) e0) (by omega) rfl (Nat.le_of_ble_eq_true rfl) ?_
  refine r_if_eq (dc_X9_letterByChance 5 rfl) (tgt := 28) (by decide) (fun c0 => ?_) (fun c0 => ?_)
  · rw [if_pos c0] at h
    cases h
    exact r_vreturn (dc_X9_letterByChance 16 rfl) rfl
  · rw [if_neg c0] at h
    refine r_aload_n (dc_X9_letterByChance 6 rfl) rfl rfl ?_
    refine r_iconst (dc_X9_letterByChance 7 rfl) kiconst_2 ?_
    refine r_iload_n (dc_X9_letterByChance 8 rfl) rfl rfl ?_
    refine r_aload_n (dc_X9_letterByChance 9 rfl) rfl rfl ?_
    obtain ⟨p3, e0, h⟩ := Option.bind_eq_some_iff.mp h
    refine r_getR (dc_X9_letterByChance 10 rfl) fl_RX9_12 e0 ?_
    refine r_iload_n (dc_X9_letterByChance 11 rfl) rfl rfl ?_
    refine r_iload_n (dc_X9_letterByChance 12 rfl) rfl rfl ?_
    obtain ⟨x5, s4, e0, h⟩ := wb_some h
    refine r_callV (dc_X9_letterByChance 13 rfl) mv_X8_post ml_RX9_130 (As := [.int xa1, .int xa2]) (t_X8_post (d := d - 1) hl (by omega) e0) (by omega) rfl (Nat.le_of_ble_eq_true rfl) ?_
    obtain ⟨x7, s6, e0, h⟩ := wb_some h
    refine r_callV (dc_X9_letterByChance 14 rfl) mv_X9_traced ml_RX9_80 (As := [.int (2 : Int32), .int xa1, .int x5]) (t_X9_traced (d := d - 1) hl (by omega) e0) (by omega) rfl (Nat.le_of_ble_eq_true rfl) ?_
    refine r_pop (dc_X9_letterByChance 15 rfl) rfl ?_
    cases h
    exact r_vreturn (dc_X9_letterByChance 16 rfl) rfl
theorem t_X9_comingByChance {G : Gx} {d : Nat} (hl : G.1.stackTraces = false) (hd : 4 ≤ d) {σ : Sto} {a0 : Nat} {xa1 : Int32} {xa2 : Int32} {r : Sto} (h : F_X9_comingByChance σ a0 xa1 xa2 = some r) : Mi G d m_X9_comingByChance 9 a0 [.int xa1, .int xa2] σ (.inl none) r := by
  rw [F_X9_comingByChance] at h
  obtain ⟨hg, h⟩ := chk_some h
  refine ⟨J.toMt (lo := [(0, .ref a0), (1, .int xa1), (2, .int xa2)]) pn_RX9 rfl hl (Nat.le_of_ble_eq_true rfl) rfl ?_, hg⟩
  refine r_aload_n (dc_X9_comingByChance 0 rfl) rfl rfl ?_
  obtain ⟨p1, e0, h⟩ := Option.bind_eq_some_iff.mp h
  refine r_getR (dc_X9_comingByChance 1 rfl) fl_RX9_12 e0 ?_
  refine r_iload_n (dc_X9_comingByChance 2 rfl) rfl rfl ?_
  refine r_iload_n (dc_X9_comingByChance 3 rfl) rfl rfl ?_
  obtain ⟨p2, e0, h⟩ := Option.bind_eq_some_iff.mp h
  refine r_callV (dc_X9_comingByChance 4 rfl) mv_X8_row ml_RX9_148 (As := [.int xa1, .int xa2]) (t_X8_row (d := d - 1) hl (by omega) e0) (by omega) rfl (Nat.le_of_ble_eq_true rfl) ?_
  obtain ⟨x3, e0, h⟩ := Option.bind_eq_some_iff.mp h
  refine r_getI (dc_X9_comingByChance 5 rfl) fl_RX9_163 e0 ?_
  refine r_istore_n (dc_X9_comingByChance 6 rfl) rfl (by decide) (lo' := [(3, .int x3), (0, .ref a0), (1, .int xa1), (2, .int xa2)]) rfl ?_
  refine r_iload_n (dc_X9_comingByChance 7 rfl) rfl rfl ?_
  refine r_if_ne (dc_X9_comingByChance 8 rfl) (tgt := 18) (by decide) (fun c0 => ?_) (fun c0 => ?_)
  · rw [if_neg c0] at h
    refine r_aload_n (dc_X9_comingByChance 10 rfl) rfl rfl ?_
    refine r_iload_n (dc_X9_comingByChance 11 rfl) rfl rfl ?_
    obtain ⟨x5, s4, e0, h⟩ := wb_some h
    refine r_callV (dc_X9_comingByChance 12 rfl) mv_X9_draw ml_RX9_430 (As := [.int x3]) (t_X9_draw (d := d - 1) hl (by omega) e0) (by omega) rfl (Nat.le_of_ble_eq_true rfl) ?_
    refine r_istore (dc_X9_comingByChance 13 rfl) (by decide) (lo' := [(4, .int x5), (3, .int x3), (0, .ref a0), (1, .int xa1), (2, .int xa2)]) rfl ?_
    refine r_aload_n (dc_X9_comingByChance 14 rfl) rfl rfl ?_
    obtain ⟨p6, e0, h⟩ := Option.bind_eq_some_iff.mp h
    refine r_getR (dc_X9_comingByChance 15 rfl) fl_RX9_12 e0 ?_
    refine r_iload_n (dc_X9_comingByChance 16 rfl) rfl rfl ?_
    refine r_iload_n (dc_X9_comingByChance 17 rfl) rfl rfl ?_
    obtain ⟨x7, e0, h⟩ := Option.bind_eq_some_iff.mp h
    refine r_callV (dc_X9_comingByChance 18 rfl) mv_X8_isCut ml_RX9_137 (As := [.int xa1, .int xa2]) (t_X8_isCut (d := d - 1) hl (by omega) e0) (by omega) rfl (Nat.le_of_ble_eq_true rfl) ?_
    refine r_if_ne (dc_X9_comingByChance 19 rfl) (tgt := 55) (by decide) (fun c0 => ?_) (fun c0 => ?_)
    · rw [if_neg c0] at h
      cases h
      exact r_vreturn (dc_X9_comingByChance 31 rfl) rfl
    · rw [if_pos c0] at h
      refine r_aload_n (dc_X9_comingByChance 20 rfl) rfl rfl ?_
      refine r_iconst (dc_X9_comingByChance 21 rfl) kiconst_3 ?_
      refine r_iload_n (dc_X9_comingByChance 22 rfl) rfl rfl ?_
      refine r_aload_n (dc_X9_comingByChance 23 rfl) rfl rfl ?_
      obtain ⟨p8, e0, h⟩ := Option.bind_eq_some_iff.mp h
      refine r_getR (dc_X9_comingByChance 24 rfl) fl_RX9_12 e0 ?_
      refine r_iload_n (dc_X9_comingByChance 25 rfl) rfl rfl ?_
      refine r_iload_n (dc_X9_comingByChance 26 rfl) rfl rfl ?_
      refine r_iload (dc_X9_comingByChance 27 rfl) rfl ?_
      obtain ⟨x10, s9, e0, h⟩ := wb_some h
      refine r_callV (dc_X9_comingByChance 28 rfl) mv_X8_deliver ml_RX9_142 (As := [.int xa1, .int xa2, .int x5]) (t_X8_deliver (d := d - 1) hl (by omega) e0) (by omega) rfl (Nat.le_of_ble_eq_true rfl) ?_
      obtain ⟨x12, s11, e0, h⟩ := wb_some h
      refine r_callV (dc_X9_comingByChance 29 rfl) mv_X9_traced ml_RX9_80 (As := [.int (3 : Int32), .int xa1, .int x10]) (t_X9_traced (d := d - 1) hl (by omega) e0) (by omega) rfl (Nat.le_of_ble_eq_true rfl) ?_
      refine r_pop (dc_X9_comingByChance 30 rfl) rfl ?_
      cases h
      exact r_vreturn (dc_X9_comingByChance 31 rfl) rfl
  · rw [if_pos c0] at h
    cases h
    exact r_vreturn (dc_X9_comingByChance 9 rfl) rfl
theorem t_X9_doByChance {G : Gx} {d : Nat} (hl : G.1.stackTraces = false) (hd : 6 ≤ d) {σ : Sto} {a0 : Nat} {r : Sto} (h : F_X9_doByChance σ a0 = some r) : Mi G d m_X9_doByChance 9 a0 [] σ (.inl none) r := by
  rw [F_X9_doByChance] at h
  obtain ⟨hg, h⟩ := chk_some h
  refine ⟨J.toMt (lo := [(0, .ref a0)]) pn_RX9 rfl hl (Nat.le_of_ble_eq_true rfl) rfl ?_, hg⟩
  refine r_aload_n (dc_X9_doByChance 0 rfl) rfl rfl ?_
  refine r_bipush (dc_X9_doByChance 1 rfl) kbipush_8 ?_
  obtain ⟨x2, s1, e0, h⟩ := wb_some h
  refine r_callV (dc_X9_doByChance 2 rfl) mv_X9_draw ml_RX9_430 (As := [.int (8 : Int32)]) (t_X9_draw (d := d - 1) hl (by omega) e0) (by omega) rfl (Nat.le_of_ble_eq_true rfl) ?_
  refine r_istore_n (dc_X9_doByChance 3 rfl) rfl (by decide) (lo' := [(1, .int x2), (0, .ref a0)]) rfl ?_
  refine r_aload_n (dc_X9_doByChance 4 rfl) rfl rfl ?_
  refine r_aload_n (dc_X9_doByChance 5 rfl) rfl rfl ?_
  obtain ⟨p3, e0, h⟩ := Option.bind_eq_some_iff.mp h
  refine r_getR (dc_X9_doByChance 6 rfl) fl_RX9_12 e0 ?_
  obtain ⟨x4, e0, h⟩ := Option.bind_eq_some_iff.mp h
  refine r_getI (dc_X9_doByChance 7 rfl) fl_RX9_330 e0 ?_
  obtain ⟨x6, s5, e0, h⟩ := wb_some h
  refine r_callV (dc_X9_doByChance 8 rfl) mv_X9_draw ml_RX9_430 (As := [.int x4]) (t_X9_draw (d := d - 1) hl (by omega) e0) (by omega) rfl (Nat.le_of_ble_eq_true rfl) ?_
  refine r_istore_n (dc_X9_doByChance 9 rfl) rfl (by decide) (lo' := [(2, .int x6), (1, .int x2), (0, .ref a0)]) rfl ?_
  refine r_iload_n (dc_X9_doByChance 10 rfl) rfl rfl ?_
  refine r_iconst (dc_X9_doByChance 11 rfl) kiconst_1 ?_
  refine r_icmp_gt (dc_X9_doByChance 12 rfl) (tgt := 30) (by decide) (fun c0 => ?_) (fun c0 => ?_)
  · rw [if_pos c0] at h
    refine r_iload_n (dc_X9_doByChance 17 rfl) rfl rfl ?_
    refine r_iconst (dc_X9_doByChance 18 rfl) kiconst_2 ?_
    refine r_icmp_ne (dc_X9_doByChance 19 rfl) (tgt := 41) (by decide) (fun c0 => ?_) (fun c0 => ?_)
    · rw [if_neg c0] at h
      refine r_aload_n (dc_X9_doByChance 24 rfl) rfl rfl ?_
      refine r_aload_n (dc_X9_doByChance 25 rfl) rfl rfl ?_
      obtain ⟨p7, e0, h⟩ := Option.bind_eq_some_iff.mp h
      refine r_getR (dc_X9_doByChance 26 rfl) fl_RX9_12 e0 ?_
      obtain ⟨x8, e0, h⟩ := Option.bind_eq_some_iff.mp h
      refine r_getI (dc_X9_doByChance 27 rfl) fl_RX9_330 e0 ?_
      obtain ⟨x10, s9, e0, h⟩ := wb_some h
      refine r_callV (dc_X9_doByChance 28 rfl) mv_X9_draw ml_RX9_430 (As := [.int x8]) (t_X9_draw (d := d - 1) hl (by omega) e0) (by omega) rfl (Nat.le_of_ble_eq_true rfl) ?_
      refine r_istore_n (dc_X9_doByChance 29 rfl) rfl (by decide) (lo' := [(3, .int x10), (2, .int x6), (1, .int x2), (0, .ref a0)]) rfl ?_
      refine r_iload_n (dc_X9_doByChance 30 rfl) rfl rfl ?_
      refine r_iload_n (dc_X9_doByChance 31 rfl) rfl rfl ?_
      refine jn_elim h (Q := fun (j : Int32 → Option Sto) => ∀ (x12 : Int32), j x12 = some r → J G d m_X9_doByChance 67 [(0, .ref a0), (1, .int x2), (2, .int x6), (3, .int x12)] [] s9 (.inl none) r) ?_ (fun j11 hj11 h => ?_)
      · intro x12 h
        refine r_iload_n (dc_X9_doByChance 38 rfl) rfl rfl ?_
        refine r_iconst (dc_X9_doByChance 39 rfl) kiconst_5 ?_
        refine r_icmp_gt (dc_X9_doByChance 40 rfl) (tgt := 81) (by decide) (fun c0 => ?_) (fun c0 => ?_)
        · rw [if_pos c0] at h
          refine r_aload_n (dc_X9_doByChance 46 rfl) rfl rfl ?_
          refine r_iload_n (dc_X9_doByChance 47 rfl) rfl rfl ?_
          refine r_iload_n (dc_X9_doByChance 48 rfl) rfl rfl ?_
          obtain ⟨s13, e0, h⟩ := Option.bind_eq_some_iff.mp h
          refine r_callV (dc_X9_doByChance 49 rfl) mv_X9_comingByChance ml_RX9_445 (As := [.int x6, .int x12]) (t_X9_comingByChance (d := d - 1) hl (by omega) e0) (by omega) rfl (Nat.le_of_ble_eq_true rfl) ?_
          cases h
          exact r_vreturn (dc_X9_doByChance 50 rfl) rfl
        · rw [if_neg c0] at h
          refine r_aload_n (dc_X9_doByChance 41 rfl) rfl rfl ?_
          refine r_iload_n (dc_X9_doByChance 42 rfl) rfl rfl ?_
          refine r_iload_n (dc_X9_doByChance 43 rfl) rfl rfl ?_
          obtain ⟨s14, e0, h⟩ := Option.bind_eq_some_iff.mp h
          refine r_callV (dc_X9_doByChance 44 rfl) mv_X9_letterByChance ml_RX9_442 (As := [.int x6, .int x12]) (t_X9_letterByChance (d := d - 1) hl (by omega) e0) (by omega) rfl (Nat.le_of_ble_eq_true rfl) ?_
          refine r_goto (dc_X9_doByChance 45 rfl) (tgt := 87) (by decide) ?_
          cases h
          exact r_vreturn (dc_X9_doByChance 50 rfl) rfl
      refine r_icmp_ne (dc_X9_doByChance 32 rfl) (tgt := 67) (by decide) (fun c0 => ?_) (fun c0 => ?_)
      · rw [if_neg c0] at h
        refine r_pick [3, 2, 1, 0] (lo' := [(0, .ref a0), (1, .int x2), (2, .int x6), (3, .int x10)]) rfl ?_
        exact hj11 _ h
      · rw [if_pos c0] at h
        refine r_aload_n (dc_X9_doByChance 33 rfl) rfl rfl ?_
        obtain ⟨p15, e0, h⟩ := Option.bind_eq_some_iff.mp h
        refine r_getR (dc_X9_doByChance 34 rfl) fl_RX9_12 e0 ?_
        refine r_iload_n (dc_X9_doByChance 35 rfl) rfl rfl ?_
        obtain ⟨x16, e0, h⟩ := Option.bind_eq_some_iff.mp h
        refine r_callV (dc_X9_doByChance 36 rfl) mv_X8_nextSite ml_RX9_439 (As := [.int x6]) (t_X8_nextSite (d := d - 1) hl (by omega) e0) (by omega) rfl (Nat.le_of_ble_eq_true rfl) ?_
        refine r_istore_n (dc_X9_doByChance 37 rfl) rfl (by decide) (lo' := [(3, .int x16), (2, .int x6), (1, .int x2), (0, .ref a0)]) rfl ?_
        refine r_pick [3, 2, 1, 0] (lo' := [(0, .ref a0), (1, .int x2), (2, .int x6), (3, .int x16)]) rfl ?_
        exact hj11 _ h
    · rw [if_pos c0] at h
      refine r_aload_n (dc_X9_doByChance 20 rfl) rfl rfl ?_
      refine r_iload_n (dc_X9_doByChance 21 rfl) rfl rfl ?_
      obtain ⟨s17, e0, h⟩ := Option.bind_eq_some_iff.mp h
      refine r_callV (dc_X9_doByChance 22 rfl) mv_X9_outByChance ml_RX9_436 (As := [.int x6]) (t_X9_outByChance (d := d - 1) hl (by omega) e0) (by omega) rfl (Nat.le_of_ble_eq_true rfl) ?_
      cases h
      exact r_vreturn (dc_X9_doByChance 23 rfl) rfl
  · rw [if_neg c0] at h
    refine r_aload_n (dc_X9_doByChance 13 rfl) rfl rfl ?_
    refine r_iload_n (dc_X9_doByChance 14 rfl) rfl rfl ?_
    obtain ⟨s18, e0, h⟩ := Option.bind_eq_some_iff.mp h
    refine r_callV (dc_X9_doByChance 15 rfl) mv_X9_inByChance ml_RX9_433 (As := [.int x6]) (t_X9_inByChance (d := d - 1) hl (by omega) e0) (by omega) rfl (Nat.le_of_ble_eq_true rfl) ?_
    cases h
    exact r_vreturn (dc_X9_doByChance 16 rfl) rfl
theorem l_X9_chance_L44 {G : Gx} {d : Nat} (hl : G.1.stackTraces = false) (hd : 7 ≤ d) {pL0 : Nat} {xL2 : Int32} {xL3 : Int32} {r : ((Int32 ⊕ String) × Sto)} {k60 : Sto → Option ((Int32 ⊕ String) × Sto)}
    (hk60 : ∀ (sL : Sto), k60 sL = some r → J G d m_X9_chance 60 [(0, .ref pL0), (3, .int xL3)] [] sL (toI r.1) r.2)
  : ∀ (f : Nat) (xL4 : Int32) (sL : Sto), F_X9_chance_L44 pL0 xL2 f xL4 sL k60 = some r → J G d m_X9_chance 44 [(0, .ref pL0), (2, .int xL2), (3, .int xL3), (4, .int xL4)] [] sL (toI r.1) r.2 := by
  intro f
  induction f with
  | zero => intro xL4 sL h; rw [F_X9_chance_L44] at h; cases h
  | succ f ih =>
    intro xL4 sL h
    rw [F_X9_chance_L44] at h
    refine r_iload (dc_X9_chance 23 rfl) rfl ?_
    refine r_iload_n (dc_X9_chance 24 rfl) rfl rfl ?_
    refine r_icmp_ge (dc_X9_chance 25 rfl) (tgt := 60) (by decide) (fun c0 => ?_) (fun c0 => ?_)
    · rw [if_pos c0] at h
      refine r_pick [0, 2] (lo' := [(0, .ref pL0), (3, .int xL3)]) rfl ?_
      exact hk60 _ h
    · rw [if_neg c0] at h
      refine r_aload_n (dc_X9_chance 26 rfl) rfl rfl ?_
      obtain ⟨s5, e0, h⟩ := Option.bind_eq_some_iff.mp h
      refine r_callV (dc_X9_chance 27 rfl) mv_X9_doByChance ml_RX9_206 (As := []) (t_X9_doByChance (d := d - 1) hl (by omega) e0) (by omega) rfl (Nat.le_of_ble_eq_true rfl) ?_
      refine r_iinc (dc_X9_chance 28 rfl) rfl (kinc_1 _) (by decide) (lo' := [(4, .int (xL4 + (1 : Int32))), (0, .ref pL0), (2, .int xL2), (3, .int xL3)]) rfl ?_
      refine r_goto (dc_X9_chance 29 rfl) (tgt := 44) (by decide) ?_
      refine r_pick [1, 2, 3, 0] (lo' := [(0, .ref pL0), (2, .int xL2), (3, .int xL3), (4, .int (xL4 + (1 : Int32)))]) rfl ?_
      exact ih _ _ h
theorem t_X9_chance {G : Gx} {d : Nat} (hl : G.1.stackTraces = false) (hd : 7 ≤ d) {σ : Sto} {a0 : Nat} {xa1 : Int32} {xa2 : Int32} {r : ((Int32 ⊕ String) × Sto)} (h : F_X9_chance σ a0 xa1 xa2 = some r) : Mi G d m_X9_chance 9 a0 [.int xa1, .int xa2] σ (toI r.1) r.2 := by
  rw [F_X9_chance] at h
  obtain ⟨hg, h⟩ := chk_some h
  refine ⟨J.toMt (lo := [(0, .ref a0), (1, .int xa1), (2, .int xa2)]) pn_RX9 rfl hl (Nat.le_of_ble_eq_true rfl) rfl ?_, hg⟩
  refine r_iload_n (dc_X9_chance 0 rfl) rfl rfl ?_
  refine r_if_lt (dc_X9_chance 1 rfl) (tgt := 14) (by decide) (fun c0 => ?_) (fun c0 => ?_)
  · rw [if_pos c0] at h
    cases h
    exact r_throwS tl_RX9_47_51 (str_in 13 rfl) (dc_X9_chance 7 rfl) (dc_X9_chance 8 rfl) (dc_X9_chance 9 rfl) (dc_X9_chance 10 rfl) (dc_X9_chance 11 rfl) rfl (by omega) (Nat.le_of_ble_eq_true rfl)
  · rw [if_neg c0] at h
    refine r_iload_n (dc_X9_chance 2 rfl) rfl rfl ?_
    refine r_if_lt (dc_X9_chance 3 rfl) (tgt := 14) (by decide) (fun c0 => ?_) (fun c0 => ?_)
    · rw [if_pos c0] at h
      cases h
      exact r_throwS tl_RX9_47_51 (str_in 13 rfl) (dc_X9_chance 7 rfl) (dc_X9_chance 8 rfl) (dc_X9_chance 9 rfl) (dc_X9_chance 10 rfl) (dc_X9_chance 11 rfl) rfl (by omega) (Nat.le_of_ble_eq_true rfl)
    · rw [if_neg c0] at h
      refine r_iload_n (dc_X9_chance 4 rfl) rfl rfl ?_
      refine r_bipush (dc_X9_chance 5 rfl) kbipush_60 ?_
      refine r_icmp_le (dc_X9_chance 6 rfl) (tgt := 24) (by decide) (fun c0 => ?_) (fun c0 => ?_)
      · rw [if_pos c0] at h
        refine r_aload_n (dc_X9_chance 12 rfl) rfl rfl ?_
        refine r_iload_n (dc_X9_chance 13 rfl) rfl rfl ?_
        refine r_i2l (dc_X9_chance 14 rfl) ?_
        obtain ⟨s1, e0, h⟩ := Option.bind_eq_some_iff.mp h
        refine r_put (dc_X9_chance 15 rfl) pl_RX9_43 rfl e0 ?_
        refine r_aload_n (dc_X9_chance 16 rfl) rfl rfl ?_
        obtain ⟨p2, e0, h⟩ := Option.bind_eq_some_iff.mp h
        refine r_getR (dc_X9_chance 17 rfl) fl_RX9_12 e0 ?_
        obtain ⟨p3, e0, h⟩ := Option.bind_eq_some_iff.mp h
        refine r_getR (dc_X9_chance 18 rfl) fl_RX9_84 e0 ?_
        obtain ⟨x4, e0, h⟩ := Option.bind_eq_some_iff.mp h
        refine r_getI (dc_X9_chance 19 rfl) fl_RX9_205 e0 ?_
        refine r_istore_n (dc_X9_chance 20 rfl) rfl (by decide) (lo' := [(3, .int x4), (0, .ref a0), (1, .int xa1), (2, .int xa2)]) rfl ?_
        refine r_iconst (dc_X9_chance 21 rfl) kiconst_0 ?_
        refine r_istore (dc_X9_chance 22 rfl) (by decide) (lo' := [(4, .int (0 : Int32)), (3, .int x4), (0, .ref a0), (1, .int xa1), (2, .int xa2)]) rfl ?_
        refine r_pick [2, 4, 1, 0] (lo' := [(0, .ref a0), (2, .int xa2), (3, .int x4), (4, .int (0 : Int32))]) rfl ?_
        refine l_X9_chance_L44 hl hd (hk60 := ?_) fu _ _ h
        · intro s6 h
          refine r_aload_n (dc_X9_chance 30 rfl) rfl rfl ?_
          obtain ⟨p7, e0, h⟩ := Option.bind_eq_some_iff.mp h
          refine r_getR (dc_X9_chance 31 rfl) fl_RX9_12 e0 ?_
          obtain ⟨p8, e0, h⟩ := Option.bind_eq_some_iff.mp h
          refine r_getR (dc_X9_chance 32 rfl) fl_RX9_84 e0 ?_
          obtain ⟨x9, e0, h⟩ := Option.bind_eq_some_iff.mp h
          refine r_getI (dc_X9_chance 33 rfl) fl_RX9_205 e0 ?_
          refine r_iload_n (dc_X9_chance 34 rfl) rfl rfl ?_
          refine r_isub (dc_X9_chance 35 rfl) ?_
          cases h
          exact r_ireturn (dc_X9_chance 36 rfl) rfl
      · rw [if_neg c0] at h
        cases h
        exact r_throwS tl_RX9_47_51 (str_in 13 rfl) (dc_X9_chance 7 rfl) (dc_X9_chance 8 rfl) (dc_X9_chance 9 rfl) (dc_X9_chance 10 rfl) (dc_X9_chance 11 rfl) rfl (by omega) (Nat.le_of_ble_eq_true rfl)
theorem t_X9_needImage {G : Gx} {d : Nat} (hl : G.1.stackTraces = false) (hd : 6 ≤ d) {σ : Sto} {a0 : Nat} {xa1 : Int32} {r : ((Unit ⊕ String) × Sto)} (h : F_X9_needImage σ a0 xa1 = some r) : Mi G d m_X9_needImage 9 a0 [.int xa1] σ (toU r.1) r.2 := by
  rw [F_X9_needImage] at h
  obtain ⟨hg, h⟩ := chk_some h
  refine ⟨J.toMt (lo := [(0, .ref a0), (1, .int xa1)]) pn_RX9 rfl hl (Nat.le_of_ble_eq_true rfl) rfl ?_, hg⟩
  refine r_iload_n (dc_X9_needImage 0 rfl) rfl rfl ?_
  refine r_if_lt (dc_X9_needImage 1 rfl) (tgt := 9) (by decide) (fun c0 => ?_) (fun c0 => ?_)
  · rw [if_pos c0] at h
    cases h
    exact r_throwSW tl_RX9_47_51 (str_in 14 rfl) (dc_X9_needImage 5 rfl) (dc_X9_needImage 6 rfl) (dc_X9_needImage 7 rfl) (dc_X9_needImage 8 rfl) (dc_X9_needImage 9 rfl) rfl (by omega) (Nat.le_of_ble_eq_true rfl)
  · rw [if_neg c0] at h
    refine r_iload_n (dc_X9_needImage 2 rfl) rfl rfl ?_
    refine r_iconst (dc_X9_needImage 3 rfl) kiconst_2 ?_
    refine r_icmp_lt (dc_X9_needImage 4 rfl) (tgt := 20) (by decide) (fun c0 => ?_) (fun c0 => ?_)
    · rw [if_pos c0] at h
      cases h
      exact r_vreturn (dc_X9_needImage 10 rfl) rfl
    · rw [if_neg c0] at h
      cases h
      exact r_throwSW tl_RX9_47_51 (str_in 14 rfl) (dc_X9_needImage 5 rfl) (dc_X9_needImage 6 rfl) (dc_X9_needImage 7 rfl) (dc_X9_needImage 8 rfl) (dc_X9_needImage 9 rfl) rfl (by omega) (Nat.le_of_ble_eq_true rfl)
theorem t_X9_keep {G : Gx} {d : Nat} (hl : G.1.stackTraces = false) (hd : 7 ≤ d) {σ : Sto} {a0 : Nat} {xa1 : Int32} {r : ((Int32 ⊕ String) × Sto)} (h : F_X9_keep σ a0 xa1 = some r) : Mi G d m_X9_keep 9 a0 [.int xa1] σ (toI r.1) r.2 := by
  rw [F_X9_keep] at h
  obtain ⟨hg, h⟩ := chk_some h
  refine ⟨J.toMt (lo := [(0, .ref a0), (1, .int xa1)]) pn_RX9 rfl hl (Nat.le_of_ble_eq_true rfl) rfl ?_, hg⟩
  refine r_aload_n (dc_X9_keep 0 rfl) rfl rfl ?_
  refine r_iload_n (dc_X9_keep 1 rfl) rfl rfl ?_
  rcases tb_some h with ⟨u0, s1, e0, h⟩ | ⟨E0, s1, e0, h⟩
  rotate_left
  · subst h
    exact r_callVX (dc_X9_keep 2 rfl) mv_X9_needImage ml_RX9_209 (As := [.int xa1]) (t_X9_needImage (d := d - 1) hl (by omega) e0) (by omega) rfl (Nat.le_of_ble_eq_true rfl) rfl
  refine r_callV (dc_X9_keep 2 rfl) mv_X9_needImage ml_RX9_209 (As := [.int xa1]) (t_X9_needImage (d := d - 1) hl (by omega) e0) (by omega) rfl (Nat.le_of_ble_eq_true rfl) ?_
  refine r_aload_n (dc_X9_keep 3 rfl) rfl rfl ?_
  obtain ⟨p2, e0, h⟩ := Option.bind_eq_some_iff.mp h
  refine r_getR (dc_X9_keep 4 rfl) fl_RX9_16 e0 ?_
  refine r_iload_n (dc_X9_keep 5 rfl) rfl rfl ?_
  obtain ⟨p3, e0, h⟩ := Option.bind_eq_some_iff.mp h
  refine r_aald (dc_X9_keep 6 rfl) (kd := 7) rfl e0 ?_
  cases p3 with
  | none =>
    simp only [oe] at h
    refine r_astore_nN (dc_X9_keep 7 rfl) rfl (by decide) (lo' := [(2, .null), (0, .ref a0), (1, .int xa1)]) rfl ?_
    refine r_aload_nN (dc_X9_keep 8 rfl) rfl rfl ?_
    refine r_ifnonnullN (dc_X9_keep 9 rfl) ?_
    obtain ⟨p6, s5, ev, es, h⟩ := nw_some h
    refine r_new (dc_X9_keep 10 rfl) nl_RX9_9 ?_
    rw [← ev, ← es]
    refine r_dup (dc_X9_keep 11 rfl) rfl ?_
    obtain ⟨s7, e0, h⟩ := Option.bind_eq_some_iff.mp h
    refine r_callI (dc_X9_keep 12 rfl) mi_X8_init ml_RX9_11 (As := []) (t_X8_init (d := d - 1) hl (by omega) e0) (by omega) rfl (Nat.le_of_ble_eq_true rfl) ?_
    refine r_astore_n (dc_X9_keep 13 rfl) rfl (by decide) (lo' := [(2, .ref p6), (0, .ref a0), (1, .int xa1)]) rfl ?_
    refine r_aload_n (dc_X9_keep 14 rfl) rfl rfl ?_
    obtain ⟨p8, e0, h⟩ := Option.bind_eq_some_iff.mp h
    refine r_getR (dc_X9_keep 15 rfl) fl_RX9_16 e0 ?_
    refine r_iload_n (dc_X9_keep 16 rfl) rfl rfl ?_
    refine r_aload_n (dc_X9_keep 17 rfl) rfl rfl ?_
    obtain ⟨s9, e0, h⟩ := Option.bind_eq_some_iff.mp h
    refine r_aast (dc_X9_keep 18 rfl) (kd := 7) rfl rfl e0 ?_
    refine r_aload_n (dc_X9_keep 19 rfl) rfl rfl ?_
    refine r_aload_n (dc_X9_keep 20 rfl) rfl rfl ?_
    obtain ⟨p10, e0, h⟩ := Option.bind_eq_some_iff.mp h
    refine r_getR (dc_X9_keep 21 rfl) fl_RX9_12 e0 ?_
    obtain ⟨s11, e0, h⟩ := Option.bind_eq_some_iff.mp h
    refine r_callV (dc_X9_keep 22 rfl) mv_X8_copyOf ml_RX9_212 (As := [.ref p10]) (t_X8_copyOf (d := d - 1) hl (by omega) e0) (by omega) rfl (Nat.le_of_ble_eq_true rfl) ?_
    refine r_aload_n (dc_X9_keep 23 rfl) rfl rfl ?_
    obtain ⟨p12, e0, h⟩ := Option.bind_eq_some_iff.mp h
    refine r_getR (dc_X9_keep 24 rfl) fl_RX9_12 e0 ?_
    obtain ⟨p13, e0, h⟩ := Option.bind_eq_some_iff.mp h
    refine r_getR (dc_X9_keep 25 rfl) fl_RX9_84 e0 ?_
    obtain ⟨x14, e0, h⟩ := Option.bind_eq_some_iff.mp h
    refine r_getI (dc_X9_keep 26 rfl) fl_RX9_205 e0 ?_
    cases h
    exact r_ireturn (dc_X9_keep 27 rfl) rfl
  | some p4 =>
    simp only [oe] at h
    refine r_astore_n (dc_X9_keep 7 rfl) rfl (by decide) (lo' := [(2, .ref p4), (0, .ref a0), (1, .int xa1)]) rfl ?_
    refine r_aload_n (dc_X9_keep 8 rfl) rfl rfl ?_
    refine r_ifnonnull (dc_X9_keep 9 rfl) (tgt := 31) (by decide) ?_
    refine r_aload_n (dc_X9_keep 19 rfl) rfl rfl ?_
    refine r_aload_n (dc_X9_keep 20 rfl) rfl rfl ?_
    obtain ⟨p15, e0, h⟩ := Option.bind_eq_some_iff.mp h
    refine r_getR (dc_X9_keep 21 rfl) fl_RX9_12 e0 ?_
    obtain ⟨s16, e0, h⟩ := Option.bind_eq_some_iff.mp h
    refine r_callV (dc_X9_keep 22 rfl) mv_X8_copyOf ml_RX9_212 (As := [.ref p15]) (t_X8_copyOf (d := d - 1) hl (by omega) e0) (by omega) rfl (Nat.le_of_ble_eq_true rfl) ?_
    refine r_aload_n (dc_X9_keep 23 rfl) rfl rfl ?_
    obtain ⟨p17, e0, h⟩ := Option.bind_eq_some_iff.mp h
    refine r_getR (dc_X9_keep 24 rfl) fl_RX9_12 e0 ?_
    obtain ⟨p18, e0, h⟩ := Option.bind_eq_some_iff.mp h
    refine r_getR (dc_X9_keep 25 rfl) fl_RX9_84 e0 ?_
    obtain ⟨x19, e0, h⟩ := Option.bind_eq_some_iff.mp h
    refine r_getI (dc_X9_keep 26 rfl) fl_RX9_205 e0 ?_
    cases h
    exact r_ireturn (dc_X9_keep 27 rfl) rfl
theorem t_X9_back {G : Gx} {d : Nat} (hl : G.1.stackTraces = false) (hd : 7 ≤ d) {σ : Sto} {a0 : Nat} {xa1 : Int32} {r : ((Int32 ⊕ String) × Sto)} (h : F_X9_back σ a0 xa1 = some r) : Mi G d m_X9_back 9 a0 [.int xa1] σ (toI r.1) r.2 := by
  rw [F_X9_back] at h
  obtain ⟨hg, h⟩ := chk_some h
  refine ⟨J.toMt (lo := [(0, .ref a0), (1, .int xa1)]) pn_RX9 rfl hl (Nat.le_of_ble_eq_true rfl) rfl ?_, hg⟩
  refine r_aload_n (dc_X9_back 0 rfl) rfl rfl ?_
  refine r_iload_n (dc_X9_back 1 rfl) rfl rfl ?_
  rcases tb_some h with ⟨u0, s1, e0, h⟩ | ⟨E0, s1, e0, h⟩
  rotate_left
  · subst h
    exact r_callVX (dc_X9_back 2 rfl) mv_X9_needImage ml_RX9_209 (As := [.int xa1]) (t_X9_needImage (d := d - 1) hl (by omega) e0) (by omega) rfl (Nat.le_of_ble_eq_true rfl) rfl
  refine r_callV (dc_X9_back 2 rfl) mv_X9_needImage ml_RX9_209 (As := [.int xa1]) (t_X9_needImage (d := d - 1) hl (by omega) e0) (by omega) rfl (Nat.le_of_ble_eq_true rfl) ?_
  refine r_aload_n (dc_X9_back 3 rfl) rfl rfl ?_
  obtain ⟨p2, e0, h⟩ := Option.bind_eq_some_iff.mp h
  refine r_getR (dc_X9_back 4 rfl) fl_RX9_16 e0 ?_
  refine r_iload_n (dc_X9_back 5 rfl) rfl rfl ?_
  obtain ⟨p3, e0, h⟩ := Option.bind_eq_some_iff.mp h
  refine r_aald (dc_X9_back 6 rfl) (kd := 7) rfl e0 ?_
  cases p3 with
  | none =>
    simp only [oe] at h
    refine r_astore_nN (dc_X9_back 7 rfl) rfl (by decide) (lo' := [(2, .null), (0, .ref a0), (1, .int xa1)]) rfl ?_
    refine r_aload_nN (dc_X9_back 8 rfl) rfl rfl ?_
    refine r_ifnonnullN (dc_X9_back 9 rfl) ?_
    cases h
    exact r_throwN tl_RX9_109_113 (str_in 15 rfl) (dc_X9_back 10 rfl) (dc_X9_back 11 rfl) (dc_X9_back 12 rfl) (dc_X9_back 13 rfl) (dc_X9_back 14 rfl) rfl (by omega) (Nat.le_of_ble_eq_true rfl)
  | some p4 =>
    simp only [oe] at h
    refine r_astore_n (dc_X9_back 7 rfl) rfl (by decide) (lo' := [(2, .ref p4), (0, .ref a0), (1, .int xa1)]) rfl ?_
    refine r_aload_n (dc_X9_back 8 rfl) rfl rfl ?_
    refine r_ifnonnull (dc_X9_back 9 rfl) (tgt := 26) (by decide) ?_
    refine r_aload_n (dc_X9_back 15 rfl) rfl rfl ?_
    obtain ⟨p5, e0, h⟩ := Option.bind_eq_some_iff.mp h
    refine r_getR (dc_X9_back 16 rfl) fl_RX9_12 e0 ?_
    refine r_aload_n (dc_X9_back 17 rfl) rfl rfl ?_
    obtain ⟨s6, e0, h⟩ := Option.bind_eq_some_iff.mp h
    refine r_callV (dc_X9_back 18 rfl) mv_X8_copyOf ml_RX9_212 (As := [.ref p4]) (t_X8_copyOf (d := d - 1) hl (by omega) e0) (by omega) rfl (Nat.le_of_ble_eq_true rfl) ?_
    refine r_aload_n (dc_X9_back 19 rfl) rfl rfl ?_
    obtain ⟨p7, e0, h⟩ := Option.bind_eq_some_iff.mp h
    refine r_getR (dc_X9_back 20 rfl) fl_RX9_23 e0 ?_
    obtain ⟨s8, e0, h⟩ := Option.bind_eq_some_iff.mp h
    refine r_callV (dc_X9_back 21 rfl) mv_X7_forget ml_RX9_58 (As := []) (t_X7_forget (d := d - 1) hl (by omega) e0) (by omega) rfl (Nat.le_of_ble_eq_true rfl) ?_
    refine r_aload_n (dc_X9_back 22 rfl) rfl rfl ?_
    obtain ⟨p9, e0, h⟩ := Option.bind_eq_some_iff.mp h
    refine r_getR (dc_X9_back 23 rfl) fl_RX9_12 e0 ?_
    obtain ⟨p10, e0, h⟩ := Option.bind_eq_some_iff.mp h
    refine r_getR (dc_X9_back 24 rfl) fl_RX9_84 e0 ?_
    obtain ⟨x11, e0, h⟩ := Option.bind_eq_some_iff.mp h
    refine r_getI (dc_X9_back 25 rfl) fl_RX9_205 e0 ?_
    cases h
    exact r_ireturn (dc_X9_back 26 rfl) rfl
