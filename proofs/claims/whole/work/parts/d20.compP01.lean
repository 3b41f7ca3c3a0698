theorem t_X1_copyOf {G : Gx} {d : Nat} (hl : G.1.stackTraces = false) (hd : 0 ≤ d) {σ : Sto} {a0 : Nat} {pa1 : Nat} {r : Sto} (h : F_X1_copyOf σ a0 pa1 = some r) : Mi G d m_X1_copyOf 1 a0 [.ref pa1] σ (.inl none) r := by
  rw [F_X1_copyOf] at h
  obtain ⟨hg, h⟩ := chk_some h
  refine ⟨J.toMt (lo := [(0, .ref a0), (1, .ref pa1)]) pn_RX1 rfl hl (Nat.le_of_ble_eq_true rfl) rfl ?_, hg⟩
  refine r_aload_n (dc_X1_copyOf 0 rfl) rfl rfl ?_
  refine r_aload_n (dc_X1_copyOf 1 rfl) rfl rfl ?_
  obtain ⟨y1, e0, h⟩ := Option.bind_eq_some_iff.mp h
  refine r_getL (dc_X1_copyOf 2 rfl) fl_RX1_9 e0 ?_
  obtain ⟨s2, e0, h⟩ := Option.bind_eq_some_iff.mp h
  refine r_put (dc_X1_copyOf 3 rfl) pl_RX1_9 rfl e0 ?_
  refine r_aload_n (dc_X1_copyOf 4 rfl) rfl rfl ?_
  refine r_aload_n (dc_X1_copyOf 5 rfl) rfl rfl ?_
  obtain ⟨y3, e0, h⟩ := Option.bind_eq_some_iff.mp h
  refine r_getL (dc_X1_copyOf 6 rfl) fl_RX1_15 e0 ?_
  obtain ⟨s4, e0, h⟩ := Option.bind_eq_some_iff.mp h
  refine r_put (dc_X1_copyOf 7 rfl) pl_RX1_15 rfl e0 ?_
  cases h
  exact r_vreturn (dc_X1_copyOf 8 rfl) rfl
theorem t_X1_insert {G : Gx} {d : Nat} (hl : G.1.stackTraces = false) (hd : 0 ≤ d) {σ : Sto} {a0 : Nat} {xa1 : Int32} {r : Sto} (h : F_X1_insert σ a0 xa1 = some r) : Mi G d m_X1_insert 1 a0 [.int xa1] σ (.inl none) r := by
  rw [F_X1_insert] at h
  obtain ⟨hg, h⟩ := chk_some h
  refine ⟨J.toMt (lo := [(0, .ref a0), (1, .int xa1)]) pn_RX1 rfl hl (Nat.le_of_ble_eq_true rfl) rfl ?_, hg⟩
  refine r_iload_n (dc_X1_insert 0 rfl) rfl rfl ?_
  refine r_bipush (dc_X1_insert 1 rfl) kbipush_64 ?_
  refine r_icmp_ge (dc_X1_insert 2 rfl) (tgt := 21) (by decide) (fun c0 => ?_) (fun c0 => ?_)
  · rw [if_pos c0] at h
    refine r_aload_n (dc_X1_insert 12 rfl) rfl rfl ?_
    refine r_dup (dc_X1_insert 13 rfl) rfl ?_
    obtain ⟨y1, e0, h⟩ := Option.bind_eq_some_iff.mp h
    refine r_getL (dc_X1_insert 14 rfl) fl_RX1_15 e0 ?_
    refine r_lconst (dc_X1_insert 15 rfl) klconst_1 ?_
    refine r_iload_n (dc_X1_insert 16 rfl) rfl rfl ?_
    refine r_bipush (dc_X1_insert 17 rfl) kbipush_64 ?_
    refine r_isub (dc_X1_insert 18 rfl) ?_
    refine r_lshl (dc_X1_insert 19 rfl) ?_
    refine r_lor (dc_X1_insert 20 rfl) ?_
    obtain ⟨s2, e0, h⟩ := Option.bind_eq_some_iff.mp h
    refine r_put (dc_X1_insert 21 rfl) pl_RX1_15 rfl e0 ?_
    cases h
    exact r_vreturn (dc_X1_insert 22 rfl) rfl
  · rw [if_neg c0] at h
    refine r_aload_n (dc_X1_insert 3 rfl) rfl rfl ?_
    refine r_dup (dc_X1_insert 4 rfl) rfl ?_
    obtain ⟨y3, e0, h⟩ := Option.bind_eq_some_iff.mp h
    refine r_getL (dc_X1_insert 5 rfl) fl_RX1_9 e0 ?_
    refine r_lconst (dc_X1_insert 6 rfl) klconst_1 ?_
    refine r_iload_n (dc_X1_insert 7 rfl) rfl rfl ?_
    refine r_lshl (dc_X1_insert 8 rfl) ?_
    refine r_lor (dc_X1_insert 9 rfl) ?_
    obtain ⟨s4, e0, h⟩ := Option.bind_eq_some_iff.mp h
    refine r_put (dc_X1_insert 10 rfl) pl_RX1_9 rfl e0 ?_
    refine r_goto (dc_X1_insert 11 rfl) (tgt := 36) (by decide) ?_
    cases h
    exact r_vreturn (dc_X1_insert 22 rfl) rfl
theorem t_X1_remove {G : Gx} {d : Nat} (hl : G.1.stackTraces = false) (hd : 0 ≤ d) {σ : Sto} {a0 : Nat} {xa1 : Int32} {r : Sto} (h : F_X1_remove σ a0 xa1 = some r) : Mi G d m_X1_remove 1 a0 [.int xa1] σ (.inl none) r := by
  rw [F_X1_remove] at h
  obtain ⟨hg, h⟩ := chk_some h
  refine ⟨J.toMt (lo := [(0, .ref a0), (1, .int xa1)]) pn_RX1 rfl hl (Nat.le_of_ble_eq_true rfl) rfl ?_, hg⟩
  refine r_iload_n (dc_X1_remove 0 rfl) rfl rfl ?_
  refine r_bipush (dc_X1_remove 1 rfl) kbipush_64 ?_
  refine r_icmp_ge (dc_X1_remove 2 rfl) (tgt := 25) (by decide) (fun c0 => ?_) (fun c0 => ?_)
  · rw [if_pos c0] at h
    refine r_aload_n (dc_X1_remove 14 rfl) rfl rfl ?_
    refine r_dup (dc_X1_remove 15 rfl) rfl ?_
    obtain ⟨y1, e0, h⟩ := Option.bind_eq_some_iff.mp h
    refine r_getL (dc_X1_remove 16 rfl) fl_RX1_15 e0 ?_
    refine r_lconst (dc_X1_remove 17 rfl) klconst_1 ?_
    refine r_iload_n (dc_X1_remove 18 rfl) rfl rfl ?_
    refine r_bipush (dc_X1_remove 19 rfl) kbipush_64 ?_
    refine r_isub (dc_X1_remove 20 rfl) ?_
    refine r_lshl (dc_X1_remove 21 rfl) ?_
    refine r_ldc2 (dc_X1_remove 22 rfl) ck_RX1_18 ?_
    refine r_lxor (dc_X1_remove 23 rfl) ?_
    refine r_land (dc_X1_remove 24 rfl) ?_
    obtain ⟨s2, e0, h⟩ := Option.bind_eq_some_iff.mp h
    refine r_put (dc_X1_remove 25 rfl) pl_RX1_15 rfl e0 ?_
    cases h
    exact r_vreturn (dc_X1_remove 26 rfl) rfl
  · rw [if_neg c0] at h
    refine r_aload_n (dc_X1_remove 3 rfl) rfl rfl ?_
    refine r_dup (dc_X1_remove 4 rfl) rfl ?_
    obtain ⟨y3, e0, h⟩ := Option.bind_eq_some_iff.mp h
    refine r_getL (dc_X1_remove 5 rfl) fl_RX1_9 e0 ?_
    refine r_lconst (dc_X1_remove 6 rfl) klconst_1 ?_
    refine r_iload_n (dc_X1_remove 7 rfl) rfl rfl ?_
    refine r_lshl (dc_X1_remove 8 rfl) ?_
    refine r_ldc2 (dc_X1_remove 9 rfl) ck_RX1_18 ?_
    refine r_lxor (dc_X1_remove 10 rfl) ?_
    refine r_land (dc_X1_remove 11 rfl) ?_
    obtain ⟨s4, e0, h⟩ := Option.bind_eq_some_iff.mp h
    refine r_put (dc_X1_remove 12 rfl) pl_RX1_9 rfl e0 ?_
    refine r_goto (dc_X1_remove 13 rfl) (tgt := 44) (by decide) ?_
    cases h
    exact r_vreturn (dc_X1_remove 26 rfl) rfl
theorem t_X1_insertAll {G : Gx} {d : Nat} (hl : G.1.stackTraces = false) (hd : 0 ≤ d) {σ : Sto} {a0 : Nat} {pa1 : Nat} {r : Sto} (h : F_X1_insertAll σ a0 pa1 = some r) : Mi G d m_X1_insertAll 1 a0 [.ref pa1] σ (.inl none) r := by
  rw [F_X1_insertAll] at h
  obtain ⟨hg, h⟩ := chk_some h
  refine ⟨J.toMt (lo := [(0, .ref a0), (1, .ref pa1)]) pn_RX1 rfl hl (Nat.le_of_ble_eq_true rfl) rfl ?_, hg⟩
  refine r_aload_n (dc_X1_insertAll 0 rfl) rfl rfl ?_
  refine r_dup (dc_X1_insertAll 1 rfl) rfl ?_
  obtain ⟨y1, e0, h⟩ := Option.bind_eq_some_iff.mp h
  refine r_getL (dc_X1_insertAll 2 rfl) fl_RX1_9 e0 ?_
  refine r_aload_n (dc_X1_insertAll 3 rfl) rfl rfl ?_
  obtain ⟨y2, e0, h⟩ := Option.bind_eq_some_iff.mp h
  refine r_getL (dc_X1_insertAll 4 rfl) fl_RX1_9 e0 ?_
  refine r_lor (dc_X1_insertAll 5 rfl) ?_
  obtain ⟨s3, e0, h⟩ := Option.bind_eq_some_iff.mp h
  refine r_put (dc_X1_insertAll 6 rfl) pl_RX1_9 rfl e0 ?_
  refine r_aload_n (dc_X1_insertAll 7 rfl) rfl rfl ?_
  refine r_dup (dc_X1_insertAll 8 rfl) rfl ?_
  obtain ⟨y4, e0, h⟩ := Option.bind_eq_some_iff.mp h
  refine r_getL (dc_X1_insertAll 9 rfl) fl_RX1_15 e0 ?_
  refine r_aload_n (dc_X1_insertAll 10 rfl) rfl rfl ?_
  obtain ⟨y5, e0, h⟩ := Option.bind_eq_some_iff.mp h
  refine r_getL (dc_X1_insertAll 11 rfl) fl_RX1_15 e0 ?_
  refine r_lor (dc_X1_insertAll 12 rfl) ?_
  obtain ⟨s6, e0, h⟩ := Option.bind_eq_some_iff.mp h
  refine r_put (dc_X1_insertAll 13 rfl) pl_RX1_15 rfl e0 ?_
  cases h
  exact r_vreturn (dc_X1_insertAll 14 rfl) rfl
theorem t_X1_removeAll {G : Gx} {d : Nat} (hl : G.1.stackTraces = false) (hd : 0 ≤ d) {σ : Sto} {a0 : Nat} {pa1 : Nat} {r : Sto} (h : F_X1_removeAll σ a0 pa1 = some r) : Mi G d m_X1_removeAll 1 a0 [.ref pa1] σ (.inl none) r := by
  rw [F_X1_removeAll] at h
  obtain ⟨hg, h⟩ := chk_some h
  refine ⟨J.toMt (lo := [(0, .ref a0), (1, .ref pa1)]) pn_RX1 rfl hl (Nat.le_of_ble_eq_true rfl) rfl ?_, hg⟩
  refine r_aload_n (dc_X1_removeAll 0 rfl) rfl rfl ?_
  refine r_aload_n (dc_X1_removeAll 1 rfl) rfl rfl ?_
  obtain ⟨y1, e0, h⟩ := Option.bind_eq_some_iff.mp h
  refine r_getL (dc_X1_removeAll 2 rfl) fl_RX1_9 e0 ?_
  refine r_aload_n (dc_X1_removeAll 3 rfl) rfl rfl ?_
  obtain ⟨y2, e0, h⟩ := Option.bind_eq_some_iff.mp h
  refine r_getL (dc_X1_removeAll 4 rfl) fl_RX1_9 e0 ?_
  refine r_ldc2 (dc_X1_removeAll 5 rfl) ck_RX1_18 ?_
  refine r_lxor (dc_X1_removeAll 6 rfl) ?_
  refine r_land (dc_X1_removeAll 7 rfl) ?_
  obtain ⟨s3, e0, h⟩ := Option.bind_eq_some_iff.mp h
  refine r_put (dc_X1_removeAll 8 rfl) pl_RX1_9 rfl e0 ?_
  refine r_aload_n (dc_X1_removeAll 9 rfl) rfl rfl ?_
  refine r_aload_n (dc_X1_removeAll 10 rfl) rfl rfl ?_
  obtain ⟨y4, e0, h⟩ := Option.bind_eq_some_iff.mp h
  refine r_getL (dc_X1_removeAll 11 rfl) fl_RX1_15 e0 ?_
  refine r_aload_n (dc_X1_removeAll 12 rfl) rfl rfl ?_
  obtain ⟨y5, e0, h⟩ := Option.bind_eq_some_iff.mp h
  refine r_getL (dc_X1_removeAll 13 rfl) fl_RX1_15 e0 ?_
  refine r_ldc2 (dc_X1_removeAll 14 rfl) ck_RX1_18 ?_
  refine r_lxor (dc_X1_removeAll 15 rfl) ?_
  refine r_land (dc_X1_removeAll 16 rfl) ?_
  obtain ⟨s6, e0, h⟩ := Option.bind_eq_some_iff.mp h
  refine r_put (dc_X1_removeAll 17 rfl) pl_RX1_15 rfl e0 ?_
  cases h
  exact r_vreturn (dc_X1_removeAll 18 rfl) rfl
theorem t_X1_retainAll {G : Gx} {d : Nat} (hl : G.1.stackTraces = false) (hd : 0 ≤ d) {σ : Sto} {a0 : Nat} {pa1 : Nat} {r : Sto} (h : F_X1_retainAll σ a0 pa1 = some r) : Mi G d m_X1_retainAll 1 a0 [.ref pa1] σ (.inl none) r := by
  rw [F_X1_retainAll] at h
  obtain ⟨hg, h⟩ := chk_some h
  refine ⟨J.toMt (lo := [(0, .ref a0), (1, .ref pa1)]) pn_RX1 rfl hl (Nat.le_of_ble_eq_true rfl) rfl ?_, hg⟩
  refine r_aload_n (dc_X1_retainAll 0 rfl) rfl rfl ?_
  refine r_dup (dc_X1_retainAll 1 rfl) rfl ?_
  obtain ⟨y1, e0, h⟩ := Option.bind_eq_some_iff.mp h
  refine r_getL (dc_X1_retainAll 2 rfl) fl_RX1_9 e0 ?_
  refine r_aload_n (dc_X1_retainAll 3 rfl) rfl rfl ?_
  obtain ⟨y2, e0, h⟩ := Option.bind_eq_some_iff.mp h
  refine r_getL (dc_X1_retainAll 4 rfl) fl_RX1_9 e0 ?_
  refine r_land (dc_X1_retainAll 5 rfl) ?_
  obtain ⟨s3, e0, h⟩ := Option.bind_eq_some_iff.mp h
  refine r_put (dc_X1_retainAll 6 rfl) pl_RX1_9 rfl e0 ?_
  refine r_aload_n (dc_X1_retainAll 7 rfl) rfl rfl ?_
  refine r_dup (dc_X1_retainAll 8 rfl) rfl ?_
  obtain ⟨y4, e0, h⟩ := Option.bind_eq_some_iff.mp h
  refine r_getL (dc_X1_retainAll 9 rfl) fl_RX1_15 e0 ?_
  refine r_aload_n (dc_X1_retainAll 10 rfl) rfl rfl ?_
  obtain ⟨y5, e0, h⟩ := Option.bind_eq_some_iff.mp h
  refine r_getL (dc_X1_retainAll 11 rfl) fl_RX1_15 e0 ?_
  refine r_land (dc_X1_retainAll 12 rfl) ?_
  obtain ⟨s6, e0, h⟩ := Option.bind_eq_some_iff.mp h
  refine r_put (dc_X1_retainAll 13 rfl) pl_RX1_15 rfl e0 ?_
  cases h
  exact r_vreturn (dc_X1_retainAll 14 rfl) rfl
theorem t_X1_sameAs {G : Gx} {d : Nat} (hl : G.1.stackTraces = false) (hd : 0 ≤ d) {σ : Sto} {a0 : Nat} {pa1 : Nat} {r : Int32} (h : F_X1_sameAs σ a0 pa1 = some r) : Mi G d m_X1_sameAs 1 a0 [.ref pa1] σ (.inl (some (.int r))) σ := by
  rw [F_X1_sameAs] at h
  obtain ⟨hg, h⟩ := chk_some h
  refine ⟨J.toMt (lo := [(0, .ref a0), (1, .ref pa1)]) pn_RX1 rfl hl (Nat.le_of_ble_eq_true rfl) rfl ?_, hg⟩
  refine r_aload_n (dc_X1_sameAs 0 rfl) rfl rfl ?_
  obtain ⟨y1, e0, h⟩ := Option.bind_eq_some_iff.mp h
  refine r_getL (dc_X1_sameAs 1 rfl) fl_RX1_9 e0 ?_
  refine r_aload_n (dc_X1_sameAs 2 rfl) rfl rfl ?_
  obtain ⟨y2, e0, h⟩ := Option.bind_eq_some_iff.mp h
  refine r_getL (dc_X1_sameAs 3 rfl) fl_RX1_9 e0 ?_
  refine r_lcmp (dc_X1_sameAs 4 rfl) ?_
  refine r_if_ne (dc_X1_sameAs 5 rfl) (tgt := 28) (by decide) (fun c0 => ?_) (fun c0 => ?_)
  · rw [if_neg c0] at h
    refine r_iconst (dc_X1_sameAs 14 rfl) kiconst_0 ?_
    cases h
    exact r_zreturn (dc_X1_sameAs 15 rfl) rfl (Or.inl rfl)
  · rw [if_pos c0] at h
    refine r_aload_n (dc_X1_sameAs 6 rfl) rfl rfl ?_
    obtain ⟨y3, e0, h⟩ := Option.bind_eq_some_iff.mp h
    refine r_getL (dc_X1_sameAs 7 rfl) fl_RX1_15 e0 ?_
    refine r_aload_n (dc_X1_sameAs 8 rfl) rfl rfl ?_
    obtain ⟨y4, e0, h⟩ := Option.bind_eq_some_iff.mp h
    refine r_getL (dc_X1_sameAs 9 rfl) fl_RX1_15 e0 ?_
    refine r_lcmp (dc_X1_sameAs 10 rfl) ?_
    refine r_if_ne (dc_X1_sameAs 11 rfl) (tgt := 28) (by decide) (fun c0 => ?_) (fun c0 => ?_)
    · rw [if_neg c0] at h
      refine r_iconst (dc_X1_sameAs 14 rfl) kiconst_0 ?_
      cases h
      exact r_zreturn (dc_X1_sameAs 15 rfl) rfl (Or.inl rfl)
    · rw [if_pos c0] at h
      refine r_iconst (dc_X1_sameAs 12 rfl) kiconst_1 ?_
      refine r_goto (dc_X1_sameAs 13 rfl) (tgt := 29) (by decide) ?_
      cases h
      exact r_zreturn (dc_X1_sameAs 15 rfl) rfl (Or.inr rfl)
theorem t_X1_size {G : Gx} {d : Nat} (hl : G.1.stackTraces = false) (hd : 1 ≤ d) {σ : Sto} {a0 : Nat} {r : Int32} (h : F_X1_size σ a0 = some r) : Mi G d m_X1_size 1 a0 [] σ (.inl (some (.int r))) σ := by
  rw [F_X1_size] at h
  obtain ⟨hg, h⟩ := chk_some h
  refine ⟨J.toMt (lo := [(0, .ref a0)]) pn_RX1 rfl hl (Nat.le_of_ble_eq_true rfl) rfl ?_, hg⟩
  refine r_aload_n (dc_X1_size 0 rfl) rfl rfl ?_
  obtain ⟨y1, e0, h⟩ := Option.bind_eq_some_iff.mp h
  refine r_getL (dc_X1_size 1 rfl) fl_RX1_9 e0 ?_
  obtain ⟨x2, e0, h⟩ := Option.bind_eq_some_iff.mp h
  refine r_callS (dc_X1_size 2 rfl) ms_J13_bitCount_95d88 ml_RX1_20 (As := [.long y1]) (t_J13_bitCount_95d88 (d := d - 1) hl (by omega) e0) (by omega) rfl (Nat.le_of_ble_eq_true rfl) ?_
  refine r_aload_n (dc_X1_size 3 rfl) rfl rfl ?_
  obtain ⟨y3, e0, h⟩ := Option.bind_eq_some_iff.mp h
  refine r_getL (dc_X1_size 4 rfl) fl_RX1_15 e0 ?_
  obtain ⟨x4, e0, h⟩ := Option.bind_eq_some_iff.mp h
  refine r_callS (dc_X1_size 5 rfl) ms_J13_bitCount_95d88 ml_RX1_20 (As := [.long y3]) (t_J13_bitCount_95d88 (d := d - 1) hl (by omega) e0) (by omega) rfl (Nat.le_of_ble_eq_true rfl) ?_
  refine r_iadd (dc_X1_size 6 rfl) ?_
  cases h
  exact r_ireturn (dc_X1_size 7 rfl) rfl
theorem t_X1_shared {G : Gx} {d : Nat} (hl : G.1.stackTraces = false) (hd : 1 ≤ d) {σ : Sto} {a0 : Nat} {pa1 : Nat} {r : Int32} (h : F_X1_shared σ a0 pa1 = some r) : Mi G d m_X1_shared 1 a0 [.ref pa1] σ (.inl (some (.int r))) σ := by
  rw [F_X1_shared] at h
  obtain ⟨hg, h⟩ := chk_some h
  refine ⟨J.toMt (lo := [(0, .ref a0), (1, .ref pa1)]) pn_RX1 rfl hl (Nat.le_of_ble_eq_true rfl) rfl ?_, hg⟩
  refine r_aload_n (dc_X1_shared 0 rfl) rfl rfl ?_
  obtain ⟨y1, e0, h⟩ := Option.bind_eq_some_iff.mp h
  refine r_getL (dc_X1_shared 1 rfl) fl_RX1_9 e0 ?_
  refine r_aload_n (dc_X1_shared 2 rfl) rfl rfl ?_
  obtain ⟨y2, e0, h⟩ := Option.bind_eq_some_iff.mp h
  refine r_getL (dc_X1_shared 3 rfl) fl_RX1_9 e0 ?_
  refine r_land (dc_X1_shared 4 rfl) ?_
  obtain ⟨x3, e0, h⟩ := Option.bind_eq_some_iff.mp h
  refine r_callS (dc_X1_shared 5 rfl) ms_J13_bitCount_95d88 ml_RX1_20 (As := [.long (y1 &&& y2)]) (t_J13_bitCount_95d88 (d := d - 1) hl (by omega) e0) (by omega) rfl (Nat.le_of_ble_eq_true rfl) ?_
  refine r_aload_n (dc_X1_shared 6 rfl) rfl rfl ?_
  obtain ⟨y4, e0, h⟩ := Option.bind_eq_some_iff.mp h
  refine r_getL (dc_X1_shared 7 rfl) fl_RX1_15 e0 ?_
  refine r_aload_n (dc_X1_shared 8 rfl) rfl rfl ?_
  obtain ⟨y5, e0, h⟩ := Option.bind_eq_some_iff.mp h
  refine r_getL (dc_X1_shared 9 rfl) fl_RX1_15 e0 ?_
  refine r_land (dc_X1_shared 10 rfl) ?_
  obtain ⟨x6, e0, h⟩ := Option.bind_eq_some_iff.mp h
  refine r_callS (dc_X1_shared 11 rfl) ms_J13_bitCount_95d88 ml_RX1_20 (As := [.long (y4 &&& y5)]) (t_J13_bitCount_95d88 (d := d - 1) hl (by omega) e0) (by omega) rfl (Nat.le_of_ble_eq_true rfl) ?_
  refine r_iadd (dc_X1_shared 12 rfl) ?_
  cases h
  exact r_ireturn (dc_X1_shared 13 rfl) rfl
theorem l_X1_nth_L4 {G : Gx} {d : Nat} (hl : G.1.stackTraces = false) (hd : 1 ≤ d) {sL : Sto} {pL0 : Nat} {r : Int32} {k37 : Option Int32}
    (hk37 : k37  = some r → J G d m_X1_nth 37 [] [] sL (.inl (some (.int r))) sL)
  : ∀ (f : Nat) (xL2 : Int32) (xL3 : Int32), F_X1_nth_L4 sL pL0 f xL2 xL3 k37 = some r → J G d m_X1_nth 4 [(0, .ref pL0), (2, .int xL2), (3, .int xL3)] [] sL (.inl (some (.int r))) sL := by
  intro f
  induction f with
  | zero => intro xL2 xL3 h; rw [F_X1_nth_L4] at h; cases h
  | succ f ih =>
    intro xL2 xL3 h
    rw [F_X1_nth_L4] at h
    refine r_iload_n (dc_X1_nth 4 rfl) rfl rfl ?_
    refine r_bipush (dc_X1_nth 5 rfl) kbipush_120 ?_
    refine r_icmp_ge (dc_X1_nth 6 rfl) (tgt := 37) (by decide) (fun c0 => ?_) (fun c0 => ?_)
    · rw [if_pos c0] at h
      refine r_pick [] (lo' := []) rfl ?_
      exact hk37  h
    · rw [if_neg c0] at h
      refine r_iload_n (dc_X1_nth 7 rfl) rfl rfl ?_
      refine r_if_lt (dc_X1_nth 8 rfl) (tgt := 37) (by decide) (fun c0 => ?_) (fun c0 => ?_)
      · rw [if_pos c0] at h
        refine r_pick [] (lo' := []) rfl ?_
        exact hk37  h
      · rw [if_neg c0] at h
        refine r_aload_n (dc_X1_nth 9 rfl) rfl rfl ?_
        refine r_iload_n (dc_X1_nth 10 rfl) rfl rfl ?_
        obtain ⟨x1, e0, h⟩ := Option.bind_eq_some_iff.mp h
        refine r_callV (dc_X1_nth 11 rfl) mv_X1_holds ml_RX1_26 (As := [.int xL3]) (t_X1_holds (d := d - 1) hl (by omega) e0) (by omega) rfl (Nat.le_of_ble_eq_true rfl) ?_
        refine r_if_eq (dc_X1_nth 12 rfl) (tgt := 31) (by decide) (fun c0 => ?_) (fun c0 => ?_)
        · rw [if_pos c0] at h
          refine r_iinc (dc_X1_nth 18 rfl) rfl (kinc_1 _) (by decide) (lo' := [(3, .int (xL3 + (1 : Int32))), (0, .ref pL0), (2, .int xL2)]) rfl ?_
          refine r_goto (dc_X1_nth 19 rfl) (tgt := 4) (by decide) ?_
          refine r_pick [1, 2, 0] (lo' := [(0, .ref pL0), (2, .int xL2), (3, .int (xL3 + (1 : Int32)))]) rfl ?_
          exact ih _ _ h
        · rw [if_neg c0] at h
          refine r_iload_n (dc_X1_nth 13 rfl) rfl rfl ?_
          refine r_if_ne (dc_X1_nth 14 rfl) (tgt := 28) (by decide) (fun c0 => ?_) (fun c0 => ?_)
          · rw [if_neg c0] at h
            refine r_iinc (dc_X1_nth 17 rfl) rfl (kinc_m1 _) (by decide) (lo' := [(2, .int (xL2 + (-1 : Int32))), (0, .ref pL0), (3, .int xL3)]) rfl ?_
            refine r_iinc (dc_X1_nth 18 rfl) rfl (kinc_1 _) (by decide) (lo' := [(3, .int (xL3 + (1 : Int32))), (2, .int (xL2 + (-1 : Int32))), (0, .ref pL0)]) rfl ?_
            refine r_goto (dc_X1_nth 19 rfl) (tgt := 4) (by decide) ?_
            refine r_pick [2, 1, 0] (lo' := [(0, .ref pL0), (2, .int (xL2 + (-1 : Int32))), (3, .int (xL3 + (1 : Int32)))]) rfl ?_
            exact ih _ _ h
          · rw [if_pos c0] at h
            refine r_iload_n (dc_X1_nth 15 rfl) rfl rfl ?_
            cases h
            exact r_ireturn (dc_X1_nth 16 rfl) rfl
theorem t_X1_nth {G : Gx} {d : Nat} (hl : G.1.stackTraces = false) (hd : 1 ≤ d) {σ : Sto} {a0 : Nat} {xa1 : Int32} {r : Int32} (h : F_X1_nth σ a0 xa1 = some r) : Mi G d m_X1_nth 1 a0 [.int xa1] σ (.inl (some (.int r))) σ := by
  rw [F_X1_nth] at h
  obtain ⟨hg, h⟩ := chk_some h
  refine ⟨J.toMt (lo := [(0, .ref a0), (1, .int xa1)]) pn_RX1 rfl hl (Nat.le_of_ble_eq_true rfl) rfl ?_, hg⟩
  refine r_iload_n (dc_X1_nth 0 rfl) rfl rfl ?_
  refine r_istore_n (dc_X1_nth 1 rfl) rfl (by decide) (lo' := [(2, .int xa1), (0, .ref a0), (1, .int xa1)]) rfl ?_
  refine r_iconst (dc_X1_nth 2 rfl) kiconst_0 ?_
  refine r_istore_n (dc_X1_nth 3 rfl) rfl (by decide) (lo' := [(3, .int (0 : Int32)), (2, .int xa1), (0, .ref a0), (1, .int xa1)]) rfl ?_
  refine r_pick [2, 1, 0] (lo' := [(0, .ref a0), (2, .int xa1), (3, .int (0 : Int32))]) rfl ?_
  refine l_X1_nth_L4 hl hd (hk37 := ?_) fu _ _ h
  · intro h
    refine r_iconst (dc_X1_nth 20 rfl) kiconst_m1 ?_
    cases h
    exact r_ireturn (dc_X1_nth 21 rfl) rfl
theorem l_X2_init_L70 {G : Gx} {d : Nat} (hl : G.1.stackTraces = false) (hd : 2 ≤ d) {pL0 : Nat} {r : Sto} {k95 : Sto → Option Sto}
    (hk95 : ∀ (sL : Sto), k95 sL = some r → J G d m_X2_init 95 [] [] sL (.inl none) r)
  : ∀ (f : Nat) (xL1 : Int32) (sL : Sto), F_X2_init_L70 pL0 f xL1 sL k95 = some r → J G d m_X2_init 70 [(0, .ref pL0), (1, .int xL1)] [] sL (.inl none) r := by
  intro f
  induction f with
  | zero => intro xL1 sL h; rw [F_X2_init_L70] at h; cases h
  | succ f ih =>
    intro xL1 sL h
    rw [F_X2_init_L70] at h
    refine r_iload_n (dc_X2_init 36 rfl) rfl rfl ?_
    refine r_bipush (dc_X2_init 37 rfl) kbipush_120 ?_
    refine r_icmp_ge (dc_X2_init 38 rfl) (tgt := 95) (by decide) (fun c0 => ?_) (fun c0 => ?_)
    · rw [if_pos c0] at h
      refine r_pick [] (lo' := []) rfl ?_
      exact hk95 _ h
    · rw [if_neg c0] at h
      refine r_aload_n (dc_X2_init 39 rfl) rfl rfl ?_
      obtain ⟨p25, e0, h⟩ := Option.bind_eq_some_iff.mp h
      refine r_getR (dc_X2_init 40 rfl) fl_RX2_35 e0 ?_
      refine r_iload_n (dc_X2_init 41 rfl) rfl rfl ?_
      obtain ⟨p27, s26, ev, es, h⟩ := nw_some h
      refine r_new (dc_X2_init 42 rfl) nl_RX2_33 ?_
      rw [← ev, ← es]
      refine r_dup (dc_X2_init 43 rfl) rfl ?_
      obtain ⟨u0, e0, h⟩ := Option.bind_eq_some_iff.mp h
      refine r_callIN (dc_X2_init 44 rfl) mi_X1_init mn_RX2_39 (As := []) (t_X1_init (d := d - 1) hl (by omega) e0) (by omega) rfl (Nat.le_of_ble_eq_true rfl) ?_
      obtain ⟨s28, e0, h⟩ := Option.bind_eq_some_iff.mp h
      refine r_aast (dc_X2_init 45 rfl) (kd := 3) rfl rfl e0 ?_
      refine r_iinc (dc_X2_init 46 rfl) rfl (kinc_1 _) (by decide) (lo' := [(1, .int (xL1 + (1 : Int32))), (0, .ref pL0)]) rfl ?_
      refine r_goto (dc_X2_init 47 rfl) (tgt := 70) (by decide) ?_
      refine r_pick [1, 0] (lo' := [(0, .ref pL0), (1, .int (xL1 + (1 : Int32)))]) rfl ?_
      exact ih _ _ h
theorem t_X2_init {G : Gx} {d : Nat} (hl : G.1.stackTraces = false) (hd : 2 ≤ d) {σ : Sto} {a0 : Nat} {r : Sto} (h : F_X2_init σ a0 = some r) : Mt G d m_X2_init [Value.ref a0] σ (.inl none) r := by
  rw [F_X2_init] at h
  refine J.toMt (lo := [(0, .ref a0)]) pn_RX2 rfl hl (Nat.le_of_ble_eq_true rfl) rfl ?_
  refine r_aload_n (dc_X2_init 0 rfl) rfl rfl ?_
  refine r_objInit (dc_X2_init 1 rfl) ml_RX2_3 w_obj1 w_obj2 (by omega) (Nat.le_of_ble_eq_true rfl) ?_
  refine r_aload_n (dc_X2_init 2 rfl) rfl rfl ?_
  refine r_iconst (dc_X2_init 3 rfl) kiconst_5 ?_
  obtain ⟨p2, s1, ev, es, h⟩ := nw_some h
  refine r_newI (dc_X2_init 4 rfl) ac_int (by decide) (by decide +kernel) ?_
  rw [← ev, ← es]
  obtain ⟨s3, e0, h⟩ := Option.bind_eq_some_iff.mp h
  refine r_putX (dc_X2_init 5 rfl) pl_RX2_9 (Or.inr ⟨rfl, fun q hq => by cases hq; rfl⟩) rfl e0 ?_
  refine r_aload_n (dc_X2_init 6 rfl) rfl rfl ?_
  refine r_bipush (dc_X2_init 7 rfl) kbipush_120 ?_
  obtain ⟨p5, s4, ev, es, h⟩ := nw_some h
  refine r_newI (dc_X2_init 8 rfl) ac_int (by decide) (by decide +kernel) ?_
  rw [← ev, ← es]
  obtain ⟨s6, e0, h⟩ := Option.bind_eq_some_iff.mp h
  refine r_putX (dc_X2_init 9 rfl) pl_RX2_15 (Or.inr ⟨rfl, fun q hq => by cases hq; rfl⟩) rfl e0 ?_
  refine r_aload_n (dc_X2_init 10 rfl) rfl rfl ?_
  refine r_bipush (dc_X2_init 11 rfl) kbipush_120 ?_
  obtain ⟨p8, s7, ev, es, h⟩ := nw_some h
  refine r_newI (dc_X2_init 12 rfl) ac_int (by decide) (by decide +kernel) ?_
  rw [← ev, ← es]
  obtain ⟨s9, e0, h⟩ := Option.bind_eq_some_iff.mp h
  refine r_putX (dc_X2_init 13 rfl) pl_RX2_18 (Or.inr ⟨rfl, fun q hq => by cases hq; rfl⟩) rfl e0 ?_
  refine r_aload_n (dc_X2_init 14 rfl) rfl rfl ?_
  refine r_bipush (dc_X2_init 15 rfl) kbipush_120 ?_
  obtain ⟨p11, s10, ev, es, h⟩ := nw_some h
  refine r_newI (dc_X2_init 16 rfl) ac_int (by decide) (by decide +kernel) ?_
  rw [← ev, ← es]
  obtain ⟨s12, e0, h⟩ := Option.bind_eq_some_iff.mp h
  refine r_putX (dc_X2_init 17 rfl) pl_RX2_21 (Or.inr ⟨rfl, fun q hq => by cases hq; rfl⟩) rfl e0 ?_
  refine r_aload_n (dc_X2_init 18 rfl) rfl rfl ?_
  refine r_bipush (dc_X2_init 19 rfl) kbipush_120 ?_
  obtain ⟨p14, s13, ev, es, h⟩ := nw_some h
  refine r_newI (dc_X2_init 20 rfl) ac_int (by decide) (by decide +kernel) ?_
  rw [← ev, ← es]
  obtain ⟨s15, e0, h⟩ := Option.bind_eq_some_iff.mp h
  refine r_putX (dc_X2_init 21 rfl) pl_RX2_24 (Or.inr ⟨rfl, fun q hq => by cases hq; rfl⟩) rfl e0 ?_
  refine r_aload_n (dc_X2_init 22 rfl) rfl rfl ?_
  refine r_bipush (dc_X2_init 23 rfl) kbipush_120 ?_
  obtain ⟨p17, s16, ev, es, h⟩ := nw_some h
  refine r_newI (dc_X2_init 24 rfl) ac_int (by decide) (by decide +kernel) ?_
  rw [← ev, ← es]
  obtain ⟨s18, e0, h⟩ := Option.bind_eq_some_iff.mp h
  refine r_putX (dc_X2_init 25 rfl) pl_RX2_27 (Or.inr ⟨rfl, fun q hq => by cases hq; rfl⟩) rfl e0 ?_
  refine r_aload_n (dc_X2_init 26 rfl) rfl rfl ?_
  refine r_bipush (dc_X2_init 27 rfl) kbipush_120 ?_
  obtain ⟨p20, s19, ev, es, h⟩ := nw_some h
  refine r_newI (dc_X2_init 28 rfl) ac_int (by decide) (by decide +kernel) ?_
  rw [← ev, ← es]
  obtain ⟨s21, e0, h⟩ := Option.bind_eq_some_iff.mp h
  refine r_putX (dc_X2_init 29 rfl) pl_RX2_30 (Or.inr ⟨rfl, fun q hq => by cases hq; rfl⟩) rfl e0 ?_
  refine r_aload_n (dc_X2_init 30 rfl) rfl rfl ?_
  refine r_bipush (dc_X2_init 31 rfl) kbipush_120 ?_
  obtain ⟨p23, s22, ev, es, h⟩ := nw_some h
  refine r_newR (dc_X2_init 32 rfl) (kd := 3) rfl cl_RX2_33 (by decide) (by decide) (by decide +kernel) ?_
  rw [← ev, ← es]
  obtain ⟨s24, e0, h⟩ := Option.bind_eq_some_iff.mp h
  refine r_putX (dc_X2_init 33 rfl) pl_RX2_35 (Or.inr ⟨rfl, fun q hq => by cases hq; rfl⟩) rfl e0 ?_
  refine r_iconst (dc_X2_init 34 rfl) kiconst_0 ?_
  refine r_istore_n (dc_X2_init 35 rfl) rfl (by decide) (lo' := [(1, .int (0 : Int32)), (0, .ref a0)]) rfl ?_
  refine r_pick [1, 0] (lo' := [(0, .ref a0), (1, .int (0 : Int32))]) rfl ?_
  refine l_X2_init_L70 hl hd (hk95 := ?_) fu _ _ h
  · intro s29 h
    cases h
    exact r_vreturn (dc_X2_init 48 rfl) rfl
theorem l_X2_clear_L7 {G : Gx} {d : Nat} (hl : G.1.stackTraces = false) (hd : 0 ≤ d) {pL0 : Nat} {r : Sto} {k25 : Sto → Option Sto}
    (hk25 : ∀ (sL : Sto), k25 sL = some r → J G d m_X2_clear 25 [] [] sL (.inl none) r)
  : ∀ (f : Nat) (xL1 : Int32) (sL : Sto), F_X2_clear_L7 pL0 f xL1 sL k25 = some r → J G d m_X2_clear 7 [(0, .ref pL0), (1, .int xL1)] [] sL (.inl none) r := by
  intro f
  induction f with
  | zero => intro xL1 sL h; rw [F_X2_clear_L7] at h; cases h
  | succ f ih =>
    intro xL1 sL h
    rw [F_X2_clear_L7] at h
    refine r_iload_n (dc_X2_clear 5 rfl) rfl rfl ?_
    refine r_iconst (dc_X2_clear 6 rfl) kiconst_5 ?_
    refine r_icmp_ge (dc_X2_clear 7 rfl) (tgt := 25) (by decide) (fun c0 => ?_) (fun c0 => ?_)
    · rw [if_pos c0] at h
      refine r_pick [] (lo' := []) rfl ?_
      exact hk25 _ h
    · rw [if_neg c0] at h
      refine r_aload_n (dc_X2_clear 8 rfl) rfl rfl ?_
      obtain ⟨p2, e0, h⟩ := Option.bind_eq_some_iff.mp h
      refine r_getR (dc_X2_clear 9 rfl) fl_RX2_9 e0 ?_
      refine r_iload_n (dc_X2_clear 10 rfl) rfl rfl ?_
      refine r_iconst (dc_X2_clear 11 rfl) kiconst_0 ?_
      obtain ⟨s3, e0, h⟩ := Option.bind_eq_some_iff.mp h
      refine r_iast (dc_X2_clear 12 rfl) e0 ?_
      refine r_iinc (dc_X2_clear 13 rfl) rfl (kinc_1 _) (by decide) (lo' := [(1, .int (xL1 + (1 : Int32))), (0, .ref pL0)]) rfl ?_
      refine r_goto (dc_X2_clear 14 rfl) (tgt := 7) (by decide) ?_
      refine r_pick [1, 0] (lo' := [(0, .ref pL0), (1, .int (xL1 + (1 : Int32)))]) rfl ?_
      exact ih _ _ h
theorem t_X2_clear {G : Gx} {d : Nat} (hl : G.1.stackTraces = false) (hd : 0 ≤ d) {σ : Sto} {a0 : Nat} {r : Sto} (h : F_X2_clear σ a0 = some r) : Mi G d m_X2_clear 2 a0 [] σ (.inl none) r := by
  rw [F_X2_clear] at h
  obtain ⟨hg, h⟩ := chk_some h
  refine ⟨J.toMt (lo := [(0, .ref a0)]) pn_RX2 rfl hl (Nat.le_of_ble_eq_true rfl) rfl ?_, hg⟩
  refine r_aload_n (dc_X2_clear 0 rfl) rfl rfl ?_
  refine r_iconst (dc_X2_clear 1 rfl) kiconst_0 ?_
  obtain ⟨s1, e0, h⟩ := Option.bind_eq_some_iff.mp h
  refine r_put (dc_X2_clear 2 rfl) pl_RX2_40 rfl e0 ?_
  refine r_iconst (dc_X2_clear 3 rfl) kiconst_0 ?_
  refine r_istore_n (dc_X2_clear 4 rfl) rfl (by decide) (lo' := [(1, .int (0 : Int32)), (0, .ref a0)]) rfl ?_
  refine r_pick [1, 0] (lo' := [(0, .ref a0), (1, .int (0 : Int32))]) rfl ?_
  refine l_X2_clear_L7 hl hd (hk25 := ?_) fu _ _ h
  · intro s4 h
    cases h
    exact r_vreturn (dc_X2_clear 15 rfl) rfl
theorem l_X2_copyOf_L126 {G : Gx} {d : Nat} (hl : G.1.stackTraces = false) (hd : 2 ≤ d) {pL0 : Nat} {pL1 : Nat} {r : Sto} {k155 : Sto → Option Sto}
    (hk155 : ∀ (sL : Sto), k155 sL = some r → J G d m_X2_copyOf 155 [] [] sL (.inl none) r)
  : ∀ (f : Nat) (xL2 : Int32) (sL : Sto), F_X2_copyOf_L126 pL0 pL1 f xL2 sL k155 = some r → J G d m_X2_copyOf 126 [(0, .ref pL0), (1, .ref pL1), (2, .int xL2)] [] sL (.inl none) r := by
  intro f
  induction f with
  | zero => intro xL2 sL h; rw [F_X2_copyOf_L126] at h; cases h
  | succ f ih =>
    intro xL2 sL h
    rw [F_X2_copyOf_L126] at h
    refine r_iload_n (dc_X2_copyOf 68 rfl) rfl rfl ?_
    refine r_aload_n (dc_X2_copyOf 69 rfl) rfl rfl ?_
    obtain ⟨x30, e0, h⟩ := Option.bind_eq_some_iff.mp h
    refine r_getI (dc_X2_copyOf 70 rfl) fl_RX2_40 e0 ?_
    refine r_icmp_ge (dc_X2_copyOf 71 rfl) (tgt := 155) (by decide) (fun c0 => ?_) (fun c0 => ?_)
    · rw [if_pos c0] at h
      refine r_pick [] (lo' := []) rfl ?_
      exact hk155 _ h
    · rw [if_neg c0] at h
      refine r_aload_n (dc_X2_copyOf 72 rfl) rfl rfl ?_
      obtain ⟨p31, e0, h⟩ := Option.bind_eq_some_iff.mp h
      refine r_getR (dc_X2_copyOf 73 rfl) fl_RX2_35 e0 ?_
      refine r_iload_n (dc_X2_copyOf 74 rfl) rfl rfl ?_
      obtain ⟨p32, e0, h⟩ := Option.bind_eq_some_iff.mp h
      refine r_aaldR (dc_X2_copyOf 75 rfl) (kd := 3) rfl e0 ?_
      refine r_aload_n (dc_X2_copyOf 76 rfl) rfl rfl ?_
      obtain ⟨p33, e0, h⟩ := Option.bind_eq_some_iff.mp h
      refine r_getR (dc_X2_copyOf 77 rfl) fl_RX2_35 e0 ?_
      refine r_iload_n (dc_X2_copyOf 78 rfl) rfl rfl ?_
      obtain ⟨p34, e0, h⟩ := Option.bind_eq_some_iff.mp h
      refine r_aaldR (dc_X2_copyOf 79 rfl) (kd := 3) rfl e0 ?_
      obtain ⟨s35, e0, h⟩ := Option.bind_eq_some_iff.mp h
      refine r_callV (dc_X2_copyOf 80 rfl) mv_X1_copyOf ml_RX2_50 (As := [.ref p34]) (t_X1_copyOf (d := d - 1) hl (by omega) e0) (by omega) rfl (Nat.le_of_ble_eq_true rfl) ?_
      refine r_iinc (dc_X2_copyOf 81 rfl) rfl (kinc_1 _) (by decide) (lo' := [(2, .int (xL2 + (1 : Int32))), (0, .ref pL0), (1, .ref pL1)]) rfl ?_
      refine r_goto (dc_X2_copyOf 82 rfl) (tgt := 126) (by decide) ?_
      refine r_pick [1, 2, 0] (lo' := [(0, .ref pL0), (1, .ref pL1), (2, .int (xL2 + (1 : Int32)))]) rfl ?_
      exact ih _ _ h
theorem t_X2_copyOf {G : Gx} {d : Nat} (hl : G.1.stackTraces = false) (hd : 2 ≤ d) {σ : Sto} {a0 : Nat} {pa1 : Nat} {r : Sto} (h : F_X2_copyOf σ a0 pa1 = some r) : Mi G d m_X2_copyOf 2 a0 [.ref pa1] σ (.inl none) r := by
  rw [F_X2_copyOf] at h
  obtain ⟨hg, h⟩ := chk_some h
  refine ⟨J.toMt (lo := [(0, .ref a0), (1, .ref pa1)]) pn_RX2 rfl hl (Nat.le_of_ble_eq_true rfl) rfl ?_, hg⟩
  refine r_aload_n (dc_X2_copyOf 0 rfl) rfl rfl ?_
  refine r_aload_n (dc_X2_copyOf 1 rfl) rfl rfl ?_
  obtain ⟨x1, e0, h⟩ := Option.bind_eq_some_iff.mp h
  refine r_getI (dc_X2_copyOf 2 rfl) fl_RX2_40 e0 ?_
  obtain ⟨s2, e0, h⟩ := Option.bind_eq_some_iff.mp h
  refine r_put (dc_X2_copyOf 3 rfl) pl_RX2_40 rfl e0 ?_
  refine r_aload_n (dc_X2_copyOf 4 rfl) rfl rfl ?_
  obtain ⟨p3, e0, h⟩ := Option.bind_eq_some_iff.mp h
  refine r_getR (dc_X2_copyOf 5 rfl) fl_RX2_9 e0 ?_
  refine r_iconst (dc_X2_copyOf 6 rfl) kiconst_0 ?_
  refine r_aload_n (dc_X2_copyOf 7 rfl) rfl rfl ?_
  obtain ⟨p4, e0, h⟩ := Option.bind_eq_some_iff.mp h
  refine r_getR (dc_X2_copyOf 8 rfl) fl_RX2_9 e0 ?_
  refine r_iconst (dc_X2_copyOf 9 rfl) kiconst_0 ?_
  refine r_iconst (dc_X2_copyOf 10 rfl) kiconst_5 ?_
  obtain ⟨s5, e0, h⟩ := Option.bind_eq_some_iff.mp h
  refine r_acp (dc_X2_copyOf 11 rfl) ml_RX2_44 w_acp1 w_acp2 w_acp3 (by omega) (Nat.le_of_ble_eq_true rfl) e0 ?_
  refine r_aload_n (dc_X2_copyOf 12 rfl) rfl rfl ?_
  obtain ⟨p6, e0, h⟩ := Option.bind_eq_some_iff.mp h
  refine r_getR (dc_X2_copyOf 13 rfl) fl_RX2_15 e0 ?_
  refine r_iconst (dc_X2_copyOf 14 rfl) kiconst_0 ?_
  refine r_aload_n (dc_X2_copyOf 15 rfl) rfl rfl ?_
  obtain ⟨p7, e0, h⟩ := Option.bind_eq_some_iff.mp h
  refine r_getR (dc_X2_copyOf 16 rfl) fl_RX2_15 e0 ?_
  refine r_iconst (dc_X2_copyOf 17 rfl) kiconst_0 ?_
  refine r_aload_n (dc_X2_copyOf 18 rfl) rfl rfl ?_
  obtain ⟨x8, e0, h⟩ := Option.bind_eq_some_iff.mp h
  refine r_getI (dc_X2_copyOf 19 rfl) fl_RX2_40 e0 ?_
  obtain ⟨s9, e0, h⟩ := Option.bind_eq_some_iff.mp h
  refine r_acp (dc_X2_copyOf 20 rfl) ml_RX2_44 w_acp1 w_acp2 w_acp3 (by omega) (Nat.le_of_ble_eq_true rfl) e0 ?_
  refine r_aload_n (dc_X2_copyOf 21 rfl) rfl rfl ?_
  obtain ⟨p10, e0, h⟩ := Option.bind_eq_some_iff.mp h
  refine r_getR (dc_X2_copyOf 22 rfl) fl_RX2_18 e0 ?_
  refine r_iconst (dc_X2_copyOf 23 rfl) kiconst_0 ?_
  refine r_aload_n (dc_X2_copyOf 24 rfl) rfl rfl ?_
  obtain ⟨p11, e0, h⟩ := Option.bind_eq_some_iff.mp h
  refine r_getR (dc_X2_copyOf 25 rfl) fl_RX2_18 e0 ?_
  refine r_iconst (dc_X2_copyOf 26 rfl) kiconst_0 ?_
  refine r_aload_n (dc_X2_copyOf 27 rfl) rfl rfl ?_
  obtain ⟨x12, e0, h⟩ := Option.bind_eq_some_iff.mp h
  refine r_getI (dc_X2_copyOf 28 rfl) fl_RX2_40 e0 ?_
  obtain ⟨s13, e0, h⟩ := Option.bind_eq_some_iff.mp h
  refine r_acp (dc_X2_copyOf 29 rfl) ml_RX2_44 w_acp1 w_acp2 w_acp3 (by omega) (Nat.le_of_ble_eq_true rfl) e0 ?_
  refine r_aload_n (dc_X2_copyOf 30 rfl) rfl rfl ?_
  obtain ⟨p14, e0, h⟩ := Option.bind_eq_some_iff.mp h
  refine r_getR (dc_X2_copyOf 31 rfl) fl_RX2_21 e0 ?_
  refine r_iconst (dc_X2_copyOf 32 rfl) kiconst_0 ?_
  refine r_aload_n (dc_X2_copyOf 33 rfl) rfl rfl ?_
  obtain ⟨p15, e0, h⟩ := Option.bind_eq_some_iff.mp h
  refine r_getR (dc_X2_copyOf 34 rfl) fl_RX2_21 e0 ?_
  refine r_iconst (dc_X2_copyOf 35 rfl) kiconst_0 ?_
  refine r_aload_n (dc_X2_copyOf 36 rfl) rfl rfl ?_
  obtain ⟨x16, e0, h⟩ := Option.bind_eq_some_iff.mp h
  refine r_getI (dc_X2_copyOf 37 rfl) fl_RX2_40 e0 ?_
  obtain ⟨s17, e0, h⟩ := Option.bind_eq_some_iff.mp h
  refine r_acp (dc_X2_copyOf 38 rfl) ml_RX2_44 w_acp1 w_acp2 w_acp3 (by omega) (Nat.le_of_ble_eq_true rfl) e0 ?_
  refine r_aload_n (dc_X2_copyOf 39 rfl) rfl rfl ?_
  obtain ⟨p18, e0, h⟩ := Option.bind_eq_some_iff.mp h
  refine r_getR (dc_X2_copyOf 40 rfl) fl_RX2_24 e0 ?_
  refine r_iconst (dc_X2_copyOf 41 rfl) kiconst_0 ?_
  refine r_aload_n (dc_X2_copyOf 42 rfl) rfl rfl ?_
  obtain ⟨p19, e0, h⟩ := Option.bind_eq_some_iff.mp h
  refine r_getR (dc_X2_copyOf 43 rfl) fl_RX2_24 e0 ?_
  refine r_iconst (dc_X2_copyOf 44 rfl) kiconst_0 ?_
  refine r_aload_n (dc_X2_copyOf 45 rfl) rfl rfl ?_
  obtain ⟨x20, e0, h⟩ := Option.bind_eq_some_iff.mp h
  refine r_getI (dc_X2_copyOf 46 rfl) fl_RX2_40 e0 ?_
  obtain ⟨s21, e0, h⟩ := Option.bind_eq_some_iff.mp h
  refine r_acp (dc_X2_copyOf 47 rfl) ml_RX2_44 w_acp1 w_acp2 w_acp3 (by omega) (Nat.le_of_ble_eq_true rfl) e0 ?_
  refine r_aload_n (dc_X2_copyOf 48 rfl) rfl rfl ?_
  obtain ⟨p22, e0, h⟩ := Option.bind_eq_some_iff.mp h
  refine r_getR (dc_X2_copyOf 49 rfl) fl_RX2_27 e0 ?_
  refine r_iconst (dc_X2_copyOf 50 rfl) kiconst_0 ?_
  refine r_aload_n (dc_X2_copyOf 51 rfl) rfl rfl ?_
  obtain ⟨p23, e0, h⟩ := Option.bind_eq_some_iff.mp h
  refine r_getR (dc_X2_copyOf 52 rfl) fl_RX2_27 e0 ?_
  refine r_iconst (dc_X2_copyOf 53 rfl) kiconst_0 ?_
  refine r_aload_n (dc_X2_copyOf 54 rfl) rfl rfl ?_
  obtain ⟨x24, e0, h⟩ := Option.bind_eq_some_iff.mp h
  refine r_getI (dc_X2_copyOf 55 rfl) fl_RX2_40 e0 ?_
  obtain ⟨s25, e0, h⟩ := Option.bind_eq_some_iff.mp h
  refine r_acp (dc_X2_copyOf 56 rfl) ml_RX2_44 w_acp1 w_acp2 w_acp3 (by omega) (Nat.le_of_ble_eq_true rfl) e0 ?_
  refine r_aload_n (dc_X2_copyOf 57 rfl) rfl rfl ?_
  obtain ⟨p26, e0, h⟩ := Option.bind_eq_some_iff.mp h
  refine r_getR (dc_X2_copyOf 58 rfl) fl_RX2_30 e0 ?_
  refine r_iconst (dc_X2_copyOf 59 rfl) kiconst_0 ?_
  refine r_aload_n (dc_X2_copyOf 60 rfl) rfl rfl ?_
  obtain ⟨p27, e0, h⟩ := Option.bind_eq_some_iff.mp h
  refine r_getR (dc_X2_copyOf 61 rfl) fl_RX2_30 e0 ?_
  refine r_iconst (dc_X2_copyOf 62 rfl) kiconst_0 ?_
  refine r_aload_n (dc_X2_copyOf 63 rfl) rfl rfl ?_
  obtain ⟨x28, e0, h⟩ := Option.bind_eq_some_iff.mp h
  refine r_getI (dc_X2_copyOf 64 rfl) fl_RX2_40 e0 ?_
  obtain ⟨s29, e0, h⟩ := Option.bind_eq_some_iff.mp h
  refine r_acp (dc_X2_copyOf 65 rfl) ml_RX2_44 w_acp1 w_acp2 w_acp3 (by omega) (Nat.le_of_ble_eq_true rfl) e0 ?_
  refine r_iconst (dc_X2_copyOf 66 rfl) kiconst_0 ?_
  refine r_istore_n (dc_X2_copyOf 67 rfl) rfl (by decide) (lo' := [(2, .int (0 : Int32)), (0, .ref a0), (1, .ref pa1)]) rfl ?_
  refine r_pick [1, 2, 0] (lo' := [(0, .ref a0), (1, .ref pa1), (2, .int (0 : Int32))]) rfl ?_
  refine l_X2_copyOf_L126 hl hd (hk155 := ?_) fu _ _ h
  · intro s36 h
    cases h
    exact r_vreturn (dc_X2_copyOf 83 rfl) rfl
theorem t_X2_contains {G : Gx} {d : Nat} (hl : G.1.stackTraces = false) (hd : 0 ≤ d) {σ : Sto} {a0 : Nat} {xa1 : Int32} {r : Int32} (h : F_X2_contains σ a0 xa1 = some r) : Mi G d m_X2_contains 2 a0 [.int xa1] σ (.inl (some (.int r))) σ := by
  rw [F_X2_contains] at h
  obtain ⟨hg, h⟩ := chk_some h
  refine ⟨J.toMt (lo := [(0, .ref a0), (1, .int xa1)]) pn_RX2 rfl hl (Nat.le_of_ble_eq_true rfl) rfl ?_, hg⟩
  refine r_iload_n (dc_X2_contains 0 rfl) rfl rfl ?_
  refine r_if_lt (dc_X2_contains 1 rfl) (tgt := 16) (by decide) (fun c0 => ?_) (fun c0 => ?_)
  · rw [if_pos c0] at h
    refine r_iconst (dc_X2_contains 8 rfl) kiconst_0 ?_
    cases h
    exact r_zreturn (dc_X2_contains 9 rfl) rfl (Or.inl rfl)
  · rw [if_neg c0] at h
    refine r_iload_n (dc_X2_contains 2 rfl) rfl rfl ?_
    refine r_aload_n (dc_X2_contains 3 rfl) rfl rfl ?_
    obtain ⟨x1, e0, h⟩ := Option.bind_eq_some_iff.mp h
    refine r_getI (dc_X2_contains 4 rfl) fl_RX2_40 e0 ?_
    refine r_icmp_ge (dc_X2_contains 5 rfl) (tgt := 16) (by decide) (fun c0 => ?_) (fun c0 => ?_)
    · rw [if_pos c0] at h
      refine r_iconst (dc_X2_contains 8 rfl) kiconst_0 ?_
      cases h
      exact r_zreturn (dc_X2_contains 9 rfl) rfl (Or.inl rfl)
    · rw [if_neg c0] at h
      refine r_iconst (dc_X2_contains 6 rfl) kiconst_1 ?_
      refine r_goto (dc_X2_contains 7 rfl) (tgt := 17) (by decide) ?_
      cases h
      exact r_zreturn (dc_X2_contains 9 rfl) rfl (Or.inr rfl)
theorem t_X2_isFull {G : Gx} {d : Nat} (hl : G.1.stackTraces = false) (hd : 0 ≤ d) {σ : Sto} {a0 : Nat} {r : Int32} (h : F_X2_isFull σ a0 = some r) : Mi G d m_X2_isFull 2 a0 [] σ (.inl (some (.int r))) σ := by
  rw [F_X2_isFull] at h
  obtain ⟨hg, h⟩ := chk_some h
  refine ⟨J.toMt (lo := [(0, .ref a0)]) pn_RX2 rfl hl (Nat.le_of_ble_eq_true rfl) rfl ?_, hg⟩
  refine r_aload_n (dc_X2_isFull 0 rfl) rfl rfl ?_
  obtain ⟨x1, e0, h⟩ := Option.bind_eq_some_iff.mp h
  refine r_getI (dc_X2_isFull 1 rfl) fl_RX2_40 e0 ?_
  refine r_bipush (dc_X2_isFull 2 rfl) kbipush_120 ?_
  refine r_icmp_lt (dc_X2_isFull 3 rfl) (tgt := 13) (by decide) (fun c0 => ?_) (fun c0 => ?_)
  · rw [if_pos c0] at h
    refine r_iconst (dc_X2_isFull 6 rfl) kiconst_0 ?_
    cases h
    exact r_zreturn (dc_X2_isFull 7 rfl) rfl (Or.inl rfl)
  · rw [if_neg c0] at h
    refine r_iconst (dc_X2_isFull 4 rfl) kiconst_1 ?_
    refine r_goto (dc_X2_isFull 5 rfl) (tgt := 14) (by decide) ?_
    cases h
    exact r_zreturn (dc_X2_isFull 7 rfl) rfl (Or.inr rfl)
theorem t_X2_isOut {G : Gx} {d : Nat} (hl : G.1.stackTraces = false) (hd : 0 ≤ d) {σ : Sto} {a0 : Nat} {xa1 : Int32} {r : Int32} (h : F_X2_isOut σ a0 xa1 = some r) : Mi G d m_X2_isOut 2 a0 [.int xa1] σ (.inl (some (.int r))) σ := by
  rw [F_X2_isOut] at h
  obtain ⟨hg, h⟩ := chk_some h
  refine ⟨J.toMt (lo := [(0, .ref a0), (1, .int xa1)]) pn_RX2 rfl hl (Nat.le_of_ble_eq_true rfl) rfl ?_, hg⟩
  refine r_aload_n (dc_X2_isOut 0 rfl) rfl rfl ?_
  obtain ⟨p1, e0, h⟩ := Option.bind_eq_some_iff.mp h
  refine r_getR (dc_X2_isOut 1 rfl) fl_RX2_21 e0 ?_
  refine r_iload_n (dc_X2_isOut 2 rfl) rfl rfl ?_
  obtain ⟨x2, e0, h⟩ := Option.bind_eq_some_iff.mp h
  refine r_iald (dc_X2_isOut 3 rfl) e0 ?_
  refine r_iload_n (dc_X2_isOut 4 rfl) rfl rfl ?_
  refine r_icmp_eq (dc_X2_isOut 5 rfl) (tgt := 14) (by decide) (fun c0 => ?_) (fun c0 => ?_)
  · rw [if_pos c0] at h
    refine r_iconst (dc_X2_isOut 8 rfl) kiconst_0 ?_
    cases h
    exact r_zreturn (dc_X2_isOut 9 rfl) rfl (Or.inl rfl)
  · rw [if_neg c0] at h
    refine r_iconst (dc_X2_isOut 6 rfl) kiconst_1 ?_
    refine r_goto (dc_X2_isOut 7 rfl) (tgt := 15) (by decide) ?_
    cases h
    exact r_zreturn (dc_X2_isOut 9 rfl) rfl (Or.inr rfl)
theorem t_X2_isAhead {G : Gx} {d : Nat} (hl : G.1.stackTraces = false) (hd : 1 ≤ d) {σ : Sto} {a0 : Nat} {xa1 : Int32} {xa2 : Int32} {r : Int32} (h : F_X2_isAhead σ a0 xa1 xa2 = some r) : Mi G d m_X2_isAhead 2 a0 [.int xa1, .int xa2] σ (.inl (some (.int r))) σ := by
  rw [F_X2_isAhead] at h
  obtain ⟨hg, h⟩ := chk_some h
  refine ⟨J.toMt (lo := [(0, .ref a0), (1, .int xa1), (2, .int xa2)]) pn_RX2 rfl hl (Nat.le_of_ble_eq_true rfl) rfl ?_, hg⟩
  refine r_aload_n (dc_X2_isAhead 0 rfl) rfl rfl ?_
  obtain ⟨p1, e0, h⟩ := Option.bind_eq_some_iff.mp h
  refine r_getR (dc_X2_isAhead 1 rfl) fl_RX2_35 e0 ?_
  refine r_iload_n (dc_X2_isAhead 2 rfl) rfl rfl ?_
  obtain ⟨p2, e0, h⟩ := Option.bind_eq_some_iff.mp h
  refine r_aaldR (dc_X2_isAhead 3 rfl) (kd := 3) rfl e0 ?_
  refine r_iload_n (dc_X2_isAhead 4 rfl) rfl rfl ?_
  obtain ⟨x3, e0, h⟩ := Option.bind_eq_some_iff.mp h
  refine r_callV (dc_X2_isAhead 5 rfl) mv_X1_holds ml_RX2_54 (As := [.int xa1]) (t_X1_holds (d := d - 1) hl (by omega) e0) (by omega) rfl (Nat.le_of_ble_eq_true rfl) ?_
  split at h
  · rename_i c0
    cases h
    exact r_zreturn (dc_X2_isAhead 6 rfl) rfl c0
  · cases h
theorem l_X2_append_L95 {G : Gx} {d : Nat} (hl : G.1.stackTraces = false) (hd : 1 ≤ d) {pL0 : Nat} {pL5 : Nat} {xL6 : Int32} {r : (Int32 × Sto)} {k151 : Sto → Option (Int32 × Sto)}
    (hk151 : ∀ (sL : Sto), k151 sL = some r → J G d m_X2_append 151 [(6, .int xL6)] [] sL (.inl (some (.int r.1))) r.2)
  : ∀ (f : Nat) (xL7 : Int32) (sL : Sto), F_X2_append_L95 pL0 pL5 xL6 f xL7 sL k151 = some r → J G d m_X2_append 95 [(0, .ref pL0), (5, .ref pL5), (6, .int xL6), (7, .int xL7)] [] sL (.inl (some (.int r.1))) r.2 := by
  intro f
  induction f with
  | zero => intro xL7 sL h; rw [F_X2_append_L95] at h; cases h
  | succ f ih =>
    intro xL7 sL h
    rw [F_X2_append_L95] at h
    refine r_iload (dc_X2_append 58 rfl) rfl ?_
    refine r_iload (dc_X2_append 59 rfl) rfl ?_
    refine r_icmp_ge (dc_X2_append 60 rfl) (tgt := 151) (by decide) (fun c0 => ?_) (fun c0 => ?_)
    · rw [if_pos c0] at h
      refine r_pick [2] (lo' := [(6, .int xL6)]) rfl ?_
      exact hk151 _ h
    · rw [if_neg c0] at h
      refine r_aload_n (dc_X2_append 61 rfl) rfl rfl ?_
      obtain ⟨p24, e0, h⟩ := Option.bind_eq_some_iff.mp h
      refine r_getR (dc_X2_append 62 rfl) fl_RX2_30 e0 ?_
      refine r_iload (dc_X2_append 63 rfl) rfl ?_
      obtain ⟨x25, e0, h⟩ := Option.bind_eq_some_iff.mp h
      refine r_iald (dc_X2_append 64 rfl) e0 ?_
      refine r_aload_n (dc_X2_append 65 rfl) rfl rfl ?_
      obtain ⟨p26, e0, h⟩ := Option.bind_eq_some_iff.mp h
      refine r_getR (dc_X2_append 66 rfl) fl_RX2_30 e0 ?_
      refine r_iload (dc_X2_append 67 rfl) rfl ?_
      obtain ⟨x27, e0, h⟩ := Option.bind_eq_some_iff.mp h
      refine r_iald (dc_X2_append 68 rfl) e0 ?_
      refine r_icmp_lt (dc_X2_append 69 rfl) (tgt := 145) (by decide) (fun c0 => ?_) (fun c0 => ?_)
      · rw [if_pos c0] at h
        refine r_iinc (dc_X2_append 84 rfl) rfl (kinc_1 _) (by decide) (lo' := [(7, .int (xL7 + (1 : Int32))), (0, .ref pL0), (5, .ref pL5), (6, .int xL6)]) rfl ?_
        refine r_goto (dc_X2_append 85 rfl) (tgt := 95) (by decide) ?_
        refine r_pick [1, 2, 3, 0] (lo' := [(0, .ref pL0), (5, .ref pL5), (6, .int xL6), (7, .int (xL7 + (1 : Int32)))]) rfl ?_
        exact ih _ _ h
      · rw [if_neg c0] at h
        refine r_aload (dc_X2_append 70 rfl) rfl ?_
        refine r_iload (dc_X2_append 71 rfl) rfl ?_
        obtain ⟨x28, e0, h⟩ := Option.bind_eq_some_iff.mp h
        refine r_callV (dc_X2_append 72 rfl) mv_X1_holds ml_RX2_54 (As := [.int xL7]) (t_X1_holds (d := d - 1) hl (by omega) e0) (by omega) rfl (Nat.le_of_ble_eq_true rfl) ?_
        refine r_if_eq (dc_X2_append 73 rfl) (tgt := 145) (by decide) (fun c0 => ?_) (fun c0 => ?_)
        · rw [if_pos c0] at h
          refine r_iinc (dc_X2_append 84 rfl) rfl (kinc_1 _) (by decide) (lo' := [(7, .int (xL7 + (1 : Int32))), (0, .ref pL0), (5, .ref pL5), (6, .int xL6)]) rfl ?_
          refine r_goto (dc_X2_append 85 rfl) (tgt := 95) (by decide) ?_
          refine r_pick [1, 2, 3, 0] (lo' := [(0, .ref pL0), (5, .ref pL5), (6, .int xL6), (7, .int (xL7 + (1 : Int32)))]) rfl ?_
          exact ih _ _ h
        · rw [if_neg c0] at h
          refine r_aload_n (dc_X2_append 74 rfl) rfl rfl ?_
          obtain ⟨p29, e0, h⟩ := Option.bind_eq_some_iff.mp h
          refine r_getR (dc_X2_append 75 rfl) fl_RX2_30 e0 ?_
          refine r_iload (dc_X2_append 76 rfl) rfl ?_
          refine r_aload_n (dc_X2_append 77 rfl) rfl rfl ?_
          obtain ⟨p30, e0, h⟩ := Option.bind_eq_some_iff.mp h
          refine r_getR (dc_X2_append 78 rfl) fl_RX2_30 e0 ?_
          refine r_iload (dc_X2_append 79 rfl) rfl ?_
          obtain ⟨x31, e0, h⟩ := Option.bind_eq_some_iff.mp h
          refine r_iald (dc_X2_append 80 rfl) e0 ?_
          refine r_iconst (dc_X2_append 81 rfl) kiconst_1 ?_
          refine r_iadd (dc_X2_append 82 rfl) ?_
          obtain ⟨s32, e0, h⟩ := Option.bind_eq_some_iff.mp h
          refine r_iast (dc_X2_append 83 rfl) e0 ?_
          refine r_iinc (dc_X2_append 84 rfl) rfl (kinc_1 _) (by decide) (lo' := [(7, .int (xL7 + (1 : Int32))), (0, .ref pL0), (5, .ref pL5), (6, .int xL6)]) rfl ?_
          refine r_goto (dc_X2_append 85 rfl) (tgt := 95) (by decide) ?_
          refine r_pick [1, 2, 3, 0] (lo' := [(0, .ref pL0), (5, .ref pL5), (6, .int xL6), (7, .int (xL7 + (1 : Int32)))]) rfl ?_
          exact ih _ _ h
theorem t_X2_append {G : Gx} {d : Nat} (hl : G.1.stackTraces = false) (hd : 1 ≤ d) {σ : Sto} {a0 : Nat} {xa1 : Int32} {xa2 : Int32} {xa3 : Int32} {xa4 : Int32} {pa5 : Nat} {r : (Int32 × Sto)} (h : F_X2_append σ a0 xa1 xa2 xa3 xa4 pa5 = some r) : Mi G d m_X2_append 2 a0 [.int xa1, .int xa2, .int xa3, .int xa4, .ref pa5] σ (.inl (some (.int r.1))) r.2 := by
  rw [F_X2_append] at h
  obtain ⟨hg, h⟩ := chk_some h
  refine ⟨J.toMt (lo := [(0, .ref a0), (1, .int xa1), (2, .int xa2), (3, .int xa3), (4, .int xa4), (5, .ref pa5)]) pn_RX2 rfl hl (Nat.le_of_ble_eq_true rfl) rfl ?_, hg⟩
  refine r_aload_n (dc_X2_append 0 rfl) rfl rfl ?_
  obtain ⟨x1, e0, h⟩ := Option.bind_eq_some_iff.mp h
  refine r_getI (dc_X2_append 1 rfl) fl_RX2_40 e0 ?_
  refine r_istore (dc_X2_append 2 rfl) (by decide) (lo' := [(6, .int x1), (0, .ref a0), (1, .int xa1), (2, .int xa2), (3, .int xa3), (4, .int xa4), (5, .ref pa5)]) rfl ?_
  refine r_aload_n (dc_X2_append 3 rfl) rfl rfl ?_
  refine r_dup (dc_X2_append 4 rfl) rfl ?_
  obtain ⟨x2, e0, h⟩ := Option.bind_eq_some_iff.mp h
  refine r_getI (dc_X2_append 5 rfl) fl_RX2_40 e0 ?_
  refine r_iconst (dc_X2_append 6 rfl) kiconst_1 ?_
  refine r_iadd (dc_X2_append 7 rfl) ?_
  obtain ⟨s3, e0, h⟩ := Option.bind_eq_some_iff.mp h
  refine r_put (dc_X2_append 8 rfl) pl_RX2_40 rfl e0 ?_
  refine r_aload_n (dc_X2_append 9 rfl) rfl rfl ?_
  obtain ⟨p4, e0, h⟩ := Option.bind_eq_some_iff.mp h
  refine r_getR (dc_X2_append 10 rfl) fl_RX2_9 e0 ?_
  refine r_iload_n (dc_X2_append 11 rfl) rfl rfl ?_
  refine r_dup2 (dc_X2_append 12 rfl) rfl rfl ?_
  obtain ⟨x5, e0, h⟩ := Option.bind_eq_some_iff.mp h
  refine r_iald (dc_X2_append 13 rfl) e0 ?_
  refine r_iconst (dc_X2_append 14 rfl) kiconst_1 ?_
  refine r_iadd (dc_X2_append 15 rfl) ?_
  obtain ⟨s6, e0, h⟩ := Option.bind_eq_some_iff.mp h
  refine r_iast (dc_X2_append 16 rfl) e0 ?_
  refine r_aload_n (dc_X2_append 17 rfl) rfl rfl ?_
  obtain ⟨p7, e0, h⟩ := Option.bind_eq_some_iff.mp h
  refine r_getR (dc_X2_append 18 rfl) fl_RX2_15 e0 ?_
  refine r_iload (dc_X2_append 19 rfl) rfl ?_
  refine r_iload_n (dc_X2_append 20 rfl) rfl rfl ?_
  obtain ⟨s8, e0, h⟩ := Option.bind_eq_some_iff.mp h
  refine r_iast (dc_X2_append 21 rfl) e0 ?_
  refine r_aload_n (dc_X2_append 22 rfl) rfl rfl ?_
  obtain ⟨p9, e0, h⟩ := Option.bind_eq_some_iff.mp h
  refine r_getR (dc_X2_append 23 rfl) fl_RX2_18 e0 ?_
  refine r_iload (dc_X2_append 24 rfl) rfl ?_
  refine r_aload_n (dc_X2_append 25 rfl) rfl rfl ?_
  obtain ⟨p10, e0, h⟩ := Option.bind_eq_some_iff.mp h
  refine r_getR (dc_X2_append 26 rfl) fl_RX2_9 e0 ?_
  refine r_iload_n (dc_X2_append 27 rfl) rfl rfl ?_
  obtain ⟨x11, e0, h⟩ := Option.bind_eq_some_iff.mp h
  refine r_iald (dc_X2_append 28 rfl) e0 ?_
  obtain ⟨s12, e0, h⟩ := Option.bind_eq_some_iff.mp h
  refine r_iast (dc_X2_append 29 rfl) e0 ?_
  refine r_aload_n (dc_X2_append 30 rfl) rfl rfl ?_
  obtain ⟨p13, e0, h⟩ := Option.bind_eq_some_iff.mp h
  refine r_getR (dc_X2_append 31 rfl) fl_RX2_21 e0 ?_
  refine r_iload (dc_X2_append 32 rfl) rfl ?_
  refine r_iload_n (dc_X2_append 33 rfl) rfl rfl ?_
  obtain ⟨s14, e0, h⟩ := Option.bind_eq_some_iff.mp h
  refine r_iast (dc_X2_append 34 rfl) e0 ?_
  refine r_aload_n (dc_X2_append 35 rfl) rfl rfl ?_
  obtain ⟨p15, e0, h⟩ := Option.bind_eq_some_iff.mp h
  refine r_getR (dc_X2_append 36 rfl) fl_RX2_24 e0 ?_
  refine r_iload (dc_X2_append 37 rfl) rfl ?_
  refine r_iload_n (dc_X2_append 38 rfl) rfl rfl ?_
  obtain ⟨s16, e0, h⟩ := Option.bind_eq_some_iff.mp h
  refine r_iast (dc_X2_append 39 rfl) e0 ?_
  refine r_aload_n (dc_X2_append 40 rfl) rfl rfl ?_
  obtain ⟨p17, e0, h⟩ := Option.bind_eq_some_iff.mp h
  refine r_getR (dc_X2_append 41 rfl) fl_RX2_27 e0 ?_
  refine r_iload (dc_X2_append 42 rfl) rfl ?_
  refine r_iload (dc_X2_append 43 rfl) rfl ?_
  obtain ⟨s18, e0, h⟩ := Option.bind_eq_some_iff.mp h
  refine r_iast (dc_X2_append 44 rfl) e0 ?_
  refine r_aload_n (dc_X2_append 45 rfl) rfl rfl ?_
  obtain ⟨p19, e0, h⟩ := Option.bind_eq_some_iff.mp h
  refine r_getR (dc_X2_append 46 rfl) fl_RX2_35 e0 ?_
  refine r_iload (dc_X2_append 47 rfl) rfl ?_
  obtain ⟨p20, e0, h⟩ := Option.bind_eq_some_iff.mp h
  refine r_aaldR (dc_X2_append 48 rfl) (kd := 3) rfl e0 ?_
  refine r_aload (dc_X2_append 49 rfl) rfl ?_
  obtain ⟨s21, e0, h⟩ := Option.bind_eq_some_iff.mp h
  refine r_callV (dc_X2_append 50 rfl) mv_X1_copyOf ml_RX2_50 (As := [.ref pa5]) (t_X1_copyOf (d := d - 1) hl (by omega) e0) (by omega) rfl (Nat.le_of_ble_eq_true rfl) ?_
  refine r_aload_n (dc_X2_append 51 rfl) rfl rfl ?_
  obtain ⟨p22, e0, h⟩ := Option.bind_eq_some_iff.mp h
  refine r_getR (dc_X2_append 52 rfl) fl_RX2_30 e0 ?_
  refine r_iload (dc_X2_append 53 rfl) rfl ?_
  refine r_iconst (dc_X2_append 54 rfl) kiconst_1 ?_
  obtain ⟨s23, e0, h⟩ := Option.bind_eq_some_iff.mp h
  refine r_iast (dc_X2_append 55 rfl) e0 ?_
  refine r_iconst (dc_X2_append 56 rfl) kiconst_0 ?_
  refine r_istore (dc_X2_append 57 rfl) (by decide) (lo' := [(7, .int (0 : Int32)), (6, .int x1), (0, .ref a0), (1, .int xa1), (2, .int xa2), (3, .int xa3), (4, .int xa4), (5, .ref pa5)]) rfl ?_
  refine r_pick [2, 7, 1, 0] (lo' := [(0, .ref a0), (5, .ref pa5), (6, .int x1), (7, .int (0 : Int32))]) rfl ?_
  refine l_X2_append_L95 hl hd (hk151 := ?_) fu _ _ h
  · intro s33 h
    refine r_iload (dc_X2_append 86 rfl) rfl ?_
    cases h
    exact r_ireturn (dc_X2_append 87 rfl) rfl
theorem l_X2_concurrentWith_L16 {G : Gx} {d : Nat} (hl : G.1.stackTraces = false) (hd : 2 ≤ d) {sL : Sto} {pL0 : Nat} {xL1 : Int32} {r : Int32} {k46 : Int32 → Option Int32}
    (hk46 : ∀ (xL2 : Int32), k46 xL2 = some r → J G d m_X2_concurrentWith 46 [(2, .int xL2)] [] sL (.inl (some (.int r))) sL)
  : ∀ (f : Nat) (xL2 : Int32) (xL3 : Int32), F_X2_concurrentWith_L16 sL pL0 xL1 f xL2 xL3 k46 = some r → J G d m_X2_concurrentWith 16 [(0, .ref pL0), (1, .int xL1), (2, .int xL2), (3, .int xL3)] [] sL (.inl (some (.int r))) sL := by
  intro f
  induction f with
  | zero => intro xL2 xL3 h; rw [F_X2_concurrentWith_L16] at h; cases h
  | succ f ih =>
    intro xL2 xL3 h
    rw [F_X2_concurrentWith_L16] at h
    refine r_iload_n (dc_X2_concurrentWith 12 rfl) rfl rfl ?_
    refine r_aload_n (dc_X2_concurrentWith 13 rfl) rfl rfl ?_
    obtain ⟨x4, e0, h⟩ := Option.bind_eq_some_iff.mp h
    refine r_getI (dc_X2_concurrentWith 14 rfl) fl_RX2_40 e0 ?_
    refine r_icmp_ge (dc_X2_concurrentWith 15 rfl) (tgt := 46) (by decide) (fun c0 => ?_) (fun c0 => ?_)
    · rw [if_pos c0] at h
      refine r_pick [2] (lo' := [(2, .int xL2)]) rfl ?_
      exact hk46 _ h
    · rw [if_neg c0] at h
      refine r_aload_n (dc_X2_concurrentWith 16 rfl) rfl rfl ?_
      obtain ⟨p5, e0, h⟩ := Option.bind_eq_some_iff.mp h
      refine r_getR (dc_X2_concurrentWith 17 rfl) fl_RX2_35 e0 ?_
      refine r_iload_n (dc_X2_concurrentWith 18 rfl) rfl rfl ?_
      obtain ⟨p6, e0, h⟩ := Option.bind_eq_some_iff.mp h
      refine r_aaldR (dc_X2_concurrentWith 19 rfl) (kd := 3) rfl e0 ?_
      refine r_iload_n (dc_X2_concurrentWith 20 rfl) rfl rfl ?_
      obtain ⟨x7, e0, h⟩ := Option.bind_eq_some_iff.mp h
      refine r_callV (dc_X2_concurrentWith 21 rfl) mv_X1_holds ml_RX2_54 (As := [.int xL1]) (t_X1_holds (d := d - 1) hl (by omega) e0) (by omega) rfl (Nat.le_of_ble_eq_true rfl) ?_
      refine r_if_ne (dc_X2_concurrentWith 22 rfl) (tgt := 40) (by decide) (fun c0 => ?_) (fun c0 => ?_)
      · rw [if_neg c0] at h
        refine r_iinc (dc_X2_concurrentWith 24 rfl) rfl (kinc_1 _) (by decide) (lo' := [(3, .int (xL3 + (1 : Int32))), (0, .ref pL0), (1, .int xL1), (2, .int xL2)]) rfl ?_
        refine r_goto (dc_X2_concurrentWith 25 rfl) (tgt := 16) (by decide) ?_
        refine r_pick [1, 2, 3, 0] (lo' := [(0, .ref pL0), (1, .int xL1), (2, .int xL2), (3, .int (xL3 + (1 : Int32)))]) rfl ?_
        exact ih _ _ h
      · rw [if_pos c0] at h
        refine r_iinc (dc_X2_concurrentWith 23 rfl) rfl (kinc_1 _) (by decide) (lo' := [(2, .int (xL2 + (1 : Int32))), (0, .ref pL0), (1, .int xL1), (3, .int xL3)]) rfl ?_
        refine r_iinc (dc_X2_concurrentWith 24 rfl) rfl (kinc_1 _) (by decide) (lo' := [(3, .int (xL3 + (1 : Int32))), (2, .int (xL2 + (1 : Int32))), (0, .ref pL0), (1, .int xL1)]) rfl ?_
        refine r_goto (dc_X2_concurrentWith 25 rfl) (tgt := 16) (by decide) ?_
        refine r_pick [2, 3, 1, 0] (lo' := [(0, .ref pL0), (1, .int xL1), (2, .int (xL2 + (1 : Int32))), (3, .int (xL3 + (1 : Int32)))]) rfl ?_
        exact ih _ _ h
theorem t_X2_concurrentWith {G : Gx} {d : Nat} (hl : G.1.stackTraces = false) (hd : 2 ≤ d) {σ : Sto} {a0 : Nat} {xa1 : Int32} {r : Int32} (h : F_X2_concurrentWith σ a0 xa1 = some r) : Mi G d m_X2_concurrentWith 2 a0 [.int xa1] σ (.inl (some (.int r))) σ := by
  rw [F_X2_concurrentWith] at h
  obtain ⟨hg, h⟩ := chk_some h
  refine ⟨J.toMt (lo := [(0, .ref a0), (1, .int xa1)]) pn_RX2 rfl hl (Nat.le_of_ble_eq_true rfl) rfl ?_, hg⟩
  refine r_iload_n (dc_X2_concurrentWith 0 rfl) rfl rfl ?_
  refine r_aload_n (dc_X2_concurrentWith 1 rfl) rfl rfl ?_
  obtain ⟨p1, e0, h⟩ := Option.bind_eq_some_iff.mp h
  refine r_getR (dc_X2_concurrentWith 2 rfl) fl_RX2_35 e0 ?_
  refine r_iload_n (dc_X2_concurrentWith 3 rfl) rfl rfl ?_
  obtain ⟨p2, e0, h⟩ := Option.bind_eq_some_iff.mp h
  refine r_aaldR (dc_X2_concurrentWith 4 rfl) (kd := 3) rfl e0 ?_
  obtain ⟨x3, e0, h⟩ := Option.bind_eq_some_iff.mp h
  refine r_callV (dc_X2_concurrentWith 5 rfl) mv_X1_size ml_RX2_58 (As := []) (t_X1_size (d := d - 1) hl (by omega) e0) (by omega) rfl (Nat.le_of_ble_eq_true rfl) ?_
  refine r_isub (dc_X2_concurrentWith 6 rfl) ?_
  refine r_istore_n (dc_X2_concurrentWith 7 rfl) rfl (by decide) (lo' := [(2, .int (xa1 - x3)), (0, .ref a0), (1, .int xa1)]) rfl ?_
  refine r_iload_n (dc_X2_concurrentWith 8 rfl) rfl rfl ?_
  refine r_iconst (dc_X2_concurrentWith 9 rfl) kiconst_1 ?_
  refine r_iadd (dc_X2_concurrentWith 10 rfl) ?_
  refine r_istore_n (dc_X2_concurrentWith 11 rfl) rfl (by decide) (lo' := [(3, .int (xa1 + (1 : Int32))), (2, .int (xa1 - x3)), (0, .ref a0), (1, .int xa1)]) rfl ?_
  refine r_pick [2, 3, 1, 0] (lo' := [(0, .ref a0), (1, .int xa1), (2, .int (xa1 - x3)), (3, .int (xa1 + (1 : Int32)))]) rfl ?_
  refine l_X2_concurrentWith_L16 hl hd (hk46 := ?_) fu _ _ h
  · intro x8 h
    refine r_iload_n (dc_X2_concurrentWith 26 rfl) rfl rfl ?_
    cases h
    exact r_ireturn (dc_X2_concurrentWith 27 rfl) rfl
theorem l_X2_concurrentCouples_L4 {G : Gx} {d : Nat} (hl : G.1.stackTraces = false) (hd : 2 ≤ d) {sL : Sto} {pL0 : Nat} {r : Int32} {k32 : Int32 → Option Int32}
    (hk32 : ∀ (xL1 : Int32), k32 xL1 = some r → J G d m_X2_concurrentCouples 32 [(1, .int xL1)] [] sL (.inl (some (.int r))) sL)
  : ∀ (f : Nat) (xL1 : Int32) (xL2 : Int32), F_X2_concurrentCouples_L4 sL pL0 f xL1 xL2 k32 = some r → J G d m_X2_concurrentCouples 4 [(0, .ref pL0), (1, .int xL1), (2, .int xL2)] [] sL (.inl (some (.int r))) sL := by
  intro f
  induction f with
  | zero => intro xL1 xL2 h; rw [F_X2_concurrentCouples_L4] at h; cases h
  | succ f ih =>
    intro xL1 xL2 h
    rw [F_X2_concurrentCouples_L4] at h
    refine r_iload_n (dc_X2_concurrentCouples 4 rfl) rfl rfl ?_
    refine r_aload_n (dc_X2_concurrentCouples 5 rfl) rfl rfl ?_
    obtain ⟨x1, e0, h⟩ := Option.bind_eq_some_iff.mp h
    refine r_getI (dc_X2_concurrentCouples 6 rfl) fl_RX2_40 e0 ?_
    refine r_icmp_ge (dc_X2_concurrentCouples 7 rfl) (tgt := 32) (by decide) (fun c0 => ?_) (fun c0 => ?_)
    · rw [if_pos c0] at h
      refine r_pick [1] (lo' := [(1, .int xL1)]) rfl ?_
      exact hk32 _ h
    · rw [if_neg c0] at h
      refine r_iload_n (dc_X2_concurrentCouples 8 rfl) rfl rfl ?_
      refine r_iload_n (dc_X2_concurrentCouples 9 rfl) rfl rfl ?_
      refine r_aload_n (dc_X2_concurrentCouples 10 rfl) rfl rfl ?_
      obtain ⟨p2, e0, h⟩ := Option.bind_eq_some_iff.mp h
      refine r_getR (dc_X2_concurrentCouples 11 rfl) fl_RX2_35 e0 ?_
      refine r_iload_n (dc_X2_concurrentCouples 12 rfl) rfl rfl ?_
      obtain ⟨p3, e0, h⟩ := Option.bind_eq_some_iff.mp h
      refine r_aaldR (dc_X2_concurrentCouples 13 rfl) (kd := 3) rfl e0 ?_
      obtain ⟨x4, e0, h⟩ := Option.bind_eq_some_iff.mp h
      refine r_callV (dc_X2_concurrentCouples 14 rfl) mv_X1_size ml_RX2_58 (As := []) (t_X1_size (d := d - 1) hl (by omega) e0) (by omega) rfl (Nat.le_of_ble_eq_true rfl) ?_
      refine r_isub (dc_X2_concurrentCouples 15 rfl) ?_
      refine r_iadd (dc_X2_concurrentCouples 16 rfl) ?_
      refine r_istore_n (dc_X2_concurrentCouples 17 rfl) rfl (by decide) (lo' := [(1, .int (xL1 + (xL2 - x4))), (0, .ref pL0), (2, .int xL2)]) rfl ?_
      refine r_iinc (dc_X2_concurrentCouples 18 rfl) rfl (kinc_1 _) (by decide) (lo' := [(2, .int (xL2 + (1 : Int32))), (1, .int (xL1 + (xL2 - x4))), (0, .ref pL0)]) rfl ?_
      refine r_goto (dc_X2_concurrentCouples 19 rfl) (tgt := 4) (by decide) ?_
      refine r_pick [2, 1, 0] (lo' := [(0, .ref pL0), (1, .int (xL1 + (xL2 - x4))), (2, .int (xL2 + (1 : Int32)))]) rfl ?_
      exact ih _ _ h
theorem t_X2_concurrentCouples {G : Gx} {d : Nat} (hl : G.1.stackTraces = false) (hd : 2 ≤ d) {σ : Sto} {a0 : Nat} {r : Int32} (h : F_X2_concurrentCouples σ a0 = some r) : Mi G d m_X2_concurrentCouples 2 a0 [] σ (.inl (some (.int r))) σ := by
  rw [F_X2_concurrentCouples] at h
  obtain ⟨hg, h⟩ := chk_some h
  refine ⟨J.toMt (lo := [(0, .ref a0)]) pn_RX2 rfl hl (Nat.le_of_ble_eq_true rfl) rfl ?_, hg⟩
  refine r_iconst (dc_X2_concurrentCouples 0 rfl) kiconst_0 ?_
  refine r_istore_n (dc_X2_concurrentCouples 1 rfl) rfl (by decide) (lo' := [(1, .int (0 : Int32)), (0, .ref a0)]) rfl ?_
  refine r_iconst (dc_X2_concurrentCouples 2 rfl) kiconst_0 ?_
  refine r_istore_n (dc_X2_concurrentCouples 3 rfl) rfl (by decide) (lo' := [(2, .int (0 : Int32)), (1, .int (0 : Int32)), (0, .ref a0)]) rfl ?_
  refine r_pick [2, 1, 0] (lo' := [(0, .ref a0), (1, .int (0 : Int32)), (2, .int (0 : Int32))]) rfl ?_
  refine l_X2_concurrentCouples_L4 hl hd (hk32 := ?_) fu _ _ h
  · intro x5 h
    refine r_iload_n (dc_X2_concurrentCouples 20 rfl) rfl rfl ?_
    cases h
    exact r_ireturn (dc_X2_concurrentCouples 21 rfl) rfl
theorem l_X2_highest_L4 {G : Gx} {d : Nat} (hl : G.1.stackTraces = false) (hd : 0 ≤ d) {sL : Sto} {pL0 : Nat} {r : Int32} {k40 : Int32 → Option Int32}
    (hk40 : ∀ (xL1 : Int32), k40 xL1 = some r → J G d m_X2_highest 40 [(1, .int xL1)] [] sL (.inl (some (.int r))) sL)
  : ∀ (f : Nat) (xL1 : Int32) (xL2 : Int32), F_X2_highest_L4 sL pL0 f xL1 xL2 k40 = some r → J G d m_X2_highest 4 [(0, .ref pL0), (1, .int xL1), (2, .int xL2)] [] sL (.inl (some (.int r))) sL := by
  intro f
  induction f with
  | zero => intro xL1 xL2 h; rw [F_X2_highest_L4] at h; cases h
  | succ f ih =>
    intro xL1 xL2 h
    rw [F_X2_highest_L4] at h
    refine r_iload_n (dc_X2_highest 4 rfl) rfl rfl ?_
    refine r_aload_n (dc_X2_highest 5 rfl) rfl rfl ?_
    obtain ⟨x1, e0, h⟩ := Option.bind_eq_some_iff.mp h
    refine r_getI (dc_X2_highest 6 rfl) fl_RX2_40 e0 ?_
    refine r_icmp_ge (dc_X2_highest 7 rfl) (tgt := 40) (by decide) (fun c0 => ?_) (fun c0 => ?_)
    · rw [if_pos c0] at h
      refine r_pick [1] (lo' := [(1, .int xL1)]) rfl ?_
      exact hk40 _ h
    · rw [if_neg c0] at h
      refine r_iload_n (dc_X2_highest 8 rfl) rfl rfl ?_
      refine r_iconst (dc_X2_highest 9 rfl) kiconst_m1 ?_
      refine r_icmp_eq (dc_X2_highest 10 rfl) (tgt := 32) (by decide) (fun c0 => ?_) (fun c0 => ?_)
      · rw [if_pos c0] at h
        refine r_iload_n (dc_X2_highest 20 rfl) rfl rfl ?_
        refine r_istore_n (dc_X2_highest 21 rfl) rfl (by decide) (lo' := [(1, .int xL2), (0, .ref pL0), (2, .int xL2)]) rfl ?_
        refine r_iinc (dc_X2_highest 22 rfl) rfl (kinc_1 _) (by decide) (lo' := [(2, .int (xL2 + (1 : Int32))), (1, .int xL2), (0, .ref pL0)]) rfl ?_
        refine r_goto (dc_X2_highest 23 rfl) (tgt := 4) (by decide) ?_
        refine r_pick [2, 1, 0] (lo' := [(0, .ref pL0), (1, .int xL2), (2, .int (xL2 + (1 : Int32)))]) rfl ?_
        exact ih _ _ h
      · rw [if_neg c0] at h
        refine r_aload_n (dc_X2_highest 11 rfl) rfl rfl ?_
        obtain ⟨p2, e0, h⟩ := Option.bind_eq_some_iff.mp h
        refine r_getR (dc_X2_highest 12 rfl) fl_RX2_30 e0 ?_
        refine r_iload_n (dc_X2_highest 13 rfl) rfl rfl ?_
        obtain ⟨x3, e0, h⟩ := Option.bind_eq_some_iff.mp h
        refine r_iald (dc_X2_highest 14 rfl) e0 ?_
        refine r_aload_n (dc_X2_highest 15 rfl) rfl rfl ?_
        obtain ⟨p4, e0, h⟩ := Option.bind_eq_some_iff.mp h
        refine r_getR (dc_X2_highest 16 rfl) fl_RX2_30 e0 ?_
        refine r_iload_n (dc_X2_highest 17 rfl) rfl rfl ?_
        obtain ⟨x5, e0, h⟩ := Option.bind_eq_some_iff.mp h
        refine r_iald (dc_X2_highest 18 rfl) e0 ?_
        refine r_icmp_le (dc_X2_highest 19 rfl) (tgt := 34) (by decide) (fun c0 => ?_) (fun c0 => ?_)
        · rw [if_pos c0] at h
          refine r_iinc (dc_X2_highest 22 rfl) rfl (kinc_1 _) (by decide) (lo' := [(2, .int (xL2 + (1 : Int32))), (0, .ref pL0), (1, .int xL1)]) rfl ?_
          refine r_goto (dc_X2_highest 23 rfl) (tgt := 4) (by decide) ?_
          refine r_pick [1, 2, 0] (lo' := [(0, .ref pL0), (1, .int xL1), (2, .int (xL2 + (1 : Int32)))]) rfl ?_
          exact ih _ _ h
        · rw [if_neg c0] at h
          refine r_iload_n (dc_X2_highest 20 rfl) rfl rfl ?_
          refine r_istore_n (dc_X2_highest 21 rfl) rfl (by decide) (lo' := [(1, .int xL2), (0, .ref pL0), (2, .int xL2)]) rfl ?_
          refine r_iinc (dc_X2_highest 22 rfl) rfl (kinc_1 _) (by decide) (lo' := [(2, .int (xL2 + (1 : Int32))), (1, .int xL2), (0, .ref pL0)]) rfl ?_
          refine r_goto (dc_X2_highest 23 rfl) (tgt := 4) (by decide) ?_
          refine r_pick [2, 1, 0] (lo' := [(0, .ref pL0), (1, .int xL2), (2, .int (xL2 + (1 : Int32)))]) rfl ?_
          exact ih _ _ h
