theorem t_L_sites {G : Gx} {d : Nat} (hl : G.1.stackTraces = false) (hd : 7 ≤ d) {σ : Sto} {pa0 : Nat} {xa1 : Int32} {pa2 : Nat} {r : (Int32 × Sto)} (h : F_L_sites σ pa0 xa1 pa2 = some r) : Mt G d m_L_sites [.ref pa0, .int xa1, .ref pa2] σ (.inl (some (.int r.1))) r.2 := by
  rw [F_L_sites] at h
  refine J.toMtH (lo := [(0, .ref pa0), (1, .int xa1), (2, .ref pa2)]) pn_RL (by decide) hl (Nat.le_of_ble_eq_true rfl) rfl ?_
  refine r_aload_n (dc_L_sites 0 rfl) rfl rfl ?_
  refine r_iconst (dc_L_sites 1 rfl) kiconst_0 ?_
  refine r_aload_n (dc_L_sites 2 rfl) rfl rfl ?_
  refine r_iload_n (dc_L_sites 3 rfl) rfl rfl ?_
  rcases tc_some h with ⟨x2, s1, e0, h⟩ | ⟨E0, s1, e0, h⟩
  · refine r_callV (dc_L_sites 4 rfl) mv_X9_sites ml_RL_7 (As := [.int xa1]) (t_X9_sites (d := d - 1) hl (by omega) e0) (by omega) rfl (Nat.le_of_ble_eq_true rfl) ?_
    refine r_i2l (dc_L_sites 5 rfl) ?_
    obtain ⟨s3, e0, h⟩ := Option.bind_eq_some_iff.mp h
    refine r_last (dc_L_sites 6 rfl) e0 ?_
    refine r_goto (dc_L_sites 7 rfl) (tgt := 15) (by decide) ?_
    refine r_iconst (dc_L_sites 11 rfl) kiconst_0 ?_
    cases h
    exact r_ireturn (dc_L_sites 12 rfl) rfl
  by_cases c0 : E0 = "java/lang/IllegalArgumentException"
  · subst c0
    rw [if_pos rfl] at h
    cases h
    exact r_callVC [] (0, 9, 12, 13) [] (dc_L_sites 4 rfl) mv_X9_sites ml_RL_7 (As := [.int xa1]) (t_X9_sites (d := d - 1) hl (by omega) e0) (by omega) rfl (Nat.le_of_ble_eq_true rfl) (by decide) rfl (fun z hz => by cases hz) rfl (by decide) cl_RL_13 ca_IllegalArgumentException (Or.inr ⟨3, (dc_L_sites 8 rfl), rfl, rfl⟩) (by decide) (dc_L_sites 9 rfl) kiconst_1 (dc_L_sites 10 rfl) rfl
  rw [if_neg c0] at h
  cases h
theorem t_L_mode {G : Gx} {d : Nat} (hl : G.1.stackTraces = false) (hd : 7 ≤ d) {σ : Sto} {pa0 : Nat} {xa1 : Int32} {pa2 : Nat} {r : (Int32 × Sto)} (h : F_L_mode σ pa0 xa1 pa2 = some r) : Mt G d m_L_mode [.ref pa0, .int xa1, .ref pa2] σ (.inl (some (.int r.1))) r.2 := by
  rw [F_L_mode] at h
  refine J.toMtH (lo := [(0, .ref pa0), (1, .int xa1), (2, .ref pa2)]) pn_RL (by decide) hl (Nat.le_of_ble_eq_true rfl) rfl ?_
  refine r_aload_n (dc_L_mode 0 rfl) rfl rfl ?_
  refine r_iconst (dc_L_mode 1 rfl) kiconst_0 ?_
  refine r_aload_n (dc_L_mode 2 rfl) rfl rfl ?_
  refine r_iload_n (dc_L_mode 3 rfl) rfl rfl ?_
  rcases tc_some h with ⟨x2, s1, e0, h⟩ | ⟨E0, s1, e0, h⟩
  · refine r_callV (dc_L_mode 4 rfl) mv_X9_mode ml_RL_15 (As := [.int xa1]) (t_X9_mode (d := d - 1) hl (by omega) e0) (by omega) rfl (Nat.le_of_ble_eq_true rfl) ?_
    refine r_i2l (dc_L_mode 5 rfl) ?_
    obtain ⟨s3, e0, h⟩ := Option.bind_eq_some_iff.mp h
    refine r_last (dc_L_mode 6 rfl) e0 ?_
    refine r_goto (dc_L_mode 7 rfl) (tgt := 15) (by decide) ?_
    refine r_iconst (dc_L_mode 11 rfl) kiconst_0 ?_
    cases h
    exact r_ireturn (dc_L_mode 12 rfl) rfl
  by_cases c0 : E0 = "java/lang/IllegalArgumentException"
  · subst c0
    rw [if_pos rfl] at h
    cases h
    exact r_callVC [] (0, 9, 12, 13) [] (dc_L_mode 4 rfl) mv_X9_mode ml_RL_15 (As := [.int xa1]) (t_X9_mode (d := d - 1) hl (by omega) e0) (by omega) rfl (Nat.le_of_ble_eq_true rfl) (by decide) rfl (fun z hz => by cases hz) rfl (by decide) cl_RL_13 ca_IllegalArgumentException (Or.inr ⟨3, (dc_L_mode 8 rfl), rfl, rfl⟩) (by decide) (dc_L_mode 9 rfl) kiconst_1 (dc_L_mode 10 rfl) rfl
  rw [if_neg c0] at h
  cases h
theorem t_L_add {G : Gx} {d : Nat} (hl : G.1.stackTraces = false) (hd : 8 ≤ d) {σ : Sto} {pa0 : Nat} {xa1 : Int32} {xa2 : Int32} {pa3 : Nat} {r : (Int32 × Sto)} (h : F_L_add σ pa0 xa1 xa2 pa3 = some r) : Mt G d m_L_add [.ref pa0, .int xa1, .int xa2, .ref pa3] σ (.inl (some (.int r.1))) r.2 := by
  rw [F_L_add] at h
  refine J.toMtH (lo := [(0, .ref pa0), (1, .int xa1), (2, .int xa2), (3, .ref pa3)]) pn_RL (by decide) hl (Nat.le_of_ble_eq_true rfl) rfl ?_
  refine r_aload_n (dc_L_add 0 rfl) rfl rfl ?_
  refine r_iconst (dc_L_add 1 rfl) kiconst_0 ?_
  refine r_aload_n (dc_L_add 2 rfl) rfl rfl ?_
  refine r_iload_n (dc_L_add 3 rfl) rfl rfl ?_
  refine r_iload_n (dc_L_add 4 rfl) rfl rfl ?_
  rcases tc_some h with ⟨x2, s1, e0, h⟩ | ⟨E0, s1, e0, h⟩
  · refine r_callV (dc_L_add 5 rfl) mv_X9_add ml_RL_18 (As := [.int xa1, .int xa2]) (t_X9_add (d := d - 1) hl (by omega) e0) (by omega) rfl (Nat.le_of_ble_eq_true rfl) ?_
    refine r_i2l (dc_L_add 6 rfl) ?_
    obtain ⟨s3, e0, h⟩ := Option.bind_eq_some_iff.mp h
    refine r_last (dc_L_add 7 rfl) e0 ?_
    refine r_goto (dc_L_add 8 rfl) (tgt := 25) (by decide) ?_
    refine r_iconst (dc_L_add 18 rfl) kiconst_0 ?_
    cases h
    exact r_ireturn (dc_L_add 19 rfl) rfl
  by_cases c0 : E0 = "java/lang/IndexOutOfBoundsException"
  · subst c0
    rw [if_pos rfl] at h
    cases h
    exact r_callVC [] (0, 10, 13, 22) [(0, 10, 17, 24), (0, 10, 21, 13)] (dc_L_add 5 rfl) mv_X9_add ml_RL_18 (As := [.int xa1, .int xa2]) (t_X9_add (d := d - 1) hl (by omega) e0) (by omega) rfl (Nat.le_of_ble_eq_true rfl) (by decide) rfl (fun z hz => by cases hz) rfl (by decide) cl_RL_22 ca_IndexOutOfBoundsException (Or.inl ⟨(dc_L_add 9 rfl), rfl⟩) (by decide) (dc_L_add 10 rfl) kiconst_1 (dc_L_add 11 rfl) rfl
  by_cases c1 : E0 = "java/lang/IllegalStateException"
  · subst c1
    rw [if_neg (by decide), if_pos rfl] at h
    cases h
    exact r_callVC [(0, 10, 13, 22)] (0, 10, 17, 24) [(0, 10, 21, 13)] (dc_L_add 5 rfl) mv_X9_add ml_RL_18 (As := [.int xa1, .int xa2]) (t_X9_add (d := d - 1) hl (by omega) e0) (by omega) rfl (Nat.le_of_ble_eq_true rfl) (by decide) rfl (fun z hz => by simp only [List.mem_cons, List.not_mem_nil, or_false] at hz; rcases hz with rfl <;> first | exact ⟨by decide, "java/lang/IndexOutOfBoundsException", by decide, by decide, cl_RL_22⟩) rfl (by decide) cl_RL_24 ca_IllegalStateException (Or.inl ⟨(dc_L_add 12 rfl), rfl⟩) (by decide) (dc_L_add 13 rfl) kiconst_2 (dc_L_add 14 rfl) rfl
  by_cases c2 : E0 = "java/lang/IllegalArgumentException"
  · subst c2
    rw [if_neg (by decide), if_neg (by decide), if_pos rfl] at h
    cases h
    exact r_callVC [(0, 10, 13, 22), (0, 10, 17, 24)] (0, 10, 21, 13) [] (dc_L_add 5 rfl) mv_X9_add ml_RL_18 (As := [.int xa1, .int xa2]) (t_X9_add (d := d - 1) hl (by omega) e0) (by omega) rfl (Nat.le_of_ble_eq_true rfl) (by decide) rfl (fun z hz => by simp only [List.mem_cons, List.not_mem_nil, or_false] at hz; rcases hz with rfl | rfl <;> first | exact ⟨by decide, "java/lang/IndexOutOfBoundsException", by decide, by decide, cl_RL_22⟩ | exact ⟨by decide, "java/lang/IllegalStateException", by decide, by decide, cl_RL_24⟩) rfl (by decide) cl_RL_13 ca_IllegalArgumentException (Or.inl ⟨(dc_L_add 15 rfl), rfl⟩) (by decide) (dc_L_add 16 rfl) kiconst_3 (dc_L_add 17 rfl) rfl
  rw [if_neg c0, if_neg c1, if_neg c2] at h
  cases h
theorem t_L_take {G : Gx} {d : Nat} (hl : G.1.stackTraces = false) (hd : 8 ≤ d) {σ : Sto} {pa0 : Nat} {xa1 : Int32} {xa2 : Int32} {pa3 : Nat} {r : (Int32 × Sto)} (h : F_L_take σ pa0 xa1 xa2 pa3 = some r) : Mt G d m_L_take [.ref pa0, .int xa1, .int xa2, .ref pa3] σ (.inl (some (.int r.1))) r.2 := by
  rw [F_L_take] at h
  refine J.toMtH (lo := [(0, .ref pa0), (1, .int xa1), (2, .int xa2), (3, .ref pa3)]) pn_RL (by decide) hl (Nat.le_of_ble_eq_true rfl) rfl ?_
  refine r_aload_n (dc_L_take 0 rfl) rfl rfl ?_
  refine r_iconst (dc_L_take 1 rfl) kiconst_0 ?_
  refine r_aload_n (dc_L_take 2 rfl) rfl rfl ?_
  refine r_iload_n (dc_L_take 3 rfl) rfl rfl ?_
  refine r_iload_n (dc_L_take 4 rfl) rfl rfl ?_
  rcases tc_some h with ⟨x2, s1, e0, h⟩ | ⟨E0, s1, e0, h⟩
  · refine r_callV (dc_L_take 5 rfl) mv_X9_take ml_RL_26 (As := [.int xa1, .int xa2]) (t_X9_take (d := d - 1) hl (by omega) e0) (by omega) rfl (Nat.le_of_ble_eq_true rfl) ?_
    refine r_i2l (dc_L_take 6 rfl) ?_
    obtain ⟨s3, e0, h⟩ := Option.bind_eq_some_iff.mp h
    refine r_last (dc_L_take 7 rfl) e0 ?_
    refine r_goto (dc_L_take 8 rfl) (tgt := 25) (by decide) ?_
    refine r_iconst (dc_L_take 18 rfl) kiconst_0 ?_
    cases h
    exact r_ireturn (dc_L_take 19 rfl) rfl
  by_cases c0 : E0 = "java/lang/IndexOutOfBoundsException"
  · subst c0
    rw [if_pos rfl] at h
    cases h
    exact r_callVC [] (0, 10, 13, 22) [(0, 10, 17, 29), (0, 10, 21, 24)] (dc_L_take 5 rfl) mv_X9_take ml_RL_26 (As := [.int xa1, .int xa2]) (t_X9_take (d := d - 1) hl (by omega) e0) (by omega) rfl (Nat.le_of_ble_eq_true rfl) (by decide) rfl (fun z hz => by cases hz) rfl (by decide) cl_RL_22 ca_IndexOutOfBoundsException (Or.inl ⟨(dc_L_take 9 rfl), rfl⟩) (by decide) (dc_L_take 10 rfl) kiconst_1 (dc_L_take 11 rfl) rfl
  by_cases c1 : E0 = "java/util/NoSuchElementException"
  · subst c1
    rw [if_neg (by decide), if_pos rfl] at h
    cases h
    exact r_callVC [(0, 10, 13, 22)] (0, 10, 17, 29) [(0, 10, 21, 24)] (dc_L_take 5 rfl) mv_X9_take ml_RL_26 (As := [.int xa1, .int xa2]) (t_X9_take (d := d - 1) hl (by omega) e0) (by omega) rfl (Nat.le_of_ble_eq_true rfl) (by decide) rfl (fun z hz => by simp only [List.mem_cons, List.not_mem_nil, or_false] at hz; rcases hz with rfl <;> first | exact ⟨by decide, "java/lang/IndexOutOfBoundsException", by decide, by decide, cl_RL_22⟩) rfl (by decide) cl_RL_29 ca_NoSuchElementException (Or.inl ⟨(dc_L_take 12 rfl), rfl⟩) (by decide) (dc_L_take 13 rfl) kiconst_2 (dc_L_take 14 rfl) rfl
  by_cases c2 : E0 = "java/lang/IllegalStateException"
  · subst c2
    rw [if_neg (by decide), if_neg (by decide), if_pos rfl] at h
    cases h
    exact r_callVC [(0, 10, 13, 22), (0, 10, 17, 29)] (0, 10, 21, 24) [] (dc_L_take 5 rfl) mv_X9_take ml_RL_26 (As := [.int xa1, .int xa2]) (t_X9_take (d := d - 1) hl (by omega) e0) (by omega) rfl (Nat.le_of_ble_eq_true rfl) (by decide) rfl (fun z hz => by simp only [List.mem_cons, List.not_mem_nil, or_false] at hz; rcases hz with rfl | rfl <;> first | exact ⟨by decide, "java/lang/IndexOutOfBoundsException", by decide, by decide, cl_RL_22⟩ | exact ⟨by decide, "java/util/NoSuchElementException", by decide, by decide, cl_RL_29⟩) rfl (by decide) cl_RL_24 ca_IllegalStateException (Or.inl ⟨(dc_L_take 15 rfl), rfl⟩) (by decide) (dc_L_take 16 rfl) kiconst_3 (dc_L_take 17 rfl) rfl
  rw [if_neg c0, if_neg c1, if_neg c2] at h
  cases h
theorem t_L_write {G : Gx} {d : Nat} (hl : G.1.stackTraces = false) (hd : 8 ≤ d) {σ : Sto} {pa0 : Nat} {xa1 : Int32} {xa2 : Int32} {pa3 : Nat} {r : (Int32 × Sto)} (h : F_L_write σ pa0 xa1 xa2 pa3 = some r) : Mt G d m_L_write [.ref pa0, .int xa1, .int xa2, .ref pa3] σ (.inl (some (.int r.1))) r.2 := by
  rw [F_L_write] at h
  refine J.toMtH (lo := [(0, .ref pa0), (1, .int xa1), (2, .int xa2), (3, .ref pa3)]) pn_RL (by decide) hl (Nat.le_of_ble_eq_true rfl) rfl ?_
  refine r_aload_n (dc_L_write 0 rfl) rfl rfl ?_
  refine r_iconst (dc_L_write 1 rfl) kiconst_0 ?_
  refine r_aload_n (dc_L_write 2 rfl) rfl rfl ?_
  refine r_iload_n (dc_L_write 3 rfl) rfl rfl ?_
  refine r_iload_n (dc_L_write 4 rfl) rfl rfl ?_
  rcases tc_some h with ⟨x2, s1, e0, h⟩ | ⟨E0, s1, e0, h⟩
  · refine r_callV (dc_L_write 5 rfl) mv_X9_write ml_RL_31 (As := [.int xa1, .int xa2]) (t_X9_write (d := d - 1) hl (by omega) e0) (by omega) rfl (Nat.le_of_ble_eq_true rfl) ?_
    refine r_i2l (dc_L_write 6 rfl) ?_
    obtain ⟨s3, e0, h⟩ := Option.bind_eq_some_iff.mp h
    refine r_last (dc_L_write 7 rfl) e0 ?_
    refine r_goto (dc_L_write 8 rfl) (tgt := 21) (by decide) ?_
    refine r_iconst (dc_L_write 15 rfl) kiconst_0 ?_
    cases h
    exact r_ireturn (dc_L_write 16 rfl) rfl
  by_cases c0 : E0 = "java/lang/IndexOutOfBoundsException"
  · subst c0
    rw [if_pos rfl] at h
    cases h
    exact r_callVC [] (0, 10, 13, 22) [(0, 10, 17, 24)] (dc_L_write 5 rfl) mv_X9_write ml_RL_31 (As := [.int xa1, .int xa2]) (t_X9_write (d := d - 1) hl (by omega) e0) (by omega) rfl (Nat.le_of_ble_eq_true rfl) (by decide) rfl (fun z hz => by cases hz) rfl (by decide) cl_RL_22 ca_IndexOutOfBoundsException (Or.inl ⟨(dc_L_write 9 rfl), rfl⟩) (by decide) (dc_L_write 10 rfl) kiconst_1 (dc_L_write 11 rfl) rfl
  by_cases c1 : E0 = "java/lang/IllegalStateException"
  · subst c1
    rw [if_neg (by decide), if_pos rfl] at h
    cases h
    exact r_callVC [(0, 10, 13, 22)] (0, 10, 17, 24) [] (dc_L_write 5 rfl) mv_X9_write ml_RL_31 (As := [.int xa1, .int xa2]) (t_X9_write (d := d - 1) hl (by omega) e0) (by omega) rfl (Nat.le_of_ble_eq_true rfl) (by decide) rfl (fun z hz => by simp only [List.mem_cons, List.not_mem_nil, or_false] at hz; rcases hz with rfl <;> first | exact ⟨by decide, "java/lang/IndexOutOfBoundsException", by decide, by decide, cl_RL_22⟩) rfl (by decide) cl_RL_24 ca_IllegalStateException (Or.inl ⟨(dc_L_write 12 rfl), rfl⟩) (by decide) (dc_L_write 13 rfl) kiconst_2 (dc_L_write 14 rfl) rfl
  rw [if_neg c0, if_neg c1] at h
  cases h
theorem t_L_come {G : Gx} {d : Nat} (hl : G.1.stackTraces = false) (hd : 8 ≤ d) {σ : Sto} {pa0 : Nat} {xa1 : Int32} {xa2 : Int32} {xa3 : Int32} {pa4 : Nat} {r : (Int32 × Sto)} (h : F_L_come σ pa0 xa1 xa2 xa3 pa4 = some r) : Mt G d m_L_come [.ref pa0, .int xa1, .int xa2, .int xa3, .ref pa4] σ (.inl (some (.int r.1))) r.2 := by
  rw [F_L_come] at h
  refine J.toMtH (lo := [(0, .ref pa0), (1, .int xa1), (2, .int xa2), (3, .int xa3), (4, .ref pa4)]) pn_RL (by decide) hl (Nat.le_of_ble_eq_true rfl) rfl ?_
  refine r_aload (dc_L_come 0 rfl) rfl ?_
  refine r_iconst (dc_L_come 1 rfl) kiconst_0 ?_
  refine r_aload_n (dc_L_come 2 rfl) rfl rfl ?_
  refine r_iload_n (dc_L_come 3 rfl) rfl rfl ?_
  refine r_iload_n (dc_L_come 4 rfl) rfl rfl ?_
  refine r_iload_n (dc_L_come 5 rfl) rfl rfl ?_
  rcases tc_some h with ⟨x2, s1, e0, h⟩ | ⟨E0, s1, e0, h⟩
  · refine r_callV (dc_L_come 6 rfl) mv_X9_come ml_RL_34 (As := [.int xa1, .int xa2, .int xa3]) (t_X9_come (d := d - 1) hl (by omega) e0) (by omega) rfl (Nat.le_of_ble_eq_true rfl) ?_
    refine r_i2l (dc_L_come 7 rfl) ?_
    obtain ⟨s3, e0, h⟩ := Option.bind_eq_some_iff.mp h
    refine r_last (dc_L_come 8 rfl) e0 ?_
    refine r_goto (dc_L_come 9 rfl) (tgt := 27) (by decide) ?_
    refine r_iconst (dc_L_come 19 rfl) kiconst_0 ?_
    cases h
    exact r_ireturn (dc_L_come 20 rfl) rfl
  by_cases c0 : E0 = "java/lang/IndexOutOfBoundsException"
  · subst c0
    rw [if_pos rfl] at h
    cases h
    exact r_callVC [] (0, 12, 15, 22) [(0, 12, 19, 29), (0, 12, 23, 24)] (dc_L_come 6 rfl) mv_X9_come ml_RL_34 (As := [.int xa1, .int xa2, .int xa3]) (t_X9_come (d := d - 1) hl (by omega) e0) (by omega) rfl (Nat.le_of_ble_eq_true rfl) (by decide) rfl (fun z hz => by cases hz) rfl (by decide) cl_RL_22 ca_IndexOutOfBoundsException (Or.inl ⟨(dc_L_come 10 rfl), rfl⟩) (by decide) (dc_L_come 11 rfl) kiconst_1 (dc_L_come 12 rfl) rfl
  by_cases c1 : E0 = "java/util/NoSuchElementException"
  · subst c1
    rw [if_neg (by decide), if_pos rfl] at h
    cases h
    exact r_callVC [(0, 12, 15, 22)] (0, 12, 19, 29) [(0, 12, 23, 24)] (dc_L_come 6 rfl) mv_X9_come ml_RL_34 (As := [.int xa1, .int xa2, .int xa3]) (t_X9_come (d := d - 1) hl (by omega) e0) (by omega) rfl (Nat.le_of_ble_eq_true rfl) (by decide) rfl (fun z hz => by simp only [List.mem_cons, List.not_mem_nil, or_false] at hz; rcases hz with rfl <;> first | exact ⟨by decide, "java/lang/IndexOutOfBoundsException", by decide, by decide, cl_RL_22⟩) rfl (by decide) cl_RL_29 ca_NoSuchElementException (Or.inl ⟨(dc_L_come 13 rfl), rfl⟩) (by decide) (dc_L_come 14 rfl) kiconst_2 (dc_L_come 15 rfl) rfl
  by_cases c2 : E0 = "java/lang/IllegalStateException"
  · subst c2
    rw [if_neg (by decide), if_neg (by decide), if_pos rfl] at h
    cases h
    exact r_callVC [(0, 12, 15, 22), (0, 12, 19, 29)] (0, 12, 23, 24) [] (dc_L_come 6 rfl) mv_X9_come ml_RL_34 (As := [.int xa1, .int xa2, .int xa3]) (t_X9_come (d := d - 1) hl (by omega) e0) (by omega) rfl (Nat.le_of_ble_eq_true rfl) (by decide) rfl (fun z hz => by simp only [List.mem_cons, List.not_mem_nil, or_false] at hz; rcases hz with rfl | rfl <;> first | exact ⟨by decide, "java/lang/IndexOutOfBoundsException", by decide, by decide, cl_RL_22⟩ | exact ⟨by decide, "java/util/NoSuchElementException", by decide, by decide, cl_RL_29⟩) rfl (by decide) cl_RL_24 ca_IllegalStateException (Or.inl ⟨(dc_L_come 16 rfl), rfl⟩) (by decide) (dc_L_come 17 rfl) kiconst_3 (dc_L_come 18 rfl) rfl
  rw [if_neg c0, if_neg c1, if_neg c2] at h
  cases h
theorem t_L_lose {G : Gx} {d : Nat} (hl : G.1.stackTraces = false) (hd : 8 ≤ d) {σ : Sto} {pa0 : Nat} {xa1 : Int32} {xa2 : Int32} {xa3 : Int32} {pa4 : Nat} {r : (Int32 × Sto)} (h : F_L_lose σ pa0 xa1 xa2 xa3 pa4 = some r) : Mt G d m_L_lose [.ref pa0, .int xa1, .int xa2, .int xa3, .ref pa4] σ (.inl (some (.int r.1))) r.2 := by
  rw [F_L_lose] at h
  refine J.toMtH (lo := [(0, .ref pa0), (1, .int xa1), (2, .int xa2), (3, .int xa3), (4, .ref pa4)]) pn_RL (by decide) hl (Nat.le_of_ble_eq_true rfl) rfl ?_
  refine r_aload (dc_L_lose 0 rfl) rfl ?_
  refine r_iconst (dc_L_lose 1 rfl) kiconst_0 ?_
  refine r_aload_n (dc_L_lose 2 rfl) rfl rfl ?_
  refine r_iload_n (dc_L_lose 3 rfl) rfl rfl ?_
  refine r_iload_n (dc_L_lose 4 rfl) rfl rfl ?_
  refine r_iload_n (dc_L_lose 5 rfl) rfl rfl ?_
  rcases tc_some h with ⟨x2, s1, e0, h⟩ | ⟨E0, s1, e0, h⟩
  · refine r_callV (dc_L_lose 6 rfl) mv_X9_lose ml_RL_38 (As := [.int xa1, .int xa2, .int xa3]) (t_X9_lose (d := d - 1) hl (by omega) e0) (by omega) rfl (Nat.le_of_ble_eq_true rfl) ?_
    refine r_i2l (dc_L_lose 7 rfl) ?_
    obtain ⟨s3, e0, h⟩ := Option.bind_eq_some_iff.mp h
    refine r_last (dc_L_lose 8 rfl) e0 ?_
    refine r_goto (dc_L_lose 9 rfl) (tgt := 23) (by decide) ?_
    refine r_iconst (dc_L_lose 16 rfl) kiconst_0 ?_
    cases h
    exact r_ireturn (dc_L_lose 17 rfl) rfl
  by_cases c0 : E0 = "java/lang/IndexOutOfBoundsException"
  · subst c0
    rw [if_pos rfl] at h
    cases h
    exact r_callVC [] (0, 12, 15, 22) [(0, 12, 19, 29)] (dc_L_lose 6 rfl) mv_X9_lose ml_RL_38 (As := [.int xa1, .int xa2, .int xa3]) (t_X9_lose (d := d - 1) hl (by omega) e0) (by omega) rfl (Nat.le_of_ble_eq_true rfl) (by decide) rfl (fun z hz => by cases hz) rfl (by decide) cl_RL_22 ca_IndexOutOfBoundsException (Or.inl ⟨(dc_L_lose 10 rfl), rfl⟩) (by decide) (dc_L_lose 11 rfl) kiconst_1 (dc_L_lose 12 rfl) rfl
  by_cases c1 : E0 = "java/util/NoSuchElementException"
  · subst c1
    rw [if_neg (by decide), if_pos rfl] at h
    cases h
    exact r_callVC [(0, 12, 15, 22)] (0, 12, 19, 29) [] (dc_L_lose 6 rfl) mv_X9_lose ml_RL_38 (As := [.int xa1, .int xa2, .int xa3]) (t_X9_lose (d := d - 1) hl (by omega) e0) (by omega) rfl (Nat.le_of_ble_eq_true rfl) (by decide) rfl (fun z hz => by simp only [List.mem_cons, List.not_mem_nil, or_false] at hz; rcases hz with rfl <;> first | exact ⟨by decide, "java/lang/IndexOutOfBoundsException", by decide, by decide, cl_RL_22⟩) rfl (by decide) cl_RL_29 ca_NoSuchElementException (Or.inl ⟨(dc_L_lose 13 rfl), rfl⟩) (by decide) (dc_L_lose 14 rfl) kiconst_2 (dc_L_lose 15 rfl) rfl
  rw [if_neg c0, if_neg c1] at h
  cases h
theorem t_L_twice {G : Gx} {d : Nat} (hl : G.1.stackTraces = false) (hd : 8 ≤ d) {σ : Sto} {pa0 : Nat} {xa1 : Int32} {xa2 : Int32} {xa3 : Int32} {pa4 : Nat} {r : (Int32 × Sto)} (h : F_L_twice σ pa0 xa1 xa2 xa3 pa4 = some r) : Mt G d m_L_twice [.ref pa0, .int xa1, .int xa2, .int xa3, .ref pa4] σ (.inl (some (.int r.1))) r.2 := by
  rw [F_L_twice] at h
  refine J.toMtH (lo := [(0, .ref pa0), (1, .int xa1), (2, .int xa2), (3, .int xa3), (4, .ref pa4)]) pn_RL (by decide) hl (Nat.le_of_ble_eq_true rfl) rfl ?_
  refine r_aload (dc_L_twice 0 rfl) rfl ?_
  refine r_iconst (dc_L_twice 1 rfl) kiconst_0 ?_
  refine r_aload_n (dc_L_twice 2 rfl) rfl rfl ?_
  refine r_iload_n (dc_L_twice 3 rfl) rfl rfl ?_
  refine r_iload_n (dc_L_twice 4 rfl) rfl rfl ?_
  refine r_iload_n (dc_L_twice 5 rfl) rfl rfl ?_
  rcases tc_some h with ⟨x2, s1, e0, h⟩ | ⟨E0, s1, e0, h⟩
  · refine r_callV (dc_L_twice 6 rfl) mv_X9_twice ml_RL_41 (As := [.int xa1, .int xa2, .int xa3]) (t_X9_twice (d := d - 1) hl (by omega) e0) (by omega) rfl (Nat.le_of_ble_eq_true rfl) ?_
    refine r_i2l (dc_L_twice 7 rfl) ?_
    obtain ⟨s3, e0, h⟩ := Option.bind_eq_some_iff.mp h
    refine r_last (dc_L_twice 8 rfl) e0 ?_
    refine r_goto (dc_L_twice 9 rfl) (tgt := 27) (by decide) ?_
    refine r_iconst (dc_L_twice 19 rfl) kiconst_0 ?_
    cases h
    exact r_ireturn (dc_L_twice 20 rfl) rfl
  by_cases c0 : E0 = "java/lang/IndexOutOfBoundsException"
  · subst c0
    rw [if_pos rfl] at h
    cases h
    exact r_callVC [] (0, 12, 15, 22) [(0, 12, 19, 29), (0, 12, 23, 24)] (dc_L_twice 6 rfl) mv_X9_twice ml_RL_41 (As := [.int xa1, .int xa2, .int xa3]) (t_X9_twice (d := d - 1) hl (by omega) e0) (by omega) rfl (Nat.le_of_ble_eq_true rfl) (by decide) rfl (fun z hz => by cases hz) rfl (by decide) cl_RL_22 ca_IndexOutOfBoundsException (Or.inl ⟨(dc_L_twice 10 rfl), rfl⟩) (by decide) (dc_L_twice 11 rfl) kiconst_1 (dc_L_twice 12 rfl) rfl
  by_cases c1 : E0 = "java/util/NoSuchElementException"
  · subst c1
    rw [if_neg (by decide), if_pos rfl] at h
    cases h
    exact r_callVC [(0, 12, 15, 22)] (0, 12, 19, 29) [(0, 12, 23, 24)] (dc_L_twice 6 rfl) mv_X9_twice ml_RL_41 (As := [.int xa1, .int xa2, .int xa3]) (t_X9_twice (d := d - 1) hl (by omega) e0) (by omega) rfl (Nat.le_of_ble_eq_true rfl) (by decide) rfl (fun z hz => by simp only [List.mem_cons, List.not_mem_nil, or_false] at hz; rcases hz with rfl <;> first | exact ⟨by decide, "java/lang/IndexOutOfBoundsException", by decide, by decide, cl_RL_22⟩) rfl (by decide) cl_RL_29 ca_NoSuchElementException (Or.inl ⟨(dc_L_twice 13 rfl), rfl⟩) (by decide) (dc_L_twice 14 rfl) kiconst_2 (dc_L_twice 15 rfl) rfl
  by_cases c2 : E0 = "java/lang/IllegalStateException"
  · subst c2
    rw [if_neg (by decide), if_neg (by decide), if_pos rfl] at h
    cases h
    exact r_callVC [(0, 12, 15, 22), (0, 12, 19, 29)] (0, 12, 23, 24) [] (dc_L_twice 6 rfl) mv_X9_twice ml_RL_41 (As := [.int xa1, .int xa2, .int xa3]) (t_X9_twice (d := d - 1) hl (by omega) e0) (by omega) rfl (Nat.le_of_ble_eq_true rfl) (by decide) rfl (fun z hz => by simp only [List.mem_cons, List.not_mem_nil, or_false] at hz; rcases hz with rfl | rfl <;> first | exact ⟨by decide, "java/lang/IndexOutOfBoundsException", by decide, by decide, cl_RL_22⟩ | exact ⟨by decide, "java/util/NoSuchElementException", by decide, by decide, cl_RL_29⟩) rfl (by decide) cl_RL_24 ca_IllegalStateException (Or.inl ⟨(dc_L_twice 16 rfl), rfl⟩) (by decide) (dc_L_twice 17 rfl) kiconst_3 (dc_L_twice 18 rfl) rfl
  rw [if_neg c0, if_neg c1, if_neg c2] at h
  cases h
theorem t_L_waiting {G : Gx} {d : Nat} (hl : G.1.stackTraces = false) (hd : 8 ≤ d) {σ : Sto} {pa0 : Nat} {xa1 : Int32} {xa2 : Int32} {pa3 : Nat} {r : (Int32 × Sto)} (h : F_L_waiting σ pa0 xa1 xa2 pa3 = some r) : Mt G d m_L_waiting [.ref pa0, .int xa1, .int xa2, .ref pa3] σ (.inl (some (.int r.1))) r.2 := by
  rw [F_L_waiting] at h
  refine J.toMtH (lo := [(0, .ref pa0), (1, .int xa1), (2, .int xa2), (3, .ref pa3)]) pn_RL (by decide) hl (Nat.le_of_ble_eq_true rfl) rfl ?_
  refine r_aload_n (dc_L_waiting 0 rfl) rfl rfl ?_
  refine r_iconst (dc_L_waiting 1 rfl) kiconst_0 ?_
  refine r_aload_n (dc_L_waiting 2 rfl) rfl rfl ?_
  refine r_iload_n (dc_L_waiting 3 rfl) rfl rfl ?_
  refine r_iload_n (dc_L_waiting 4 rfl) rfl rfl ?_
  rcases tc_some h with ⟨x2, s1, e0, h⟩ | ⟨E0, s1, e0, h⟩
  · refine r_callV (dc_L_waiting 5 rfl) mv_X9_waiting ml_RL_44 (As := [.int xa1, .int xa2]) (t_X9_waiting (d := d - 1) hl (by omega) e0) (by omega) rfl (Nat.le_of_ble_eq_true rfl) ?_
    refine r_i2l (dc_L_waiting 6 rfl) ?_
    obtain ⟨s3, e0, h⟩ := Option.bind_eq_some_iff.mp h
    refine r_last (dc_L_waiting 7 rfl) e0 ?_
    refine r_goto (dc_L_waiting 8 rfl) (tgt := 17) (by decide) ?_
    refine r_iconst (dc_L_waiting 12 rfl) kiconst_0 ?_
    cases h
    exact r_ireturn (dc_L_waiting 13 rfl) rfl
  by_cases c0 : E0 = "java/lang/IndexOutOfBoundsException"
  · subst c0
    rw [if_pos rfl] at h
    cases h
    exact r_callVC [] (0, 10, 13, 22) [] (dc_L_waiting 5 rfl) mv_X9_waiting ml_RL_44 (As := [.int xa1, .int xa2]) (t_X9_waiting (d := d - 1) hl (by omega) e0) (by omega) rfl (Nat.le_of_ble_eq_true rfl) (by decide) rfl (fun z hz => by cases hz) rfl (by decide) cl_RL_22 ca_IndexOutOfBoundsException (Or.inl ⟨(dc_L_waiting 9 rfl), rfl⟩) (by decide) (dc_L_waiting 10 rfl) kiconst_1 (dc_L_waiting 11 rfl) rfl
  rw [if_neg c0] at h
  cases h
theorem t_L_letter {G : Gx} {d : Nat} (hl : G.1.stackTraces = false) (hd : 8 ≤ d) {σ : Sto} {pa0 : Nat} {xa1 : Int32} {xa2 : Int32} {xa3 : Int32} {xa4 : Int32} {pa5 : Nat} {r : (Int32 × Sto)} (h : F_L_letter σ pa0 xa1 xa2 xa3 xa4 pa5 = some r) : Mt G d m_L_letter [.ref pa0, .int xa1, .int xa2, .int xa3, .int xa4, .ref pa5] σ (.inl (some (.int r.1))) r.2 := by
  rw [F_L_letter] at h
  refine J.toMtH (lo := [(0, .ref pa0), (1, .int xa1), (2, .int xa2), (3, .int xa3), (4, .int xa4), (5, .ref pa5)]) pn_RL (by decide) hl (Nat.le_of_ble_eq_true rfl) rfl ?_
  refine r_aload (dc_L_letter 0 rfl) rfl ?_
  refine r_iconst (dc_L_letter 1 rfl) kiconst_0 ?_
  refine r_aload_n (dc_L_letter 2 rfl) rfl rfl ?_
  refine r_iload_n (dc_L_letter 3 rfl) rfl rfl ?_
  refine r_iload_n (dc_L_letter 4 rfl) rfl rfl ?_
  refine r_iload_n (dc_L_letter 5 rfl) rfl rfl ?_
  refine r_iload (dc_L_letter 6 rfl) rfl ?_
  rcases tc_some h with ⟨x2, s1, e0, h⟩ | ⟨E0, s1, e0, h⟩
  · refine r_callV (dc_L_letter 7 rfl) mv_X9_letter ml_RL_47 (As := [.int xa1, .int xa2, .int xa3, .int xa4]) (t_X9_letter (d := d - 1) hl (by omega) e0) (by omega) rfl (Nat.le_of_ble_eq_true rfl) ?_
    refine r_i2l (dc_L_letter 8 rfl) ?_
    obtain ⟨s3, e0, h⟩ := Option.bind_eq_some_iff.mp h
    refine r_last (dc_L_letter 9 rfl) e0 ?_
    refine r_goto (dc_L_letter 10 rfl) (tgt := 29) (by decide) ?_
    refine r_iconst (dc_L_letter 20 rfl) kiconst_0 ?_
    cases h
    exact r_ireturn (dc_L_letter 21 rfl) rfl
  by_cases c0 : E0 = "java/lang/IndexOutOfBoundsException"
  · subst c0
    rw [if_pos rfl] at h
    cases h
    exact r_callVC [] (0, 14, 17, 22) [(0, 14, 21, 29), (0, 14, 25, 13)] (dc_L_letter 7 rfl) mv_X9_letter ml_RL_47 (As := [.int xa1, .int xa2, .int xa3, .int xa4]) (t_X9_letter (d := d - 1) hl (by omega) e0) (by omega) rfl (Nat.le_of_ble_eq_true rfl) (by decide) rfl (fun z hz => by cases hz) rfl (by decide) cl_RL_22 ca_IndexOutOfBoundsException (Or.inl ⟨(dc_L_letter 11 rfl), rfl⟩) (by decide) (dc_L_letter 12 rfl) kiconst_1 (dc_L_letter 13 rfl) rfl
  by_cases c1 : E0 = "java/util/NoSuchElementException"
  · subst c1
    rw [if_neg (by decide), if_pos rfl] at h
    cases h
    exact r_callVC [(0, 14, 17, 22)] (0, 14, 21, 29) [(0, 14, 25, 13)] (dc_L_letter 7 rfl) mv_X9_letter ml_RL_47 (As := [.int xa1, .int xa2, .int xa3, .int xa4]) (t_X9_letter (d := d - 1) hl (by omega) e0) (by omega) rfl (Nat.le_of_ble_eq_true rfl) (by decide) rfl (fun z hz => by simp only [List.mem_cons, List.not_mem_nil, or_false] at hz; rcases hz with rfl <;> first | exact ⟨by decide, "java/lang/IndexOutOfBoundsException", by decide, by decide, cl_RL_22⟩) rfl (by decide) cl_RL_29 ca_NoSuchElementException (Or.inl ⟨(dc_L_letter 14 rfl), rfl⟩) (by decide) (dc_L_letter 15 rfl) kiconst_2 (dc_L_letter 16 rfl) rfl
  by_cases c2 : E0 = "java/lang/IllegalArgumentException"
  · subst c2
    rw [if_neg (by decide), if_neg (by decide), if_pos rfl] at h
    cases h
    exact r_callVC [(0, 14, 17, 22), (0, 14, 21, 29)] (0, 14, 25, 13) [] (dc_L_letter 7 rfl) mv_X9_letter ml_RL_47 (As := [.int xa1, .int xa2, .int xa3, .int xa4]) (t_X9_letter (d := d - 1) hl (by omega) e0) (by omega) rfl (Nat.le_of_ble_eq_true rfl) (by decide) rfl (fun z hz => by simp only [List.mem_cons, List.not_mem_nil, or_false] at hz; rcases hz with rfl | rfl <;> first | exact ⟨by decide, "java/lang/IndexOutOfBoundsException", by decide, by decide, cl_RL_22⟩ | exact ⟨by decide, "java/util/NoSuchElementException", by decide, by decide, cl_RL_29⟩) rfl (by decide) cl_RL_13 ca_IllegalArgumentException (Or.inl ⟨(dc_L_letter 17 rfl), rfl⟩) (by decide) (dc_L_letter 18 rfl) kiconst_3 (dc_L_letter 19 rfl) rfl
  rw [if_neg c0, if_neg c1, if_neg c2] at h
  cases h
theorem t_L_inLetter {G : Gx} {d : Nat} (hl : G.1.stackTraces = false) (hd : 8 ≤ d) {σ : Sto} {pa0 : Nat} {xa1 : Int32} {xa2 : Int32} {xa3 : Int32} {xa4 : Int32} {pa5 : Nat} {r : (Int32 × Sto)} (h : F_L_inLetter σ pa0 xa1 xa2 xa3 xa4 pa5 = some r) : Mt G d m_L_inLetter [.ref pa0, .int xa1, .int xa2, .int xa3, .int xa4, .ref pa5] σ (.inl (some (.int r.1))) r.2 := by
  rw [F_L_inLetter] at h
  refine J.toMtH (lo := [(0, .ref pa0), (1, .int xa1), (2, .int xa2), (3, .int xa3), (4, .int xa4), (5, .ref pa5)]) pn_RL (by decide) hl (Nat.le_of_ble_eq_true rfl) rfl ?_
  refine r_aload (dc_L_inLetter 0 rfl) rfl ?_
  refine r_iconst (dc_L_inLetter 1 rfl) kiconst_0 ?_
  refine r_aload_n (dc_L_inLetter 2 rfl) rfl rfl ?_
  refine r_iload_n (dc_L_inLetter 3 rfl) rfl rfl ?_
  refine r_iload_n (dc_L_inLetter 4 rfl) rfl rfl ?_
  refine r_iload_n (dc_L_inLetter 5 rfl) rfl rfl ?_
  refine r_iload (dc_L_inLetter 6 rfl) rfl ?_
  rcases tc_some h with ⟨x2, s1, e0, h⟩ | ⟨E0, s1, e0, h⟩
  · refine r_callV (dc_L_inLetter 7 rfl) mv_X9_inLetter ml_RL_51 (As := [.int xa1, .int xa2, .int xa3, .int xa4]) (t_X9_inLetter (d := d - 1) hl (by omega) e0) (by omega) rfl (Nat.le_of_ble_eq_true rfl) ?_
    refine r_i2l (dc_L_inLetter 8 rfl) ?_
    obtain ⟨s3, e0, h⟩ := Option.bind_eq_some_iff.mp h
    refine r_last (dc_L_inLetter 9 rfl) e0 ?_
    refine r_goto (dc_L_inLetter 10 rfl) (tgt := 25) (by decide) ?_
    refine r_iconst (dc_L_inLetter 17 rfl) kiconst_0 ?_
    cases h
    exact r_ireturn (dc_L_inLetter 18 rfl) rfl
  by_cases c0 : E0 = "java/lang/IndexOutOfBoundsException"
  · subst c0
    rw [if_pos rfl] at h
    cases h
    exact r_callVC [] (0, 14, 17, 22) [(0, 14, 21, 29)] (dc_L_inLetter 7 rfl) mv_X9_inLetter ml_RL_51 (As := [.int xa1, .int xa2, .int xa3, .int xa4]) (t_X9_inLetter (d := d - 1) hl (by omega) e0) (by omega) rfl (Nat.le_of_ble_eq_true rfl) (by decide) rfl (fun z hz => by cases hz) rfl (by decide) cl_RL_22 ca_IndexOutOfBoundsException (Or.inl ⟨(dc_L_inLetter 11 rfl), rfl⟩) (by decide) (dc_L_inLetter 12 rfl) kiconst_1 (dc_L_inLetter 13 rfl) rfl
  by_cases c1 : E0 = "java/util/NoSuchElementException"
  · subst c1
    rw [if_neg (by decide), if_pos rfl] at h
    cases h
    exact r_callVC [(0, 14, 17, 22)] (0, 14, 21, 29) [] (dc_L_inLetter 7 rfl) mv_X9_inLetter ml_RL_51 (As := [.int xa1, .int xa2, .int xa3, .int xa4]) (t_X9_inLetter (d := d - 1) hl (by omega) e0) (by omega) rfl (Nat.le_of_ble_eq_true rfl) (by decide) rfl (fun z hz => by simp only [List.mem_cons, List.not_mem_nil, or_false] at hz; rcases hz with rfl <;> first | exact ⟨by decide, "java/lang/IndexOutOfBoundsException", by decide, by decide, cl_RL_22⟩) rfl (by decide) cl_RL_29 ca_NoSuchElementException (Or.inl ⟨(dc_L_inLetter 14 rfl), rfl⟩) (by decide) (dc_L_inLetter 15 rfl) kiconst_2 (dc_L_inLetter 16 rfl) rfl
  rw [if_neg c0, if_neg c1] at h
  cases h
theorem t_L_save {G : Gx} {d : Nat} (hl : G.1.stackTraces = false) (hd : 8 ≤ d) {σ : Sto} {pa0 : Nat} {xa1 : Int32} {pa2 : Nat} {r : (Int32 × Sto)} (h : F_L_save σ pa0 xa1 pa2 = some r) : Mt G d m_L_save [.ref pa0, .int xa1, .ref pa2] σ (.inl (some (.int r.1))) r.2 := by
  rw [F_L_save] at h
  refine J.toMtH (lo := [(0, .ref pa0), (1, .int xa1), (2, .ref pa2)]) pn_RL (by decide) hl (Nat.le_of_ble_eq_true rfl) rfl ?_
  refine r_aload_n (dc_L_save 0 rfl) rfl rfl ?_
  refine r_iconst (dc_L_save 1 rfl) kiconst_0 ?_
  refine r_aload_n (dc_L_save 2 rfl) rfl rfl ?_
  refine r_iload_n (dc_L_save 3 rfl) rfl rfl ?_
  rcases tc_some h with ⟨x2, s1, e0, h⟩ | ⟨E0, s1, e0, h⟩
  · refine r_callV (dc_L_save 4 rfl) mv_X9_save ml_RL_54 (As := [.int xa1]) (t_X9_save (d := d - 1) hl (by omega) e0) (by omega) rfl (Nat.le_of_ble_eq_true rfl) ?_
    refine r_i2l (dc_L_save 5 rfl) ?_
    obtain ⟨s3, e0, h⟩ := Option.bind_eq_some_iff.mp h
    refine r_last (dc_L_save 6 rfl) e0 ?_
    refine r_goto (dc_L_save 7 rfl) (tgt := 15) (by decide) ?_
    refine r_iconst (dc_L_save 11 rfl) kiconst_0 ?_
    cases h
    exact r_ireturn (dc_L_save 12 rfl) rfl
  by_cases c0 : E0 = "java/lang/IndexOutOfBoundsException"
  · subst c0
    rw [if_pos rfl] at h
    cases h
    exact r_callVC [] (0, 9, 12, 22) [] (dc_L_save 4 rfl) mv_X9_save ml_RL_54 (As := [.int xa1]) (t_X9_save (d := d - 1) hl (by omega) e0) (by omega) rfl (Nat.le_of_ble_eq_true rfl) (by decide) rfl (fun z hz => by cases hz) rfl (by decide) cl_RL_22 ca_IndexOutOfBoundsException (Or.inr ⟨3, (dc_L_save 8 rfl), rfl, rfl⟩) (by decide) (dc_L_save 9 rfl) kiconst_1 (dc_L_save 10 rfl) rfl
  rw [if_neg c0] at h
  cases h
theorem t_L_fall {G : Gx} {d : Nat} (hl : G.1.stackTraces = false) (hd : 8 ≤ d) {σ : Sto} {pa0 : Nat} {xa1 : Int32} {pa2 : Nat} {r : (Int32 × Sto)} (h : F_L_fall σ pa0 xa1 pa2 = some r) : Mt G d m_L_fall [.ref pa0, .int xa1, .ref pa2] σ (.inl (some (.int r.1))) r.2 := by
  rw [F_L_fall] at h
  refine J.toMtH (lo := [(0, .ref pa0), (1, .int xa1), (2, .ref pa2)]) pn_RL (by decide) hl (Nat.le_of_ble_eq_true rfl) rfl ?_
  refine r_aload_n (dc_L_fall 0 rfl) rfl rfl ?_
  refine r_iconst (dc_L_fall 1 rfl) kiconst_0 ?_
  refine r_aload_n (dc_L_fall 2 rfl) rfl rfl ?_
  refine r_iload_n (dc_L_fall 3 rfl) rfl rfl ?_
  rcases tc_some h with ⟨x2, s1, e0, h⟩ | ⟨E0, s1, e0, h⟩
  · refine r_callV (dc_L_fall 4 rfl) mv_X9_fall ml_RL_57 (As := [.int xa1]) (t_X9_fall (d := d - 1) hl (by omega) e0) (by omega) rfl (Nat.le_of_ble_eq_true rfl) ?_
    refine r_i2l (dc_L_fall 5 rfl) ?_
    obtain ⟨s3, e0, h⟩ := Option.bind_eq_some_iff.mp h
    refine r_last (dc_L_fall 6 rfl) e0 ?_
    refine r_goto (dc_L_fall 7 rfl) (tgt := 15) (by decide) ?_
    refine r_iconst (dc_L_fall 11 rfl) kiconst_0 ?_
    cases h
    exact r_ireturn (dc_L_fall 12 rfl) rfl
  by_cases c0 : E0 = "java/lang/IndexOutOfBoundsException"
  · subst c0
    rw [if_pos rfl] at h
    cases h
    exact r_callVC [] (0, 9, 12, 22) [] (dc_L_fall 4 rfl) mv_X9_fall ml_RL_57 (As := [.int xa1]) (t_X9_fall (d := d - 1) hl (by omega) e0) (by omega) rfl (Nat.le_of_ble_eq_true rfl) (by decide) rfl (fun z hz => by cases hz) rfl (by decide) cl_RL_22 ca_IndexOutOfBoundsException (Or.inr ⟨3, (dc_L_fall 8 rfl), rfl, rfl⟩) (by decide) (dc_L_fall 9 rfl) kiconst_1 (dc_L_fall 10 rfl) rfl
  rw [if_neg c0] at h
  cases h
theorem t_L_join {G : Gx} {d : Nat} (hl : G.1.stackTraces = false) (hd : 8 ≤ d) {σ : Sto} {pa0 : Nat} {xa1 : Int32} {xa2 : Int32} {pa3 : Nat} {r : (Int32 × Sto)} (h : F_L_join σ pa0 xa1 xa2 pa3 = some r) : Mt G d m_L_join [.ref pa0, .int xa1, .int xa2, .ref pa3] σ (.inl (some (.int r.1))) r.2 := by
  rw [F_L_join] at h
  refine J.toMtH (lo := [(0, .ref pa0), (1, .int xa1), (2, .int xa2), (3, .ref pa3)]) pn_RL (by decide) hl (Nat.le_of_ble_eq_true rfl) rfl ?_
  refine r_aload_n (dc_L_join 0 rfl) rfl rfl ?_
  refine r_iconst (dc_L_join 1 rfl) kiconst_0 ?_
  refine r_aload_n (dc_L_join 2 rfl) rfl rfl ?_
  refine r_iload_n (dc_L_join 3 rfl) rfl rfl ?_
  refine r_iload_n (dc_L_join 4 rfl) rfl rfl ?_
  rcases tc_some h with ⟨x2, s1, e0, h⟩ | ⟨E0, s1, e0, h⟩
  · refine r_callV (dc_L_join 5 rfl) mv_X9_join ml_RL_60 (As := [.int xa1, .int xa2]) (t_X9_join (d := d - 1) hl (by omega) e0) (by omega) rfl (Nat.le_of_ble_eq_true rfl) ?_
    refine r_i2l (dc_L_join 6 rfl) ?_
    obtain ⟨s3, e0, h⟩ := Option.bind_eq_some_iff.mp h
    refine r_last (dc_L_join 7 rfl) e0 ?_
    refine r_goto (dc_L_join 8 rfl) (tgt := 17) (by decide) ?_
    refine r_iconst (dc_L_join 12 rfl) kiconst_0 ?_
    cases h
    exact r_ireturn (dc_L_join 13 rfl) rfl
  by_cases c0 : E0 = "java/lang/IndexOutOfBoundsException"
  · subst c0
    rw [if_pos rfl] at h
    cases h
    exact r_callVC [] (0, 10, 13, 22) [] (dc_L_join 5 rfl) mv_X9_join ml_RL_60 (As := [.int xa1, .int xa2]) (t_X9_join (d := d - 1) hl (by omega) e0) (by omega) rfl (Nat.le_of_ble_eq_true rfl) (by decide) rfl (fun z hz => by cases hz) rfl (by decide) cl_RL_22 ca_IndexOutOfBoundsException (Or.inl ⟨(dc_L_join 9 rfl), rfl⟩) (by decide) (dc_L_join 10 rfl) kiconst_1 (dc_L_join 11 rfl) rfl
  rw [if_neg c0] at h
  cases h
theorem t_L_chance {G : Gx} {d : Nat} (hl : G.1.stackTraces = false) (hd : 8 ≤ d) {σ : Sto} {pa0 : Nat} {xa1 : Int32} {xa2 : Int32} {pa3 : Nat} {r : (Int32 × Sto)} (h : F_L_chance σ pa0 xa1 xa2 pa3 = some r) : Mt G d m_L_chance [.ref pa0, .int xa1, .int xa2, .ref pa3] σ (.inl (some (.int r.1))) r.2 := by
  rw [F_L_chance] at h
  refine J.toMtH (lo := [(0, .ref pa0), (1, .int xa1), (2, .int xa2), (3, .ref pa3)]) pn_RL (by decide) hl (Nat.le_of_ble_eq_true rfl) rfl ?_
  refine r_aload_n (dc_L_chance 0 rfl) rfl rfl ?_
  refine r_iconst (dc_L_chance 1 rfl) kiconst_0 ?_
  refine r_aload_n (dc_L_chance 2 rfl) rfl rfl ?_
  refine r_iload_n (dc_L_chance 3 rfl) rfl rfl ?_
  refine r_iload_n (dc_L_chance 4 rfl) rfl rfl ?_
  rcases tc_some h with ⟨x2, s1, e0, h⟩ | ⟨E0, s1, e0, h⟩
  · refine r_callV (dc_L_chance 5 rfl) mv_X9_chance ml_RL_63 (As := [.int xa1, .int xa2]) (t_X9_chance (d := d - 1) hl (by omega) e0) (by omega) rfl (Nat.le_of_ble_eq_true rfl) ?_
    refine r_i2l (dc_L_chance 6 rfl) ?_
    obtain ⟨s3, e0, h⟩ := Option.bind_eq_some_iff.mp h
    refine r_last (dc_L_chance 7 rfl) e0 ?_
    refine r_goto (dc_L_chance 8 rfl) (tgt := 17) (by decide) ?_
    refine r_iconst (dc_L_chance 12 rfl) kiconst_0 ?_
    cases h
    exact r_ireturn (dc_L_chance 13 rfl) rfl
  by_cases c0 : E0 = "java/lang/IllegalArgumentException"
  · subst c0
    rw [if_pos rfl] at h
    cases h
    exact r_callVC [] (0, 10, 13, 13) [] (dc_L_chance 5 rfl) mv_X9_chance ml_RL_63 (As := [.int xa1, .int xa2]) (t_X9_chance (d := d - 1) hl (by omega) e0) (by omega) rfl (Nat.le_of_ble_eq_true rfl) (by decide) rfl (fun z hz => by cases hz) rfl (by decide) cl_RL_13 ca_IllegalArgumentException (Or.inl ⟨(dc_L_chance 9 rfl), rfl⟩) (by decide) (dc_L_chance 10 rfl) kiconst_1 (dc_L_chance 11 rfl) rfl
  rw [if_neg c0] at h
  cases h
theorem t_L_keep {G : Gx} {d : Nat} (hl : G.1.stackTraces = false) (hd : 8 ≤ d) {σ : Sto} {pa0 : Nat} {xa1 : Int32} {pa2 : Nat} {r : (Int32 × Sto)} (h : F_L_keep σ pa0 xa1 pa2 = some r) : Mt G d m_L_keep [.ref pa0, .int xa1, .ref pa2] σ (.inl (some (.int r.1))) r.2 := by
  rw [F_L_keep] at h
  refine J.toMtH (lo := [(0, .ref pa0), (1, .int xa1), (2, .ref pa2)]) pn_RL (by decide) hl (Nat.le_of_ble_eq_true rfl) rfl ?_
  refine r_aload_n (dc_L_keep 0 rfl) rfl rfl ?_
  refine r_iconst (dc_L_keep 1 rfl) kiconst_0 ?_
  refine r_aload_n (dc_L_keep 2 rfl) rfl rfl ?_
  refine r_iload_n (dc_L_keep 3 rfl) rfl rfl ?_
  rcases tc_some h with ⟨x2, s1, e0, h⟩ | ⟨E0, s1, e0, h⟩
  · refine r_callV (dc_L_keep 4 rfl) mv_X9_keep ml_RL_66 (As := [.int xa1]) (t_X9_keep (d := d - 1) hl (by omega) e0) (by omega) rfl (Nat.le_of_ble_eq_true rfl) ?_
    refine r_i2l (dc_L_keep 5 rfl) ?_
    obtain ⟨s3, e0, h⟩ := Option.bind_eq_some_iff.mp h
    refine r_last (dc_L_keep 6 rfl) e0 ?_
    refine r_goto (dc_L_keep 7 rfl) (tgt := 15) (by decide) ?_
    refine r_iconst (dc_L_keep 11 rfl) kiconst_0 ?_
    cases h
    exact r_ireturn (dc_L_keep 12 rfl) rfl
  by_cases c0 : E0 = "java/lang/IllegalArgumentException"
  · subst c0
    rw [if_pos rfl] at h
    cases h
    exact r_callVC [] (0, 9, 12, 13) [] (dc_L_keep 4 rfl) mv_X9_keep ml_RL_66 (As := [.int xa1]) (t_X9_keep (d := d - 1) hl (by omega) e0) (by omega) rfl (Nat.le_of_ble_eq_true rfl) (by decide) rfl (fun z hz => by cases hz) rfl (by decide) cl_RL_13 ca_IllegalArgumentException (Or.inr ⟨3, (dc_L_keep 8 rfl), rfl, rfl⟩) (by decide) (dc_L_keep 9 rfl) kiconst_1 (dc_L_keep 10 rfl) rfl
  rw [if_neg c0] at h
  cases h
theorem t_L_back {G : Gx} {d : Nat} (hl : G.1.stackTraces = false) (hd : 8 ≤ d) {σ : Sto} {pa0 : Nat} {xa1 : Int32} {pa2 : Nat} {r : (Int32 × Sto)} (h : F_L_back σ pa0 xa1 pa2 = some r) : Mt G d m_L_back [.ref pa0, .int xa1, .ref pa2] σ (.inl (some (.int r.1))) r.2 := by
  rw [F_L_back] at h
  refine J.toMtH (lo := [(0, .ref pa0), (1, .int xa1), (2, .ref pa2)]) pn_RL (by decide) hl (Nat.le_of_ble_eq_true rfl) rfl ?_
  refine r_aload_n (dc_L_back 0 rfl) rfl rfl ?_
  refine r_iconst (dc_L_back 1 rfl) kiconst_0 ?_
  refine r_aload_n (dc_L_back 2 rfl) rfl rfl ?_
  refine r_iload_n (dc_L_back 3 rfl) rfl rfl ?_
  rcases tc_some h with ⟨x2, s1, e0, h⟩ | ⟨E0, s1, e0, h⟩
  · refine r_callV (dc_L_back 4 rfl) mv_X9_back ml_RL_69 (As := [.int xa1]) (t_X9_back (d := d - 1) hl (by omega) e0) (by omega) rfl (Nat.le_of_ble_eq_true rfl) ?_
    refine r_i2l (dc_L_back 5 rfl) ?_
    obtain ⟨s3, e0, h⟩ := Option.bind_eq_some_iff.mp h
    refine r_last (dc_L_back 6 rfl) e0 ?_
    refine r_goto (dc_L_back 7 rfl) (tgt := 18) (by decide) ?_
    refine r_iconst (dc_L_back 14 rfl) kiconst_0 ?_
    cases h
    exact r_ireturn (dc_L_back 15 rfl) rfl
  by_cases c0 : E0 = "java/lang/IllegalArgumentException"
  · subst c0
    rw [if_pos rfl] at h
    cases h
    exact r_callVC [] (0, 9, 12, 13) [(0, 9, 15, 29)] (dc_L_back 4 rfl) mv_X9_back ml_RL_69 (As := [.int xa1]) (t_X9_back (d := d - 1) hl (by omega) e0) (by omega) rfl (Nat.le_of_ble_eq_true rfl) (by decide) rfl (fun z hz => by cases hz) rfl (by decide) cl_RL_13 ca_IllegalArgumentException (Or.inr ⟨3, (dc_L_back 8 rfl), rfl, rfl⟩) (by decide) (dc_L_back 9 rfl) kiconst_1 (dc_L_back 10 rfl) rfl
  by_cases c1 : E0 = "java/util/NoSuchElementException"
  · subst c1
    rw [if_neg (by decide), if_pos rfl] at h
    cases h
    exact r_callVC [(0, 9, 12, 13)] (0, 9, 15, 29) [] (dc_L_back 4 rfl) mv_X9_back ml_RL_69 (As := [.int xa1]) (t_X9_back (d := d - 1) hl (by omega) e0) (by omega) rfl (Nat.le_of_ble_eq_true rfl) (by decide) rfl (fun z hz => by simp only [List.mem_cons, List.not_mem_nil, or_false] at hz; rcases hz with rfl <;> first | exact ⟨by decide, "java/lang/IllegalArgumentException", by decide, by decide, cl_RL_13⟩) rfl (by decide) cl_RL_29 ca_NoSuchElementException (Or.inr ⟨3, (dc_L_back 11 rfl), rfl, rfl⟩) (by decide) (dc_L_back 12 rfl) kiconst_2 (dc_L_back 13 rfl) rfl
  rw [if_neg c0, if_neg c1] at h
  cases h
theorem t_L_cut {G : Gx} {d : Nat} (hl : G.1.stackTraces = false) (hd : 8 ≤ d) {σ : Sto} {pa0 : Nat} {xa1 : Int32} {xa2 : Int32} {xa3 : Int32} {pa4 : Nat} {r : (Int32 × Sto)} (h : F_L_cut σ pa0 xa1 xa2 xa3 pa4 = some r) : Mt G d m_L_cut [.ref pa0, .int xa1, .int xa2, .int xa3, .ref pa4] σ (.inl (some (.int r.1))) r.2 := by
  rw [F_L_cut] at h
  refine J.toMtH (lo := [(0, .ref pa0), (1, .int xa1), (2, .int xa2), (3, .int xa3), (4, .ref pa4)]) pn_RL (by decide) hl (Nat.le_of_ble_eq_true rfl) rfl ?_
  refine r_aload (dc_L_cut 0 rfl) rfl ?_
  refine r_iconst (dc_L_cut 1 rfl) kiconst_0 ?_
  refine r_aload_n (dc_L_cut 2 rfl) rfl rfl ?_
  refine r_iload_n (dc_L_cut 3 rfl) rfl rfl ?_
  refine r_iload_n (dc_L_cut 4 rfl) rfl rfl ?_
  refine r_iload_n (dc_L_cut 5 rfl) rfl rfl ?_
  rcases tc_some h with ⟨x2, s1, e0, h⟩ | ⟨E0, s1, e0, h⟩
  · refine r_callV (dc_L_cut 6 rfl) mv_X9_cut ml_RL_72 (As := [.int xa1, .int xa2, .int xa3]) (t_X9_cut (d := d - 1) hl (by omega) e0) (by omega) rfl (Nat.le_of_ble_eq_true rfl) ?_
    refine r_if_eq (dc_L_cut 7 rfl) (tgt := 17) (by decide) (fun c0 => ?_) (fun c0 => ?_)
    · rw [if_pos c0] at h
      refine r_lconst (dc_L_cut 10 rfl) klconst_0 ?_
      obtain ⟨s3, e0, h⟩ := Option.bind_eq_some_iff.mp h
      refine r_last (dc_L_cut 11 rfl) e0 ?_
      refine r_goto (dc_L_cut 12 rfl) (tgt := 26) (by decide) ?_
      refine r_iconst (dc_L_cut 16 rfl) kiconst_0 ?_
      cases h
      exact r_ireturn (dc_L_cut 17 rfl) rfl
    · rw [if_neg c0] at h
      refine r_lconst (dc_L_cut 8 rfl) klconst_1 ?_
      refine r_goto (dc_L_cut 9 rfl) (tgt := 18) (by decide) ?_
      obtain ⟨s4, e0, h⟩ := Option.bind_eq_some_iff.mp h
      refine r_last (dc_L_cut 11 rfl) e0 ?_
      refine r_goto (dc_L_cut 12 rfl) (tgt := 26) (by decide) ?_
      refine r_iconst (dc_L_cut 16 rfl) kiconst_0 ?_
      cases h
      exact r_ireturn (dc_L_cut 17 rfl) rfl
  by_cases c0 : E0 = "java/lang/IndexOutOfBoundsException"
  · subst c0
    rw [if_pos rfl] at h
    cases h
    exact r_callVC [] (0, 19, 22, 22) [] (dc_L_cut 6 rfl) mv_X9_cut ml_RL_72 (As := [.int xa1, .int xa2, .int xa3]) (t_X9_cut (d := d - 1) hl (by omega) e0) (by omega) rfl (Nat.le_of_ble_eq_true rfl) (by decide) rfl (fun z hz => by cases hz) rfl (by decide) cl_RL_22 ca_IndexOutOfBoundsException (Or.inl ⟨(dc_L_cut 13 rfl), rfl⟩) (by decide) (dc_L_cut 14 rfl) kiconst_1 (dc_L_cut 15 rfl) rfl
  rw [if_neg c0] at h
  cases h
theorem t_L_view {G : Gx} {d : Nat} (hl : G.1.stackTraces = false) (hd : 8 ≤ d) {σ : Sto} {pa0 : Nat} {xa1 : Int32} {xa2 : Int32} {xa3 : Int32} {pa4 : Nat} {r : (Int32 × Sto)} (h : F_L_view σ pa0 xa1 xa2 xa3 pa4 = some r) : Mt G d m_L_view [.ref pa0, .int xa1, .int xa2, .int xa3, .ref pa4] σ (.inl (some (.int r.1))) r.2 := by
  rw [F_L_view] at h
  refine J.toMtH (lo := [(0, .ref pa0), (1, .int xa1), (2, .int xa2), (3, .int xa3), (4, .ref pa4)]) pn_RL (by decide) hl (Nat.le_of_ble_eq_true rfl) rfl ?_
  refine r_aload (dc_L_view 0 rfl) rfl ?_
  refine r_iconst (dc_L_view 1 rfl) kiconst_0 ?_
  refine r_aload_n (dc_L_view 2 rfl) rfl rfl ?_
  refine r_iload_n (dc_L_view 3 rfl) rfl rfl ?_
  refine r_iload_n (dc_L_view 4 rfl) rfl rfl ?_
  refine r_iload_n (dc_L_view 5 rfl) rfl rfl ?_
  rcases tc_some h with ⟨x2, s1, e0, h⟩ | ⟨E0, s1, e0, h⟩
  · refine r_callV (dc_L_view 6 rfl) mv_X9_view ml_RL_76 (As := [.int xa1, .int xa2, .int xa3]) (t_X9_view (d := d - 1) hl (by omega) e0) (by omega) rfl (Nat.le_of_ble_eq_true rfl) ?_
    refine r_i2l (dc_L_view 7 rfl) ?_
    obtain ⟨s3, e0, h⟩ := Option.bind_eq_some_iff.mp h
    refine r_last (dc_L_view 8 rfl) e0 ?_
    refine r_goto (dc_L_view 9 rfl) (tgt := 27) (by decide) ?_
    refine r_iconst (dc_L_view 19 rfl) kiconst_0 ?_
    cases h
    exact r_ireturn (dc_L_view 20 rfl) rfl
  by_cases c0 : E0 = "java/lang/IndexOutOfBoundsException"
  · subst c0
    rw [if_pos rfl] at h
    cases h
    exact r_callVC [] (0, 12, 15, 22) [(0, 12, 19, 29), (0, 12, 23, 13)] (dc_L_view 6 rfl) mv_X9_view ml_RL_76 (As := [.int xa1, .int xa2, .int xa3]) (t_X9_view (d := d - 1) hl (by omega) e0) (by omega) rfl (Nat.le_of_ble_eq_true rfl) (by decide) rfl (fun z hz => by cases hz) rfl (by decide) cl_RL_22 ca_IndexOutOfBoundsException (Or.inl ⟨(dc_L_view 10 rfl), rfl⟩) (by decide) (dc_L_view 11 rfl) kiconst_1 (dc_L_view 12 rfl) rfl
  by_cases c1 : E0 = "java/util/NoSuchElementException"
  · subst c1
    rw [if_neg (by decide), if_pos rfl] at h
    cases h
    exact r_callVC [(0, 12, 15, 22)] (0, 12, 19, 29) [(0, 12, 23, 13)] (dc_L_view 6 rfl) mv_X9_view ml_RL_76 (As := [.int xa1, .int xa2, .int xa3]) (t_X9_view (d := d - 1) hl (by omega) e0) (by omega) rfl (Nat.le_of_ble_eq_true rfl) (by decide) rfl (fun z hz => by simp only [List.mem_cons, List.not_mem_nil, or_false] at hz; rcases hz with rfl <;> first | exact ⟨by decide, "java/lang/IndexOutOfBoundsException", by decide, by decide, cl_RL_22⟩) rfl (by decide) cl_RL_29 ca_NoSuchElementException (Or.inl ⟨(dc_L_view 13 rfl), rfl⟩) (by decide) (dc_L_view 14 rfl) kiconst_2 (dc_L_view 15 rfl) rfl
  by_cases c2 : E0 = "java/lang/IllegalArgumentException"
  · subst c2
    rw [if_neg (by decide), if_neg (by decide), if_pos rfl] at h
    cases h
    exact r_callVC [(0, 12, 15, 22), (0, 12, 19, 29)] (0, 12, 23, 13) [] (dc_L_view 6 rfl) mv_X9_view ml_RL_76 (As := [.int xa1, .int xa2, .int xa3]) (t_X9_view (d := d - 1) hl (by omega) e0) (by omega) rfl (Nat.le_of_ble_eq_true rfl) (by decide) rfl (fun z hz => by simp only [List.mem_cons, List.not_mem_nil, or_false] at hz; rcases hz with rfl | rfl <;> first | exact ⟨by decide, "java/lang/IndexOutOfBoundsException", by decide, by decide, cl_RL_22⟩ | exact ⟨by decide, "java/util/NoSuchElementException", by decide, by decide, cl_RL_29⟩) rfl (by decide) cl_RL_13 ca_IllegalArgumentException (Or.inl ⟨(dc_L_view 16 rfl), rfl⟩) (by decide) (dc_L_view 17 rfl) kiconst_3 (dc_L_view 18 rfl) rfl
  rw [if_neg c0, if_neg c1, if_neg c2] at h
  cases h
theorem t_L_named {G : Gx} {d : Nat} (hl : G.1.stackTraces = false) (hd : 8 ≤ d) {σ : Sto} {pa0 : Nat} {xa1 : Int32} {xa2 : Int32} {xa3 : Int32} {pa4 : Nat} {r : (Int32 × Sto)} (h : F_L_named σ pa0 xa1 xa2 xa3 pa4 = some r) : Mt G d m_L_named [.ref pa0, .int xa1, .int xa2, .int xa3, .ref pa4] σ (.inl (some (.int r.1))) r.2 := by
  rw [F_L_named] at h
  refine J.toMtH (lo := [(0, .ref pa0), (1, .int xa1), (2, .int xa2), (3, .int xa3), (4, .ref pa4)]) pn_RL (by decide) hl (Nat.le_of_ble_eq_true rfl) rfl ?_
  refine r_aload (dc_L_named 0 rfl) rfl ?_
  refine r_iconst (dc_L_named 1 rfl) kiconst_0 ?_
  refine r_aload_n (dc_L_named 2 rfl) rfl rfl ?_
  refine r_iload_n (dc_L_named 3 rfl) rfl rfl ?_
  refine r_iload_n (dc_L_named 4 rfl) rfl rfl ?_
  refine r_iload_n (dc_L_named 5 rfl) rfl rfl ?_
  rcases tc_some h with ⟨x2, s1, e0, h⟩ | ⟨E0, s1, e0, h⟩
  · refine r_callV (dc_L_named 6 rfl) mv_X9_named ml_RL_79 (As := [.int xa1, .int xa2, .int xa3]) (t_X9_named (d := d - 1) hl (by omega) e0) (by omega) rfl (Nat.le_of_ble_eq_true rfl) ?_
    refine r_i2l (dc_L_named 7 rfl) ?_
    obtain ⟨s3, e0, h⟩ := Option.bind_eq_some_iff.mp h
    refine r_last (dc_L_named 8 rfl) e0 ?_
    refine r_goto (dc_L_named 9 rfl) (tgt := 23) (by decide) ?_
    refine r_iconst (dc_L_named 16 rfl) kiconst_0 ?_
    cases h
    exact r_ireturn (dc_L_named 17 rfl) rfl
  by_cases c0 : E0 = "java/lang/IndexOutOfBoundsException"
  · subst c0
    rw [if_pos rfl] at h
    cases h
    exact r_callVC [] (0, 12, 15, 22) [(0, 12, 19, 13)] (dc_L_named 6 rfl) mv_X9_named ml_RL_79 (As := [.int xa1, .int xa2, .int xa3]) (t_X9_named (d := d - 1) hl (by omega) e0) (by omega) rfl (Nat.le_of_ble_eq_true rfl) (by decide) rfl (fun z hz => by cases hz) rfl (by decide) cl_RL_22 ca_IndexOutOfBoundsException (Or.inl ⟨(dc_L_named 10 rfl), rfl⟩) (by decide) (dc_L_named 11 rfl) kiconst_1 (dc_L_named 12 rfl) rfl
  by_cases c1 : E0 = "java/lang/IllegalArgumentException"
  · subst c1
    rw [if_neg (by decide), if_pos rfl] at h
    cases h
    exact r_callVC [(0, 12, 15, 22)] (0, 12, 19, 13) [] (dc_L_named 6 rfl) mv_X9_named ml_RL_79 (As := [.int xa1, .int xa2, .int xa3]) (t_X9_named (d := d - 1) hl (by omega) e0) (by omega) rfl (Nat.le_of_ble_eq_true rfl) (by decide) rfl (fun z hz => by simp only [List.mem_cons, List.not_mem_nil, or_false] at hz; rcases hz with rfl <;> first | exact ⟨by decide, "java/lang/IndexOutOfBoundsException", by decide, by decide, cl_RL_22⟩) rfl (by decide) cl_RL_13 ca_IllegalArgumentException (Or.inl ⟨(dc_L_named 13 rfl), rfl⟩) (by decide) (dc_L_named 14 rfl) kiconst_2 (dc_L_named 15 rfl) rfl
  rw [if_neg c0, if_neg c1] at h
  cases h
theorem t_L_log {G : Gx} {d : Nat} (hl : G.1.stackTraces = false) (hd : 8 ≤ d) {σ : Sto} {pa0 : Nat} {xa1 : Int32} {xa2 : Int32} {pa3 : Nat} {r : (Int32 × Sto)} (h : F_L_log σ pa0 xa1 xa2 pa3 = some r) : Mt G d m_L_log [.ref pa0, .int xa1, .int xa2, .ref pa3] σ (.inl (some (.int r.1))) r.2 := by
  rw [F_L_log] at h
  refine J.toMtH (lo := [(0, .ref pa0), (1, .int xa1), (2, .int xa2), (3, .ref pa3)]) pn_RL (by decide) hl (Nat.le_of_ble_eq_true rfl) rfl ?_
  refine r_aload_n (dc_L_log 0 rfl) rfl rfl ?_
  refine r_iconst (dc_L_log 1 rfl) kiconst_0 ?_
  refine r_aload_n (dc_L_log 2 rfl) rfl rfl ?_
  refine r_iload_n (dc_L_log 3 rfl) rfl rfl ?_
  refine r_iload_n (dc_L_log 4 rfl) rfl rfl ?_
  rcases tc_some h with ⟨x2, s1, e0, h⟩ | ⟨E0, s1, e0, h⟩
  · refine r_callV (dc_L_log 5 rfl) mv_X9_log ml_RL_82 (As := [.int xa1, .int xa2]) (t_X9_log (d := d - 1) hl (by omega) e0) (by omega) rfl (Nat.le_of_ble_eq_true rfl) ?_
    refine r_i2l (dc_L_log 6 rfl) ?_
    obtain ⟨s3, e0, h⟩ := Option.bind_eq_some_iff.mp h
    refine r_last (dc_L_log 7 rfl) e0 ?_
    refine r_goto (dc_L_log 8 rfl) (tgt := 21) (by decide) ?_
    refine r_iconst (dc_L_log 15 rfl) kiconst_0 ?_
    cases h
    exact r_ireturn (dc_L_log 16 rfl) rfl
  by_cases c0 : E0 = "java/lang/IndexOutOfBoundsException"
  · subst c0
    rw [if_pos rfl] at h
    cases h
    exact r_callVC [] (0, 10, 13, 22) [(0, 10, 17, 29)] (dc_L_log 5 rfl) mv_X9_log ml_RL_82 (As := [.int xa1, .int xa2]) (t_X9_log (d := d - 1) hl (by omega) e0) (by omega) rfl (Nat.le_of_ble_eq_true rfl) (by decide) rfl (fun z hz => by cases hz) rfl (by decide) cl_RL_22 ca_IndexOutOfBoundsException (Or.inl ⟨(dc_L_log 9 rfl), rfl⟩) (by decide) (dc_L_log 10 rfl) kiconst_1 (dc_L_log 11 rfl) rfl
  by_cases c1 : E0 = "java/util/NoSuchElementException"
  · subst c1
    rw [if_neg (by decide), if_pos rfl] at h
    cases h
    exact r_callVC [(0, 10, 13, 22)] (0, 10, 17, 29) [] (dc_L_log 5 rfl) mv_X9_log ml_RL_82 (As := [.int xa1, .int xa2]) (t_X9_log (d := d - 1) hl (by omega) e0) (by omega) rfl (Nat.le_of_ble_eq_true rfl) (by decide) rfl (fun z hz => by simp only [List.mem_cons, List.not_mem_nil, or_false] at hz; rcases hz with rfl <;> first | exact ⟨by decide, "java/lang/IndexOutOfBoundsException", by decide, by decide, cl_RL_22⟩) rfl (by decide) cl_RL_29 ca_NoSuchElementException (Or.inl ⟨(dc_L_log 12 rfl), rfl⟩) (by decide) (dc_L_log 13 rfl) kiconst_2 (dc_L_log 14 rfl) rfl
  rw [if_neg c0, if_neg c1] at h
  cases h
theorem t_L_table {G : Gx} {d : Nat} (hl : G.1.stackTraces = false) (hd : 8 ≤ d) {σ : Sto} {pa0 : Nat} {xa1 : Int32} {xa2 : Int32} {xa3 : Int32} {pa4 : Nat} {r : (Int32 × Sto)} (h : F_L_table σ pa0 xa1 xa2 xa3 pa4 = some r) : Mt G d m_L_table [.ref pa0, .int xa1, .int xa2, .int xa3, .ref pa4] σ (.inl (some (.int r.1))) r.2 := by
  rw [F_L_table] at h
  refine J.toMtH (lo := [(0, .ref pa0), (1, .int xa1), (2, .int xa2), (3, .int xa3), (4, .ref pa4)]) pn_RL (by decide) hl (Nat.le_of_ble_eq_true rfl) rfl ?_
  refine r_aload (dc_L_table 0 rfl) rfl ?_
  refine r_iconst (dc_L_table 1 rfl) kiconst_0 ?_
  refine r_aload_n (dc_L_table 2 rfl) rfl rfl ?_
  refine r_iload_n (dc_L_table 3 rfl) rfl rfl ?_
  refine r_iload_n (dc_L_table 4 rfl) rfl rfl ?_
  refine r_iload_n (dc_L_table 5 rfl) rfl rfl ?_
  rcases tc_some h with ⟨x2, s1, e0, h⟩ | ⟨E0, s1, e0, h⟩
  · refine r_callV (dc_L_table 6 rfl) mv_X9_table ml_RL_85 (As := [.int xa1, .int xa2, .int xa3]) (t_X9_table (d := d - 1) hl (by omega) e0) (by omega) rfl (Nat.le_of_ble_eq_true rfl) ?_
    refine r_i2l (dc_L_table 7 rfl) ?_
    obtain ⟨s3, e0, h⟩ := Option.bind_eq_some_iff.mp h
    refine r_last (dc_L_table 8 rfl) e0 ?_
    refine r_goto (dc_L_table 9 rfl) (tgt := 19) (by decide) ?_
    refine r_iconst (dc_L_table 13 rfl) kiconst_0 ?_
    cases h
    exact r_ireturn (dc_L_table 14 rfl) rfl
  by_cases c0 : E0 = "java/lang/IndexOutOfBoundsException"
  · subst c0
    rw [if_pos rfl] at h
    cases h
    exact r_callVC [] (0, 12, 15, 22) [] (dc_L_table 6 rfl) mv_X9_table ml_RL_85 (As := [.int xa1, .int xa2, .int xa3]) (t_X9_table (d := d - 1) hl (by omega) e0) (by omega) rfl (Nat.le_of_ble_eq_true rfl) (by decide) rfl (fun z hz => by cases hz) rfl (by decide) cl_RL_22 ca_IndexOutOfBoundsException (Or.inl ⟨(dc_L_table 10 rfl), rfl⟩) (by decide) (dc_L_table 11 rfl) kiconst_1 (dc_L_table 12 rfl) rfl
  rw [if_neg c0] at h
  cases h
theorem t_L_knows {G : Gx} {d : Nat} (hl : G.1.stackTraces = false) (hd : 8 ≤ d) {σ : Sto} {pa0 : Nat} {xa1 : Int32} {xa2 : Int32} {xa3 : Int32} {pa4 : Nat} {r : (Int32 × Sto)} (h : F_L_knows σ pa0 xa1 xa2 xa3 pa4 = some r) : Mt G d m_L_knows [.ref pa0, .int xa1, .int xa2, .int xa3, .ref pa4] σ (.inl (some (.int r.1))) r.2 := by
  rw [F_L_knows] at h
  refine J.toMtH (lo := [(0, .ref pa0), (1, .int xa1), (2, .int xa2), (3, .int xa3), (4, .ref pa4)]) pn_RL (by decide) hl (Nat.le_of_ble_eq_true rfl) rfl ?_
  refine r_aload (dc_L_knows 0 rfl) rfl ?_
  refine r_iconst (dc_L_knows 1 rfl) kiconst_0 ?_
  refine r_aload_n (dc_L_knows 2 rfl) rfl rfl ?_
  refine r_iload_n (dc_L_knows 3 rfl) rfl rfl ?_
  refine r_iload_n (dc_L_knows 4 rfl) rfl rfl ?_
  refine r_iload_n (dc_L_knows 5 rfl) rfl rfl ?_
  rcases tc_some h with ⟨x2, s1, e0, h⟩ | ⟨E0, s1, e0, h⟩
  · refine r_callV (dc_L_knows 6 rfl) mv_X9_knows ml_RL_88 (As := [.int xa1, .int xa2, .int xa3]) (t_X9_knows (d := d - 1) hl (by omega) e0) (by omega) rfl (Nat.le_of_ble_eq_true rfl) ?_
    refine r_if_eq (dc_L_knows 7 rfl) (tgt := 17) (by decide) (fun c0 => ?_) (fun c0 => ?_)
    · rw [if_pos c0] at h
      refine r_lconst (dc_L_knows 10 rfl) klconst_0 ?_
      obtain ⟨s3, e0, h⟩ := Option.bind_eq_some_iff.mp h
      refine r_last (dc_L_knows 11 rfl) e0 ?_
      refine r_goto (dc_L_knows 12 rfl) (tgt := 26) (by decide) ?_
      refine r_iconst (dc_L_knows 16 rfl) kiconst_0 ?_
      cases h
      exact r_ireturn (dc_L_knows 17 rfl) rfl
    · rw [if_neg c0] at h
      refine r_lconst (dc_L_knows 8 rfl) klconst_1 ?_
      refine r_goto (dc_L_knows 9 rfl) (tgt := 18) (by decide) ?_
      obtain ⟨s4, e0, h⟩ := Option.bind_eq_some_iff.mp h
      refine r_last (dc_L_knows 11 rfl) e0 ?_
      refine r_goto (dc_L_knows 12 rfl) (tgt := 26) (by decide) ?_
      refine r_iconst (dc_L_knows 16 rfl) kiconst_0 ?_
      cases h
      exact r_ireturn (dc_L_knows 17 rfl) rfl
  by_cases c0 : E0 = "java/lang/IndexOutOfBoundsException"
  · subst c0
    rw [if_pos rfl] at h
    cases h
    exact r_callVC [] (0, 19, 22, 22) [] (dc_L_knows 6 rfl) mv_X9_knows ml_RL_88 (As := [.int xa1, .int xa2, .int xa3]) (t_X9_knows (d := d - 1) hl (by omega) e0) (by omega) rfl (Nat.le_of_ble_eq_true rfl) (by decide) rfl (fun z hz => by cases hz) rfl (by decide) cl_RL_22 ca_IndexOutOfBoundsException (Or.inl ⟨(dc_L_knows 13 rfl), rfl⟩) (by decide) (dc_L_knows 14 rfl) kiconst_1 (dc_L_knows 15 rfl) rfl
  rw [if_neg c0] at h
  cases h
theorem t_L_has {G : Gx} {d : Nat} (hl : G.1.stackTraces = false) (hd : 8 ≤ d) {σ : Sto} {pa0 : Nat} {xa1 : Int32} {xa2 : Int32} {pa3 : Nat} {r : (Int32 × Sto)} (h : F_L_has σ pa0 xa1 xa2 pa3 = some r) : Mt G d m_L_has [.ref pa0, .int xa1, .int xa2, .ref pa3] σ (.inl (some (.int r.1))) r.2 := by
  rw [F_L_has] at h
  refine J.toMtH (lo := [(0, .ref pa0), (1, .int xa1), (2, .int xa2), (3, .ref pa3)]) pn_RL (by decide) hl (Nat.le_of_ble_eq_true rfl) rfl ?_
  refine r_aload_n (dc_L_has 0 rfl) rfl rfl ?_
  refine r_iconst (dc_L_has 1 rfl) kiconst_0 ?_
  refine r_aload_n (dc_L_has 2 rfl) rfl rfl ?_
  refine r_iload_n (dc_L_has 3 rfl) rfl rfl ?_
  refine r_iload_n (dc_L_has 4 rfl) rfl rfl ?_
  rcases tc_some h with ⟨x2, s1, e0, h⟩ | ⟨E0, s1, e0, h⟩
  · refine r_callV (dc_L_has 5 rfl) mv_X9_has ml_RL_92 (As := [.int xa1, .int xa2]) (t_X9_has (d := d - 1) hl (by omega) e0) (by omega) rfl (Nat.le_of_ble_eq_true rfl) ?_
    refine r_if_eq (dc_L_has 6 rfl) (tgt := 15) (by decide) (fun c0 => ?_) (fun c0 => ?_)
    · rw [if_pos c0] at h
      refine r_lconst (dc_L_has 9 rfl) klconst_0 ?_
      obtain ⟨s3, e0, h⟩ := Option.bind_eq_some_iff.mp h
      refine r_last (dc_L_has 10 rfl) e0 ?_
      refine r_goto (dc_L_has 11 rfl) (tgt := 24) (by decide) ?_
      refine r_iconst (dc_L_has 15 rfl) kiconst_0 ?_
      cases h
      exact r_ireturn (dc_L_has 16 rfl) rfl
    · rw [if_neg c0] at h
      refine r_lconst (dc_L_has 7 rfl) klconst_1 ?_
      refine r_goto (dc_L_has 8 rfl) (tgt := 16) (by decide) ?_
      obtain ⟨s4, e0, h⟩ := Option.bind_eq_some_iff.mp h
      refine r_last (dc_L_has 10 rfl) e0 ?_
      refine r_goto (dc_L_has 11 rfl) (tgt := 24) (by decide) ?_
      refine r_iconst (dc_L_has 15 rfl) kiconst_0 ?_
      cases h
      exact r_ireturn (dc_L_has 16 rfl) rfl
  by_cases c0 : E0 = "java/lang/IndexOutOfBoundsException"
  · subst c0
    rw [if_pos rfl] at h
    cases h
    exact r_callVC [] (0, 17, 20, 22) [] (dc_L_has 5 rfl) mv_X9_has ml_RL_92 (As := [.int xa1, .int xa2]) (t_X9_has (d := d - 1) hl (by omega) e0) (by omega) rfl (Nat.le_of_ble_eq_true rfl) (by decide) rfl (fun z hz => by cases hz) rfl (by decide) cl_RL_22 ca_IndexOutOfBoundsException (Or.inl ⟨(dc_L_has 12 rfl), rfl⟩) (by decide) (dc_L_has 13 rfl) kiconst_1 (dc_L_has 14 rfl) rfl
  rw [if_neg c0] at h
  cases h
theorem t_L_site {G : Gx} {d : Nat} (hl : G.1.stackTraces = false) (hd : 8 ≤ d) {σ : Sto} {pa0 : Nat} {xa1 : Int32} {xa2 : Int32} {pa3 : Nat} {r : (Int32 × Sto)} (h : F_L_site σ pa0 xa1 xa2 pa3 = some r) : Mt G d m_L_site [.ref pa0, .int xa1, .int xa2, .ref pa3] σ (.inl (some (.int r.1))) r.2 := by
  rw [F_L_site] at h
  refine J.toMtH (lo := [(0, .ref pa0), (1, .int xa1), (2, .int xa2), (3, .ref pa3)]) pn_RL (by decide) hl (Nat.le_of_ble_eq_true rfl) rfl ?_
  refine r_aload_n (dc_L_site 0 rfl) rfl rfl ?_
  refine r_iconst (dc_L_site 1 rfl) kiconst_0 ?_
  refine r_aload_n (dc_L_site 2 rfl) rfl rfl ?_
  refine r_iload_n (dc_L_site 3 rfl) rfl rfl ?_
  refine r_iload_n (dc_L_site 4 rfl) rfl rfl ?_
  rcases tc_some h with ⟨x2, s1, e0, h⟩ | ⟨E0, s1, e0, h⟩
  · refine r_callV (dc_L_site 5 rfl) mv_X9_site ml_RL_96 (As := [.int xa1, .int xa2]) (t_X9_site (d := d - 1) hl (by omega) e0) (by omega) rfl (Nat.le_of_ble_eq_true rfl) ?_
    refine r_i2l (dc_L_site 6 rfl) ?_
    obtain ⟨s3, e0, h⟩ := Option.bind_eq_some_iff.mp h
    refine r_last (dc_L_site 7 rfl) e0 ?_
    refine r_goto (dc_L_site 8 rfl) (tgt := 21) (by decide) ?_
    refine r_iconst (dc_L_site 15 rfl) kiconst_0 ?_
    cases h
    exact r_ireturn (dc_L_site 16 rfl) rfl
  by_cases c0 : E0 = "java/lang/IndexOutOfBoundsException"
  · subst c0
    rw [if_pos rfl] at h
    cases h
    exact r_callVC [] (0, 10, 13, 22) [(0, 10, 17, 13)] (dc_L_site 5 rfl) mv_X9_site ml_RL_96 (As := [.int xa1, .int xa2]) (t_X9_site (d := d - 1) hl (by omega) e0) (by omega) rfl (Nat.le_of_ble_eq_true rfl) (by decide) rfl (fun z hz => by cases hz) rfl (by decide) cl_RL_22 ca_IndexOutOfBoundsException (Or.inl ⟨(dc_L_site 9 rfl), rfl⟩) (by decide) (dc_L_site 10 rfl) kiconst_1 (dc_L_site 11 rfl) rfl
  by_cases c1 : E0 = "java/lang/IllegalArgumentException"
  · subst c1
    rw [if_neg (by decide), if_pos rfl] at h
    cases h
    exact r_callVC [(0, 10, 13, 22)] (0, 10, 17, 13) [] (dc_L_site 5 rfl) mv_X9_site ml_RL_96 (As := [.int xa1, .int xa2]) (t_X9_site (d := d - 1) hl (by omega) e0) (by omega) rfl (Nat.le_of_ble_eq_true rfl) (by decide) rfl (fun z hz => by simp only [List.mem_cons, List.not_mem_nil, or_false] at hz; rcases hz with rfl <;> first | exact ⟨by decide, "java/lang/IndexOutOfBoundsException", by decide, by decide, cl_RL_22⟩) rfl (by decide) cl_RL_13 ca_IllegalArgumentException (Or.inl ⟨(dc_L_site 12 rfl), rfl⟩) (by decide) (dc_L_site 13 rfl) kiconst_2 (dc_L_site 14 rfl) rfl
  rw [if_neg c0, if_neg c1] at h
  cases h
