theorem t_L_unlike {G : Gx} {d : Nat} (hl : G.1.stackTraces = false) (hd : 8 ≤ d) {σ : Sto} {pa0 : Nat} {xa1 : Int32} {xa2 : Int32} {pa3 : Nat} {r : (Int32 × Sto)} (h : F_L_unlike σ pa0 xa1 xa2 pa3 = some r) : Mt G d m_L_unlike [.ref pa0, .int xa1, .int xa2, .ref pa3] σ (.inl (some (.int r.1))) r.2 := by
  rw [F_L_unlike] at h
  refine J.toMtH (lo := [(0, .ref pa0), (1, .int xa1), (2, .int xa2), (3, .ref pa3)]) pn_RL (by decide) hl (Nat.le_of_ble_eq_true rfl) rfl ?_
  refine r_aload_n (dc_L_unlike 0 rfl) rfl rfl ?_
  refine r_iconst (dc_L_unlike 1 rfl) kiconst_0 ?_
  refine r_aload_n (dc_L_unlike 2 rfl) rfl rfl ?_
  refine r_iload_n (dc_L_unlike 3 rfl) rfl rfl ?_
  refine r_iload_n (dc_L_unlike 4 rfl) rfl rfl ?_
  rcases tc_some h with ⟨x2, s1, e0, h⟩ | ⟨E0, s1, e0, h⟩
  · refine r_callV (dc_L_unlike 5 rfl) mv_X9_unlike ml_RL_99 (As := [.int xa1, .int xa2]) (t_X9_unlike (d := d - 1) hl (by omega) e0) (by omega) rfl (Nat.le_of_ble_eq_true rfl) ?_
    refine r_i2l (dc_L_unlike 6 rfl) ?_
    obtain ⟨s3, e0, h⟩ := Option.bind_eq_some_iff.mp h
    refine r_last (dc_L_unlike 7 rfl) e0 ?_
    refine r_goto (dc_L_unlike 8 rfl) (tgt := 17) (by decide) ?_
    refine r_iconst (dc_L_unlike 12 rfl) kiconst_0 ?_
    cases h
    exact r_ireturn (dc_L_unlike 13 rfl) rfl
  by_cases c0 : E0 = "java/lang/IndexOutOfBoundsException"
  · subst c0
    rw [if_pos rfl] at h
    cases h
    exact r_callVC [] (0, 10, 13, 22) [] (dc_L_unlike 5 rfl) mv_X9_unlike ml_RL_99 (As := [.int xa1, .int xa2]) (t_X9_unlike (d := d - 1) hl (by omega) e0) (by omega) rfl (Nat.le_of_ble_eq_true rfl) (by decide) rfl (fun z hz => by cases hz) rfl (by decide) cl_RL_22 ca_IndexOutOfBoundsException (Or.inl ⟨(dc_L_unlike 9 rfl), rfl⟩) (by decide) (dc_L_unlike 10 rfl) kiconst_1 (dc_L_unlike 11 rfl) rfl
  rw [if_neg c0] at h
  cases h
theorem t_L_would {G : Gx} {d : Nat} (hl : G.1.stackTraces = false) (hd : 8 ≤ d) {σ : Sto} {pa0 : Nat} {xa1 : Int32} {xa2 : Int32} {xa3 : Int32} {pa4 : Nat} {r : (Int32 × Sto)} (h : F_L_would σ pa0 xa1 xa2 xa3 pa4 = some r) : Mt G d m_L_would [.ref pa0, .int xa1, .int xa2, .int xa3, .ref pa4] σ (.inl (some (.int r.1))) r.2 := by
  rw [F_L_would] at h
  refine J.toMtH (lo := [(0, .ref pa0), (1, .int xa1), (2, .int xa2), (3, .int xa3), (4, .ref pa4)]) pn_RL (by decide) hl (Nat.le_of_ble_eq_true rfl) rfl ?_
  refine r_aload (dc_L_would 0 rfl) rfl ?_
  refine r_iconst (dc_L_would 1 rfl) kiconst_0 ?_
  refine r_aload_n (dc_L_would 2 rfl) rfl rfl ?_
  refine r_iload_n (dc_L_would 3 rfl) rfl rfl ?_
  refine r_iload_n (dc_L_would 4 rfl) rfl rfl ?_
  refine r_iload_n (dc_L_would 5 rfl) rfl rfl ?_
  rcases tc_some h with ⟨x2, s1, e0, h⟩ | ⟨E0, s1, e0, h⟩
  · refine r_callV (dc_L_would 6 rfl) mv_X9_would ml_RL_102 (As := [.int xa1, .int xa2, .int xa3]) (t_X9_would (d := d - 1) hl (by omega) e0) (by omega) rfl (Nat.le_of_ble_eq_true rfl) ?_
    refine r_i2l (dc_L_would 7 rfl) ?_
    obtain ⟨s3, e0, h⟩ := Option.bind_eq_some_iff.mp h
    refine r_last (dc_L_would 8 rfl) e0 ?_
    refine r_goto (dc_L_would 9 rfl) (tgt := 23) (by decide) ?_
    refine r_iconst (dc_L_would 16 rfl) kiconst_0 ?_
    cases h
    exact r_ireturn (dc_L_would 17 rfl) rfl
  by_cases c0 : E0 = "java/lang/IndexOutOfBoundsException"
  · subst c0
    rw [if_pos rfl] at h
    cases h
    exact r_callVC [] (0, 12, 15, 22) [(0, 12, 19, 13)] (dc_L_would 6 rfl) mv_X9_would ml_RL_102 (As := [.int xa1, .int xa2, .int xa3]) (t_X9_would (d := d - 1) hl (by omega) e0) (by omega) rfl (Nat.le_of_ble_eq_true rfl) (by decide) rfl (fun z hz => by cases hz) rfl (by decide) cl_RL_22 ca_IndexOutOfBoundsException (Or.inl ⟨(dc_L_would 10 rfl), rfl⟩) (by decide) (dc_L_would 11 rfl) kiconst_1 (dc_L_would 12 rfl) rfl
  by_cases c1 : E0 = "java/lang/IllegalArgumentException"
  · subst c1
    rw [if_neg (by decide), if_pos rfl] at h
    cases h
    exact r_callVC [(0, 12, 15, 22)] (0, 12, 19, 13) [] (dc_L_would 6 rfl) mv_X9_would ml_RL_102 (As := [.int xa1, .int xa2, .int xa3]) (t_X9_would (d := d - 1) hl (by omega) e0) (by omega) rfl (Nat.le_of_ble_eq_true rfl) (by decide) rfl (fun z hz => by simp only [List.mem_cons, List.not_mem_nil, or_false] at hz; rcases hz with rfl <;> first | exact ⟨by decide, "java/lang/IndexOutOfBoundsException", by decide, by decide, cl_RL_22⟩) rfl (by decide) cl_RL_13 ca_IllegalArgumentException (Or.inl ⟨(dc_L_would 13 rfl), rfl⟩) (by decide) (dc_L_would 14 rfl) kiconst_2 (dc_L_would 15 rfl) rfl
  rw [if_neg c0, if_neg c1] at h
  cases h
theorem t_L_event {G : Gx} {d : Nat} (hl : G.1.stackTraces = false) (hd : 8 ≤ d) {σ : Sto} {pa0 : Nat} {xa1 : Int32} {xa2 : Int32} {pa3 : Nat} {r : (Int32 × Sto)} (h : F_L_event σ pa0 xa1 xa2 pa3 = some r) : Mt G d m_L_event [.ref pa0, .int xa1, .int xa2, .ref pa3] σ (.inl (some (.int r.1))) r.2 := by
  rw [F_L_event] at h
  refine J.toMtH (lo := [(0, .ref pa0), (1, .int xa1), (2, .int xa2), (3, .ref pa3)]) pn_RL (by decide) hl (Nat.le_of_ble_eq_true rfl) rfl ?_
  refine r_aload_n (dc_L_event 0 rfl) rfl rfl ?_
  refine r_iconst (dc_L_event 1 rfl) kiconst_0 ?_
  refine r_aload_n (dc_L_event 2 rfl) rfl rfl ?_
  refine r_iload_n (dc_L_event 3 rfl) rfl rfl ?_
  refine r_iload_n (dc_L_event 4 rfl) rfl rfl ?_
  rcases tc_some h with ⟨x2, s1, e0, h⟩ | ⟨E0, s1, e0, h⟩
  · refine r_callV (dc_L_event 5 rfl) mv_X9_event ml_RL_105 (As := [.int xa1, .int xa2]) (t_X9_event (d := d - 1) hl (by omega) e0) (by omega) rfl (Nat.le_of_ble_eq_true rfl) ?_
    refine r_i2l (dc_L_event 6 rfl) ?_
    obtain ⟨s3, e0, h⟩ := Option.bind_eq_some_iff.mp h
    refine r_last (dc_L_event 7 rfl) e0 ?_
    refine r_goto (dc_L_event 8 rfl) (tgt := 21) (by decide) ?_
    refine r_iconst (dc_L_event 15 rfl) kiconst_0 ?_
    cases h
    exact r_ireturn (dc_L_event 16 rfl) rfl
  by_cases c0 : E0 = "java/lang/IndexOutOfBoundsException"
  · subst c0
    rw [if_pos rfl] at h
    cases h
    exact r_callVC [] (0, 10, 13, 22) [(0, 10, 17, 13)] (dc_L_event 5 rfl) mv_X9_event ml_RL_105 (As := [.int xa1, .int xa2]) (t_X9_event (d := d - 1) hl (by omega) e0) (by omega) rfl (Nat.le_of_ble_eq_true rfl) (by decide) rfl (fun z hz => by cases hz) rfl (by decide) cl_RL_22 ca_IndexOutOfBoundsException (Or.inl ⟨(dc_L_event 9 rfl), rfl⟩) (by decide) (dc_L_event 10 rfl) kiconst_1 (dc_L_event 11 rfl) rfl
  by_cases c1 : E0 = "java/lang/IllegalArgumentException"
  · subst c1
    rw [if_neg (by decide), if_pos rfl] at h
    cases h
    exact r_callVC [(0, 10, 13, 22)] (0, 10, 17, 13) [] (dc_L_event 5 rfl) mv_X9_event ml_RL_105 (As := [.int xa1, .int xa2]) (t_X9_event (d := d - 1) hl (by omega) e0) (by omega) rfl (Nat.le_of_ble_eq_true rfl) (by decide) rfl (fun z hz => by simp only [List.mem_cons, List.not_mem_nil, or_false] at hz; rcases hz with rfl <;> first | exact ⟨by decide, "java/lang/IndexOutOfBoundsException", by decide, by decide, cl_RL_22⟩) rfl (by decide) cl_RL_13 ca_IllegalArgumentException (Or.inl ⟨(dc_L_event 12 rfl), rfl⟩) (by decide) (dc_L_event 13 rfl) kiconst_2 (dc_L_event 14 rfl) rfl
  rw [if_neg c0, if_neg c1] at h
  cases h
theorem t_L_ahead {G : Gx} {d : Nat} (hl : G.1.stackTraces = false) (hd : 8 ≤ d) {σ : Sto} {pa0 : Nat} {xa1 : Int32} {xa2 : Int32} {pa3 : Nat} {r : (Int32 × Sto)} (h : F_L_ahead σ pa0 xa1 xa2 pa3 = some r) : Mt G d m_L_ahead [.ref pa0, .int xa1, .int xa2, .ref pa3] σ (.inl (some (.int r.1))) r.2 := by
  rw [F_L_ahead] at h
  refine J.toMtH (lo := [(0, .ref pa0), (1, .int xa1), (2, .int xa2), (3, .ref pa3)]) pn_RL (by decide) hl (Nat.le_of_ble_eq_true rfl) rfl ?_
  refine r_aload_n (dc_L_ahead 0 rfl) rfl rfl ?_
  refine r_iconst (dc_L_ahead 1 rfl) kiconst_0 ?_
  refine r_aload_n (dc_L_ahead 2 rfl) rfl rfl ?_
  refine r_iload_n (dc_L_ahead 3 rfl) rfl rfl ?_
  refine r_iload_n (dc_L_ahead 4 rfl) rfl rfl ?_
  rcases tc_some h with ⟨x2, s1, e0, h⟩ | ⟨E0, s1, e0, h⟩
  · refine r_callV (dc_L_ahead 5 rfl) mv_X9_ahead ml_RL_108 (As := [.int xa1, .int xa2]) (t_X9_ahead (d := d - 1) hl (by omega) e0) (by omega) rfl (Nat.le_of_ble_eq_true rfl) ?_
    refine r_if_eq (dc_L_ahead 6 rfl) (tgt := 15) (by decide) (fun c0 => ?_) (fun c0 => ?_)
    · rw [if_pos c0] at h
      refine r_lconst (dc_L_ahead 9 rfl) klconst_0 ?_
      obtain ⟨s3, e0, h⟩ := Option.bind_eq_some_iff.mp h
      refine r_last (dc_L_ahead 10 rfl) e0 ?_
      refine r_goto (dc_L_ahead 11 rfl) (tgt := 24) (by decide) ?_
      refine r_iconst (dc_L_ahead 15 rfl) kiconst_0 ?_
      cases h
      exact r_ireturn (dc_L_ahead 16 rfl) rfl
    · rw [if_neg c0] at h
      refine r_lconst (dc_L_ahead 7 rfl) klconst_1 ?_
      refine r_goto (dc_L_ahead 8 rfl) (tgt := 16) (by decide) ?_
      obtain ⟨s4, e0, h⟩ := Option.bind_eq_some_iff.mp h
      refine r_last (dc_L_ahead 10 rfl) e0 ?_
      refine r_goto (dc_L_ahead 11 rfl) (tgt := 24) (by decide) ?_
      refine r_iconst (dc_L_ahead 15 rfl) kiconst_0 ?_
      cases h
      exact r_ireturn (dc_L_ahead 16 rfl) rfl
  by_cases c0 : E0 = "java/lang/IndexOutOfBoundsException"
  · subst c0
    rw [if_pos rfl] at h
    cases h
    exact r_callVC [] (0, 17, 20, 22) [] (dc_L_ahead 5 rfl) mv_X9_ahead ml_RL_108 (As := [.int xa1, .int xa2]) (t_X9_ahead (d := d - 1) hl (by omega) e0) (by omega) rfl (Nat.le_of_ble_eq_true rfl) (by decide) rfl (fun z hz => by cases hz) rfl (by decide) cl_RL_22 ca_IndexOutOfBoundsException (Or.inl ⟨(dc_L_ahead 12 rfl), rfl⟩) (by decide) (dc_L_ahead 13 rfl) kiconst_1 (dc_L_ahead 14 rfl) rfl
  rw [if_neg c0] at h
  cases h
theorem t_L_wide {G : Gx} {d : Nat} (hl : G.1.stackTraces = false) (hd : 8 ≤ d) {σ : Sto} {pa0 : Nat} {xa1 : Int32} {pa2 : Nat} {r : (Int32 × Sto)} (h : F_L_wide σ pa0 xa1 pa2 = some r) : Mt G d m_L_wide [.ref pa0, .int xa1, .ref pa2] σ (.inl (some (.int r.1))) r.2 := by
  rw [F_L_wide] at h
  refine J.toMtH (lo := [(0, .ref pa0), (1, .int xa1), (2, .ref pa2)]) pn_RL (by decide) hl (Nat.le_of_ble_eq_true rfl) rfl ?_
  refine r_aload_n (dc_L_wide 0 rfl) rfl rfl ?_
  refine r_iconst (dc_L_wide 1 rfl) kiconst_0 ?_
  refine r_aload_n (dc_L_wide 2 rfl) rfl rfl ?_
  refine r_iload_n (dc_L_wide 3 rfl) rfl rfl ?_
  rcases tc_some h with ⟨x2, s1, e0, h⟩ | ⟨E0, s1, e0, h⟩
  · refine r_callV (dc_L_wide 4 rfl) mv_X9_wide ml_RL_111 (As := [.int xa1]) (t_X9_wide (d := d - 1) hl (by omega) e0) (by omega) rfl (Nat.le_of_ble_eq_true rfl) ?_
    refine r_i2l (dc_L_wide 5 rfl) ?_
    obtain ⟨s3, e0, h⟩ := Option.bind_eq_some_iff.mp h
    refine r_last (dc_L_wide 6 rfl) e0 ?_
    refine r_goto (dc_L_wide 7 rfl) (tgt := 15) (by decide) ?_
    refine r_iconst (dc_L_wide 11 rfl) kiconst_0 ?_
    cases h
    exact r_ireturn (dc_L_wide 12 rfl) rfl
  by_cases c0 : E0 = "java/lang/IllegalArgumentException"
  · subst c0
    rw [if_pos rfl] at h
    cases h
    exact r_callVC [] (0, 9, 12, 13) [] (dc_L_wide 4 rfl) mv_X9_wide ml_RL_111 (As := [.int xa1]) (t_X9_wide (d := d - 1) hl (by omega) e0) (by omega) rfl (Nat.le_of_ble_eq_true rfl) (by decide) rfl (fun z hz => by cases hz) rfl (by decide) cl_RL_13 ca_IllegalArgumentException (Or.inr ⟨3, (dc_L_wide 8 rfl), rfl, rfl⟩) (by decide) (dc_L_wide 9 rfl) kiconst_1 (dc_L_wide 10 rfl) rfl
  rw [if_neg c0] at h
  cases h
theorem t_L_came {G : Gx} {d : Nat} (hl : G.1.stackTraces = false) (hd : 8 ≤ d) {σ : Sto} {pa0 : Nat} {xa1 : Int32} {xa2 : Int32} {xa3 : Int32} {pa4 : Nat} {r : (Int32 × Sto)} (h : F_L_came σ pa0 xa1 xa2 xa3 pa4 = some r) : Mt G d m_L_came [.ref pa0, .int xa1, .int xa2, .int xa3, .ref pa4] σ (.inl (some (.int r.1))) r.2 := by
  rw [F_L_came] at h
  refine J.toMtH (lo := [(0, .ref pa0), (1, .int xa1), (2, .int xa2), (3, .int xa3), (4, .ref pa4)]) pn_RL (by decide) hl (Nat.le_of_ble_eq_true rfl) rfl ?_
  refine r_aload (dc_L_came 0 rfl) rfl ?_
  refine r_iconst (dc_L_came 1 rfl) kiconst_0 ?_
  refine r_aload_n (dc_L_came 2 rfl) rfl rfl ?_
  refine r_iload_n (dc_L_came 3 rfl) rfl rfl ?_
  refine r_iload_n (dc_L_came 4 rfl) rfl rfl ?_
  refine r_iload_n (dc_L_came 5 rfl) rfl rfl ?_
  rcases tc_some h with ⟨x2, s1, e0, h⟩ | ⟨E0, s1, e0, h⟩
  · refine r_callV (dc_L_came 6 rfl) mv_X9_came ml_RL_114 (As := [.int xa1, .int xa2, .int xa3]) (t_X9_came (d := d - 1) hl (by omega) e0) (by omega) rfl (Nat.le_of_ble_eq_true rfl) ?_
    refine r_i2l (dc_L_came 7 rfl) ?_
    obtain ⟨s3, e0, h⟩ := Option.bind_eq_some_iff.mp h
    refine r_last (dc_L_came 8 rfl) e0 ?_
    refine r_goto (dc_L_came 9 rfl) (tgt := 23) (by decide) ?_
    refine r_iconst (dc_L_came 16 rfl) kiconst_0 ?_
    cases h
    exact r_ireturn (dc_L_came 17 rfl) rfl
  by_cases c0 : E0 = "java/lang/IndexOutOfBoundsException"
  · subst c0
    rw [if_pos rfl] at h
    cases h
    exact r_callVC [] (0, 12, 15, 22) [(0, 12, 19, 13)] (dc_L_came 6 rfl) mv_X9_came ml_RL_114 (As := [.int xa1, .int xa2, .int xa3]) (t_X9_came (d := d - 1) hl (by omega) e0) (by omega) rfl (Nat.le_of_ble_eq_true rfl) (by decide) rfl (fun z hz => by cases hz) rfl (by decide) cl_RL_22 ca_IndexOutOfBoundsException (Or.inl ⟨(dc_L_came 10 rfl), rfl⟩) (by decide) (dc_L_came 11 rfl) kiconst_1 (dc_L_came 12 rfl) rfl
  by_cases c1 : E0 = "java/lang/IllegalArgumentException"
  · subst c1
    rw [if_neg (by decide), if_pos rfl] at h
    cases h
    exact r_callVC [(0, 12, 15, 22)] (0, 12, 19, 13) [] (dc_L_came 6 rfl) mv_X9_came ml_RL_114 (As := [.int xa1, .int xa2, .int xa3]) (t_X9_came (d := d - 1) hl (by omega) e0) (by omega) rfl (Nat.le_of_ble_eq_true rfl) (by decide) rfl (fun z hz => by simp only [List.mem_cons, List.not_mem_nil, or_false] at hz; rcases hz with rfl <;> first | exact ⟨by decide, "java/lang/IndexOutOfBoundsException", by decide, by decide, cl_RL_22⟩) rfl (by decide) cl_RL_13 ca_IllegalArgumentException (Or.inl ⟨(dc_L_came 13 rfl), rfl⟩) (by decide) (dc_L_came 14 rfl) kiconst_2 (dc_L_came 15 rfl) rfl
  rw [if_neg c0, if_neg c1] at h
  cases h
theorem t_L_way {G : Gx} {d : Nat} (hl : G.1.stackTraces = false) (hd : 8 ≤ d) {σ : Sto} {pa0 : Nat} {xa1 : Int32} {xa2 : Int32} {xa3 : Int32} {pa4 : Nat} {r : (Int32 × Sto)} (h : F_L_way σ pa0 xa1 xa2 xa3 pa4 = some r) : Mt G d m_L_way [.ref pa0, .int xa1, .int xa2, .int xa3, .ref pa4] σ (.inl (some (.int r.1))) r.2 := by
  rw [F_L_way] at h
  refine J.toMtH (lo := [(0, .ref pa0), (1, .int xa1), (2, .int xa2), (3, .int xa3), (4, .ref pa4)]) pn_RL (by decide) hl (Nat.le_of_ble_eq_true rfl) rfl ?_
  refine r_aload (dc_L_way 0 rfl) rfl ?_
  refine r_iconst (dc_L_way 1 rfl) kiconst_0 ?_
  refine r_aload_n (dc_L_way 2 rfl) rfl rfl ?_
  refine r_iload_n (dc_L_way 3 rfl) rfl rfl ?_
  refine r_iload_n (dc_L_way 4 rfl) rfl rfl ?_
  refine r_iload_n (dc_L_way 5 rfl) rfl rfl ?_
  rcases tc_some h with ⟨x2, s1, e0, h⟩ | ⟨E0, s1, e0, h⟩
  · refine r_callV (dc_L_way 6 rfl) mv_X9_way ml_RL_117 (As := [.int xa1, .int xa2, .int xa3]) (t_X9_way (d := d - 1) hl (by omega) e0) (by omega) rfl (Nat.le_of_ble_eq_true rfl) ?_
    refine r_i2l (dc_L_way 7 rfl) ?_
    obtain ⟨s3, e0, h⟩ := Option.bind_eq_some_iff.mp h
    refine r_last (dc_L_way 8 rfl) e0 ?_
    refine r_goto (dc_L_way 9 rfl) (tgt := 19) (by decide) ?_
    refine r_iconst (dc_L_way 13 rfl) kiconst_0 ?_
    cases h
    exact r_ireturn (dc_L_way 14 rfl) rfl
  by_cases c0 : E0 = "java/lang/IndexOutOfBoundsException"
  · subst c0
    rw [if_pos rfl] at h
    cases h
    exact r_callVC [] (0, 12, 15, 22) [] (dc_L_way 6 rfl) mv_X9_way ml_RL_117 (As := [.int xa1, .int xa2, .int xa3]) (t_X9_way (d := d - 1) hl (by omega) e0) (by omega) rfl (Nat.le_of_ble_eq_true rfl) (by decide) rfl (fun z hz => by cases hz) rfl (by decide) cl_RL_22 ca_IndexOutOfBoundsException (Or.inl ⟨(dc_L_way 10 rfl), rfl⟩) (by decide) (dc_L_way 11 rfl) kiconst_1 (dc_L_way 12 rfl) rfl
  rw [if_neg c0] at h
  cases h
theorem t_L_slowest {G : Gx} {d : Nat} (hl : G.1.stackTraces = false) (hd : 8 ≤ d) {σ : Sto} {pa0 : Nat} {xa1 : Int32} {pa2 : Nat} {r : (Int32 × Sto)} (h : F_L_slowest σ pa0 xa1 pa2 = some r) : Mt G d m_L_slowest [.ref pa0, .int xa1, .ref pa2] σ (.inl (some (.int r.1))) r.2 := by
  rw [F_L_slowest] at h
  refine J.toMtH (lo := [(0, .ref pa0), (1, .int xa1), (2, .ref pa2)]) pn_RL (by decide) hl (Nat.le_of_ble_eq_true rfl) rfl ?_
  refine r_aload_n (dc_L_slowest 0 rfl) rfl rfl ?_
  refine r_iconst (dc_L_slowest 1 rfl) kiconst_0 ?_
  refine r_aload_n (dc_L_slowest 2 rfl) rfl rfl ?_
  refine r_iload_n (dc_L_slowest 3 rfl) rfl rfl ?_
  rcases tc_some h with ⟨x2, s1, e0, h⟩ | ⟨E0, s1, e0, h⟩
  · refine r_callV (dc_L_slowest 4 rfl) mv_X9_slowest ml_RL_120 (As := [.int xa1]) (t_X9_slowest (d := d - 1) hl (by omega) e0) (by omega) rfl (Nat.le_of_ble_eq_true rfl) ?_
    refine r_i2l (dc_L_slowest 5 rfl) ?_
    obtain ⟨s3, e0, h⟩ := Option.bind_eq_some_iff.mp h
    refine r_last (dc_L_slowest 6 rfl) e0 ?_
    refine r_goto (dc_L_slowest 7 rfl) (tgt := 15) (by decide) ?_
    refine r_iconst (dc_L_slowest 11 rfl) kiconst_0 ?_
    cases h
    exact r_ireturn (dc_L_slowest 12 rfl) rfl
  by_cases c0 : E0 = "java/lang/IllegalArgumentException"
  · subst c0
    rw [if_pos rfl] at h
    cases h
    exact r_callVC [] (0, 9, 12, 13) [] (dc_L_slowest 4 rfl) mv_X9_slowest ml_RL_120 (As := [.int xa1]) (t_X9_slowest (d := d - 1) hl (by omega) e0) (by omega) rfl (Nat.le_of_ble_eq_true rfl) (by decide) rfl (fun z hz => by cases hz) rfl (by decide) cl_RL_13 ca_IllegalArgumentException (Or.inr ⟨3, (dc_L_slowest 8 rfl), rfl, rfl⟩) (by decide) (dc_L_slowest 9 rfl) kiconst_1 (dc_L_slowest 10 rfl) rfl
  rw [if_neg c0] at h
  cases h
theorem t_L_chain {G : Gx} {d : Nat} (hl : G.1.stackTraces = false) (hd : 8 ≤ d) {σ : Sto} {pa0 : Nat} {xa1 : Int32} {xa2 : Int32} {pa3 : Nat} {r : (Int32 × Sto)} (h : F_L_chain σ pa0 xa1 xa2 pa3 = some r) : Mt G d m_L_chain [.ref pa0, .int xa1, .int xa2, .ref pa3] σ (.inl (some (.int r.1))) r.2 := by
  rw [F_L_chain] at h
  refine J.toMtH (lo := [(0, .ref pa0), (1, .int xa1), (2, .int xa2), (3, .ref pa3)]) pn_RL (by decide) hl (Nat.le_of_ble_eq_true rfl) rfl ?_
  refine r_aload_n (dc_L_chain 0 rfl) rfl rfl ?_
  refine r_iconst (dc_L_chain 1 rfl) kiconst_0 ?_
  refine r_aload_n (dc_L_chain 2 rfl) rfl rfl ?_
  refine r_iload_n (dc_L_chain 3 rfl) rfl rfl ?_
  refine r_iload_n (dc_L_chain 4 rfl) rfl rfl ?_
  rcases tc_some h with ⟨x2, s1, e0, h⟩ | ⟨E0, s1, e0, h⟩
  · refine r_callV (dc_L_chain 5 rfl) mv_X9_chain ml_RL_123 (As := [.int xa1, .int xa2]) (t_X9_chain (d := d - 1) hl (by omega) e0) (by omega) rfl (Nat.le_of_ble_eq_true rfl) ?_
    refine r_i2l (dc_L_chain 6 rfl) ?_
    obtain ⟨s3, e0, h⟩ := Option.bind_eq_some_iff.mp h
    refine r_last (dc_L_chain 7 rfl) e0 ?_
    refine r_goto (dc_L_chain 8 rfl) (tgt := 17) (by decide) ?_
    refine r_iconst (dc_L_chain 12 rfl) kiconst_0 ?_
    cases h
    exact r_ireturn (dc_L_chain 13 rfl) rfl
  by_cases c0 : E0 = "java/lang/IndexOutOfBoundsException"
  · subst c0
    rw [if_pos rfl] at h
    cases h
    exact r_callVC [] (0, 10, 13, 22) [] (dc_L_chain 5 rfl) mv_X9_chain ml_RL_123 (As := [.int xa1, .int xa2]) (t_X9_chain (d := d - 1) hl (by omega) e0) (by omega) rfl (Nat.le_of_ble_eq_true rfl) (by decide) rfl (fun z hz => by cases hz) rfl (by decide) cl_RL_22 ca_IndexOutOfBoundsException (Or.inl ⟨(dc_L_chain 9 rfl), rfl⟩) (by decide) (dc_L_chain 10 rfl) kiconst_1 (dc_L_chain 11 rfl) rfl
  rw [if_neg c0] at h
  cases h
theorem t_L_between {G : Gx} {d : Nat} (hl : G.1.stackTraces = false) (hd : 8 ≤ d) {σ : Sto} {pa0 : Nat} {xa1 : Int32} {xa2 : Int32} {pa3 : Nat} {r : (Int32 × Sto)} (h : F_L_between σ pa0 xa1 xa2 pa3 = some r) : Mt G d m_L_between [.ref pa0, .int xa1, .int xa2, .ref pa3] σ (.inl (some (.int r.1))) r.2 := by
  rw [F_L_between] at h
  refine J.toMtH (lo := [(0, .ref pa0), (1, .int xa1), (2, .int xa2), (3, .ref pa3)]) pn_RL (by decide) hl (Nat.le_of_ble_eq_true rfl) rfl ?_
  refine r_aload_n (dc_L_between 0 rfl) rfl rfl ?_
  refine r_iconst (dc_L_between 1 rfl) kiconst_0 ?_
  refine r_aload_n (dc_L_between 2 rfl) rfl rfl ?_
  refine r_iload_n (dc_L_between 3 rfl) rfl rfl ?_
  refine r_iload_n (dc_L_between 4 rfl) rfl rfl ?_
  rcases tc_some h with ⟨x2, s1, e0, h⟩ | ⟨E0, s1, e0, h⟩
  · refine r_callV (dc_L_between 5 rfl) mv_X9_between ml_RL_126 (As := [.int xa1, .int xa2]) (t_X9_between (d := d - 1) hl (by omega) e0) (by omega) rfl (Nat.le_of_ble_eq_true rfl) ?_
    refine r_i2l (dc_L_between 6 rfl) ?_
    obtain ⟨s3, e0, h⟩ := Option.bind_eq_some_iff.mp h
    refine r_last (dc_L_between 7 rfl) e0 ?_
    refine r_goto (dc_L_between 8 rfl) (tgt := 17) (by decide) ?_
    refine r_iconst (dc_L_between 12 rfl) kiconst_0 ?_
    cases h
    exact r_ireturn (dc_L_between 13 rfl) rfl
  by_cases c0 : E0 = "java/lang/IndexOutOfBoundsException"
  · subst c0
    rw [if_pos rfl] at h
    cases h
    exact r_callVC [] (0, 10, 13, 22) [] (dc_L_between 5 rfl) mv_X9_between ml_RL_126 (As := [.int xa1, .int xa2]) (t_X9_between (d := d - 1) hl (by omega) e0) (by omega) rfl (Nat.le_of_ble_eq_true rfl) (by decide) rfl (fun z hz => by cases hz) rfl (by decide) cl_RL_22 ca_IndexOutOfBoundsException (Or.inl ⟨(dc_L_between 9 rfl), rfl⟩) (by decide) (dc_L_between 10 rfl) kiconst_1 (dc_L_between 11 rfl) rfl
  rw [if_neg c0] at h
  cases h
theorem t_L_front {G : Gx} {d : Nat} (hl : G.1.stackTraces = false) (hd : 8 ≤ d) {σ : Sto} {pa0 : Nat} {xa1 : Int32} {xa2 : Int32} {pa3 : Nat} {r : (Int32 × Sto)} (h : F_L_front σ pa0 xa1 xa2 pa3 = some r) : Mt G d m_L_front [.ref pa0, .int xa1, .int xa2, .ref pa3] σ (.inl (some (.int r.1))) r.2 := by
  rw [F_L_front] at h
  refine J.toMtH (lo := [(0, .ref pa0), (1, .int xa1), (2, .int xa2), (3, .ref pa3)]) pn_RL (by decide) hl (Nat.le_of_ble_eq_true rfl) rfl ?_
  refine r_aload_n (dc_L_front 0 rfl) rfl rfl ?_
  refine r_iconst (dc_L_front 1 rfl) kiconst_0 ?_
  refine r_aload_n (dc_L_front 2 rfl) rfl rfl ?_
  refine r_iload_n (dc_L_front 3 rfl) rfl rfl ?_
  refine r_iload_n (dc_L_front 4 rfl) rfl rfl ?_
  rcases tc_some h with ⟨x2, s1, e0, h⟩ | ⟨E0, s1, e0, h⟩
  · refine r_callV (dc_L_front 5 rfl) mv_X9_front ml_RL_129 (As := [.int xa1, .int xa2]) (t_X9_front (d := d - 1) hl (by omega) e0) (by omega) rfl (Nat.le_of_ble_eq_true rfl) ?_
    refine r_i2l (dc_L_front 6 rfl) ?_
    obtain ⟨s3, e0, h⟩ := Option.bind_eq_some_iff.mp h
    refine r_last (dc_L_front 7 rfl) e0 ?_
    refine r_goto (dc_L_front 8 rfl) (tgt := 17) (by decide) ?_
    refine r_iconst (dc_L_front 12 rfl) kiconst_0 ?_
    cases h
    exact r_ireturn (dc_L_front 13 rfl) rfl
  by_cases c0 : E0 = "java/lang/IndexOutOfBoundsException"
  · subst c0
    rw [if_pos rfl] at h
    cases h
    exact r_callVC [] (0, 10, 13, 22) [] (dc_L_front 5 rfl) mv_X9_front ml_RL_129 (As := [.int xa1, .int xa2]) (t_X9_front (d := d - 1) hl (by omega) e0) (by omega) rfl (Nat.le_of_ble_eq_true rfl) (by decide) rfl (fun z hz => by cases hz) rfl (by decide) cl_RL_22 ca_IndexOutOfBoundsException (Or.inl ⟨(dc_L_front 9 rfl), rfl⟩) (by decide) (dc_L_front 10 rfl) kiconst_1 (dc_L_front 11 rfl) rfl
  rw [if_neg c0] at h
  cases h
theorem t_L_only {G : Gx} {d : Nat} (hl : G.1.stackTraces = false) (hd : 8 ≤ d) {σ : Sto} {pa0 : Nat} {xa1 : Int32} {xa2 : Int32} {xa3 : Int32} {pa4 : Nat} {r : (Int32 × Sto)} (h : F_L_only σ pa0 xa1 xa2 xa3 pa4 = some r) : Mt G d m_L_only [.ref pa0, .int xa1, .int xa2, .int xa3, .ref pa4] σ (.inl (some (.int r.1))) r.2 := by
  rw [F_L_only] at h
  refine J.toMtH (lo := [(0, .ref pa0), (1, .int xa1), (2, .int xa2), (3, .int xa3), (4, .ref pa4)]) pn_RL (by decide) hl (Nat.le_of_ble_eq_true rfl) rfl ?_
  refine r_aload (dc_L_only 0 rfl) rfl ?_
  refine r_iconst (dc_L_only 1 rfl) kiconst_0 ?_
  refine r_aload_n (dc_L_only 2 rfl) rfl rfl ?_
  refine r_iload_n (dc_L_only 3 rfl) rfl rfl ?_
  refine r_iload_n (dc_L_only 4 rfl) rfl rfl ?_
  refine r_iload_n (dc_L_only 5 rfl) rfl rfl ?_
  rcases tc_some h with ⟨x2, s1, e0, h⟩ | ⟨E0, s1, e0, h⟩
  · refine r_callV (dc_L_only 6 rfl) mv_X9_only ml_RL_132 (As := [.int xa1, .int xa2, .int xa3]) (t_X9_only (d := d - 1) hl (by omega) e0) (by omega) rfl (Nat.le_of_ble_eq_true rfl) ?_
    refine r_i2l (dc_L_only 7 rfl) ?_
    obtain ⟨s3, e0, h⟩ := Option.bind_eq_some_iff.mp h
    refine r_last (dc_L_only 8 rfl) e0 ?_
    refine r_goto (dc_L_only 9 rfl) (tgt := 19) (by decide) ?_
    refine r_iconst (dc_L_only 13 rfl) kiconst_0 ?_
    cases h
    exact r_ireturn (dc_L_only 14 rfl) rfl
  by_cases c0 : E0 = "java/lang/IndexOutOfBoundsException"
  · subst c0
    rw [if_pos rfl] at h
    cases h
    exact r_callVC [] (0, 12, 15, 22) [] (dc_L_only 6 rfl) mv_X9_only ml_RL_132 (As := [.int xa1, .int xa2, .int xa3]) (t_X9_only (d := d - 1) hl (by omega) e0) (by omega) rfl (Nat.le_of_ble_eq_true rfl) (by decide) rfl (fun z hz => by cases hz) rfl (by decide) cl_RL_22 ca_IndexOutOfBoundsException (Or.inl ⟨(dc_L_only 10 rfl), rfl⟩) (by decide) (dc_L_only 11 rfl) kiconst_1 (dc_L_only 12 rfl) rfl
  rw [if_neg c0] at h
  cases h
theorem t_L_sure {G : Gx} {d : Nat} (hl : G.1.stackTraces = false) (hd : 8 ≤ d) {σ : Sto} {pa0 : Nat} {xa1 : Int32} {xa2 : Int32} {pa3 : Nat} {r : (Int32 × Sto)} (h : F_L_sure σ pa0 xa1 xa2 pa3 = some r) : Mt G d m_L_sure [.ref pa0, .int xa1, .int xa2, .ref pa3] σ (.inl (some (.int r.1))) r.2 := by
  rw [F_L_sure] at h
  refine J.toMtH (lo := [(0, .ref pa0), (1, .int xa1), (2, .int xa2), (3, .ref pa3)]) pn_RL (by decide) hl (Nat.le_of_ble_eq_true rfl) rfl ?_
  refine r_aload_n (dc_L_sure 0 rfl) rfl rfl ?_
  refine r_iconst (dc_L_sure 1 rfl) kiconst_0 ?_
  refine r_aload_n (dc_L_sure 2 rfl) rfl rfl ?_
  refine r_iload_n (dc_L_sure 3 rfl) rfl rfl ?_
  refine r_iload_n (dc_L_sure 4 rfl) rfl rfl ?_
  rcases tc_some h with ⟨x2, s1, e0, h⟩ | ⟨E0, s1, e0, h⟩
  · refine r_callV (dc_L_sure 5 rfl) mv_X9_sure ml_RL_135 (As := [.int xa1, .int xa2]) (t_X9_sure (d := d - 1) hl (by omega) e0) (by omega) rfl (Nat.le_of_ble_eq_true rfl) ?_
    refine r_i2l (dc_L_sure 6 rfl) ?_
    obtain ⟨s3, e0, h⟩ := Option.bind_eq_some_iff.mp h
    refine r_last (dc_L_sure 7 rfl) e0 ?_
    refine r_goto (dc_L_sure 8 rfl) (tgt := 21) (by decide) ?_
    refine r_iconst (dc_L_sure 15 rfl) kiconst_0 ?_
    cases h
    exact r_ireturn (dc_L_sure 16 rfl) rfl
  by_cases c0 : E0 = "java/lang/IndexOutOfBoundsException"
  · subst c0
    rw [if_pos rfl] at h
    cases h
    exact r_callVC [] (0, 10, 13, 22) [(0, 10, 17, 13)] (dc_L_sure 5 rfl) mv_X9_sure ml_RL_135 (As := [.int xa1, .int xa2]) (t_X9_sure (d := d - 1) hl (by omega) e0) (by omega) rfl (Nat.le_of_ble_eq_true rfl) (by decide) rfl (fun z hz => by cases hz) rfl (by decide) cl_RL_22 ca_IndexOutOfBoundsException (Or.inl ⟨(dc_L_sure 9 rfl), rfl⟩) (by decide) (dc_L_sure 10 rfl) kiconst_1 (dc_L_sure 11 rfl) rfl
  by_cases c1 : E0 = "java/lang/IllegalArgumentException"
  · subst c1
    rw [if_neg (by decide), if_pos rfl] at h
    cases h
    exact r_callVC [(0, 10, 13, 22)] (0, 10, 17, 13) [] (dc_L_sure 5 rfl) mv_X9_sure ml_RL_135 (As := [.int xa1, .int xa2]) (t_X9_sure (d := d - 1) hl (by omega) e0) (by omega) rfl (Nat.le_of_ble_eq_true rfl) (by decide) rfl (fun z hz => by simp only [List.mem_cons, List.not_mem_nil, or_false] at hz; rcases hz with rfl <;> first | exact ⟨by decide, "java/lang/IndexOutOfBoundsException", by decide, by decide, cl_RL_22⟩) rfl (by decide) cl_RL_13 ca_IllegalArgumentException (Or.inl ⟨(dc_L_sure 12 rfl), rfl⟩) (by decide) (dc_L_sure 13 rfl) kiconst_2 (dc_L_sure 14 rfl) rfl
  rw [if_neg c0, if_neg c1] at h
  cases h
theorem t_L_part {G : Gx} {d : Nat} (hl : G.1.stackTraces = false) (hd : 8 ≤ d) {σ : Sto} {pa0 : Nat} {xa1 : Int32} {pa2 : Nat} {r : (Int32 × Sto)} (h : F_L_part σ pa0 xa1 pa2 = some r) : Mt G d m_L_part [.ref pa0, .int xa1, .ref pa2] σ (.inl (some (.int r.1))) r.2 := by
  rw [F_L_part] at h
  refine J.toMtH (lo := [(0, .ref pa0), (1, .int xa1), (2, .ref pa2)]) pn_RL (by decide) hl (Nat.le_of_ble_eq_true rfl) rfl ?_
  refine r_aload_n (dc_L_part 0 rfl) rfl rfl ?_
  refine r_iconst (dc_L_part 1 rfl) kiconst_0 ?_
  refine r_aload_n (dc_L_part 2 rfl) rfl rfl ?_
  refine r_iload_n (dc_L_part 3 rfl) rfl rfl ?_
  rcases tc_some h with ⟨x2, s1, e0, h⟩ | ⟨E0, s1, e0, h⟩
  · refine r_callV (dc_L_part 4 rfl) mv_X9_part ml_RL_138 (As := [.int xa1]) (t_X9_part (d := d - 1) hl (by omega) e0) (by omega) rfl (Nat.le_of_ble_eq_true rfl) ?_
    refine r_i2l (dc_L_part 5 rfl) ?_
    obtain ⟨s3, e0, h⟩ := Option.bind_eq_some_iff.mp h
    refine r_last (dc_L_part 6 rfl) e0 ?_
    refine r_goto (dc_L_part 7 rfl) (tgt := 15) (by decide) ?_
    refine r_iconst (dc_L_part 11 rfl) kiconst_0 ?_
    cases h
    exact r_ireturn (dc_L_part 12 rfl) rfl
  by_cases c0 : E0 = "java/lang/IndexOutOfBoundsException"
  · subst c0
    rw [if_pos rfl] at h
    cases h
    exact r_callVC [] (0, 9, 12, 22) [] (dc_L_part 4 rfl) mv_X9_part ml_RL_138 (As := [.int xa1]) (t_X9_part (d := d - 1) hl (by omega) e0) (by omega) rfl (Nat.le_of_ble_eq_true rfl) (by decide) rfl (fun z hz => by cases hz) rfl (by decide) cl_RL_22 ca_IndexOutOfBoundsException (Or.inr ⟨3, (dc_L_part 8 rfl), rfl, rfl⟩) (by decide) (dc_L_part 9 rfl) kiconst_1 (dc_L_part 10 rfl) rfl
  rw [if_neg c0] at h
  cases h
theorem t_L_trace {G : Gx} {d : Nat} (hl : G.1.stackTraces = false) (hd : 8 ≤ d) {σ : Sto} {pa0 : Nat} {xa1 : Int32} {xa2 : Int32} {pa3 : Nat} {r : (Int32 × Sto)} (h : F_L_trace σ pa0 xa1 xa2 pa3 = some r) : Mt G d m_L_trace [.ref pa0, .int xa1, .int xa2, .ref pa3] σ (.inl (some (.int r.1))) r.2 := by
  rw [F_L_trace] at h
  refine J.toMtH (lo := [(0, .ref pa0), (1, .int xa1), (2, .int xa2), (3, .ref pa3)]) pn_RL (by decide) hl (Nat.le_of_ble_eq_true rfl) rfl ?_
  refine r_aload_n (dc_L_trace 0 rfl) rfl rfl ?_
  refine r_iconst (dc_L_trace 1 rfl) kiconst_0 ?_
  refine r_aload_n (dc_L_trace 2 rfl) rfl rfl ?_
  refine r_iload_n (dc_L_trace 3 rfl) rfl rfl ?_
  refine r_iload_n (dc_L_trace 4 rfl) rfl rfl ?_
  rcases tc_some h with ⟨x2, s1, e0, h⟩ | ⟨E0, s1, e0, h⟩
  · refine r_callV (dc_L_trace 5 rfl) mv_X9_trace ml_RL_141 (As := [.int xa1, .int xa2]) (t_X9_trace (d := d - 1) hl (by omega) e0) (by omega) rfl (Nat.le_of_ble_eq_true rfl) ?_
    refine r_i2l (dc_L_trace 6 rfl) ?_
    obtain ⟨s3, e0, h⟩ := Option.bind_eq_some_iff.mp h
    refine r_last (dc_L_trace 7 rfl) e0 ?_
    refine r_goto (dc_L_trace 8 rfl) (tgt := 21) (by decide) ?_
    refine r_iconst (dc_L_trace 15 rfl) kiconst_0 ?_
    cases h
    exact r_ireturn (dc_L_trace 16 rfl) rfl
  by_cases c0 : E0 = "java/util/NoSuchElementException"
  · subst c0
    rw [if_pos rfl] at h
    cases h
    exact r_callVC [] (0, 10, 13, 29) [(0, 10, 17, 13)] (dc_L_trace 5 rfl) mv_X9_trace ml_RL_141 (As := [.int xa1, .int xa2]) (t_X9_trace (d := d - 1) hl (by omega) e0) (by omega) rfl (Nat.le_of_ble_eq_true rfl) (by decide) rfl (fun z hz => by cases hz) rfl (by decide) cl_RL_29 ca_NoSuchElementException (Or.inl ⟨(dc_L_trace 9 rfl), rfl⟩) (by decide) (dc_L_trace 10 rfl) kiconst_1 (dc_L_trace 11 rfl) rfl
  by_cases c1 : E0 = "java/lang/IllegalArgumentException"
  · subst c1
    rw [if_neg (by decide), if_pos rfl] at h
    cases h
    exact r_callVC [(0, 10, 13, 29)] (0, 10, 17, 13) [] (dc_L_trace 5 rfl) mv_X9_trace ml_RL_141 (As := [.int xa1, .int xa2]) (t_X9_trace (d := d - 1) hl (by omega) e0) (by omega) rfl (Nat.le_of_ble_eq_true rfl) (by decide) rfl (fun z hz => by simp only [List.mem_cons, List.not_mem_nil, or_false] at hz; rcases hz with rfl <;> first | exact ⟨by decide, "java/util/NoSuchElementException", by decide, by decide, cl_RL_29⟩) rfl (by decide) cl_RL_13 ca_IllegalArgumentException (Or.inl ⟨(dc_L_trace 12 rfl), rfl⟩) (by decide) (dc_L_trace 13 rfl) kiconst_2 (dc_L_trace 14 rfl) rfl
  rw [if_neg c0, if_neg c1] at h
  cases h
theorem t_L_gossip {G : Gx} {d : Nat} (hl : G.1.stackTraces = false) (hd : 8 ≤ d) {σ : Sto} {pa0 : Nat} {xa1 : Int32} {pa2 : Nat} {r : (Int32 × Sto)} (h : F_L_gossip σ pa0 xa1 pa2 = some r) : Mt G d m_L_gossip [.ref pa0, .int xa1, .ref pa2] σ (.inl (some (.int r.1))) r.2 := by
  rw [F_L_gossip] at h
  refine J.toMtH (lo := [(0, .ref pa0), (1, .int xa1), (2, .ref pa2)]) pn_RL (by decide) hl (Nat.le_of_ble_eq_true rfl) rfl ?_
  refine r_aload_n (dc_L_gossip 0 rfl) rfl rfl ?_
  refine r_iconst (dc_L_gossip 1 rfl) kiconst_0 ?_
  refine r_aload_n (dc_L_gossip 2 rfl) rfl rfl ?_
  refine r_iload_n (dc_L_gossip 3 rfl) rfl rfl ?_
  rcases tc_some h with ⟨x2, s1, e0, h⟩ | ⟨E0, s1, e0, h⟩
  · refine r_callV (dc_L_gossip 4 rfl) mv_X9_gossip ml_RL_144 (As := [.int xa1]) (t_X9_gossip (d := d - 1) hl (by omega) e0) (by omega) rfl (Nat.le_of_ble_eq_true rfl) ?_
    refine r_i2l (dc_L_gossip 5 rfl) ?_
    obtain ⟨s3, e0, h⟩ := Option.bind_eq_some_iff.mp h
    refine r_last (dc_L_gossip 6 rfl) e0 ?_
    refine r_goto (dc_L_gossip 7 rfl) (tgt := 15) (by decide) ?_
    refine r_iconst (dc_L_gossip 11 rfl) kiconst_0 ?_
    cases h
    exact r_ireturn (dc_L_gossip 12 rfl) rfl
  by_cases c0 : E0 = "java/lang/IllegalArgumentException"
  · subst c0
    rw [if_pos rfl] at h
    cases h
    exact r_callVC [] (0, 9, 12, 13) [] (dc_L_gossip 4 rfl) mv_X9_gossip ml_RL_144 (As := [.int xa1]) (t_X9_gossip (d := d - 1) hl (by omega) e0) (by omega) rfl (Nat.le_of_ble_eq_true rfl) (by decide) rfl (fun z hz => by cases hz) rfl (by decide) cl_RL_13 ca_IllegalArgumentException (Or.inr ⟨3, (dc_L_gossip 8 rfl), rfl, rfl⟩) (by decide) (dc_L_gossip 9 rfl) kiconst_1 (dc_L_gossip 10 rfl) rfl
  rw [if_neg c0] at h
  cases h
theorem t_L_falling {G : Gx} {d : Nat} (hl : G.1.stackTraces = false) (hd : 8 ≤ d) {σ : Sto} {pa0 : Nat} {xa1 : Int32} {xa2 : Int32} {pa3 : Nat} {r : (Int32 × Sto)} (h : F_L_falling σ pa0 xa1 xa2 pa3 = some r) : Mt G d m_L_falling [.ref pa0, .int xa1, .int xa2, .ref pa3] σ (.inl (some (.int r.1))) r.2 := by
  rw [F_L_falling] at h
  refine J.toMtH (lo := [(0, .ref pa0), (1, .int xa1), (2, .int xa2), (3, .ref pa3)]) pn_RL (by decide) hl (Nat.le_of_ble_eq_true rfl) rfl ?_
  refine r_aload_n (dc_L_falling 0 rfl) rfl rfl ?_
  refine r_iconst (dc_L_falling 1 rfl) kiconst_0 ?_
  refine r_aload_n (dc_L_falling 2 rfl) rfl rfl ?_
  refine r_iload_n (dc_L_falling 3 rfl) rfl rfl ?_
  refine r_iload_n (dc_L_falling 4 rfl) rfl rfl ?_
  rcases tc_some h with ⟨x2, s1, e0, h⟩ | ⟨E0, s1, e0, h⟩
  · refine r_callV (dc_L_falling 5 rfl) mv_X9_falling ml_RL_147 (As := [.int xa1, .int xa2]) (t_X9_falling (d := d - 1) hl (by omega) e0) (by omega) rfl (Nat.le_of_ble_eq_true rfl) ?_
    refine r_i2l (dc_L_falling 6 rfl) ?_
    obtain ⟨s3, e0, h⟩ := Option.bind_eq_some_iff.mp h
    refine r_last (dc_L_falling 7 rfl) e0 ?_
    refine r_goto (dc_L_falling 8 rfl) (tgt := 21) (by decide) ?_
    refine r_iconst (dc_L_falling 15 rfl) kiconst_0 ?_
    cases h
    exact r_ireturn (dc_L_falling 16 rfl) rfl
  by_cases c0 : E0 = "java/lang/IndexOutOfBoundsException"
  · subst c0
    rw [if_pos rfl] at h
    cases h
    exact r_callVC [] (0, 10, 13, 22) [(0, 10, 17, 13)] (dc_L_falling 5 rfl) mv_X9_falling ml_RL_147 (As := [.int xa1, .int xa2]) (t_X9_falling (d := d - 1) hl (by omega) e0) (by omega) rfl (Nat.le_of_ble_eq_true rfl) (by decide) rfl (fun z hz => by cases hz) rfl (by decide) cl_RL_22 ca_IndexOutOfBoundsException (Or.inl ⟨(dc_L_falling 9 rfl), rfl⟩) (by decide) (dc_L_falling 10 rfl) kiconst_1 (dc_L_falling 11 rfl) rfl
  by_cases c1 : E0 = "java/lang/IllegalArgumentException"
  · subst c1
    rw [if_neg (by decide), if_pos rfl] at h
    cases h
    exact r_callVC [(0, 10, 13, 22)] (0, 10, 17, 13) [] (dc_L_falling 5 rfl) mv_X9_falling ml_RL_147 (As := [.int xa1, .int xa2]) (t_X9_falling (d := d - 1) hl (by omega) e0) (by omega) rfl (Nat.le_of_ble_eq_true rfl) (by decide) rfl (fun z hz => by simp only [List.mem_cons, List.not_mem_nil, or_false] at hz; rcases hz with rfl <;> first | exact ⟨by decide, "java/lang/IndexOutOfBoundsException", by decide, by decide, cl_RL_22⟩) rfl (by decide) cl_RL_13 ca_IllegalArgumentException (Or.inl ⟨(dc_L_falling 12 rfl), rfl⟩) (by decide) (dc_L_falling 13 rfl) kiconst_2 (dc_L_falling 14 rfl) rfl
  rw [if_neg c0, if_neg c1] at h
  cases h
theorem t_L_joining {G : Gx} {d : Nat} (hl : G.1.stackTraces = false) (hd : 8 ≤ d) {σ : Sto} {pa0 : Nat} {xa1 : Int32} {xa2 : Int32} {xa3 : Int32} {pa4 : Nat} {r : (Int32 × Sto)} (h : F_L_joining σ pa0 xa1 xa2 xa3 pa4 = some r) : Mt G d m_L_joining [.ref pa0, .int xa1, .int xa2, .int xa3, .ref pa4] σ (.inl (some (.int r.1))) r.2 := by
  rw [F_L_joining] at h
  refine J.toMtH (lo := [(0, .ref pa0), (1, .int xa1), (2, .int xa2), (3, .int xa3), (4, .ref pa4)]) pn_RL (by decide) hl (Nat.le_of_ble_eq_true rfl) rfl ?_
  refine r_aload (dc_L_joining 0 rfl) rfl ?_
  refine r_iconst (dc_L_joining 1 rfl) kiconst_0 ?_
  refine r_aload_n (dc_L_joining 2 rfl) rfl rfl ?_
  refine r_iload_n (dc_L_joining 3 rfl) rfl rfl ?_
  refine r_iload_n (dc_L_joining 4 rfl) rfl rfl ?_
  refine r_iload_n (dc_L_joining 5 rfl) rfl rfl ?_
  rcases tc_some h with ⟨x2, s1, e0, h⟩ | ⟨E0, s1, e0, h⟩
  · refine r_callV (dc_L_joining 6 rfl) mv_X9_joining ml_RL_150 (As := [.int xa1, .int xa2, .int xa3]) (t_X9_joining (d := d - 1) hl (by omega) e0) (by omega) rfl (Nat.le_of_ble_eq_true rfl) ?_
    refine r_i2l (dc_L_joining 7 rfl) ?_
    obtain ⟨s3, e0, h⟩ := Option.bind_eq_some_iff.mp h
    refine r_last (dc_L_joining 8 rfl) e0 ?_
    refine r_goto (dc_L_joining 9 rfl) (tgt := 23) (by decide) ?_
    refine r_iconst (dc_L_joining 16 rfl) kiconst_0 ?_
    cases h
    exact r_ireturn (dc_L_joining 17 rfl) rfl
  by_cases c0 : E0 = "java/lang/IndexOutOfBoundsException"
  · subst c0
    rw [if_pos rfl] at h
    cases h
    exact r_callVC [] (0, 12, 15, 22) [(0, 12, 19, 13)] (dc_L_joining 6 rfl) mv_X9_joining ml_RL_150 (As := [.int xa1, .int xa2, .int xa3]) (t_X9_joining (d := d - 1) hl (by omega) e0) (by omega) rfl (Nat.le_of_ble_eq_true rfl) (by decide) rfl (fun z hz => by cases hz) rfl (by decide) cl_RL_22 ca_IndexOutOfBoundsException (Or.inl ⟨(dc_L_joining 10 rfl), rfl⟩) (by decide) (dc_L_joining 11 rfl) kiconst_1 (dc_L_joining 12 rfl) rfl
  by_cases c1 : E0 = "java/lang/IllegalArgumentException"
  · subst c1
    rw [if_neg (by decide), if_pos rfl] at h
    cases h
    exact r_callVC [(0, 12, 15, 22)] (0, 12, 19, 13) [] (dc_L_joining 6 rfl) mv_X9_joining ml_RL_150 (As := [.int xa1, .int xa2, .int xa3]) (t_X9_joining (d := d - 1) hl (by omega) e0) (by omega) rfl (Nat.le_of_ble_eq_true rfl) (by decide) rfl (fun z hz => by simp only [List.mem_cons, List.not_mem_nil, or_false] at hz; rcases hz with rfl <;> first | exact ⟨by decide, "java/lang/IndexOutOfBoundsException", by decide, by decide, cl_RL_22⟩) rfl (by decide) cl_RL_13 ca_IllegalArgumentException (Or.inl ⟨(dc_L_joining 13 rfl), rfl⟩) (by decide) (dc_L_joining 14 rfl) kiconst_2 (dc_L_joining 15 rfl) rfl
  rw [if_neg c0, if_neg c1] at h
  cases h
theorem t_L_best {G : Gx} {d : Nat} (hl : G.1.stackTraces = false) (hd : 8 ≤ d) {σ : Sto} {pa0 : Nat} {xa1 : Int32} {pa2 : Nat} {r : (Int32 × Sto)} (h : F_L_best σ pa0 xa1 pa2 = some r) : Mt G d m_L_best [.ref pa0, .int xa1, .ref pa2] σ (.inl (some (.int r.1))) r.2 := by
  rw [F_L_best] at h
  refine J.toMtH (lo := [(0, .ref pa0), (1, .int xa1), (2, .ref pa2)]) pn_RL (by decide) hl (Nat.le_of_ble_eq_true rfl) rfl ?_
  refine r_aload_n (dc_L_best 0 rfl) rfl rfl ?_
  refine r_iconst (dc_L_best 1 rfl) kiconst_0 ?_
  refine r_aload_n (dc_L_best 2 rfl) rfl rfl ?_
  refine r_iload_n (dc_L_best 3 rfl) rfl rfl ?_
  rcases tc_some h with ⟨x2, s1, e0, h⟩ | ⟨E0, s1, e0, h⟩
  · refine r_callV (dc_L_best 4 rfl) mv_X9_best ml_RL_153 (As := [.int xa1]) (t_X9_best (d := d - 1) hl (by omega) e0) (by omega) rfl (Nat.le_of_ble_eq_true rfl) ?_
    refine r_i2l (dc_L_best 5 rfl) ?_
    obtain ⟨s3, e0, h⟩ := Option.bind_eq_some_iff.mp h
    refine r_last (dc_L_best 6 rfl) e0 ?_
    refine r_goto (dc_L_best 7 rfl) (tgt := 15) (by decide) ?_
    refine r_iconst (dc_L_best 11 rfl) kiconst_0 ?_
    cases h
    exact r_ireturn (dc_L_best 12 rfl) rfl
  by_cases c0 : E0 = "java/lang/IndexOutOfBoundsException"
  · subst c0
    rw [if_pos rfl] at h
    cases h
    exact r_callVC [] (0, 9, 12, 22) [] (dc_L_best 4 rfl) mv_X9_best ml_RL_153 (As := [.int xa1]) (t_X9_best (d := d - 1) hl (by omega) e0) (by omega) rfl (Nat.le_of_ble_eq_true rfl) (by decide) rfl (fun z hz => by cases hz) rfl (by decide) cl_RL_22 ca_IndexOutOfBoundsException (Or.inr ⟨3, (dc_L_best 8 rfl), rfl, rfl⟩) (by decide) (dc_L_best 9 rfl) kiconst_1 (dc_L_best 10 rfl) rfl
  rw [if_neg c0] at h
  cases h
theorem l_L_law_C0 {G : Gx} {d : Nat} (hl : G.1.stackTraces = false) (hd : 15 ≤ d) {pC1 : Nat} {pC2 : Nat} {pC3 : Nat} {xC4 : Int32} {sC : Sto} {r : (Int32 × Sto)} {kJ : Sto → Option (Int32 × Sto)} (hkJ : ∀ (sJ : Sto), kJ sJ = some r → J G d m_L_law 3394 [(0, .ref 0), (1, .ref pC1), (2, .ref pC2), (3, .ref pC3), (4, .int xC4)] [] sJ (.inl (some (.int r.1))) r.2) (h : F_L_law_C0 G.sl G.sx pC1 pC2 pC3 xC4 sC kJ = some r) : J G d m_L_law 236 [(0, .ref 0), (1, .ref pC1), (2, .ref pC2), (3, .ref pC3), (4, .int xC4)] [] sC (.inl (some (.int r.1))) r.2 := by
  rw [F_L_law_C0] at h
  refine r_aload_n (dc_L_law_0 25 rfl) rfl rfl ?_
  refine r_aload_n (dc_L_law_0 26 rfl) rfl rfl ?_
  refine r_iload (dc_L_law_0 27 rfl) rfl ?_
  refine r_iconst (dc_L_law_0 28 rfl) kiconst_1 ?_
  refine r_iadd (dc_L_law_0 29 rfl) ?_
  obtain ⟨x10, e0, h⟩ := Option.bind_eq_some_iff.mp h
  obtain ⟨hin, ex⟩ := sld_some e0
  refine r_sld (dc_L_law_0 30 rfl) hin ?_
  rw [← ex]
  refine r_aload_n (dc_L_law_0 31 rfl) rfl rfl ?_
  obtain ⟨x12, s11, e0, h⟩ := wb_some h
  refine r_callSH (dc_L_law_0 32 rfl) mh_L_sites ml_RL_160 (As := [.ref pC1, .int x10, .ref pC3]) (t_L_sites (d := d - 1) hl (by omega) e0) (by omega) rfl (Nat.le_of_ble_eq_true rfl) ?_
  refine r_istore (dc_L_law_0 33 rfl) (by decide) (lo' := [(5, .int x12), (0, .ref 0), (1, .ref pC1), (2, .ref pC2), (3, .ref pC3), (4, .int xC4)]) rfl ?_
  refine r_aload_n (dc_L_law_0 34 rfl) rfl rfl ?_
  refine r_aload_n (dc_L_law_0 35 rfl) rfl rfl ?_
  refine r_iload (dc_L_law_0 36 rfl) rfl ?_
  refine r_iconst (dc_L_law_0 37 rfl) kiconst_1 ?_
  refine r_iadd (dc_L_law_0 38 rfl) ?_
  obtain ⟨x13, e0, h⟩ := Option.bind_eq_some_iff.mp h
  obtain ⟨hin, ex⟩ := sld_some e0
  refine r_sld (dc_L_law_0 39 rfl) hin ?_
  rw [← ex]
  obtain ⟨x15, s14, e0, h⟩ := wb_some h
  refine r_callV (dc_L_law_0 40 rfl) mv_X10_sites ml_RL_165 (As := [.int x13]) (t_X10_sites (d := d - 1) hl (by omega) e0) (by omega) rfl (Nat.le_of_ble_eq_true rfl) ?_
  refine r_istore (dc_L_law_0 41 rfl) (by decide) (lo' := [(6, .int x15), (5, .int x12), (0, .ref 0), (1, .ref pC1), (2, .ref pC2), (3, .ref pC3), (4, .int xC4)]) rfl ?_
  refine r_aload_n (dc_L_law_0 42 rfl) rfl rfl ?_
  obtain ⟨x16, e0, h⟩ := Option.bind_eq_some_iff.mp h
  refine r_callV (dc_L_law_0 43 rfl) mv_X10_thrown ml_RL_166 (As := []) (t_X10_thrown (d := d - 1) hl (by omega) e0) (by omega) rfl (Nat.le_of_ble_eq_true rfl) ?_
  refine r_iload (dc_L_law_0 44 rfl) rfl ?_
  refine r_icmp_eq (dc_L_law_0 45 rfl) (tgt := 272) (by decide) (fun c0 => ?_) (fun c0 => ?_)
  · rw [if_pos c0] at h
    refine r_iload (dc_L_law_0 48 rfl) rfl ?_
    refine r_if_ne (dc_L_law_0 49 rfl) (tgt := 289) (by decide) (fun c0 => ?_) (fun c0 => ?_)
    · rw [if_neg c0] at h
      refine r_goto (dc_L_law_0 59 rfl) (tgt := 3394) (by decide) ?_
      refine r_pick [2, 3, 4, 5, 6] (lo' := [(0, .ref 0), (1, .ref pC1), (2, .ref pC2), (3, .ref pC3), (4, .int xC4)]) rfl ?_
      exact hkJ _ h
    · rw [if_pos c0] at h
      refine r_aload_n (dc_L_law_0 50 rfl) rfl rfl ?_
      refine r_iconst (dc_L_law_0 51 rfl) kiconst_0 ?_
      obtain ⟨y17, e0, h⟩ := Option.bind_eq_some_iff.mp h
      refine r_lald (dc_L_law_0 52 rfl) e0 ?_
      refine r_iload (dc_L_law_0 53 rfl) rfl ?_
      refine r_i2l (dc_L_law_0 54 rfl) ?_
      refine r_lcmp (dc_L_law_0 55 rfl) ?_
      refine r_if_eq (dc_L_law_0 56 rfl) (tgt := 289) (by decide) (fun c0 => ?_) (fun c0 => ?_)
      · rw [if_pos c0] at h
        refine r_goto (dc_L_law_0 59 rfl) (tgt := 3394) (by decide) ?_
        refine r_pick [2, 3, 4, 5, 6] (lo' := [(0, .ref 0), (1, .ref pC1), (2, .ref pC2), (3, .ref pC3), (4, .int xC4)]) rfl ?_
        exact hkJ _ h
      · rw [if_neg c0] at h
        refine r_iconst (dc_L_law_0 57 rfl) kiconst_0 ?_
        cases h
        exact r_zreturn (dc_L_law_0 58 rfl) rfl (Or.inl rfl)
  · rw [if_neg c0] at h
    refine r_iconst (dc_L_law_0 46 rfl) kiconst_0 ?_
    cases h
    exact r_zreturn (dc_L_law_0 47 rfl) rfl (Or.inl rfl)
theorem l_L_law_C1 {G : Gx} {d : Nat} (hl : G.1.stackTraces = false) (hd : 15 ≤ d) {pC1 : Nat} {pC2 : Nat} {pC3 : Nat} {xC4 : Int32} {sC : Sto} {r : (Int32 × Sto)} {kJ : Sto → Option (Int32 × Sto)} (hkJ : ∀ (sJ : Sto), kJ sJ = some r → J G d m_L_law 3394 [(0, .ref 0), (1, .ref pC1), (2, .ref pC2), (3, .ref pC3), (4, .int xC4)] [] sJ (.inl (some (.int r.1))) r.2) (h : F_L_law_C1 G.sl G.sx pC1 pC2 pC3 xC4 sC kJ = some r) : J G d m_L_law 292 [(0, .ref 0), (1, .ref pC1), (2, .ref pC2), (3, .ref pC3), (4, .int xC4)] [] sC (.inl (some (.int r.1))) r.2 := by
  rw [F_L_law_C1] at h
  refine r_aload_n (dc_L_law_0 60 rfl) rfl rfl ?_
  refine r_aload_n (dc_L_law_0 61 rfl) rfl rfl ?_
  refine r_iload (dc_L_law_0 62 rfl) rfl ?_
  refine r_iconst (dc_L_law_0 63 rfl) kiconst_1 ?_
  refine r_iadd (dc_L_law_1 0 rfl) ?_
  obtain ⟨x18, e0, h⟩ := Option.bind_eq_some_iff.mp h
  obtain ⟨hin, ex⟩ := sld_some e0
  refine r_sld (dc_L_law_1 1 rfl) hin ?_
  rw [← ex]
  refine r_aload_n (dc_L_law_1 2 rfl) rfl rfl ?_
  obtain ⟨x20, s19, e0, h⟩ := wb_some h
  refine r_callSH (dc_L_law_1 3 rfl) mh_L_mode ml_RL_170 (As := [.ref pC1, .int x18, .ref pC3]) (t_L_mode (d := d - 1) hl (by omega) e0) (by omega) rfl (Nat.le_of_ble_eq_true rfl) ?_
  refine r_istore (dc_L_law_1 4 rfl) (by decide) (lo' := [(5, .int x20), (0, .ref 0), (1, .ref pC1), (2, .ref pC2), (3, .ref pC3), (4, .int xC4)]) rfl ?_
  refine r_aload_n (dc_L_law_1 5 rfl) rfl rfl ?_
  refine r_aload_n (dc_L_law_1 6 rfl) rfl rfl ?_
  refine r_iload (dc_L_law_1 7 rfl) rfl ?_
  refine r_iconst (dc_L_law_1 8 rfl) kiconst_1 ?_
  refine r_iadd (dc_L_law_1 9 rfl) ?_
  obtain ⟨x21, e0, h⟩ := Option.bind_eq_some_iff.mp h
  obtain ⟨hin, ex⟩ := sld_some e0
  refine r_sld (dc_L_law_1 10 rfl) hin ?_
  rw [← ex]
  obtain ⟨x23, s22, e0, h⟩ := wb_some h
  refine r_callV (dc_L_law_1 11 rfl) mv_X10_mode ml_RL_172 (As := [.int x21]) (t_X10_mode (d := d - 1) hl (by omega) e0) (by omega) rfl (Nat.le_of_ble_eq_true rfl) ?_
  refine r_istore (dc_L_law_1 12 rfl) (by decide) (lo' := [(6, .int x23), (5, .int x20), (0, .ref 0), (1, .ref pC1), (2, .ref pC2), (3, .ref pC3), (4, .int xC4)]) rfl ?_
  refine r_aload_n (dc_L_law_1 13 rfl) rfl rfl ?_
  obtain ⟨x24, e0, h⟩ := Option.bind_eq_some_iff.mp h
  refine r_callV (dc_L_law_1 14 rfl) mv_X10_thrown ml_RL_166 (As := []) (t_X10_thrown (d := d - 1) hl (by omega) e0) (by omega) rfl (Nat.le_of_ble_eq_true rfl) ?_
  refine r_iload (dc_L_law_1 15 rfl) rfl ?_
  refine r_icmp_eq (dc_L_law_1 16 rfl) (tgt := 328) (by decide) (fun c0 => ?_) (fun c0 => ?_)
  · rw [if_pos c0] at h
    refine r_iload (dc_L_law_1 19 rfl) rfl ?_
    refine r_if_ne (dc_L_law_1 20 rfl) (tgt := 345) (by decide) (fun c0 => ?_) (fun c0 => ?_)
    · rw [if_neg c0] at h
      refine r_goto (dc_L_law_1 30 rfl) (tgt := 3394) (by decide) ?_
      refine r_pick [2, 3, 4, 5, 6] (lo' := [(0, .ref 0), (1, .ref pC1), (2, .ref pC2), (3, .ref pC3), (4, .int xC4)]) rfl ?_
      exact hkJ _ h
    · rw [if_pos c0] at h
      refine r_aload_n (dc_L_law_1 21 rfl) rfl rfl ?_
      refine r_iconst (dc_L_law_1 22 rfl) kiconst_0 ?_
      obtain ⟨y25, e0, h⟩ := Option.bind_eq_some_iff.mp h
      refine r_lald (dc_L_law_1 23 rfl) e0 ?_
      refine r_iload (dc_L_law_1 24 rfl) rfl ?_
      refine r_i2l (dc_L_law_1 25 rfl) ?_
      refine r_lcmp (dc_L_law_1 26 rfl) ?_
      refine r_if_eq (dc_L_law_1 27 rfl) (tgt := 345) (by decide) (fun c0 => ?_) (fun c0 => ?_)
      · rw [if_pos c0] at h
        refine r_goto (dc_L_law_1 30 rfl) (tgt := 3394) (by decide) ?_
        refine r_pick [2, 3, 4, 5, 6] (lo' := [(0, .ref 0), (1, .ref pC1), (2, .ref pC2), (3, .ref pC3), (4, .int xC4)]) rfl ?_
        exact hkJ _ h
      · rw [if_neg c0] at h
        refine r_iconst (dc_L_law_1 28 rfl) kiconst_0 ?_
        cases h
        exact r_zreturn (dc_L_law_1 29 rfl) rfl (Or.inl rfl)
  · rw [if_neg c0] at h
    refine r_iconst (dc_L_law_1 17 rfl) kiconst_0 ?_
    cases h
    exact r_zreturn (dc_L_law_1 18 rfl) rfl (Or.inl rfl)
theorem l_L_law_C2 {G : Gx} {d : Nat} (hl : G.1.stackTraces = false) (hd : 15 ≤ d) {pC1 : Nat} {pC2 : Nat} {pC3 : Nat} {xC4 : Int32} {sC : Sto} {r : (Int32 × Sto)} {kJ : Sto → Option (Int32 × Sto)} (hkJ : ∀ (sJ : Sto), kJ sJ = some r → J G d m_L_law 3394 [(0, .ref 0), (1, .ref pC1), (2, .ref pC2), (3, .ref pC3), (4, .int xC4)] [] sJ (.inl (some (.int r.1))) r.2) (h : F_L_law_C2 G.sl G.sx pC1 pC2 pC3 xC4 sC kJ = some r) : J G d m_L_law 348 [(0, .ref 0), (1, .ref pC1), (2, .ref pC2), (3, .ref pC3), (4, .int xC4)] [] sC (.inl (some (.int r.1))) r.2 := by
  rw [F_L_law_C2] at h
  refine r_aload_n (dc_L_law_1 31 rfl) rfl rfl ?_
  refine r_aload_n (dc_L_law_1 32 rfl) rfl rfl ?_
  refine r_iload (dc_L_law_1 33 rfl) rfl ?_
  refine r_iconst (dc_L_law_1 34 rfl) kiconst_1 ?_
  refine r_iadd (dc_L_law_1 35 rfl) ?_
  obtain ⟨x26, e0, h⟩ := Option.bind_eq_some_iff.mp h
  obtain ⟨hin, ex⟩ := sld_some e0
  refine r_sld (dc_L_law_1 36 rfl) hin ?_
  rw [← ex]
  refine r_aload_n (dc_L_law_1 37 rfl) rfl rfl ?_
  refine r_iload (dc_L_law_1 38 rfl) rfl ?_
  refine r_iconst (dc_L_law_1 39 rfl) kiconst_2 ?_
  refine r_iadd (dc_L_law_1 40 rfl) ?_
  obtain ⟨x27, e0, h⟩ := Option.bind_eq_some_iff.mp h
  obtain ⟨hin, ex⟩ := sld_some e0
  refine r_sld (dc_L_law_1 41 rfl) hin ?_
  rw [← ex]
  refine r_aload_n (dc_L_law_1 42 rfl) rfl rfl ?_
  obtain ⟨x29, s28, e0, h⟩ := wb_some h
  refine r_callSH (dc_L_law_1 43 rfl) mh_L_add ml_RL_173 (As := [.ref pC1, .int x26, .int x27, .ref pC3]) (t_L_add (d := d - 1) hl (by omega) e0) (by omega) rfl (Nat.le_of_ble_eq_true rfl) ?_
  refine r_istore (dc_L_law_1 44 rfl) (by decide) (lo' := [(5, .int x29), (0, .ref 0), (1, .ref pC1), (2, .ref pC2), (3, .ref pC3), (4, .int xC4)]) rfl ?_
  refine r_aload_n (dc_L_law_1 45 rfl) rfl rfl ?_
  refine r_aload_n (dc_L_law_1 46 rfl) rfl rfl ?_
  refine r_iload (dc_L_law_1 47 rfl) rfl ?_
  refine r_iconst (dc_L_law_1 48 rfl) kiconst_1 ?_
  refine r_iadd (dc_L_law_1 49 rfl) ?_
  obtain ⟨x30, e0, h⟩ := Option.bind_eq_some_iff.mp h
  obtain ⟨hin, ex⟩ := sld_some e0
  refine r_sld (dc_L_law_1 50 rfl) hin ?_
  rw [← ex]
  refine r_aload_n (dc_L_law_1 51 rfl) rfl rfl ?_
  refine r_iload (dc_L_law_1 52 rfl) rfl ?_
  refine r_iconst (dc_L_law_1 53 rfl) kiconst_2 ?_
  refine r_iadd (dc_L_law_1 54 rfl) ?_
  obtain ⟨x31, e0, h⟩ := Option.bind_eq_some_iff.mp h
  obtain ⟨hin, ex⟩ := sld_some e0
  refine r_sld (dc_L_law_1 55 rfl) hin ?_
  rw [← ex]
  obtain ⟨x33, s32, e0, h⟩ := wb_some h
  refine r_callV (dc_L_law_1 56 rfl) mv_X10_add ml_RL_176 (As := [.int x30, .int x31]) (t_X10_add (d := d - 1) hl (by omega) e0) (by omega) rfl (Nat.le_of_ble_eq_true rfl) ?_
  refine r_istore (dc_L_law_1 57 rfl) (by decide) (lo' := [(6, .int x33), (5, .int x29), (0, .ref 0), (1, .ref pC1), (2, .ref pC2), (3, .ref pC3), (4, .int xC4)]) rfl ?_
  refine r_aload_n (dc_L_law_1 58 rfl) rfl rfl ?_
  obtain ⟨x34, e0, h⟩ := Option.bind_eq_some_iff.mp h
  refine r_callV (dc_L_law_1 59 rfl) mv_X10_thrown ml_RL_166 (As := []) (t_X10_thrown (d := d - 1) hl (by omega) e0) (by omega) rfl (Nat.le_of_ble_eq_true rfl) ?_
  refine r_iload (dc_L_law_1 60 rfl) rfl ?_
  refine r_icmp_eq (dc_L_law_1 61 rfl) (tgt := 396) (by decide) (fun c0 => ?_) (fun c0 => ?_)
  · rw [if_pos c0] at h
    refine r_iload (dc_L_law_2 0 rfl) rfl ?_
    refine r_if_ne (dc_L_law_2 1 rfl) (tgt := 413) (by decide) (fun c0 => ?_) (fun c0 => ?_)
    · rw [if_neg c0] at h
      refine r_goto (dc_L_law_2 11 rfl) (tgt := 3394) (by decide) ?_
      refine r_pick [2, 3, 4, 5, 6] (lo' := [(0, .ref 0), (1, .ref pC1), (2, .ref pC2), (3, .ref pC3), (4, .int xC4)]) rfl ?_
      exact hkJ _ h
    · rw [if_pos c0] at h
      refine r_aload_n (dc_L_law_2 2 rfl) rfl rfl ?_
      refine r_iconst (dc_L_law_2 3 rfl) kiconst_0 ?_
      obtain ⟨y35, e0, h⟩ := Option.bind_eq_some_iff.mp h
      refine r_lald (dc_L_law_2 4 rfl) e0 ?_
      refine r_iload (dc_L_law_2 5 rfl) rfl ?_
      refine r_i2l (dc_L_law_2 6 rfl) ?_
      refine r_lcmp (dc_L_law_2 7 rfl) ?_
      refine r_if_eq (dc_L_law_2 8 rfl) (tgt := 413) (by decide) (fun c0 => ?_) (fun c0 => ?_)
      · rw [if_pos c0] at h
        refine r_goto (dc_L_law_2 11 rfl) (tgt := 3394) (by decide) ?_
        refine r_pick [2, 3, 4, 5, 6] (lo' := [(0, .ref 0), (1, .ref pC1), (2, .ref pC2), (3, .ref pC3), (4, .int xC4)]) rfl ?_
        exact hkJ _ h
      · rw [if_neg c0] at h
        refine r_iconst (dc_L_law_2 9 rfl) kiconst_0 ?_
        cases h
        exact r_zreturn (dc_L_law_2 10 rfl) rfl (Or.inl rfl)
  · rw [if_neg c0] at h
    refine r_iconst (dc_L_law_1 62 rfl) kiconst_0 ?_
    cases h
    exact r_zreturn (dc_L_law_1 63 rfl) rfl (Or.inl rfl)
theorem l_L_law_C3 {G : Gx} {d : Nat} (hl : G.1.stackTraces = false) (hd : 15 ≤ d) {pC1 : Nat} {pC2 : Nat} {pC3 : Nat} {xC4 : Int32} {sC : Sto} {r : (Int32 × Sto)} {kJ : Sto → Option (Int32 × Sto)} (hkJ : ∀ (sJ : Sto), kJ sJ = some r → J G d m_L_law 3394 [(0, .ref 0), (1, .ref pC1), (2, .ref pC2), (3, .ref pC3), (4, .int xC4)] [] sJ (.inl (some (.int r.1))) r.2) (h : F_L_law_C3 G.sl G.sx pC1 pC2 pC3 xC4 sC kJ = some r) : J G d m_L_law 416 [(0, .ref 0), (1, .ref pC1), (2, .ref pC2), (3, .ref pC3), (4, .int xC4)] [] sC (.inl (some (.int r.1))) r.2 := by
  rw [F_L_law_C3] at h
  refine r_aload_n (dc_L_law_2 12 rfl) rfl rfl ?_
  refine r_aload_n (dc_L_law_2 13 rfl) rfl rfl ?_
  refine r_iload (dc_L_law_2 14 rfl) rfl ?_
  refine r_iconst (dc_L_law_2 15 rfl) kiconst_1 ?_
  refine r_iadd (dc_L_law_2 16 rfl) ?_
  obtain ⟨x36, e0, h⟩ := Option.bind_eq_some_iff.mp h
  obtain ⟨hin, ex⟩ := sld_some e0
  refine r_sld (dc_L_law_2 17 rfl) hin ?_
  rw [← ex]
  refine r_aload_n (dc_L_law_2 18 rfl) rfl rfl ?_
  refine r_iload (dc_L_law_2 19 rfl) rfl ?_
  refine r_iconst (dc_L_law_2 20 rfl) kiconst_2 ?_
  refine r_iadd (dc_L_law_2 21 rfl) ?_
  obtain ⟨x37, e0, h⟩ := Option.bind_eq_some_iff.mp h
  obtain ⟨hin, ex⟩ := sld_some e0
  refine r_sld (dc_L_law_2 22 rfl) hin ?_
  rw [← ex]
  refine r_aload_n (dc_L_law_2 23 rfl) rfl rfl ?_
  obtain ⟨x39, s38, e0, h⟩ := wb_some h
  refine r_callSH (dc_L_law_2 24 rfl) mh_L_take ml_RL_177 (As := [.ref pC1, .int x36, .int x37, .ref pC3]) (t_L_take (d := d - 1) hl (by omega) e0) (by omega) rfl (Nat.le_of_ble_eq_true rfl) ?_
  refine r_istore (dc_L_law_2 25 rfl) (by decide) (lo' := [(5, .int x39), (0, .ref 0), (1, .ref pC1), (2, .ref pC2), (3, .ref pC3), (4, .int xC4)]) rfl ?_
  refine r_aload_n (dc_L_law_2 26 rfl) rfl rfl ?_
  refine r_aload_n (dc_L_law_2 27 rfl) rfl rfl ?_
  refine r_iload (dc_L_law_2 28 rfl) rfl ?_
  refine r_iconst (dc_L_law_2 29 rfl) kiconst_1 ?_
  refine r_iadd (dc_L_law_2 30 rfl) ?_
  obtain ⟨x40, e0, h⟩ := Option.bind_eq_some_iff.mp h
  obtain ⟨hin, ex⟩ := sld_some e0
  refine r_sld (dc_L_law_2 31 rfl) hin ?_
  rw [← ex]
  refine r_aload_n (dc_L_law_2 32 rfl) rfl rfl ?_
  refine r_iload (dc_L_law_2 33 rfl) rfl ?_
  refine r_iconst (dc_L_law_2 34 rfl) kiconst_2 ?_
  refine r_iadd (dc_L_law_2 35 rfl) ?_
  obtain ⟨x41, e0, h⟩ := Option.bind_eq_some_iff.mp h
  obtain ⟨hin, ex⟩ := sld_some e0
  refine r_sld (dc_L_law_2 36 rfl) hin ?_
  rw [← ex]
  obtain ⟨x43, s42, e0, h⟩ := wb_some h
  refine r_callV (dc_L_law_2 37 rfl) mv_X10_take ml_RL_179 (As := [.int x40, .int x41]) (t_X10_take (d := d - 1) hl (by omega) e0) (by omega) rfl (Nat.le_of_ble_eq_true rfl) ?_
  refine r_istore (dc_L_law_2 38 rfl) (by decide) (lo' := [(6, .int x43), (5, .int x39), (0, .ref 0), (1, .ref pC1), (2, .ref pC2), (3, .ref pC3), (4, .int xC4)]) rfl ?_
  refine r_aload_n (dc_L_law_2 39 rfl) rfl rfl ?_
  obtain ⟨x44, e0, h⟩ := Option.bind_eq_some_iff.mp h
  refine r_callV (dc_L_law_2 40 rfl) mv_X10_thrown ml_RL_166 (As := []) (t_X10_thrown (d := d - 1) hl (by omega) e0) (by omega) rfl (Nat.le_of_ble_eq_true rfl) ?_
  refine r_iload (dc_L_law_2 41 rfl) rfl ?_
  refine r_icmp_eq (dc_L_law_2 42 rfl) (tgt := 464) (by decide) (fun c0 => ?_) (fun c0 => ?_)
  · rw [if_pos c0] at h
    refine r_iload (dc_L_law_2 45 rfl) rfl ?_
    refine r_if_ne (dc_L_law_2 46 rfl) (tgt := 481) (by decide) (fun c0 => ?_) (fun c0 => ?_)
    · rw [if_neg c0] at h
      refine r_goto (dc_L_law_2 56 rfl) (tgt := 3394) (by decide) ?_
      refine r_pick [2, 3, 4, 5, 6] (lo' := [(0, .ref 0), (1, .ref pC1), (2, .ref pC2), (3, .ref pC3), (4, .int xC4)]) rfl ?_
      exact hkJ _ h
    · rw [if_pos c0] at h
      refine r_aload_n (dc_L_law_2 47 rfl) rfl rfl ?_
      refine r_iconst (dc_L_law_2 48 rfl) kiconst_0 ?_
      obtain ⟨y45, e0, h⟩ := Option.bind_eq_some_iff.mp h
      refine r_lald (dc_L_law_2 49 rfl) e0 ?_
      refine r_iload (dc_L_law_2 50 rfl) rfl ?_
      refine r_i2l (dc_L_law_2 51 rfl) ?_
      refine r_lcmp (dc_L_law_2 52 rfl) ?_
      refine r_if_eq (dc_L_law_2 53 rfl) (tgt := 481) (by decide) (fun c0 => ?_) (fun c0 => ?_)
      · rw [if_pos c0] at h
        refine r_goto (dc_L_law_2 56 rfl) (tgt := 3394) (by decide) ?_
        refine r_pick [2, 3, 4, 5, 6] (lo' := [(0, .ref 0), (1, .ref pC1), (2, .ref pC2), (3, .ref pC3), (4, .int xC4)]) rfl ?_
        exact hkJ _ h
      · rw [if_neg c0] at h
        refine r_iconst (dc_L_law_2 54 rfl) kiconst_0 ?_
        cases h
        exact r_zreturn (dc_L_law_2 55 rfl) rfl (Or.inl rfl)
  · rw [if_neg c0] at h
    refine r_iconst (dc_L_law_2 43 rfl) kiconst_0 ?_
    cases h
    exact r_zreturn (dc_L_law_2 44 rfl) rfl (Or.inl rfl)
theorem l_L_law_C4 {G : Gx} {d : Nat} (hl : G.1.stackTraces = false) (hd : 15 ≤ d) {pC1 : Nat} {pC2 : Nat} {pC3 : Nat} {xC4 : Int32} {sC : Sto} {r : (Int32 × Sto)} {kJ : Sto → Option (Int32 × Sto)} (hkJ : ∀ (sJ : Sto), kJ sJ = some r → J G d m_L_law 3394 [(0, .ref 0), (1, .ref pC1), (2, .ref pC2), (3, .ref pC3), (4, .int xC4)] [] sJ (.inl (some (.int r.1))) r.2) (h : F_L_law_C4 G.sl G.sx pC1 pC2 pC3 xC4 sC kJ = some r) : J G d m_L_law 484 [(0, .ref 0), (1, .ref pC1), (2, .ref pC2), (3, .ref pC3), (4, .int xC4)] [] sC (.inl (some (.int r.1))) r.2 := by
  rw [F_L_law_C4] at h
  refine r_aload_n (dc_L_law_2 57 rfl) rfl rfl ?_
  refine r_aload_n (dc_L_law_2 58 rfl) rfl rfl ?_
  refine r_iload (dc_L_law_2 59 rfl) rfl ?_
  refine r_iconst (dc_L_law_2 60 rfl) kiconst_1 ?_
  refine r_iadd (dc_L_law_2 61 rfl) ?_
  obtain ⟨x46, e0, h⟩ := Option.bind_eq_some_iff.mp h
  obtain ⟨hin, ex⟩ := sld_some e0
  refine r_sld (dc_L_law_2 62 rfl) hin ?_
  rw [← ex]
  refine r_aload_n (dc_L_law_2 63 rfl) rfl rfl ?_
  refine r_iload (dc_L_law_3 0 rfl) rfl ?_
  refine r_iconst (dc_L_law_3 1 rfl) kiconst_2 ?_
  refine r_iadd (dc_L_law_3 2 rfl) ?_
  obtain ⟨x47, e0, h⟩ := Option.bind_eq_some_iff.mp h
  obtain ⟨hin, ex⟩ := sld_some e0
  refine r_sld (dc_L_law_3 3 rfl) hin ?_
  rw [← ex]
  refine r_aload_n (dc_L_law_3 4 rfl) rfl rfl ?_
  obtain ⟨x49, s48, e0, h⟩ := wb_some h
  refine r_callSH (dc_L_law_3 5 rfl) mh_L_write ml_RL_180 (As := [.ref pC1, .int x46, .int x47, .ref pC3]) (t_L_write (d := d - 1) hl (by omega) e0) (by omega) rfl (Nat.le_of_ble_eq_true rfl) ?_
  refine r_istore (dc_L_law_3 6 rfl) (by decide) (lo' := [(5, .int x49), (0, .ref 0), (1, .ref pC1), (2, .ref pC2), (3, .ref pC3), (4, .int xC4)]) rfl ?_
  refine r_aload_n (dc_L_law_3 7 rfl) rfl rfl ?_
  refine r_aload_n (dc_L_law_3 8 rfl) rfl rfl ?_
  refine r_iload (dc_L_law_3 9 rfl) rfl ?_
  refine r_iconst (dc_L_law_3 10 rfl) kiconst_1 ?_
  refine r_iadd (dc_L_law_3 11 rfl) ?_
  obtain ⟨x50, e0, h⟩ := Option.bind_eq_some_iff.mp h
  obtain ⟨hin, ex⟩ := sld_some e0
  refine r_sld (dc_L_law_3 12 rfl) hin ?_
  rw [← ex]
  refine r_aload_n (dc_L_law_3 13 rfl) rfl rfl ?_
  refine r_iload (dc_L_law_3 14 rfl) rfl ?_
  refine r_iconst (dc_L_law_3 15 rfl) kiconst_2 ?_
  refine r_iadd (dc_L_law_3 16 rfl) ?_
  obtain ⟨x51, e0, h⟩ := Option.bind_eq_some_iff.mp h
  obtain ⟨hin, ex⟩ := sld_some e0
  refine r_sld (dc_L_law_3 17 rfl) hin ?_
  rw [← ex]
  obtain ⟨x53, s52, e0, h⟩ := wb_some h
  refine r_callV (dc_L_law_3 18 rfl) mv_X10_write ml_RL_182 (As := [.int x50, .int x51]) (t_X10_write (d := d - 1) hl (by omega) e0) (by omega) rfl (Nat.le_of_ble_eq_true rfl) ?_
  refine r_istore (dc_L_law_3 19 rfl) (by decide) (lo' := [(6, .int x53), (5, .int x49), (0, .ref 0), (1, .ref pC1), (2, .ref pC2), (3, .ref pC3), (4, .int xC4)]) rfl ?_
  refine r_aload_n (dc_L_law_3 20 rfl) rfl rfl ?_
  obtain ⟨x54, e0, h⟩ := Option.bind_eq_some_iff.mp h
  refine r_callV (dc_L_law_3 21 rfl) mv_X10_thrown ml_RL_166 (As := []) (t_X10_thrown (d := d - 1) hl (by omega) e0) (by omega) rfl (Nat.le_of_ble_eq_true rfl) ?_
  refine r_iload (dc_L_law_3 22 rfl) rfl ?_
  refine r_icmp_eq (dc_L_law_3 23 rfl) (tgt := 532) (by decide) (fun c0 => ?_) (fun c0 => ?_)
  · rw [if_pos c0] at h
    refine r_iload (dc_L_law_3 26 rfl) rfl ?_
    refine r_if_ne (dc_L_law_3 27 rfl) (tgt := 549) (by decide) (fun c0 => ?_) (fun c0 => ?_)
    · rw [if_neg c0] at h
      refine r_goto (dc_L_law_3 37 rfl) (tgt := 3394) (by decide) ?_
      refine r_pick [2, 3, 4, 5, 6] (lo' := [(0, .ref 0), (1, .ref pC1), (2, .ref pC2), (3, .ref pC3), (4, .int xC4)]) rfl ?_
      exact hkJ _ h
    · rw [if_pos c0] at h
      refine r_aload_n (dc_L_law_3 28 rfl) rfl rfl ?_
      refine r_iconst (dc_L_law_3 29 rfl) kiconst_0 ?_
      obtain ⟨y55, e0, h⟩ := Option.bind_eq_some_iff.mp h
      refine r_lald (dc_L_law_3 30 rfl) e0 ?_
      refine r_iload (dc_L_law_3 31 rfl) rfl ?_
      refine r_i2l (dc_L_law_3 32 rfl) ?_
      refine r_lcmp (dc_L_law_3 33 rfl) ?_
      refine r_if_eq (dc_L_law_3 34 rfl) (tgt := 549) (by decide) (fun c0 => ?_) (fun c0 => ?_)
      · rw [if_pos c0] at h
        refine r_goto (dc_L_law_3 37 rfl) (tgt := 3394) (by decide) ?_
        refine r_pick [2, 3, 4, 5, 6] (lo' := [(0, .ref 0), (1, .ref pC1), (2, .ref pC2), (3, .ref pC3), (4, .int xC4)]) rfl ?_
        exact hkJ _ h
      · rw [if_neg c0] at h
        refine r_iconst (dc_L_law_3 35 rfl) kiconst_0 ?_
        cases h
        exact r_zreturn (dc_L_law_3 36 rfl) rfl (Or.inl rfl)
  · rw [if_neg c0] at h
    refine r_iconst (dc_L_law_3 24 rfl) kiconst_0 ?_
    cases h
    exact r_zreturn (dc_L_law_3 25 rfl) rfl (Or.inl rfl)
