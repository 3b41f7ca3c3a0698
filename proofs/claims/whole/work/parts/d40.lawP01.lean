theorem t_L_unlike {G : Gx} {d : Nat} (hl : G.1.stackTraces = false) (hd : 8 ≤ d) {σ : Sto} {pa0 : Nat} {xa1 : Int32} {xa2 : Int32} {pa3 : Nat} {r : (Int32 × Sto)} (h : F_L_unlike σ pa0 xa1 xa2 pa3 = some r) : Mt G d m_L_unlike [.ref pa0, .int xa1, .int xa2, .ref pa3] σ (.inl (some (.int r.1))) r.2 := by
  rw [F_L_unlike] at h
  refine J.toMtH (lo := [(0, .ref pa0), (1, .int xa1), (2, .int xa2), (3, .ref pa3)]) pn_RL (by decide) hl (Nat.le_of_ble_eq_true rfl) rfl ?_
  refine r_aload_n (dc_L_unlike 0 rfl) rfl rfl ?_
  refine r_iconst (dc_L_unlike 1 rfl) kiconst_0 ?_
  refine r_aload_n (dc_L_unlike 2 rfl) rfl rfl ?_
  refine r_iload_n (dc_L_unlike 3 rfl) rfl rfl ?_
  refine r_iload_n (dc_L_unlike 4 rfl) rfl rfl ?_
  rcases tc_some h with ⟨x2, s1, e0, h⟩ | ⟨E0, s1, e0, h⟩
  · refine r_callV (dc_L_unlike 5 rfl) mv_X9_unlike ml_RL_99 (As := [.int xa1, .int xa2]) (t_X9_unlike (d := d - 1) hl (by omega) e0) (by omega) rfl (Nat.le_of_ble_eq_true rfl) ?_
    refine r_i2l (dc_L_unlike 6 rfl) ?_
    obtain ⟨s3, e0, h⟩ := Option.bind_eq_some_iff.mp h
    refine r_last (dc_L_unlike 7 rfl) e0 ?_
    refine r_goto (dc_L_unlike 8 rfl) (tgt := 17) (by decide) ?_
    refine r_iconst (dc_L_unlike 12 rfl) kiconst_0 ?_
    cases h
    exact r_ireturn (dc_L_unlike 13 rfl) rfl
  by_cases c0 : E0 = "java/lang/IndexOutOfBoundsException"
  · subst c0
    rw [if_pos rfl] at h
    cases h
    exact r_callVC [] (0, 10, 13, 22) [] (dc_L_unlike 5 rfl) mv_X9_unlike ml_RL_99 (As := [.int xa1, .int xa2]) (t_X9_unlike (d := d - 1) hl (by omega) e0) (by omega) rfl (Nat.le_of_ble_eq_true rfl) (by decide) rfl (fun z hz => by cases hz) rfl (by decide) cl_RL_22 ca_IndexOutOfBoundsException (Or.inl ⟨(dc_L_unlike 9 rfl), rfl⟩) (by decide) (dc_L_unlike 10 rfl) kiconst_1 (dc_L_unlike 11 rfl) rfl
  rw [if_neg c0] at h
  cases h
theorem t_L_would {G : Gx} {d : Nat} (hl : G.1.stackTraces = false) (hd : 8 ≤ d) {σ : Sto} {pa0 : Nat} {xa1 : Int32} {xa2 : Int32} {xa3 : Int32} {pa4 : Nat} {r : (Int32 × Sto)} (h : F_L_would σ pa0 xa1 xa2 xa3 pa4 = some r) : Mt G d m_L_would [.ref pa0, .int xa1, .int xa2, .int xa3, .ref pa4] σ (.inl (some (.int r.1))) r.2 := by
  rw [F_L_would] at h
  refine J.toMtH (lo := [(0, .ref pa0), (1, .int xa1), (2, .int xa2), (3, .int xa3), (4, .ref pa4)]) pn_RL (by decide) hl (Nat.le_of_ble_eq_true rfl) rfl ?_
  refine r_aload (dc_L_would 0 rfl) rfl ?_
  refine r_iconst (dc_L_would 1 rfl) kiconst_0 ?_
  refine r_aload_n (dc_L_would 2 rfl) rfl rfl ?_
  refine r_iload_n (dc_L_would 3 rfl) rfl rfl ?_
  refine r_iload_n (dc_L_would 4 rfl) rfl rfl ?_
  refine r_iload_n (dc_L_would 5 rfl) rfl rfl ?_
  rcases tc_some h with ⟨x2, s1, e0, h⟩ | ⟨E0, s1, e0, h⟩
  · refine r_callV (dc_L_would 6 rfl) mv_X9_would ml_RL_102 (As := [.int xa1, .int xa2, .int xa3]) (t_X9_would (d := d - 1) hl (by omega) e0) (by omega) rfl (Nat.le_of_ble_eq_true rfl) ?_
    refine r_i2l (dc_L_would 7 rfl) ?_
    obtain ⟨s3, e0, h⟩ := Option.bind_eq_some_iff.mp h
    refine r_last (dc_L_would 8 rfl) e0 ?_
    refine r_goto (dc_L_would 9 rfl) (tgt := 23) (by decide) ?_
    refine r_iconst (dc_L_would 16 rfl) kiconst_0 ?_
    cases h
    exact r_ireturn (dc_L_would 17 rfl) rfl
  by_cases c0 : E0 = "java/lang/IndexOutOfBoundsException"
  · subst c0
    rw [if_pos rfl] at h
    cases h
    exact r_callVC [] (0, 12, 15, 22) [(0, 12, 19, 13)] (dc_L_would 6 rfl) mv_X9_would ml_RL_102 (As := [.int xa1, .int xa2, .int xa3]) (t_X9_would (d := d - 1) hl (by omega) e0) (by omega) rfl (Nat.le_of_ble_eq_true rfl) (by decide) rfl (fun z hz => by cases hz) rfl (by decide) cl_RL_22 ca_IndexOutOfBoundsException (Or.inl ⟨(dc_L_would 10 rfl), rfl⟩) (by decide) (dc_L_would 11 rfl) kiconst_1 (dc_L_would 12 rfl) rfl
  by_cases c1 : E0 = "java/lang/IllegalArgumentException"
  · subst c1
    rw [if_neg (by decide), if_pos rfl] at h
    cases h
    exact r_callVC [(0, 12, 15, 22)] (0, 12, 19, 13) [] (dc_L_would 6 rfl) mv_X9_would ml_RL_102 (As := [.int xa1, .int xa2, .int xa3]) (t_X9_would (d := d - 1) hl (by omega) e0) (by omega) rfl (Nat.le_of_ble_eq_true rfl) (by decide) rfl (fun z hz => by simp only [List.mem_cons, List.not_mem_nil, or_false] at hz; rcases hz with rfl <;> first | exact ⟨by decide, "java/lang/IndexOutOfBoundsException", by decide, by decide, cl_RL_22⟩) rfl (by decide) cl_RL_13 ca_IllegalArgumentException (Or.inl ⟨(dc_L_would 13 rfl), rfl⟩) (by decide) (dc_L_would 14 rfl) kiconst_2 (dc_L_would 15 rfl) rfl
  rw [if_neg c0, if_neg c1] at h
  cases h
theorem t_L_event {G : Gx} {d : Nat} (hl : G.1.stackTraces = false) (hd : 8 ≤ d) {σ : Sto} {pa0 : Nat} {xa1 : Int32} {xa2 : Int32} {pa3 : Nat} {r : (Int32 × Sto)} (h : F_L_event σ pa0 xa1 xa2 pa3 = some r) : Mt G d m_L_event [.ref pa0, .int xa1, .int xa2, .ref pa3] σ (.inl (some (.int r.1))) r.2 := by
  rw [F_L_event] at h
  refine J.toMtH (lo := [(0, .ref pa0), (1, .int xa1), (2, .int xa2), (3, .ref pa3)]) pn_RL (by decide) hl (Nat.le_of_ble_eq_true rfl) rfl ?_
  refine r_aload_n (dc_L_event 0 rfl) rfl rfl ?_
  refine r_iconst (dc_L_event 1 rfl) kiconst_0 ?_
  refine r_aload_n (dc_L_event 2 rfl) rfl rfl ?_
  refine r_iload_n (dc_L_event 3 rfl) rfl rfl ?_
  refine r_iload_n (dc_L_event 4 rfl) rfl rfl ?_
  rcases tc_some h with ⟨x2, s1, e0, h⟩ | ⟨E0, s1, e0, h⟩
  · refine r_callV (dc_L_event 5 rfl) mv_X9_event ml_RL_105 (As := [.int xa1, .int xa2]) (t_X9_event (d := d - 1) hl (by omega) e0) (by omega) rfl (Nat.le_of_ble_eq_true rfl) ?_
    refine r_i2l (dc_L_event 6 rfl) ?_
    obtain ⟨s3, e0, h⟩ := Option.bind_eq_some_iff.mp h
    refine r_last (dc_L_event 7 rfl) e0 ?_
    refine r_goto (dc_L_event 8 rfl) (tgt := 21) (by decide) ?_
    refine r_iconst (dc_L_event 15 rfl) kiconst_0 ?_
    cases h
    exact r_ireturn (dc_L_event 16 rfl) rfl
  by_cases c0 : E0 = "java/lang/IndexOutOfBoundsException"
  · subst c0
    rw [if_pos rfl] at h
    cases h
    exact r_callVC [] (0, 10, 13, 22) [(0, 10, 17, 13)] (dc_L_event 5 rfl) mv_X9_event ml_RL_105 (As := [.int xa1, .int xa2]) (t_X9_event (d := d - 1) hl (by omega) e0) (by omega) rfl (Nat.le_of_ble_eq_true rfl) (by decide) rfl (fun z hz => by cases hz) rfl (by decide) cl_RL_22 ca_IndexOutOfBoundsException (Or.inl ⟨(dc_L_event 9 rfl), rfl⟩) (by decide) (dc_L_event 10 rfl) kiconst_1 (dc_L_event 11 rfl) rfl
  by_cases c1 : E0 = "java/lang/IllegalArgumentException"
  · subst c1
    rw [if_neg (by decide), if_pos rfl] at h
    cases h
    exact r_callVC [(0, 10, 13, 22)] (0, 10, 17, 13) [] (dc_L_event 5 rfl) mv_X9_event ml_RL_105 (As := [.int xa1, .int xa2]) (t_X9_event (d := d - 1) hl (by omega) e0) (by omega) rfl (Nat.le_of_ble_eq_true rfl) (by decide) rfl (fun z hz => by simp only [List.mem_cons, List.not_mem_nil, or_false] at hz; rcases hz with rfl <;> first | exact ⟨by decide, "java/lang/IndexOutOfBoundsException", by decide, by decide, cl_RL_22⟩) rfl (by decide) cl_RL_13 ca_IllegalArgumentException (Or.inl ⟨(dc_L_event 12 rfl), rfl⟩) (by decide) (dc_L_event 13 rfl) kiconst_2 (dc_L_event 14 rfl) rfl
  rw [if_neg c0, if_neg c1] at h
  cases h
theorem t_L_ahead {G : Gx} {d : Nat} (hl : G.1.stackTraces = false) (hd : 8 ≤ d) {σ : Sto} {pa0 : Nat} {xa1 : Int32} {xa2 : Int32} {pa3 : Nat} {r : (Int32 × Sto)} (h : F_L_ahead σ pa0 xa1 xa2 pa3 = some r) : Mt G d m_L_ahead [.ref pa0, .int xa1, .int xa2, .ref pa3] σ (.inl (some (.int r.1))) r.2 := by
  rw [F_L_ahead] at h
  refine J.toMtH (lo := [(0, .ref pa0), (1, .int xa1), (2, .int xa2), (3, .ref pa3)]) pn_RL (by decide) hl (Nat.le_of_ble_eq_true rfl) rfl ?_
  refine r_aload_n (dc_L_ahead 0 rfl) rfl rfl ?_
  refine r_iconst (dc_L_ahead 1 rfl) kiconst_0 ?_
  refine r_aload_n (dc_L_ahead 2 rfl) rfl rfl ?_
  refine r_iload_n (dc_L_ahead 3 rfl) rfl rfl ?_
  refine r_iload_n (dc_L_ahead 4 rfl) rfl rfl ?_
  rcases tc_some h with ⟨x2, s1, e0, h⟩ | ⟨E0, s1, e0, h⟩
  · refine r_callV (dc_L_ahead 5 rfl) mv_X9_ahead ml_RL_108 (As := [.int xa1, .int xa2]) (t_X9_ahead (d := d - 1) hl (by omega) e0) (by omega) rfl (Nat.le_of_ble_eq_true rfl) ?_
    refine r_if_eq (dc_L_ahead 6 rfl) (tgt := 15) (by decide) (fun c0 => ?_) (fun c0 => ?_)
    · rw [if_pos c0] at h
      refine r_lconst (dc_L_ahead 9 rfl) klconst_0 ?_
      obtain ⟨s3, e0, h⟩ := Option.bind_eq_some_iff.mp h
      refine r_last (dc_L_ahead 10 rfl) e0 ?_
      refine r_goto (dc_L_ahead 11 rfl) (tgt := 24) (by decide) ?_
      refine r_iconst (dc_L_ahead 15 rfl) kiconst_0 ?_
      cases h
      exact r_ireturn (dc_L_ahead 16 rfl) rfl
    · rw [if_neg c0] at h
      refine r_lconst (dc_L_ahead 7 rfl) klconst_1 ?_
      refine r_goto (dc_L_ahead 8 rfl) (tgt := 16) (by decide) ?_
      obtain ⟨s4, e0, h⟩ := Option.bind_eq_some_iff.mp h
      refine r_last (dc_L_ahead 10 rfl) e0 ?_
      refine r_goto (dc_L_ahead 11 rfl) (tgt := 24) (by decide) ?_
      refine r_iconst (dc_L_ahead 15 rfl) kiconst_0 ?_
      cases h
      exact r_ireturn (dc_L_ahead 16 rfl) rfl
  by_cases c0 : E0 = "java/lang/IndexOutOfBoundsException"
  · subst c0
    rw [if_pos rfl] at h
    cases h
    exact r_callVC [] (0, 17, 20, 22) [] (dc_L_ahead 5 rfl) mv_X9_ahead ml_RL_108 (As := [.int xa1, .int xa2]) (t_X9_ahead (d := d - 1) hl (by omega) e0) (by omega) rfl (Nat.le_of_ble_eq_true rfl) (by decide) rfl (fun z hz => by cases hz) rfl (by decide) cl_RL_22 ca_IndexOutOfBoundsException (Or.inl ⟨(dc_L_ahead 12 rfl), rfl⟩) (by decide) (dc_L_ahead 13 rfl) kiconst_1 (dc_L_ahead 14 rfl) rfl
  rw [if_neg c0] at h
  cases h
theorem t_L_wide {G : Gx} {d : Nat} (hl : G.1.stackTraces = false) (hd : 8 ≤ d) {σ : Sto} {pa0 : Nat} {xa1 : Int32} {pa2 : Nat} {r : (Int32 × Sto)} (h : F_L_wide σ pa0 xa1 pa2 = some r) : Mt G d m_L_wide [.ref pa0, .int xa1, .ref pa2] σ (.inl (some (.int r.1))) r.2 := by
  rw [F_L_wide] at h
  refine J.toMtH (lo := [(0, .ref pa0), (1, .int xa1), (2, .ref pa2)]) pn_RL (by decide) hl (Nat.le_of_ble_eq_true rfl) rfl ?_
  refine r_aload_n (dc_L_wide 0 rfl) rfl rfl ?_
  refine r_iconst (dc_L_wide 1 rfl) kiconst_0 ?_
  refine r_aload_n (dc_L_wide 2 rfl) rfl rfl ?_
  refine r_iload_n (dc_L_wide 3 rfl) rfl rfl ?_
  rcases tc_some h with ⟨x2, s1, e0, h⟩ | ⟨E0, s1, e0, h⟩
  · refine r_callV (dc_L_wide 4 rfl) mv_X9_wide ml_RL_111 (As := [.int xa1]) (t_X9_wide (d := d - 1) hl (by omega) e0) (by omega) rfl (Nat.le_of_ble_eq_true rfl) ?_
    refine r_i2l (dc_L_wide 5 rfl) ?_
    obtain ⟨s3, e0, h⟩ := Option.bind_eq_some_iff.mp h
    refine r_last (dc_L_wide 6 rfl) e0 ?_
    refine r_goto (dc_L_wide 7 rfl) (tgt := 15) (by decide) ?_
    refine r_iconst (dc_L_wide 11 rfl) kiconst_0 ?_
    cases h
    exact r_ireturn (dc_L_wide 12 rfl) rfl
  by_cases c0 : E0 = "java/lang/IllegalArgumentException"
  · subst c0
    rw [if_pos rfl] at h
    cases h
    exact r_callVC [] (0, 9, 12, 13) [] (dc_L_wide 4 rfl) mv_X9_wide ml_RL_111 (As := [.int xa1]) (t_X9_wide (d := d - 1) hl (by omega) e0) (by omega) rfl (Nat.le_of_ble_eq_true rfl) (by decide) rfl (fun z hz => by cases hz) rfl (by decide) cl_RL_13 ca_IllegalArgumentException (Or.inr ⟨3, (dc_L_wide 8 rfl), rfl, rfl⟩) (by decide) (dc_L_wide 9 rfl) kiconst_1 (dc_L_wide 10 rfl) rfl
  rw [if_neg c0] at h
  cases h
theorem t_L_came {G : Gx} {d : Nat} (hl : G.1.stackTraces = false) (hd : 8 ≤ d) {σ : Sto} {pa0 : Nat} {xa1 : Int32} {xa2 : Int32} {xa3 : Int32} {pa4 : Nat} {r : (Int32 × Sto)} (h : F_L_came σ pa0 xa1 xa2 xa3 pa4 = some r) : Mt G d m_L_came [.ref pa0, .int xa1, .int xa2, .int xa3, .ref pa4] σ (.inl (some (.int r.1))) r.2 := by
  rw [F_L_came] at h
  refine J.toMtH (lo := [(0, .ref pa0), (1, .int xa1), (2, .int xa2), (3, .int xa3), (4, .ref pa4)]) pn_RL (by decide) hl (Nat.le_of_ble_eq_true rfl) rfl ?_
  refine r_aload (dc_L_came 0 rfl) rfl ?_
  refine r_iconst (dc_L_came 1 rfl) kiconst_0 ?_
  refine r_aload_n (dc_L_came 2 rfl) rfl rfl ?_
  refine r_iload_n (dc_L_came 3 rfl) rfl rfl ?_
  refine r_iload_n (dc_L_came 4 rfl) rfl rfl ?_
  refine r_iload_n (dc_L_came 5 rfl) rfl rfl ?_
  rcases tc_some h with ⟨x2, s1, e0, h⟩ | ⟨E0, s1, e0, h⟩
  · refine r_callV (dc_L_came 6 rfl) mv_X9_came ml_RL_114 (As := [.int xa1, .int xa2, .int xa3]) (t_X9_came (d := d - 1) hl (by omega) e0) (by omega) rfl (Nat.le_of_ble_eq_true rfl) ?_
    refine r_i2l (dc_L_came 7 rfl) ?_
    obtain ⟨s3, e0, h⟩ := Option.bind_eq_some_iff.mp h
    refine r_last (dc_L_came 8 rfl) e0 ?_
    refine r_goto (dc_L_came 9 rfl) (tgt := 23) (by decide) ?_
    refine r_iconst (dc_L_came 16 rfl) kiconst_0 ?_
    cases h
    exact r_ireturn (dc_L_came 17 rfl) rfl
  by_cases c0 : E0 = "java/lang/IndexOutOfBoundsException"
  · subst c0
    rw [if_pos rfl] at h
    cases h
    exact r_callVC [] (0, 12, 15, 22) [(0, 12, 19, 13)] (dc_L_came 6 rfl) mv_X9_came ml_RL_114 (As := [.int xa1, .int xa2, .int xa3]) (t_X9_came (d := d - 1) hl (by omega) e0) (by omega) rfl (Nat.le_of_ble_eq_true rfl) (by decide) rfl (fun z hz => by cases hz) rfl (by decide) cl_RL_22 ca_IndexOutOfBoundsException (Or.inl ⟨(dc_L_came 10 rfl), rfl⟩) (by decide) (dc_L_came 11 rfl) kiconst_1 (dc_L_came 12 rfl) rfl
  by_cases c1 : E0 = "java/lang/IllegalArgumentException"
  · subst c1
    rw [if_neg (by decide), if_pos rfl] at h
    cases h
    exact r_callVC [(0, 12, 15, 22)] (0, 12, 19, 13) [] (dc_L_came 6 rfl) mv_X9_came ml_RL_114 (As := [.int xa1, .int xa2, .int xa3]) (t_X9_came (d := d - 1) hl (by omega) e0) (by omega) rfl (Nat.le_of_ble_eq_true rfl) (by decide) rfl (fun z hz => by simp only [List.mem_cons, List.not_mem_nil, or_false] at hz; rcases hz with rfl <;> first | exact ⟨by decide, "java/lang/IndexOutOfBoundsException", by decide, by decide, cl_RL_22⟩) rfl (by decide) cl_RL_13 ca_IllegalArgumentException (Or.inl ⟨(dc_L_came 13 rfl), rfl⟩) (by decide) (dc_L_came 14 rfl) kiconst_2 (dc_L_came 15 rfl) rfl
  rw [if_neg c0, if_neg c1] at h
  cases h
theorem t_L_way {G : Gx} {d : Nat} (hl : G.1.stackTraces = false) (hd : 8 ≤ d) {σ : Sto} {pa0 : Nat} {xa1 : Int32} {xa2 : Int32} {xa3 : Int32} {pa4 : Nat} {r : (Int32 × Sto)} (h : F_L_way σ pa0 xa1 xa2 xa3 pa4 = some r) : Mt G d m_L_way [.ref pa0, .int xa1, .int xa2, .int xa3, .ref pa4] σ (.inl (some (.int r.1))) r.2 := by
  rw [F_L_way] at h
  refine J.toMtH (lo := [(0, .ref pa0), (1, .int xa1), (2, .int xa2), (3, .int xa3), (4, .ref pa4)]) pn_RL (by decide) hl (Nat.le_of_ble_eq_true rfl) rfl ?_
  refine r_aload (dc_L_way 0 rfl) rfl ?_
  refine r_iconst (dc_L_way 1 rfl) kiconst_0 ?_
  refine r_aload_n (dc_L_way 2 rfl) rfl rfl ?_
  refine r_iload_n (dc_L_way 3 rfl) rfl rfl ?_
  refine r_iload_n (dc_L_way 4 rfl) rfl rfl ?_
  refine r_iload_n (dc_L_way 5 rfl) rfl rfl ?_
  rcases tc_some h with ⟨x2, s1, e0, h⟩ | ⟨E0, s1, e0, h⟩
  · refine r_callV (dc_L_way 6 rfl) mv_X9_way ml_RL_117 (As := [.int xa1, .int xa2, .int xa3]) (t_X9_way (d := d - 1) hl (by omega) e0) (by omega) rfl (Nat.le_of_ble_eq_true rfl) ?_
    refine r_i2l (dc_L_way 7 rfl) ?_
    obtain ⟨s3, e0, h⟩ := Option.bind_eq_some_iff.mp h
    refine r_last (dc_L_way 8 rfl) e0 ?_
    refine r_goto (dc_L_way 9 rfl) (tgt := 19) (by decide) ?_
    refine r_iconst (dc_L_way 13 rfl) kiconst_0 ?_
    cases h
    exact r_ireturn (dc_L_way 14 rfl) rfl
  by_cases c0 : E0 = "java/lang/IndexOutOfBoundsException"
  · subst c0
    rw [if_pos rfl] at h
    cases h
    exact r_callVC [] (0, 12, 15, 22) [] (dc_L_way 6 rfl) mv_X9_way ml_RL_117 (As := [.int xa1, .int xa2, .int xa3]) (t_X9_way (d := d - 1) hl (by omega) e0) (by omega) rfl (Nat.le_of_ble_eq_true rfl) (by decide) rfl (fun z hz => by cases hz) rfl (by decide) cl_RL_22 ca_IndexOutOfBoundsException (Or.inl ⟨(dc_L_way 10 rfl), rfl⟩) (by decide) (dc_L_way 11 rfl) kiconst_1 (dc_L_way 12 rfl) rfl
  rw [if_neg c0] at h
  cases h
theorem t_L_slowest {G : Gx} {d : Nat} (hl : G.1.stackTraces = false) (hd : 8 ≤ d) {σ : Sto} {pa0 : Nat} {xa1 : Int32} {pa2 : Nat} {r : (Int32 × Sto)} (h : F_L_slowest σ pa0 xa1 pa2 = some r) : Mt G d m_L_slowest [.ref pa0, .int xa1, .ref pa2] σ (.inl (some (.int r.1))) r.2 := by
  rw [F_L_slowest] at h
  refine J.toMtH (lo := [(0, .ref pa0), (1, .int xa1), (2, .ref pa2)]) pn_RL (by decide) hl (Nat.le_of_ble_eq_true rfl) rfl ?_
  refine r_aload_n (dc_L_slowest 0 rfl) rfl rfl ?_
  refine r_iconst (dc_L_slowest 1 rfl) kiconst_0 ?_
  refine r_aload_n (dc_L_slowest 2 rfl) rfl rfl ?_
  refine r_iload_n (dc_L_slowest 3 rfl) rfl rfl ?_
  rcases tc_some h with ⟨x2, s1, e0, h⟩ | ⟨E0, s1, e0, h⟩
  · refine r_callV (dc_L_slowest 4 rfl) mv_X9_slowest ml_RL_120 (As := [.int xa1]) (t_X9_slowest (d := d - 1) hl (by omega) e0) (by omega) rfl (Nat.le_of_ble_eq_true rfl) ?_
    refine r_i2l (dc_L_slowest 5 rfl) ?_
    obtain ⟨s3, e0, h⟩ := Option.bind_eq_some_iff.mp h
    refine r_last (dc_L_slowest 6 rfl) e0 ?_
    refine r_goto (dc_L_slowest 7 rfl) (tgt := 15) (by decide) ?_
    refine r_iconst (dc_L_slowest 11 rfl) kiconst_0 ?_
    cases h
    exact r_ireturn (dc_L_slowest 12 rfl) rfl
  by_cases c0 : E0 = "java/lang/IllegalArgumentException"
  · subst c0
    rw [if_pos rfl] at h
    cases h
    exact r_callVC [] (0, 9, 12, 13) [] (dc_L_slowest 4 rfl) mv_X9_slowest ml_RL_120 (As := [.int xa1]) (t_X9_slowest (d := d - 1) hl (by omega) e0) (by omega) rfl (Nat.le_of_ble_eq_true rfl) (by decide) rfl (fun z hz => by cases hz) rfl (by decide) cl_RL_13 ca_IllegalArgumentException (Or.inr ⟨3, (dc_L_slowest 8 rfl), rfl, rfl⟩) (by decide) (dc_L_slowest 9 rfl) kiconst_1 (dc_L_slowest 10 rfl) rfl
  rw [if_neg c0] at h
  cases h
theorem t_L_chain {G : Gx} {d : Nat} (hl : G.1.stackTraces = false) (hd : 8 ≤ d) {σ : Sto} {pa0 : Nat} {xa1 : Int32} {xa2 : Int32} {pa3 : Nat} {r : (Int32 × Sto)} (h : F_L_chain σ pa0 xa1 xa2 pa3 = some r) : Mt G d m_L_chain [.ref pa0, .int xa1, .int xa2, .ref pa3] σ (.inl (some (.int r.1))) r.2 := by
  rw [F_L_chain] at h
  refine J.toMtH (lo := [(0, .ref pa0), (1, .int xa1), (2, .int xa2), (3, .ref pa3)]) pn_RL (by decide) hl (Nat.le_of_ble_eq_true rfl) rfl ?_
  refine r_aload_n (dc_L_chain 0 rfl) rfl rfl ?_
  refine r_iconst (dc_L_chain 1 rfl) kiconst_0 ?_
  refine r_aload_n (dc_L_chain 2 rfl) rfl rfl ?_
  refine r_iload_n (dc_L_chain 3 rfl) rfl rfl ?_
  refine r_iload_n (dc_L_chain 4 rfl) rfl rfl ?_
  rcases tc_some h with ⟨x2, s1, e0, h⟩ | ⟨E0, s1, e0, h⟩
  · refine r_callV (dc_L_chain 5 rfl) mv_X9_chain ml_RL_123 (As := [.int xa1, .int xa2]) (t_X9_chain (d := d - 1) hl (by omega) e0) (by omega) rfl (Nat.le_of_ble_eq_true rfl) ?_
    refine r_i2l (dc_L_chain 6 rfl) ?_
    obtain ⟨s3, e0, h⟩ := Option.bind_eq_some_iff.mp h
    refine r_last (dc_L_chain 7 rfl) e0 ?_
    refine r_goto (dc_L_chain 8 rfl) (tgt := 17) (by decide) ?_
    refine r_iconst (dc_L_chain 12 rfl) kiconst_0 ?_
    cases h
    exact r_ireturn (dc_L_chain 13 rfl) rfl
  by_cases c0 : E0 = "java/lang/IndexOutOfBoundsException"
  · subst c0
    rw [if_pos rfl] at h
    cases h
    exact r_callVC [] (0, 10, 13, 22) [] (dc_L_chain 5 rfl) mv_X9_chain ml_RL_123 (As := [.int xa1, .int xa2]) (t_X9_chain (d := d - 1) hl (by omega) e0) (by omega) rfl (Nat.le_of_ble_eq_true rfl) (by decide) rfl (fun z hz => by cases hz) rfl (by decide) cl_RL_22 ca_IndexOutOfBoundsException (Or.inl ⟨(dc_L_chain 9 rfl), rfl⟩) (by decide) (dc_L_chain 10 rfl) kiconst_1 (dc_L_chain 11 rfl) rfl
  rw [if_neg c0] at h
  cases h
theorem t_L_between {G : Gx} {d : Nat} (hl : G.1.stackTraces = false) (hd : 8 ≤ d) {σ : Sto} {pa0 : Nat} {xa1 : Int32} {xa2 : Int32} {pa3 : Nat} {r : (Int32 × Sto)} (h : F_L_between σ pa0 xa1 xa2 pa3 = some r) : Mt G d m_L_between [.ref pa0, .int xa1, .int xa2, .ref pa3] σ (.inl (some (.int r.1))) r.2 := by
  rw [F_L_between] at h
  refine J.toMtH (lo := [(0, .ref pa0), (1, .int xa1), (2, .int xa2), (3, .ref pa3)]) pn_RL (by decide) hl (Nat.le_of_ble_eq_true rfl) rfl ?_
  refine r_aload_n (dc_L_between 0 rfl) rfl rfl ?_
  refine r_iconst (dc_L_between 1 rfl) kiconst_0 ?_
  refine r_aload_n (dc_L_between 2 rfl) rfl rfl ?_
  refine r_iload_n (dc_L_between 3 rfl) rfl rfl ?_
  refine r_iload_n (dc_L_between 4 rfl) rfl rfl ?_
  rcases tc_some h with ⟨x2, s1, e0, h⟩ | ⟨E0, s1, e0, h⟩
  · refine r_callV (dc_L_between 5 rfl) mv_X9_between ml_RL_126 (As := [.int xa1, .int xa2]) (t_X9_between (d := d - 1) hl (by omega) e0) (by omega) rfl (Nat.le_of_ble_eq_true rfl) ?_
    refine r_i2l (dc_L_between 6 rfl) ?_
    obtain ⟨s3, e0, h⟩ := Option.bind_eq_some_iff.mp h
    refine r_last (dc_L_between 7 rfl) e0 ?_
    refine r_goto (dc_L_between 8 rfl) (tgt := 17) (by decide) ?_
    refine r_iconst (dc_L_between 12 rfl) kiconst_0 ?_
    cases h
    exact r_ireturn (dc_L_between 13 rfl) rfl
  by_cases c0 : E0 = "java/lang/IndexOutOfBoundsException"
  · subst c0
    rw [if_pos rfl] at h
    cases h
    exact r_callVC [] (0, 10, 13, 22) [] (dc_L_between 5 rfl) mv_X9_between ml_RL_126 (As := [.int xa1, .int xa2]) (t_X9_between (d := d - 1) hl (by omega) e0) (by omega) rfl (Nat.le_of_ble_eq_true rfl) (by decide) rfl (fun z hz => by cases hz) rfl (by decide) cl_RL_22 ca_IndexOutOfBoundsException (Or.inl ⟨(dc_L_between 9 rfl), rfl⟩) (by decide) (dc_L_between 10 rfl) kiconst_1 (dc_L_between 11 rfl) rfl
  rw [if_neg c0] at h
  cases h
theorem t_L_front {G : Gx} {d : Nat} (hl : G.1.stackTraces = false) (hd : 8 ≤ d) {σ : Sto} {pa0 : Nat} {xa1 : Int32} {xa2 : Int32} {pa3 : Nat} {r : (Int32 × Sto)} (h : F_L_front σ pa0 xa1 xa2 pa3 = some r) : Mt G d m_L_front [.ref pa0, .int xa1, .int xa2, .ref pa3] σ (.inl (some (.int r.1))) r.2 := by
  rw [F_L_front] at h
  refine J.toMtH (lo := [(0, .ref pa0), (1, .int xa1), (2, .int xa2), (3, .ref pa3)]) pn_RL (by decide) hl (Nat.le_of_ble_eq_true rfl) rfl ?_
  refine r_aload_n (dc_L_front 0 rfl) rfl rfl ?_
  refine r_iconst (dc_L_front 1 rfl) kiconst_0 ?_
  refine r_aload_n (dc_L_front 2 rfl) rfl rfl ?_
  refine r_iload_n (dc_L_front 3 rfl) rfl rfl ?_
  refine r_iload_n (dc_L_front 4 rfl) rfl rfl ?_
  rcases tc_some h with ⟨x2, s1, e0, h⟩ | ⟨E0, s1, e0, h⟩
  · refine r_callV (dc_L_front 5 rfl) mv_X9_front ml_RL_129 (As := [.int xa1, .int xa2]) (t_X9_front (d := d - 1) hl (by omega) e0) (by omega) rfl (Nat.le_of_ble_eq_true rfl) ?_
    refine r_i2l (dc_L_front 6 rfl) ?_
    obtain ⟨s3, e0, h⟩ := Option.bind_eq_some_iff.mp h
    refine r_last (dc_L_front 7 rfl) e0 ?_
    refine r_goto (dc_L_front 8 rfl) (tgt := 17) (by decide) ?_
    refine r_iconst (dc_L_front 12 rfl) kiconst_0 ?_
    cases h
    exact r_ireturn (dc_L_front 13 rfl) rfl
  by_cases c0 : E0 = "java/lang/IndexOutOfBoundsException"
  · subst c0
    rw [if_pos rfl] at h
    cases h
    exact r_callVC [] (0, 10, 13, 22) [] (dc_L_front 5 rfl) mv_X9_front ml_RL_129 (As := [.int xa1, .int xa2]) (t_X9_front (d := d - 1) hl (by omega) e0) (by omega) rfl (Nat.le_of_ble_eq_true rfl) (by decide) rfl (fun z hz => by cases hz) rfl (by decide) cl_RL_22 ca_IndexOutOfBoundsException (Or.inl ⟨(dc_L_front 9 rfl), rfl⟩) (by decide) (dc_L_front 10 rfl) kiconst_1 (dc_L_front 11 rfl) rfl
  rw [if_neg c0] at h
  cases h
theorem t_L_only {G : Gx} {d : Nat} (hl : G.1.stackTraces = false) (hd : 8 ≤ d) {σ : Sto} {pa0 : Nat} {xa1 : Int32} {xa2 : Int32} {xa3 : Int32} {pa4 : Nat} {r : (Int32 × Sto)} (h : F_L_only σ pa0 xa1 xa2 xa3 pa4 = some r) : Mt G d m_L_only [.ref pa0, .int xa1, .int xa2, .int xa3, .ref pa4] σ (.inl (some (.int r.1))) r.2 := by
  rw [F_L_only] at h
  refine J.toMtH (lo := [(0, .ref pa0), (1, .int xa1), (2, .int xa2), (3, .int xa3), (4, .ref pa4)]) pn_RL (by decide) hl (Nat.le_of_ble_eq_true rfl) rfl ?_
  refine r_aload (dc_L_only 0 rfl) rfl ?_
  refine r_iconst (dc_L_only 1 rfl) kiconst_0 ?_
  refine r_aload_n (dc_L_only 2 rfl) rfl rfl ?_
  refine r_iload_n (dc_L_only 3 rfl) rfl rfl ?_
  refine r_iload_n (dc_L_only 4 rfl) rfl rfl ?_
  refine r_iload_n (dc_L_only 5 rfl) rfl rfl ?_
  rcases tc_some h with ⟨x2, s1, e0, h⟩ | ⟨E0, s1, e0, h⟩
  · refine r_callV (dc_L_only 6 rfl) mv_X9_only ml_RL_132 (As := [.int xa1, .int xa2, .int xa3]) (t_X9_only (d := d - 1) hl (by omega) e0) (by omega) rfl (Nat.le_of_ble_eq_true rfl) ?_
    refine r_i2l (dc_L_only 7 rfl) ?_
    obtain ⟨s3, e0, h⟩ := Option.bind_eq_some_iff.mp h
    refine r_last (dc_L_only 8 rfl) e0 ?_
    refine r_goto (dc_L_only 9 rfl) (tgt := 19) (by decide) ?_
    refine r_iconst (dc_L_only 13 rfl) kiconst_0 ?_
    cases h
    exact r_ireturn (dc_L_only 14 rfl) rfl
  by_cases c0 : E0 = "java/lang/IndexOutOfBoundsException"
  · subst c0
    rw [if_pos rfl] at h
    cases h
    exact r_callVC [] (0, 12, 15, 22) [] (dc_L_only 6 rfl) mv_X9_only ml_RL_132 (As := [.int xa1, .int xa2, .int xa3]) (t_X9_only (d := d - 1) hl (by omega) e0) (by omega) rfl (Nat.le_of_ble_eq_true rfl) (by decide) rfl (fun z hz => by cases hz) rfl (by decide) cl_RL_22 ca_IndexOutOfBoundsException (Or.inl ⟨(dc_L_only 10 rfl), rfl⟩) (by decide) (dc_L_only 11 rfl) kiconst_1 (dc_L_only 12 rfl) rfl
  rw [if_neg c0] at h
  cases h
theorem t_L_sure {G : Gx} {d : Nat} (hl : G.1.stackTraces = false) (hd : 8 ≤ d) {σ : Sto} {pa0 : Nat} {xa1 : Int32} {xa2 : Int32} {pa3 : Nat} {r : (Int32 × Sto)} (h : F_L_sure σ pa0 xa1 xa2 pa3 = some r) : Mt G d m_L_sure [.ref pa0, .int xa1, .int xa2, .ref pa3] σ (.inl (some (.int r.1))) r.2 := by
  rw [F_L_sure] at h
  refine J.toMtH (lo := [(0, .ref pa0), (1, .int xa1), (2, .int xa2), (3, .ref pa3)]) pn_RL (by decide) hl (Nat.le_of_ble_eq_true rfl) rfl ?_
  refine r_aload_n (dc_L_sure 0 rfl) rfl rfl ?_
  refine r_iconst (dc_L_sure 1 rfl) kiconst_0 ?_
  refine r_aload_n (dc_L_sure 2 rfl) rfl rfl ?_
  refine r_iload_n (dc_L_sure 3 rfl) rfl rfl ?_
  refine r_iload_n (dc_L_sure 4 rfl) rfl rfl ?_
  rcases tc_some h with ⟨x2, s1, e0, h⟩ | ⟨E0, s1, e0, h⟩
  · refine r_callV (dc_L_sure 5 rfl) mv_X9_sure ml_RL_135 (As := [.int xa1, .int xa2]) (t_X9_sure (d := d - 1) hl (by omega) e0) (by omega) rfl (Nat.le_of_ble_eq_true rfl) ?_
    refine r_i2l (dc_L_sure 6 rfl) ?_
    obtain ⟨s3, e0, h⟩ := Option.bind_eq_some_iff.mp h
    refine r_last (dc_L_sure 7 rfl) e0 ?_
    refine r_goto (dc_L_sure 8 rfl) (tgt := 21) (by decide) ?_
    refine r_iconst (dc_L_sure 15 rfl) kiconst_0 ?_
    cases h
    exact r_ireturn (dc_L_sure 16 rfl) rfl
  by_cases c0 : E0 = "java/lang/IndexOutOfBoundsException"
  · subst c0
    rw [if_pos rfl] at h
    cases h
    exact r_callVC [] (0, 10, 13, 22) [(0, 10, 17, 13)] (dc_L_sure 5 rfl) mv_X9_sure ml_RL_135 (As := [.int xa1, .int xa2]) (t_X9_sure (d := d - 1) hl (by omega) e0) (by omega) rfl (Nat.le_of_ble_eq_true rfl) (by decide) rfl (fun z hz => by cases hz) rfl (by decide) cl_RL_22 ca_IndexOutOfBoundsException (Or.inl ⟨(dc_L_sure 9 rfl), rfl⟩) (by decide) (dc_L_sure 10 rfl) kiconst_1 (dc_L_sure 11 rfl) rfl
  by_cases c1 : E0 = "java/lang/IllegalArgumentException"
  · subst c1
    rw [if_neg (by decide), if_pos rfl] at h
    cases h
    exact r_callVC [(0, 10, 13, 22)] (0, 10, 17, 13) [] (dc_L_sure 5 rfl) mv_X9_sure ml_RL_135 (As := [.int xa1, .int xa2]) (t_X9_sure (d := d - 1) hl (by omega) e0) (by omega) rfl (Nat.le_of_ble_eq_true rfl) (by decide) rfl (fun z hz => by simp only [List.mem_cons, List.not_mem_nil, or_false] at hz; rcases hz with rfl <;> first | exact ⟨by decide, "java/lang/IndexOutOfBoundsException", by decide, by decide, cl_RL_22⟩) rfl (by decide) cl_RL_13 ca_IllegalArgumentException (Or.inl ⟨(dc_L_sure 12 rfl), rfl⟩) (by decide) (dc_L_sure 13 rfl) kiconst_2 (dc_L_sure 14 rfl) rfl
  rw [if_neg c0, if_neg c1] at h
  cases h
theorem t_L_part {G : Gx} {d : Nat} (hl : G.1.stackTraces = false) (hd : 8 ≤ d) {σ : Sto} {pa0 : Nat} {xa1 : Int32} {pa2 : Nat} {r : (Int32 × Sto)} (h : F_L_part σ pa0 xa1 pa2 = some r) : Mt G d m_L_part [.ref pa0, .int xa1, .ref pa2] σ (.inl (some (.int r.1))) r.2 := by
  rw [F_L_part] at h
  refine J.toMtH (lo := [(0, .ref pa0), (1, .int xa1), (2, .ref pa2)]) pn_RL (by decide) hl (Nat.le_of_ble_eq_true rfl) rfl ?_
  refine r_aload_n (dc_L_part 0 rfl) rfl rfl ?_
  refine r_iconst (dc_L_part 1 rfl) kiconst_0 ?_
  refine r_aload_n (dc_L_part 2 rfl) rfl rfl ?_
  refine r_iload_n (dc_L_part 3 rfl) rfl rfl ?_
  rcases tc_some h with ⟨x2, s1, e0, h⟩ | ⟨E0, s1, e0, h⟩
  · refine r_callV (dc_L_part 4 rfl) mv_X9_part ml_RL_138 (As := [.int xa1]) (t_X9_part (d := d - 1) hl (by omega) e0) (by omega) rfl (Nat.le_of_ble_eq_true rfl) ?_
    refine r_i2l (dc_L_part 5 rfl) ?_
    obtain ⟨s3, e0, h⟩ := Option.bind_eq_some_iff.mp h
    refine r_last (dc_L_part 6 rfl) e0 ?_
    refine r_goto (dc_L_part 7 rfl) (tgt := 15) (by decide) ?_
    refine r_iconst (dc_L_part 11 rfl) kiconst_0 ?_
    cases h
    exact r_ireturn (dc_L_part 12 rfl) rfl
  by_cases c0 : E0 = "java/lang/IndexOutOfBoundsException"
  · subst c0
    rw [if_pos rfl] at h
    cases h
    exact r_callVC [] (0, 9, 12, 22) [] (dc_L_part 4 rfl) mv_X9_part ml_RL_138 (As := [.int xa1]) (t_X9_part (d := d - 1) hl (by omega) e0) (by omega) rfl (Nat.le_of_ble_eq_true rfl) (by decide) rfl (fun z hz => by cases hz) rfl (by decide) cl_RL_22 ca_IndexOutOfBoundsException (Or.inr ⟨3, (dc_L_part 8 rfl), rfl, rfl⟩) (by decide) (dc_L_part 9 rfl) kiconst_1 (dc_L_part 10 rfl) rfl
  rw [if_neg c0] at h
  cases h
theorem t_L_trace {G : Gx} {d : Nat} (hl : G.1.stackTraces = false) (hd : 8 ≤ d) {σ : Sto} {pa0 : Nat} {xa1 : Int32} {xa2 : Int32} {pa3 : Nat} {r : (Int32 × Sto)} (h : F_L_trace σ pa0 xa1 xa2 pa3 = some r) : Mt G d m_L_trace [.ref pa0, .int xa1, .int xa2, .ref pa3] σ (.inl (some (.int r.1))) r.2 := by
  rw [F_L_trace] at h
  refine J.toMtH (lo := [(0, .ref pa0), (1, .int xa1), (2, .int xa2), (3, .ref pa3)]) pn_RL (by decide) hl (Nat.le_of_ble_eq_true rfl) rfl ?_
  refine r_aload_n (dc_L_trace 0 rfl) rfl rfl ?_
  refine r_iconst (dc_L_trace 1 rfl) kiconst_0 ?_
  refine r_aload_n (dc_L_trace 2 rfl) rfl rfl ?_
  refine r_iload_n (dc_L_trace 3 rfl) rfl rfl ?_
  refine r_iload_n (dc_L_trace 4 rfl) rfl rfl ?_
  rcases tc_some h with ⟨x2, s1, e0, h⟩ | ⟨E0, s1, e0, h⟩
  · refine r_callV (dc_L_trace 5 rfl) mv_X9_trace ml_RL_141 (As := [.int xa1, .int xa2]) (t_X9_trace (d := d - 1) hl (by omega) e0) (by omega) rfl (Nat.le_of_ble_eq_true rfl) ?_
    refine r_i2l (dc_L_trace 6 rfl) ?_
    obtain ⟨s3, e0, h⟩ := Option.bind_eq_some_iff.mp h
    refine r_last (dc_L_trace 7 rfl) e0 ?_
    refine r_goto (dc_L_trace 8 rfl) (tgt := 21) (by decide) ?_
    refine r_iconst (dc_L_trace 15 rfl) kiconst_0 ?_
    cases h
    exact r_ireturn (dc_L_trace 16 rfl) rfl
  by_cases c0 : E0 = "java/util/NoSuchElementException"
  · subst c0
    rw [if_pos rfl] at h
    cases h
    exact r_callVC [] (0, 10, 13, 29) [(0, 10, 17, 13)] (dc_L_trace 5 rfl) mv_X9_trace ml_RL_141 (As := [.int xa1, .int xa2]) (t_X9_trace (d := d - 1) hl (by omega) e0) (by omega) rfl (Nat.le_of_ble_eq_true rfl) (by decide) rfl (fun z hz => by cases hz) rfl (by decide) cl_RL_29 ca_NoSuchElementException (Or.inl ⟨(dc_L_trace 9 rfl), rfl⟩) (by decide) (dc_L_trace 10 rfl) kiconst_1 (dc_L_trace 11 rfl) rfl
  by_cases c1 : E0 = "java/lang/IllegalArgumentException"
  · subst c1
    rw [if_neg (by decide), if_pos rfl] at h
    cases h
    exact r_callVC [(0, 10, 13, 29)] (0, 10, 17, 13) [] (dc_L_trace 5 rfl) mv_X9_trace ml_RL_141 (As := [.int xa1, .int xa2]) (t_X9_trace (d := d - 1) hl (by omega) e0) (by omega) rfl (Nat.le_of_ble_eq_true rfl) (by decide) rfl (fun z hz => by simp only [List.mem_cons, List.not_mem_nil, or_false] at hz; rcases hz with rfl <;> first | exact ⟨by decide, "java/util/NoSuchElementException", by decide, by decide, cl_RL_29⟩) rfl (by decide) cl_RL_13 ca_IllegalArgumentException (Or.inl ⟨(dc_L_trace 12 rfl), rfl⟩) (by decide) (dc_L_trace 13 rfl) kiconst_2 (dc_L_trace 14 rfl) rfl
  rw [if_neg c0, if_neg c1] at h
  cases h
theorem t_L_gossip {G : Gx} {d : Nat} (hl : G.1.stackTraces = false) (hd : 8 ≤ d) {σ : Sto} {pa0 : Nat} {xa1 : Int32} {pa2 : Nat} {r : (Int32 × Sto)} (h : F_L_gossip σ pa0 xa1 pa2 = some r) : Mt G d m_L_gossip [.ref pa0, .int xa1, .ref pa2] σ (.inl (some (.int r.1))) r.2 := by
  rw [F_L_gossip] at h
  refine J.toMtH (lo := [(0, .ref pa0), (1, .int xa1), (2, .ref pa2)]) pn_RL (by decide) hl (Nat.le_of_ble_eq_true rfl) rfl ?_
  refine r_aload_n (dc_L_gossip 0 rfl) rfl rfl ?_
  refine r_iconst (dc_L_gossip 1 rfl) kiconst_0 ?_
  refine r_aload_n (dc_L_gossip 2 rfl) rfl rfl ?_
  refine r_iload_n (dc_L_gossip 3 rfl) rfl rfl ?_
  rcases tc_some h with ⟨x2, s1, e0, h⟩ | ⟨E0, s1, e0, h⟩
  · refine r_callV (dc_L_gossip 4 rfl) mv_X9_gossip ml_RL_144 (As := [.int xa1]) (t_X9_gossip (d := d - 1) hl (by omega) e0) (by omega) rfl (Nat.le_of_ble_eq_true rfl) ?_
    refine r_i2l (dc_L_gossip 5 rfl) ?_
    obtain ⟨s3, e0, h⟩ := Option.bind_eq_some_iff.mp h
    refine r_last (dc_L_gossip 6 rfl) e0 ?_
    refine r_goto (dc_L_gossip 7 rfl) (tgt := 15) (by decide) ?_
    refine r_iconst (dc_L_gossip 11 rfl) kiconst_0 ?_
    cases h
    exact r_ireturn (dc_L_gossip 12 rfl) rfl
  by_cases c0 : E0 = "java/lang/IllegalArgumentException"
  · subst c0
    rw [if_pos rfl] at h
    cases h
    exact r_callVC [] (0, 9, 12, 13) [] (dc_L_gossip 4 rfl) mv_X9_gossip ml_RL_144 (As := [.int xa1]) (t_X9_gossip (d := d - 1) hl (by omega) e0) (by omega) rfl (Nat.le_of_ble_eq_true rfl) (by decide) rfl (fun z hz => by cases hz) rfl (by decide) cl_RL_13 ca_IllegalArgumentException (Or.inr ⟨3, (dc_L_gossip 8 rfl), rfl, rfl⟩) (by decide) (dc_L_gossip 9 rfl) kiconst_1 (dc_L_gossip 10 rfl) rfl
  rw [if_neg c0] at h
  cases h
theorem t_L_falling {G : Gx} {d : Nat} (hl : G.1.stackTraces = false) (hd : 9 ≤ d) {σ : Sto} {pa0 : Nat} {xa1 : Int32} {xa2 : Int32} {pa3 : Nat} {r : (Int32 × Sto)} (h : F_L_falling σ pa0 xa1 xa2 pa3 = some r) : Mt G d m_L_falling [.ref pa0, .int xa1, .int xa2, .ref pa3] σ (.inl (some (.int r.1))) r.2 := by
  rw [F_L_falling] at h
  refine J.toMtH (lo := [(0, .ref pa0), (1, .int xa1), (2, .int xa2), (3, .ref pa3)]) pn_RL (by decide) hl (Nat.le_of_ble_eq_true rfl) rfl ?_
  refine r_aload_n (dc_L_falling 0 rfl) rfl rfl ?_
  refine r_iconst (dc_L_falling 1 rfl) kiconst_0 ?_
  refine r_aload_n (dc_L_falling 2 rfl) rfl rfl ?_
  refine r_iload_n (dc_L_falling 3 rfl) rfl rfl ?_
  refine r_iload_n (dc_L_falling 4 rfl) rfl rfl ?_
  rcases tc_some h with ⟨x2, s1, e0, h⟩ | ⟨E0, s1, e0, h⟩
  · refine r_callV (dc_L_falling 5 rfl) mv_X9_falling ml_RL_147 (As := [.int xa1, .int xa2]) (t_X9_falling (d := d - 1) hl (by omega) e0) (by omega) rfl (Nat.le_of_ble_eq_true rfl) ?_
    refine r_i2l (dc_L_falling 6 rfl) ?_
    obtain ⟨s3, e0, h⟩ := Option.bind_eq_some_iff.mp h
    refine r_last (dc_L_falling 7 rfl) e0 ?_
    refine r_goto (dc_L_falling 8 rfl) (tgt := 21) (by decide) ?_
    refine r_iconst (dc_L_falling 15 rfl) kiconst_0 ?_
    cases h
    exact r_ireturn (dc_L_falling 16 rfl) rfl
  by_cases c0 : E0 = "java/lang/IndexOutOfBoundsException"
  · subst c0
    rw [if_pos rfl] at h
    cases h
    exact r_callVC [] (0, 10, 13, 22) [(0, 10, 17, 13)] (dc_L_falling 5 rfl) mv_X9_falling ml_RL_147 (As := [.int xa1, .int xa2]) (t_X9_falling (d := d - 1) hl (by omega) e0) (by omega) rfl (Nat.le_of_ble_eq_true rfl) (by decide) rfl (fun z hz => by cases hz) rfl (by decide) cl_RL_22 ca_IndexOutOfBoundsException (Or.inl ⟨(dc_L_falling 9 rfl), rfl⟩) (by decide) (dc_L_falling 10 rfl) kiconst_1 (dc_L_falling 11 rfl) rfl
  by_cases c1 : E0 = "java/lang/IllegalArgumentException"
  · subst c1
    rw [if_neg (by decide), if_pos rfl] at h
    cases h
    exact r_callVC [(0, 10, 13, 22)] (0, 10, 17, 13) [] (dc_L_falling 5 rfl) mv_X9_falling ml_RL_147 (As := [.int xa1, .int xa2]) (t_X9_falling (d := d - 1) hl (by omega) e0) (by omega) rfl (Nat.le_of_ble_eq_true rfl) (by decide) rfl (fun z hz => by simp only [List.mem_cons, List.not_mem_nil, or_false] at hz; rcases hz with rfl <;> first | exact ⟨by decide, "java/lang/IndexOutOfBoundsException", by decide, by decide, cl_RL_22⟩) rfl (by decide) cl_RL_13 ca_IllegalArgumentException (Or.inl ⟨(dc_L_falling 12 rfl), rfl⟩) (by decide) (dc_L_falling 13 rfl) kiconst_2 (dc_L_falling 14 rfl) rfl
  rw [if_neg c0, if_neg c1] at h
  cases h
theorem t_L_joining {G : Gx} {d : Nat} (hl : G.1.stackTraces = false) (hd : 9 ≤ d) {σ : Sto} {pa0 : Nat} {xa1 : Int32} {xa2 : Int32} {xa3 : Int32} {pa4 : Nat} {r : (Int32 × Sto)} (h : F_L_joining σ pa0 xa1 xa2 xa3 pa4 = some r) : Mt G d m_L_joining [.ref pa0, .int xa1, .int xa2, .int xa3, .ref pa4] σ (.inl (some (.int r.1))) r.2 := by
  rw [F_L_joining] at h
  refine J.toMtH (lo := [(0, .ref pa0), (1, .int xa1), (2, .int xa2), (3, .int xa3), (4, .ref pa4)]) pn_RL (by decide) hl (Nat.le_of_ble_eq_true rfl) rfl ?_
  refine r_aload (dc_L_joining 0 rfl) rfl ?_
  refine r_iconst (dc_L_joining 1 rfl) kiconst_0 ?_
  refine r_aload_n (dc_L_joining 2 rfl) rfl rfl ?_
  refine r_iload_n (dc_L_joining 3 rfl) rfl rfl ?_
  refine r_iload_n (dc_L_joining 4 rfl) rfl rfl ?_
  refine r_iload_n (dc_L_joining 5 rfl) rfl rfl ?_
  rcases tc_some h with ⟨x2, s1, e0, h⟩ | ⟨E0, s1, e0, h⟩
  · refine r_callV (dc_L_joining 6 rfl) mv_X9_joining ml_RL_150 (As := [.int xa1, .int xa2, .int xa3]) (t_X9_joining (d := d - 1) hl (by omega) e0) (by omega) rfl (Nat.le_of_ble_eq_true rfl) ?_
    refine r_i2l (dc_L_joining 7 rfl) ?_
    obtain ⟨s3, e0, h⟩ := Option.bind_eq_some_iff.mp h
    refine r_last (dc_L_joining 8 rfl) e0 ?_
    refine r_goto (dc_L_joining 9 rfl) (tgt := 23) (by decide) ?_
    refine r_iconst (dc_L_joining 16 rfl) kiconst_0 ?_
    cases h
    exact r_ireturn (dc_L_joining 17 rfl) rfl
  by_cases c0 : E0 = "java/lang/IndexOutOfBoundsException"
  · subst c0
    rw [if_pos rfl] at h
    cases h
    exact r_callVC [] (0, 12, 15, 22) [(0, 12, 19, 13)] (dc_L_joining 6 rfl) mv_X9_joining ml_RL_150 (As := [.int xa1, .int xa2, .int xa3]) (t_X9_joining (d := d - 1) hl (by omega) e0) (by omega) rfl (Nat.le_of_ble_eq_true rfl) (by decide) rfl (fun z hz => by cases hz) rfl (by decide) cl_RL_22 ca_IndexOutOfBoundsException (Or.inl ⟨(dc_L_joining 10 rfl), rfl⟩) (by decide) (dc_L_joining 11 rfl) kiconst_1 (dc_L_joining 12 rfl) rfl
  by_cases c1 : E0 = "java/lang/IllegalArgumentException"
  · subst c1
    rw [if_neg (by decide), if_pos rfl] at h
    cases h
    exact r_callVC [(0, 12, 15, 22)] (0, 12, 19, 13) [] (dc_L_joining 6 rfl) mv_X9_joining ml_RL_150 (As := [.int xa1, .int xa2, .int xa3]) (t_X9_joining (d := d - 1) hl (by omega) e0) (by omega) rfl (Nat.le_of_ble_eq_true rfl) (by decide) rfl (fun z hz => by simp only [List.mem_cons, List.not_mem_nil, or_false] at hz; rcases hz with rfl <;> first | exact ⟨by decide, "java/lang/IndexOutOfBoundsException", by decide, by decide, cl_RL_22⟩) rfl (by decide) cl_RL_13 ca_IllegalArgumentException (Or.inl ⟨(dc_L_joining 13 rfl), rfl⟩) (by decide) (dc_L_joining 14 rfl) kiconst_2 (dc_L_joining 15 rfl) rfl
  rw [if_neg c0, if_neg c1] at h
  cases h
theorem t_L_best {G : Gx} {d : Nat} (hl : G.1.stackTraces = false) (hd : 8 ≤ d) {σ : Sto} {pa0 : Nat} {xa1 : Int32} {pa2 : Nat} {r : (Int32 × Sto)} (h : F_L_best σ pa0 xa1 pa2 = some r) : Mt G d m_L_best [.ref pa0, .int xa1, .ref pa2] σ (.inl (some (.int r.1))) r.2 := by
  rw [F_L_best] at h
  refine J.toMtH (lo := [(0, .ref pa0), (1, .int xa1), (2, .ref pa2)]) pn_RL (by decide) hl (Nat.le_of_ble_eq_true rfl) rfl ?_
  refine r_aload_n (dc_L_best 0 rfl) rfl rfl ?_
  refine r_iconst (dc_L_best 1 rfl) kiconst_0 ?_
  refine r_aload_n (dc_L_best 2 rfl) rfl rfl ?_
  refine r_iload_n (dc_L_best 3 rfl) rfl rfl ?_
  rcases tc_some h with ⟨x2, s1, e0, h⟩ | ⟨E0, s1, e0, h⟩
  · refine r_callV (dc_L_best 4 rfl) mv_X9_best ml_RL_153 (As := [.int xa1]) (t_X9_best (d := d - 1) hl (by omega) e0) (by omega) rfl (Nat.le_of_ble_eq_true rfl) ?_
    refine r_i2l (dc_L_best 5 rfl) ?_
    obtain ⟨s3, e0, h⟩ := Option.bind_eq_some_iff.mp h
    refine r_last (dc_L_best 6 rfl) e0 ?_
    refine r_goto (dc_L_best 7 rfl) (tgt := 15) (by decide) ?_
    refine r_iconst (dc_L_best 11 rfl) kiconst_0 ?_
    cases h
    exact r_ireturn (dc_L_best 12 rfl) rfl
  by_cases c0 : E0 = "java/lang/IndexOutOfBoundsException"
  · subst c0
    rw [if_pos rfl] at h
    cases h
    exact r_callVC [] (0, 9, 12, 22) [] (dc_L_best 4 rfl) mv_X9_best ml_RL_153 (As := [.int xa1]) (t_X9_best (d := d - 1) hl (by omega) e0) (by omega) rfl (Nat.le_of_ble_eq_true rfl) (by decide) rfl (fun z hz => by cases hz) rfl (by decide) cl_RL_22 ca_IndexOutOfBoundsException (Or.inr ⟨3, (dc_L_best 8 rfl), rfl, rfl⟩) (by decide) (dc_L_best 9 rfl) kiconst_1 (dc_L_best 10 rfl) rfl
  rw [if_neg c0] at h
  cases h
theorem l_L_law_C0 {G : Gx} {d : Nat} (hl : G.1.stackTraces = false) (hd : 15 ≤ d) {pC1 : Nat} {pC2 : Nat} {pC3 : Nat} {xC4 : Int32} {sC : Sto} {r : (Int32 × Sto)} {kJ : Sto → Option (Int32 × Sto)} (hkJ : ∀ (sJ : Sto), kJ sJ = some r → J G d m_L_law 3394 [(0, .ref 0), (1, .ref pC1), (2, .ref pC2), (3, .ref pC3), (4, .int xC4)] [] sJ (.inl (some (.int r.1))) r.2) (h : F_L_law_C0 G.sl G.sx pC1 pC2 pC3 xC4 sC kJ = some r) : J G d m_L_law 236 [(0, .ref 0), (1, .ref pC1), (2, .ref pC2), (3, .ref pC3), (4, .int xC4)] [] sC (.inl (some (.int r.1))) r.2 := by
  rw [F_L_law_C0] at h
  refine r_aload_n (dc_L_law_0 25 rfl) rfl rfl ?_
  refine r_aload_n (dc_L_law_0 26 rfl) rfl rfl ?_
  refine r_iload (dc_L_law_0 27 rfl) rfl ?_
  refine r_iconst (dc_L_law_0 28 rfl) kiconst_1 ?_
  refine r_iadd (dc_L_law_0 29 rfl) ?_
  obtain ⟨x10, e0, h⟩ := Option.bind_eq_some_iff.mp h
  obtain ⟨hin, ex⟩ := sld_some e0
  refine r_sld (dc_L_law_0 30 rfl) hin ?_
  rw [← ex]
  refine r_aload_n (dc_L_law_0 31 rfl) rfl rfl ?_
  obtain ⟨x12, s11, e0, h⟩ := wb_some h
  refine r_callSH (dc_L_law_0 32 rfl) mh_L_sites ml_RL_160 (As := [.ref pC1, .int x10, .ref pC3]) (t_L_sites (d := d - 1) hl (by omega) e0) (by omega) rfl (Nat.le_of_ble_eq_true rfl) ?_
  refine r_istore (dc_L_law_0 33 rfl) (by decide) (lo' := [(5, .int x12), (0, .ref 0), (1, .ref pC1), (2, .ref pC2), (3, .ref pC3), (4, .int xC4)]) rfl ?_
  refine r_aload_n (dc_L_law_0 34 rfl) rfl rfl ?_
  refine r_aload_n (dc_L_law_0 35 rfl) rfl rfl ?_
  refine r_iload (dc_L_law_0 36 rfl) rfl ?_
  refine r_iconst (dc_L_law_0 37 rfl) kiconst_1 ?_
  refine r_iadd (dc_L_law_0 38 rfl) ?_
  obtain ⟨x13, e0, h⟩ := Option.bind_eq_some_iff.mp h
  obtain ⟨hin, ex⟩ := sld_some e0
  refine r_sld (dc_L_law_0 39 rfl) hin ?_
  rw [← ex]
  obtain ⟨x15, s14, e0, h⟩ := wb_some h
  refine r_callV (dc_L_law_0 40 rfl) mv_X10_sites ml_RL_165 (As := [.int x13]) (t_X10_sites (d := d - 1) hl (by omega) e0) (by omega) rfl (Nat.le_of_ble_eq_true rfl) ?_
  refine r_istore (dc_L_law_0 41 rfl) (by decide) (lo' := [(6, .int x15), (5, .int x12), (0, .ref 0), (1, .ref pC1), (2, .ref pC2), (3, .ref pC3), (4, .int xC4)]) rfl ?_
  refine r_aload_n (dc_L_law_0 42 rfl) rfl rfl ?_
  obtain ⟨x16, e0, h⟩ := Option.bind_eq_some_iff.mp h
  refine r_callV (dc_L_law_0 43 rfl) mv_X10_thrown ml_RL_166 (As := []) (t_X10_thrown (d := d - 1) hl (by omega) e0) (by omega) rfl (Nat.le_of_ble_eq_true rfl) ?_
  refine r_iload (dc_L_law_0 44 rfl) rfl ?_
  refine r_icmp_eq (dc_L_law_0 45 rfl) (tgt := 272) (by decide) (fun c0 => ?_) (fun c0 => ?_)
  · rw [if_pos c0] at h
    refine r_iload (dc_L_law_0 48 rfl) rfl ?_
    refine r_if_ne (dc_L_law_0 49 rfl) (tgt := 289) (by decide) (fun c0 => ?_) (fun c0 => ?_)
    · rw [if_neg c0] at h
      refine r_goto (dc_L_law_0 59 rfl) (tgt := 3394) (by decide) ?_
      refine r_pick [2, 3, 4, 5, 6] (lo' := [(0, .ref 0), (1, .ref pC1), (2, .ref pC2), (3, .ref pC3), (4, .int xC4)]) rfl ?_
      exact hkJ _ h
    · rw [if_pos c0] at h
      refine r_aload_n (dc_L_law_0 50 rfl) rfl rfl ?_
      refine r_iconst (dc_L_law_0 51 rfl) kiconst_0 ?_
      obtain ⟨y17, e0, h⟩ := Option.bind_eq_some_iff.mp h
      refine r_lald (dc_L_law_0 52 rfl) e0 ?_
      refine r_iload (dc_L_law_0 53 rfl) rfl ?_
      refine r_i2l (dc_L_law_0 54 rfl) ?_
      refine r_lcmp (dc_L_law_0 55 rfl) ?_
      refine r_if_eq (dc_L_law_0 56 rfl) (tgt := 289) (by decide) (fun c0 => ?_) (fun c0 => ?_)
      · rw [if_pos c0] at h
        refine r_goto (dc_L_law_0 59 rfl) (tgt := 3394) (by decide) ?_
        refine r_pick [2, 3, 4, 5, 6] (lo' := [(0, .ref 0), (1, .ref pC1), (2, .ref pC2), (3, .ref pC3), (4, .int xC4)]) rfl ?_
        exact hkJ _ h
      · rw [if_neg c0] at h
        refine r_iconst (dc_L_law_0 57 rfl) kiconst_0 ?_
        cases h
        exact r_zreturn (dc_L_law_0 58 rfl) rfl (Or.inl rfl)
  · rw [if_neg c0] at h
    refine r_iconst (dc_L_law_0 46 rfl) kiconst_0 ?_
    cases h
    exact r_zreturn (dc_L_law_0 47 rfl) rfl (Or.inl rfl)
theorem l_L_law_C1 {G : Gx} {d : Nat} (hl : G.1.stackTraces = false) (hd : 15 ≤ d) {pC1 : Nat} {pC2 : Nat} {pC3 : Nat} {xC4 : Int32} {sC : Sto} {r : (Int32 × Sto)} {kJ : Sto → Option (Int32 × Sto)} (hkJ : ∀ (sJ : Sto), kJ sJ = some r → J G d m_L_law 3394 [(0, .ref 0), (1, .ref pC1), (2, .ref pC2), (3, .ref pC3), (4, .int xC4)] [] sJ (.inl (some (.int r.1))) r.2) (h : F_L_law_C1 G.sl G.sx pC1 pC2 pC3 xC4 sC kJ = some r) : J G d m_L_law 292 [(0, .ref 0), (1, .ref pC1), (2, .ref pC2), (3, .ref pC3), (4, .int xC4)] [] sC (.inl (some (.int r.1))) r.2 := by
  rw [F_L_law_C1] at h
  refine r_aload_n (dc_L_law_0 60 rfl) rfl rfl ?_
  refine r_aload_n (dc_L_law_0 61 rfl) rfl rfl ?_
  refine r_iload (dc_L_law_0 62 rfl) rfl ?_
  refine r_iconst (dc_L_law_0 63 rfl) kiconst_1 ?_
  refine r_iadd (dc_L_law_1 0 rfl) ?_
  obtain ⟨x18, e0, h⟩ := Option.bind_eq_some_iff.mp h
  obtain ⟨hin, ex⟩ := sld_some e0
  refine r_sld (dc_L_law_1 1 rfl) hin ?_
  rw [← ex]
  refine r_aload_n (dc_L_law_1 2 rfl) rfl rfl ?_
  obtain ⟨x20, s19, e0, h⟩ := wb_some h
  refine r_callSH (dc_L_law_1 3 rfl) mh_L_mode ml_RL_170 (As := [.ref pC1, .int x18, .ref pC3]) (t_L_mode (d := d - 1) hl (by omega) e0) (by omega) rfl (Nat.le_of_ble_eq_true rfl) ?_
  refine r_istore (dc_L_law_1 4 rfl) (by decide) (lo' := [(5, .int x20), (0, .ref 0), (1, .ref pC1), (2, .ref pC2), (3, .ref pC3), (4, .int xC4)]) rfl ?_
  refine r_aload_n (dc_L_law_1 5 rfl) rfl rfl ?_
  refine r_aload_n (dc_L_law_1 6 rfl) rfl rfl ?_
  refine r_iload (dc_L_law_1 7 rfl) rfl ?_
  refine r_iconst (dc_L_law_1 8 rfl) kiconst_1 ?_
  refine r_iadd (dc_L_law_1 9 rfl) ?_
  obtain ⟨x21, e0, h⟩ := Option.bind_eq_some_iff.mp h
  obtain ⟨hin, ex⟩ := sld_some e0
  refine r_sld (dc_L_law_1 10 rfl) hin ?_
  rw [← ex]
  obtain ⟨x23, s22, e0, h⟩ := wb_some h
  refine r_callV (dc_L_law_1 11 rfl) mv_X10_mode ml_RL_172 (As := [.int x21]) (t_X10_mode (d := d - 1) hl (by omega) e0) (by omega) rfl (Nat.le_of_ble_eq_true rfl) ?_
  refine r_istore (dc_L_law_1 12 rfl) (by decide) (lo' := [(6, .int x23), (5, .int x20), (0, .ref 0), (1, .ref pC1), (2, .ref pC2), (3, .ref pC3), (4, .int xC4)]) rfl ?_
  refine r_aload_n (dc_L_law_1 13 rfl) rfl rfl ?_
  obtain ⟨x24, e0, h⟩ := Option.bind_eq_some_iff.mp h
  refine r_callV (dc_L_law_1 14 rfl) mv_X10_thrown ml_RL_166 (As := []) (t_X10_thrown (d := d - 1) hl (by omega) e0) (by omega) rfl (Nat.le_of_ble_eq_true rfl) ?_
  refine r_iload (dc_L_law_1 15 rfl) rfl ?_
  refine r_icmp_eq (dc_L_law_1 16 rfl) (tgt := 328) (by decide) (fun c0 => ?_) (fun c0 => ?_)
  · rw [if_pos c0] at h
    refine r_iload (dc_L_law_1 19 rfl) rfl ?_
    refine r_if_ne (dc_L_law_1 20 rfl) (tgt := 345) (by decide) (fun c0 => ?_) (fun c0 => ?_)
    · rw [if_neg c0] at h
      refine r_goto (dc_L_law_1 30 rfl) (tgt := 3394) (by decide) ?_
      refine r_pick [2, 3, 4, 5, 6] (lo' := [(0, .ref 0), (1, .ref pC1), (2, .ref pC2), (3, .ref pC3), (4, .int xC4)]) rfl ?_
      exact hkJ _ h
    · rw [if_pos c0] at h
      refine r_aload_n (dc_L_law_1 21 rfl) rfl rfl ?_
      refine r_iconst (dc_L_law_1 22 rfl) kiconst_0 ?_
      obtain ⟨y25, e0, h⟩ := Option.bind_eq_some_iff.mp h
      refine r_lald (dc_L_law_1 23 rfl) e0 ?_
      refine r_iload (dc_L_law_1 24 rfl) rfl ?_
      refine r_i2l (dc_L_law_1 25 rfl) ?_
      refine r_lcmp (dc_L_law_1 26 rfl) ?_
      refine r_if_eq (dc_L_law_1 27 rfl) (tgt := 345) (by decide) (fun c0 => ?_) (fun c0 => ?_)
      · rw [if_pos c0] at h
        refine r_goto (dc_L_law_1 30 rfl) (tgt := 3394) (by decide) ?_
        refine r_pick [2, 3, 4, 5, 6] (lo' := [(0, .ref 0), (1, .ref pC1), (2, .ref pC2), (3, .ref pC3), (4, .int xC4)]) rfl ?_
        exact hkJ _ h
      · rw [if_neg c0] at h
        refine r_iconst (dc_L_law_1 28 rfl) kiconst_0 ?_
        cases h
        exact r_zreturn (dc_L_law_1 29 rfl) rfl (Or.inl rfl)
  · rw [if_neg c0] at h
    refine r_iconst (dc_L_law_1 17 rfl) kiconst_0 ?_
    cases h
    exact r_zreturn (dc_L_law_1 18 rfl) rfl (Or.inl rfl)
theorem l_L_law_C2 {G : Gx} {d : Nat} (hl : G.1.stackTraces = false) (hd : 15 ≤ d) {pC1 : Nat} {pC2 : Nat} {pC3 : Nat} {xC4 : Int32} {sC : Sto} {r : (Int32 × Sto)} {kJ : Sto → Option (Int32 × Sto)} (hkJ : ∀ (sJ : Sto), kJ sJ = some r → J G d m_L_law 3394 [(0, .ref 0), (1, .ref pC1), (2, .ref pC2), (3, .ref pC3), (4, .int xC4)] [] sJ (.inl (some (.int r.1))) r.2) (h : F_L_law_C2 G.sl G.sx pC1 pC2 pC3 xC4 sC kJ = some r) : J G d m_L_law 348 [(0, .ref 0), (1, .ref pC1), (2, .ref pC2), (3, .ref pC3), (4, .int xC4)] [] sC (.inl (some (.int r.1))) r.2 := by
  rw [F_L_law_C2] at h
  refine r_aload_n (dc_L_law_1 31 rfl) rfl rfl ?_
  refine r_aload_n (dc_L_law_1 32 rfl) rfl rfl ?_
  refine r_iload (dc_L_law_1 33 rfl) rfl ?_
  refine r_iconst (dc_L_law_1 34 rfl) kiconst_1 ?_
  refine r_iadd (dc_L_law_1 35 rfl) ?_
  obtain ⟨x26, e0, h⟩ := Option.bind_eq_some_iff.mp h
  obtain ⟨hin, ex⟩ := sld_some e0
  refine r_sld (dc_L_law_1 36 rfl) hin ?_
  rw [← ex]
  refine r_aload_n (dc_L_law_1 37 rfl) rfl rfl ?_
  refine r_iload (dc_L_law_1 38 rfl) rfl ?_
  refine r_iconst (dc_L_law_1 39 rfl) kiconst_2 ?_
  refine r_iadd (dc_L_law_1 40 rfl) ?_
  obtain ⟨x27, e0, h⟩ := Option.bind_eq_some_iff.mp h
  obtain ⟨hin, ex⟩ := sld_some e0
  refine r_sld (dc_L_law_1 41 rfl) hin ?_
  rw [← ex]
  refine r_aload_n (dc_L_law_1 42 rfl) rfl rfl ?_
  obtain ⟨x29, s28, e0, h⟩ := wb_some h
  refine r_callSH (dc_L_law_1 43 rfl) mh_L_add ml_RL_173 (As := [.ref pC1, .int x26, .int x27, .ref pC3]) (t_L_add (d := d - 1) hl (by omega) e0) (by omega) rfl (Nat.le_of_ble_eq_true rfl) ?_
  refine r_istore (dc_L_law_1 44 rfl) (by decide) (lo' := [(5, .int x29), (0, .ref 0), (1, .ref pC1), (2, .ref pC2), (3, .ref pC3), (4, .int xC4)]) rfl ?_
  refine r_aload_n (dc_L_law_1 45 rfl) rfl rfl ?_
  refine r_aload_n (dc_L_law_1 46 rfl) rfl rfl ?_
  refine r_iload (dc_L_law_1 47 rfl) rfl ?_
  refine r_iconst (dc_L_law_1 48 rfl) kiconst_1 ?_
  refine r_iadd (dc_L_law_1 49 rfl) ?_
  obtain ⟨x30, e0, h⟩ := Option.bind_eq_some_iff.mp h
  obtain ⟨hin, ex⟩ := sld_some e0
  refine r_sld (dc_L_law_1 50 rfl) hin ?_
  rw [← ex]
  refine r_aload_n (dc_L_law_1 51 rfl) rfl rfl ?_
  refine r_iload (dc_L_law_1 52 rfl) rfl ?_
  refine r_iconst (dc_L_law_1 53 rfl) kiconst_2 ?_
  refine r_iadd (dc_L_law_1 54 rfl) ?_
  obtain ⟨x31, e0, h⟩ := Option.bind_eq_some_iff.mp h
  obtain ⟨hin, ex⟩ := sld_some e0
  refine r_sld (dc_L_law_1 55 rfl) hin ?_
  rw [← ex]
  obtain ⟨x33, s32, e0, h⟩ := wb_some h
  refine r_callV (dc_L_law_1 56 rfl) mv_X10_add ml_RL_176 (As := [.int x30, .int x31]) (t_X10_add (d := d - 1) hl (by omega) e0) (by omega) rfl (Nat.le_of_ble_eq_true rfl) ?_
  refine r_istore (dc_L_law_1 57 rfl) (by decide) (lo' := [(6, .int x33), (5, .int x29), (0, .ref 0), (1, .ref pC1), (2, .ref pC2), (3, .ref pC3), (4, .int xC4)]) rfl ?_
  refine r_aload_n (dc_L_law_1 58 rfl) rfl rfl ?_
  obtain ⟨x34, e0, h⟩ := Option.bind_eq_some_iff.mp h
  refine r_callV (dc_L_law_1 59 rfl) mv_X10_thrown ml_RL_166 (As := []) (t_X10_thrown (d := d - 1) hl (by omega) e0) (by omega) rfl (Nat.le_of_ble_eq_true rfl) ?_
  refine r_iload (dc_L_law_1 60 rfl) rfl ?_
  refine r_icmp_eq (dc_L_law_1 61 rfl) (tgt := 396) (by decide) (fun c0 => ?_) (fun c0 => ?_)
  · rw [if_pos c0] at h
    refine r_iload (dc_L_law_2 0 rfl) rfl ?_
    refine r_if_ne (dc_L_law_2 1 rfl) (tgt := 413) (by decide) (fun c0 => ?_) (fun c0 => ?_)
    · rw [if_neg c0] at h
      refine r_goto (dc_L_law_2 11 rfl) (tgt := 3394) (by decide) ?_
      refine r_pick [2, 3, 4, 5, 6] (lo' := [(0, .ref 0), (1, .ref pC1), (2, .ref pC2), (3, .ref pC3), (4, .int xC4)]) rfl ?_
      exact hkJ _ h
    · rw [if_pos c0] at h
      refine r_aload_n (dc_L_law_2 2 rfl) rfl rfl ?_
      refine r_iconst (dc_L_law_2 3 rfl) kiconst_0 ?_
      obtain ⟨y35, e0, h⟩ := Option.bind_eq_some_iff.mp h
      refine r_lald (dc_L_law_2 4 rfl) e0 ?_
      refine r_iload (dc_L_law_2 5 rfl) rfl ?_
      refine r_i2l (dc_L_law_2 6 rfl) ?_
      refine r_lcmp (dc_L_law_2 7 rfl) ?_
      refine r_if_eq (dc_L_law_2 8 rfl) (tgt := 413) (by decide) (fun c0 => ?_) (fun c0 => ?_)
      · rw [if_pos c0] at h
        refine r_goto (dc_L_law_2 11 rfl) (tgt := 3394) (by decide) ?_
        refine r_pick [2, 3, 4, 5, 6] (lo' := [(0, .ref 0), (1, .ref pC1), (2, .ref pC2), (3, .ref pC3), (4, .int xC4)]) rfl ?_
        exact hkJ _ h
      · rw [if_neg c0] at h
        refine r_iconst (dc_L_law_2 9 rfl) kiconst_0 ?_
        cases h
        exact r_zreturn (dc_L_law_2 10 rfl) rfl (Or.inl rfl)
  · rw [if_neg c0] at h
    refine r_iconst (dc_L_law_1 62 rfl) kiconst_0 ?_
    cases h
    exact r_zreturn (dc_L_law_1 63 rfl) rfl (Or.inl rfl)
theorem l_L_law_C3 {G : Gx} {d : Nat} (hl : G.1.stackTraces = false) (hd : 15 ≤ d) {pC1 : Nat} {pC2 : Nat} {pC3 : Nat} {xC4 : Int32} {sC : Sto} {r : (Int32 × Sto)} {kJ : Sto → Option (Int32 × Sto)} (hkJ : ∀ (sJ : Sto), kJ sJ = some r → J G d m_L_law 3394 [(0, .ref 0), (1, .ref pC1), (2, .ref pC2), (3, .ref pC3), (4, .int xC4)] [] sJ (.inl (some (.int r.1))) r.2) (h : F_L_law_C3 G.sl G.sx pC1 pC2 pC3 xC4 sC kJ = some r) : J G d m_L_law 416 [(0, .ref 0), (1, .ref pC1), (2, .ref pC2), (3, .ref pC3), (4, .int xC4)] [] sC (.inl (some (.int r.1))) r.2 := by
  rw [F_L_law_C3] at h
  refine r_aload_n (dc_L_law_2 12 rfl) rfl rfl ?_
  refine r_aload_n (dc_L_law_2 13 rfl) rfl rfl ?_
  refine r_iload (dc_L_law_2 14 rfl) rfl ?_
  refine r_iconst (dc_L_law_2 15 rfl) kiconst_1 ?_
  refine r_iadd (dc_L_law_2 16 rfl) ?_
  obtain ⟨x36, e0, h⟩ := Option.bind_eq_some_iff.mp h
  obtain ⟨hin, ex⟩ := sld_some e0
  refine r_sld (dc_L_law_2 17 rfl) hin ?_
  rw [← ex]
  refine r_aload_n (dc_L_law_2 18 rfl) rfl rfl ?_
  refine r_iload (dc_L_law_2 19 rfl) rfl ?_
  refine r_iconst (dc_L_law_2 20 rfl) kiconst_2 ?_
  refine r_iadd (dc_L_law_2 21 rfl) ?_
  obtain ⟨x37, e0, h⟩ := Option.bind_eq_some_iff.mp h
  obtain ⟨hin, ex⟩ := sld_some e0
  refine r_sld (dc_L_law_2 22 rfl) hin ?_
  rw [← ex]
  refine r_aload_n (dc_L_law_2 23 rfl) rfl rfl ?_
  obtain ⟨x39, s38, e0, h⟩ := wb_some h
  refine r_callSH (dc_L_law_2 24 rfl) mh_L_take ml_RL_177 (As := [.ref pC1, .int x36, .int x37, .ref pC3]) (t_L_take (d := d - 1) hl (by omega) e0) (by omega) rfl (Nat.le_of_ble_eq_true rfl) ?_
  refine r_istore (dc_L_law_2 25 rfl) (by decide) (lo' := [(5, .int x39), (0, .ref 0), (1, .ref pC1), (2, .ref pC2), (3, .ref pC3), (4, .int xC4)]) rfl ?_
  refine r_aload_n (dc_L_law_2 26 rfl) rfl rfl ?_
  refine r_aload_n (dc_L_law_2 27 rfl) rfl rfl ?_
  refine r_iload (dc_L_law_2 28 rfl) rfl ?_
  refine r_iconst (dc_L_law_2 29 rfl) kiconst_1 ?_
  refine r_iadd (dc_L_law_2 30 rfl) ?_
  obtain ⟨x40, e0, h⟩ := Option.bind_eq_some_iff.mp h
  obtain ⟨hin, ex⟩ := sld_some e0
  refine r_sld (dc_L_law_2 31 rfl) hin ?_
  rw [← ex]
  refine r_aload_n (dc_L_law_2 32 rfl) rfl rfl ?_
  refine r_iload (dc_L_law_2 33 rfl) rfl ?_
  refine r_iconst (dc_L_law_2 34 rfl) kiconst_2 ?_
  refine r_iadd (dc_L_law_2 35 rfl) ?_
  obtain ⟨x41, e0, h⟩ := Option.bind_eq_some_iff.mp h
  obtain ⟨hin, ex⟩ := sld_some e0
  refine r_sld (dc_L_law_2 36 rfl) hin ?_
  rw [← ex]
  obtain ⟨x43, s42, e0, h⟩ := wb_some h
  refine r_callV (dc_L_law_2 37 rfl) mv_X10_take ml_RL_179 (As := [.int x40, .int x41]) (t_X10_take (d := d - 1) hl (by omega) e0) (by omega) rfl (Nat.le_of_ble_eq_true rfl) ?_
  refine r_istore (dc_L_law_2 38 rfl) (by decide) (lo' := [(6, .int x43), (5, .int x39), (0, .ref 0), (1, .ref pC1), (2, .ref pC2), (3, .ref pC3), (4, .int xC4)]) rfl ?_
  refine r_aload_n (dc_L_law_2 39 rfl) rfl rfl ?_
  obtain ⟨x44, e0, h⟩ := Option.bind_eq_some_iff.mp h
  refine r_callV (dc_L_law_2 40 rfl) mv_X10_thrown ml_RL_166 (As := []) (t_X10_thrown (d := d - 1) hl (by omega) e0) (by omega) rfl (Nat.le_of_ble_eq_true rfl) ?_
  refine r_iload (dc_L_law_2 41 rfl) rfl ?_
  refine r_icmp_eq (dc_L_law_2 42 rfl) (tgt := 464) (by decide) (fun c0 => ?_) (fun c0 => ?_)
  · rw [if_pos c0] at h
    refine r_iload (dc_L_law_2 45 rfl) rfl ?_
    refine r_if_ne (dc_L_law_2 46 rfl) (tgt := 481) (by decide) (fun c0 => ?_) (fun c0 => ?_)
    · rw [if_neg c0] at h
      refine r_goto (dc_L_law_2 56 rfl) (tgt := 3394) (by decide) ?_
      refine r_pick [2, 3, 4, 5, 6] (lo' := [(0, .ref 0), (1, .ref pC1), (2, .ref pC2), (3, .ref pC3), (4, .int xC4)]) rfl ?_
      exact hkJ _ h
    · rw [if_pos c0] at h
      refine r_aload_n (dc_L_law_2 47 rfl) rfl rfl ?_
      refine r_iconst (dc_L_law_2 48 rfl) kiconst_0 ?_
      obtain ⟨y45, e0, h⟩ := Option.bind_eq_some_iff.mp h
      refine r_lald (dc_L_law_2 49 rfl) e0 ?_
      refine r_iload (dc_L_law_2 50 rfl) rfl ?_
      refine r_i2l (dc_L_law_2 51 rfl) ?_
      refine r_lcmp (dc_L_law_2 52 rfl) ?_
      refine r_if_eq (dc_L_law_2 53 rfl) (tgt := 481) (by decide) (fun c0 => ?_) (fun c0 => ?_)
      · rw [if_pos c0] at h
        refine r_goto (dc_L_law_2 56 rfl) (tgt := 3394) (by decide) ?_
        refine r_pick [2, 3, 4, 5, 6] (lo' := [(0, .ref 0), (1, .ref pC1), (2, .ref pC2), (3, .ref pC3), (4, .int xC4)]) rfl ?_
        exact hkJ _ h
      · rw [if_neg c0] at h
        refine r_iconst (dc_L_law_2 54 rfl) kiconst_0 ?_
        cases h
        exact r_zreturn (dc_L_law_2 55 rfl) rfl (Or.inl rfl)
  · rw [if_neg c0] at h
    refine r_iconst (dc_L_law_2 43 rfl) kiconst_0 ?_
    cases h
    exact r_zreturn (dc_L_law_2 44 rfl) rfl (Or.inl rfl)
theorem l_L_law_C4 {G : Gx} {d : Nat} (hl : G.1.stackTraces = false) (hd : 15 ≤ d) {pC1 : Nat} {pC2 : Nat} {pC3 : Nat} {xC4 : Int32} {sC : Sto} {r : (Int32 × Sto)} {kJ : Sto → Option (Int32 × Sto)} (hkJ : ∀ (sJ : Sto), kJ sJ = some r → J G d m_L_law 3394 [(0, .ref 0), (1, .ref pC1), (2, .ref pC2), (3, .ref pC3), (4, .int xC4)] [] sJ (.inl (some (.int r.1))) r.2) (h : F_L_law_C4 G.sl G.sx pC1 pC2 pC3 xC4 sC kJ = some r) : J G d m_L_law 484 [(0, .ref 0), (1, .ref pC1), (2, .ref pC2), (3, .ref pC3), (4, .int xC4)] [] sC (.inl (some (.int r.1))) r.2 := by
  rw [F_L_law_C4] at h
  refine r_aload_n (dc_L_law_2 57 rfl) rfl rfl ?_
  refine r_aload_n (dc_L_law_2 58 rfl) rfl rfl ?_
  refine r_iload (dc_L_law_2 59 rfl) rfl ?_
  refine r_iconst (dc_L_law_2 60 rfl) kiconst_1 ?_
  refine r_iadd (dc_L_law_2 61 rfl) ?_
  obtain ⟨x46, e0, h⟩ := Option.bind_eq_some_iff.mp h
  obtain ⟨hin, ex⟩ := sld_some e0
  refine r_sld (dc_L_law_2 62 rfl) hin ?_
  rw [← ex]
  refine r_aload_n (dc_L_law_2 63 rfl) rfl rfl ?_
  refine r_iload (dc_L_law_3 0 rfl) rfl ?_
  refine r_iconst (dc_L_law_3 1 rfl) kiconst_2 ?_
  refine r_iadd (dc_L_law_3 2 rfl) ?_
  obtain ⟨x47, e0, h⟩ := Option.bind_eq_some_iff.mp h
  obtain ⟨hin, ex⟩ := sld_some e0
  refine r_sld (dc_L_law_3 3 rfl) hin ?_
  rw [← ex]
  refine r_aload_n (dc_L_law_3 4 rfl) rfl rfl ?_
  obtain ⟨x49, s48, e0, h⟩ := wb_some h
  refine r_callSH (dc_L_law_3 5 rfl) mh_L_write ml_RL_180 (As := [.ref pC1, .int x46, .int x47, .ref pC3]) (t_L_write (d := d - 1) hl (by omega) e0) (by omega) rfl (Nat.le_of_ble_eq_true rfl) ?_
  refine r_istore (dc_L_law_3 6 rfl) (by decide) (lo' := [(5, .int x49), (0, .ref 0), (1, .ref pC1), (2, .ref pC2), (3, .ref pC3), (4, .int xC4)]) rfl ?_
  refine r_aload_n (dc_L_law_3 7 rfl) rfl rfl ?_
  refine r_aload_n (dc_L_law_3 8 rfl) rfl rfl ?_
  refine r_iload (dc_L_law_3 9 rfl) rfl ?_
  refine r_iconst (dc_L_law_3 10 rfl) kiconst_1 ?_
  refine r_iadd (dc_L_law_3 11 rfl) ?_
  obtain ⟨x50, e0, h⟩ := Option.bind_eq_some_iff.mp h
  obtain ⟨hin, ex⟩ := sld_some e0
  refine r_sld (dc_L_law_3 12 rfl) hin ?_
  rw [← ex]
  refine r_aload_n (dc_L_law_3 13 rfl) rfl rfl ?_
  refine r_iload (dc_L_law_3 14 rfl) rfl ?_
  refine r_iconst (dc_L_law_3 15 rfl) kiconst_2 ?_
  refine r_iadd (dc_L_law_3 16 rfl) ?_
  obtain ⟨x51, e0, h⟩ := Option.bind_eq_some_iff.mp h
  obtain ⟨hin, ex⟩ := sld_some e0
  refine r_sld (dc_L_law_3 17 rfl) hin ?_
  rw [← ex]
  obtain ⟨x53, s52, e0, h⟩ := wb_some h
  refine r_callV (dc_L_law_3 18 rfl) mv_X10_write ml_RL_182 (As := [.int x50, .int x51]) (t_X10_write (d := d - 1) hl (by omega) e0) (by omega) rfl (Nat.le_of_ble_eq_true rfl) ?_
  refine r_istore (dc_L_law_3 19 rfl) (by decide) (lo' := [(6, .int x53), (5, .int x49), (0, .ref 0), (1, .ref pC1), (2, .ref pC2), (3, .ref pC3), (4, .int xC4)]) rfl ?_
  refine r_aload_n (dc_L_law_3 20 rfl) rfl rfl ?_
  obtain ⟨x54, e0, h⟩ := Option.bind_eq_some_iff.mp h
  refine r_callV (dc_L_law_3 21 rfl) mv_X10_thrown ml_RL_166 (As := []) (t_X10_thrown (d := d - 1) hl (by omega) e0) (by omega) rfl (Nat.le_of_ble_eq_true rfl) ?_
  refine r_iload (dc_L_law_3 22 rfl) rfl ?_
  refine r_icmp_eq (dc_L_law_3 23 rfl) (tgt := 532) (by decide) (fun c0 => ?_) (fun c0 => ?_)
  · rw [if_pos c0] at h
    refine r_iload (dc_L_law_3 26 rfl) rfl ?_
    refine r_if_ne (dc_L_law_3 27 rfl) (tgt := 549) (by decide) (fun c0 => ?_) (fun c0 => ?_)
    · rw [if_neg c0] at h
      refine r_goto (dc_L_law_3 37 rfl) (tgt := 3394) (by decide) ?_
      refine r_pick [2, 3, 4, 5, 6] (lo' := [(0, .ref 0), (1, .ref pC1), (2, .ref pC2), (3, .ref pC3), (4, .int xC4)]) rfl ?_
      exact hkJ _ h
    · rw [if_pos c0] at h
      refine r_aload_n (dc_L_law_3 28 rfl) rfl rfl ?_
      refine r_iconst (dc_L_law_3 29 rfl) kiconst_0 ?_
      obtain ⟨y55, e0, h⟩ := Option.bind_eq_some_iff.mp h
      refine r_lald (dc_L_law_3 30 rfl) e0 ?_
      refine r_iload (dc_L_law_3 31 rfl) rfl ?_
      refine r_i2l (dc_L_law_3 32 rfl) ?_
      refine r_lcmp (dc_L_law_3 33 rfl) ?_
      refine r_if_eq (dc_L_law_3 34 rfl) (tgt := 549) (by decide) (fun c0 => ?_) (fun c0 => ?_)
      · rw [if_pos c0] at h
        refine r_goto (dc_L_law_3 37 rfl) (tgt := 3394) (by decide) ?_
        refine r_pick [2, 3, 4, 5, 6] (lo' := [(0, .ref 0), (1, .ref pC1), (2, .ref pC2), (3, .ref pC3), (4, .int xC4)]) rfl ?_
        exact hkJ _ h
      · rw [if_neg c0] at h
        refine r_iconst (dc_L_law_3 35 rfl) kiconst_0 ?_
        cases h
        exact r_zreturn (dc_L_law_3 36 rfl) rfl (Or.inl rfl)
  · rw [if_neg c0] at h
    refine r_iconst (dc_L_law_3 24 rfl) kiconst_0 ?_
    cases h
    exact r_zreturn (dc_L_law_3 25 rfl) rfl (Or.inl rfl)
theorem l_L_law_C5 {G : Gx} {d : Nat} (hl : G.1.stackTraces = false) (hd : 15 ≤ d) {pC1 : Nat} {pC2 : Nat} {pC3 : Nat} {xC4 : Int32} {sC : Sto} {r : (Int32 × Sto)} {kJ : Sto → Option (Int32 × Sto)} (hkJ : ∀ (sJ : Sto), kJ sJ = some r → J G d m_L_law 3394 [(0, .ref 0), (1, .ref pC1), (2, .ref pC2), (3, .ref pC3), (4, .int xC4)] [] sJ (.inl (some (.int r.1))) r.2) (h : F_L_law_C5 G.sl G.sx pC1 pC2 pC3 xC4 sC kJ = some r) : J G d m_L_law 552 [(0, .ref 0), (1, .ref pC1), (2, .ref pC2), (3, .ref pC3), (4, .int xC4)] [] sC (.inl (some (.int r.1))) r.2 := by
  rw [F_L_law_C5] at h
  refine r_aload_n (dc_L_law_3 38 rfl) rfl rfl ?_
  refine r_aload_n (dc_L_law_3 39 rfl) rfl rfl ?_
  refine r_iload (dc_L_law_3 40 rfl) rfl ?_
  refine r_iconst (dc_L_law_3 41 rfl) kiconst_1 ?_
  refine r_iadd (dc_L_law_3 42 rfl) ?_
  obtain ⟨x56, e0, h⟩ := Option.bind_eq_some_iff.mp h
  obtain ⟨hin, ex⟩ := sld_some e0
  refine r_sld (dc_L_law_3 43 rfl) hin ?_
  rw [← ex]
  refine r_aload_n (dc_L_law_3 44 rfl) rfl rfl ?_
  refine r_iload (dc_L_law_3 45 rfl) rfl ?_
  refine r_iconst (dc_L_law_3 46 rfl) kiconst_2 ?_
  refine r_iadd (dc_L_law_3 47 rfl) ?_
  obtain ⟨x57, e0, h⟩ := Option.bind_eq_some_iff.mp h
  obtain ⟨hin, ex⟩ := sld_some e0
  refine r_sld (dc_L_law_3 48 rfl) hin ?_
  rw [← ex]
  refine r_aload_n (dc_L_law_3 49 rfl) rfl rfl ?_
  refine r_iload (dc_L_law_3 50 rfl) rfl ?_
  refine r_iconst (dc_L_law_3 51 rfl) kiconst_3 ?_
  refine r_iadd (dc_L_law_3 52 rfl) ?_
  obtain ⟨x58, e0, h⟩ := Option.bind_eq_some_iff.mp h
  obtain ⟨hin, ex⟩ := sld_some e0
  refine r_sld (dc_L_law_3 53 rfl) hin ?_
  rw [← ex]
  refine r_aload_n (dc_L_law_3 54 rfl) rfl rfl ?_
  obtain ⟨x60, s59, e0, h⟩ := wb_some h
  refine r_callSH (dc_L_law_3 55 rfl) mh_L_come ml_RL_183 (As := [.ref pC1, .int x56, .int x57, .int x58, .ref pC3]) (t_L_come (d := d - 1) hl (by omega) e0) (by omega) rfl (Nat.le_of_ble_eq_true rfl) ?_
  refine r_istore (dc_L_law_3 56 rfl) (by decide) (lo' := [(5, .int x60), (0, .ref 0), (1, .ref pC1), (2, .ref pC2), (3, .ref pC3), (4, .int xC4)]) rfl ?_
  refine r_aload_n (dc_L_law_3 57 rfl) rfl rfl ?_
  refine r_aload_n (dc_L_law_3 58 rfl) rfl rfl ?_
  refine r_iload (dc_L_law_3 59 rfl) rfl ?_
  refine r_iconst (dc_L_law_3 60 rfl) kiconst_1 ?_
  refine r_iadd (dc_L_law_3 61 rfl) ?_
  obtain ⟨x61, e0, h⟩ := Option.bind_eq_some_iff.mp h
  obtain ⟨hin, ex⟩ := sld_some e0
  refine r_sld (dc_L_law_3 62 rfl) hin ?_
  rw [← ex]
  refine r_aload_n (dc_L_law_3 63 rfl) rfl rfl ?_
  refine r_iload (dc_L_law_4 0 rfl) rfl ?_
  refine r_iconst (dc_L_law_4 1 rfl) kiconst_2 ?_
  refine r_iadd (dc_L_law_4 2 rfl) ?_
  obtain ⟨x62, e0, h⟩ := Option.bind_eq_some_iff.mp h
  obtain ⟨hin, ex⟩ := sld_some e0
  refine r_sld (dc_L_law_4 3 rfl) hin ?_
  rw [← ex]
  refine r_aload_n (dc_L_law_4 4 rfl) rfl rfl ?_
  refine r_iload (dc_L_law_4 5 rfl) rfl ?_
  refine r_iconst (dc_L_law_4 6 rfl) kiconst_3 ?_
  refine r_iadd (dc_L_law_4 7 rfl) ?_
  obtain ⟨x63, e0, h⟩ := Option.bind_eq_some_iff.mp h
  obtain ⟨hin, ex⟩ := sld_some e0
  refine r_sld (dc_L_law_4 8 rfl) hin ?_
  rw [← ex]
  obtain ⟨x65, s64, e0, h⟩ := wb_some h
  refine r_callV (dc_L_law_4 9 rfl) mv_X10_come ml_RL_186 (As := [.int x61, .int x62, .int x63]) (t_X10_come (d := d - 1) hl (by omega) e0) (by omega) rfl (Nat.le_of_ble_eq_true rfl) ?_
  refine r_istore (dc_L_law_4 10 rfl) (by decide) (lo' := [(6, .int x65), (5, .int x60), (0, .ref 0), (1, .ref pC1), (2, .ref pC2), (3, .ref pC3), (4, .int xC4)]) rfl ?_
  refine r_aload_n (dc_L_law_4 11 rfl) rfl rfl ?_
  obtain ⟨x66, e0, h⟩ := Option.bind_eq_some_iff.mp h
  refine r_callV (dc_L_law_4 12 rfl) mv_X10_thrown ml_RL_166 (As := []) (t_X10_thrown (d := d - 1) hl (by omega) e0) (by omega) rfl (Nat.le_of_ble_eq_true rfl) ?_
  refine r_iload (dc_L_law_4 13 rfl) rfl ?_
  refine r_icmp_eq (dc_L_law_4 14 rfl) (tgt := 612) (by decide) (fun c0 => ?_) (fun c0 => ?_)
  · rw [if_pos c0] at h
    refine r_iload (dc_L_law_4 17 rfl) rfl ?_
    refine r_if_ne (dc_L_law_4 18 rfl) (tgt := 629) (by decide) (fun c0 => ?_) (fun c0 => ?_)
    · rw [if_neg c0] at h
      refine r_goto (dc_L_law_4 28 rfl) (tgt := 3394) (by decide) ?_
      refine r_pick [2, 3, 4, 5, 6] (lo' := [(0, .ref 0), (1, .ref pC1), (2, .ref pC2), (3, .ref pC3), (4, .int xC4)]) rfl ?_
      exact hkJ _ h
    · rw [if_pos c0] at h
      refine r_aload_n (dc_L_law_4 19 rfl) rfl rfl ?_
      refine r_iconst (dc_L_law_4 20 rfl) kiconst_0 ?_
      obtain ⟨y67, e0, h⟩ := Option.bind_eq_some_iff.mp h
      refine r_lald (dc_L_law_4 21 rfl) e0 ?_
      refine r_iload (dc_L_law_4 22 rfl) rfl ?_
      refine r_i2l (dc_L_law_4 23 rfl) ?_
      refine r_lcmp (dc_L_law_4 24 rfl) ?_
      refine r_if_eq (dc_L_law_4 25 rfl) (tgt := 629) (by decide) (fun c0 => ?_) (fun c0 => ?_)
      · rw [if_pos c0] at h
        refine r_goto (dc_L_law_4 28 rfl) (tgt := 3394) (by decide) ?_
        refine r_pick [2, 3, 4, 5, 6] (lo' := [(0, .ref 0), (1, .ref pC1), (2, .ref pC2), (3, .ref pC3), (4, .int xC4)]) rfl ?_
        exact hkJ _ h
      · rw [if_neg c0] at h
        refine r_iconst (dc_L_law_4 26 rfl) kiconst_0 ?_
        cases h
        exact r_zreturn (dc_L_law_4 27 rfl) rfl (Or.inl rfl)
  · rw [if_neg c0] at h
    refine r_iconst (dc_L_law_4 15 rfl) kiconst_0 ?_
    cases h
    exact r_zreturn (dc_L_law_4 16 rfl) rfl (Or.inl rfl)
theorem l_L_law_C6 {G : Gx} {d : Nat} (hl : G.1.stackTraces = false) (hd : 15 ≤ d) {pC1 : Nat} {pC2 : Nat} {pC3 : Nat} {xC4 : Int32} {sC : Sto} {r : (Int32 × Sto)} {kJ : Sto → Option (Int32 × Sto)} (hkJ : ∀ (sJ : Sto), kJ sJ = some r → J G d m_L_law 3394 [(0, .ref 0), (1, .ref pC1), (2, .ref pC2), (3, .ref pC3), (4, .int xC4)] [] sJ (.inl (some (.int r.1))) r.2) (h : F_L_law_C6 G.sl G.sx pC1 pC2 pC3 xC4 sC kJ = some r) : J G d m_L_law 632 [(0, .ref 0), (1, .ref pC1), (2, .ref pC2), (3, .ref pC3), (4, .int xC4)] [] sC (.inl (some (.int r.1))) r.2 := by
  rw [F_L_law_C6] at h
  refine r_aload_n (dc_L_law_4 29 rfl) rfl rfl ?_
  refine r_aload_n (dc_L_law_4 30 rfl) rfl rfl ?_
  refine r_iload (dc_L_law_4 31 rfl) rfl ?_
  refine r_iconst (dc_L_law_4 32 rfl) kiconst_1 ?_
  refine r_iadd (dc_L_law_4 33 rfl) ?_
  obtain ⟨x68, e0, h⟩ := Option.bind_eq_some_iff.mp h
  obtain ⟨hin, ex⟩ := sld_some e0
  refine r_sld (dc_L_law_4 34 rfl) hin ?_
  rw [← ex]
  refine r_aload_n (dc_L_law_4 35 rfl) rfl rfl ?_
  refine r_iload (dc_L_law_4 36 rfl) rfl ?_
  refine r_iconst (dc_L_law_4 37 rfl) kiconst_2 ?_
  refine r_iadd (dc_L_law_4 38 rfl) ?_
  obtain ⟨x69, e0, h⟩ := Option.bind_eq_some_iff.mp h
  obtain ⟨hin, ex⟩ := sld_some e0
  refine r_sld (dc_L_law_4 39 rfl) hin ?_
  rw [← ex]
  refine r_aload_n (dc_L_law_4 40 rfl) rfl rfl ?_
  refine r_iload (dc_L_law_4 41 rfl) rfl ?_
  refine r_iconst (dc_L_law_4 42 rfl) kiconst_3 ?_
  refine r_iadd (dc_L_law_4 43 rfl) ?_
  obtain ⟨x70, e0, h⟩ := Option.bind_eq_some_iff.mp h
  obtain ⟨hin, ex⟩ := sld_some e0
  refine r_sld (dc_L_law_4 44 rfl) hin ?_
  rw [← ex]
  refine r_aload_n (dc_L_law_4 45 rfl) rfl rfl ?_
  obtain ⟨x72, s71, e0, h⟩ := wb_some h
  refine r_callSH (dc_L_law_4 46 rfl) mh_L_lose ml_RL_187 (As := [.ref pC1, .int x68, .int x69, .int x70, .ref pC3]) (t_L_lose (d := d - 1) hl (by omega) e0) (by omega) rfl (Nat.le_of_ble_eq_true rfl) ?_
  refine r_istore (dc_L_law_4 47 rfl) (by decide) (lo' := [(5, .int x72), (0, .ref 0), (1, .ref pC1), (2, .ref pC2), (3, .ref pC3), (4, .int xC4)]) rfl ?_
  refine r_aload_n (dc_L_law_4 48 rfl) rfl rfl ?_
  refine r_aload_n (dc_L_law_4 49 rfl) rfl rfl ?_
  refine r_iload (dc_L_law_4 50 rfl) rfl ?_
  refine r_iconst (dc_L_law_4 51 rfl) kiconst_1 ?_
  refine r_iadd (dc_L_law_4 52 rfl) ?_
  obtain ⟨x73, e0, h⟩ := Option.bind_eq_some_iff.mp h
  obtain ⟨hin, ex⟩ := sld_some e0
  refine r_sld (dc_L_law_4 53 rfl) hin ?_
  rw [← ex]
  refine r_aload_n (dc_L_law_4 54 rfl) rfl rfl ?_
  refine r_iload (dc_L_law_4 55 rfl) rfl ?_
  refine r_iconst (dc_L_law_4 56 rfl) kiconst_2 ?_
  refine r_iadd (dc_L_law_4 57 rfl) ?_
  obtain ⟨x74, e0, h⟩ := Option.bind_eq_some_iff.mp h
  obtain ⟨hin, ex⟩ := sld_some e0
  refine r_sld (dc_L_law_4 58 rfl) hin ?_
  rw [← ex]
  refine r_aload_n (dc_L_law_4 59 rfl) rfl rfl ?_
  refine r_iload (dc_L_law_4 60 rfl) rfl ?_
  refine r_iconst (dc_L_law_4 61 rfl) kiconst_3 ?_
  refine r_iadd (dc_L_law_4 62 rfl) ?_
  obtain ⟨x75, e0, h⟩ := Option.bind_eq_some_iff.mp h
  obtain ⟨hin, ex⟩ := sld_some e0
  refine r_sld (dc_L_law_4 63 rfl) hin ?_
  rw [← ex]
  obtain ⟨x77, s76, e0, h⟩ := wb_some h
  refine r_callV (dc_L_law_5 0 rfl) mv_X10_lose ml_RL_189 (As := [.int x73, .int x74, .int x75]) (t_X10_lose (d := d - 1) hl (by omega) e0) (by omega) rfl (Nat.le_of_ble_eq_true rfl) ?_
  refine r_istore (dc_L_law_5 1 rfl) (by decide) (lo' := [(6, .int x77), (5, .int x72), (0, .ref 0), (1, .ref pC1), (2, .ref pC2), (3, .ref pC3), (4, .int xC4)]) rfl ?_
  refine r_aload_n (dc_L_law_5 2 rfl) rfl rfl ?_
  obtain ⟨x78, e0, h⟩ := Option.bind_eq_some_iff.mp h
  refine r_callV (dc_L_law_5 3 rfl) mv_X10_thrown ml_RL_166 (As := []) (t_X10_thrown (d := d - 1) hl (by omega) e0) (by omega) rfl (Nat.le_of_ble_eq_true rfl) ?_
  refine r_iload (dc_L_law_5 4 rfl) rfl ?_
  refine r_icmp_eq (dc_L_law_5 5 rfl) (tgt := 692) (by decide) (fun c0 => ?_) (fun c0 => ?_)
  · rw [if_pos c0] at h
    refine r_iload (dc_L_law_5 8 rfl) rfl ?_
    refine r_if_ne (dc_L_law_5 9 rfl) (tgt := 709) (by decide) (fun c0 => ?_) (fun c0 => ?_)
    · rw [if_neg c0] at h
      refine r_goto (dc_L_law_5 19 rfl) (tgt := 3394) (by decide) ?_
      refine r_pick [2, 3, 4, 5, 6] (lo' := [(0, .ref 0), (1, .ref pC1), (2, .ref pC2), (3, .ref pC3), (4, .int xC4)]) rfl ?_
      exact hkJ _ h
    · rw [if_pos c0] at h
      refine r_aload_n (dc_L_law_5 10 rfl) rfl rfl ?_
      refine r_iconst (dc_L_law_5 11 rfl) kiconst_0 ?_
      obtain ⟨y79, e0, h⟩ := Option.bind_eq_some_iff.mp h
      refine r_lald (dc_L_law_5 12 rfl) e0 ?_
      refine r_iload (dc_L_law_5 13 rfl) rfl ?_
      refine r_i2l (dc_L_law_5 14 rfl) ?_
      refine r_lcmp (dc_L_law_5 15 rfl) ?_
      refine r_if_eq (dc_L_law_5 16 rfl) (tgt := 709) (by decide) (fun c0 => ?_) (fun c0 => ?_)
      · rw [if_pos c0] at h
        refine r_goto (dc_L_law_5 19 rfl) (tgt := 3394) (by decide) ?_
        refine r_pick [2, 3, 4, 5, 6] (lo' := [(0, .ref 0), (1, .ref pC1), (2, .ref pC2), (3, .ref pC3), (4, .int xC4)]) rfl ?_
        exact hkJ _ h
      · rw [if_neg c0] at h
        refine r_iconst (dc_L_law_5 17 rfl) kiconst_0 ?_
        cases h
        exact r_zreturn (dc_L_law_5 18 rfl) rfl (Or.inl rfl)
  · rw [if_neg c0] at h
    refine r_iconst (dc_L_law_5 6 rfl) kiconst_0 ?_
    cases h
    exact r_zreturn (dc_L_law_5 7 rfl) rfl (Or.inl rfl)
theorem l_L_law_C7 {G : Gx} {d : Nat} (hl : G.1.stackTraces = false) (hd : 15 ≤ d) {pC1 : Nat} {pC2 : Nat} {pC3 : Nat} {xC4 : Int32} {sC : Sto} {r : (Int32 × Sto)} {kJ : Sto → Option (Int32 × Sto)} (hkJ : ∀ (sJ : Sto), kJ sJ = some r → J G d m_L_law 3394 [(0, .ref 0), (1, .ref pC1), (2, .ref pC2), (3, .ref pC3), (4, .int xC4)] [] sJ (.inl (some (.int r.1))) r.2) (h : F_L_law_C7 G.sl G.sx pC1 pC2 pC3 xC4 sC kJ = some r) : J G d m_L_law 712 [(0, .ref 0), (1, .ref pC1), (2, .ref pC2), (3, .ref pC3), (4, .int xC4)] [] sC (.inl (some (.int r.1))) r.2 := by
  rw [F_L_law_C7] at h
  refine r_aload_n (dc_L_law_5 20 rfl) rfl rfl ?_
  refine r_aload_n (dc_L_law_5 21 rfl) rfl rfl ?_
  refine r_iload (dc_L_law_5 22 rfl) rfl ?_
  refine r_iconst (dc_L_law_5 23 rfl) kiconst_1 ?_
  refine r_iadd (dc_L_law_5 24 rfl) ?_
  obtain ⟨x80, e0, h⟩ := Option.bind_eq_some_iff.mp h
  obtain ⟨hin, ex⟩ := sld_some e0
  refine r_sld (dc_L_law_5 25 rfl) hin ?_
  rw [← ex]
  refine r_aload_n (dc_L_law_5 26 rfl) rfl rfl ?_
  refine r_iload (dc_L_law_5 27 rfl) rfl ?_
  refine r_iconst (dc_L_law_5 28 rfl) kiconst_2 ?_
  refine r_iadd (dc_L_law_5 29 rfl) ?_
  obtain ⟨x81, e0, h⟩ := Option.bind_eq_some_iff.mp h
  obtain ⟨hin, ex⟩ := sld_some e0
  refine r_sld (dc_L_law_5 30 rfl) hin ?_
  rw [← ex]
  refine r_aload_n (dc_L_law_5 31 rfl) rfl rfl ?_
  refine r_iload (dc_L_law_5 32 rfl) rfl ?_
  refine r_iconst (dc_L_law_5 33 rfl) kiconst_3 ?_
  refine r_iadd (dc_L_law_5 34 rfl) ?_
  obtain ⟨x82, e0, h⟩ := Option.bind_eq_some_iff.mp h
  obtain ⟨hin, ex⟩ := sld_some e0
  refine r_sld (dc_L_law_5 35 rfl) hin ?_
  rw [← ex]
  refine r_aload_n (dc_L_law_5 36 rfl) rfl rfl ?_
  obtain ⟨x84, s83, e0, h⟩ := wb_some h
  refine r_callSH (dc_L_law_5 37 rfl) mh_L_twice ml_RL_190 (As := [.ref pC1, .int x80, .int x81, .int x82, .ref pC3]) (t_L_twice (d := d - 1) hl (by omega) e0) (by omega) rfl (Nat.le_of_ble_eq_true rfl) ?_
  refine r_istore (dc_L_law_5 38 rfl) (by decide) (lo' := [(5, .int x84), (0, .ref 0), (1, .ref pC1), (2, .ref pC2), (3, .ref pC3), (4, .int xC4)]) rfl ?_
  refine r_aload_n (dc_L_law_5 39 rfl) rfl rfl ?_
  refine r_aload_n (dc_L_law_5 40 rfl) rfl rfl ?_
  refine r_iload (dc_L_law_5 41 rfl) rfl ?_
  refine r_iconst (dc_L_law_5 42 rfl) kiconst_1 ?_
  refine r_iadd (dc_L_law_5 43 rfl) ?_
  obtain ⟨x85, e0, h⟩ := Option.bind_eq_some_iff.mp h
  obtain ⟨hin, ex⟩ := sld_some e0
  refine r_sld (dc_L_law_5 44 rfl) hin ?_
  rw [← ex]
  refine r_aload_n (dc_L_law_5 45 rfl) rfl rfl ?_
  refine r_iload (dc_L_law_5 46 rfl) rfl ?_
  refine r_iconst (dc_L_law_5 47 rfl) kiconst_2 ?_
  refine r_iadd (dc_L_law_5 48 rfl) ?_
  obtain ⟨x86, e0, h⟩ := Option.bind_eq_some_iff.mp h
  obtain ⟨hin, ex⟩ := sld_some e0
  refine r_sld (dc_L_law_5 49 rfl) hin ?_
  rw [← ex]
  refine r_aload_n (dc_L_law_5 50 rfl) rfl rfl ?_
  refine r_iload (dc_L_law_5 51 rfl) rfl ?_
  refine r_iconst (dc_L_law_5 52 rfl) kiconst_3 ?_
  refine r_iadd (dc_L_law_5 53 rfl) ?_
  obtain ⟨x87, e0, h⟩ := Option.bind_eq_some_iff.mp h
  obtain ⟨hin, ex⟩ := sld_some e0
  refine r_sld (dc_L_law_5 54 rfl) hin ?_
  rw [← ex]
  obtain ⟨x89, s88, e0, h⟩ := wb_some h
  refine r_callV (dc_L_law_5 55 rfl) mv_X10_twice ml_RL_192 (As := [.int x85, .int x86, .int x87]) (t_X10_twice (d := d - 1) hl (by omega) e0) (by omega) rfl (Nat.le_of_ble_eq_true rfl) ?_
  refine r_istore (dc_L_law_5 56 rfl) (by decide) (lo' := [(6, .int x89), (5, .int x84), (0, .ref 0), (1, .ref pC1), (2, .ref pC2), (3, .ref pC3), (4, .int xC4)]) rfl ?_
  refine r_aload_n (dc_L_law_5 57 rfl) rfl rfl ?_
  obtain ⟨x90, e0, h⟩ := Option.bind_eq_some_iff.mp h
  refine r_callV (dc_L_law_5 58 rfl) mv_X10_thrown ml_RL_166 (As := []) (t_X10_thrown (d := d - 1) hl (by omega) e0) (by omega) rfl (Nat.le_of_ble_eq_true rfl) ?_
  refine r_iload (dc_L_law_5 59 rfl) rfl ?_
  refine r_icmp_eq (dc_L_law_5 60 rfl) (tgt := 772) (by decide) (fun c0 => ?_) (fun c0 => ?_)
  · rw [if_pos c0] at h
    refine r_iload (dc_L_law_5 63 rfl) rfl ?_
    refine r_if_ne (dc_L_law_6 0 rfl) (tgt := 789) (by decide) (fun c0 => ?_) (fun c0 => ?_)
    · rw [if_neg c0] at h
      refine r_goto (dc_L_law_6 10 rfl) (tgt := 3394) (by decide) ?_
      refine r_pick [2, 3, 4, 5, 6] (lo' := [(0, .ref 0), (1, .ref pC1), (2, .ref pC2), (3, .ref pC3), (4, .int xC4)]) rfl ?_
      exact hkJ _ h
    · rw [if_pos c0] at h
      refine r_aload_n (dc_L_law_6 1 rfl) rfl rfl ?_
      refine r_iconst (dc_L_law_6 2 rfl) kiconst_0 ?_
      obtain ⟨y91, e0, h⟩ := Option.bind_eq_some_iff.mp h
      refine r_lald (dc_L_law_6 3 rfl) e0 ?_
      refine r_iload (dc_L_law_6 4 rfl) rfl ?_
      refine r_i2l (dc_L_law_6 5 rfl) ?_
      refine r_lcmp (dc_L_law_6 6 rfl) ?_
      refine r_if_eq (dc_L_law_6 7 rfl) (tgt := 789) (by decide) (fun c0 => ?_) (fun c0 => ?_)
      · rw [if_pos c0] at h
        refine r_goto (dc_L_law_6 10 rfl) (tgt := 3394) (by decide) ?_
        refine r_pick [2, 3, 4, 5, 6] (lo' := [(0, .ref 0), (1, .ref pC1), (2, .ref pC2), (3, .ref pC3), (4, .int xC4)]) rfl ?_
        exact hkJ _ h
      · rw [if_neg c0] at h
        refine r_iconst (dc_L_law_6 8 rfl) kiconst_0 ?_
        cases h
        exact r_zreturn (dc_L_law_6 9 rfl) rfl (Or.inl rfl)
  · rw [if_neg c0] at h
    refine r_iconst (dc_L_law_5 61 rfl) kiconst_0 ?_
    cases h
    exact r_zreturn (dc_L_law_5 62 rfl) rfl (Or.inl rfl)
theorem l_L_law_C8 {G : Gx} {d : Nat} (hl : G.1.stackTraces = false) (hd : 15 ≤ d) {pC1 : Nat} {pC2 : Nat} {pC3 : Nat} {xC4 : Int32} {sC : Sto} {r : (Int32 × Sto)} {kJ : Sto → Option (Int32 × Sto)} (hkJ : ∀ (sJ : Sto), kJ sJ = some r → J G d m_L_law 3394 [(0, .ref 0), (1, .ref pC1), (2, .ref pC2), (3, .ref pC3), (4, .int xC4)] [] sJ (.inl (some (.int r.1))) r.2) (h : F_L_law_C8 G.sl G.sx pC1 pC2 pC3 xC4 sC kJ = some r) : J G d m_L_law 792 [(0, .ref 0), (1, .ref pC1), (2, .ref pC2), (3, .ref pC3), (4, .int xC4)] [] sC (.inl (some (.int r.1))) r.2 := by
  rw [F_L_law_C8] at h
  refine r_aload_n (dc_L_law_6 11 rfl) rfl rfl ?_
  refine r_aload_n (dc_L_law_6 12 rfl) rfl rfl ?_
  refine r_iload (dc_L_law_6 13 rfl) rfl ?_
  refine r_iconst (dc_L_law_6 14 rfl) kiconst_1 ?_
  refine r_iadd (dc_L_law_6 15 rfl) ?_
  obtain ⟨x92, e0, h⟩ := Option.bind_eq_some_iff.mp h
  obtain ⟨hin, ex⟩ := sld_some e0
  refine r_sld (dc_L_law_6 16 rfl) hin ?_
  rw [← ex]
  refine r_aload_n (dc_L_law_6 17 rfl) rfl rfl ?_
  refine r_iload (dc_L_law_6 18 rfl) rfl ?_
  refine r_iconst (dc_L_law_6 19 rfl) kiconst_2 ?_
  refine r_iadd (dc_L_law_6 20 rfl) ?_
  obtain ⟨x93, e0, h⟩ := Option.bind_eq_some_iff.mp h
  obtain ⟨hin, ex⟩ := sld_some e0
  refine r_sld (dc_L_law_6 21 rfl) hin ?_
  rw [← ex]
  refine r_aload_n (dc_L_law_6 22 rfl) rfl rfl ?_
  obtain ⟨x95, s94, e0, h⟩ := wb_some h
  refine r_callSH (dc_L_law_6 23 rfl) mh_L_waiting ml_RL_193 (As := [.ref pC1, .int x92, .int x93, .ref pC3]) (t_L_waiting (d := d - 1) hl (by omega) e0) (by omega) rfl (Nat.le_of_ble_eq_true rfl) ?_
  refine r_istore (dc_L_law_6 24 rfl) (by decide) (lo' := [(5, .int x95), (0, .ref 0), (1, .ref pC1), (2, .ref pC2), (3, .ref pC3), (4, .int xC4)]) rfl ?_
  refine r_aload_n (dc_L_law_6 25 rfl) rfl rfl ?_
  refine r_aload_n (dc_L_law_6 26 rfl) rfl rfl ?_
  refine r_iload (dc_L_law_6 27 rfl) rfl ?_
  refine r_iconst (dc_L_law_6 28 rfl) kiconst_1 ?_
  refine r_iadd (dc_L_law_6 29 rfl) ?_
  obtain ⟨x96, e0, h⟩ := Option.bind_eq_some_iff.mp h
  obtain ⟨hin, ex⟩ := sld_some e0
  refine r_sld (dc_L_law_6 30 rfl) hin ?_
  rw [← ex]
  refine r_aload_n (dc_L_law_6 31 rfl) rfl rfl ?_
  refine r_iload (dc_L_law_6 32 rfl) rfl ?_
  refine r_iconst (dc_L_law_6 33 rfl) kiconst_2 ?_
  refine r_iadd (dc_L_law_6 34 rfl) ?_
  obtain ⟨x97, e0, h⟩ := Option.bind_eq_some_iff.mp h
  obtain ⟨hin, ex⟩ := sld_some e0
  refine r_sld (dc_L_law_6 35 rfl) hin ?_
  rw [← ex]
  obtain ⟨x99, s98, e0, h⟩ := wb_some h
  refine r_callV (dc_L_law_6 36 rfl) mv_X10_waiting ml_RL_195 (As := [.int x96, .int x97]) (t_X10_waiting (d := d - 1) hl (by omega) e0) (by omega) rfl (Nat.le_of_ble_eq_true rfl) ?_
  refine r_istore (dc_L_law_6 37 rfl) (by decide) (lo' := [(6, .int x99), (5, .int x95), (0, .ref 0), (1, .ref pC1), (2, .ref pC2), (3, .ref pC3), (4, .int xC4)]) rfl ?_
  refine r_aload_n (dc_L_law_6 38 rfl) rfl rfl ?_
  obtain ⟨x100, e0, h⟩ := Option.bind_eq_some_iff.mp h
  refine r_callV (dc_L_law_6 39 rfl) mv_X10_thrown ml_RL_166 (As := []) (t_X10_thrown (d := d - 1) hl (by omega) e0) (by omega) rfl (Nat.le_of_ble_eq_true rfl) ?_
  refine r_iload (dc_L_law_6 40 rfl) rfl ?_
  refine r_icmp_eq (dc_L_law_6 41 rfl) (tgt := 840) (by decide) (fun c0 => ?_) (fun c0 => ?_)
  · rw [if_pos c0] at h
    refine r_iload (dc_L_law_6 44 rfl) rfl ?_
    refine r_if_ne (dc_L_law_6 45 rfl) (tgt := 857) (by decide) (fun c0 => ?_) (fun c0 => ?_)
    · rw [if_neg c0] at h
      refine r_goto (dc_L_law_6 55 rfl) (tgt := 3394) (by decide) ?_
      refine r_pick [2, 3, 4, 5, 6] (lo' := [(0, .ref 0), (1, .ref pC1), (2, .ref pC2), (3, .ref pC3), (4, .int xC4)]) rfl ?_
      exact hkJ _ h
    · rw [if_pos c0] at h
      refine r_aload_n (dc_L_law_6 46 rfl) rfl rfl ?_
      refine r_iconst (dc_L_law_6 47 rfl) kiconst_0 ?_
      obtain ⟨y101, e0, h⟩ := Option.bind_eq_some_iff.mp h
      refine r_lald (dc_L_law_6 48 rfl) e0 ?_
      refine r_iload (dc_L_law_6 49 rfl) rfl ?_
      refine r_i2l (dc_L_law_6 50 rfl) ?_
      refine r_lcmp (dc_L_law_6 51 rfl) ?_
      refine r_if_eq (dc_L_law_6 52 rfl) (tgt := 857) (by decide) (fun c0 => ?_) (fun c0 => ?_)
      · rw [if_pos c0] at h
        refine r_goto (dc_L_law_6 55 rfl) (tgt := 3394) (by decide) ?_
        refine r_pick [2, 3, 4, 5, 6] (lo' := [(0, .ref 0), (1, .ref pC1), (2, .ref pC2), (3, .ref pC3), (4, .int xC4)]) rfl ?_
        exact hkJ _ h
      · rw [if_neg c0] at h
        refine r_iconst (dc_L_law_6 53 rfl) kiconst_0 ?_
        cases h
        exact r_zreturn (dc_L_law_6 54 rfl) rfl (Or.inl rfl)
  · rw [if_neg c0] at h
    refine r_iconst (dc_L_law_6 42 rfl) kiconst_0 ?_
    cases h
    exact r_zreturn (dc_L_law_6 43 rfl) rfl (Or.inl rfl)
theorem l_L_law_C9 {G : Gx} {d : Nat} (hl : G.1.stackTraces = false) (hd : 15 ≤ d) {pC1 : Nat} {pC2 : Nat} {pC3 : Nat} {xC4 : Int32} {sC : Sto} {r : (Int32 × Sto)} {kJ : Sto → Option (Int32 × Sto)} (hkJ : ∀ (sJ : Sto), kJ sJ = some r → J G d m_L_law 3394 [(0, .ref 0), (1, .ref pC1), (2, .ref pC2), (3, .ref pC3), (4, .int xC4)] [] sJ (.inl (some (.int r.1))) r.2) (h : F_L_law_C9 G.sl G.sx pC1 pC2 pC3 xC4 sC kJ = some r) : J G d m_L_law 860 [(0, .ref 0), (1, .ref pC1), (2, .ref pC2), (3, .ref pC3), (4, .int xC4)] [] sC (.inl (some (.int r.1))) r.2 := by
  rw [F_L_law_C9] at h
  refine r_aload_n (dc_L_law_6 56 rfl) rfl rfl ?_
  refine r_aload_n (dc_L_law_6 57 rfl) rfl rfl ?_
  refine r_iload (dc_L_law_6 58 rfl) rfl ?_
  refine r_iconst (dc_L_law_6 59 rfl) kiconst_1 ?_
  refine r_iadd (dc_L_law_6 60 rfl) ?_
  obtain ⟨x102, e0, h⟩ := Option.bind_eq_some_iff.mp h
  obtain ⟨hin, ex⟩ := sld_some e0
  refine r_sld (dc_L_law_6 61 rfl) hin ?_
  rw [← ex]
  refine r_aload_n (dc_L_law_6 62 rfl) rfl rfl ?_
  refine r_iload (dc_L_law_6 63 rfl) rfl ?_
  refine r_iconst (dc_L_law_7 0 rfl) kiconst_2 ?_
  refine r_iadd (dc_L_law_7 1 rfl) ?_
  obtain ⟨x103, e0, h⟩ := Option.bind_eq_some_iff.mp h
  obtain ⟨hin, ex⟩ := sld_some e0
  refine r_sld (dc_L_law_7 2 rfl) hin ?_
  rw [← ex]
  refine r_aload_n (dc_L_law_7 3 rfl) rfl rfl ?_
  refine r_iload (dc_L_law_7 4 rfl) rfl ?_
  refine r_iconst (dc_L_law_7 5 rfl) kiconst_3 ?_
  refine r_iadd (dc_L_law_7 6 rfl) ?_
  obtain ⟨x104, e0, h⟩ := Option.bind_eq_some_iff.mp h
  obtain ⟨hin, ex⟩ := sld_some e0
  refine r_sld (dc_L_law_7 7 rfl) hin ?_
  rw [← ex]
  refine r_aload_n (dc_L_law_7 8 rfl) rfl rfl ?_
  refine r_iload (dc_L_law_7 9 rfl) rfl ?_
  refine r_iconst (dc_L_law_7 10 rfl) kiconst_4 ?_
  refine r_iadd (dc_L_law_7 11 rfl) ?_
  obtain ⟨x105, e0, h⟩ := Option.bind_eq_some_iff.mp h
  obtain ⟨hin, ex⟩ := sld_some e0
  refine r_sld (dc_L_law_7 12 rfl) hin ?_
  rw [← ex]
  refine r_aload_n (dc_L_law_7 13 rfl) rfl rfl ?_
  obtain ⟨x107, s106, e0, h⟩ := wb_some h
  refine r_callSH (dc_L_law_7 14 rfl) mh_L_letter ml_RL_196 (As := [.ref pC1, .int x102, .int x103, .int x104, .int x105, .ref pC3]) (t_L_letter (d := d - 1) hl (by omega) e0) (by omega) rfl (Nat.le_of_ble_eq_true rfl) ?_
  refine r_istore (dc_L_law_7 15 rfl) (by decide) (lo' := [(5, .int x107), (0, .ref 0), (1, .ref pC1), (2, .ref pC2), (3, .ref pC3), (4, .int xC4)]) rfl ?_
  refine r_aload_n (dc_L_law_7 16 rfl) rfl rfl ?_
  refine r_aload_n (dc_L_law_7 17 rfl) rfl rfl ?_
  refine r_iload (dc_L_law_7 18 rfl) rfl ?_
  refine r_iconst (dc_L_law_7 19 rfl) kiconst_1 ?_
  refine r_iadd (dc_L_law_7 20 rfl) ?_
  obtain ⟨x108, e0, h⟩ := Option.bind_eq_some_iff.mp h
  obtain ⟨hin, ex⟩ := sld_some e0
  refine r_sld (dc_L_law_7 21 rfl) hin ?_
  rw [← ex]
  refine r_aload_n (dc_L_law_7 22 rfl) rfl rfl ?_
  refine r_iload (dc_L_law_7 23 rfl) rfl ?_
  refine r_iconst (dc_L_law_7 24 rfl) kiconst_2 ?_
  refine r_iadd (dc_L_law_7 25 rfl) ?_
  obtain ⟨x109, e0, h⟩ := Option.bind_eq_some_iff.mp h
  obtain ⟨hin, ex⟩ := sld_some e0
  refine r_sld (dc_L_law_7 26 rfl) hin ?_
  rw [← ex]
  refine r_aload_n (dc_L_law_7 27 rfl) rfl rfl ?_
  refine r_iload (dc_L_law_7 28 rfl) rfl ?_
  refine r_iconst (dc_L_law_7 29 rfl) kiconst_3 ?_
  refine r_iadd (dc_L_law_7 30 rfl) ?_
  obtain ⟨x110, e0, h⟩ := Option.bind_eq_some_iff.mp h
  obtain ⟨hin, ex⟩ := sld_some e0
  refine r_sld (dc_L_law_7 31 rfl) hin ?_
  rw [← ex]
  refine r_aload_n (dc_L_law_7 32 rfl) rfl rfl ?_
  refine r_iload (dc_L_law_7 33 rfl) rfl ?_
  refine r_iconst (dc_L_law_7 34 rfl) kiconst_4 ?_
  refine r_iadd (dc_L_law_7 35 rfl) ?_
  obtain ⟨x111, e0, h⟩ := Option.bind_eq_some_iff.mp h
  obtain ⟨hin, ex⟩ := sld_some e0
  refine r_sld (dc_L_law_7 36 rfl) hin ?_
  rw [← ex]
  obtain ⟨x113, s112, e0, h⟩ := wb_some h
  refine r_callV (dc_L_law_7 37 rfl) mv_X10_letter ml_RL_199 (As := [.int x108, .int x109, .int x110, .int x111]) (t_X10_letter (d := d - 1) hl (by omega) e0) (by omega) rfl (Nat.le_of_ble_eq_true rfl) ?_
  refine r_istore (dc_L_law_7 38 rfl) (by decide) (lo' := [(6, .int x113), (5, .int x107), (0, .ref 0), (1, .ref pC1), (2, .ref pC2), (3, .ref pC3), (4, .int xC4)]) rfl ?_
  refine r_aload_n (dc_L_law_7 39 rfl) rfl rfl ?_
  obtain ⟨x114, e0, h⟩ := Option.bind_eq_some_iff.mp h
  refine r_callV (dc_L_law_7 40 rfl) mv_X10_thrown ml_RL_166 (As := []) (t_X10_thrown (d := d - 1) hl (by omega) e0) (by omega) rfl (Nat.le_of_ble_eq_true rfl) ?_
  refine r_iload (dc_L_law_7 41 rfl) rfl ?_
  refine r_icmp_eq (dc_L_law_7 42 rfl) (tgt := 932) (by decide) (fun c0 => ?_) (fun c0 => ?_)
  · rw [if_pos c0] at h
    refine r_iload (dc_L_law_7 45 rfl) rfl ?_
    refine r_if_ne (dc_L_law_7 46 rfl) (tgt := 949) (by decide) (fun c0 => ?_) (fun c0 => ?_)
    · rw [if_neg c0] at h
      refine r_goto (dc_L_law_7 56 rfl) (tgt := 3394) (by decide) ?_
      refine r_pick [2, 3, 4, 5, 6] (lo' := [(0, .ref 0), (1, .ref pC1), (2, .ref pC2), (3, .ref pC3), (4, .int xC4)]) rfl ?_
      exact hkJ _ h
    · rw [if_pos c0] at h
      refine r_aload_n (dc_L_law_7 47 rfl) rfl rfl ?_
      refine r_iconst (dc_L_law_7 48 rfl) kiconst_0 ?_
      obtain ⟨y115, e0, h⟩ := Option.bind_eq_some_iff.mp h
      refine r_lald (dc_L_law_7 49 rfl) e0 ?_
      refine r_iload (dc_L_law_7 50 rfl) rfl ?_
      refine r_i2l (dc_L_law_7 51 rfl) ?_
      refine r_lcmp (dc_L_law_7 52 rfl) ?_
      refine r_if_eq (dc_L_law_7 53 rfl) (tgt := 949) (by decide) (fun c0 => ?_) (fun c0 => ?_)
      · rw [if_pos c0] at h
        refine r_goto (dc_L_law_7 56 rfl) (tgt := 3394) (by decide) ?_
        refine r_pick [2, 3, 4, 5, 6] (lo' := [(0, .ref 0), (1, .ref pC1), (2, .ref pC2), (3, .ref pC3), (4, .int xC4)]) rfl ?_
        exact hkJ _ h
      · rw [if_neg c0] at h
        refine r_iconst (dc_L_law_7 54 rfl) kiconst_0 ?_
        cases h
        exact r_zreturn (dc_L_law_7 55 rfl) rfl (Or.inl rfl)
  · rw [if_neg c0] at h
    refine r_iconst (dc_L_law_7 43 rfl) kiconst_0 ?_
    cases h
    exact r_zreturn (dc_L_law_7 44 rfl) rfl (Or.inl rfl)
theorem l_L_law_C10 {G : Gx} {d : Nat} (hl : G.1.stackTraces = false) (hd : 15 ≤ d) {pC1 : Nat} {pC2 : Nat} {pC3 : Nat} {xC4 : Int32} {sC : Sto} {r : (Int32 × Sto)} {kJ : Sto → Option (Int32 × Sto)} (hkJ : ∀ (sJ : Sto), kJ sJ = some r → J G d m_L_law 3394 [(0, .ref 0), (1, .ref pC1), (2, .ref pC2), (3, .ref pC3), (4, .int xC4)] [] sJ (.inl (some (.int r.1))) r.2) (h : F_L_law_C10 G.sl G.sx pC1 pC2 pC3 xC4 sC kJ = some r) : J G d m_L_law 952 [(0, .ref 0), (1, .ref pC1), (2, .ref pC2), (3, .ref pC3), (4, .int xC4)] [] sC (.inl (some (.int r.1))) r.2 := by
  rw [F_L_law_C10] at h
  refine r_aload_n (dc_L_law_7 57 rfl) rfl rfl ?_
  refine r_aload_n (dc_L_law_7 58 rfl) rfl rfl ?_
  refine r_iload (dc_L_law_7 59 rfl) rfl ?_
  refine r_iconst (dc_L_law_7 60 rfl) kiconst_1 ?_
  refine r_iadd (dc_L_law_7 61 rfl) ?_
  obtain ⟨x116, e0, h⟩ := Option.bind_eq_some_iff.mp h
  obtain ⟨hin, ex⟩ := sld_some e0
  refine r_sld (dc_L_law_7 62 rfl) hin ?_
  rw [← ex]
  refine r_aload_n (dc_L_law_7 63 rfl) rfl rfl ?_
  refine r_iload (dc_L_law_8 0 rfl) rfl ?_
  refine r_iconst (dc_L_law_8 1 rfl) kiconst_2 ?_
  refine r_iadd (dc_L_law_8 2 rfl) ?_
  obtain ⟨x117, e0, h⟩ := Option.bind_eq_some_iff.mp h
  obtain ⟨hin, ex⟩ := sld_some e0
  refine r_sld (dc_L_law_8 3 rfl) hin ?_
  rw [← ex]
  refine r_aload_n (dc_L_law_8 4 rfl) rfl rfl ?_
  refine r_iload (dc_L_law_8 5 rfl) rfl ?_
  refine r_iconst (dc_L_law_8 6 rfl) kiconst_3 ?_
  refine r_iadd (dc_L_law_8 7 rfl) ?_
  obtain ⟨x118, e0, h⟩ := Option.bind_eq_some_iff.mp h
  obtain ⟨hin, ex⟩ := sld_some e0
  refine r_sld (dc_L_law_8 8 rfl) hin ?_
  rw [← ex]
  refine r_aload_n (dc_L_law_8 9 rfl) rfl rfl ?_
  refine r_iload (dc_L_law_8 10 rfl) rfl ?_
  refine r_iconst (dc_L_law_8 11 rfl) kiconst_4 ?_
  refine r_iadd (dc_L_law_8 12 rfl) ?_
  obtain ⟨x119, e0, h⟩ := Option.bind_eq_some_iff.mp h
  obtain ⟨hin, ex⟩ := sld_some e0
  refine r_sld (dc_L_law_8 13 rfl) hin ?_
  rw [← ex]
  refine r_aload_n (dc_L_law_8 14 rfl) rfl rfl ?_
  obtain ⟨x121, s120, e0, h⟩ := wb_some h
  refine r_callSH (dc_L_law_8 15 rfl) mh_L_inLetter ml_RL_200 (As := [.ref pC1, .int x116, .int x117, .int x118, .int x119, .ref pC3]) (t_L_inLetter (d := d - 1) hl (by omega) e0) (by omega) rfl (Nat.le_of_ble_eq_true rfl) ?_
  refine r_istore (dc_L_law_8 16 rfl) (by decide) (lo' := [(5, .int x121), (0, .ref 0), (1, .ref pC1), (2, .ref pC2), (3, .ref pC3), (4, .int xC4)]) rfl ?_
  refine r_aload_n (dc_L_law_8 17 rfl) rfl rfl ?_
  refine r_aload_n (dc_L_law_8 18 rfl) rfl rfl ?_
  refine r_iload (dc_L_law_8 19 rfl) rfl ?_
  refine r_iconst (dc_L_law_8 20 rfl) kiconst_1 ?_
  refine r_iadd (dc_L_law_8 21 rfl) ?_
  obtain ⟨x122, e0, h⟩ := Option.bind_eq_some_iff.mp h
  obtain ⟨hin, ex⟩ := sld_some e0
  refine r_sld (dc_L_law_8 22 rfl) hin ?_
  rw [← ex]
  refine r_aload_n (dc_L_law_8 23 rfl) rfl rfl ?_
  refine r_iload (dc_L_law_8 24 rfl) rfl ?_
  refine r_iconst (dc_L_law_8 25 rfl) kiconst_2 ?_
  refine r_iadd (dc_L_law_8 26 rfl) ?_
  obtain ⟨x123, e0, h⟩ := Option.bind_eq_some_iff.mp h
  obtain ⟨hin, ex⟩ := sld_some e0
  refine r_sld (dc_L_law_8 27 rfl) hin ?_
  rw [← ex]
  refine r_aload_n (dc_L_law_8 28 rfl) rfl rfl ?_
  refine r_iload (dc_L_law_8 29 rfl) rfl ?_
  refine r_iconst (dc_L_law_8 30 rfl) kiconst_3 ?_
  refine r_iadd (dc_L_law_8 31 rfl) ?_
  obtain ⟨x124, e0, h⟩ := Option.bind_eq_some_iff.mp h
  obtain ⟨hin, ex⟩ := sld_some e0
  refine r_sld (dc_L_law_8 32 rfl) hin ?_
  rw [← ex]
  refine r_aload_n (dc_L_law_8 33 rfl) rfl rfl ?_
  refine r_iload (dc_L_law_8 34 rfl) rfl ?_
  refine r_iconst (dc_L_law_8 35 rfl) kiconst_4 ?_
  refine r_iadd (dc_L_law_8 36 rfl) ?_
  obtain ⟨x125, e0, h⟩ := Option.bind_eq_some_iff.mp h
  obtain ⟨hin, ex⟩ := sld_some e0
  refine r_sld (dc_L_law_8 37 rfl) hin ?_
  rw [← ex]
  obtain ⟨x127, s126, e0, h⟩ := wb_some h
  refine r_callV (dc_L_law_8 38 rfl) mv_X10_inLetter ml_RL_202 (As := [.int x122, .int x123, .int x124, .int x125]) (t_X10_inLetter (d := d - 1) hl (by omega) e0) (by omega) rfl (Nat.le_of_ble_eq_true rfl) ?_
  refine r_istore (dc_L_law_8 39 rfl) (by decide) (lo' := [(6, .int x127), (5, .int x121), (0, .ref 0), (1, .ref pC1), (2, .ref pC2), (3, .ref pC3), (4, .int xC4)]) rfl ?_
  refine r_aload_n (dc_L_law_8 40 rfl) rfl rfl ?_
  obtain ⟨x128, e0, h⟩ := Option.bind_eq_some_iff.mp h
  refine r_callV (dc_L_law_8 41 rfl) mv_X10_thrown ml_RL_166 (As := []) (t_X10_thrown (d := d - 1) hl (by omega) e0) (by omega) rfl (Nat.le_of_ble_eq_true rfl) ?_
  refine r_iload (dc_L_law_8 42 rfl) rfl ?_
  refine r_icmp_eq (dc_L_law_8 43 rfl) (tgt := 1024) (by decide) (fun c0 => ?_) (fun c0 => ?_)
  · rw [if_pos c0] at h
    refine r_iload (dc_L_law_8 46 rfl) rfl ?_
    refine r_if_ne (dc_L_law_8 47 rfl) (tgt := 1041) (by decide) (fun c0 => ?_) (fun c0 => ?_)
    · rw [if_neg c0] at h
      refine r_goto (dc_L_law_8 57 rfl) (tgt := 3394) (by decide) ?_
      refine r_pick [2, 3, 4, 5, 6] (lo' := [(0, .ref 0), (1, .ref pC1), (2, .ref pC2), (3, .ref pC3), (4, .int xC4)]) rfl ?_
      exact hkJ _ h
    · rw [if_pos c0] at h
      refine r_aload_n (dc_L_law_8 48 rfl) rfl rfl ?_
      refine r_iconst (dc_L_law_8 49 rfl) kiconst_0 ?_
      obtain ⟨y129, e0, h⟩ := Option.bind_eq_some_iff.mp h
      refine r_lald (dc_L_law_8 50 rfl) e0 ?_
      refine r_iload (dc_L_law_8 51 rfl) rfl ?_
      refine r_i2l (dc_L_law_8 52 rfl) ?_
      refine r_lcmp (dc_L_law_8 53 rfl) ?_
      refine r_if_eq (dc_L_law_8 54 rfl) (tgt := 1041) (by decide) (fun c0 => ?_) (fun c0 => ?_)
      · rw [if_pos c0] at h
        refine r_goto (dc_L_law_8 57 rfl) (tgt := 3394) (by decide) ?_
        refine r_pick [2, 3, 4, 5, 6] (lo' := [(0, .ref 0), (1, .ref pC1), (2, .ref pC2), (3, .ref pC3), (4, .int xC4)]) rfl ?_
        exact hkJ _ h
      · rw [if_neg c0] at h
        refine r_iconst (dc_L_law_8 55 rfl) kiconst_0 ?_
        cases h
        exact r_zreturn (dc_L_law_8 56 rfl) rfl (Or.inl rfl)
  · rw [if_neg c0] at h
    refine r_iconst (dc_L_law_8 44 rfl) kiconst_0 ?_
    cases h
    exact r_zreturn (dc_L_law_8 45 rfl) rfl (Or.inl rfl)
theorem l_L_law_C11 {G : Gx} {d : Nat} (hl : G.1.stackTraces = false) (hd : 15 ≤ d) {pC1 : Nat} {pC2 : Nat} {pC3 : Nat} {xC4 : Int32} {sC : Sto} {r : (Int32 × Sto)} {kJ : Sto → Option (Int32 × Sto)} (hkJ : ∀ (sJ : Sto), kJ sJ = some r → J G d m_L_law 3394 [(0, .ref 0), (1, .ref pC1), (2, .ref pC2), (3, .ref pC3), (4, .int xC4)] [] sJ (.inl (some (.int r.1))) r.2) (h : F_L_law_C11 G.sl G.sx pC1 pC2 pC3 xC4 sC kJ = some r) : J G d m_L_law 1044 [(0, .ref 0), (1, .ref pC1), (2, .ref pC2), (3, .ref pC3), (4, .int xC4)] [] sC (.inl (some (.int r.1))) r.2 := by
  rw [F_L_law_C11] at h
  refine r_aload_n (dc_L_law_8 58 rfl) rfl rfl ?_
  refine r_aload_n (dc_L_law_8 59 rfl) rfl rfl ?_
  refine r_iload (dc_L_law_8 60 rfl) rfl ?_
  refine r_iconst (dc_L_law_8 61 rfl) kiconst_1 ?_
  refine r_iadd (dc_L_law_8 62 rfl) ?_
  obtain ⟨x130, e0, h⟩ := Option.bind_eq_some_iff.mp h
  obtain ⟨hin, ex⟩ := sld_some e0
  refine r_sld (dc_L_law_8 63 rfl) hin ?_
  rw [← ex]
  refine r_aload_n (dc_L_law_9 0 rfl) rfl rfl ?_
  obtain ⟨x132, s131, e0, h⟩ := wb_some h
  refine r_callSH (dc_L_law_9 1 rfl) mh_L_save ml_RL_203 (As := [.ref pC1, .int x130, .ref pC3]) (t_L_save (d := d - 1) hl (by omega) e0) (by omega) rfl (Nat.le_of_ble_eq_true rfl) ?_
  refine r_istore (dc_L_law_9 2 rfl) (by decide) (lo' := [(5, .int x132), (0, .ref 0), (1, .ref pC1), (2, .ref pC2), (3, .ref pC3), (4, .int xC4)]) rfl ?_
  refine r_aload_n (dc_L_law_9 3 rfl) rfl rfl ?_
  refine r_aload_n (dc_L_law_9 4 rfl) rfl rfl ?_
  refine r_iload (dc_L_law_9 5 rfl) rfl ?_
  refine r_iconst (dc_L_law_9 6 rfl) kiconst_1 ?_
  refine r_iadd (dc_L_law_9 7 rfl) ?_
  obtain ⟨x133, e0, h⟩ := Option.bind_eq_some_iff.mp h
  obtain ⟨hin, ex⟩ := sld_some e0
  refine r_sld (dc_L_law_9 8 rfl) hin ?_
  rw [← ex]
  obtain ⟨x135, s134, e0, h⟩ := wb_some h
  refine r_callV (dc_L_law_9 9 rfl) mv_X10_save ml_RL_205 (As := [.int x133]) (t_X10_save (d := d - 1) hl (by omega) e0) (by omega) rfl (Nat.le_of_ble_eq_true rfl) ?_
  refine r_istore (dc_L_law_9 10 rfl) (by decide) (lo' := [(6, .int x135), (5, .int x132), (0, .ref 0), (1, .ref pC1), (2, .ref pC2), (3, .ref pC3), (4, .int xC4)]) rfl ?_
  refine r_aload_n (dc_L_law_9 11 rfl) rfl rfl ?_
  obtain ⟨x136, e0, h⟩ := Option.bind_eq_some_iff.mp h
  refine r_callV (dc_L_law_9 12 rfl) mv_X10_thrown ml_RL_166 (As := []) (t_X10_thrown (d := d - 1) hl (by omega) e0) (by omega) rfl (Nat.le_of_ble_eq_true rfl) ?_
  refine r_iload (dc_L_law_9 13 rfl) rfl ?_
  refine r_icmp_eq (dc_L_law_9 14 rfl) (tgt := 1080) (by decide) (fun c0 => ?_) (fun c0 => ?_)
  · rw [if_pos c0] at h
    refine r_iload (dc_L_law_9 17 rfl) rfl ?_
    refine r_if_ne (dc_L_law_9 18 rfl) (tgt := 1097) (by decide) (fun c0 => ?_) (fun c0 => ?_)
    · rw [if_neg c0] at h
      refine r_goto (dc_L_law_9 28 rfl) (tgt := 3394) (by decide) ?_
      refine r_pick [2, 3, 4, 5, 6] (lo' := [(0, .ref 0), (1, .ref pC1), (2, .ref pC2), (3, .ref pC3), (4, .int xC4)]) rfl ?_
      exact hkJ _ h
    · rw [if_pos c0] at h
      refine r_aload_n (dc_L_law_9 19 rfl) rfl rfl ?_
      refine r_iconst (dc_L_law_9 20 rfl) kiconst_0 ?_
      obtain ⟨y137, e0, h⟩ := Option.bind_eq_some_iff.mp h
      refine r_lald (dc_L_law_9 21 rfl) e0 ?_
      refine r_iload (dc_L_law_9 22 rfl) rfl ?_
      refine r_i2l (dc_L_law_9 23 rfl) ?_
      refine r_lcmp (dc_L_law_9 24 rfl) ?_
      refine r_if_eq (dc_L_law_9 25 rfl) (tgt := 1097) (by decide) (fun c0 => ?_) (fun c0 => ?_)
      · rw [if_pos c0] at h
        refine r_goto (dc_L_law_9 28 rfl) (tgt := 3394) (by decide) ?_
        refine r_pick [2, 3, 4, 5, 6] (lo' := [(0, .ref 0), (1, .ref pC1), (2, .ref pC2), (3, .ref pC3), (4, .int xC4)]) rfl ?_
        exact hkJ _ h
      · rw [if_neg c0] at h
        refine r_iconst (dc_L_law_9 26 rfl) kiconst_0 ?_
        cases h
        exact r_zreturn (dc_L_law_9 27 rfl) rfl (Or.inl rfl)
  · rw [if_neg c0] at h
    refine r_iconst (dc_L_law_9 15 rfl) kiconst_0 ?_
    cases h
    exact r_zreturn (dc_L_law_9 16 rfl) rfl (Or.inl rfl)
theorem l_L_law_C12 {G : Gx} {d : Nat} (hl : G.1.stackTraces = false) (hd : 15 ≤ d) {pC1 : Nat} {pC2 : Nat} {pC3 : Nat} {xC4 : Int32} {sC : Sto} {r : (Int32 × Sto)} {kJ : Sto → Option (Int32 × Sto)} (hkJ : ∀ (sJ : Sto), kJ sJ = some r → J G d m_L_law 3394 [(0, .ref 0), (1, .ref pC1), (2, .ref pC2), (3, .ref pC3), (4, .int xC4)] [] sJ (.inl (some (.int r.1))) r.2) (h : F_L_law_C12 G.sl G.sx pC1 pC2 pC3 xC4 sC kJ = some r) : J G d m_L_law 1100 [(0, .ref 0), (1, .ref pC1), (2, .ref pC2), (3, .ref pC3), (4, .int xC4)] [] sC (.inl (some (.int r.1))) r.2 := by
  rw [F_L_law_C12] at h
  refine r_aload_n (dc_L_law_9 29 rfl) rfl rfl ?_
  refine r_aload_n (dc_L_law_9 30 rfl) rfl rfl ?_
  refine r_iload (dc_L_law_9 31 rfl) rfl ?_
  refine r_iconst (dc_L_law_9 32 rfl) kiconst_1 ?_
  refine r_iadd (dc_L_law_9 33 rfl) ?_
  obtain ⟨x138, e0, h⟩ := Option.bind_eq_some_iff.mp h
  obtain ⟨hin, ex⟩ := sld_some e0
  refine r_sld (dc_L_law_9 34 rfl) hin ?_
  rw [← ex]
  refine r_aload_n (dc_L_law_9 35 rfl) rfl rfl ?_
  obtain ⟨x140, s139, e0, h⟩ := wb_some h
  refine r_callSH (dc_L_law_9 36 rfl) mh_L_fall ml_RL_206 (As := [.ref pC1, .int x138, .ref pC3]) (t_L_fall (d := d - 1) hl (by omega) e0) (by omega) rfl (Nat.le_of_ble_eq_true rfl) ?_
  refine r_istore (dc_L_law_9 37 rfl) (by decide) (lo' := [(5, .int x140), (0, .ref 0), (1, .ref pC1), (2, .ref pC2), (3, .ref pC3), (4, .int xC4)]) rfl ?_
  refine r_aload_n (dc_L_law_9 38 rfl) rfl rfl ?_
  refine r_aload_n (dc_L_law_9 39 rfl) rfl rfl ?_
  refine r_iload (dc_L_law_9 40 rfl) rfl ?_
  refine r_iconst (dc_L_law_9 41 rfl) kiconst_1 ?_
  refine r_iadd (dc_L_law_9 42 rfl) ?_
  obtain ⟨x141, e0, h⟩ := Option.bind_eq_some_iff.mp h
  obtain ⟨hin, ex⟩ := sld_some e0
  refine r_sld (dc_L_law_9 43 rfl) hin ?_
  rw [← ex]
  obtain ⟨x143, s142, e0, h⟩ := wb_some h
  refine r_callV (dc_L_law_9 44 rfl) mv_X10_fall ml_RL_208 (As := [.int x141]) (t_X10_fall (d := d - 1) hl (by omega) e0) (by omega) rfl (Nat.le_of_ble_eq_true rfl) ?_
  refine r_istore (dc_L_law_9 45 rfl) (by decide) (lo' := [(6, .int x143), (5, .int x140), (0, .ref 0), (1, .ref pC1), (2, .ref pC2), (3, .ref pC3), (4, .int xC4)]) rfl ?_
  refine r_aload_n (dc_L_law_9 46 rfl) rfl rfl ?_
  obtain ⟨x144, e0, h⟩ := Option.bind_eq_some_iff.mp h
  refine r_callV (dc_L_law_9 47 rfl) mv_X10_thrown ml_RL_166 (As := []) (t_X10_thrown (d := d - 1) hl (by omega) e0) (by omega) rfl (Nat.le_of_ble_eq_true rfl) ?_
  refine r_iload (dc_L_law_9 48 rfl) rfl ?_
  refine r_icmp_eq (dc_L_law_9 49 rfl) (tgt := 1136) (by decide) (fun c0 => ?_) (fun c0 => ?_)
  · rw [if_pos c0] at h
    refine r_iload (dc_L_law_9 52 rfl) rfl ?_
    refine r_if_ne (dc_L_law_9 53 rfl) (tgt := 1153) (by decide) (fun c0 => ?_) (fun c0 => ?_)
    · rw [if_neg c0] at h
      refine r_goto (dc_L_law_9 63 rfl) (tgt := 3394) (by decide) ?_
      refine r_pick [2, 3, 4, 5, 6] (lo' := [(0, .ref 0), (1, .ref pC1), (2, .ref pC2), (3, .ref pC3), (4, .int xC4)]) rfl ?_
      exact hkJ _ h
    · rw [if_pos c0] at h
      refine r_aload_n (dc_L_law_9 54 rfl) rfl rfl ?_
      refine r_iconst (dc_L_law_9 55 rfl) kiconst_0 ?_
      obtain ⟨y145, e0, h⟩ := Option.bind_eq_some_iff.mp h
      refine r_lald (dc_L_law_9 56 rfl) e0 ?_
      refine r_iload (dc_L_law_9 57 rfl) rfl ?_
      refine r_i2l (dc_L_law_9 58 rfl) ?_
      refine r_lcmp (dc_L_law_9 59 rfl) ?_
      refine r_if_eq (dc_L_law_9 60 rfl) (tgt := 1153) (by decide) (fun c0 => ?_) (fun c0 => ?_)
      · rw [if_pos c0] at h
        refine r_goto (dc_L_law_9 63 rfl) (tgt := 3394) (by decide) ?_
        refine r_pick [2, 3, 4, 5, 6] (lo' := [(0, .ref 0), (1, .ref pC1), (2, .ref pC2), (3, .ref pC3), (4, .int xC4)]) rfl ?_
        exact hkJ _ h
      · rw [if_neg c0] at h
        refine r_iconst (dc_L_law_9 61 rfl) kiconst_0 ?_
        cases h
        exact r_zreturn (dc_L_law_9 62 rfl) rfl (Or.inl rfl)
  · rw [if_neg c0] at h
    refine r_iconst (dc_L_law_9 50 rfl) kiconst_0 ?_
    cases h
    exact r_zreturn (dc_L_law_9 51 rfl) rfl (Or.inl rfl)
theorem l_L_law_C13 {G : Gx} {d : Nat} (hl : G.1.stackTraces = false) (hd : 15 ≤ d) {pC1 : Nat} {pC2 : Nat} {pC3 : Nat} {xC4 : Int32} {sC : Sto} {r : (Int32 × Sto)} {kJ : Sto → Option (Int32 × Sto)} (hkJ : ∀ (sJ : Sto), kJ sJ = some r → J G d m_L_law 3394 [(0, .ref 0), (1, .ref pC1), (2, .ref pC2), (3, .ref pC3), (4, .int xC4)] [] sJ (.inl (some (.int r.1))) r.2) (h : F_L_law_C13 G.sl G.sx pC1 pC2 pC3 xC4 sC kJ = some r) : J G d m_L_law 1156 [(0, .ref 0), (1, .ref pC1), (2, .ref pC2), (3, .ref pC3), (4, .int xC4)] [] sC (.inl (some (.int r.1))) r.2 := by
  rw [F_L_law_C13] at h
  refine r_aload_n (dc_L_law_10 0 rfl) rfl rfl ?_
  refine r_aload_n (dc_L_law_10 1 rfl) rfl rfl ?_
  refine r_iload (dc_L_law_10 2 rfl) rfl ?_
  refine r_iconst (dc_L_law_10 3 rfl) kiconst_1 ?_
  refine r_iadd (dc_L_law_10 4 rfl) ?_
  obtain ⟨x146, e0, h⟩ := Option.bind_eq_some_iff.mp h
  obtain ⟨hin, ex⟩ := sld_some e0
  refine r_sld (dc_L_law_10 5 rfl) hin ?_
  rw [← ex]
  refine r_aload_n (dc_L_law_10 6 rfl) rfl rfl ?_
  refine r_iload (dc_L_law_10 7 rfl) rfl ?_
  refine r_iconst (dc_L_law_10 8 rfl) kiconst_2 ?_
  refine r_iadd (dc_L_law_10 9 rfl) ?_
  obtain ⟨x147, e0, h⟩ := Option.bind_eq_some_iff.mp h
  obtain ⟨hin, ex⟩ := sld_some e0
  refine r_sld (dc_L_law_10 10 rfl) hin ?_
  rw [← ex]
  refine r_aload_n (dc_L_law_10 11 rfl) rfl rfl ?_
  obtain ⟨x149, s148, e0, h⟩ := wb_some h
  refine r_callSH (dc_L_law_10 12 rfl) mh_L_join ml_RL_209 (As := [.ref pC1, .int x146, .int x147, .ref pC3]) (t_L_join (d := d - 1) hl (by omega) e0) (by omega) rfl (Nat.le_of_ble_eq_true rfl) ?_
  refine r_istore (dc_L_law_10 13 rfl) (by decide) (lo' := [(5, .int x149), (0, .ref 0), (1, .ref pC1), (2, .ref pC2), (3, .ref pC3), (4, .int xC4)]) rfl ?_
  refine r_aload_n (dc_L_law_10 14 rfl) rfl rfl ?_
  refine r_aload_n (dc_L_law_10 15 rfl) rfl rfl ?_
  refine r_iload (dc_L_law_10 16 rfl) rfl ?_
  refine r_iconst (dc_L_law_10 17 rfl) kiconst_1 ?_
  refine r_iadd (dc_L_law_10 18 rfl) ?_
  obtain ⟨x150, e0, h⟩ := Option.bind_eq_some_iff.mp h
  obtain ⟨hin, ex⟩ := sld_some e0
  refine r_sld (dc_L_law_10 19 rfl) hin ?_
  rw [← ex]
  refine r_aload_n (dc_L_law_10 20 rfl) rfl rfl ?_
  refine r_iload (dc_L_law_10 21 rfl) rfl ?_
  refine r_iconst (dc_L_law_10 22 rfl) kiconst_2 ?_
  refine r_iadd (dc_L_law_10 23 rfl) ?_
  obtain ⟨x151, e0, h⟩ := Option.bind_eq_some_iff.mp h
  obtain ⟨hin, ex⟩ := sld_some e0
  refine r_sld (dc_L_law_10 24 rfl) hin ?_
  rw [← ex]
  obtain ⟨x153, s152, e0, h⟩ := wb_some h
  refine r_callV (dc_L_law_10 25 rfl) mv_X10_join ml_RL_211 (As := [.int x150, .int x151]) (t_X10_join (d := d - 1) hl (by omega) e0) (by omega) rfl (Nat.le_of_ble_eq_true rfl) ?_
  refine r_istore (dc_L_law_10 26 rfl) (by decide) (lo' := [(6, .int x153), (5, .int x149), (0, .ref 0), (1, .ref pC1), (2, .ref pC2), (3, .ref pC3), (4, .int xC4)]) rfl ?_
  refine r_aload_n (dc_L_law_10 27 rfl) rfl rfl ?_
  obtain ⟨x154, e0, h⟩ := Option.bind_eq_some_iff.mp h
  refine r_callV (dc_L_law_10 28 rfl) mv_X10_thrown ml_RL_166 (As := []) (t_X10_thrown (d := d - 1) hl (by omega) e0) (by omega) rfl (Nat.le_of_ble_eq_true rfl) ?_
  refine r_iload (dc_L_law_10 29 rfl) rfl ?_
  refine r_icmp_eq (dc_L_law_10 30 rfl) (tgt := 1204) (by decide) (fun c0 => ?_) (fun c0 => ?_)
  · rw [if_pos c0] at h
    refine r_iload (dc_L_law_10 33 rfl) rfl ?_
    refine r_if_ne (dc_L_law_10 34 rfl) (tgt := 1221) (by decide) (fun c0 => ?_) (fun c0 => ?_)
    · rw [if_neg c0] at h
      refine r_goto (dc_L_law_10 44 rfl) (tgt := 3394) (by decide) ?_
      refine r_pick [2, 3, 4, 5, 6] (lo' := [(0, .ref 0), (1, .ref pC1), (2, .ref pC2), (3, .ref pC3), (4, .int xC4)]) rfl ?_
      exact hkJ _ h
    · rw [if_pos c0] at h
      refine r_aload_n (dc_L_law_10 35 rfl) rfl rfl ?_
      refine r_iconst (dc_L_law_10 36 rfl) kiconst_0 ?_
      obtain ⟨y155, e0, h⟩ := Option.bind_eq_some_iff.mp h
      refine r_lald (dc_L_law_10 37 rfl) e0 ?_
      refine r_iload (dc_L_law_10 38 rfl) rfl ?_
      refine r_i2l (dc_L_law_10 39 rfl) ?_
      refine r_lcmp (dc_L_law_10 40 rfl) ?_
      refine r_if_eq (dc_L_law_10 41 rfl) (tgt := 1221) (by decide) (fun c0 => ?_) (fun c0 => ?_)
      · rw [if_pos c0] at h
        refine r_goto (dc_L_law_10 44 rfl) (tgt := 3394) (by decide) ?_
        refine r_pick [2, 3, 4, 5, 6] (lo' := [(0, .ref 0), (1, .ref pC1), (2, .ref pC2), (3, .ref pC3), (4, .int xC4)]) rfl ?_
        exact hkJ _ h
      · rw [if_neg c0] at h
        refine r_iconst (dc_L_law_10 42 rfl) kiconst_0 ?_
        cases h
        exact r_zreturn (dc_L_law_10 43 rfl) rfl (Or.inl rfl)
  · rw [if_neg c0] at h
    refine r_iconst (dc_L_law_10 31 rfl) kiconst_0 ?_
    cases h
    exact r_zreturn (dc_L_law_10 32 rfl) rfl (Or.inl rfl)
theorem l_L_law_C14 {G : Gx} {d : Nat} (hl : G.1.stackTraces = false) (hd : 15 ≤ d) {pC1 : Nat} {pC2 : Nat} {pC3 : Nat} {xC4 : Int32} {sC : Sto} {r : (Int32 × Sto)} {kJ : Sto → Option (Int32 × Sto)} (hkJ : ∀ (sJ : Sto), kJ sJ = some r → J G d m_L_law 3394 [(0, .ref 0), (1, .ref pC1), (2, .ref pC2), (3, .ref pC3), (4, .int xC4)] [] sJ (.inl (some (.int r.1))) r.2) (h : F_L_law_C14 G.sl G.sx pC1 pC2 pC3 xC4 sC kJ = some r) : J G d m_L_law 1224 [(0, .ref 0), (1, .ref pC1), (2, .ref pC2), (3, .ref pC3), (4, .int xC4)] [] sC (.inl (some (.int r.1))) r.2 := by
  rw [F_L_law_C14] at h
  refine r_aload_n (dc_L_law_10 45 rfl) rfl rfl ?_
  refine r_aload_n (dc_L_law_10 46 rfl) rfl rfl ?_
  refine r_iload (dc_L_law_10 47 rfl) rfl ?_
  refine r_iconst (dc_L_law_10 48 rfl) kiconst_1 ?_
  refine r_iadd (dc_L_law_10 49 rfl) ?_
  obtain ⟨x156, e0, h⟩ := Option.bind_eq_some_iff.mp h
  obtain ⟨hin, ex⟩ := sld_some e0
  refine r_sld (dc_L_law_10 50 rfl) hin ?_
  rw [← ex]
  refine r_aload_n (dc_L_law_10 51 rfl) rfl rfl ?_
  refine r_iload (dc_L_law_10 52 rfl) rfl ?_
  refine r_iconst (dc_L_law_10 53 rfl) kiconst_2 ?_
  refine r_iadd (dc_L_law_10 54 rfl) ?_
  obtain ⟨x157, e0, h⟩ := Option.bind_eq_some_iff.mp h
  obtain ⟨hin, ex⟩ := sld_some e0
  refine r_sld (dc_L_law_10 55 rfl) hin ?_
  rw [← ex]
  refine r_aload_n (dc_L_law_10 56 rfl) rfl rfl ?_
  obtain ⟨x159, s158, e0, h⟩ := wb_some h
  refine r_callSH (dc_L_law_10 57 rfl) mh_L_chance ml_RL_212 (As := [.ref pC1, .int x156, .int x157, .ref pC3]) (t_L_chance (d := d - 1) hl (by omega) e0) (by omega) rfl (Nat.le_of_ble_eq_true rfl) ?_
  refine r_istore (dc_L_law_10 58 rfl) (by decide) (lo' := [(5, .int x159), (0, .ref 0), (1, .ref pC1), (2, .ref pC2), (3, .ref pC3), (4, .int xC4)]) rfl ?_
  refine r_aload_n (dc_L_law_10 59 rfl) rfl rfl ?_
  refine r_aload_n (dc_L_law_10 60 rfl) rfl rfl ?_
  refine r_iload (dc_L_law_10 61 rfl) rfl ?_
  refine r_iconst (dc_L_law_10 62 rfl) kiconst_1 ?_
  refine r_iadd (dc_L_law_10 63 rfl) ?_
  obtain ⟨x160, e0, h⟩ := Option.bind_eq_some_iff.mp h
  obtain ⟨hin, ex⟩ := sld_some e0
  refine r_sld (dc_L_law_11 0 rfl) hin ?_
  rw [← ex]
  refine r_aload_n (dc_L_law_11 1 rfl) rfl rfl ?_
  refine r_iload (dc_L_law_11 2 rfl) rfl ?_
  refine r_iconst (dc_L_law_11 3 rfl) kiconst_2 ?_
  refine r_iadd (dc_L_law_11 4 rfl) ?_
  obtain ⟨x161, e0, h⟩ := Option.bind_eq_some_iff.mp h
  obtain ⟨hin, ex⟩ := sld_some e0
  refine r_sld (dc_L_law_11 5 rfl) hin ?_
  rw [← ex]
  obtain ⟨x163, s162, e0, h⟩ := wb_some h
  refine r_callV (dc_L_law_11 6 rfl) mv_X10_chance ml_RL_214 (As := [.int x160, .int x161]) (t_X10_chance (d := d - 1) hl (by omega) e0) (by omega) rfl (Nat.le_of_ble_eq_true rfl) ?_
  refine r_istore (dc_L_law_11 7 rfl) (by decide) (lo' := [(6, .int x163), (5, .int x159), (0, .ref 0), (1, .ref pC1), (2, .ref pC2), (3, .ref pC3), (4, .int xC4)]) rfl ?_
  refine r_aload_n (dc_L_law_11 8 rfl) rfl rfl ?_
  obtain ⟨x164, e0, h⟩ := Option.bind_eq_some_iff.mp h
  refine r_callV (dc_L_law_11 9 rfl) mv_X10_thrown ml_RL_166 (As := []) (t_X10_thrown (d := d - 1) hl (by omega) e0) (by omega) rfl (Nat.le_of_ble_eq_true rfl) ?_
  refine r_iload (dc_L_law_11 10 rfl) rfl ?_
  refine r_icmp_eq (dc_L_law_11 11 rfl) (tgt := 1272) (by decide) (fun c0 => ?_) (fun c0 => ?_)
  · rw [if_pos c0] at h
    refine r_iload (dc_L_law_11 14 rfl) rfl ?_
    refine r_if_ne (dc_L_law_11 15 rfl) (tgt := 1289) (by decide) (fun c0 => ?_) (fun c0 => ?_)
    · rw [if_neg c0] at h
      refine r_goto (dc_L_law_11 25 rfl) (tgt := 3394) (by decide) ?_
      refine r_pick [2, 3, 4, 5, 6] (lo' := [(0, .ref 0), (1, .ref pC1), (2, .ref pC2), (3, .ref pC3), (4, .int xC4)]) rfl ?_
      exact hkJ _ h
    · rw [if_pos c0] at h
      refine r_aload_n (dc_L_law_11 16 rfl) rfl rfl ?_
      refine r_iconst (dc_L_law_11 17 rfl) kiconst_0 ?_
      obtain ⟨y165, e0, h⟩ := Option.bind_eq_some_iff.mp h
      refine r_lald (dc_L_law_11 18 rfl) e0 ?_
      refine r_iload (dc_L_law_11 19 rfl) rfl ?_
      refine r_i2l (dc_L_law_11 20 rfl) ?_
      refine r_lcmp (dc_L_law_11 21 rfl) ?_
      refine r_if_eq (dc_L_law_11 22 rfl) (tgt := 1289) (by decide) (fun c0 => ?_) (fun c0 => ?_)
      · rw [if_pos c0] at h
        refine r_goto (dc_L_law_11 25 rfl) (tgt := 3394) (by decide) ?_
        refine r_pick [2, 3, 4, 5, 6] (lo' := [(0, .ref 0), (1, .ref pC1), (2, .ref pC2), (3, .ref pC3), (4, .int xC4)]) rfl ?_
        exact hkJ _ h
      · rw [if_neg c0] at h
        refine r_iconst (dc_L_law_11 23 rfl) kiconst_0 ?_
        cases h
        exact r_zreturn (dc_L_law_11 24 rfl) rfl (Or.inl rfl)
  · rw [if_neg c0] at h
    refine r_iconst (dc_L_law_11 12 rfl) kiconst_0 ?_
    cases h
    exact r_zreturn (dc_L_law_11 13 rfl) rfl (Or.inl rfl)
theorem l_L_law_C15 {G : Gx} {d : Nat} (hl : G.1.stackTraces = false) (hd : 15 ≤ d) {pC1 : Nat} {pC2 : Nat} {pC3 : Nat} {xC4 : Int32} {sC : Sto} {r : (Int32 × Sto)} {kJ : Sto → Option (Int32 × Sto)} (hkJ : ∀ (sJ : Sto), kJ sJ = some r → J G d m_L_law 3394 [(0, .ref 0), (1, .ref pC1), (2, .ref pC2), (3, .ref pC3), (4, .int xC4)] [] sJ (.inl (some (.int r.1))) r.2) (h : F_L_law_C15 G.sl G.sx pC1 pC2 pC3 xC4 sC kJ = some r) : J G d m_L_law 1292 [(0, .ref 0), (1, .ref pC1), (2, .ref pC2), (3, .ref pC3), (4, .int xC4)] [] sC (.inl (some (.int r.1))) r.2 := by
  rw [F_L_law_C15] at h
  refine r_aload_n (dc_L_law_11 26 rfl) rfl rfl ?_
  refine r_aload_n (dc_L_law_11 27 rfl) rfl rfl ?_
  refine r_iload (dc_L_law_11 28 rfl) rfl ?_
  refine r_iconst (dc_L_law_11 29 rfl) kiconst_1 ?_
  refine r_iadd (dc_L_law_11 30 rfl) ?_
  obtain ⟨x166, e0, h⟩ := Option.bind_eq_some_iff.mp h
  obtain ⟨hin, ex⟩ := sld_some e0
  refine r_sld (dc_L_law_11 31 rfl) hin ?_
  rw [← ex]
  refine r_aload_n (dc_L_law_11 32 rfl) rfl rfl ?_
  obtain ⟨x168, s167, e0, h⟩ := wb_some h
  refine r_callSH (dc_L_law_11 33 rfl) mh_L_keep ml_RL_215 (As := [.ref pC1, .int x166, .ref pC3]) (t_L_keep (d := d - 1) hl (by omega) e0) (by omega) rfl (Nat.le_of_ble_eq_true rfl) ?_
  refine r_istore (dc_L_law_11 34 rfl) (by decide) (lo' := [(5, .int x168), (0, .ref 0), (1, .ref pC1), (2, .ref pC2), (3, .ref pC3), (4, .int xC4)]) rfl ?_
  refine r_aload_n (dc_L_law_11 35 rfl) rfl rfl ?_
  refine r_aload_n (dc_L_law_11 36 rfl) rfl rfl ?_
  refine r_iload (dc_L_law_11 37 rfl) rfl ?_
  refine r_iconst (dc_L_law_11 38 rfl) kiconst_1 ?_
  refine r_iadd (dc_L_law_11 39 rfl) ?_
  obtain ⟨x169, e0, h⟩ := Option.bind_eq_some_iff.mp h
  obtain ⟨hin, ex⟩ := sld_some e0
  refine r_sld (dc_L_law_11 40 rfl) hin ?_
  rw [← ex]
  obtain ⟨x171, s170, e0, h⟩ := wb_some h
  refine r_callV (dc_L_law_11 41 rfl) mv_X10_keep ml_RL_217 (As := [.int x169]) (t_X10_keep (d := d - 1) hl (by omega) e0) (by omega) rfl (Nat.le_of_ble_eq_true rfl) ?_
  refine r_istore (dc_L_law_11 42 rfl) (by decide) (lo' := [(6, .int x171), (5, .int x168), (0, .ref 0), (1, .ref pC1), (2, .ref pC2), (3, .ref pC3), (4, .int xC4)]) rfl ?_
  refine r_aload_n (dc_L_law_11 43 rfl) rfl rfl ?_
  obtain ⟨x172, e0, h⟩ := Option.bind_eq_some_iff.mp h
  refine r_callV (dc_L_law_11 44 rfl) mv_X10_thrown ml_RL_166 (As := []) (t_X10_thrown (d := d - 1) hl (by omega) e0) (by omega) rfl (Nat.le_of_ble_eq_true rfl) ?_
  refine r_iload (dc_L_law_11 45 rfl) rfl ?_
  refine r_icmp_eq (dc_L_law_11 46 rfl) (tgt := 1328) (by decide) (fun c0 => ?_) (fun c0 => ?_)
  · rw [if_pos c0] at h
    refine r_iload (dc_L_law_11 49 rfl) rfl ?_
    refine r_if_ne (dc_L_law_11 50 rfl) (tgt := 1345) (by decide) (fun c0 => ?_) (fun c0 => ?_)
    · rw [if_neg c0] at h
      refine r_goto (dc_L_law_11 60 rfl) (tgt := 3394) (by decide) ?_
      refine r_pick [2, 3, 4, 5, 6] (lo' := [(0, .ref 0), (1, .ref pC1), (2, .ref pC2), (3, .ref pC3), (4, .int xC4)]) rfl ?_
      exact hkJ _ h
    · rw [if_pos c0] at h
      refine r_aload_n (dc_L_law_11 51 rfl) rfl rfl ?_
      refine r_iconst (dc_L_law_11 52 rfl) kiconst_0 ?_
      obtain ⟨y173, e0, h⟩ := Option.bind_eq_some_iff.mp h
      refine r_lald (dc_L_law_11 53 rfl) e0 ?_
      refine r_iload (dc_L_law_11 54 rfl) rfl ?_
      refine r_i2l (dc_L_law_11 55 rfl) ?_
      refine r_lcmp (dc_L_law_11 56 rfl) ?_
      refine r_if_eq (dc_L_law_11 57 rfl) (tgt := 1345) (by decide) (fun c0 => ?_) (fun c0 => ?_)
      · rw [if_pos c0] at h
        refine r_goto (dc_L_law_11 60 rfl) (tgt := 3394) (by decide) ?_
        refine r_pick [2, 3, 4, 5, 6] (lo' := [(0, .ref 0), (1, .ref pC1), (2, .ref pC2), (3, .ref pC3), (4, .int xC4)]) rfl ?_
        exact hkJ _ h
      · rw [if_neg c0] at h
        refine r_iconst (dc_L_law_11 58 rfl) kiconst_0 ?_
        cases h
        exact r_zreturn (dc_L_law_11 59 rfl) rfl (Or.inl rfl)
  · rw [if_neg c0] at h
    refine r_iconst (dc_L_law_11 47 rfl) kiconst_0 ?_
    cases h
    exact r_zreturn (dc_L_law_11 48 rfl) rfl (Or.inl rfl)
theorem l_L_law_C16 {G : Gx} {d : Nat} (hl : G.1.stackTraces = false) (hd : 15 ≤ d) {pC1 : Nat} {pC2 : Nat} {pC3 : Nat} {xC4 : Int32} {sC : Sto} {r : (Int32 × Sto)} {kJ : Sto → Option (Int32 × Sto)} (hkJ : ∀ (sJ : Sto), kJ sJ = some r → J G d m_L_law 3394 [(0, .ref 0), (1, .ref pC1), (2, .ref pC2), (3, .ref pC3), (4, .int xC4)] [] sJ (.inl (some (.int r.1))) r.2) (h : F_L_law_C16 G.sl G.sx pC1 pC2 pC3 xC4 sC kJ = some r) : J G d m_L_law 1348 [(0, .ref 0), (1, .ref pC1), (2, .ref pC2), (3, .ref pC3), (4, .int xC4)] [] sC (.inl (some (.int r.1))) r.2 := by
  rw [F_L_law_C16] at h
  refine r_aload_n (dc_L_law_11 61 rfl) rfl rfl ?_
  refine r_aload_n (dc_L_law_11 62 rfl) rfl rfl ?_
  refine r_iload (dc_L_law_11 63 rfl) rfl ?_
  refine r_iconst (dc_L_law_12 0 rfl) kiconst_1 ?_
  refine r_iadd (dc_L_law_12 1 rfl) ?_
  obtain ⟨x174, e0, h⟩ := Option.bind_eq_some_iff.mp h
  obtain ⟨hin, ex⟩ := sld_some e0
  refine r_sld (dc_L_law_12 2 rfl) hin ?_
  rw [← ex]
  refine r_aload_n (dc_L_law_12 3 rfl) rfl rfl ?_
  obtain ⟨x176, s175, e0, h⟩ := wb_some h
  refine r_callSH (dc_L_law_12 4 rfl) mh_L_back ml_RL_218 (As := [.ref pC1, .int x174, .ref pC3]) (t_L_back (d := d - 1) hl (by omega) e0) (by omega) rfl (Nat.le_of_ble_eq_true rfl) ?_
  refine r_istore (dc_L_law_12 5 rfl) (by decide) (lo' := [(5, .int x176), (0, .ref 0), (1, .ref pC1), (2, .ref pC2), (3, .ref pC3), (4, .int xC4)]) rfl ?_
  refine r_aload_n (dc_L_law_12 6 rfl) rfl rfl ?_
  refine r_aload_n (dc_L_law_12 7 rfl) rfl rfl ?_
  refine r_iload (dc_L_law_12 8 rfl) rfl ?_
  refine r_iconst (dc_L_law_12 9 rfl) kiconst_1 ?_
  refine r_iadd (dc_L_law_12 10 rfl) ?_
  obtain ⟨x177, e0, h⟩ := Option.bind_eq_some_iff.mp h
  obtain ⟨hin, ex⟩ := sld_some e0
  refine r_sld (dc_L_law_12 11 rfl) hin ?_
  rw [← ex]
  obtain ⟨x179, s178, e0, h⟩ := wb_some h
  refine r_callV (dc_L_law_12 12 rfl) mv_X10_back ml_RL_220 (As := [.int x177]) (t_X10_back (d := d - 1) hl (by omega) e0) (by omega) rfl (Nat.le_of_ble_eq_true rfl) ?_
  refine r_istore (dc_L_law_12 13 rfl) (by decide) (lo' := [(6, .int x179), (5, .int x176), (0, .ref 0), (1, .ref pC1), (2, .ref pC2), (3, .ref pC3), (4, .int xC4)]) rfl ?_
  refine r_aload_n (dc_L_law_12 14 rfl) rfl rfl ?_
  obtain ⟨x180, e0, h⟩ := Option.bind_eq_some_iff.mp h
  refine r_callV (dc_L_law_12 15 rfl) mv_X10_thrown ml_RL_166 (As := []) (t_X10_thrown (d := d - 1) hl (by omega) e0) (by omega) rfl (Nat.le_of_ble_eq_true rfl) ?_
  refine r_iload (dc_L_law_12 16 rfl) rfl ?_
  refine r_icmp_eq (dc_L_law_12 17 rfl) (tgt := 1384) (by decide) (fun c0 => ?_) (fun c0 => ?_)
  · rw [if_pos c0] at h
    refine r_iload (dc_L_law_12 20 rfl) rfl ?_
    refine r_if_ne (dc_L_law_12 21 rfl) (tgt := 1401) (by decide) (fun c0 => ?_) (fun c0 => ?_)
    · rw [if_neg c0] at h
      refine r_goto (dc_L_law_12 31 rfl) (tgt := 3394) (by decide) ?_
      refine r_pick [2, 3, 4, 5, 6] (lo' := [(0, .ref 0), (1, .ref pC1), (2, .ref pC2), (3, .ref pC3), (4, .int xC4)]) rfl ?_
      exact hkJ _ h
    · rw [if_pos c0] at h
      refine r_aload_n (dc_L_law_12 22 rfl) rfl rfl ?_
      refine r_iconst (dc_L_law_12 23 rfl) kiconst_0 ?_
      obtain ⟨y181, e0, h⟩ := Option.bind_eq_some_iff.mp h
      refine r_lald (dc_L_law_12 24 rfl) e0 ?_
      refine r_iload (dc_L_law_12 25 rfl) rfl ?_
      refine r_i2l (dc_L_law_12 26 rfl) ?_
      refine r_lcmp (dc_L_law_12 27 rfl) ?_
      refine r_if_eq (dc_L_law_12 28 rfl) (tgt := 1401) (by decide) (fun c0 => ?_) (fun c0 => ?_)
      · rw [if_pos c0] at h
        refine r_goto (dc_L_law_12 31 rfl) (tgt := 3394) (by decide) ?_
        refine r_pick [2, 3, 4, 5, 6] (lo' := [(0, .ref 0), (1, .ref pC1), (2, .ref pC2), (3, .ref pC3), (4, .int xC4)]) rfl ?_
        exact hkJ _ h
      · rw [if_neg c0] at h
        refine r_iconst (dc_L_law_12 29 rfl) kiconst_0 ?_
        cases h
        exact r_zreturn (dc_L_law_12 30 rfl) rfl (Or.inl rfl)
  · rw [if_neg c0] at h
    refine r_iconst (dc_L_law_12 18 rfl) kiconst_0 ?_
    cases h
    exact r_zreturn (dc_L_law_12 19 rfl) rfl (Or.inl rfl)
theorem l_L_law_C17 {G : Gx} {d : Nat} (hl : G.1.stackTraces = false) (hd : 15 ≤ d) {pC1 : Nat} {pC2 : Nat} {pC3 : Nat} {xC4 : Int32} {sC : Sto} {r : (Int32 × Sto)} {kJ : Sto → Option (Int32 × Sto)} (hkJ : ∀ (sJ : Sto), kJ sJ = some r → J G d m_L_law 3394 [(0, .ref 0), (1, .ref pC1), (2, .ref pC2), (3, .ref pC3), (4, .int xC4)] [] sJ (.inl (some (.int r.1))) r.2) (h : F_L_law_C17 G.sl G.sx pC1 pC2 pC3 xC4 sC kJ = some r) : J G d m_L_law 1404 [(0, .ref 0), (1, .ref pC1), (2, .ref pC2), (3, .ref pC3), (4, .int xC4)] [] sC (.inl (some (.int r.1))) r.2 := by
  rw [F_L_law_C17] at h
  refine r_aload_n (dc_L_law_12 32 rfl) rfl rfl ?_
  refine r_aload_n (dc_L_law_12 33 rfl) rfl rfl ?_
  refine r_iload (dc_L_law_12 34 rfl) rfl ?_
  refine r_iconst (dc_L_law_12 35 rfl) kiconst_1 ?_
  refine r_iadd (dc_L_law_12 36 rfl) ?_
  obtain ⟨x182, e0, h⟩ := Option.bind_eq_some_iff.mp h
  obtain ⟨hin, ex⟩ := sld_some e0
  refine r_sld (dc_L_law_12 37 rfl) hin ?_
  rw [← ex]
  refine r_aload_n (dc_L_law_12 38 rfl) rfl rfl ?_
  refine r_iload (dc_L_law_12 39 rfl) rfl ?_
  refine r_iconst (dc_L_law_12 40 rfl) kiconst_2 ?_
  refine r_iadd (dc_L_law_12 41 rfl) ?_
  obtain ⟨x183, e0, h⟩ := Option.bind_eq_some_iff.mp h
  obtain ⟨hin, ex⟩ := sld_some e0
  refine r_sld (dc_L_law_12 42 rfl) hin ?_
  rw [← ex]
  refine r_aload_n (dc_L_law_12 43 rfl) rfl rfl ?_
  refine r_iload (dc_L_law_12 44 rfl) rfl ?_
  refine r_iconst (dc_L_law_12 45 rfl) kiconst_3 ?_
  refine r_iadd (dc_L_law_12 46 rfl) ?_
  obtain ⟨x184, e0, h⟩ := Option.bind_eq_some_iff.mp h
  obtain ⟨hin, ex⟩ := sld_some e0
  refine r_sld (dc_L_law_12 47 rfl) hin ?_
  rw [← ex]
  refine jn_elim h (Q := fun (j : Int32 → Option (Int32 × Sto)) => ∀ (x186 : Int32), j x186 = some r → J G d m_L_law 1431 [(0, .ref 0), (1, .ref pC1), (2, .ref pC2), (3, .ref pC3), (4, .int xC4)] [.int x186, .int x183, .int x182, .ref pC1] sC (.inl (some (.int r.1))) r.2) ?_ (fun j185 hj185 h => ?_)
  · intro x186 h
    refine r_aload_n (dc_L_law_12 52 rfl) rfl rfl ?_
    obtain ⟨x188, s187, e0, h⟩ := wb_some h
    refine r_callSH (dc_L_law_12 53 rfl) mh_L_cut ml_RL_221 (As := [.ref pC1, .int x182, .int x183, .int x186, .ref pC3]) (t_L_cut (d := d - 1) hl (by omega) e0) (by omega) rfl (Nat.le_of_ble_eq_true rfl) ?_
    refine r_istore (dc_L_law_12 54 rfl) (by decide) (lo' := [(5, .int x188), (0, .ref 0), (1, .ref pC1), (2, .ref pC2), (3, .ref pC3), (4, .int xC4)]) rfl ?_
    refine r_aload_n (dc_L_law_12 55 rfl) rfl rfl ?_
    refine r_aload_n (dc_L_law_12 56 rfl) rfl rfl ?_
    refine r_iload (dc_L_law_12 57 rfl) rfl ?_
    refine r_iconst (dc_L_law_12 58 rfl) kiconst_1 ?_
    refine r_iadd (dc_L_law_12 59 rfl) ?_
    obtain ⟨x189, e0, h⟩ := Option.bind_eq_some_iff.mp h
    obtain ⟨hin, ex⟩ := sld_some e0
    refine r_sld (dc_L_law_12 60 rfl) hin ?_
    rw [← ex]
    refine r_aload_n (dc_L_law_12 61 rfl) rfl rfl ?_
    refine r_iload (dc_L_law_12 62 rfl) rfl ?_
    refine r_iconst (dc_L_law_12 63 rfl) kiconst_2 ?_
    refine r_iadd (dc_L_law_13 0 rfl) ?_
    obtain ⟨x190, e0, h⟩ := Option.bind_eq_some_iff.mp h
    obtain ⟨hin, ex⟩ := sld_some e0
    refine r_sld (dc_L_law_13 1 rfl) hin ?_
    rw [← ex]
    refine r_aload_n (dc_L_law_13 2 rfl) rfl rfl ?_
    refine r_iload (dc_L_law_13 3 rfl) rfl ?_
    refine r_iconst (dc_L_law_13 4 rfl) kiconst_3 ?_
    refine r_iadd (dc_L_law_13 5 rfl) ?_
    obtain ⟨x191, e0, h⟩ := Option.bind_eq_some_iff.mp h
    obtain ⟨hin, ex⟩ := sld_some e0
    refine r_sld (dc_L_law_13 6 rfl) hin ?_
    rw [← ex]
    refine jn_elim h (Q := fun (j : Int32 → Option (Int32 × Sto)) => ∀ (x193 : Int32), j x193 = some r → J G d m_L_law 1464 [(0, .ref 0), (1, .ref pC1), (2, .ref pC2), (3, .ref pC3), (4, .int xC4), (5, .int x188)] [.int x193, .int x190, .int x189, .ref pC2] s187 (.inl (some (.int r.1))) r.2) ?_ (fun j192 hj192 h => ?_)
    · intro x193 h
      obtain ⟨x195, s194, e0, h⟩ := wb_some h
      refine r_callV (dc_L_law_13 11 rfl) mv_X10_cut ml_RL_224 (As := [.int x189, .int x190, .int x193]) (t_X10_cut (d := d - 1) hl (by omega) e0) (by omega) rfl (Nat.le_of_ble_eq_true rfl) ?_
      refine r_istore (dc_L_law_13 12 rfl) (by decide) (lo' := [(6, .int x195), (0, .ref 0), (1, .ref pC1), (2, .ref pC2), (3, .ref pC3), (4, .int xC4), (5, .int x188)]) rfl ?_
      refine r_aload_n (dc_L_law_13 13 rfl) rfl rfl ?_
      obtain ⟨x196, e0, h⟩ := Option.bind_eq_some_iff.mp h
      refine r_callV (dc_L_law_13 14 rfl) mv_X10_thrown ml_RL_166 (As := []) (t_X10_thrown (d := d - 1) hl (by omega) e0) (by omega) rfl (Nat.le_of_ble_eq_true rfl) ?_
      refine r_iload (dc_L_law_13 15 rfl) rfl ?_
      refine r_icmp_eq (dc_L_law_13 16 rfl) (tgt := 1480) (by decide) (fun c0 => ?_) (fun c0 => ?_)
      · rw [if_pos c0] at h
        refine r_iload (dc_L_law_13 19 rfl) rfl ?_
        refine r_if_ne (dc_L_law_13 20 rfl) (tgt := 1504) (by decide) (fun c0 => ?_) (fun c0 => ?_)
        · rw [if_neg c0] at h
          refine r_goto (dc_L_law_13 33 rfl) (tgt := 3394) (by decide) ?_
          refine r_pick [1, 2, 3, 4, 5] (lo' := [(0, .ref 0), (1, .ref pC1), (2, .ref pC2), (3, .ref pC3), (4, .int xC4)]) rfl ?_
          exact hkJ _ h
        · rw [if_pos c0] at h
          refine r_aload_n (dc_L_law_13 21 rfl) rfl rfl ?_
          refine r_iconst (dc_L_law_13 22 rfl) kiconst_0 ?_
          obtain ⟨y197, e0, h⟩ := Option.bind_eq_some_iff.mp h
          refine r_lald (dc_L_law_13 23 rfl) e0 ?_
          refine r_iload (dc_L_law_13 24 rfl) rfl ?_
          refine jn_elim h (Q := fun (j : Int64 → Option (Int32 × Sto)) => ∀ (y199 : Int64), j y199 = some r → J G d m_L_law 1498 [(0, .ref 0), (1, .ref pC1), (2, .ref pC2), (3, .ref pC3), (4, .int xC4)] [.long y199, .long y197] s194 (.inl (some (.int r.1))) r.2) ?_ (fun j198 hj198 h => ?_)
          · intro y199 h
            refine r_lcmp (dc_L_law_13 29 rfl) ?_
            refine r_if_eq (dc_L_law_13 30 rfl) (tgt := 1504) (by decide) (fun c0 => ?_) (fun c0 => ?_)
            · rw [if_pos c0] at h
              refine r_goto (dc_L_law_13 33 rfl) (tgt := 3394) (by decide) ?_
              exact hkJ _ h
            · rw [if_neg c0] at h
              refine r_iconst (dc_L_law_13 31 rfl) kiconst_0 ?_
              cases h
              exact r_zreturn (dc_L_law_13 32 rfl) rfl (Or.inl rfl)
          refine r_if_eq (dc_L_law_13 25 rfl) (tgt := 1497) (by decide) (fun c0 => ?_) (fun c0 => ?_)
          · rw [if_pos c0] at h
            refine r_lconst (dc_L_law_13 28 rfl) klconst_0 ?_
            refine r_pick [1, 2, 3, 4, 5] (lo' := [(0, .ref 0), (1, .ref pC1), (2, .ref pC2), (3, .ref pC3), (4, .int xC4)]) rfl ?_
            exact hj198 _ h
          · rw [if_neg c0] at h
            refine r_lconst (dc_L_law_13 26 rfl) klconst_1 ?_
            refine r_goto (dc_L_law_13 27 rfl) (tgt := 1498) (by decide) ?_
            refine r_pick [1, 2, 3, 4, 5] (lo' := [(0, .ref 0), (1, .ref pC1), (2, .ref pC2), (3, .ref pC3), (4, .int xC4)]) rfl ?_
            exact hj198 _ h
      · rw [if_neg c0] at h
        refine r_iconst (dc_L_law_13 17 rfl) kiconst_0 ?_
        cases h
        exact r_zreturn (dc_L_law_13 18 rfl) rfl (Or.inl rfl)
    refine r_if_eq (dc_L_law_13 7 rfl) (tgt := 1463) (by decide) (fun c0 => ?_) (fun c0 => ?_)
    · rw [if_pos c0] at h
      refine r_iconst (dc_L_law_13 10 rfl) kiconst_0 ?_
      refine r_pick [1, 2, 3, 4, 5, 0] (lo' := [(0, .ref 0), (1, .ref pC1), (2, .ref pC2), (3, .ref pC3), (4, .int xC4), (5, .int x188)]) rfl ?_
      exact hj192 _ h
    · rw [if_neg c0] at h
      refine r_iconst (dc_L_law_13 8 rfl) kiconst_1 ?_
      refine r_goto (dc_L_law_13 9 rfl) (tgt := 1464) (by decide) ?_
      refine r_pick [1, 2, 3, 4, 5, 0] (lo' := [(0, .ref 0), (1, .ref pC1), (2, .ref pC2), (3, .ref pC3), (4, .int xC4), (5, .int x188)]) rfl ?_
      exact hj192 _ h
  refine r_if_eq (dc_L_law_12 48 rfl) (tgt := 1430) (by decide) (fun c0 => ?_) (fun c0 => ?_)
  · rw [if_pos c0] at h
    refine r_iconst (dc_L_law_12 51 rfl) kiconst_0 ?_
    exact hj185 _ h
  · rw [if_neg c0] at h
    refine r_iconst (dc_L_law_12 49 rfl) kiconst_1 ?_
    refine r_goto (dc_L_law_12 50 rfl) (tgt := 1431) (by decide) ?_
    exact hj185 _ h
theorem l_L_law_C18 {G : Gx} {d : Nat} (hl : G.1.stackTraces = false) (hd : 15 ≤ d) {pC1 : Nat} {pC2 : Nat} {pC3 : Nat} {xC4 : Int32} {sC : Sto} {r : (Int32 × Sto)} {kJ : Sto → Option (Int32 × Sto)} (hkJ : ∀ (sJ : Sto), kJ sJ = some r → J G d m_L_law 3394 [(0, .ref 0), (1, .ref pC1), (2, .ref pC2), (3, .ref pC3), (4, .int xC4)] [] sJ (.inl (some (.int r.1))) r.2) (h : F_L_law_C18 G.sl G.sx pC1 pC2 pC3 xC4 sC kJ = some r) : J G d m_L_law 1507 [(0, .ref 0), (1, .ref pC1), (2, .ref pC2), (3, .ref pC3), (4, .int xC4)] [] sC (.inl (some (.int r.1))) r.2 := by
  rw [F_L_law_C18] at h
  refine r_aload_n (dc_L_law_13 34 rfl) rfl rfl ?_
  refine r_aload_n (dc_L_law_13 35 rfl) rfl rfl ?_
  refine r_iload (dc_L_law_13 36 rfl) rfl ?_
  refine r_iconst (dc_L_law_13 37 rfl) kiconst_1 ?_
  refine r_iadd (dc_L_law_13 38 rfl) ?_
  obtain ⟨x200, e0, h⟩ := Option.bind_eq_some_iff.mp h
  obtain ⟨hin, ex⟩ := sld_some e0
  refine r_sld (dc_L_law_13 39 rfl) hin ?_
  rw [← ex]
  refine r_aload_n (dc_L_law_13 40 rfl) rfl rfl ?_
  refine r_iload (dc_L_law_13 41 rfl) rfl ?_
  refine r_iconst (dc_L_law_13 42 rfl) kiconst_2 ?_
  refine r_iadd (dc_L_law_13 43 rfl) ?_
  obtain ⟨x201, e0, h⟩ := Option.bind_eq_some_iff.mp h
  obtain ⟨hin, ex⟩ := sld_some e0
  refine r_sld (dc_L_law_13 44 rfl) hin ?_
  rw [← ex]
  refine r_aload_n (dc_L_law_13 45 rfl) rfl rfl ?_
  refine r_iload (dc_L_law_13 46 rfl) rfl ?_
  refine r_iconst (dc_L_law_13 47 rfl) kiconst_3 ?_
  refine r_iadd (dc_L_law_13 48 rfl) ?_
  obtain ⟨x202, e0, h⟩ := Option.bind_eq_some_iff.mp h
  obtain ⟨hin, ex⟩ := sld_some e0
  refine r_sld (dc_L_law_13 49 rfl) hin ?_
  rw [← ex]
  refine r_aload_n (dc_L_law_13 50 rfl) rfl rfl ?_
  obtain ⟨x204, s203, e0, h⟩ := wb_some h
  refine r_callSH (dc_L_law_13 51 rfl) mh_L_view ml_RL_225 (As := [.ref pC1, .int x200, .int x201, .int x202, .ref pC3]) (t_L_view (d := d - 1) hl (by omega) e0) (by omega) rfl (Nat.le_of_ble_eq_true rfl) ?_
  refine r_istore (dc_L_law_13 52 rfl) (by decide) (lo' := [(5, .int x204), (0, .ref 0), (1, .ref pC1), (2, .ref pC2), (3, .ref pC3), (4, .int xC4)]) rfl ?_
  refine r_aload_n (dc_L_law_13 53 rfl) rfl rfl ?_
  refine r_aload_n (dc_L_law_13 54 rfl) rfl rfl ?_
  refine r_iload (dc_L_law_13 55 rfl) rfl ?_
  refine r_iconst (dc_L_law_13 56 rfl) kiconst_1 ?_
  refine r_iadd (dc_L_law_13 57 rfl) ?_
  obtain ⟨x205, e0, h⟩ := Option.bind_eq_some_iff.mp h
  obtain ⟨hin, ex⟩ := sld_some e0
  refine r_sld (dc_L_law_13 58 rfl) hin ?_
  rw [← ex]
  refine r_aload_n (dc_L_law_13 59 rfl) rfl rfl ?_
  refine r_iload (dc_L_law_13 60 rfl) rfl ?_
  refine r_iconst (dc_L_law_13 61 rfl) kiconst_2 ?_
  refine r_iadd (dc_L_law_13 62 rfl) ?_
  obtain ⟨x206, e0, h⟩ := Option.bind_eq_some_iff.mp h
  obtain ⟨hin, ex⟩ := sld_some e0
  refine r_sld (dc_L_law_13 63 rfl) hin ?_
  rw [← ex]
  refine r_aload_n (dc_L_law_14 0 rfl) rfl rfl ?_
  refine r_iload (dc_L_law_14 1 rfl) rfl ?_
  refine r_iconst (dc_L_law_14 2 rfl) kiconst_3 ?_
  refine r_iadd (dc_L_law_14 3 rfl) ?_
  obtain ⟨x207, e0, h⟩ := Option.bind_eq_some_iff.mp h
  obtain ⟨hin, ex⟩ := sld_some e0
  refine r_sld (dc_L_law_14 4 rfl) hin ?_
  rw [← ex]
  obtain ⟨x209, s208, e0, h⟩ := wb_some h
  refine r_callV (dc_L_law_14 5 rfl) mv_X10_view ml_RL_227 (As := [.int x205, .int x206, .int x207]) (t_X10_view (d := d - 1) hl (by omega) e0) (by omega) rfl (Nat.le_of_ble_eq_true rfl) ?_
  refine r_istore (dc_L_law_14 6 rfl) (by decide) (lo' := [(6, .int x209), (5, .int x204), (0, .ref 0), (1, .ref pC1), (2, .ref pC2), (3, .ref pC3), (4, .int xC4)]) rfl ?_
  refine r_aload_n (dc_L_law_14 7 rfl) rfl rfl ?_
  obtain ⟨x210, e0, h⟩ := Option.bind_eq_some_iff.mp h
  refine r_callV (dc_L_law_14 8 rfl) mv_X10_thrown ml_RL_166 (As := []) (t_X10_thrown (d := d - 1) hl (by omega) e0) (by omega) rfl (Nat.le_of_ble_eq_true rfl) ?_
  refine r_iload (dc_L_law_14 9 rfl) rfl ?_
  refine r_icmp_eq (dc_L_law_14 10 rfl) (tgt := 1567) (by decide) (fun c0 => ?_) (fun c0 => ?_)
  · rw [if_pos c0] at h
    refine r_iload (dc_L_law_14 13 rfl) rfl ?_
    refine r_if_ne (dc_L_law_14 14 rfl) (tgt := 1584) (by decide) (fun c0 => ?_) (fun c0 => ?_)
    · rw [if_neg c0] at h
      refine r_goto (dc_L_law_14 24 rfl) (tgt := 3394) (by decide) ?_
      refine r_pick [2, 3, 4, 5, 6] (lo' := [(0, .ref 0), (1, .ref pC1), (2, .ref pC2), (3, .ref pC3), (4, .int xC4)]) rfl ?_
      exact hkJ _ h
    · rw [if_pos c0] at h
      refine r_aload_n (dc_L_law_14 15 rfl) rfl rfl ?_
      refine r_iconst (dc_L_law_14 16 rfl) kiconst_0 ?_
      obtain ⟨y211, e0, h⟩ := Option.bind_eq_some_iff.mp h
      refine r_lald (dc_L_law_14 17 rfl) e0 ?_
      refine r_iload (dc_L_law_14 18 rfl) rfl ?_
      refine r_i2l (dc_L_law_14 19 rfl) ?_
      refine r_lcmp (dc_L_law_14 20 rfl) ?_
      refine r_if_eq (dc_L_law_14 21 rfl) (tgt := 1584) (by decide) (fun c0 => ?_) (fun c0 => ?_)
      · rw [if_pos c0] at h
        refine r_goto (dc_L_law_14 24 rfl) (tgt := 3394) (by decide) ?_
        refine r_pick [2, 3, 4, 5, 6] (lo' := [(0, .ref 0), (1, .ref pC1), (2, .ref pC2), (3, .ref pC3), (4, .int xC4)]) rfl ?_
        exact hkJ _ h
      · rw [if_neg c0] at h
        refine r_iconst (dc_L_law_14 22 rfl) kiconst_0 ?_
        cases h
        exact r_zreturn (dc_L_law_14 23 rfl) rfl (Or.inl rfl)
  · rw [if_neg c0] at h
    refine r_iconst (dc_L_law_14 11 rfl) kiconst_0 ?_
    cases h
    exact r_zreturn (dc_L_law_14 12 rfl) rfl (Or.inl rfl)
theorem l_L_law_C19 {G : Gx} {d : Nat} (hl : G.1.stackTraces = false) (hd : 15 ≤ d) {pC1 : Nat} {pC2 : Nat} {pC3 : Nat} {xC4 : Int32} {sC : Sto} {r : (Int32 × Sto)} {kJ : Sto → Option (Int32 × Sto)} (hkJ : ∀ (sJ : Sto), kJ sJ = some r → J G d m_L_law 3394 [(0, .ref 0), (1, .ref pC1), (2, .ref pC2), (3, .ref pC3), (4, .int xC4)] [] sJ (.inl (some (.int r.1))) r.2) (h : F_L_law_C19 G.sl G.sx pC1 pC2 pC3 xC4 sC kJ = some r) : J G d m_L_law 1587 [(0, .ref 0), (1, .ref pC1), (2, .ref pC2), (3, .ref pC3), (4, .int xC4)] [] sC (.inl (some (.int r.1))) r.2 := by
  rw [F_L_law_C19] at h
  refine r_aload_n (dc_L_law_14 25 rfl) rfl rfl ?_
  refine r_aload_n (dc_L_law_14 26 rfl) rfl rfl ?_
  refine r_iload (dc_L_law_14 27 rfl) rfl ?_
  refine r_iconst (dc_L_law_14 28 rfl) kiconst_1 ?_
  refine r_iadd (dc_L_law_14 29 rfl) ?_
  obtain ⟨x212, e0, h⟩ := Option.bind_eq_some_iff.mp h
  obtain ⟨hin, ex⟩ := sld_some e0
  refine r_sld (dc_L_law_14 30 rfl) hin ?_
  rw [← ex]
  refine r_aload_n (dc_L_law_14 31 rfl) rfl rfl ?_
  refine r_iload (dc_L_law_14 32 rfl) rfl ?_
  refine r_iconst (dc_L_law_14 33 rfl) kiconst_2 ?_
  refine r_iadd (dc_L_law_14 34 rfl) ?_
  obtain ⟨x213, e0, h⟩ := Option.bind_eq_some_iff.mp h
  obtain ⟨hin, ex⟩ := sld_some e0
  refine r_sld (dc_L_law_14 35 rfl) hin ?_
  rw [← ex]
  refine r_aload_n (dc_L_law_14 36 rfl) rfl rfl ?_
  refine r_iload (dc_L_law_14 37 rfl) rfl ?_
  refine r_iconst (dc_L_law_14 38 rfl) kiconst_3 ?_
  refine r_iadd (dc_L_law_14 39 rfl) ?_
  obtain ⟨x214, e0, h⟩ := Option.bind_eq_some_iff.mp h
  obtain ⟨hin, ex⟩ := sld_some e0
  refine r_sld (dc_L_law_14 40 rfl) hin ?_
  rw [← ex]
  refine r_aload_n (dc_L_law_14 41 rfl) rfl rfl ?_
  obtain ⟨x216, s215, e0, h⟩ := wb_some h
  refine r_callSH (dc_L_law_14 42 rfl) mh_L_named ml_RL_228 (As := [.ref pC1, .int x212, .int x213, .int x214, .ref pC3]) (t_L_named (d := d - 1) hl (by omega) e0) (by omega) rfl (Nat.le_of_ble_eq_true rfl) ?_
  refine r_istore (dc_L_law_14 43 rfl) (by decide) (lo' := [(5, .int x216), (0, .ref 0), (1, .ref pC1), (2, .ref pC2), (3, .ref pC3), (4, .int xC4)]) rfl ?_
  refine r_aload_n (dc_L_law_14 44 rfl) rfl rfl ?_
  refine r_aload_n (dc_L_law_14 45 rfl) rfl rfl ?_
  refine r_iload (dc_L_law_14 46 rfl) rfl ?_
  refine r_iconst (dc_L_law_14 47 rfl) kiconst_1 ?_
  refine r_iadd (dc_L_law_14 48 rfl) ?_
  obtain ⟨x217, e0, h⟩ := Option.bind_eq_some_iff.mp h
  obtain ⟨hin, ex⟩ := sld_some e0
  refine r_sld (dc_L_law_14 49 rfl) hin ?_
  rw [← ex]
  refine r_aload_n (dc_L_law_14 50 rfl) rfl rfl ?_
  refine r_iload (dc_L_law_14 51 rfl) rfl ?_
  refine r_iconst (dc_L_law_14 52 rfl) kiconst_2 ?_
  refine r_iadd (dc_L_law_14 53 rfl) ?_
  obtain ⟨x218, e0, h⟩ := Option.bind_eq_some_iff.mp h
  obtain ⟨hin, ex⟩ := sld_some e0
  refine r_sld (dc_L_law_14 54 rfl) hin ?_
  rw [← ex]
  refine r_aload_n (dc_L_law_14 55 rfl) rfl rfl ?_
  refine r_iload (dc_L_law_14 56 rfl) rfl ?_
  refine r_iconst (dc_L_law_14 57 rfl) kiconst_3 ?_
  refine r_iadd (dc_L_law_14 58 rfl) ?_
  obtain ⟨x219, e0, h⟩ := Option.bind_eq_some_iff.mp h
  obtain ⟨hin, ex⟩ := sld_some e0
  refine r_sld (dc_L_law_14 59 rfl) hin ?_
  rw [← ex]
  obtain ⟨x221, s220, e0, h⟩ := wb_some h
  refine r_callV (dc_L_law_14 60 rfl) mv_X10_named ml_RL_230 (As := [.int x217, .int x218, .int x219]) (t_X10_named (d := d - 1) hl (by omega) e0) (by omega) rfl (Nat.le_of_ble_eq_true rfl) ?_
  refine r_istore (dc_L_law_14 61 rfl) (by decide) (lo' := [(6, .int x221), (5, .int x216), (0, .ref 0), (1, .ref pC1), (2, .ref pC2), (3, .ref pC3), (4, .int xC4)]) rfl ?_
  refine r_aload_n (dc_L_law_14 62 rfl) rfl rfl ?_
  obtain ⟨x222, e0, h⟩ := Option.bind_eq_some_iff.mp h
  refine r_callV (dc_L_law_14 63 rfl) mv_X10_thrown ml_RL_166 (As := []) (t_X10_thrown (d := d - 1) hl (by omega) e0) (by omega) rfl (Nat.le_of_ble_eq_true rfl) ?_
  refine r_iload (dc_L_law_15 0 rfl) rfl ?_
  refine r_icmp_eq (dc_L_law_15 1 rfl) (tgt := 1647) (by decide) (fun c0 => ?_) (fun c0 => ?_)
  · rw [if_pos c0] at h
    refine r_iload (dc_L_law_15 4 rfl) rfl ?_
    refine r_if_ne (dc_L_law_15 5 rfl) (tgt := 1664) (by decide) (fun c0 => ?_) (fun c0 => ?_)
    · rw [if_neg c0] at h
      refine r_goto (dc_L_law_15 15 rfl) (tgt := 3394) (by decide) ?_
      refine r_pick [2, 3, 4, 5, 6] (lo' := [(0, .ref 0), (1, .ref pC1), (2, .ref pC2), (3, .ref pC3), (4, .int xC4)]) rfl ?_
      exact hkJ _ h
    · rw [if_pos c0] at h
      refine r_aload_n (dc_L_law_15 6 rfl) rfl rfl ?_
      refine r_iconst (dc_L_law_15 7 rfl) kiconst_0 ?_
      obtain ⟨y223, e0, h⟩ := Option.bind_eq_some_iff.mp h
      refine r_lald (dc_L_law_15 8 rfl) e0 ?_
      refine r_iload (dc_L_law_15 9 rfl) rfl ?_
      refine r_i2l (dc_L_law_15 10 rfl) ?_
      refine r_lcmp (dc_L_law_15 11 rfl) ?_
      refine r_if_eq (dc_L_law_15 12 rfl) (tgt := 1664) (by decide) (fun c0 => ?_) (fun c0 => ?_)
      · rw [if_pos c0] at h
        refine r_goto (dc_L_law_15 15 rfl) (tgt := 3394) (by decide) ?_
        refine r_pick [2, 3, 4, 5, 6] (lo' := [(0, .ref 0), (1, .ref pC1), (2, .ref pC2), (3, .ref pC3), (4, .int xC4)]) rfl ?_
        exact hkJ _ h
      · rw [if_neg c0] at h
        refine r_iconst (dc_L_law_15 13 rfl) kiconst_0 ?_
        cases h
        exact r_zreturn (dc_L_law_15 14 rfl) rfl (Or.inl rfl)
  · rw [if_neg c0] at h
    refine r_iconst (dc_L_law_15 2 rfl) kiconst_0 ?_
    cases h
    exact r_zreturn (dc_L_law_15 3 rfl) rfl (Or.inl rfl)
theorem l_L_law_C20 {G : Gx} {d : Nat} (hl : G.1.stackTraces = false) (hd : 15 ≤ d) {pC1 : Nat} {pC2 : Nat} {pC3 : Nat} {xC4 : Int32} {sC : Sto} {r : (Int32 × Sto)} {kJ : Sto → Option (Int32 × Sto)} (hkJ : ∀ (sJ : Sto), kJ sJ = some r → J G d m_L_law 3394 [(0, .ref 0), (1, .ref pC1), (2, .ref pC2), (3, .ref pC3), (4, .int xC4)] [] sJ (.inl (some (.int r.1))) r.2) (h : F_L_law_C20 G.sl G.sx pC1 pC2 pC3 xC4 sC kJ = some r) : J G d m_L_law 1667 [(0, .ref 0), (1, .ref pC1), (2, .ref pC2), (3, .ref pC3), (4, .int xC4)] [] sC (.inl (some (.int r.1))) r.2 := by
  rw [F_L_law_C20] at h
  refine r_aload_n (dc_L_law_15 16 rfl) rfl rfl ?_
  refine r_aload_n (dc_L_law_15 17 rfl) rfl rfl ?_
  refine r_iload (dc_L_law_15 18 rfl) rfl ?_
  refine r_iconst (dc_L_law_15 19 rfl) kiconst_1 ?_
  refine r_iadd (dc_L_law_15 20 rfl) ?_
  obtain ⟨x224, e0, h⟩ := Option.bind_eq_some_iff.mp h
  obtain ⟨hin, ex⟩ := sld_some e0
  refine r_sld (dc_L_law_15 21 rfl) hin ?_
  rw [← ex]
  refine r_aload_n (dc_L_law_15 22 rfl) rfl rfl ?_
  refine r_iload (dc_L_law_15 23 rfl) rfl ?_
  refine r_iconst (dc_L_law_15 24 rfl) kiconst_2 ?_
  refine r_iadd (dc_L_law_15 25 rfl) ?_
  obtain ⟨x225, e0, h⟩ := Option.bind_eq_some_iff.mp h
  obtain ⟨hin, ex⟩ := sld_some e0
  refine r_sld (dc_L_law_15 26 rfl) hin ?_
  rw [← ex]
  refine r_aload_n (dc_L_law_15 27 rfl) rfl rfl ?_
  obtain ⟨x227, s226, e0, h⟩ := wb_some h
  refine r_callSH (dc_L_law_15 28 rfl) mh_L_log ml_RL_231 (As := [.ref pC1, .int x224, .int x225, .ref pC3]) (t_L_log (d := d - 1) hl (by omega) e0) (by omega) rfl (Nat.le_of_ble_eq_true rfl) ?_
  refine r_istore (dc_L_law_15 29 rfl) (by decide) (lo' := [(5, .int x227), (0, .ref 0), (1, .ref pC1), (2, .ref pC2), (3, .ref pC3), (4, .int xC4)]) rfl ?_
  refine r_aload_n (dc_L_law_15 30 rfl) rfl rfl ?_
  refine r_aload_n (dc_L_law_15 31 rfl) rfl rfl ?_
  refine r_iload (dc_L_law_15 32 rfl) rfl ?_
  refine r_iconst (dc_L_law_15 33 rfl) kiconst_1 ?_
  refine r_iadd (dc_L_law_15 34 rfl) ?_
  obtain ⟨x228, e0, h⟩ := Option.bind_eq_some_iff.mp h
  obtain ⟨hin, ex⟩ := sld_some e0
  refine r_sld (dc_L_law_15 35 rfl) hin ?_
  rw [← ex]
  refine r_aload_n (dc_L_law_15 36 rfl) rfl rfl ?_
  refine r_iload (dc_L_law_15 37 rfl) rfl ?_
  refine r_iconst (dc_L_law_15 38 rfl) kiconst_2 ?_
  refine r_iadd (dc_L_law_15 39 rfl) ?_
  obtain ⟨x229, e0, h⟩ := Option.bind_eq_some_iff.mp h
  obtain ⟨hin, ex⟩ := sld_some e0
  refine r_sld (dc_L_law_15 40 rfl) hin ?_
  rw [← ex]
  obtain ⟨x231, s230, e0, h⟩ := wb_some h
  refine r_callV (dc_L_law_15 41 rfl) mv_X10_log ml_RL_233 (As := [.int x228, .int x229]) (t_X10_log (d := d - 1) hl (by omega) e0) (by omega) rfl (Nat.le_of_ble_eq_true rfl) ?_
  refine r_istore (dc_L_law_15 42 rfl) (by decide) (lo' := [(6, .int x231), (5, .int x227), (0, .ref 0), (1, .ref pC1), (2, .ref pC2), (3, .ref pC3), (4, .int xC4)]) rfl ?_
  refine r_aload_n (dc_L_law_15 43 rfl) rfl rfl ?_
  obtain ⟨x232, e0, h⟩ := Option.bind_eq_some_iff.mp h
  refine r_callV (dc_L_law_15 44 rfl) mv_X10_thrown ml_RL_166 (As := []) (t_X10_thrown (d := d - 1) hl (by omega) e0) (by omega) rfl (Nat.le_of_ble_eq_true rfl) ?_
  refine r_iload (dc_L_law_15 45 rfl) rfl ?_
  refine r_icmp_eq (dc_L_law_15 46 rfl) (tgt := 1715) (by decide) (fun c0 => ?_) (fun c0 => ?_)
  · rw [if_pos c0] at h
    refine r_iload (dc_L_law_15 49 rfl) rfl ?_
    refine r_if_ne (dc_L_law_15 50 rfl) (tgt := 1732) (by decide) (fun c0 => ?_) (fun c0 => ?_)
    · rw [if_neg c0] at h
      refine r_goto (dc_L_law_15 60 rfl) (tgt := 3394) (by decide) ?_
      refine r_pick [2, 3, 4, 5, 6] (lo' := [(0, .ref 0), (1, .ref pC1), (2, .ref pC2), (3, .ref pC3), (4, .int xC4)]) rfl ?_
      exact hkJ _ h
    · rw [if_pos c0] at h
      refine r_aload_n (dc_L_law_15 51 rfl) rfl rfl ?_
      refine r_iconst (dc_L_law_15 52 rfl) kiconst_0 ?_
      obtain ⟨y233, e0, h⟩ := Option.bind_eq_some_iff.mp h
      refine r_lald (dc_L_law_15 53 rfl) e0 ?_
      refine r_iload (dc_L_law_15 54 rfl) rfl ?_
      refine r_i2l (dc_L_law_15 55 rfl) ?_
      refine r_lcmp (dc_L_law_15 56 rfl) ?_
      refine r_if_eq (dc_L_law_15 57 rfl) (tgt := 1732) (by decide) (fun c0 => ?_) (fun c0 => ?_)
      · rw [if_pos c0] at h
        refine r_goto (dc_L_law_15 60 rfl) (tgt := 3394) (by decide) ?_
        refine r_pick [2, 3, 4, 5, 6] (lo' := [(0, .ref 0), (1, .ref pC1), (2, .ref pC2), (3, .ref pC3), (4, .int xC4)]) rfl ?_
        exact hkJ _ h
      · rw [if_neg c0] at h
        refine r_iconst (dc_L_law_15 58 rfl) kiconst_0 ?_
        cases h
        exact r_zreturn (dc_L_law_15 59 rfl) rfl (Or.inl rfl)
  · rw [if_neg c0] at h
    refine r_iconst (dc_L_law_15 47 rfl) kiconst_0 ?_
    cases h
    exact r_zreturn (dc_L_law_15 48 rfl) rfl (Or.inl rfl)
theorem l_L_law_C21 {G : Gx} {d : Nat} (hl : G.1.stackTraces = false) (hd : 15 ≤ d) {pC1 : Nat} {pC2 : Nat} {pC3 : Nat} {xC4 : Int32} {sC : Sto} {r : (Int32 × Sto)} {kJ : Sto → Option (Int32 × Sto)} (hkJ : ∀ (sJ : Sto), kJ sJ = some r → J G d m_L_law 3394 [(0, .ref 0), (1, .ref pC1), (2, .ref pC2), (3, .ref pC3), (4, .int xC4)] [] sJ (.inl (some (.int r.1))) r.2) (h : F_L_law_C21 G.sl G.sx pC1 pC2 pC3 xC4 sC kJ = some r) : J G d m_L_law 1735 [(0, .ref 0), (1, .ref pC1), (2, .ref pC2), (3, .ref pC3), (4, .int xC4)] [] sC (.inl (some (.int r.1))) r.2 := by
  rw [F_L_law_C21] at h
  refine r_aload_n (dc_L_law_15 61 rfl) rfl rfl ?_
  refine r_aload_n (dc_L_law_15 62 rfl) rfl rfl ?_
  refine r_iload (dc_L_law_15 63 rfl) rfl ?_
  refine r_iconst (dc_L_law_16 0 rfl) kiconst_1 ?_
  refine r_iadd (dc_L_law_16 1 rfl) ?_
  obtain ⟨x234, e0, h⟩ := Option.bind_eq_some_iff.mp h
  obtain ⟨hin, ex⟩ := sld_some e0
  refine r_sld (dc_L_law_16 2 rfl) hin ?_
  rw [← ex]
  refine r_aload_n (dc_L_law_16 3 rfl) rfl rfl ?_
  refine r_iload (dc_L_law_16 4 rfl) rfl ?_
  refine r_iconst (dc_L_law_16 5 rfl) kiconst_2 ?_
  refine r_iadd (dc_L_law_16 6 rfl) ?_
  obtain ⟨x235, e0, h⟩ := Option.bind_eq_some_iff.mp h
  obtain ⟨hin, ex⟩ := sld_some e0
  refine r_sld (dc_L_law_16 7 rfl) hin ?_
  rw [← ex]
  refine r_aload_n (dc_L_law_16 8 rfl) rfl rfl ?_
  refine r_iload (dc_L_law_16 9 rfl) rfl ?_
  refine r_iconst (dc_L_law_16 10 rfl) kiconst_3 ?_
  refine r_iadd (dc_L_law_16 11 rfl) ?_
  obtain ⟨x236, e0, h⟩ := Option.bind_eq_some_iff.mp h
  obtain ⟨hin, ex⟩ := sld_some e0
  refine r_sld (dc_L_law_16 12 rfl) hin ?_
  rw [← ex]
  refine r_aload_n (dc_L_law_16 13 rfl) rfl rfl ?_
  obtain ⟨x238, s237, e0, h⟩ := wb_some h
  refine r_callSH (dc_L_law_16 14 rfl) mh_L_table ml_RL_234 (As := [.ref pC1, .int x234, .int x235, .int x236, .ref pC3]) (t_L_table (d := d - 1) hl (by omega) e0) (by omega) rfl (Nat.le_of_ble_eq_true rfl) ?_
  refine r_istore (dc_L_law_16 15 rfl) (by decide) (lo' := [(5, .int x238), (0, .ref 0), (1, .ref pC1), (2, .ref pC2), (3, .ref pC3), (4, .int xC4)]) rfl ?_
  refine r_aload_n (dc_L_law_16 16 rfl) rfl rfl ?_
  refine r_aload_n (dc_L_law_16 17 rfl) rfl rfl ?_
  refine r_iload (dc_L_law_16 18 rfl) rfl ?_
  refine r_iconst (dc_L_law_16 19 rfl) kiconst_1 ?_
  refine r_iadd (dc_L_law_16 20 rfl) ?_
  obtain ⟨x239, e0, h⟩ := Option.bind_eq_some_iff.mp h
  obtain ⟨hin, ex⟩ := sld_some e0
  refine r_sld (dc_L_law_16 21 rfl) hin ?_
  rw [← ex]
  refine r_aload_n (dc_L_law_16 22 rfl) rfl rfl ?_
  refine r_iload (dc_L_law_16 23 rfl) rfl ?_
  refine r_iconst (dc_L_law_16 24 rfl) kiconst_2 ?_
  refine r_iadd (dc_L_law_16 25 rfl) ?_
  obtain ⟨x240, e0, h⟩ := Option.bind_eq_some_iff.mp h
  obtain ⟨hin, ex⟩ := sld_some e0
  refine r_sld (dc_L_law_16 26 rfl) hin ?_
  rw [← ex]
  refine r_aload_n (dc_L_law_16 27 rfl) rfl rfl ?_
  refine r_iload (dc_L_law_16 28 rfl) rfl ?_
  refine r_iconst (dc_L_law_16 29 rfl) kiconst_3 ?_
  refine r_iadd (dc_L_law_16 30 rfl) ?_
  obtain ⟨x241, e0, h⟩ := Option.bind_eq_some_iff.mp h
  obtain ⟨hin, ex⟩ := sld_some e0
  refine r_sld (dc_L_law_16 31 rfl) hin ?_
  rw [← ex]
  obtain ⟨x243, s242, e0, h⟩ := wb_some h
  refine r_callV (dc_L_law_16 32 rfl) mv_X10_table ml_RL_236 (As := [.int x239, .int x240, .int x241]) (t_X10_table (d := d - 1) hl (by omega) e0) (by omega) rfl (Nat.le_of_ble_eq_true rfl) ?_
  refine r_istore (dc_L_law_16 33 rfl) (by decide) (lo' := [(6, .int x243), (5, .int x238), (0, .ref 0), (1, .ref pC1), (2, .ref pC2), (3, .ref pC3), (4, .int xC4)]) rfl ?_
  refine r_aload_n (dc_L_law_16 34 rfl) rfl rfl ?_
  obtain ⟨x244, e0, h⟩ := Option.bind_eq_some_iff.mp h
  refine r_callV (dc_L_law_16 35 rfl) mv_X10_thrown ml_RL_166 (As := []) (t_X10_thrown (d := d - 1) hl (by omega) e0) (by omega) rfl (Nat.le_of_ble_eq_true rfl) ?_
  refine r_iload (dc_L_law_16 36 rfl) rfl ?_
  refine r_icmp_eq (dc_L_law_16 37 rfl) (tgt := 1795) (by decide) (fun c0 => ?_) (fun c0 => ?_)
  · rw [if_pos c0] at h
    refine r_iload (dc_L_law_16 40 rfl) rfl ?_
    refine r_if_ne (dc_L_law_16 41 rfl) (tgt := 1812) (by decide) (fun c0 => ?_) (fun c0 => ?_)
    · rw [if_neg c0] at h
      refine r_goto (dc_L_law_16 51 rfl) (tgt := 3394) (by decide) ?_
      refine r_pick [2, 3, 4, 5, 6] (lo' := [(0, .ref 0), (1, .ref pC1), (2, .ref pC2), (3, .ref pC3), (4, .int xC4)]) rfl ?_
      exact hkJ _ h
    · rw [if_pos c0] at h
      refine r_aload_n (dc_L_law_16 42 rfl) rfl rfl ?_
      refine r_iconst (dc_L_law_16 43 rfl) kiconst_0 ?_
      obtain ⟨y245, e0, h⟩ := Option.bind_eq_some_iff.mp h
      refine r_lald (dc_L_law_16 44 rfl) e0 ?_
      refine r_iload (dc_L_law_16 45 rfl) rfl ?_
      refine r_i2l (dc_L_law_16 46 rfl) ?_
      refine r_lcmp (dc_L_law_16 47 rfl) ?_
      refine r_if_eq (dc_L_law_16 48 rfl) (tgt := 1812) (by decide) (fun c0 => ?_) (fun c0 => ?_)
      · rw [if_pos c0] at h
        refine r_goto (dc_L_law_16 51 rfl) (tgt := 3394) (by decide) ?_
        refine r_pick [2, 3, 4, 5, 6] (lo' := [(0, .ref 0), (1, .ref pC1), (2, .ref pC2), (3, .ref pC3), (4, .int xC4)]) rfl ?_
        exact hkJ _ h
      · rw [if_neg c0] at h
        refine r_iconst (dc_L_law_16 49 rfl) kiconst_0 ?_
        cases h
        exact r_zreturn (dc_L_law_16 50 rfl) rfl (Or.inl rfl)
  · rw [if_neg c0] at h
    refine r_iconst (dc_L_law_16 38 rfl) kiconst_0 ?_
    cases h
    exact r_zreturn (dc_L_law_16 39 rfl) rfl (Or.inl rfl)
theorem l_L_law_C22 {G : Gx} {d : Nat} (hl : G.1.stackTraces = false) (hd : 15 ≤ d) {pC1 : Nat} {pC2 : Nat} {pC3 : Nat} {xC4 : Int32} {sC : Sto} {r : (Int32 × Sto)} {kJ : Sto → Option (Int32 × Sto)} (hkJ : ∀ (sJ : Sto), kJ sJ = some r → J G d m_L_law 3394 [(0, .ref 0), (1, .ref pC1), (2, .ref pC2), (3, .ref pC3), (4, .int xC4)] [] sJ (.inl (some (.int r.1))) r.2) (h : F_L_law_C22 G.sl G.sx pC1 pC2 pC3 xC4 sC kJ = some r) : J G d m_L_law 1815 [(0, .ref 0), (1, .ref pC1), (2, .ref pC2), (3, .ref pC3), (4, .int xC4)] [] sC (.inl (some (.int r.1))) r.2 := by
  rw [F_L_law_C22] at h
  refine r_aload_n (dc_L_law_16 52 rfl) rfl rfl ?_
  refine r_aload_n (dc_L_law_16 53 rfl) rfl rfl ?_
  refine r_iload (dc_L_law_16 54 rfl) rfl ?_
  refine r_iconst (dc_L_law_16 55 rfl) kiconst_1 ?_
  refine r_iadd (dc_L_law_16 56 rfl) ?_
  obtain ⟨x246, e0, h⟩ := Option.bind_eq_some_iff.mp h
  obtain ⟨hin, ex⟩ := sld_some e0
  refine r_sld (dc_L_law_16 57 rfl) hin ?_
  rw [← ex]
  refine r_aload_n (dc_L_law_16 58 rfl) rfl rfl ?_
  refine r_iload (dc_L_law_16 59 rfl) rfl ?_
  refine r_iconst (dc_L_law_16 60 rfl) kiconst_2 ?_
  refine r_iadd (dc_L_law_16 61 rfl) ?_
  obtain ⟨x247, e0, h⟩ := Option.bind_eq_some_iff.mp h
  obtain ⟨hin, ex⟩ := sld_some e0
  refine r_sld (dc_L_law_16 62 rfl) hin ?_
  rw [← ex]
  refine r_aload_n (dc_L_law_16 63 rfl) rfl rfl ?_
  refine r_iload (dc_L_law_17 0 rfl) rfl ?_
  refine r_iconst (dc_L_law_17 1 rfl) kiconst_3 ?_
  refine r_iadd (dc_L_law_17 2 rfl) ?_
  obtain ⟨x248, e0, h⟩ := Option.bind_eq_some_iff.mp h
  obtain ⟨hin, ex⟩ := sld_some e0
  refine r_sld (dc_L_law_17 3 rfl) hin ?_
  rw [← ex]
  refine r_aload_n (dc_L_law_17 4 rfl) rfl rfl ?_
  obtain ⟨x250, s249, e0, h⟩ := wb_some h
  refine r_callSH (dc_L_law_17 5 rfl) mh_L_knows ml_RL_237 (As := [.ref pC1, .int x246, .int x247, .int x248, .ref pC3]) (t_L_knows (d := d - 1) hl (by omega) e0) (by omega) rfl (Nat.le_of_ble_eq_true rfl) ?_
  refine r_istore (dc_L_law_17 6 rfl) (by decide) (lo' := [(5, .int x250), (0, .ref 0), (1, .ref pC1), (2, .ref pC2), (3, .ref pC3), (4, .int xC4)]) rfl ?_
  refine r_aload_n (dc_L_law_17 7 rfl) rfl rfl ?_
  refine r_aload_n (dc_L_law_17 8 rfl) rfl rfl ?_
  refine r_iload (dc_L_law_17 9 rfl) rfl ?_
  refine r_iconst (dc_L_law_17 10 rfl) kiconst_1 ?_
  refine r_iadd (dc_L_law_17 11 rfl) ?_
  obtain ⟨x251, e0, h⟩ := Option.bind_eq_some_iff.mp h
  obtain ⟨hin, ex⟩ := sld_some e0
  refine r_sld (dc_L_law_17 12 rfl) hin ?_
  rw [← ex]
  refine r_aload_n (dc_L_law_17 13 rfl) rfl rfl ?_
  refine r_iload (dc_L_law_17 14 rfl) rfl ?_
  refine r_iconst (dc_L_law_17 15 rfl) kiconst_2 ?_
  refine r_iadd (dc_L_law_17 16 rfl) ?_
  obtain ⟨x252, e0, h⟩ := Option.bind_eq_some_iff.mp h
  obtain ⟨hin, ex⟩ := sld_some e0
  refine r_sld (dc_L_law_17 17 rfl) hin ?_
  rw [← ex]
  refine r_aload_n (dc_L_law_17 18 rfl) rfl rfl ?_
  refine r_iload (dc_L_law_17 19 rfl) rfl ?_
  refine r_iconst (dc_L_law_17 20 rfl) kiconst_3 ?_
  refine r_iadd (dc_L_law_17 21 rfl) ?_
  obtain ⟨x253, e0, h⟩ := Option.bind_eq_some_iff.mp h
  obtain ⟨hin, ex⟩ := sld_some e0
  refine r_sld (dc_L_law_17 22 rfl) hin ?_
  rw [← ex]
  obtain ⟨x255, s254, e0, h⟩ := wb_some h
  refine r_callV (dc_L_law_17 23 rfl) mv_X10_knows ml_RL_239 (As := [.int x251, .int x252, .int x253]) (t_X10_knows (d := d - 1) hl (by omega) e0) (by omega) rfl (Nat.le_of_ble_eq_true rfl) ?_
  refine r_istore (dc_L_law_17 24 rfl) (by decide) (lo' := [(6, .int x255), (5, .int x250), (0, .ref 0), (1, .ref pC1), (2, .ref pC2), (3, .ref pC3), (4, .int xC4)]) rfl ?_
  refine r_aload_n (dc_L_law_17 25 rfl) rfl rfl ?_
  obtain ⟨x256, e0, h⟩ := Option.bind_eq_some_iff.mp h
  refine r_callV (dc_L_law_17 26 rfl) mv_X10_thrown ml_RL_166 (As := []) (t_X10_thrown (d := d - 1) hl (by omega) e0) (by omega) rfl (Nat.le_of_ble_eq_true rfl) ?_
  refine r_iload (dc_L_law_17 27 rfl) rfl ?_
  refine r_icmp_eq (dc_L_law_17 28 rfl) (tgt := 1875) (by decide) (fun c0 => ?_) (fun c0 => ?_)
  · rw [if_pos c0] at h
    refine r_iload (dc_L_law_17 31 rfl) rfl ?_
    refine r_if_ne (dc_L_law_17 32 rfl) (tgt := 1899) (by decide) (fun c0 => ?_) (fun c0 => ?_)
    · rw [if_neg c0] at h
      refine r_goto (dc_L_law_17 45 rfl) (tgt := 3394) (by decide) ?_
      refine r_pick [2, 3, 4, 5, 6] (lo' := [(0, .ref 0), (1, .ref pC1), (2, .ref pC2), (3, .ref pC3), (4, .int xC4)]) rfl ?_
      exact hkJ _ h
    · rw [if_pos c0] at h
      refine r_aload_n (dc_L_law_17 33 rfl) rfl rfl ?_
      refine r_iconst (dc_L_law_17 34 rfl) kiconst_0 ?_
      obtain ⟨y257, e0, h⟩ := Option.bind_eq_some_iff.mp h
      refine r_lald (dc_L_law_17 35 rfl) e0 ?_
      refine r_iload (dc_L_law_17 36 rfl) rfl ?_
      refine jn_elim h (Q := fun (j : Int64 → Option (Int32 × Sto)) => ∀ (y259 : Int64), j y259 = some r → J G d m_L_law 1893 [(0, .ref 0), (1, .ref pC1), (2, .ref pC2), (3, .ref pC3), (4, .int xC4)] [.long y259, .long y257] s254 (.inl (some (.int r.1))) r.2) ?_ (fun j258 hj258 h => ?_)
      · intro y259 h
        refine r_lcmp (dc_L_law_17 41 rfl) ?_
        refine r_if_eq (dc_L_law_17 42 rfl) (tgt := 1899) (by decide) (fun c0 => ?_) (fun c0 => ?_)
        · rw [if_pos c0] at h
          refine r_goto (dc_L_law_17 45 rfl) (tgt := 3394) (by decide) ?_
          exact hkJ _ h
        · rw [if_neg c0] at h
          refine r_iconst (dc_L_law_17 43 rfl) kiconst_0 ?_
          cases h
          exact r_zreturn (dc_L_law_17 44 rfl) rfl (Or.inl rfl)
      refine r_if_eq (dc_L_law_17 37 rfl) (tgt := 1892) (by decide) (fun c0 => ?_) (fun c0 => ?_)
      · rw [if_pos c0] at h
        refine r_lconst (dc_L_law_17 40 rfl) klconst_0 ?_
        refine r_pick [2, 3, 4, 5, 6] (lo' := [(0, .ref 0), (1, .ref pC1), (2, .ref pC2), (3, .ref pC3), (4, .int xC4)]) rfl ?_
        exact hj258 _ h
      · rw [if_neg c0] at h
        refine r_lconst (dc_L_law_17 38 rfl) klconst_1 ?_
        refine r_goto (dc_L_law_17 39 rfl) (tgt := 1893) (by decide) ?_
        refine r_pick [2, 3, 4, 5, 6] (lo' := [(0, .ref 0), (1, .ref pC1), (2, .ref pC2), (3, .ref pC3), (4, .int xC4)]) rfl ?_
        exact hj258 _ h
  · rw [if_neg c0] at h
    refine r_iconst (dc_L_law_17 29 rfl) kiconst_0 ?_
    cases h
    exact r_zreturn (dc_L_law_17 30 rfl) rfl (Or.inl rfl)
theorem l_L_law_C23 {G : Gx} {d : Nat} (hl : G.1.stackTraces = false) (hd : 15 ≤ d) {pC1 : Nat} {pC2 : Nat} {pC3 : Nat} {xC4 : Int32} {sC : Sto} {r : (Int32 × Sto)} {kJ : Sto → Option (Int32 × Sto)} (hkJ : ∀ (sJ : Sto), kJ sJ = some r → J G d m_L_law 3394 [(0, .ref 0), (1, .ref pC1), (2, .ref pC2), (3, .ref pC3), (4, .int xC4)] [] sJ (.inl (some (.int r.1))) r.2) (h : F_L_law_C23 G.sl G.sx pC1 pC2 pC3 xC4 sC kJ = some r) : J G d m_L_law 1902 [(0, .ref 0), (1, .ref pC1), (2, .ref pC2), (3, .ref pC3), (4, .int xC4)] [] sC (.inl (some (.int r.1))) r.2 := by
  rw [F_L_law_C23] at h
  refine r_aload_n (dc_L_law_17 46 rfl) rfl rfl ?_
  refine r_aload_n (dc_L_law_17 47 rfl) rfl rfl ?_
  refine r_iload (dc_L_law_17 48 rfl) rfl ?_
  refine r_iconst (dc_L_law_17 49 rfl) kiconst_1 ?_
  refine r_iadd (dc_L_law_17 50 rfl) ?_
  obtain ⟨x260, e0, h⟩ := Option.bind_eq_some_iff.mp h
  obtain ⟨hin, ex⟩ := sld_some e0
  refine r_sld (dc_L_law_17 51 rfl) hin ?_
  rw [← ex]
  refine r_aload_n (dc_L_law_17 52 rfl) rfl rfl ?_
  refine r_iload (dc_L_law_17 53 rfl) rfl ?_
  refine r_iconst (dc_L_law_17 54 rfl) kiconst_2 ?_
  refine r_iadd (dc_L_law_17 55 rfl) ?_
  obtain ⟨x261, e0, h⟩ := Option.bind_eq_some_iff.mp h
  obtain ⟨hin, ex⟩ := sld_some e0
  refine r_sld (dc_L_law_17 56 rfl) hin ?_
  rw [← ex]
  refine r_aload_n (dc_L_law_17 57 rfl) rfl rfl ?_
  obtain ⟨x263, s262, e0, h⟩ := wb_some h
  refine r_callSH (dc_L_law_17 58 rfl) mh_L_has ml_RL_240 (As := [.ref pC1, .int x260, .int x261, .ref pC3]) (t_L_has (d := d - 1) hl (by omega) e0) (by omega) rfl (Nat.le_of_ble_eq_true rfl) ?_
  refine r_istore (dc_L_law_17 59 rfl) (by decide) (lo' := [(5, .int x263), (0, .ref 0), (1, .ref pC1), (2, .ref pC2), (3, .ref pC3), (4, .int xC4)]) rfl ?_
  refine r_aload_n (dc_L_law_17 60 rfl) rfl rfl ?_
  refine r_aload_n (dc_L_law_17 61 rfl) rfl rfl ?_
  refine r_iload (dc_L_law_17 62 rfl) rfl ?_
  refine r_iconst (dc_L_law_17 63 rfl) kiconst_1 ?_
  refine r_iadd (dc_L_law_18 0 rfl) ?_
  obtain ⟨x264, e0, h⟩ := Option.bind_eq_some_iff.mp h
  obtain ⟨hin, ex⟩ := sld_some e0
  refine r_sld (dc_L_law_18 1 rfl) hin ?_
  rw [← ex]
  refine r_aload_n (dc_L_law_18 2 rfl) rfl rfl ?_
  refine r_iload (dc_L_law_18 3 rfl) rfl ?_
  refine r_iconst (dc_L_law_18 4 rfl) kiconst_2 ?_
  refine r_iadd (dc_L_law_18 5 rfl) ?_
  obtain ⟨x265, e0, h⟩ := Option.bind_eq_some_iff.mp h
  obtain ⟨hin, ex⟩ := sld_some e0
  refine r_sld (dc_L_law_18 6 rfl) hin ?_
  rw [← ex]
  obtain ⟨x267, s266, e0, h⟩ := wb_some h
  refine r_callV (dc_L_law_18 7 rfl) mv_X10_has ml_RL_242 (As := [.int x264, .int x265]) (t_X10_has (d := d - 1) hl (by omega) e0) (by omega) rfl (Nat.le_of_ble_eq_true rfl) ?_
  refine r_istore (dc_L_law_18 8 rfl) (by decide) (lo' := [(6, .int x267), (5, .int x263), (0, .ref 0), (1, .ref pC1), (2, .ref pC2), (3, .ref pC3), (4, .int xC4)]) rfl ?_
  refine r_aload_n (dc_L_law_18 9 rfl) rfl rfl ?_
  obtain ⟨x268, e0, h⟩ := Option.bind_eq_some_iff.mp h
  refine r_callV (dc_L_law_18 10 rfl) mv_X10_thrown ml_RL_166 (As := []) (t_X10_thrown (d := d - 1) hl (by omega) e0) (by omega) rfl (Nat.le_of_ble_eq_true rfl) ?_
  refine r_iload (dc_L_law_18 11 rfl) rfl ?_
  refine r_icmp_eq (dc_L_law_18 12 rfl) (tgt := 1950) (by decide) (fun c0 => ?_) (fun c0 => ?_)
  · rw [if_pos c0] at h
    refine r_iload (dc_L_law_18 15 rfl) rfl ?_
    refine r_if_ne (dc_L_law_18 16 rfl) (tgt := 1974) (by decide) (fun c0 => ?_) (fun c0 => ?_)
    · rw [if_neg c0] at h
      refine r_goto (dc_L_law_18 29 rfl) (tgt := 3394) (by decide) ?_
      refine r_pick [2, 3, 4, 5, 6] (lo' := [(0, .ref 0), (1, .ref pC1), (2, .ref pC2), (3, .ref pC3), (4, .int xC4)]) rfl ?_
      exact hkJ _ h
    · rw [if_pos c0] at h
      refine r_aload_n (dc_L_law_18 17 rfl) rfl rfl ?_
      refine r_iconst (dc_L_law_18 18 rfl) kiconst_0 ?_
      obtain ⟨y269, e0, h⟩ := Option.bind_eq_some_iff.mp h
      refine r_lald (dc_L_law_18 19 rfl) e0 ?_
      refine r_iload (dc_L_law_18 20 rfl) rfl ?_
      refine jn_elim h (Q := fun (j : Int64 → Option (Int32 × Sto)) => ∀ (y271 : Int64), j y271 = some r → J G d m_L_law 1968 [(0, .ref 0), (1, .ref pC1), (2, .ref pC2), (3, .ref pC3), (4, .int xC4)] [.long y271, .long y269] s266 (.inl (some (.int r.1))) r.2) ?_ (fun j270 hj270 h => ?_)
      · intro y271 h
        refine r_lcmp (dc_L_law_18 25 rfl) ?_
        refine r_if_eq (dc_L_law_18 26 rfl) (tgt := 1974) (by decide) (fun c0 => ?_) (fun c0 => ?_)
        · rw [if_pos c0] at h
          refine r_goto (dc_L_law_18 29 rfl) (tgt := 3394) (by decide) ?_
          exact hkJ _ h
        · rw [if_neg c0] at h
          refine r_iconst (dc_L_law_18 27 rfl) kiconst_0 ?_
          cases h
          exact r_zreturn (dc_L_law_18 28 rfl) rfl (Or.inl rfl)
      refine r_if_eq (dc_L_law_18 21 rfl) (tgt := 1967) (by decide) (fun c0 => ?_) (fun c0 => ?_)
      · rw [if_pos c0] at h
        refine r_lconst (dc_L_law_18 24 rfl) klconst_0 ?_
        refine r_pick [2, 3, 4, 5, 6] (lo' := [(0, .ref 0), (1, .ref pC1), (2, .ref pC2), (3, .ref pC3), (4, .int xC4)]) rfl ?_
        exact hj270 _ h
      · rw [if_neg c0] at h
        refine r_lconst (dc_L_law_18 22 rfl) klconst_1 ?_
        refine r_goto (dc_L_law_18 23 rfl) (tgt := 1968) (by decide) ?_
        refine r_pick [2, 3, 4, 5, 6] (lo' := [(0, .ref 0), (1, .ref pC1), (2, .ref pC2), (3, .ref pC3), (4, .int xC4)]) rfl ?_
        exact hj270 _ h
  · rw [if_neg c0] at h
    refine r_iconst (dc_L_law_18 13 rfl) kiconst_0 ?_
    cases h
    exact r_zreturn (dc_L_law_18 14 rfl) rfl (Or.inl rfl)
theorem l_L_law_C24 {G : Gx} {d : Nat} (hl : G.1.stackTraces = false) (hd : 15 ≤ d) {pC1 : Nat} {pC2 : Nat} {pC3 : Nat} {xC4 : Int32} {sC : Sto} {r : (Int32 × Sto)} {kJ : Sto → Option (Int32 × Sto)} (hkJ : ∀ (sJ : Sto), kJ sJ = some r → J G d m_L_law 3394 [(0, .ref 0), (1, .ref pC1), (2, .ref pC2), (3, .ref pC3), (4, .int xC4)] [] sJ (.inl (some (.int r.1))) r.2) (h : F_L_law_C24 G.sl G.sx pC1 pC2 pC3 xC4 sC kJ = some r) : J G d m_L_law 1977 [(0, .ref 0), (1, .ref pC1), (2, .ref pC2), (3, .ref pC3), (4, .int xC4)] [] sC (.inl (some (.int r.1))) r.2 := by
  rw [F_L_law_C24] at h
  refine r_aload_n (dc_L_law_18 30 rfl) rfl rfl ?_
  refine r_aload_n (dc_L_law_18 31 rfl) rfl rfl ?_
  refine r_iload (dc_L_law_18 32 rfl) rfl ?_
  refine r_iconst (dc_L_law_18 33 rfl) kiconst_1 ?_
  refine r_iadd (dc_L_law_18 34 rfl) ?_
  obtain ⟨x272, e0, h⟩ := Option.bind_eq_some_iff.mp h
  obtain ⟨hin, ex⟩ := sld_some e0
  refine r_sld (dc_L_law_18 35 rfl) hin ?_
  rw [← ex]
  refine r_aload_n (dc_L_law_18 36 rfl) rfl rfl ?_
  refine r_iload (dc_L_law_18 37 rfl) rfl ?_
  refine r_iconst (dc_L_law_18 38 rfl) kiconst_2 ?_
  refine r_iadd (dc_L_law_18 39 rfl) ?_
  obtain ⟨x273, e0, h⟩ := Option.bind_eq_some_iff.mp h
  obtain ⟨hin, ex⟩ := sld_some e0
  refine r_sld (dc_L_law_18 40 rfl) hin ?_
  rw [← ex]
  refine r_aload_n (dc_L_law_18 41 rfl) rfl rfl ?_
  obtain ⟨x275, s274, e0, h⟩ := wb_some h
  refine r_callSH (dc_L_law_18 42 rfl) mh_L_site ml_RL_243 (As := [.ref pC1, .int x272, .int x273, .ref pC3]) (t_L_site (d := d - 1) hl (by omega) e0) (by omega) rfl (Nat.le_of_ble_eq_true rfl) ?_
  refine r_istore (dc_L_law_18 43 rfl) (by decide) (lo' := [(5, .int x275), (0, .ref 0), (1, .ref pC1), (2, .ref pC2), (3, .ref pC3), (4, .int xC4)]) rfl ?_
  refine r_aload_n (dc_L_law_18 44 rfl) rfl rfl ?_
  refine r_aload_n (dc_L_law_18 45 rfl) rfl rfl ?_
  refine r_iload (dc_L_law_18 46 rfl) rfl ?_
  refine r_iconst (dc_L_law_18 47 rfl) kiconst_1 ?_
  refine r_iadd (dc_L_law_18 48 rfl) ?_
  obtain ⟨x276, e0, h⟩ := Option.bind_eq_some_iff.mp h
  obtain ⟨hin, ex⟩ := sld_some e0
  refine r_sld (dc_L_law_18 49 rfl) hin ?_
  rw [← ex]
  refine r_aload_n (dc_L_law_18 50 rfl) rfl rfl ?_
  refine r_iload (dc_L_law_18 51 rfl) rfl ?_
  refine r_iconst (dc_L_law_18 52 rfl) kiconst_2 ?_
  refine r_iadd (dc_L_law_18 53 rfl) ?_
  obtain ⟨x277, e0, h⟩ := Option.bind_eq_some_iff.mp h
  obtain ⟨hin, ex⟩ := sld_some e0
  refine r_sld (dc_L_law_18 54 rfl) hin ?_
  rw [← ex]
  obtain ⟨x279, s278, e0, h⟩ := wb_some h
  refine r_callV (dc_L_law_18 55 rfl) mv_X10_site ml_RL_245 (As := [.int x276, .int x277]) (t_X10_site (d := d - 1) hl (by omega) e0) (by omega) rfl (Nat.le_of_ble_eq_true rfl) ?_
  refine r_istore (dc_L_law_18 56 rfl) (by decide) (lo' := [(6, .int x279), (5, .int x275), (0, .ref 0), (1, .ref pC1), (2, .ref pC2), (3, .ref pC3), (4, .int xC4)]) rfl ?_
  refine r_aload_n (dc_L_law_18 57 rfl) rfl rfl ?_
  obtain ⟨x280, e0, h⟩ := Option.bind_eq_some_iff.mp h
  refine r_callV (dc_L_law_18 58 rfl) mv_X10_thrown ml_RL_166 (As := []) (t_X10_thrown (d := d - 1) hl (by omega) e0) (by omega) rfl (Nat.le_of_ble_eq_true rfl) ?_
  refine r_iload (dc_L_law_18 59 rfl) rfl ?_
  refine r_icmp_eq (dc_L_law_18 60 rfl) (tgt := 2025) (by decide) (fun c0 => ?_) (fun c0 => ?_)
  · rw [if_pos c0] at h
    refine r_iload (dc_L_law_18 63 rfl) rfl ?_
    refine r_if_ne (dc_L_law_19 0 rfl) (tgt := 2042) (by decide) (fun c0 => ?_) (fun c0 => ?_)
    · rw [if_neg c0] at h
      refine r_goto (dc_L_law_19 10 rfl) (tgt := 3394) (by decide) ?_
      refine r_pick [2, 3, 4, 5, 6] (lo' := [(0, .ref 0), (1, .ref pC1), (2, .ref pC2), (3, .ref pC3), (4, .int xC4)]) rfl ?_
      exact hkJ _ h
    · rw [if_pos c0] at h
      refine r_aload_n (dc_L_law_19 1 rfl) rfl rfl ?_
      refine r_iconst (dc_L_law_19 2 rfl) kiconst_0 ?_
      obtain ⟨y281, e0, h⟩ := Option.bind_eq_some_iff.mp h
      refine r_lald (dc_L_law_19 3 rfl) e0 ?_
      refine r_iload (dc_L_law_19 4 rfl) rfl ?_
      refine r_i2l (dc_L_law_19 5 rfl) ?_
      refine r_lcmp (dc_L_law_19 6 rfl) ?_
      refine r_if_eq (dc_L_law_19 7 rfl) (tgt := 2042) (by decide) (fun c0 => ?_) (fun c0 => ?_)
      · rw [if_pos c0] at h
        refine r_goto (dc_L_law_19 10 rfl) (tgt := 3394) (by decide) ?_
        refine r_pick [2, 3, 4, 5, 6] (lo' := [(0, .ref 0), (1, .ref pC1), (2, .ref pC2), (3, .ref pC3), (4, .int xC4)]) rfl ?_
        exact hkJ _ h
      · rw [if_neg c0] at h
        refine r_iconst (dc_L_law_19 8 rfl) kiconst_0 ?_
        cases h
        exact r_zreturn (dc_L_law_19 9 rfl) rfl (Or.inl rfl)
  · rw [if_neg c0] at h
    refine r_iconst (dc_L_law_18 61 rfl) kiconst_0 ?_
    cases h
    exact r_zreturn (dc_L_law_18 62 rfl) rfl (Or.inl rfl)
theorem l_L_law_C25 {G : Gx} {d : Nat} (hl : G.1.stackTraces = false) (hd : 15 ≤ d) {pC1 : Nat} {pC2 : Nat} {pC3 : Nat} {xC4 : Int32} {sC : Sto} {r : (Int32 × Sto)} {kJ : Sto → Option (Int32 × Sto)} (hkJ : ∀ (sJ : Sto), kJ sJ = some r → J G d m_L_law 3394 [(0, .ref 0), (1, .ref pC1), (2, .ref pC2), (3, .ref pC3), (4, .int xC4)] [] sJ (.inl (some (.int r.1))) r.2) (h : F_L_law_C25 G.sl G.sx pC1 pC2 pC3 xC4 sC kJ = some r) : J G d m_L_law 2045 [(0, .ref 0), (1, .ref pC1), (2, .ref pC2), (3, .ref pC3), (4, .int xC4)] [] sC (.inl (some (.int r.1))) r.2 := by
  rw [F_L_law_C25] at h
  refine r_aload_n (dc_L_law_19 11 rfl) rfl rfl ?_
  refine r_aload_n (dc_L_law_19 12 rfl) rfl rfl ?_
  refine r_iload (dc_L_law_19 13 rfl) rfl ?_
  refine r_iconst (dc_L_law_19 14 rfl) kiconst_1 ?_
  refine r_iadd (dc_L_law_19 15 rfl) ?_
  obtain ⟨x282, e0, h⟩ := Option.bind_eq_some_iff.mp h
  obtain ⟨hin, ex⟩ := sld_some e0
  refine r_sld (dc_L_law_19 16 rfl) hin ?_
  rw [← ex]
  refine r_aload_n (dc_L_law_19 17 rfl) rfl rfl ?_
  refine r_iload (dc_L_law_19 18 rfl) rfl ?_
  refine r_iconst (dc_L_law_19 19 rfl) kiconst_2 ?_
  refine r_iadd (dc_L_law_19 20 rfl) ?_
  obtain ⟨x283, e0, h⟩ := Option.bind_eq_some_iff.mp h
  obtain ⟨hin, ex⟩ := sld_some e0
  refine r_sld (dc_L_law_19 21 rfl) hin ?_
  rw [← ex]
  refine r_aload_n (dc_L_law_19 22 rfl) rfl rfl ?_
  obtain ⟨x285, s284, e0, h⟩ := wb_some h
  refine r_callSH (dc_L_law_19 23 rfl) mh_L_unlike ml_RL_246 (As := [.ref pC1, .int x282, .int x283, .ref pC3]) (t_L_unlike (d := d - 1) hl (by omega) e0) (by omega) rfl (Nat.le_of_ble_eq_true rfl) ?_
  refine r_istore (dc_L_law_19 24 rfl) (by decide) (lo' := [(5, .int x285), (0, .ref 0), (1, .ref pC1), (2, .ref pC2), (3, .ref pC3), (4, .int xC4)]) rfl ?_
  refine r_aload_n (dc_L_law_19 25 rfl) rfl rfl ?_
  refine r_aload_n (dc_L_law_19 26 rfl) rfl rfl ?_
  refine r_iload (dc_L_law_19 27 rfl) rfl ?_
  refine r_iconst (dc_L_law_19 28 rfl) kiconst_1 ?_
  refine r_iadd (dc_L_law_19 29 rfl) ?_
  obtain ⟨x286, e0, h⟩ := Option.bind_eq_some_iff.mp h
  obtain ⟨hin, ex⟩ := sld_some e0
  refine r_sld (dc_L_law_19 30 rfl) hin ?_
  rw [← ex]
  refine r_aload_n (dc_L_law_19 31 rfl) rfl rfl ?_
  refine r_iload (dc_L_law_19 32 rfl) rfl ?_
  refine r_iconst (dc_L_law_19 33 rfl) kiconst_2 ?_
  refine r_iadd (dc_L_law_19 34 rfl) ?_
  obtain ⟨x287, e0, h⟩ := Option.bind_eq_some_iff.mp h
  obtain ⟨hin, ex⟩ := sld_some e0
  refine r_sld (dc_L_law_19 35 rfl) hin ?_
  rw [← ex]
  obtain ⟨x289, s288, e0, h⟩ := wb_some h
  refine r_callV (dc_L_law_19 36 rfl) mv_X10_unlike ml_RL_248 (As := [.int x286, .int x287]) (t_X10_unlike (d := d - 1) hl (by omega) e0) (by omega) rfl (Nat.le_of_ble_eq_true rfl) ?_
  refine r_istore (dc_L_law_19 37 rfl) (by decide) (lo' := [(6, .int x289), (5, .int x285), (0, .ref 0), (1, .ref pC1), (2, .ref pC2), (3, .ref pC3), (4, .int xC4)]) rfl ?_
  refine r_aload_n (dc_L_law_19 38 rfl) rfl rfl ?_
  obtain ⟨x290, e0, h⟩ := Option.bind_eq_some_iff.mp h
  refine r_callV (dc_L_law_19 39 rfl) mv_X10_thrown ml_RL_166 (As := []) (t_X10_thrown (d := d - 1) hl (by omega) e0) (by omega) rfl (Nat.le_of_ble_eq_true rfl) ?_
  refine r_iload (dc_L_law_19 40 rfl) rfl ?_
  refine r_icmp_eq (dc_L_law_19 41 rfl) (tgt := 2093) (by decide) (fun c0 => ?_) (fun c0 => ?_)
  · rw [if_pos c0] at h
    refine r_iload (dc_L_law_19 44 rfl) rfl ?_
    refine r_if_ne (dc_L_law_19 45 rfl) (tgt := 2110) (by decide) (fun c0 => ?_) (fun c0 => ?_)
    · rw [if_neg c0] at h
      refine r_goto (dc_L_law_19 55 rfl) (tgt := 3394) (by decide) ?_
      refine r_pick [2, 3, 4, 5, 6] (lo' := [(0, .ref 0), (1, .ref pC1), (2, .ref pC2), (3, .ref pC3), (4, .int xC4)]) rfl ?_
      exact hkJ _ h
    · rw [if_pos c0] at h
      refine r_aload_n (dc_L_law_19 46 rfl) rfl rfl ?_
      refine r_iconst (dc_L_law_19 47 rfl) kiconst_0 ?_
      obtain ⟨y291, e0, h⟩ := Option.bind_eq_some_iff.mp h
      refine r_lald (dc_L_law_19 48 rfl) e0 ?_
      refine r_iload (dc_L_law_19 49 rfl) rfl ?_
      refine r_i2l (dc_L_law_19 50 rfl) ?_
      refine r_lcmp (dc_L_law_19 51 rfl) ?_
      refine r_if_eq (dc_L_law_19 52 rfl) (tgt := 2110) (by decide) (fun c0 => ?_) (fun c0 => ?_)
      · rw [if_pos c0] at h
        refine r_goto (dc_L_law_19 55 rfl) (tgt := 3394) (by decide) ?_
        refine r_pick [2, 3, 4, 5, 6] (lo' := [(0, .ref 0), (1, .ref pC1), (2, .ref pC2), (3, .ref pC3), (4, .int xC4)]) rfl ?_
        exact hkJ _ h
      · rw [if_neg c0] at h
        refine r_iconst (dc_L_law_19 53 rfl) kiconst_0 ?_
        cases h
        exact r_zreturn (dc_L_law_19 54 rfl) rfl (Or.inl rfl)
  · rw [if_neg c0] at h
    refine r_iconst (dc_L_law_19 42 rfl) kiconst_0 ?_
    cases h
    exact r_zreturn (dc_L_law_19 43 rfl) rfl (Or.inl rfl)
theorem l_L_law_C26 {G : Gx} {d : Nat} (hl : G.1.stackTraces = false) (hd : 15 ≤ d) {pC1 : Nat} {pC2 : Nat} {pC3 : Nat} {xC4 : Int32} {sC : Sto} {r : (Int32 × Sto)} {kJ : Sto → Option (Int32 × Sto)} (hkJ : ∀ (sJ : Sto), kJ sJ = some r → J G d m_L_law 3394 [(0, .ref 0), (1, .ref pC1), (2, .ref pC2), (3, .ref pC3), (4, .int xC4)] [] sJ (.inl (some (.int r.1))) r.2) (h : F_L_law_C26 G.sl G.sx pC1 pC2 pC3 xC4 sC kJ = some r) : J G d m_L_law 2113 [(0, .ref 0), (1, .ref pC1), (2, .ref pC2), (3, .ref pC3), (4, .int xC4)] [] sC (.inl (some (.int r.1))) r.2 := by
  rw [F_L_law_C26] at h
  refine r_aload_n (dc_L_law_19 56 rfl) rfl rfl ?_
  refine r_aload_n (dc_L_law_19 57 rfl) rfl rfl ?_
  refine r_iload (dc_L_law_19 58 rfl) rfl ?_
  refine r_iconst (dc_L_law_19 59 rfl) kiconst_1 ?_
  refine r_iadd (dc_L_law_19 60 rfl) ?_
  obtain ⟨x292, e0, h⟩ := Option.bind_eq_some_iff.mp h
  obtain ⟨hin, ex⟩ := sld_some e0
  refine r_sld (dc_L_law_19 61 rfl) hin ?_
  rw [← ex]
  refine r_aload_n (dc_L_law_19 62 rfl) rfl rfl ?_
  refine r_iload (dc_L_law_19 63 rfl) rfl ?_
  refine r_iconst (dc_L_law_20 0 rfl) kiconst_2 ?_
  refine r_iadd (dc_L_law_20 1 rfl) ?_
  obtain ⟨x293, e0, h⟩ := Option.bind_eq_some_iff.mp h
  obtain ⟨hin, ex⟩ := sld_some e0
  refine r_sld (dc_L_law_20 2 rfl) hin ?_
  rw [← ex]
  refine r_aload_n (dc_L_law_20 3 rfl) rfl rfl ?_
  refine r_iload (dc_L_law_20 4 rfl) rfl ?_
  refine r_iconst (dc_L_law_20 5 rfl) kiconst_3 ?_
  refine r_iadd (dc_L_law_20 6 rfl) ?_
  obtain ⟨x294, e0, h⟩ := Option.bind_eq_some_iff.mp h
  obtain ⟨hin, ex⟩ := sld_some e0
  refine r_sld (dc_L_law_20 7 rfl) hin ?_
  rw [← ex]
  refine r_aload_n (dc_L_law_20 8 rfl) rfl rfl ?_
  obtain ⟨x296, s295, e0, h⟩ := wb_some h
  refine r_callSH (dc_L_law_20 9 rfl) mh_L_would ml_RL_249 (As := [.ref pC1, .int x292, .int x293, .int x294, .ref pC3]) (t_L_would (d := d - 1) hl (by omega) e0) (by omega) rfl (Nat.le_of_ble_eq_true rfl) ?_
  refine r_istore (dc_L_law_20 10 rfl) (by decide) (lo' := [(5, .int x296), (0, .ref 0), (1, .ref pC1), (2, .ref pC2), (3, .ref pC3), (4, .int xC4)]) rfl ?_
  refine r_aload_n (dc_L_law_20 11 rfl) rfl rfl ?_
  refine r_aload_n (dc_L_law_20 12 rfl) rfl rfl ?_
  refine r_iload (dc_L_law_20 13 rfl) rfl ?_
  refine r_iconst (dc_L_law_20 14 rfl) kiconst_1 ?_
  refine r_iadd (dc_L_law_20 15 rfl) ?_
  obtain ⟨x297, e0, h⟩ := Option.bind_eq_some_iff.mp h
  obtain ⟨hin, ex⟩ := sld_some e0
  refine r_sld (dc_L_law_20 16 rfl) hin ?_
  rw [← ex]
  refine r_aload_n (dc_L_law_20 17 rfl) rfl rfl ?_
  refine r_iload (dc_L_law_20 18 rfl) rfl ?_
  refine r_iconst (dc_L_law_20 19 rfl) kiconst_2 ?_
  refine r_iadd (dc_L_law_20 20 rfl) ?_
  obtain ⟨x298, e0, h⟩ := Option.bind_eq_some_iff.mp h
  obtain ⟨hin, ex⟩ := sld_some e0
  refine r_sld (dc_L_law_20 21 rfl) hin ?_
  rw [← ex]
  refine r_aload_n (dc_L_law_20 22 rfl) rfl rfl ?_
  refine r_iload (dc_L_law_20 23 rfl) rfl ?_
  refine r_iconst (dc_L_law_20 24 rfl) kiconst_3 ?_
  refine r_iadd (dc_L_law_20 25 rfl) ?_
  obtain ⟨x299, e0, h⟩ := Option.bind_eq_some_iff.mp h
  obtain ⟨hin, ex⟩ := sld_some e0
  refine r_sld (dc_L_law_20 26 rfl) hin ?_
  rw [← ex]
  obtain ⟨x301, s300, e0, h⟩ := wb_some h
  refine r_callV (dc_L_law_20 27 rfl) mv_X10_would ml_RL_251 (As := [.int x297, .int x298, .int x299]) (t_X10_would (d := d - 1) hl (by omega) e0) (by omega) rfl (Nat.le_of_ble_eq_true rfl) ?_
  refine r_istore (dc_L_law_20 28 rfl) (by decide) (lo' := [(6, .int x301), (5, .int x296), (0, .ref 0), (1, .ref pC1), (2, .ref pC2), (3, .ref pC3), (4, .int xC4)]) rfl ?_
  refine r_aload_n (dc_L_law_20 29 rfl) rfl rfl ?_
  obtain ⟨x302, e0, h⟩ := Option.bind_eq_some_iff.mp h
  refine r_callV (dc_L_law_20 30 rfl) mv_X10_thrown ml_RL_166 (As := []) (t_X10_thrown (d := d - 1) hl (by omega) e0) (by omega) rfl (Nat.le_of_ble_eq_true rfl) ?_
  refine r_iload (dc_L_law_20 31 rfl) rfl ?_
  refine r_icmp_eq (dc_L_law_20 32 rfl) (tgt := 2173) (by decide) (fun c0 => ?_) (fun c0 => ?_)
  · rw [if_pos c0] at h
    refine r_iload (dc_L_law_20 35 rfl) rfl ?_
    refine r_if_ne (dc_L_law_20 36 rfl) (tgt := 2190) (by decide) (fun c0 => ?_) (fun c0 => ?_)
    · rw [if_neg c0] at h
      refine r_goto (dc_L_law_20 46 rfl) (tgt := 3394) (by decide) ?_
      refine r_pick [2, 3, 4, 5, 6] (lo' := [(0, .ref 0), (1, .ref pC1), (2, .ref pC2), (3, .ref pC3), (4, .int xC4)]) rfl ?_
      exact hkJ _ h
    · rw [if_pos c0] at h
      refine r_aload_n (dc_L_law_20 37 rfl) rfl rfl ?_
      refine r_iconst (dc_L_law_20 38 rfl) kiconst_0 ?_
      obtain ⟨y303, e0, h⟩ := Option.bind_eq_some_iff.mp h
      refine r_lald (dc_L_law_20 39 rfl) e0 ?_
      refine r_iload (dc_L_law_20 40 rfl) rfl ?_
      refine r_i2l (dc_L_law_20 41 rfl) ?_
      refine r_lcmp (dc_L_law_20 42 rfl) ?_
      refine r_if_eq (dc_L_law_20 43 rfl) (tgt := 2190) (by decide) (fun c0 => ?_) (fun c0 => ?_)
      · rw [if_pos c0] at h
        refine r_goto (dc_L_law_20 46 rfl) (tgt := 3394) (by decide) ?_
        refine r_pick [2, 3, 4, 5, 6] (lo' := [(0, .ref 0), (1, .ref pC1), (2, .ref pC2), (3, .ref pC3), (4, .int xC4)]) rfl ?_
        exact hkJ _ h
      · rw [if_neg c0] at h
        refine r_iconst (dc_L_law_20 44 rfl) kiconst_0 ?_
        cases h
        exact r_zreturn (dc_L_law_20 45 rfl) rfl (Or.inl rfl)
  · rw [if_neg c0] at h
    refine r_iconst (dc_L_law_20 33 rfl) kiconst_0 ?_
    cases h
    exact r_zreturn (dc_L_law_20 34 rfl) rfl (Or.inl rfl)
theorem l_L_law_C27 {G : Gx} {d : Nat} (hl : G.1.stackTraces = false) (hd : 15 ≤ d) {pC1 : Nat} {pC2 : Nat} {pC3 : Nat} {xC4 : Int32} {sC : Sto} {r : (Int32 × Sto)} {kJ : Sto → Option (Int32 × Sto)} (hkJ : ∀ (sJ : Sto), kJ sJ = some r → J G d m_L_law 3394 [(0, .ref 0), (1, .ref pC1), (2, .ref pC2), (3, .ref pC3), (4, .int xC4)] [] sJ (.inl (some (.int r.1))) r.2) (h : F_L_law_C27 G.sl G.sx pC1 pC2 pC3 xC4 sC kJ = some r) : J G d m_L_law 2193 [(0, .ref 0), (1, .ref pC1), (2, .ref pC2), (3, .ref pC3), (4, .int xC4)] [] sC (.inl (some (.int r.1))) r.2 := by
  rw [F_L_law_C27] at h
  refine r_aload_n (dc_L_law_20 47 rfl) rfl rfl ?_
  refine r_aload_n (dc_L_law_20 48 rfl) rfl rfl ?_
  refine r_iload (dc_L_law_20 49 rfl) rfl ?_
  refine r_iconst (dc_L_law_20 50 rfl) kiconst_1 ?_
  refine r_iadd (dc_L_law_20 51 rfl) ?_
  obtain ⟨x304, e0, h⟩ := Option.bind_eq_some_iff.mp h
  obtain ⟨hin, ex⟩ := sld_some e0
  refine r_sld (dc_L_law_20 52 rfl) hin ?_
  rw [← ex]
  refine r_aload_n (dc_L_law_20 53 rfl) rfl rfl ?_
  refine r_iload (dc_L_law_20 54 rfl) rfl ?_
  refine r_iconst (dc_L_law_20 55 rfl) kiconst_2 ?_
  refine r_iadd (dc_L_law_20 56 rfl) ?_
  obtain ⟨x305, e0, h⟩ := Option.bind_eq_some_iff.mp h
  obtain ⟨hin, ex⟩ := sld_some e0
  refine r_sld (dc_L_law_20 57 rfl) hin ?_
  rw [← ex]
  refine r_aload_n (dc_L_law_20 58 rfl) rfl rfl ?_
  obtain ⟨x307, s306, e0, h⟩ := wb_some h
  refine r_callSH (dc_L_law_20 59 rfl) mh_L_event ml_RL_252 (As := [.ref pC1, .int x304, .int x305, .ref pC3]) (t_L_event (d := d - 1) hl (by omega) e0) (by omega) rfl (Nat.le_of_ble_eq_true rfl) ?_
  refine r_istore (dc_L_law_20 60 rfl) (by decide) (lo' := [(5, .int x307), (0, .ref 0), (1, .ref pC1), (2, .ref pC2), (3, .ref pC3), (4, .int xC4)]) rfl ?_
  refine r_aload_n (dc_L_law_20 61 rfl) rfl rfl ?_
  refine r_aload_n (dc_L_law_20 62 rfl) rfl rfl ?_
  refine r_iload (dc_L_law_20 63 rfl) rfl ?_
  refine r_iconst (dc_L_law_21 0 rfl) kiconst_1 ?_
  refine r_iadd (dc_L_law_21 1 rfl) ?_
  obtain ⟨x308, e0, h⟩ := Option.bind_eq_some_iff.mp h
  obtain ⟨hin, ex⟩ := sld_some e0
  refine r_sld (dc_L_law_21 2 rfl) hin ?_
  rw [← ex]
  refine r_aload_n (dc_L_law_21 3 rfl) rfl rfl ?_
  refine r_iload (dc_L_law_21 4 rfl) rfl ?_
  refine r_iconst (dc_L_law_21 5 rfl) kiconst_2 ?_
  refine r_iadd (dc_L_law_21 6 rfl) ?_
  obtain ⟨x309, e0, h⟩ := Option.bind_eq_some_iff.mp h
  obtain ⟨hin, ex⟩ := sld_some e0
  refine r_sld (dc_L_law_21 7 rfl) hin ?_
  rw [← ex]
  obtain ⟨x311, s310, e0, h⟩ := wb_some h
  refine r_callV (dc_L_law_21 8 rfl) mv_X10_event ml_RL_254 (As := [.int x308, .int x309]) (t_X10_event (d := d - 1) hl (by omega) e0) (by omega) rfl (Nat.le_of_ble_eq_true rfl) ?_
  refine r_istore (dc_L_law_21 9 rfl) (by decide) (lo' := [(6, .int x311), (5, .int x307), (0, .ref 0), (1, .ref pC1), (2, .ref pC2), (3, .ref pC3), (4, .int xC4)]) rfl ?_
  refine r_aload_n (dc_L_law_21 10 rfl) rfl rfl ?_
  obtain ⟨x312, e0, h⟩ := Option.bind_eq_some_iff.mp h
  refine r_callV (dc_L_law_21 11 rfl) mv_X10_thrown ml_RL_166 (As := []) (t_X10_thrown (d := d - 1) hl (by omega) e0) (by omega) rfl (Nat.le_of_ble_eq_true rfl) ?_
  refine r_iload (dc_L_law_21 12 rfl) rfl ?_
  refine r_icmp_eq (dc_L_law_21 13 rfl) (tgt := 2241) (by decide) (fun c0 => ?_) (fun c0 => ?_)
  · rw [if_pos c0] at h
    refine r_iload (dc_L_law_21 16 rfl) rfl ?_
    refine r_if_ne (dc_L_law_21 17 rfl) (tgt := 2258) (by decide) (fun c0 => ?_) (fun c0 => ?_)
    · rw [if_neg c0] at h
      refine r_goto (dc_L_law_21 27 rfl) (tgt := 3394) (by decide) ?_
      refine r_pick [2, 3, 4, 5, 6] (lo' := [(0, .ref 0), (1, .ref pC1), (2, .ref pC2), (3, .ref pC3), (4, .int xC4)]) rfl ?_
      exact hkJ _ h
    · rw [if_pos c0] at h
      refine r_aload_n (dc_L_law_21 18 rfl) rfl rfl ?_
      refine r_iconst (dc_L_law_21 19 rfl) kiconst_0 ?_
      obtain ⟨y313, e0, h⟩ := Option.bind_eq_some_iff.mp h
      refine r_lald (dc_L_law_21 20 rfl) e0 ?_
      refine r_iload (dc_L_law_21 21 rfl) rfl ?_
      refine r_i2l (dc_L_law_21 22 rfl) ?_
      refine r_lcmp (dc_L_law_21 23 rfl) ?_
      refine r_if_eq (dc_L_law_21 24 rfl) (tgt := 2258) (by decide) (fun c0 => ?_) (fun c0 => ?_)
      · rw [if_pos c0] at h
        refine r_goto (dc_L_law_21 27 rfl) (tgt := 3394) (by decide) ?_
        refine r_pick [2, 3, 4, 5, 6] (lo' := [(0, .ref 0), (1, .ref pC1), (2, .ref pC2), (3, .ref pC3), (4, .int xC4)]) rfl ?_
        exact hkJ _ h
      · rw [if_neg c0] at h
        refine r_iconst (dc_L_law_21 25 rfl) kiconst_0 ?_
        cases h
        exact r_zreturn (dc_L_law_21 26 rfl) rfl (Or.inl rfl)
  · rw [if_neg c0] at h
    refine r_iconst (dc_L_law_21 14 rfl) kiconst_0 ?_
    cases h
    exact r_zreturn (dc_L_law_21 15 rfl) rfl (Or.inl rfl)
theorem l_L_law_C28 {G : Gx} {d : Nat} (hl : G.1.stackTraces = false) (hd : 15 ≤ d) {pC1 : Nat} {pC2 : Nat} {pC3 : Nat} {xC4 : Int32} {sC : Sto} {r : (Int32 × Sto)} {kJ : Sto → Option (Int32 × Sto)} (hkJ : ∀ (sJ : Sto), kJ sJ = some r → J G d m_L_law 3394 [(0, .ref 0), (1, .ref pC1), (2, .ref pC2), (3, .ref pC3), (4, .int xC4)] [] sJ (.inl (some (.int r.1))) r.2) (h : F_L_law_C28 G.sl G.sx pC1 pC2 pC3 xC4 sC kJ = some r) : J G d m_L_law 2261 [(0, .ref 0), (1, .ref pC1), (2, .ref pC2), (3, .ref pC3), (4, .int xC4)] [] sC (.inl (some (.int r.1))) r.2 := by
  rw [F_L_law_C28] at h
  refine r_aload_n (dc_L_law_21 28 rfl) rfl rfl ?_
  refine r_aload_n (dc_L_law_21 29 rfl) rfl rfl ?_
  refine r_iload (dc_L_law_21 30 rfl) rfl ?_
  refine r_iconst (dc_L_law_21 31 rfl) kiconst_1 ?_
  refine r_iadd (dc_L_law_21 32 rfl) ?_
  obtain ⟨x314, e0, h⟩ := Option.bind_eq_some_iff.mp h
  obtain ⟨hin, ex⟩ := sld_some e0
  refine r_sld (dc_L_law_21 33 rfl) hin ?_
  rw [← ex]
  refine r_aload_n (dc_L_law_21 34 rfl) rfl rfl ?_
  refine r_iload (dc_L_law_21 35 rfl) rfl ?_
  refine r_iconst (dc_L_law_21 36 rfl) kiconst_2 ?_
  refine r_iadd (dc_L_law_21 37 rfl) ?_
  obtain ⟨x315, e0, h⟩ := Option.bind_eq_some_iff.mp h
  obtain ⟨hin, ex⟩ := sld_some e0
  refine r_sld (dc_L_law_21 38 rfl) hin ?_
  rw [← ex]
  refine r_aload_n (dc_L_law_21 39 rfl) rfl rfl ?_
  obtain ⟨x317, s316, e0, h⟩ := wb_some h
  refine r_callSH (dc_L_law_21 40 rfl) mh_L_ahead ml_RL_255 (As := [.ref pC1, .int x314, .int x315, .ref pC3]) (t_L_ahead (d := d - 1) hl (by omega) e0) (by omega) rfl (Nat.le_of_ble_eq_true rfl) ?_
  refine r_istore (dc_L_law_21 41 rfl) (by decide) (lo' := [(5, .int x317), (0, .ref 0), (1, .ref pC1), (2, .ref pC2), (3, .ref pC3), (4, .int xC4)]) rfl ?_
  refine r_aload_n (dc_L_law_21 42 rfl) rfl rfl ?_
  refine r_aload_n (dc_L_law_21 43 rfl) rfl rfl ?_
  refine r_iload (dc_L_law_21 44 rfl) rfl ?_
  refine r_iconst (dc_L_law_21 45 rfl) kiconst_1 ?_
  refine r_iadd (dc_L_law_21 46 rfl) ?_
  obtain ⟨x318, e0, h⟩ := Option.bind_eq_some_iff.mp h
  obtain ⟨hin, ex⟩ := sld_some e0
  refine r_sld (dc_L_law_21 47 rfl) hin ?_
  rw [← ex]
  refine r_aload_n (dc_L_law_21 48 rfl) rfl rfl ?_
  refine r_iload (dc_L_law_21 49 rfl) rfl ?_
  refine r_iconst (dc_L_law_21 50 rfl) kiconst_2 ?_
  refine r_iadd (dc_L_law_21 51 rfl) ?_
  obtain ⟨x319, e0, h⟩ := Option.bind_eq_some_iff.mp h
  obtain ⟨hin, ex⟩ := sld_some e0
  refine r_sld (dc_L_law_21 52 rfl) hin ?_
  rw [← ex]
  obtain ⟨x321, s320, e0, h⟩ := wb_some h
  refine r_callV (dc_L_law_21 53 rfl) mv_X10_ahead ml_RL_257 (As := [.int x318, .int x319]) (t_X10_ahead (d := d - 1) hl (by omega) e0) (by omega) rfl (Nat.le_of_ble_eq_true rfl) ?_
  refine r_istore (dc_L_law_21 54 rfl) (by decide) (lo' := [(6, .int x321), (5, .int x317), (0, .ref 0), (1, .ref pC1), (2, .ref pC2), (3, .ref pC3), (4, .int xC4)]) rfl ?_
  refine r_aload_n (dc_L_law_21 55 rfl) rfl rfl ?_
  obtain ⟨x322, e0, h⟩ := Option.bind_eq_some_iff.mp h
  refine r_callV (dc_L_law_21 56 rfl) mv_X10_thrown ml_RL_166 (As := []) (t_X10_thrown (d := d - 1) hl (by omega) e0) (by omega) rfl (Nat.le_of_ble_eq_true rfl) ?_
  refine r_iload (dc_L_law_21 57 rfl) rfl ?_
  refine r_icmp_eq (dc_L_law_21 58 rfl) (tgt := 2309) (by decide) (fun c0 => ?_) (fun c0 => ?_)
  · rw [if_pos c0] at h
    refine r_iload (dc_L_law_21 61 rfl) rfl ?_
    refine r_if_ne (dc_L_law_21 62 rfl) (tgt := 2333) (by decide) (fun c0 => ?_) (fun c0 => ?_)
    · rw [if_neg c0] at h
      refine r_goto (dc_L_law_22 11 rfl) (tgt := 3394) (by decide) ?_
      refine r_pick [2, 3, 4, 5, 6] (lo' := [(0, .ref 0), (1, .ref pC1), (2, .ref pC2), (3, .ref pC3), (4, .int xC4)]) rfl ?_
      exact hkJ _ h
    · rw [if_pos c0] at h
      refine r_aload_n (dc_L_law_21 63 rfl) rfl rfl ?_
      refine r_iconst (dc_L_law_22 0 rfl) kiconst_0 ?_
      obtain ⟨y323, e0, h⟩ := Option.bind_eq_some_iff.mp h
      refine r_lald (dc_L_law_22 1 rfl) e0 ?_
      refine r_iload (dc_L_law_22 2 rfl) rfl ?_
      refine jn_elim h (Q := fun (j : Int64 → Option (Int32 × Sto)) => ∀ (y325 : Int64), j y325 = some r → J G d m_L_law 2327 [(0, .ref 0), (1, .ref pC1), (2, .ref pC2), (3, .ref pC3), (4, .int xC4)] [.long y325, .long y323] s320 (.inl (some (.int r.1))) r.2) ?_ (fun j324 hj324 h => ?_)
      · intro y325 h
        refine r_lcmp (dc_L_law_22 7 rfl) ?_
        refine r_if_eq (dc_L_law_22 8 rfl) (tgt := 2333) (by decide) (fun c0 => ?_) (fun c0 => ?_)
        · rw [if_pos c0] at h
          refine r_goto (dc_L_law_22 11 rfl) (tgt := 3394) (by decide) ?_
          exact hkJ _ h
        · rw [if_neg c0] at h
          refine r_iconst (dc_L_law_22 9 rfl) kiconst_0 ?_
          cases h
          exact r_zreturn (dc_L_law_22 10 rfl) rfl (Or.inl rfl)
      refine r_if_eq (dc_L_law_22 3 rfl) (tgt := 2326) (by decide) (fun c0 => ?_) (fun c0 => ?_)
      · rw [if_pos c0] at h
        refine r_lconst (dc_L_law_22 6 rfl) klconst_0 ?_
        refine r_pick [2, 3, 4, 5, 6] (lo' := [(0, .ref 0), (1, .ref pC1), (2, .ref pC2), (3, .ref pC3), (4, .int xC4)]) rfl ?_
        exact hj324 _ h
      · rw [if_neg c0] at h
        refine r_lconst (dc_L_law_22 4 rfl) klconst_1 ?_
        refine r_goto (dc_L_law_22 5 rfl) (tgt := 2327) (by decide) ?_
        refine r_pick [2, 3, 4, 5, 6] (lo' := [(0, .ref 0), (1, .ref pC1), (2, .ref pC2), (3, .ref pC3), (4, .int xC4)]) rfl ?_
        exact hj324 _ h
  · rw [if_neg c0] at h
    refine r_iconst (dc_L_law_21 59 rfl) kiconst_0 ?_
    cases h
    exact r_zreturn (dc_L_law_21 60 rfl) rfl (Or.inl rfl)
theorem l_L_law_C29 {G : Gx} {d : Nat} (hl : G.1.stackTraces = false) (hd : 15 ≤ d) {pC1 : Nat} {pC2 : Nat} {pC3 : Nat} {xC4 : Int32} {sC : Sto} {r : (Int32 × Sto)} {kJ : Sto → Option (Int32 × Sto)} (hkJ : ∀ (sJ : Sto), kJ sJ = some r → J G d m_L_law 3394 [(0, .ref 0), (1, .ref pC1), (2, .ref pC2), (3, .ref pC3), (4, .int xC4)] [] sJ (.inl (some (.int r.1))) r.2) (h : F_L_law_C29 G.sl G.sx pC1 pC2 pC3 xC4 sC kJ = some r) : J G d m_L_law 2336 [(0, .ref 0), (1, .ref pC1), (2, .ref pC2), (3, .ref pC3), (4, .int xC4)] [] sC (.inl (some (.int r.1))) r.2 := by
  rw [F_L_law_C29] at h
  refine r_aload_n (dc_L_law_22 12 rfl) rfl rfl ?_
  refine r_aload_n (dc_L_law_22 13 rfl) rfl rfl ?_
  refine r_iload (dc_L_law_22 14 rfl) rfl ?_
  refine r_iconst (dc_L_law_22 15 rfl) kiconst_1 ?_
  refine r_iadd (dc_L_law_22 16 rfl) ?_
  obtain ⟨x326, e0, h⟩ := Option.bind_eq_some_iff.mp h
  obtain ⟨hin, ex⟩ := sld_some e0
  refine r_sld (dc_L_law_22 17 rfl) hin ?_
  rw [← ex]
  refine r_aload_n (dc_L_law_22 18 rfl) rfl rfl ?_
  obtain ⟨x328, s327, e0, h⟩ := wb_some h
  refine r_callSH (dc_L_law_22 19 rfl) mh_L_wide ml_RL_258 (As := [.ref pC1, .int x326, .ref pC3]) (t_L_wide (d := d - 1) hl (by omega) e0) (by omega) rfl (Nat.le_of_ble_eq_true rfl) ?_
  refine r_istore (dc_L_law_22 20 rfl) (by decide) (lo' := [(5, .int x328), (0, .ref 0), (1, .ref pC1), (2, .ref pC2), (3, .ref pC3), (4, .int xC4)]) rfl ?_
  refine r_aload_n (dc_L_law_22 21 rfl) rfl rfl ?_
  refine r_aload_n (dc_L_law_22 22 rfl) rfl rfl ?_
  refine r_iload (dc_L_law_22 23 rfl) rfl ?_
  refine r_iconst (dc_L_law_22 24 rfl) kiconst_1 ?_
  refine r_iadd (dc_L_law_22 25 rfl) ?_
  obtain ⟨x329, e0, h⟩ := Option.bind_eq_some_iff.mp h
  obtain ⟨hin, ex⟩ := sld_some e0
  refine r_sld (dc_L_law_22 26 rfl) hin ?_
  rw [← ex]
  obtain ⟨x331, s330, e0, h⟩ := wb_some h
  refine r_callV (dc_L_law_22 27 rfl) mv_X10_wide ml_RL_260 (As := [.int x329]) (t_X10_wide (d := d - 1) hl (by omega) e0) (by omega) rfl (Nat.le_of_ble_eq_true rfl) ?_
  refine r_istore (dc_L_law_22 28 rfl) (by decide) (lo' := [(6, .int x331), (5, .int x328), (0, .ref 0), (1, .ref pC1), (2, .ref pC2), (3, .ref pC3), (4, .int xC4)]) rfl ?_
  refine r_aload_n (dc_L_law_22 29 rfl) rfl rfl ?_
  obtain ⟨x332, e0, h⟩ := Option.bind_eq_some_iff.mp h
  refine r_callV (dc_L_law_22 30 rfl) mv_X10_thrown ml_RL_166 (As := []) (t_X10_thrown (d := d - 1) hl (by omega) e0) (by omega) rfl (Nat.le_of_ble_eq_true rfl) ?_
  refine r_iload (dc_L_law_22 31 rfl) rfl ?_
  refine r_icmp_eq (dc_L_law_22 32 rfl) (tgt := 2372) (by decide) (fun c0 => ?_) (fun c0 => ?_)
  · rw [if_pos c0] at h
    refine r_iload (dc_L_law_22 35 rfl) rfl ?_
    refine r_if_ne (dc_L_law_22 36 rfl) (tgt := 2389) (by decide) (fun c0 => ?_) (fun c0 => ?_)
    · rw [if_neg c0] at h
      refine r_goto (dc_L_law_22 46 rfl) (tgt := 3394) (by decide) ?_
      refine r_pick [2, 3, 4, 5, 6] (lo' := [(0, .ref 0), (1, .ref pC1), (2, .ref pC2), (3, .ref pC3), (4, .int xC4)]) rfl ?_
      exact hkJ _ h
    · rw [if_pos c0] at h
      refine r_aload_n (dc_L_law_22 37 rfl) rfl rfl ?_
      refine r_iconst (dc_L_law_22 38 rfl) kiconst_0 ?_
      obtain ⟨y333, e0, h⟩ := Option.bind_eq_some_iff.mp h
      refine r_lald (dc_L_law_22 39 rfl) e0 ?_
      refine r_iload (dc_L_law_22 40 rfl) rfl ?_
      refine r_i2l (dc_L_law_22 41 rfl) ?_
      refine r_lcmp (dc_L_law_22 42 rfl) ?_
      refine r_if_eq (dc_L_law_22 43 rfl) (tgt := 2389) (by decide) (fun c0 => ?_) (fun c0 => ?_)
      · rw [if_pos c0] at h
        refine r_goto (dc_L_law_22 46 rfl) (tgt := 3394) (by decide) ?_
        refine r_pick [2, 3, 4, 5, 6] (lo' := [(0, .ref 0), (1, .ref pC1), (2, .ref pC2), (3, .ref pC3), (4, .int xC4)]) rfl ?_
        exact hkJ _ h
      · rw [if_neg c0] at h
        refine r_iconst (dc_L_law_22 44 rfl) kiconst_0 ?_
        cases h
        exact r_zreturn (dc_L_law_22 45 rfl) rfl (Or.inl rfl)
  · rw [if_neg c0] at h
    refine r_iconst (dc_L_law_22 33 rfl) kiconst_0 ?_
    cases h
    exact r_zreturn (dc_L_law_22 34 rfl) rfl (Or.inl rfl)
theorem l_L_law_C30 {G : Gx} {d : Nat} (hl : G.1.stackTraces = false) (hd : 15 ≤ d) {pC1 : Nat} {pC2 : Nat} {pC3 : Nat} {xC4 : Int32} {sC : Sto} {r : (Int32 × Sto)} {kJ : Sto → Option (Int32 × Sto)} (hkJ : ∀ (sJ : Sto), kJ sJ = some r → J G d m_L_law 3394 [(0, .ref 0), (1, .ref pC1), (2, .ref pC2), (3, .ref pC3), (4, .int xC4)] [] sJ (.inl (some (.int r.1))) r.2) (h : F_L_law_C30 G.sl G.sx pC1 pC2 pC3 xC4 sC kJ = some r) : J G d m_L_law 2392 [(0, .ref 0), (1, .ref pC1), (2, .ref pC2), (3, .ref pC3), (4, .int xC4)] [] sC (.inl (some (.int r.1))) r.2 := by
  rw [F_L_law_C30] at h
  refine r_aload_n (dc_L_law_22 47 rfl) rfl rfl ?_
  refine r_aload_n (dc_L_law_22 48 rfl) rfl rfl ?_
  refine r_iload (dc_L_law_22 49 rfl) rfl ?_
  refine r_iconst (dc_L_law_22 50 rfl) kiconst_1 ?_
  refine r_iadd (dc_L_law_22 51 rfl) ?_
  obtain ⟨x334, e0, h⟩ := Option.bind_eq_some_iff.mp h
  obtain ⟨hin, ex⟩ := sld_some e0
  refine r_sld (dc_L_law_22 52 rfl) hin ?_
  rw [← ex]
  refine r_aload_n (dc_L_law_22 53 rfl) rfl rfl ?_
  refine r_iload (dc_L_law_22 54 rfl) rfl ?_
  refine r_iconst (dc_L_law_22 55 rfl) kiconst_2 ?_
  refine r_iadd (dc_L_law_22 56 rfl) ?_
  obtain ⟨x335, e0, h⟩ := Option.bind_eq_some_iff.mp h
  obtain ⟨hin, ex⟩ := sld_some e0
  refine r_sld (dc_L_law_22 57 rfl) hin ?_
  rw [← ex]
  refine r_aload_n (dc_L_law_22 58 rfl) rfl rfl ?_
  refine r_iload (dc_L_law_22 59 rfl) rfl ?_
  refine r_iconst (dc_L_law_22 60 rfl) kiconst_3 ?_
  refine r_iadd (dc_L_law_22 61 rfl) ?_
  obtain ⟨x336, e0, h⟩ := Option.bind_eq_some_iff.mp h
  obtain ⟨hin, ex⟩ := sld_some e0
  refine r_sld (dc_L_law_22 62 rfl) hin ?_
  rw [← ex]
  refine r_aload_n (dc_L_law_22 63 rfl) rfl rfl ?_
  obtain ⟨x338, s337, e0, h⟩ := wb_some h
  refine r_callSH (dc_L_law_23 0 rfl) mh_L_came ml_RL_261 (As := [.ref pC1, .int x334, .int x335, .int x336, .ref pC3]) (t_L_came (d := d - 1) hl (by omega) e0) (by omega) rfl (Nat.le_of_ble_eq_true rfl) ?_
  refine r_istore (dc_L_law_23 1 rfl) (by decide) (lo' := [(5, .int x338), (0, .ref 0), (1, .ref pC1), (2, .ref pC2), (3, .ref pC3), (4, .int xC4)]) rfl ?_
  refine r_aload_n (dc_L_law_23 2 rfl) rfl rfl ?_
  refine r_aload_n (dc_L_law_23 3 rfl) rfl rfl ?_
  refine r_iload (dc_L_law_23 4 rfl) rfl ?_
  refine r_iconst (dc_L_law_23 5 rfl) kiconst_1 ?_
  refine r_iadd (dc_L_law_23 6 rfl) ?_
  obtain ⟨x339, e0, h⟩ := Option.bind_eq_some_iff.mp h
  obtain ⟨hin, ex⟩ := sld_some e0
  refine r_sld (dc_L_law_23 7 rfl) hin ?_
  rw [← ex]
  refine r_aload_n (dc_L_law_23 8 rfl) rfl rfl ?_
  refine r_iload (dc_L_law_23 9 rfl) rfl ?_
  refine r_iconst (dc_L_law_23 10 rfl) kiconst_2 ?_
  refine r_iadd (dc_L_law_23 11 rfl) ?_
  obtain ⟨x340, e0, h⟩ := Option.bind_eq_some_iff.mp h
  obtain ⟨hin, ex⟩ := sld_some e0
  refine r_sld (dc_L_law_23 12 rfl) hin ?_
  rw [← ex]
  refine r_aload_n (dc_L_law_23 13 rfl) rfl rfl ?_
  refine r_iload (dc_L_law_23 14 rfl) rfl ?_
  refine r_iconst (dc_L_law_23 15 rfl) kiconst_3 ?_
  refine r_iadd (dc_L_law_23 16 rfl) ?_
  obtain ⟨x341, e0, h⟩ := Option.bind_eq_some_iff.mp h
  obtain ⟨hin, ex⟩ := sld_some e0
  refine r_sld (dc_L_law_23 17 rfl) hin ?_
  rw [← ex]
  obtain ⟨x343, s342, e0, h⟩ := wb_some h
  refine r_callV (dc_L_law_23 18 rfl) mv_X10_came ml_RL_263 (As := [.int x339, .int x340, .int x341]) (t_X10_came (d := d - 1) hl (by omega) e0) (by omega) rfl (Nat.le_of_ble_eq_true rfl) ?_
  refine r_istore (dc_L_law_23 19 rfl) (by decide) (lo' := [(6, .int x343), (5, .int x338), (0, .ref 0), (1, .ref pC1), (2, .ref pC2), (3, .ref pC3), (4, .int xC4)]) rfl ?_
  refine r_aload_n (dc_L_law_23 20 rfl) rfl rfl ?_
  obtain ⟨x344, e0, h⟩ := Option.bind_eq_some_iff.mp h
  refine r_callV (dc_L_law_23 21 rfl) mv_X10_thrown ml_RL_166 (As := []) (t_X10_thrown (d := d - 1) hl (by omega) e0) (by omega) rfl (Nat.le_of_ble_eq_true rfl) ?_
  refine r_iload (dc_L_law_23 22 rfl) rfl ?_
  refine r_icmp_eq (dc_L_law_23 23 rfl) (tgt := 2452) (by decide) (fun c0 => ?_) (fun c0 => ?_)
  · rw [if_pos c0] at h
    refine r_iload (dc_L_law_23 26 rfl) rfl ?_
    refine r_if_ne (dc_L_law_23 27 rfl) (tgt := 2469) (by decide) (fun c0 => ?_) (fun c0 => ?_)
    · rw [if_neg c0] at h
      refine r_goto (dc_L_law_23 37 rfl) (tgt := 3394) (by decide) ?_
      refine r_pick [2, 3, 4, 5, 6] (lo' := [(0, .ref 0), (1, .ref pC1), (2, .ref pC2), (3, .ref pC3), (4, .int xC4)]) rfl ?_
      exact hkJ _ h
    · rw [if_pos c0] at h
      refine r_aload_n (dc_L_law_23 28 rfl) rfl rfl ?_
      refine r_iconst (dc_L_law_23 29 rfl) kiconst_0 ?_
      obtain ⟨y345, e0, h⟩ := Option.bind_eq_some_iff.mp h
      refine r_lald (dc_L_law_23 30 rfl) e0 ?_
      refine r_iload (dc_L_law_23 31 rfl) rfl ?_
      refine r_i2l (dc_L_law_23 32 rfl) ?_
      refine r_lcmp (dc_L_law_23 33 rfl) ?_
      refine r_if_eq (dc_L_law_23 34 rfl) (tgt := 2469) (by decide) (fun c0 => ?_) (fun c0 => ?_)
      · rw [if_pos c0] at h
        refine r_goto (dc_L_law_23 37 rfl) (tgt := 3394) (by decide) ?_
        refine r_pick [2, 3, 4, 5, 6] (lo' := [(0, .ref 0), (1, .ref pC1), (2, .ref pC2), (3, .ref pC3), (4, .int xC4)]) rfl ?_
        exact hkJ _ h
      · rw [if_neg c0] at h
        refine r_iconst (dc_L_law_23 35 rfl) kiconst_0 ?_
        cases h
        exact r_zreturn (dc_L_law_23 36 rfl) rfl (Or.inl rfl)
  · rw [if_neg c0] at h
    refine r_iconst (dc_L_law_23 24 rfl) kiconst_0 ?_
    cases h
    exact r_zreturn (dc_L_law_23 25 rfl) rfl (Or.inl rfl)
theorem l_L_law_C31 {G : Gx} {d : Nat} (hl : G.1.stackTraces = false) (hd : 15 ≤ d) {pC1 : Nat} {pC2 : Nat} {pC3 : Nat} {xC4 : Int32} {sC : Sto} {r : (Int32 × Sto)} {kJ : Sto → Option (Int32 × Sto)} (hkJ : ∀ (sJ : Sto), kJ sJ = some r → J G d m_L_law 3394 [(0, .ref 0), (1, .ref pC1), (2, .ref pC2), (3, .ref pC3), (4, .int xC4)] [] sJ (.inl (some (.int r.1))) r.2) (h : F_L_law_C31 G.sl G.sx pC1 pC2 pC3 xC4 sC kJ = some r) : J G d m_L_law 2472 [(0, .ref 0), (1, .ref pC1), (2, .ref pC2), (3, .ref pC3), (4, .int xC4)] [] sC (.inl (some (.int r.1))) r.2 := by
  rw [F_L_law_C31] at h
  refine r_aload_n (dc_L_law_23 38 rfl) rfl rfl ?_
  refine r_aload_n (dc_L_law_23 39 rfl) rfl rfl ?_
  refine r_iload (dc_L_law_23 40 rfl) rfl ?_
  refine r_iconst (dc_L_law_23 41 rfl) kiconst_1 ?_
  refine r_iadd (dc_L_law_23 42 rfl) ?_
  obtain ⟨x346, e0, h⟩ := Option.bind_eq_some_iff.mp h
  obtain ⟨hin, ex⟩ := sld_some e0
  refine r_sld (dc_L_law_23 43 rfl) hin ?_
  rw [← ex]
  refine r_aload_n (dc_L_law_23 44 rfl) rfl rfl ?_
  refine r_iload (dc_L_law_23 45 rfl) rfl ?_
  refine r_iconst (dc_L_law_23 46 rfl) kiconst_2 ?_
  refine r_iadd (dc_L_law_23 47 rfl) ?_
  obtain ⟨x347, e0, h⟩ := Option.bind_eq_some_iff.mp h
  obtain ⟨hin, ex⟩ := sld_some e0
  refine r_sld (dc_L_law_23 48 rfl) hin ?_
  rw [← ex]
  refine r_aload_n (dc_L_law_23 49 rfl) rfl rfl ?_
  refine r_iload (dc_L_law_23 50 rfl) rfl ?_
  refine r_iconst (dc_L_law_23 51 rfl) kiconst_3 ?_
  refine r_iadd (dc_L_law_23 52 rfl) ?_
  obtain ⟨x348, e0, h⟩ := Option.bind_eq_some_iff.mp h
  obtain ⟨hin, ex⟩ := sld_some e0
  refine r_sld (dc_L_law_23 53 rfl) hin ?_
  rw [← ex]
  refine r_aload_n (dc_L_law_23 54 rfl) rfl rfl ?_
  obtain ⟨x350, s349, e0, h⟩ := wb_some h
  refine r_callSH (dc_L_law_23 55 rfl) mh_L_way ml_RL_264 (As := [.ref pC1, .int x346, .int x347, .int x348, .ref pC3]) (t_L_way (d := d - 1) hl (by omega) e0) (by omega) rfl (Nat.le_of_ble_eq_true rfl) ?_
  refine r_istore (dc_L_law_23 56 rfl) (by decide) (lo' := [(5, .int x350), (0, .ref 0), (1, .ref pC1), (2, .ref pC2), (3, .ref pC3), (4, .int xC4)]) rfl ?_
  refine r_aload_n (dc_L_law_23 57 rfl) rfl rfl ?_
  refine r_aload_n (dc_L_law_23 58 rfl) rfl rfl ?_
  refine r_iload (dc_L_law_23 59 rfl) rfl ?_
  refine r_iconst (dc_L_law_23 60 rfl) kiconst_1 ?_
  refine r_iadd (dc_L_law_23 61 rfl) ?_
  obtain ⟨x351, e0, h⟩ := Option.bind_eq_some_iff.mp h
  obtain ⟨hin, ex⟩ := sld_some e0
  refine r_sld (dc_L_law_23 62 rfl) hin ?_
  rw [← ex]
  refine r_aload_n (dc_L_law_23 63 rfl) rfl rfl ?_
  refine r_iload (dc_L_law_24 0 rfl) rfl ?_
  refine r_iconst (dc_L_law_24 1 rfl) kiconst_2 ?_
  refine r_iadd (dc_L_law_24 2 rfl) ?_
  obtain ⟨x352, e0, h⟩ := Option.bind_eq_some_iff.mp h
  obtain ⟨hin, ex⟩ := sld_some e0
  refine r_sld (dc_L_law_24 3 rfl) hin ?_
  rw [← ex]
  refine r_aload_n (dc_L_law_24 4 rfl) rfl rfl ?_
  refine r_iload (dc_L_law_24 5 rfl) rfl ?_
  refine r_iconst (dc_L_law_24 6 rfl) kiconst_3 ?_
  refine r_iadd (dc_L_law_24 7 rfl) ?_
  obtain ⟨x353, e0, h⟩ := Option.bind_eq_some_iff.mp h
  obtain ⟨hin, ex⟩ := sld_some e0
  refine r_sld (dc_L_law_24 8 rfl) hin ?_
  rw [← ex]
  obtain ⟨x355, s354, e0, h⟩ := wb_some h
  refine r_callV (dc_L_law_24 9 rfl) mv_X10_way ml_RL_266 (As := [.int x351, .int x352, .int x353]) (t_X10_way (d := d - 1) hl (by omega) e0) (by omega) rfl (Nat.le_of_ble_eq_true rfl) ?_
  refine r_istore (dc_L_law_24 10 rfl) (by decide) (lo' := [(6, .int x355), (5, .int x350), (0, .ref 0), (1, .ref pC1), (2, .ref pC2), (3, .ref pC3), (4, .int xC4)]) rfl ?_
  refine r_aload_n (dc_L_law_24 11 rfl) rfl rfl ?_
  obtain ⟨x356, e0, h⟩ := Option.bind_eq_some_iff.mp h
  refine r_callV (dc_L_law_24 12 rfl) mv_X10_thrown ml_RL_166 (As := []) (t_X10_thrown (d := d - 1) hl (by omega) e0) (by omega) rfl (Nat.le_of_ble_eq_true rfl) ?_
  refine r_iload (dc_L_law_24 13 rfl) rfl ?_
  refine r_icmp_eq (dc_L_law_24 14 rfl) (tgt := 2532) (by decide) (fun c0 => ?_) (fun c0 => ?_)
  · rw [if_pos c0] at h
    refine r_iload (dc_L_law_24 17 rfl) rfl ?_
    refine r_if_ne (dc_L_law_24 18 rfl) (tgt := 2549) (by decide) (fun c0 => ?_) (fun c0 => ?_)
    · rw [if_neg c0] at h
      refine r_goto (dc_L_law_24 28 rfl) (tgt := 3394) (by decide) ?_
      refine r_pick [2, 3, 4, 5, 6] (lo' := [(0, .ref 0), (1, .ref pC1), (2, .ref pC2), (3, .ref pC3), (4, .int xC4)]) rfl ?_
      exact hkJ _ h
    · rw [if_pos c0] at h
      refine r_aload_n (dc_L_law_24 19 rfl) rfl rfl ?_
      refine r_iconst (dc_L_law_24 20 rfl) kiconst_0 ?_
      obtain ⟨y357, e0, h⟩ := Option.bind_eq_some_iff.mp h
      refine r_lald (dc_L_law_24 21 rfl) e0 ?_
      refine r_iload (dc_L_law_24 22 rfl) rfl ?_
      refine r_i2l (dc_L_law_24 23 rfl) ?_
      refine r_lcmp (dc_L_law_24 24 rfl) ?_
      refine r_if_eq (dc_L_law_24 25 rfl) (tgt := 2549) (by decide) (fun c0 => ?_) (fun c0 => ?_)
      · rw [if_pos c0] at h
        refine r_goto (dc_L_law_24 28 rfl) (tgt := 3394) (by decide) ?_
        refine r_pick [2, 3, 4, 5, 6] (lo' := [(0, .ref 0), (1, .ref pC1), (2, .ref pC2), (3, .ref pC3), (4, .int xC4)]) rfl ?_
        exact hkJ _ h
      · rw [if_neg c0] at h
        refine r_iconst (dc_L_law_24 26 rfl) kiconst_0 ?_
        cases h
        exact r_zreturn (dc_L_law_24 27 rfl) rfl (Or.inl rfl)
  · rw [if_neg c0] at h
    refine r_iconst (dc_L_law_24 15 rfl) kiconst_0 ?_
    cases h
    exact r_zreturn (dc_L_law_24 16 rfl) rfl (Or.inl rfl)
theorem l_L_law_C32 {G : Gx} {d : Nat} (hl : G.1.stackTraces = false) (hd : 15 ≤ d) {pC1 : Nat} {pC2 : Nat} {pC3 : Nat} {xC4 : Int32} {sC : Sto} {r : (Int32 × Sto)} {kJ : Sto → Option (Int32 × Sto)} (hkJ : ∀ (sJ : Sto), kJ sJ = some r → J G d m_L_law 3394 [(0, .ref 0), (1, .ref pC1), (2, .ref pC2), (3, .ref pC3), (4, .int xC4)] [] sJ (.inl (some (.int r.1))) r.2) (h : F_L_law_C32 G.sl G.sx pC1 pC2 pC3 xC4 sC kJ = some r) : J G d m_L_law 2552 [(0, .ref 0), (1, .ref pC1), (2, .ref pC2), (3, .ref pC3), (4, .int xC4)] [] sC (.inl (some (.int r.1))) r.2 := by
  rw [F_L_law_C32] at h
  refine r_aload_n (dc_L_law_24 29 rfl) rfl rfl ?_
  refine r_aload_n (dc_L_law_24 30 rfl) rfl rfl ?_
  refine r_iload (dc_L_law_24 31 rfl) rfl ?_
  refine r_iconst (dc_L_law_24 32 rfl) kiconst_1 ?_
  refine r_iadd (dc_L_law_24 33 rfl) ?_
  obtain ⟨x358, e0, h⟩ := Option.bind_eq_some_iff.mp h
  obtain ⟨hin, ex⟩ := sld_some e0
  refine r_sld (dc_L_law_24 34 rfl) hin ?_
  rw [← ex]
  refine r_aload_n (dc_L_law_24 35 rfl) rfl rfl ?_
  obtain ⟨x360, s359, e0, h⟩ := wb_some h
  refine r_callSH (dc_L_law_24 36 rfl) mh_L_slowest ml_RL_267 (As := [.ref pC1, .int x358, .ref pC3]) (t_L_slowest (d := d - 1) hl (by omega) e0) (by omega) rfl (Nat.le_of_ble_eq_true rfl) ?_
  refine r_istore (dc_L_law_24 37 rfl) (by decide) (lo' := [(5, .int x360), (0, .ref 0), (1, .ref pC1), (2, .ref pC2), (3, .ref pC3), (4, .int xC4)]) rfl ?_
  refine r_aload_n (dc_L_law_24 38 rfl) rfl rfl ?_
  refine r_aload_n (dc_L_law_24 39 rfl) rfl rfl ?_
  refine r_iload (dc_L_law_24 40 rfl) rfl ?_
  refine r_iconst (dc_L_law_24 41 rfl) kiconst_1 ?_
  refine r_iadd (dc_L_law_24 42 rfl) ?_
  obtain ⟨x361, e0, h⟩ := Option.bind_eq_some_iff.mp h
  obtain ⟨hin, ex⟩ := sld_some e0
  refine r_sld (dc_L_law_24 43 rfl) hin ?_
  rw [← ex]
  obtain ⟨x363, s362, e0, h⟩ := wb_some h
  refine r_callV (dc_L_law_24 44 rfl) mv_X10_slowest ml_RL_269 (As := [.int x361]) (t_X10_slowest (d := d - 1) hl (by omega) e0) (by omega) rfl (Nat.le_of_ble_eq_true rfl) ?_
  refine r_istore (dc_L_law_24 45 rfl) (by decide) (lo' := [(6, .int x363), (5, .int x360), (0, .ref 0), (1, .ref pC1), (2, .ref pC2), (3, .ref pC3), (4, .int xC4)]) rfl ?_
  refine r_aload_n (dc_L_law_24 46 rfl) rfl rfl ?_
  obtain ⟨x364, e0, h⟩ := Option.bind_eq_some_iff.mp h
  refine r_callV (dc_L_law_24 47 rfl) mv_X10_thrown ml_RL_166 (As := []) (t_X10_thrown (d := d - 1) hl (by omega) e0) (by omega) rfl (Nat.le_of_ble_eq_true rfl) ?_
  refine r_iload (dc_L_law_24 48 rfl) rfl ?_
  refine r_icmp_eq (dc_L_law_24 49 rfl) (tgt := 2588) (by decide) (fun c0 => ?_) (fun c0 => ?_)
  · rw [if_pos c0] at h
    refine r_iload (dc_L_law_24 52 rfl) rfl ?_
    refine r_if_ne (dc_L_law_24 53 rfl) (tgt := 2605) (by decide) (fun c0 => ?_) (fun c0 => ?_)
    · rw [if_neg c0] at h
      refine r_goto (dc_L_law_24 63 rfl) (tgt := 3394) (by decide) ?_
      refine r_pick [2, 3, 4, 5, 6] (lo' := [(0, .ref 0), (1, .ref pC1), (2, .ref pC2), (3, .ref pC3), (4, .int xC4)]) rfl ?_
      exact hkJ _ h
    · rw [if_pos c0] at h
      refine r_aload_n (dc_L_law_24 54 rfl) rfl rfl ?_
      refine r_iconst (dc_L_law_24 55 rfl) kiconst_0 ?_
      obtain ⟨y365, e0, h⟩ := Option.bind_eq_some_iff.mp h
      refine r_lald (dc_L_law_24 56 rfl) e0 ?_
      refine r_iload (dc_L_law_24 57 rfl) rfl ?_
      refine r_i2l (dc_L_law_24 58 rfl) ?_
      refine r_lcmp (dc_L_law_24 59 rfl) ?_
      refine r_if_eq (dc_L_law_24 60 rfl) (tgt := 2605) (by decide) (fun c0 => ?_) (fun c0 => ?_)
      · rw [if_pos c0] at h
        refine r_goto (dc_L_law_24 63 rfl) (tgt := 3394) (by decide) ?_
        refine r_pick [2, 3, 4, 5, 6] (lo' := [(0, .ref 0), (1, .ref pC1), (2, .ref pC2), (3, .ref pC3), (4, .int xC4)]) rfl ?_
        exact hkJ _ h
      · rw [if_neg c0] at h
        refine r_iconst (dc_L_law_24 61 rfl) kiconst_0 ?_
        cases h
        exact r_zreturn (dc_L_law_24 62 rfl) rfl (Or.inl rfl)
  · rw [if_neg c0] at h
    refine r_iconst (dc_L_law_24 50 rfl) kiconst_0 ?_
    cases h
    exact r_zreturn (dc_L_law_24 51 rfl) rfl (Or.inl rfl)
theorem l_L_law_C33 {G : Gx} {d : Nat} (hl : G.1.stackTraces = false) (hd : 15 ≤ d) {pC1 : Nat} {pC2 : Nat} {pC3 : Nat} {xC4 : Int32} {sC : Sto} {r : (Int32 × Sto)} {kJ : Sto → Option (Int32 × Sto)} (hkJ : ∀ (sJ : Sto), kJ sJ = some r → J G d m_L_law 3394 [(0, .ref 0), (1, .ref pC1), (2, .ref pC2), (3, .ref pC3), (4, .int xC4)] [] sJ (.inl (some (.int r.1))) r.2) (h : F_L_law_C33 G.sl G.sx pC1 pC2 pC3 xC4 sC kJ = some r) : J G d m_L_law 2608 [(0, .ref 0), (1, .ref pC1), (2, .ref pC2), (3, .ref pC3), (4, .int xC4)] [] sC (.inl (some (.int r.1))) r.2 := by
  rw [F_L_law_C33] at h
  refine r_aload_n (dc_L_law_25 0 rfl) rfl rfl ?_
  refine r_aload_n (dc_L_law_25 1 rfl) rfl rfl ?_
  refine r_iload (dc_L_law_25 2 rfl) rfl ?_
  refine r_iconst (dc_L_law_25 3 rfl) kiconst_1 ?_
  refine r_iadd (dc_L_law_25 4 rfl) ?_
  obtain ⟨x366, e0, h⟩ := Option.bind_eq_some_iff.mp h
  obtain ⟨hin, ex⟩ := sld_some e0
  refine r_sld (dc_L_law_25 5 rfl) hin ?_
  rw [← ex]
  refine r_aload_n (dc_L_law_25 6 rfl) rfl rfl ?_
  refine r_iload (dc_L_law_25 7 rfl) rfl ?_
  refine r_iconst (dc_L_law_25 8 rfl) kiconst_2 ?_
  refine r_iadd (dc_L_law_25 9 rfl) ?_
  obtain ⟨x367, e0, h⟩ := Option.bind_eq_some_iff.mp h
  obtain ⟨hin, ex⟩ := sld_some e0
  refine r_sld (dc_L_law_25 10 rfl) hin ?_
  rw [← ex]
  refine r_aload_n (dc_L_law_25 11 rfl) rfl rfl ?_
  obtain ⟨x369, s368, e0, h⟩ := wb_some h
  refine r_callSH (dc_L_law_25 12 rfl) mh_L_chain ml_RL_270 (As := [.ref pC1, .int x366, .int x367, .ref pC3]) (t_L_chain (d := d - 1) hl (by omega) e0) (by omega) rfl (Nat.le_of_ble_eq_true rfl) ?_
  refine r_istore (dc_L_law_25 13 rfl) (by decide) (lo' := [(5, .int x369), (0, .ref 0), (1, .ref pC1), (2, .ref pC2), (3, .ref pC3), (4, .int xC4)]) rfl ?_
  refine r_aload_n (dc_L_law_25 14 rfl) rfl rfl ?_
  refine r_aload_n (dc_L_law_25 15 rfl) rfl rfl ?_
  refine r_iload (dc_L_law_25 16 rfl) rfl ?_
  refine r_iconst (dc_L_law_25 17 rfl) kiconst_1 ?_
  refine r_iadd (dc_L_law_25 18 rfl) ?_
  obtain ⟨x370, e0, h⟩ := Option.bind_eq_some_iff.mp h
  obtain ⟨hin, ex⟩ := sld_some e0
  refine r_sld (dc_L_law_25 19 rfl) hin ?_
  rw [← ex]
  refine r_aload_n (dc_L_law_25 20 rfl) rfl rfl ?_
  refine r_iload (dc_L_law_25 21 rfl) rfl ?_
  refine r_iconst (dc_L_law_25 22 rfl) kiconst_2 ?_
  refine r_iadd (dc_L_law_25 23 rfl) ?_
  obtain ⟨x371, e0, h⟩ := Option.bind_eq_some_iff.mp h
  obtain ⟨hin, ex⟩ := sld_some e0
  refine r_sld (dc_L_law_25 24 rfl) hin ?_
  rw [← ex]
  obtain ⟨x373, s372, e0, h⟩ := wb_some h
  refine r_callV (dc_L_law_25 25 rfl) mv_X10_chain ml_RL_272 (As := [.int x370, .int x371]) (t_X10_chain (d := d - 1) hl (by omega) e0) (by omega) rfl (Nat.le_of_ble_eq_true rfl) ?_
  refine r_istore (dc_L_law_25 26 rfl) (by decide) (lo' := [(6, .int x373), (5, .int x369), (0, .ref 0), (1, .ref pC1), (2, .ref pC2), (3, .ref pC3), (4, .int xC4)]) rfl ?_
  refine r_aload_n (dc_L_law_25 27 rfl) rfl rfl ?_
  obtain ⟨x374, e0, h⟩ := Option.bind_eq_some_iff.mp h
  refine r_callV (dc_L_law_25 28 rfl) mv_X10_thrown ml_RL_166 (As := []) (t_X10_thrown (d := d - 1) hl (by omega) e0) (by omega) rfl (Nat.le_of_ble_eq_true rfl) ?_
  refine r_iload (dc_L_law_25 29 rfl) rfl ?_
  refine r_icmp_eq (dc_L_law_25 30 rfl) (tgt := 2656) (by decide) (fun c0 => ?_) (fun c0 => ?_)
  · rw [if_pos c0] at h
    refine r_iload (dc_L_law_25 33 rfl) rfl ?_
    refine r_if_ne (dc_L_law_25 34 rfl) (tgt := 2673) (by decide) (fun c0 => ?_) (fun c0 => ?_)
    · rw [if_neg c0] at h
      refine r_goto (dc_L_law_25 44 rfl) (tgt := 3394) (by decide) ?_
      refine r_pick [2, 3, 4, 5, 6] (lo' := [(0, .ref 0), (1, .ref pC1), (2, .ref pC2), (3, .ref pC3), (4, .int xC4)]) rfl ?_
      exact hkJ _ h
    · rw [if_pos c0] at h
      refine r_aload_n (dc_L_law_25 35 rfl) rfl rfl ?_
      refine r_iconst (dc_L_law_25 36 rfl) kiconst_0 ?_
      obtain ⟨y375, e0, h⟩ := Option.bind_eq_some_iff.mp h
      refine r_lald (dc_L_law_25 37 rfl) e0 ?_
      refine r_iload (dc_L_law_25 38 rfl) rfl ?_
      refine r_i2l (dc_L_law_25 39 rfl) ?_
      refine r_lcmp (dc_L_law_25 40 rfl) ?_
      refine r_if_eq (dc_L_law_25 41 rfl) (tgt := 2673) (by decide) (fun c0 => ?_) (fun c0 => ?_)
      · rw [if_pos c0] at h
        refine r_goto (dc_L_law_25 44 rfl) (tgt := 3394) (by decide) ?_
        refine r_pick [2, 3, 4, 5, 6] (lo' := [(0, .ref 0), (1, .ref pC1), (2, .ref pC2), (3, .ref pC3), (4, .int xC4)]) rfl ?_
        exact hkJ _ h
      · rw [if_neg c0] at h
        refine r_iconst (dc_L_law_25 42 rfl) kiconst_0 ?_
        cases h
        exact r_zreturn (dc_L_law_25 43 rfl) rfl (Or.inl rfl)
  · rw [if_neg c0] at h
    refine r_iconst (dc_L_law_25 31 rfl) kiconst_0 ?_
    cases h
    exact r_zreturn (dc_L_law_25 32 rfl) rfl (Or.inl rfl)
theorem l_L_law_C34 {G : Gx} {d : Nat} (hl : G.1.stackTraces = false) (hd : 15 ≤ d) {pC1 : Nat} {pC2 : Nat} {pC3 : Nat} {xC4 : Int32} {sC : Sto} {r : (Int32 × Sto)} {kJ : Sto → Option (Int32 × Sto)} (hkJ : ∀ (sJ : Sto), kJ sJ = some r → J G d m_L_law 3394 [(0, .ref 0), (1, .ref pC1), (2, .ref pC2), (3, .ref pC3), (4, .int xC4)] [] sJ (.inl (some (.int r.1))) r.2) (h : F_L_law_C34 G.sl G.sx pC1 pC2 pC3 xC4 sC kJ = some r) : J G d m_L_law 2676 [(0, .ref 0), (1, .ref pC1), (2, .ref pC2), (3, .ref pC3), (4, .int xC4)] [] sC (.inl (some (.int r.1))) r.2 := by
  rw [F_L_law_C34] at h
  refine r_aload_n (dc_L_law_25 45 rfl) rfl rfl ?_
  refine r_aload_n (dc_L_law_25 46 rfl) rfl rfl ?_
  refine r_iload (dc_L_law_25 47 rfl) rfl ?_
  refine r_iconst (dc_L_law_25 48 rfl) kiconst_1 ?_
  refine r_iadd (dc_L_law_25 49 rfl) ?_
  obtain ⟨x376, e0, h⟩ := Option.bind_eq_some_iff.mp h
  obtain ⟨hin, ex⟩ := sld_some e0
  refine r_sld (dc_L_law_25 50 rfl) hin ?_
  rw [← ex]
  refine r_aload_n (dc_L_law_25 51 rfl) rfl rfl ?_
  refine r_iload (dc_L_law_25 52 rfl) rfl ?_
  refine r_iconst (dc_L_law_25 53 rfl) kiconst_2 ?_
  refine r_iadd (dc_L_law_25 54 rfl) ?_
  obtain ⟨x377, e0, h⟩ := Option.bind_eq_some_iff.mp h
  obtain ⟨hin, ex⟩ := sld_some e0
  refine r_sld (dc_L_law_25 55 rfl) hin ?_
  rw [← ex]
  refine r_aload_n (dc_L_law_25 56 rfl) rfl rfl ?_
  obtain ⟨x379, s378, e0, h⟩ := wb_some h
  refine r_callSH (dc_L_law_25 57 rfl) mh_L_between ml_RL_273 (As := [.ref pC1, .int x376, .int x377, .ref pC3]) (t_L_between (d := d - 1) hl (by omega) e0) (by omega) rfl (Nat.le_of_ble_eq_true rfl) ?_
  refine r_istore (dc_L_law_25 58 rfl) (by decide) (lo' := [(5, .int x379), (0, .ref 0), (1, .ref pC1), (2, .ref pC2), (3, .ref pC3), (4, .int xC4)]) rfl ?_
  refine r_aload_n (dc_L_law_25 59 rfl) rfl rfl ?_
  refine r_aload_n (dc_L_law_25 60 rfl) rfl rfl ?_
  refine r_iload (dc_L_law_25 61 rfl) rfl ?_
  refine r_iconst (dc_L_law_25 62 rfl) kiconst_1 ?_
  refine r_iadd (dc_L_law_25 63 rfl) ?_
  obtain ⟨x380, e0, h⟩ := Option.bind_eq_some_iff.mp h
  obtain ⟨hin, ex⟩ := sld_some e0
  refine r_sld (dc_L_law_26 0 rfl) hin ?_
  rw [← ex]
  refine r_aload_n (dc_L_law_26 1 rfl) rfl rfl ?_
  refine r_iload (dc_L_law_26 2 rfl) rfl ?_
  refine r_iconst (dc_L_law_26 3 rfl) kiconst_2 ?_
  refine r_iadd (dc_L_law_26 4 rfl) ?_
  obtain ⟨x381, e0, h⟩ := Option.bind_eq_some_iff.mp h
  obtain ⟨hin, ex⟩ := sld_some e0
  refine r_sld (dc_L_law_26 5 rfl) hin ?_
  rw [← ex]
  obtain ⟨x383, s382, e0, h⟩ := wb_some h
  refine r_callV (dc_L_law_26 6 rfl) mv_X10_between ml_RL_275 (As := [.int x380, .int x381]) (t_X10_between (d := d - 1) hl (by omega) e0) (by omega) rfl (Nat.le_of_ble_eq_true rfl) ?_
  refine r_istore (dc_L_law_26 7 rfl) (by decide) (lo' := [(6, .int x383), (5, .int x379), (0, .ref 0), (1, .ref pC1), (2, .ref pC2), (3, .ref pC3), (4, .int xC4)]) rfl ?_
  refine r_aload_n (dc_L_law_26 8 rfl) rfl rfl ?_
  obtain ⟨x384, e0, h⟩ := Option.bind_eq_some_iff.mp h
  refine r_callV (dc_L_law_26 9 rfl) mv_X10_thrown ml_RL_166 (As := []) (t_X10_thrown (d := d - 1) hl (by omega) e0) (by omega) rfl (Nat.le_of_ble_eq_true rfl) ?_
  refine r_iload (dc_L_law_26 10 rfl) rfl ?_
  refine r_icmp_eq (dc_L_law_26 11 rfl) (tgt := 2724) (by decide) (fun c0 => ?_) (fun c0 => ?_)
  · rw [if_pos c0] at h
    refine r_iload (dc_L_law_26 14 rfl) rfl ?_
    refine r_if_ne (dc_L_law_26 15 rfl) (tgt := 2741) (by decide) (fun c0 => ?_) (fun c0 => ?_)
    · rw [if_neg c0] at h
      refine r_goto (dc_L_law_26 25 rfl) (tgt := 3394) (by decide) ?_
      refine r_pick [2, 3, 4, 5, 6] (lo' := [(0, .ref 0), (1, .ref pC1), (2, .ref pC2), (3, .ref pC3), (4, .int xC4)]) rfl ?_
      exact hkJ _ h
    · rw [if_pos c0] at h
      refine r_aload_n (dc_L_law_26 16 rfl) rfl rfl ?_
      refine r_iconst (dc_L_law_26 17 rfl) kiconst_0 ?_
      obtain ⟨y385, e0, h⟩ := Option.bind_eq_some_iff.mp h
      refine r_lald (dc_L_law_26 18 rfl) e0 ?_
      refine r_iload (dc_L_law_26 19 rfl) rfl ?_
      refine r_i2l (dc_L_law_26 20 rfl) ?_
      refine r_lcmp (dc_L_law_26 21 rfl) ?_
      refine r_if_eq (dc_L_law_26 22 rfl) (tgt := 2741) (by decide) (fun c0 => ?_) (fun c0 => ?_)
      · rw [if_pos c0] at h
        refine r_goto (dc_L_law_26 25 rfl) (tgt := 3394) (by decide) ?_
        refine r_pick [2, 3, 4, 5, 6] (lo' := [(0, .ref 0), (1, .ref pC1), (2, .ref pC2), (3, .ref pC3), (4, .int xC4)]) rfl ?_
        exact hkJ _ h
      · rw [if_neg c0] at h
        refine r_iconst (dc_L_law_26 23 rfl) kiconst_0 ?_
        cases h
        exact r_zreturn (dc_L_law_26 24 rfl) rfl (Or.inl rfl)
  · rw [if_neg c0] at h
    refine r_iconst (dc_L_law_26 12 rfl) kiconst_0 ?_
    cases h
    exact r_zreturn (dc_L_law_26 13 rfl) rfl (Or.inl rfl)
theorem l_L_law_C35 {G : Gx} {d : Nat} (hl : G.1.stackTraces = false) (hd : 15 ≤ d) {pC1 : Nat} {pC2 : Nat} {pC3 : Nat} {xC4 : Int32} {sC : Sto} {r : (Int32 × Sto)} {kJ : Sto → Option (Int32 × Sto)} (hkJ : ∀ (sJ : Sto), kJ sJ = some r → J G d m_L_law 3394 [(0, .ref 0), (1, .ref pC1), (2, .ref pC2), (3, .ref pC3), (4, .int xC4)] [] sJ (.inl (some (.int r.1))) r.2) (h : F_L_law_C35 G.sl G.sx pC1 pC2 pC3 xC4 sC kJ = some r) : J G d m_L_law 2744 [(0, .ref 0), (1, .ref pC1), (2, .ref pC2), (3, .ref pC3), (4, .int xC4)] [] sC (.inl (some (.int r.1))) r.2 := by
  rw [F_L_law_C35] at h
  refine r_aload_n (dc_L_law_26 26 rfl) rfl rfl ?_
  refine r_aload_n (dc_L_law_26 27 rfl) rfl rfl ?_
  refine r_iload (dc_L_law_26 28 rfl) rfl ?_
  refine r_iconst (dc_L_law_26 29 rfl) kiconst_1 ?_
  refine r_iadd (dc_L_law_26 30 rfl) ?_
  obtain ⟨x386, e0, h⟩ := Option.bind_eq_some_iff.mp h
  obtain ⟨hin, ex⟩ := sld_some e0
  refine r_sld (dc_L_law_26 31 rfl) hin ?_
  rw [← ex]
  refine r_aload_n (dc_L_law_26 32 rfl) rfl rfl ?_
  refine r_iload (dc_L_law_26 33 rfl) rfl ?_
  refine r_iconst (dc_L_law_26 34 rfl) kiconst_2 ?_
  refine r_iadd (dc_L_law_26 35 rfl) ?_
  obtain ⟨x387, e0, h⟩ := Option.bind_eq_some_iff.mp h
  obtain ⟨hin, ex⟩ := sld_some e0
  refine r_sld (dc_L_law_26 36 rfl) hin ?_
  rw [← ex]
  refine r_aload_n (dc_L_law_26 37 rfl) rfl rfl ?_
  obtain ⟨x389, s388, e0, h⟩ := wb_some h
  refine r_callSH (dc_L_law_26 38 rfl) mh_L_front ml_RL_276 (As := [.ref pC1, .int x386, .int x387, .ref pC3]) (t_L_front (d := d - 1) hl (by omega) e0) (by omega) rfl (Nat.le_of_ble_eq_true rfl) ?_
  refine r_istore (dc_L_law_26 39 rfl) (by decide) (lo' := [(5, .int x389), (0, .ref 0), (1, .ref pC1), (2, .ref pC2), (3, .ref pC3), (4, .int xC4)]) rfl ?_
  refine r_aload_n (dc_L_law_26 40 rfl) rfl rfl ?_
  refine r_aload_n (dc_L_law_26 41 rfl) rfl rfl ?_
  refine r_iload (dc_L_law_26 42 rfl) rfl ?_
  refine r_iconst (dc_L_law_26 43 rfl) kiconst_1 ?_
  refine r_iadd (dc_L_law_26 44 rfl) ?_
  obtain ⟨x390, e0, h⟩ := Option.bind_eq_some_iff.mp h
  obtain ⟨hin, ex⟩ := sld_some e0
  refine r_sld (dc_L_law_26 45 rfl) hin ?_
  rw [← ex]
  refine r_aload_n (dc_L_law_26 46 rfl) rfl rfl ?_
  refine r_iload (dc_L_law_26 47 rfl) rfl ?_
  refine r_iconst (dc_L_law_26 48 rfl) kiconst_2 ?_
  refine r_iadd (dc_L_law_26 49 rfl) ?_
  obtain ⟨x391, e0, h⟩ := Option.bind_eq_some_iff.mp h
  obtain ⟨hin, ex⟩ := sld_some e0
  refine r_sld (dc_L_law_26 50 rfl) hin ?_
  rw [← ex]
  obtain ⟨x393, s392, e0, h⟩ := wb_some h
  refine r_callV (dc_L_law_26 51 rfl) mv_X10_front ml_RL_278 (As := [.int x390, .int x391]) (t_X10_front (d := d - 1) hl (by omega) e0) (by omega) rfl (Nat.le_of_ble_eq_true rfl) ?_
  refine r_istore (dc_L_law_26 52 rfl) (by decide) (lo' := [(6, .int x393), (5, .int x389), (0, .ref 0), (1, .ref pC1), (2, .ref pC2), (3, .ref pC3), (4, .int xC4)]) rfl ?_
  refine r_aload_n (dc_L_law_26 53 rfl) rfl rfl ?_
  obtain ⟨x394, e0, h⟩ := Option.bind_eq_some_iff.mp h
  refine r_callV (dc_L_law_26 54 rfl) mv_X10_thrown ml_RL_166 (As := []) (t_X10_thrown (d := d - 1) hl (by omega) e0) (by omega) rfl (Nat.le_of_ble_eq_true rfl) ?_
  refine r_iload (dc_L_law_26 55 rfl) rfl ?_
  refine r_icmp_eq (dc_L_law_26 56 rfl) (tgt := 2792) (by decide) (fun c0 => ?_) (fun c0 => ?_)
  · rw [if_pos c0] at h
    refine r_iload (dc_L_law_26 59 rfl) rfl ?_
    refine r_if_ne (dc_L_law_26 60 rfl) (tgt := 2809) (by decide) (fun c0 => ?_) (fun c0 => ?_)
    · rw [if_neg c0] at h
      refine r_goto (dc_L_law_27 6 rfl) (tgt := 3394) (by decide) ?_
      refine r_pick [2, 3, 4, 5, 6] (lo' := [(0, .ref 0), (1, .ref pC1), (2, .ref pC2), (3, .ref pC3), (4, .int xC4)]) rfl ?_
      exact hkJ _ h
    · rw [if_pos c0] at h
      refine r_aload_n (dc_L_law_26 61 rfl) rfl rfl ?_
      refine r_iconst (dc_L_law_26 62 rfl) kiconst_0 ?_
      obtain ⟨y395, e0, h⟩ := Option.bind_eq_some_iff.mp h
      refine r_lald (dc_L_law_26 63 rfl) e0 ?_
      refine r_iload (dc_L_law_27 0 rfl) rfl ?_
      refine r_i2l (dc_L_law_27 1 rfl) ?_
      refine r_lcmp (dc_L_law_27 2 rfl) ?_
      refine r_if_eq (dc_L_law_27 3 rfl) (tgt := 2809) (by decide) (fun c0 => ?_) (fun c0 => ?_)
      · rw [if_pos c0] at h
        refine r_goto (dc_L_law_27 6 rfl) (tgt := 3394) (by decide) ?_
        refine r_pick [2, 3, 4, 5, 6] (lo' := [(0, .ref 0), (1, .ref pC1), (2, .ref pC2), (3, .ref pC3), (4, .int xC4)]) rfl ?_
        exact hkJ _ h
      · rw [if_neg c0] at h
        refine r_iconst (dc_L_law_27 4 rfl) kiconst_0 ?_
        cases h
        exact r_zreturn (dc_L_law_27 5 rfl) rfl (Or.inl rfl)
  · rw [if_neg c0] at h
    refine r_iconst (dc_L_law_26 57 rfl) kiconst_0 ?_
    cases h
    exact r_zreturn (dc_L_law_26 58 rfl) rfl (Or.inl rfl)
theorem l_L_law_C36 {G : Gx} {d : Nat} (hl : G.1.stackTraces = false) (hd : 15 ≤ d) {pC1 : Nat} {pC2 : Nat} {pC3 : Nat} {xC4 : Int32} {sC : Sto} {r : (Int32 × Sto)} {kJ : Sto → Option (Int32 × Sto)} (hkJ : ∀ (sJ : Sto), kJ sJ = some r → J G d m_L_law 3394 [(0, .ref 0), (1, .ref pC1), (2, .ref pC2), (3, .ref pC3), (4, .int xC4)] [] sJ (.inl (some (.int r.1))) r.2) (h : F_L_law_C36 G.sl G.sx pC1 pC2 pC3 xC4 sC kJ = some r) : J G d m_L_law 2812 [(0, .ref 0), (1, .ref pC1), (2, .ref pC2), (3, .ref pC3), (4, .int xC4)] [] sC (.inl (some (.int r.1))) r.2 := by
  rw [F_L_law_C36] at h
  refine r_aload_n (dc_L_law_27 7 rfl) rfl rfl ?_
  refine r_aload_n (dc_L_law_27 8 rfl) rfl rfl ?_
  refine r_iload (dc_L_law_27 9 rfl) rfl ?_
  refine r_iconst (dc_L_law_27 10 rfl) kiconst_1 ?_
  refine r_iadd (dc_L_law_27 11 rfl) ?_
  obtain ⟨x396, e0, h⟩ := Option.bind_eq_some_iff.mp h
  obtain ⟨hin, ex⟩ := sld_some e0
  refine r_sld (dc_L_law_27 12 rfl) hin ?_
  rw [← ex]
  refine r_aload_n (dc_L_law_27 13 rfl) rfl rfl ?_
  refine r_iload (dc_L_law_27 14 rfl) rfl ?_
  refine r_iconst (dc_L_law_27 15 rfl) kiconst_2 ?_
  refine r_iadd (dc_L_law_27 16 rfl) ?_
  obtain ⟨x397, e0, h⟩ := Option.bind_eq_some_iff.mp h
  obtain ⟨hin, ex⟩ := sld_some e0
  refine r_sld (dc_L_law_27 17 rfl) hin ?_
  rw [← ex]
  refine r_aload_n (dc_L_law_27 18 rfl) rfl rfl ?_
  refine r_iload (dc_L_law_27 19 rfl) rfl ?_
  refine r_iconst (dc_L_law_27 20 rfl) kiconst_3 ?_
  refine r_iadd (dc_L_law_27 21 rfl) ?_
  obtain ⟨x398, e0, h⟩ := Option.bind_eq_some_iff.mp h
  obtain ⟨hin, ex⟩ := sld_some e0
  refine r_sld (dc_L_law_27 22 rfl) hin ?_
  rw [← ex]
  refine r_aload_n (dc_L_law_27 23 rfl) rfl rfl ?_
  obtain ⟨x400, s399, e0, h⟩ := wb_some h
  refine r_callSH (dc_L_law_27 24 rfl) mh_L_only ml_RL_279 (As := [.ref pC1, .int x396, .int x397, .int x398, .ref pC3]) (t_L_only (d := d - 1) hl (by omega) e0) (by omega) rfl (Nat.le_of_ble_eq_true rfl) ?_
  refine r_istore (dc_L_law_27 25 rfl) (by decide) (lo' := [(5, .int x400), (0, .ref 0), (1, .ref pC1), (2, .ref pC2), (3, .ref pC3), (4, .int xC4)]) rfl ?_
  refine r_aload_n (dc_L_law_27 26 rfl) rfl rfl ?_
  refine r_aload_n (dc_L_law_27 27 rfl) rfl rfl ?_
  refine r_iload (dc_L_law_27 28 rfl) rfl ?_
  refine r_iconst (dc_L_law_27 29 rfl) kiconst_1 ?_
  refine r_iadd (dc_L_law_27 30 rfl) ?_
  obtain ⟨x401, e0, h⟩ := Option.bind_eq_some_iff.mp h
  obtain ⟨hin, ex⟩ := sld_some e0
  refine r_sld (dc_L_law_27 31 rfl) hin ?_
  rw [← ex]
  refine r_aload_n (dc_L_law_27 32 rfl) rfl rfl ?_
  refine r_iload (dc_L_law_27 33 rfl) rfl ?_
  refine r_iconst (dc_L_law_27 34 rfl) kiconst_2 ?_
  refine r_iadd (dc_L_law_27 35 rfl) ?_
  obtain ⟨x402, e0, h⟩ := Option.bind_eq_some_iff.mp h
  obtain ⟨hin, ex⟩ := sld_some e0
  refine r_sld (dc_L_law_27 36 rfl) hin ?_
  rw [← ex]
  refine r_aload_n (dc_L_law_27 37 rfl) rfl rfl ?_
  refine r_iload (dc_L_law_27 38 rfl) rfl ?_
  refine r_iconst (dc_L_law_27 39 rfl) kiconst_3 ?_
  refine r_iadd (dc_L_law_27 40 rfl) ?_
  obtain ⟨x403, e0, h⟩ := Option.bind_eq_some_iff.mp h
  obtain ⟨hin, ex⟩ := sld_some e0
  refine r_sld (dc_L_law_27 41 rfl) hin ?_
  rw [← ex]
  obtain ⟨x405, s404, e0, h⟩ := wb_some h
  refine r_callV (dc_L_law_27 42 rfl) mv_X10_only ml_RL_281 (As := [.int x401, .int x402, .int x403]) (t_X10_only (d := d - 1) hl (by omega) e0) (by omega) rfl (Nat.le_of_ble_eq_true rfl) ?_
  refine r_istore (dc_L_law_27 43 rfl) (by decide) (lo' := [(6, .int x405), (5, .int x400), (0, .ref 0), (1, .ref pC1), (2, .ref pC2), (3, .ref pC3), (4, .int xC4)]) rfl ?_
  refine r_aload_n (dc_L_law_27 44 rfl) rfl rfl ?_
  obtain ⟨x406, e0, h⟩ := Option.bind_eq_some_iff.mp h
  refine r_callV (dc_L_law_27 45 rfl) mv_X10_thrown ml_RL_166 (As := []) (t_X10_thrown (d := d - 1) hl (by omega) e0) (by omega) rfl (Nat.le_of_ble_eq_true rfl) ?_
  refine r_iload (dc_L_law_27 46 rfl) rfl ?_
  refine r_icmp_eq (dc_L_law_27 47 rfl) (tgt := 2872) (by decide) (fun c0 => ?_) (fun c0 => ?_)
  · rw [if_pos c0] at h
    refine r_iload (dc_L_law_27 50 rfl) rfl ?_
    refine r_if_ne (dc_L_law_27 51 rfl) (tgt := 2889) (by decide) (fun c0 => ?_) (fun c0 => ?_)
    · rw [if_neg c0] at h
      refine r_goto (dc_L_law_27 61 rfl) (tgt := 3394) (by decide) ?_
      refine r_pick [2, 3, 4, 5, 6] (lo' := [(0, .ref 0), (1, .ref pC1), (2, .ref pC2), (3, .ref pC3), (4, .int xC4)]) rfl ?_
      exact hkJ _ h
    · rw [if_pos c0] at h
      refine r_aload_n (dc_L_law_27 52 rfl) rfl rfl ?_
      refine r_iconst (dc_L_law_27 53 rfl) kiconst_0 ?_
      obtain ⟨y407, e0, h⟩ := Option.bind_eq_some_iff.mp h
      refine r_lald (dc_L_law_27 54 rfl) e0 ?_
      refine r_iload (dc_L_law_27 55 rfl) rfl ?_
      refine r_i2l (dc_L_law_27 56 rfl) ?_
      refine r_lcmp (dc_L_law_27 57 rfl) ?_
      refine r_if_eq (dc_L_law_27 58 rfl) (tgt := 2889) (by decide) (fun c0 => ?_) (fun c0 => ?_)
      · rw [if_pos c0] at h
        refine r_goto (dc_L_law_27 61 rfl) (tgt := 3394) (by decide) ?_
        refine r_pick [2, 3, 4, 5, 6] (lo' := [(0, .ref 0), (1, .ref pC1), (2, .ref pC2), (3, .ref pC3), (4, .int xC4)]) rfl ?_
        exact hkJ _ h
      · rw [if_neg c0] at h
        refine r_iconst (dc_L_law_27 59 rfl) kiconst_0 ?_
        cases h
        exact r_zreturn (dc_L_law_27 60 rfl) rfl (Or.inl rfl)
  · rw [if_neg c0] at h
    refine r_iconst (dc_L_law_27 48 rfl) kiconst_0 ?_
    cases h
    exact r_zreturn (dc_L_law_27 49 rfl) rfl (Or.inl rfl)
theorem l_L_law_C37 {G : Gx} {d : Nat} (hl : G.1.stackTraces = false) (hd : 15 ≤ d) {pC1 : Nat} {pC2 : Nat} {pC3 : Nat} {xC4 : Int32} {sC : Sto} {r : (Int32 × Sto)} {kJ : Sto → Option (Int32 × Sto)} (hkJ : ∀ (sJ : Sto), kJ sJ = some r → J G d m_L_law 3394 [(0, .ref 0), (1, .ref pC1), (2, .ref pC2), (3, .ref pC3), (4, .int xC4)] [] sJ (.inl (some (.int r.1))) r.2) (h : F_L_law_C37 G.sl G.sx pC1 pC2 pC3 xC4 sC kJ = some r) : J G d m_L_law 2892 [(0, .ref 0), (1, .ref pC1), (2, .ref pC2), (3, .ref pC3), (4, .int xC4)] [] sC (.inl (some (.int r.1))) r.2 := by
  rw [F_L_law_C37] at h
  refine r_aload_n (dc_L_law_27 62 rfl) rfl rfl ?_
  refine r_aload_n (dc_L_law_27 63 rfl) rfl rfl ?_
  refine r_iload (dc_L_law_28 0 rfl) rfl ?_
  refine r_iconst (dc_L_law_28 1 rfl) kiconst_1 ?_
  refine r_iadd (dc_L_law_28 2 rfl) ?_
  obtain ⟨x408, e0, h⟩ := Option.bind_eq_some_iff.mp h
  obtain ⟨hin, ex⟩ := sld_some e0
  refine r_sld (dc_L_law_28 3 rfl) hin ?_
  rw [← ex]
  refine r_aload_n (dc_L_law_28 4 rfl) rfl rfl ?_
  refine r_iload (dc_L_law_28 5 rfl) rfl ?_
  refine r_iconst (dc_L_law_28 6 rfl) kiconst_2 ?_
  refine r_iadd (dc_L_law_28 7 rfl) ?_
  obtain ⟨x409, e0, h⟩ := Option.bind_eq_some_iff.mp h
  obtain ⟨hin, ex⟩ := sld_some e0
  refine r_sld (dc_L_law_28 8 rfl) hin ?_
  rw [← ex]
  refine r_aload_n (dc_L_law_28 9 rfl) rfl rfl ?_
  obtain ⟨x411, s410, e0, h⟩ := wb_some h
  refine r_callSH (dc_L_law_28 10 rfl) mh_L_sure ml_RL_282 (As := [.ref pC1, .int x408, .int x409, .ref pC3]) (t_L_sure (d := d - 1) hl (by omega) e0) (by omega) rfl (Nat.le_of_ble_eq_true rfl) ?_
  refine r_istore (dc_L_law_28 11 rfl) (by decide) (lo' := [(5, .int x411), (0, .ref 0), (1, .ref pC1), (2, .ref pC2), (3, .ref pC3), (4, .int xC4)]) rfl ?_
  refine r_aload_n (dc_L_law_28 12 rfl) rfl rfl ?_
  refine r_aload_n (dc_L_law_28 13 rfl) rfl rfl ?_
  refine r_iload (dc_L_law_28 14 rfl) rfl ?_
  refine r_iconst (dc_L_law_28 15 rfl) kiconst_1 ?_
  refine r_iadd (dc_L_law_28 16 rfl) ?_
  obtain ⟨x412, e0, h⟩ := Option.bind_eq_some_iff.mp h
  obtain ⟨hin, ex⟩ := sld_some e0
  refine r_sld (dc_L_law_28 17 rfl) hin ?_
  rw [← ex]
  refine r_aload_n (dc_L_law_28 18 rfl) rfl rfl ?_
  refine r_iload (dc_L_law_28 19 rfl) rfl ?_
  refine r_iconst (dc_L_law_28 20 rfl) kiconst_2 ?_
  refine r_iadd (dc_L_law_28 21 rfl) ?_
  obtain ⟨x413, e0, h⟩ := Option.bind_eq_some_iff.mp h
  obtain ⟨hin, ex⟩ := sld_some e0
  refine r_sld (dc_L_law_28 22 rfl) hin ?_
  rw [← ex]
  obtain ⟨x415, s414, e0, h⟩ := wb_some h
  refine r_callV (dc_L_law_28 23 rfl) mv_X10_sure ml_RL_284 (As := [.int x412, .int x413]) (t_X10_sure (d := d - 1) hl (by omega) e0) (by omega) rfl (Nat.le_of_ble_eq_true rfl) ?_
  refine r_istore (dc_L_law_28 24 rfl) (by decide) (lo' := [(6, .int x415), (5, .int x411), (0, .ref 0), (1, .ref pC1), (2, .ref pC2), (3, .ref pC3), (4, .int xC4)]) rfl ?_
  refine r_aload_n (dc_L_law_28 25 rfl) rfl rfl ?_
  obtain ⟨x416, e0, h⟩ := Option.bind_eq_some_iff.mp h
  refine r_callV (dc_L_law_28 26 rfl) mv_X10_thrown ml_RL_166 (As := []) (t_X10_thrown (d := d - 1) hl (by omega) e0) (by omega) rfl (Nat.le_of_ble_eq_true rfl) ?_
  refine r_iload (dc_L_law_28 27 rfl) rfl ?_
  refine r_icmp_eq (dc_L_law_28 28 rfl) (tgt := 2940) (by decide) (fun c0 => ?_) (fun c0 => ?_)
  · rw [if_pos c0] at h
    refine r_iload (dc_L_law_28 31 rfl) rfl ?_
    refine r_if_ne (dc_L_law_28 32 rfl) (tgt := 2957) (by decide) (fun c0 => ?_) (fun c0 => ?_)
    · rw [if_neg c0] at h
      refine r_goto (dc_L_law_28 42 rfl) (tgt := 3394) (by decide) ?_
      refine r_pick [2, 3, 4, 5, 6] (lo' := [(0, .ref 0), (1, .ref pC1), (2, .ref pC2), (3, .ref pC3), (4, .int xC4)]) rfl ?_
      exact hkJ _ h
    · rw [if_pos c0] at h
      refine r_aload_n (dc_L_law_28 33 rfl) rfl rfl ?_
      refine r_iconst (dc_L_law_28 34 rfl) kiconst_0 ?_
      obtain ⟨y417, e0, h⟩ := Option.bind_eq_some_iff.mp h
      refine r_lald (dc_L_law_28 35 rfl) e0 ?_
      refine r_iload (dc_L_law_28 36 rfl) rfl ?_
      refine r_i2l (dc_L_law_28 37 rfl) ?_
      refine r_lcmp (dc_L_law_28 38 rfl) ?_
      refine r_if_eq (dc_L_law_28 39 rfl) (tgt := 2957) (by decide) (fun c0 => ?_) (fun c0 => ?_)
      · rw [if_pos c0] at h
        refine r_goto (dc_L_law_28 42 rfl) (tgt := 3394) (by decide) ?_
        refine r_pick [2, 3, 4, 5, 6] (lo' := [(0, .ref 0), (1, .ref pC1), (2, .ref pC2), (3, .ref pC3), (4, .int xC4)]) rfl ?_
        exact hkJ _ h
      · rw [if_neg c0] at h
        refine r_iconst (dc_L_law_28 40 rfl) kiconst_0 ?_
        cases h
        exact r_zreturn (dc_L_law_28 41 rfl) rfl (Or.inl rfl)
  · rw [if_neg c0] at h
    refine r_iconst (dc_L_law_28 29 rfl) kiconst_0 ?_
    cases h
    exact r_zreturn (dc_L_law_28 30 rfl) rfl (Or.inl rfl)
theorem l_L_law_C38 {G : Gx} {d : Nat} (hl : G.1.stackTraces = false) (hd : 15 ≤ d) {pC1 : Nat} {pC2 : Nat} {pC3 : Nat} {xC4 : Int32} {sC : Sto} {r : (Int32 × Sto)} {kJ : Sto → Option (Int32 × Sto)} (hkJ : ∀ (sJ : Sto), kJ sJ = some r → J G d m_L_law 3394 [(0, .ref 0), (1, .ref pC1), (2, .ref pC2), (3, .ref pC3), (4, .int xC4)] [] sJ (.inl (some (.int r.1))) r.2) (h : F_L_law_C38 G.sl G.sx pC1 pC2 pC3 xC4 sC kJ = some r) : J G d m_L_law 2960 [(0, .ref 0), (1, .ref pC1), (2, .ref pC2), (3, .ref pC3), (4, .int xC4)] [] sC (.inl (some (.int r.1))) r.2 := by
  rw [F_L_law_C38] at h
  refine r_aload_n (dc_L_law_28 43 rfl) rfl rfl ?_
  refine r_aload_n (dc_L_law_28 44 rfl) rfl rfl ?_
  refine r_iload (dc_L_law_28 45 rfl) rfl ?_
  refine r_iconst (dc_L_law_28 46 rfl) kiconst_1 ?_
  refine r_iadd (dc_L_law_28 47 rfl) ?_
  obtain ⟨x418, e0, h⟩ := Option.bind_eq_some_iff.mp h
  obtain ⟨hin, ex⟩ := sld_some e0
  refine r_sld (dc_L_law_28 48 rfl) hin ?_
  rw [← ex]
  refine r_aload_n (dc_L_law_28 49 rfl) rfl rfl ?_
  obtain ⟨x420, s419, e0, h⟩ := wb_some h
  refine r_callSH (dc_L_law_28 50 rfl) mh_L_part ml_RL_285 (As := [.ref pC1, .int x418, .ref pC3]) (t_L_part (d := d - 1) hl (by omega) e0) (by omega) rfl (Nat.le_of_ble_eq_true rfl) ?_
  refine r_istore (dc_L_law_28 51 rfl) (by decide) (lo' := [(5, .int x420), (0, .ref 0), (1, .ref pC1), (2, .ref pC2), (3, .ref pC3), (4, .int xC4)]) rfl ?_
  refine r_aload_n (dc_L_law_28 52 rfl) rfl rfl ?_
  refine r_aload_n (dc_L_law_28 53 rfl) rfl rfl ?_
  refine r_iload (dc_L_law_28 54 rfl) rfl ?_
  refine r_iconst (dc_L_law_28 55 rfl) kiconst_1 ?_
  refine r_iadd (dc_L_law_28 56 rfl) ?_
  obtain ⟨x421, e0, h⟩ := Option.bind_eq_some_iff.mp h
  obtain ⟨hin, ex⟩ := sld_some e0
  refine r_sld (dc_L_law_28 57 rfl) hin ?_
  rw [← ex]
  obtain ⟨x423, s422, e0, h⟩ := wb_some h
  refine r_callV (dc_L_law_28 58 rfl) mv_X10_part ml_RL_287 (As := [.int x421]) (t_X10_part (d := d - 1) hl (by omega) e0) (by omega) rfl (Nat.le_of_ble_eq_true rfl) ?_
  refine r_istore (dc_L_law_28 59 rfl) (by decide) (lo' := [(6, .int x423), (5, .int x420), (0, .ref 0), (1, .ref pC1), (2, .ref pC2), (3, .ref pC3), (4, .int xC4)]) rfl ?_
  refine r_aload_n (dc_L_law_28 60 rfl) rfl rfl ?_
  obtain ⟨x424, e0, h⟩ := Option.bind_eq_some_iff.mp h
  refine r_callV (dc_L_law_28 61 rfl) mv_X10_thrown ml_RL_166 (As := []) (t_X10_thrown (d := d - 1) hl (by omega) e0) (by omega) rfl (Nat.le_of_ble_eq_true rfl) ?_
  refine r_iload (dc_L_law_28 62 rfl) rfl ?_
  refine r_icmp_eq (dc_L_law_28 63 rfl) (tgt := 2996) (by decide) (fun c0 => ?_) (fun c0 => ?_)
  · rw [if_pos c0] at h
    refine r_iload (dc_L_law_29 2 rfl) rfl ?_
    refine r_if_ne (dc_L_law_29 3 rfl) (tgt := 3013) (by decide) (fun c0 => ?_) (fun c0 => ?_)
    · rw [if_neg c0] at h
      refine r_goto (dc_L_law_29 13 rfl) (tgt := 3394) (by decide) ?_
      refine r_pick [2, 3, 4, 5, 6] (lo' := [(0, .ref 0), (1, .ref pC1), (2, .ref pC2), (3, .ref pC3), (4, .int xC4)]) rfl ?_
      exact hkJ _ h
    · rw [if_pos c0] at h
      refine r_aload_n (dc_L_law_29 4 rfl) rfl rfl ?_
      refine r_iconst (dc_L_law_29 5 rfl) kiconst_0 ?_
      obtain ⟨y425, e0, h⟩ := Option.bind_eq_some_iff.mp h
      refine r_lald (dc_L_law_29 6 rfl) e0 ?_
      refine r_iload (dc_L_law_29 7 rfl) rfl ?_
      refine r_i2l (dc_L_law_29 8 rfl) ?_
      refine r_lcmp (dc_L_law_29 9 rfl) ?_
      refine r_if_eq (dc_L_law_29 10 rfl) (tgt := 3013) (by decide) (fun c0 => ?_) (fun c0 => ?_)
      · rw [if_pos c0] at h
        refine r_goto (dc_L_law_29 13 rfl) (tgt := 3394) (by decide) ?_
        refine r_pick [2, 3, 4, 5, 6] (lo' := [(0, .ref 0), (1, .ref pC1), (2, .ref pC2), (3, .ref pC3), (4, .int xC4)]) rfl ?_
        exact hkJ _ h
      · rw [if_neg c0] at h
        refine r_iconst (dc_L_law_29 11 rfl) kiconst_0 ?_
        cases h
        exact r_zreturn (dc_L_law_29 12 rfl) rfl (Or.inl rfl)
  · rw [if_neg c0] at h
    refine r_iconst (dc_L_law_29 0 rfl) kiconst_0 ?_
    cases h
    exact r_zreturn (dc_L_law_29 1 rfl) rfl (Or.inl rfl)
theorem l_L_law_C39 {G : Gx} {d : Nat} (hl : G.1.stackTraces = false) (hd : 15 ≤ d) {pC1 : Nat} {pC2 : Nat} {pC3 : Nat} {xC4 : Int32} {sC : Sto} {r : (Int32 × Sto)} {kJ : Sto → Option (Int32 × Sto)} (hkJ : ∀ (sJ : Sto), kJ sJ = some r → J G d m_L_law 3394 [(0, .ref 0), (1, .ref pC1), (2, .ref pC2), (3, .ref pC3), (4, .int xC4)] [] sJ (.inl (some (.int r.1))) r.2) (h : F_L_law_C39 G.sl G.sx pC1 pC2 pC3 xC4 sC kJ = some r) : J G d m_L_law 3016 [(0, .ref 0), (1, .ref pC1), (2, .ref pC2), (3, .ref pC3), (4, .int xC4)] [] sC (.inl (some (.int r.1))) r.2 := by
  rw [F_L_law_C39] at h
  refine r_aload_n (dc_L_law_29 14 rfl) rfl rfl ?_
  refine r_aload_n (dc_L_law_29 15 rfl) rfl rfl ?_
  refine r_iload (dc_L_law_29 16 rfl) rfl ?_
  refine r_iconst (dc_L_law_29 17 rfl) kiconst_1 ?_
  refine r_iadd (dc_L_law_29 18 rfl) ?_
  obtain ⟨x426, e0, h⟩ := Option.bind_eq_some_iff.mp h
  obtain ⟨hin, ex⟩ := sld_some e0
  refine r_sld (dc_L_law_29 19 rfl) hin ?_
  rw [← ex]
  refine r_aload_n (dc_L_law_29 20 rfl) rfl rfl ?_
  refine r_iload (dc_L_law_29 21 rfl) rfl ?_
  refine r_iconst (dc_L_law_29 22 rfl) kiconst_2 ?_
  refine r_iadd (dc_L_law_29 23 rfl) ?_
  obtain ⟨x427, e0, h⟩ := Option.bind_eq_some_iff.mp h
  obtain ⟨hin, ex⟩ := sld_some e0
  refine r_sld (dc_L_law_29 24 rfl) hin ?_
  rw [← ex]
  refine r_aload_n (dc_L_law_29 25 rfl) rfl rfl ?_
  obtain ⟨x429, s428, e0, h⟩ := wb_some h
  refine r_callSH (dc_L_law_29 26 rfl) mh_L_trace ml_RL_288 (As := [.ref pC1, .int x426, .int x427, .ref pC3]) (t_L_trace (d := d - 1) hl (by omega) e0) (by omega) rfl (Nat.le_of_ble_eq_true rfl) ?_
  refine r_istore (dc_L_law_29 27 rfl) (by decide) (lo' := [(5, .int x429), (0, .ref 0), (1, .ref pC1), (2, .ref pC2), (3, .ref pC3), (4, .int xC4)]) rfl ?_
  refine r_aload_n (dc_L_law_29 28 rfl) rfl rfl ?_
  refine r_aload_n (dc_L_law_29 29 rfl) rfl rfl ?_
  refine r_iload (dc_L_law_29 30 rfl) rfl ?_
  refine r_iconst (dc_L_law_29 31 rfl) kiconst_1 ?_
  refine r_iadd (dc_L_law_29 32 rfl) ?_
  obtain ⟨x430, e0, h⟩ := Option.bind_eq_some_iff.mp h
  obtain ⟨hin, ex⟩ := sld_some e0
  refine r_sld (dc_L_law_29 33 rfl) hin ?_
  rw [← ex]
  refine r_aload_n (dc_L_law_29 34 rfl) rfl rfl ?_
  refine r_iload (dc_L_law_29 35 rfl) rfl ?_
  refine r_iconst (dc_L_law_29 36 rfl) kiconst_2 ?_
  refine r_iadd (dc_L_law_29 37 rfl) ?_
  obtain ⟨x431, e0, h⟩ := Option.bind_eq_some_iff.mp h
  obtain ⟨hin, ex⟩ := sld_some e0
  refine r_sld (dc_L_law_29 38 rfl) hin ?_
  rw [← ex]
  obtain ⟨x433, s432, e0, h⟩ := wb_some h
  refine r_callV (dc_L_law_29 39 rfl) mv_X10_trace ml_RL_290 (As := [.int x430, .int x431]) (t_X10_trace (d := d - 1) hl (by omega) e0) (by omega) rfl (Nat.le_of_ble_eq_true rfl) ?_
  refine r_istore (dc_L_law_29 40 rfl) (by decide) (lo' := [(6, .int x433), (5, .int x429), (0, .ref 0), (1, .ref pC1), (2, .ref pC2), (3, .ref pC3), (4, .int xC4)]) rfl ?_
  refine r_aload_n (dc_L_law_29 41 rfl) rfl rfl ?_
  obtain ⟨x434, e0, h⟩ := Option.bind_eq_some_iff.mp h
  refine r_callV (dc_L_law_29 42 rfl) mv_X10_thrown ml_RL_166 (As := []) (t_X10_thrown (d := d - 1) hl (by omega) e0) (by omega) rfl (Nat.le_of_ble_eq_true rfl) ?_
  refine r_iload (dc_L_law_29 43 rfl) rfl ?_
  refine r_icmp_eq (dc_L_law_29 44 rfl) (tgt := 3064) (by decide) (fun c0 => ?_) (fun c0 => ?_)
  · rw [if_pos c0] at h
    refine r_iload (dc_L_law_29 47 rfl) rfl ?_
    refine r_if_ne (dc_L_law_29 48 rfl) (tgt := 3081) (by decide) (fun c0 => ?_) (fun c0 => ?_)
    · rw [if_neg c0] at h
      refine r_goto (dc_L_law_29 58 rfl) (tgt := 3394) (by decide) ?_
      refine r_pick [2, 3, 4, 5, 6] (lo' := [(0, .ref 0), (1, .ref pC1), (2, .ref pC2), (3, .ref pC3), (4, .int xC4)]) rfl ?_
      exact hkJ _ h
    · rw [if_pos c0] at h
      refine r_aload_n (dc_L_law_29 49 rfl) rfl rfl ?_
      refine r_iconst (dc_L_law_29 50 rfl) kiconst_0 ?_
      obtain ⟨y435, e0, h⟩ := Option.bind_eq_some_iff.mp h
      refine r_lald (dc_L_law_29 51 rfl) e0 ?_
      refine r_iload (dc_L_law_29 52 rfl) rfl ?_
      refine r_i2l (dc_L_law_29 53 rfl) ?_
      refine r_lcmp (dc_L_law_29 54 rfl) ?_
      refine r_if_eq (dc_L_law_29 55 rfl) (tgt := 3081) (by decide) (fun c0 => ?_) (fun c0 => ?_)
      · rw [if_pos c0] at h
        refine r_goto (dc_L_law_29 58 rfl) (tgt := 3394) (by decide) ?_
        refine r_pick [2, 3, 4, 5, 6] (lo' := [(0, .ref 0), (1, .ref pC1), (2, .ref pC2), (3, .ref pC3), (4, .int xC4)]) rfl ?_
        exact hkJ _ h
      · rw [if_neg c0] at h
        refine r_iconst (dc_L_law_29 56 rfl) kiconst_0 ?_
        cases h
        exact r_zreturn (dc_L_law_29 57 rfl) rfl (Or.inl rfl)
  · rw [if_neg c0] at h
    refine r_iconst (dc_L_law_29 45 rfl) kiconst_0 ?_
    cases h
    exact r_zreturn (dc_L_law_29 46 rfl) rfl (Or.inl rfl)
theorem l_L_law_C40 {G : Gx} {d : Nat} (hl : G.1.stackTraces = false) (hd : 15 ≤ d) {pC1 : Nat} {pC2 : Nat} {pC3 : Nat} {xC4 : Int32} {sC : Sto} {r : (Int32 × Sto)} {kJ : Sto → Option (Int32 × Sto)} (hkJ : ∀ (sJ : Sto), kJ sJ = some r → J G d m_L_law 3394 [(0, .ref 0), (1, .ref pC1), (2, .ref pC2), (3, .ref pC3), (4, .int xC4)] [] sJ (.inl (some (.int r.1))) r.2) (h : F_L_law_C40 G.sl G.sx pC1 pC2 pC3 xC4 sC kJ = some r) : J G d m_L_law 3084 [(0, .ref 0), (1, .ref pC1), (2, .ref pC2), (3, .ref pC3), (4, .int xC4)] [] sC (.inl (some (.int r.1))) r.2 := by
  rw [F_L_law_C40] at h
  refine r_aload_n (dc_L_law_29 59 rfl) rfl rfl ?_
  refine r_aload_n (dc_L_law_29 60 rfl) rfl rfl ?_
  refine r_iload (dc_L_law_29 61 rfl) rfl ?_
  refine r_iconst (dc_L_law_29 62 rfl) kiconst_1 ?_
  refine r_iadd (dc_L_law_29 63 rfl) ?_
  obtain ⟨x436, e0, h⟩ := Option.bind_eq_some_iff.mp h
  obtain ⟨hin, ex⟩ := sld_some e0
  refine r_sld (dc_L_law_30 0 rfl) hin ?_
  rw [← ex]
  refine r_aload_n (dc_L_law_30 1 rfl) rfl rfl ?_
  obtain ⟨x438, s437, e0, h⟩ := wb_some h
  refine r_callSH (dc_L_law_30 2 rfl) mh_L_gossip ml_RL_291 (As := [.ref pC1, .int x436, .ref pC3]) (t_L_gossip (d := d - 1) hl (by omega) e0) (by omega) rfl (Nat.le_of_ble_eq_true rfl) ?_
  refine r_istore (dc_L_law_30 3 rfl) (by decide) (lo' := [(5, .int x438), (0, .ref 0), (1, .ref pC1), (2, .ref pC2), (3, .ref pC3), (4, .int xC4)]) rfl ?_
  refine r_aload_n (dc_L_law_30 4 rfl) rfl rfl ?_
  refine r_aload_n (dc_L_law_30 5 rfl) rfl rfl ?_
  refine r_iload (dc_L_law_30 6 rfl) rfl ?_
  refine r_iconst (dc_L_law_30 7 rfl) kiconst_1 ?_
  refine r_iadd (dc_L_law_30 8 rfl) ?_
  obtain ⟨x439, e0, h⟩ := Option.bind_eq_some_iff.mp h
  obtain ⟨hin, ex⟩ := sld_some e0
  refine r_sld (dc_L_law_30 9 rfl) hin ?_
  rw [← ex]
  obtain ⟨x441, s440, e0, h⟩ := wb_some h
  refine r_callV (dc_L_law_30 10 rfl) mv_X10_gossip ml_RL_293 (As := [.int x439]) (t_X10_gossip (d := d - 1) hl (by omega) e0) (by omega) rfl (Nat.le_of_ble_eq_true rfl) ?_
  refine r_istore (dc_L_law_30 11 rfl) (by decide) (lo' := [(6, .int x441), (5, .int x438), (0, .ref 0), (1, .ref pC1), (2, .ref pC2), (3, .ref pC3), (4, .int xC4)]) rfl ?_
  refine r_aload_n (dc_L_law_30 12 rfl) rfl rfl ?_
  obtain ⟨x442, e0, h⟩ := Option.bind_eq_some_iff.mp h
  refine r_callV (dc_L_law_30 13 rfl) mv_X10_thrown ml_RL_166 (As := []) (t_X10_thrown (d := d - 1) hl (by omega) e0) (by omega) rfl (Nat.le_of_ble_eq_true rfl) ?_
  refine r_iload (dc_L_law_30 14 rfl) rfl ?_
  refine r_icmp_eq (dc_L_law_30 15 rfl) (tgt := 3120) (by decide) (fun c0 => ?_) (fun c0 => ?_)
  · rw [if_pos c0] at h
    refine r_iload (dc_L_law_30 18 rfl) rfl ?_
    refine r_if_ne (dc_L_law_30 19 rfl) (tgt := 3137) (by decide) (fun c0 => ?_) (fun c0 => ?_)
    · rw [if_neg c0] at h
      refine r_goto (dc_L_law_30 29 rfl) (tgt := 3394) (by decide) ?_
      refine r_pick [2, 3, 4, 5, 6] (lo' := [(0, .ref 0), (1, .ref pC1), (2, .ref pC2), (3, .ref pC3), (4, .int xC4)]) rfl ?_
      exact hkJ _ h
    · rw [if_pos c0] at h
      refine r_aload_n (dc_L_law_30 20 rfl) rfl rfl ?_
      refine r_iconst (dc_L_law_30 21 rfl) kiconst_0 ?_
      obtain ⟨y443, e0, h⟩ := Option.bind_eq_some_iff.mp h
      refine r_lald (dc_L_law_30 22 rfl) e0 ?_
      refine r_iload (dc_L_law_30 23 rfl) rfl ?_
      refine r_i2l (dc_L_law_30 24 rfl) ?_
      refine r_lcmp (dc_L_law_30 25 rfl) ?_
      refine r_if_eq (dc_L_law_30 26 rfl) (tgt := 3137) (by decide) (fun c0 => ?_) (fun c0 => ?_)
      · rw [if_pos c0] at h
        refine r_goto (dc_L_law_30 29 rfl) (tgt := 3394) (by decide) ?_
        refine r_pick [2, 3, 4, 5, 6] (lo' := [(0, .ref 0), (1, .ref pC1), (2, .ref pC2), (3, .ref pC3), (4, .int xC4)]) rfl ?_
        exact hkJ _ h
      · rw [if_neg c0] at h
        refine r_iconst (dc_L_law_30 27 rfl) kiconst_0 ?_
        cases h
        exact r_zreturn (dc_L_law_30 28 rfl) rfl (Or.inl rfl)
  · rw [if_neg c0] at h
    refine r_iconst (dc_L_law_30 16 rfl) kiconst_0 ?_
    cases h
    exact r_zreturn (dc_L_law_30 17 rfl) rfl (Or.inl rfl)
theorem l_L_law_C41 {G : Gx} {d : Nat} (hl : G.1.stackTraces = false) (hd : 15 ≤ d) {pC1 : Nat} {pC2 : Nat} {pC3 : Nat} {xC4 : Int32} {sC : Sto} {r : (Int32 × Sto)} {kJ : Sto → Option (Int32 × Sto)} (hkJ : ∀ (sJ : Sto), kJ sJ = some r → J G d m_L_law 3394 [(0, .ref 0), (1, .ref pC1), (2, .ref pC2), (3, .ref pC3), (4, .int xC4)] [] sJ (.inl (some (.int r.1))) r.2) (h : F_L_law_C41 G.sl G.sx pC1 pC2 pC3 xC4 sC kJ = some r) : J G d m_L_law 3140 [(0, .ref 0), (1, .ref pC1), (2, .ref pC2), (3, .ref pC3), (4, .int xC4)] [] sC (.inl (some (.int r.1))) r.2 := by
  rw [F_L_law_C41] at h
  refine r_aload_n (dc_L_law_30 30 rfl) rfl rfl ?_
  refine r_aload_n (dc_L_law_30 31 rfl) rfl rfl ?_
  refine r_iload (dc_L_law_30 32 rfl) rfl ?_
  refine r_iconst (dc_L_law_30 33 rfl) kiconst_1 ?_
  refine r_iadd (dc_L_law_30 34 rfl) ?_
  obtain ⟨x444, e0, h⟩ := Option.bind_eq_some_iff.mp h
  obtain ⟨hin, ex⟩ := sld_some e0
  refine r_sld (dc_L_law_30 35 rfl) hin ?_
  rw [← ex]
  refine r_aload_n (dc_L_law_30 36 rfl) rfl rfl ?_
  refine r_iload (dc_L_law_30 37 rfl) rfl ?_
  refine r_iconst (dc_L_law_30 38 rfl) kiconst_2 ?_
  refine r_iadd (dc_L_law_30 39 rfl) ?_
  obtain ⟨x445, e0, h⟩ := Option.bind_eq_some_iff.mp h
  obtain ⟨hin, ex⟩ := sld_some e0
  refine r_sld (dc_L_law_30 40 rfl) hin ?_
  rw [← ex]
  refine r_aload_n (dc_L_law_30 41 rfl) rfl rfl ?_
  obtain ⟨x447, s446, e0, h⟩ := wb_some h
  refine r_callSH (dc_L_law_30 42 rfl) mh_L_falling ml_RL_294 (As := [.ref pC1, .int x444, .int x445, .ref pC3]) (t_L_falling (d := d - 1) hl (by omega) e0) (by omega) rfl (Nat.le_of_ble_eq_true rfl) ?_
  refine r_istore (dc_L_law_30 43 rfl) (by decide) (lo' := [(5, .int x447), (0, .ref 0), (1, .ref pC1), (2, .ref pC2), (3, .ref pC3), (4, .int xC4)]) rfl ?_
  refine r_aload_n (dc_L_law_30 44 rfl) rfl rfl ?_
  refine r_aload_n (dc_L_law_30 45 rfl) rfl rfl ?_
  refine r_iload (dc_L_law_30 46 rfl) rfl ?_
  refine r_iconst (dc_L_law_30 47 rfl) kiconst_1 ?_
  refine r_iadd (dc_L_law_30 48 rfl) ?_
  obtain ⟨x448, e0, h⟩ := Option.bind_eq_some_iff.mp h
  obtain ⟨hin, ex⟩ := sld_some e0
  refine r_sld (dc_L_law_30 49 rfl) hin ?_
  rw [← ex]
  refine r_aload_n (dc_L_law_30 50 rfl) rfl rfl ?_
  refine r_iload (dc_L_law_30 51 rfl) rfl ?_
  refine r_iconst (dc_L_law_30 52 rfl) kiconst_2 ?_
  refine r_iadd (dc_L_law_30 53 rfl) ?_
  obtain ⟨x449, e0, h⟩ := Option.bind_eq_some_iff.mp h
  obtain ⟨hin, ex⟩ := sld_some e0
  refine r_sld (dc_L_law_30 54 rfl) hin ?_
  rw [← ex]
  obtain ⟨x451, s450, e0, h⟩ := wb_some h
  refine r_callV (dc_L_law_30 55 rfl) mv_X10_falling ml_RL_296 (As := [.int x448, .int x449]) (t_X10_falling (d := d - 1) hl (by omega) e0) (by omega) rfl (Nat.le_of_ble_eq_true rfl) ?_
  refine r_istore (dc_L_law_30 56 rfl) (by decide) (lo' := [(6, .int x451), (5, .int x447), (0, .ref 0), (1, .ref pC1), (2, .ref pC2), (3, .ref pC3), (4, .int xC4)]) rfl ?_
  refine r_aload_n (dc_L_law_30 57 rfl) rfl rfl ?_
  obtain ⟨x452, e0, h⟩ := Option.bind_eq_some_iff.mp h
  refine r_callV (dc_L_law_30 58 rfl) mv_X10_thrown ml_RL_166 (As := []) (t_X10_thrown (d := d - 1) hl (by omega) e0) (by omega) rfl (Nat.le_of_ble_eq_true rfl) ?_
  refine r_iload (dc_L_law_30 59 rfl) rfl ?_
  refine r_icmp_eq (dc_L_law_30 60 rfl) (tgt := 3188) (by decide) (fun c0 => ?_) (fun c0 => ?_)
  · rw [if_pos c0] at h
    refine r_iload (dc_L_law_30 63 rfl) rfl ?_
    refine r_if_ne (dc_L_law_31 0 rfl) (tgt := 3205) (by decide) (fun c0 => ?_) (fun c0 => ?_)
    · rw [if_neg c0] at h
      refine r_goto (dc_L_law_31 10 rfl) (tgt := 3394) (by decide) ?_
      refine r_pick [2, 3, 4, 5, 6] (lo' := [(0, .ref 0), (1, .ref pC1), (2, .ref pC2), (3, .ref pC3), (4, .int xC4)]) rfl ?_
      exact hkJ _ h
    · rw [if_pos c0] at h
      refine r_aload_n (dc_L_law_31 1 rfl) rfl rfl ?_
      refine r_iconst (dc_L_law_31 2 rfl) kiconst_0 ?_
      obtain ⟨y453, e0, h⟩ := Option.bind_eq_some_iff.mp h
      refine r_lald (dc_L_law_31 3 rfl) e0 ?_
      refine r_iload (dc_L_law_31 4 rfl) rfl ?_
      refine r_i2l (dc_L_law_31 5 rfl) ?_
      refine r_lcmp (dc_L_law_31 6 rfl) ?_
      refine r_if_eq (dc_L_law_31 7 rfl) (tgt := 3205) (by decide) (fun c0 => ?_) (fun c0 => ?_)
      · rw [if_pos c0] at h
        refine r_goto (dc_L_law_31 10 rfl) (tgt := 3394) (by decide) ?_
        refine r_pick [2, 3, 4, 5, 6] (lo' := [(0, .ref 0), (1, .ref pC1), (2, .ref pC2), (3, .ref pC3), (4, .int xC4)]) rfl ?_
        exact hkJ _ h
      · rw [if_neg c0] at h
        refine r_iconst (dc_L_law_31 8 rfl) kiconst_0 ?_
        cases h
        exact r_zreturn (dc_L_law_31 9 rfl) rfl (Or.inl rfl)
  · rw [if_neg c0] at h
    refine r_iconst (dc_L_law_30 61 rfl) kiconst_0 ?_
    cases h
    exact r_zreturn (dc_L_law_30 62 rfl) rfl (Or.inl rfl)
theorem l_L_law_C42 {G : Gx} {d : Nat} (hl : G.1.stackTraces = false) (hd : 15 ≤ d) {pC1 : Nat} {pC2 : Nat} {pC3 : Nat} {xC4 : Int32} {sC : Sto} {r : (Int32 × Sto)} {kJ : Sto → Option (Int32 × Sto)} (hkJ : ∀ (sJ : Sto), kJ sJ = some r → J G d m_L_law 3394 [(0, .ref 0), (1, .ref pC1), (2, .ref pC2), (3, .ref pC3), (4, .int xC4)] [] sJ (.inl (some (.int r.1))) r.2) (h : F_L_law_C42 G.sl G.sx pC1 pC2 pC3 xC4 sC kJ = some r) : J G d m_L_law 3208 [(0, .ref 0), (1, .ref pC1), (2, .ref pC2), (3, .ref pC3), (4, .int xC4)] [] sC (.inl (some (.int r.1))) r.2 := by
  rw [F_L_law_C42] at h
  refine r_aload_n (dc_L_law_31 11 rfl) rfl rfl ?_
  refine r_aload_n (dc_L_law_31 12 rfl) rfl rfl ?_
  refine r_iload (dc_L_law_31 13 rfl) rfl ?_
  refine r_iconst (dc_L_law_31 14 rfl) kiconst_1 ?_
  refine r_iadd (dc_L_law_31 15 rfl) ?_
  obtain ⟨x454, e0, h⟩ := Option.bind_eq_some_iff.mp h
  obtain ⟨hin, ex⟩ := sld_some e0
  refine r_sld (dc_L_law_31 16 rfl) hin ?_
  rw [← ex]
  refine r_aload_n (dc_L_law_31 17 rfl) rfl rfl ?_
  refine r_iload (dc_L_law_31 18 rfl) rfl ?_
  refine r_iconst (dc_L_law_31 19 rfl) kiconst_2 ?_
  refine r_iadd (dc_L_law_31 20 rfl) ?_
  obtain ⟨x455, e0, h⟩ := Option.bind_eq_some_iff.mp h
  obtain ⟨hin, ex⟩ := sld_some e0
  refine r_sld (dc_L_law_31 21 rfl) hin ?_
  rw [← ex]
  refine r_aload_n (dc_L_law_31 22 rfl) rfl rfl ?_
  refine r_iload (dc_L_law_31 23 rfl) rfl ?_
  refine r_iconst (dc_L_law_31 24 rfl) kiconst_3 ?_
  refine r_iadd (dc_L_law_31 25 rfl) ?_
  obtain ⟨x456, e0, h⟩ := Option.bind_eq_some_iff.mp h
  obtain ⟨hin, ex⟩ := sld_some e0
  refine r_sld (dc_L_law_31 26 rfl) hin ?_
  rw [← ex]
  refine r_aload_n (dc_L_law_31 27 rfl) rfl rfl ?_
  obtain ⟨x458, s457, e0, h⟩ := wb_some h
  refine r_callSH (dc_L_law_31 28 rfl) mh_L_joining ml_RL_297 (As := [.ref pC1, .int x454, .int x455, .int x456, .ref pC3]) (t_L_joining (d := d - 1) hl (by omega) e0) (by omega) rfl (Nat.le_of_ble_eq_true rfl) ?_
  refine r_istore (dc_L_law_31 29 rfl) (by decide) (lo' := [(5, .int x458), (0, .ref 0), (1, .ref pC1), (2, .ref pC2), (3, .ref pC3), (4, .int xC4)]) rfl ?_
  refine r_aload_n (dc_L_law_31 30 rfl) rfl rfl ?_
  refine r_aload_n (dc_L_law_31 31 rfl) rfl rfl ?_
  refine r_iload (dc_L_law_31 32 rfl) rfl ?_
  refine r_iconst (dc_L_law_31 33 rfl) kiconst_1 ?_
  refine r_iadd (dc_L_law_31 34 rfl) ?_
  obtain ⟨x459, e0, h⟩ := Option.bind_eq_some_iff.mp h
  obtain ⟨hin, ex⟩ := sld_some e0
  refine r_sld (dc_L_law_31 35 rfl) hin ?_
  rw [← ex]
  refine r_aload_n (dc_L_law_31 36 rfl) rfl rfl ?_
  refine r_iload (dc_L_law_31 37 rfl) rfl ?_
  refine r_iconst (dc_L_law_31 38 rfl) kiconst_2 ?_
  refine r_iadd (dc_L_law_31 39 rfl) ?_
  obtain ⟨x460, e0, h⟩ := Option.bind_eq_some_iff.mp h
  obtain ⟨hin, ex⟩ := sld_some e0
  refine r_sld (dc_L_law_31 40 rfl) hin ?_
  rw [← ex]
  refine r_aload_n (dc_L_law_31 41 rfl) rfl rfl ?_
  refine r_iload (dc_L_law_31 42 rfl) rfl ?_
  refine r_iconst (dc_L_law_31 43 rfl) kiconst_3 ?_
  refine r_iadd (dc_L_law_31 44 rfl) ?_
  obtain ⟨x461, e0, h⟩ := Option.bind_eq_some_iff.mp h
  obtain ⟨hin, ex⟩ := sld_some e0
  refine r_sld (dc_L_law_31 45 rfl) hin ?_
  rw [← ex]
  obtain ⟨x463, s462, e0, h⟩ := wb_some h
  refine r_callV (dc_L_law_31 46 rfl) mv_X10_joining ml_RL_299 (As := [.int x459, .int x460, .int x461]) (t_X10_joining (d := d - 1) hl (by omega) e0) (by omega) rfl (Nat.le_of_ble_eq_true rfl) ?_
  refine r_istore (dc_L_law_31 47 rfl) (by decide) (lo' := [(6, .int x463), (5, .int x458), (0, .ref 0), (1, .ref pC1), (2, .ref pC2), (3, .ref pC3), (4, .int xC4)]) rfl ?_
  refine r_aload_n (dc_L_law_31 48 rfl) rfl rfl ?_
  obtain ⟨x464, e0, h⟩ := Option.bind_eq_some_iff.mp h
  refine r_callV (dc_L_law_31 49 rfl) mv_X10_thrown ml_RL_166 (As := []) (t_X10_thrown (d := d - 1) hl (by omega) e0) (by omega) rfl (Nat.le_of_ble_eq_true rfl) ?_
  refine r_iload (dc_L_law_31 50 rfl) rfl ?_
  refine r_icmp_eq (dc_L_law_31 51 rfl) (tgt := 3268) (by decide) (fun c0 => ?_) (fun c0 => ?_)
  · rw [if_pos c0] at h
    refine r_iload (dc_L_law_31 54 rfl) rfl ?_
    refine r_if_ne (dc_L_law_31 55 rfl) (tgt := 3285) (by decide) (fun c0 => ?_) (fun c0 => ?_)
    · rw [if_neg c0] at h
      refine r_goto (dc_L_law_32 1 rfl) (tgt := 3394) (by decide) ?_
      refine r_pick [2, 3, 4, 5, 6] (lo' := [(0, .ref 0), (1, .ref pC1), (2, .ref pC2), (3, .ref pC3), (4, .int xC4)]) rfl ?_
      exact hkJ _ h
    · rw [if_pos c0] at h
      refine r_aload_n (dc_L_law_31 56 rfl) rfl rfl ?_
      refine r_iconst (dc_L_law_31 57 rfl) kiconst_0 ?_
      obtain ⟨y465, e0, h⟩ := Option.bind_eq_some_iff.mp h
      refine r_lald (dc_L_law_31 58 rfl) e0 ?_
      refine r_iload (dc_L_law_31 59 rfl) rfl ?_
      refine r_i2l (dc_L_law_31 60 rfl) ?_
      refine r_lcmp (dc_L_law_31 61 rfl) ?_
      refine r_if_eq (dc_L_law_31 62 rfl) (tgt := 3285) (by decide) (fun c0 => ?_) (fun c0 => ?_)
      · rw [if_pos c0] at h
        refine r_goto (dc_L_law_32 1 rfl) (tgt := 3394) (by decide) ?_
        refine r_pick [2, 3, 4, 5, 6] (lo' := [(0, .ref 0), (1, .ref pC1), (2, .ref pC2), (3, .ref pC3), (4, .int xC4)]) rfl ?_
        exact hkJ _ h
      · rw [if_neg c0] at h
        refine r_iconst (dc_L_law_31 63 rfl) kiconst_0 ?_
        cases h
        exact r_zreturn (dc_L_law_32 0 rfl) rfl (Or.inl rfl)
  · rw [if_neg c0] at h
    refine r_iconst (dc_L_law_31 52 rfl) kiconst_0 ?_
    cases h
    exact r_zreturn (dc_L_law_31 53 rfl) rfl (Or.inl rfl)
theorem l_L_law_C43 {G : Gx} {d : Nat} (hl : G.1.stackTraces = false) (hd : 15 ≤ d) {pC1 : Nat} {pC2 : Nat} {pC3 : Nat} {xC4 : Int32} {sC : Sto} {r : (Int32 × Sto)} {kJ : Sto → Option (Int32 × Sto)} (hkJ : ∀ (sJ : Sto), kJ sJ = some r → J G d m_L_law 3394 [(0, .ref 0), (1, .ref pC1), (2, .ref pC2), (3, .ref pC3), (4, .int xC4)] [] sJ (.inl (some (.int r.1))) r.2) (h : F_L_law_C43 G.sl G.sx pC1 pC2 pC3 xC4 sC kJ = some r) : J G d m_L_law 3288 [(0, .ref 0), (1, .ref pC1), (2, .ref pC2), (3, .ref pC3), (4, .int xC4)] [] sC (.inl (some (.int r.1))) r.2 := by
  rw [F_L_law_C43] at h
  refine r_aload_n (dc_L_law_32 2 rfl) rfl rfl ?_
  refine r_aload_n (dc_L_law_32 3 rfl) rfl rfl ?_
  refine r_iload (dc_L_law_32 4 rfl) rfl ?_
  refine r_iconst (dc_L_law_32 5 rfl) kiconst_1 ?_
  refine r_iadd (dc_L_law_32 6 rfl) ?_
  obtain ⟨x466, e0, h⟩ := Option.bind_eq_some_iff.mp h
  obtain ⟨hin, ex⟩ := sld_some e0
  refine r_sld (dc_L_law_32 7 rfl) hin ?_
  rw [← ex]
  refine r_aload_n (dc_L_law_32 8 rfl) rfl rfl ?_
  obtain ⟨x468, s467, e0, h⟩ := wb_some h
  refine r_callSH (dc_L_law_32 9 rfl) mh_L_best ml_RL_300 (As := [.ref pC1, .int x466, .ref pC3]) (t_L_best (d := d - 1) hl (by omega) e0) (by omega) rfl (Nat.le_of_ble_eq_true rfl) ?_
  refine r_istore (dc_L_law_32 10 rfl) (by decide) (lo' := [(5, .int x468), (0, .ref 0), (1, .ref pC1), (2, .ref pC2), (3, .ref pC3), (4, .int xC4)]) rfl ?_
  refine r_aload_n (dc_L_law_32 11 rfl) rfl rfl ?_
  refine r_aload_n (dc_L_law_32 12 rfl) rfl rfl ?_
  refine r_iload (dc_L_law_32 13 rfl) rfl ?_
  refine r_iconst (dc_L_law_32 14 rfl) kiconst_1 ?_
  refine r_iadd (dc_L_law_32 15 rfl) ?_
  obtain ⟨x469, e0, h⟩ := Option.bind_eq_some_iff.mp h
  obtain ⟨hin, ex⟩ := sld_some e0
  refine r_sld (dc_L_law_32 16 rfl) hin ?_
  rw [← ex]
  obtain ⟨x471, s470, e0, h⟩ := wb_some h
  refine r_callV (dc_L_law_32 17 rfl) mv_X10_best ml_RL_302 (As := [.int x469]) (t_X10_best (d := d - 1) hl (by omega) e0) (by omega) rfl (Nat.le_of_ble_eq_true rfl) ?_
  refine r_istore (dc_L_law_32 18 rfl) (by decide) (lo' := [(6, .int x471), (5, .int x468), (0, .ref 0), (1, .ref pC1), (2, .ref pC2), (3, .ref pC3), (4, .int xC4)]) rfl ?_
  refine r_aload_n (dc_L_law_32 19 rfl) rfl rfl ?_
  obtain ⟨x472, e0, h⟩ := Option.bind_eq_some_iff.mp h
  refine r_callV (dc_L_law_32 20 rfl) mv_X10_thrown ml_RL_166 (As := []) (t_X10_thrown (d := d - 1) hl (by omega) e0) (by omega) rfl (Nat.le_of_ble_eq_true rfl) ?_
  refine r_iload (dc_L_law_32 21 rfl) rfl ?_
  refine r_icmp_eq (dc_L_law_32 22 rfl) (tgt := 3324) (by decide) (fun c0 => ?_) (fun c0 => ?_)
  · rw [if_pos c0] at h
    refine r_iload (dc_L_law_32 25 rfl) rfl ?_
    refine r_if_ne (dc_L_law_32 26 rfl) (tgt := 3341) (by decide) (fun c0 => ?_) (fun c0 => ?_)
    · rw [if_neg c0] at h
      refine r_goto (dc_L_law_32 36 rfl) (tgt := 3394) (by decide) ?_
      refine r_pick [2, 3, 4, 5, 6] (lo' := [(0, .ref 0), (1, .ref pC1), (2, .ref pC2), (3, .ref pC3), (4, .int xC4)]) rfl ?_
      exact hkJ _ h
    · rw [if_pos c0] at h
      refine r_aload_n (dc_L_law_32 27 rfl) rfl rfl ?_
      refine r_iconst (dc_L_law_32 28 rfl) kiconst_0 ?_
      obtain ⟨y473, e0, h⟩ := Option.bind_eq_some_iff.mp h
      refine r_lald (dc_L_law_32 29 rfl) e0 ?_
      refine r_iload (dc_L_law_32 30 rfl) rfl ?_
      refine r_i2l (dc_L_law_32 31 rfl) ?_
      refine r_lcmp (dc_L_law_32 32 rfl) ?_
      refine r_if_eq (dc_L_law_32 33 rfl) (tgt := 3341) (by decide) (fun c0 => ?_) (fun c0 => ?_)
      · rw [if_pos c0] at h
        refine r_goto (dc_L_law_32 36 rfl) (tgt := 3394) (by decide) ?_
        refine r_pick [2, 3, 4, 5, 6] (lo' := [(0, .ref 0), (1, .ref pC1), (2, .ref pC2), (3, .ref pC3), (4, .int xC4)]) rfl ?_
        exact hkJ _ h
      · rw [if_neg c0] at h
        refine r_iconst (dc_L_law_32 34 rfl) kiconst_0 ?_
        cases h
        exact r_zreturn (dc_L_law_32 35 rfl) rfl (Or.inl rfl)
  · rw [if_neg c0] at h
    refine r_iconst (dc_L_law_32 23 rfl) kiconst_0 ?_
    cases h
    exact r_zreturn (dc_L_law_32 24 rfl) rfl (Or.inl rfl)
theorem l_L_law_C44 {G : Gx} {d : Nat} (hl : G.1.stackTraces = false) (hd : 15 ≤ d) {pC1 : Nat} {pC2 : Nat} {pC3 : Nat} {xC4 : Int32} {sC : Sto} {r : (Int32 × Sto)} {kJ : Sto → Option (Int32 × Sto)} (hkJ : ∀ (sJ : Sto), kJ sJ = some r → J G d m_L_law 3394 [(0, .ref 0), (1, .ref pC1), (2, .ref pC2), (3, .ref pC3), (4, .int xC4)] [] sJ (.inl (some (.int r.1))) r.2) (h : F_L_law_C44 G.sl G.sx pC1 pC2 pC3 xC4 sC kJ = some r) : J G d m_L_law 3344 [(0, .ref 0), (1, .ref pC1), (2, .ref pC2), (3, .ref pC3), (4, .int xC4)] [] sC (.inl (some (.int r.1))) r.2 := by
  rw [F_L_law_C44] at h
  refine r_aload_n (dc_L_law_32 37 rfl) rfl rfl ?_
  refine r_aload_n (dc_L_law_32 38 rfl) rfl rfl ?_
  refine r_iload (dc_L_law_32 39 rfl) rfl ?_
  refine r_iconst (dc_L_law_32 40 rfl) kiconst_1 ?_
  refine r_iadd (dc_L_law_32 41 rfl) ?_
  obtain ⟨x474, e0, h⟩ := Option.bind_eq_some_iff.mp h
  obtain ⟨hin, ex⟩ := sld_some e0
  refine r_sld (dc_L_law_32 42 rfl) hin ?_
  rw [← ex]
  obtain ⟨x476, s475, e0, h⟩ := wb_some h
  refine r_callV (dc_L_law_32 43 rfl) mv_X9_fewest ml_RL_303 (As := [.int x474]) (t_X9_fewest (d := d - 1) hl (by omega) e0) (by omega) rfl (Nat.le_of_ble_eq_true rfl) ?_
  refine r_aload_n (dc_L_law_32 44 rfl) rfl rfl ?_
  refine r_aload_n (dc_L_law_32 45 rfl) rfl rfl ?_
  refine r_iload (dc_L_law_32 46 rfl) rfl ?_
  refine r_iconst (dc_L_law_32 47 rfl) kiconst_1 ?_
  refine r_iadd (dc_L_law_32 48 rfl) ?_
  obtain ⟨x477, e0, h⟩ := Option.bind_eq_some_iff.mp h
  obtain ⟨hin, ex⟩ := sld_some e0
  refine r_sld (dc_L_law_32 49 rfl) hin ?_
  rw [← ex]
  obtain ⟨x479, s478, e0, h⟩ := wb_some h
  refine r_callV (dc_L_law_32 50 rfl) mv_X10_fewest ml_RL_306 (As := [.int x477]) (t_X10_fewest (d := d - 1) hl (by omega) e0) (by omega) rfl (Nat.le_of_ble_eq_true rfl) ?_
  refine r_icmp_eq (dc_L_law_32 51 rfl) (tgt := 3394) (by decide) (fun c0 => ?_) (fun c0 => ?_)
  · rw [if_pos c0] at h
    exact hkJ _ h
  · rw [if_neg c0] at h
    refine r_iconst (dc_L_law_32 52 rfl) kiconst_0 ?_
    cases h
    exact r_zreturn (dc_L_law_32 53 rfl) rfl (Or.inl rfl)
theorem l_L_law_C45 {G : Gx} {d : Nat} (hl : G.1.stackTraces = false) (hd : 15 ≤ d) {pC1 : Nat} {pC2 : Nat} {pC3 : Nat} {xC4 : Int32} {sC : Sto} {r : (Int32 × Sto)} {kJ : Sto → Option (Int32 × Sto)} (hkJ : ∀ (sJ : Sto), kJ sJ = some r → J G d m_L_law 3394 [(0, .ref 0), (1, .ref pC1), (2, .ref pC2), (3, .ref pC3), (4, .int xC4)] [] sJ (.inl (some (.int r.1))) r.2) (h : F_L_law_C45 G.sl G.sx pC1 pC2 pC3 xC4 sC kJ = some r) : J G d m_L_law 3369 [(0, .ref 0), (1, .ref pC1), (2, .ref pC2), (3, .ref pC3), (4, .int xC4)] [] sC (.inl (some (.int r.1))) r.2 := by
  rw [F_L_law_C45] at h
  refine r_aload_n (dc_L_law_32 54 rfl) rfl rfl ?_
  refine r_aload_n (dc_L_law_32 55 rfl) rfl rfl ?_
  refine r_iload (dc_L_law_32 56 rfl) rfl ?_
  refine r_iconst (dc_L_law_32 57 rfl) kiconst_1 ?_
  refine r_iadd (dc_L_law_32 58 rfl) ?_
  obtain ⟨x480, e0, h⟩ := Option.bind_eq_some_iff.mp h
  obtain ⟨hin, ex⟩ := sld_some e0
  refine r_sld (dc_L_law_32 59 rfl) hin ?_
  rw [← ex]
  obtain ⟨x482, s481, e0, h⟩ := wb_some h
  refine r_callV (dc_L_law_32 60 rfl) mv_X9_count ml_RL_307 (As := [.int x480]) (t_X9_count (d := d - 1) hl (by omega) e0) (by omega) rfl (Nat.le_of_ble_eq_true rfl) ?_
  refine r_aload_n (dc_L_law_32 61 rfl) rfl rfl ?_
  refine r_aload_n (dc_L_law_32 62 rfl) rfl rfl ?_
  refine r_iload (dc_L_law_32 63 rfl) rfl ?_
  refine r_iconst (dc_L_law_33 0 rfl) kiconst_1 ?_
  refine r_iadd (dc_L_law_33 1 rfl) ?_
  obtain ⟨x483, e0, h⟩ := Option.bind_eq_some_iff.mp h
  obtain ⟨hin, ex⟩ := sld_some e0
  refine r_sld (dc_L_law_33 2 rfl) hin ?_
  rw [← ex]
  obtain ⟨x485, s484, e0, h⟩ := wb_some h
  refine r_callV (dc_L_law_33 3 rfl) mv_X10_count ml_RL_310 (As := [.int x483]) (t_X10_count (d := d - 1) hl (by omega) e0) (by omega) rfl (Nat.le_of_ble_eq_true rfl) ?_
  refine r_icmp_eq (dc_L_law_33 4 rfl) (tgt := 3394) (by decide) (fun c0 => ?_) (fun c0 => ?_)
  · rw [if_pos c0] at h
    exact hkJ _ h
  · rw [if_neg c0] at h
    refine r_iconst (dc_L_law_33 5 rfl) kiconst_0 ?_
    cases h
    exact r_zreturn (dc_L_law_33 6 rfl) rfl (Or.inl rfl)
theorem l_L_law_L23 {G : Gx} {d : Nat} (hl : G.1.stackTraces = false) (hd : 15 ≤ d) {pL1 : Nat} {pL2 : Nat} {pL3 : Nat} {r : (Int32 × Sto)} {k3400 : Sto → Option (Int32 × Sto)}
    (hk3400 : ∀ (sL : Sto), k3400 sL = some r → J G d m_L_law 3400 [] [] sL (.inl (some (.int r.1))) r.2)
  : ∀ (f : Nat) (xL4 : Int32) (sL : Sto), F_L_law_L23 G.sl G.sx pL1 pL2 pL3 f xL4 sL k3400 = some r → J G d m_L_law 23 [(0, .ref 0), (1, .ref pL1), (2, .ref pL2), (3, .ref pL3), (4, .int xL4)] [] sL (.inl (some (.int r.1))) r.2 := by
  intro f
  induction f with
  | zero => intro xL4 sL h; rw [F_L_law_L23] at h; cases h
  | succ f ih =>
    intro xL4 sL h
    rw [F_L_law_L23] at h
    refine r_iload (dc_L_law_0 13 rfl) rfl ?_
    refine r_aload_n (dc_L_law_0 14 rfl) rfl rfl ?_
    refine r_slen (dc_L_law_0 15 rfl) ?_
    refine r_iconst (dc_L_law_0 16 rfl) kiconst_5 ?_
    refine r_isub (dc_L_law_0 17 rfl) ?_
    refine r_icmp_gt (dc_L_law_0 18 rfl) (tgt := 3400) (by decide) (fun c0 => ?_) (fun c0 => ?_)
    · rw [if_pos c0] at h
      refine r_pick [] (lo' := []) rfl ?_
      exact hk3400 _ h
    · rw [if_neg c0] at h
      refine r_aload_n (dc_L_law_0 19 rfl) rfl rfl ?_
      refine r_iload (dc_L_law_0 20 rfl) rfl ?_
      obtain ⟨x9, e0, h⟩ := Option.bind_eq_some_iff.mp h
      obtain ⟨hin, ex⟩ := sld_some e0
      refine r_sld (dc_L_law_0 21 rfl) hin ?_
      rw [← ex]
      refine r_bipush (dc_L_law_0 22 rfl) kbipush_63 ?_
      refine r_iand (dc_L_law_0 23 rfl) ?_
      refine jn_elim h (Q := fun (j : Sto → Option (Int32 × Sto)) => ∀ (sJ : Sto), j sJ = some r → J G d m_L_law 3394 [(0, .ref 0), (1, .ref pL1), (2, .ref pL2), (3, .ref pL3), (4, .int xL4)] [] sJ (.inl (some (.int r.1))) r.2) ?_ (fun kJ hkJ h => ?_)
      · intro sJ h
        refine r_iinc (dc_L_law_33 7 rfl) rfl (kinc_5 _) (by decide) (lo' := [(4, .int (xL4 + (5 : Int32))), (0, .ref 0), (1, .ref pL1), (2, .ref pL2), (3, .ref pL3)]) rfl ?_
        refine r_goto (dc_L_law_33 8 rfl) (tgt := 23) (by decide) ?_
        refine r_pick [1, 2, 3, 4, 0] (lo' := [(0, .ref 0), (1, .ref pL1), (2, .ref pL2), (3, .ref pL3), (4, .int (xL4 + (5 : Int32)))]) rfl ?_
        exact ih _ _ h
      by_cases c0 : (x9 &&& (63 : Int32)) = (0 : Int32)
      · rw [if_pos c0] at h
        refine r_tsInE c0 (dc_L_law_0 24 rfl) (tgt := 236) (off := 197) (by decide) (by decide) (by decide) (by decide) ?_
        exact l_L_law_C0 hl hd hkJ h
      rw [if_neg c0] at h
      by_cases c1 : (x9 &&& (63 : Int32)) = (1 : Int32)
      · rw [if_pos c1] at h
        refine r_tsInE c1 (dc_L_law_0 24 rfl) (tgt := 292) (off := 253) (by decide) (by decide) (by decide) (by decide) ?_
        exact l_L_law_C1 hl hd hkJ h
      rw [if_neg c1] at h
      by_cases c2 : (x9 &&& (63 : Int32)) = (2 : Int32)
      · rw [if_pos c2] at h
        refine r_tsInE c2 (dc_L_law_0 24 rfl) (tgt := 348) (off := 309) (by decide) (by decide) (by decide) (by decide) ?_
        exact l_L_law_C2 hl hd hkJ h
      rw [if_neg c2] at h
      by_cases c3 : (x9 &&& (63 : Int32)) = (3 : Int32)
      · rw [if_pos c3] at h
        refine r_tsInE c3 (dc_L_law_0 24 rfl) (tgt := 416) (off := 377) (by decide) (by decide) (by decide) (by decide) ?_
        exact l_L_law_C3 hl hd hkJ h
      rw [if_neg c3] at h
      by_cases c4 : (x9 &&& (63 : Int32)) = (4 : Int32)
      · rw [if_pos c4] at h
        refine r_tsInE c4 (dc_L_law_0 24 rfl) (tgt := 484) (off := 445) (by decide) (by decide) (by decide) (by decide) ?_
        exact l_L_law_C4 hl hd hkJ h
      rw [if_neg c4] at h
      by_cases c5 : (x9 &&& (63 : Int32)) = (5 : Int32)
      · rw [if_pos c5] at h
        refine r_tsInE c5 (dc_L_law_0 24 rfl) (tgt := 552) (off := 513) (by decide) (by decide) (by decide) (by decide) ?_
        exact l_L_law_C5 hl hd hkJ h
      rw [if_neg c5] at h
      by_cases c6 : (x9 &&& (63 : Int32)) = (6 : Int32)
      · rw [if_pos c6] at h
        refine r_tsInE c6 (dc_L_law_0 24 rfl) (tgt := 632) (off := 593) (by decide) (by decide) (by decide) (by decide) ?_
        exact l_L_law_C6 hl hd hkJ h
      rw [if_neg c6] at h
      by_cases c7 : (x9 &&& (63 : Int32)) = (7 : Int32)
      · rw [if_pos c7] at h
        refine r_tsInE c7 (dc_L_law_0 24 rfl) (tgt := 712) (off := 673) (by decide) (by decide) (by decide) (by decide) ?_
        exact l_L_law_C7 hl hd hkJ h
      rw [if_neg c7] at h
      by_cases c8 : (x9 &&& (63 : Int32)) = (8 : Int32)
      · rw [if_pos c8] at h
        refine r_tsInE c8 (dc_L_law_0 24 rfl) (tgt := 792) (off := 753) (by decide) (by decide) (by decide) (by decide) ?_
        exact l_L_law_C8 hl hd hkJ h
      rw [if_neg c8] at h
      by_cases c9 : (x9 &&& (63 : Int32)) = (9 : Int32)
      · rw [if_pos c9] at h
        refine r_tsInE c9 (dc_L_law_0 24 rfl) (tgt := 860) (off := 821) (by decide) (by decide) (by decide) (by decide) ?_
        exact l_L_law_C9 hl hd hkJ h
      rw [if_neg c9] at h
      by_cases c10 : (x9 &&& (63 : Int32)) = (10 : Int32)
      · rw [if_pos c10] at h
        refine r_tsInE c10 (dc_L_law_0 24 rfl) (tgt := 952) (off := 913) (by decide) (by decide) (by decide) (by decide) ?_
        exact l_L_law_C10 hl hd hkJ h
      rw [if_neg c10] at h
      by_cases c11 : (x9 &&& (63 : Int32)) = (11 : Int32)
      · rw [if_pos c11] at h
        refine r_tsInE c11 (dc_L_law_0 24 rfl) (tgt := 1044) (off := 1005) (by decide) (by decide) (by decide) (by decide) ?_
        exact l_L_law_C11 hl hd hkJ h
      rw [if_neg c11] at h
      by_cases c12 : (x9 &&& (63 : Int32)) = (12 : Int32)
      · rw [if_pos c12] at h
        refine r_tsInE c12 (dc_L_law_0 24 rfl) (tgt := 1100) (off := 1061) (by decide) (by decide) (by decide) (by decide) ?_
        exact l_L_law_C12 hl hd hkJ h
      rw [if_neg c12] at h
      by_cases c13 : (x9 &&& (63 : Int32)) = (13 : Int32)
      · rw [if_pos c13] at h
        refine r_tsInE c13 (dc_L_law_0 24 rfl) (tgt := 1156) (off := 1117) (by decide) (by decide) (by decide) (by decide) ?_
        exact l_L_law_C13 hl hd hkJ h
      rw [if_neg c13] at h
      by_cases c14 : (x9 &&& (63 : Int32)) = (14 : Int32)
      · rw [if_pos c14] at h
        refine r_tsInE c14 (dc_L_law_0 24 rfl) (tgt := 1224) (off := 1185) (by decide) (by decide) (by decide) (by decide) ?_
        exact l_L_law_C14 hl hd hkJ h
      rw [if_neg c14] at h
      by_cases c15 : (x9 &&& (63 : Int32)) = (15 : Int32)
      · rw [if_pos c15] at h
        refine r_tsInE c15 (dc_L_law_0 24 rfl) (tgt := 1292) (off := 1253) (by decide) (by decide) (by decide) (by decide) ?_
        exact l_L_law_C15 hl hd hkJ h
      rw [if_neg c15] at h
      by_cases c16 : (x9 &&& (63 : Int32)) = (16 : Int32)
      · rw [if_pos c16] at h
        refine r_tsInE c16 (dc_L_law_0 24 rfl) (tgt := 1348) (off := 1309) (by decide) (by decide) (by decide) (by decide) ?_
        exact l_L_law_C16 hl hd hkJ h
      rw [if_neg c16] at h
      by_cases c17 : (x9 &&& (63 : Int32)) = (17 : Int32)
      · rw [if_pos c17] at h
        refine r_tsInE c17 (dc_L_law_0 24 rfl) (tgt := 1404) (off := 1365) (by decide) (by decide) (by decide) (by decide) ?_
        exact l_L_law_C17 hl hd hkJ h
      rw [if_neg c17] at h
      by_cases c18 : (x9 &&& (63 : Int32)) = (18 : Int32)
      · rw [if_pos c18] at h
        refine r_tsInE c18 (dc_L_law_0 24 rfl) (tgt := 1507) (off := 1468) (by decide) (by decide) (by decide) (by decide) ?_
        exact l_L_law_C18 hl hd hkJ h
      rw [if_neg c18] at h
      by_cases c19 : (x9 &&& (63 : Int32)) = (19 : Int32)
      · rw [if_pos c19] at h
        refine r_tsInE c19 (dc_L_law_0 24 rfl) (tgt := 1587) (off := 1548) (by decide) (by decide) (by decide) (by decide) ?_
        exact l_L_law_C19 hl hd hkJ h
      rw [if_neg c19] at h
      by_cases c20 : (x9 &&& (63 : Int32)) = (20 : Int32)
      · rw [if_pos c20] at h
        refine r_tsInE c20 (dc_L_law_0 24 rfl) (tgt := 1667) (off := 1628) (by decide) (by decide) (by decide) (by decide) ?_
        exact l_L_law_C20 hl hd hkJ h
      rw [if_neg c20] at h
      by_cases c21 : (x9 &&& (63 : Int32)) = (21 : Int32)
      · rw [if_pos c21] at h
        refine r_tsInE c21 (dc_L_law_0 24 rfl) (tgt := 1735) (off := 1696) (by decide) (by decide) (by decide) (by decide) ?_
        exact l_L_law_C21 hl hd hkJ h
      rw [if_neg c21] at h
      by_cases c22 : (x9 &&& (63 : Int32)) = (22 : Int32)
      · rw [if_pos c22] at h
        refine r_tsInE c22 (dc_L_law_0 24 rfl) (tgt := 1815) (off := 1776) (by decide) (by decide) (by decide) (by decide) ?_
        exact l_L_law_C22 hl hd hkJ h
      rw [if_neg c22] at h
      by_cases c23 : (x9 &&& (63 : Int32)) = (23 : Int32)
      · rw [if_pos c23] at h
        refine r_tsInE c23 (dc_L_law_0 24 rfl) (tgt := 1902) (off := 1863) (by decide) (by decide) (by decide) (by decide) ?_
        exact l_L_law_C23 hl hd hkJ h
      rw [if_neg c23] at h
      by_cases c24 : (x9 &&& (63 : Int32)) = (24 : Int32)
      · rw [if_pos c24] at h
        refine r_tsInE c24 (dc_L_law_0 24 rfl) (tgt := 1977) (off := 1938) (by decide) (by decide) (by decide) (by decide) ?_
        exact l_L_law_C24 hl hd hkJ h
      rw [if_neg c24] at h
      by_cases c25 : (x9 &&& (63 : Int32)) = (25 : Int32)
      · rw [if_pos c25] at h
        refine r_tsInE c25 (dc_L_law_0 24 rfl) (tgt := 2045) (off := 2006) (by decide) (by decide) (by decide) (by decide) ?_
        exact l_L_law_C25 hl hd hkJ h
      rw [if_neg c25] at h
      by_cases c26 : (x9 &&& (63 : Int32)) = (26 : Int32)
      · rw [if_pos c26] at h
        refine r_tsInE c26 (dc_L_law_0 24 rfl) (tgt := 2113) (off := 2074) (by decide) (by decide) (by decide) (by decide) ?_
        exact l_L_law_C26 hl hd hkJ h
      rw [if_neg c26] at h
      by_cases c27 : (x9 &&& (63 : Int32)) = (27 : Int32)
      · rw [if_pos c27] at h
        refine r_tsInE c27 (dc_L_law_0 24 rfl) (tgt := 2193) (off := 2154) (by decide) (by decide) (by decide) (by decide) ?_
        exact l_L_law_C27 hl hd hkJ h
      rw [if_neg c27] at h
      by_cases c28 : (x9 &&& (63 : Int32)) = (28 : Int32)
      · rw [if_pos c28] at h
        refine r_tsInE c28 (dc_L_law_0 24 rfl) (tgt := 2261) (off := 2222) (by decide) (by decide) (by decide) (by decide) ?_
        exact l_L_law_C28 hl hd hkJ h
      rw [if_neg c28] at h
      by_cases c29 : (x9 &&& (63 : Int32)) = (29 : Int32)
      · rw [if_pos c29] at h
        refine r_tsInE c29 (dc_L_law_0 24 rfl) (tgt := 2336) (off := 2297) (by decide) (by decide) (by decide) (by decide) ?_
        exact l_L_law_C29 hl hd hkJ h
      rw [if_neg c29] at h
      by_cases c30 : (x9 &&& (63 : Int32)) = (30 : Int32)
      · rw [if_pos c30] at h
        refine r_tsInE c30 (dc_L_law_0 24 rfl) (tgt := 2392) (off := 2353) (by decide) (by decide) (by decide) (by decide) ?_
        exact l_L_law_C30 hl hd hkJ h
      rw [if_neg c30] at h
      by_cases c31 : (x9 &&& (63 : Int32)) = (31 : Int32)
      · rw [if_pos c31] at h
        refine r_tsInE c31 (dc_L_law_0 24 rfl) (tgt := 2472) (off := 2433) (by decide) (by decide) (by decide) (by decide) ?_
        exact l_L_law_C31 hl hd hkJ h
      rw [if_neg c31] at h
      by_cases c32 : (x9 &&& (63 : Int32)) = (32 : Int32)
      · rw [if_pos c32] at h
        refine r_tsInE c32 (dc_L_law_0 24 rfl) (tgt := 2552) (off := 2513) (by decide) (by decide) (by decide) (by decide) ?_
        exact l_L_law_C32 hl hd hkJ h
      rw [if_neg c32] at h
      by_cases c33 : (x9 &&& (63 : Int32)) = (33 : Int32)
      · rw [if_pos c33] at h
        refine r_tsInE c33 (dc_L_law_0 24 rfl) (tgt := 2608) (off := 2569) (by decide) (by decide) (by decide) (by decide) ?_
        exact l_L_law_C33 hl hd hkJ h
      rw [if_neg c33] at h
      by_cases c34 : (x9 &&& (63 : Int32)) = (34 : Int32)
      · rw [if_pos c34] at h
        refine r_tsInE c34 (dc_L_law_0 24 rfl) (tgt := 2676) (off := 2637) (by decide) (by decide) (by decide) (by decide) ?_
        exact l_L_law_C34 hl hd hkJ h
      rw [if_neg c34] at h
      by_cases c35 : (x9 &&& (63 : Int32)) = (35 : Int32)
      · rw [if_pos c35] at h
        refine r_tsInE c35 (dc_L_law_0 24 rfl) (tgt := 2744) (off := 2705) (by decide) (by decide) (by decide) (by decide) ?_
        exact l_L_law_C35 hl hd hkJ h
      rw [if_neg c35] at h
      by_cases c36 : (x9 &&& (63 : Int32)) = (36 : Int32)
      · rw [if_pos c36] at h
        refine r_tsInE c36 (dc_L_law_0 24 rfl) (tgt := 2812) (off := 2773) (by decide) (by decide) (by decide) (by decide) ?_
        exact l_L_law_C36 hl hd hkJ h
      rw [if_neg c36] at h
      by_cases c37 : (x9 &&& (63 : Int32)) = (37 : Int32)
      · rw [if_pos c37] at h
        refine r_tsInE c37 (dc_L_law_0 24 rfl) (tgt := 2892) (off := 2853) (by decide) (by decide) (by decide) (by decide) ?_
        exact l_L_law_C37 hl hd hkJ h
      rw [if_neg c37] at h
      by_cases c38 : (x9 &&& (63 : Int32)) = (38 : Int32)
      · rw [if_pos c38] at h
        refine r_tsInE c38 (dc_L_law_0 24 rfl) (tgt := 2960) (off := 2921) (by decide) (by decide) (by decide) (by decide) ?_
        exact l_L_law_C38 hl hd hkJ h
      rw [if_neg c38] at h
      by_cases c39 : (x9 &&& (63 : Int32)) = (39 : Int32)
      · rw [if_pos c39] at h
        refine r_tsInE c39 (dc_L_law_0 24 rfl) (tgt := 3016) (off := 2977) (by decide) (by decide) (by decide) (by decide) ?_
        exact l_L_law_C39 hl hd hkJ h
      rw [if_neg c39] at h
      by_cases c40 : (x9 &&& (63 : Int32)) = (40 : Int32)
      · rw [if_pos c40] at h
        refine r_tsInE c40 (dc_L_law_0 24 rfl) (tgt := 3084) (off := 3045) (by decide) (by decide) (by decide) (by decide) ?_
        exact l_L_law_C40 hl hd hkJ h
      rw [if_neg c40] at h
      by_cases c41 : (x9 &&& (63 : Int32)) = (41 : Int32)
      · rw [if_pos c41] at h
        refine r_tsInE c41 (dc_L_law_0 24 rfl) (tgt := 3140) (off := 3101) (by decide) (by decide) (by decide) (by decide) ?_
        exact l_L_law_C41 hl hd hkJ h
      rw [if_neg c41] at h
      by_cases c42 : (x9 &&& (63 : Int32)) = (42 : Int32)
      · rw [if_pos c42] at h
        refine r_tsInE c42 (dc_L_law_0 24 rfl) (tgt := 3208) (off := 3169) (by decide) (by decide) (by decide) (by decide) ?_
        exact l_L_law_C42 hl hd hkJ h
      rw [if_neg c42] at h
      by_cases c43 : (x9 &&& (63 : Int32)) = (43 : Int32)
      · rw [if_pos c43] at h
        refine r_tsInE c43 (dc_L_law_0 24 rfl) (tgt := 3288) (off := 3249) (by decide) (by decide) (by decide) (by decide) ?_
        exact l_L_law_C43 hl hd hkJ h
      rw [if_neg c43] at h
      by_cases c44 : (x9 &&& (63 : Int32)) = (44 : Int32)
      · rw [if_pos c44] at h
        refine r_tsInE c44 (dc_L_law_0 24 rfl) (tgt := 3344) (off := 3305) (by decide) (by decide) (by decide) (by decide) ?_
        exact l_L_law_C44 hl hd hkJ h
      rw [if_neg c44] at h
      by_cases c45 : (x9 &&& (63 : Int32)) = (45 : Int32)
      · rw [if_pos c45] at h
        refine r_tsInE c45 (dc_L_law_0 24 rfl) (tgt := 3369) (off := 3330) (by decide) (by decide) (by decide) (by decide) ?_
        exact l_L_law_C45 hl hd hkJ h
      rw [if_neg c45] at h
      refine r_tsOut (dc_L_law_0 24 rfl) (tgt := 3394) (ts_out (n := 46) (fun k hk => match k, hk with | 0, _ => c0 | 1, _ => c1 | 2, _ => c2 | 3, _ => c3 | 4, _ => c4 | 5, _ => c5 | 6, _ => c6 | 7, _ => c7 | 8, _ => c8 | 9, _ => c9 | 10, _ => c10 | 11, _ => c11 | 12, _ => c12 | 13, _ => c13 | 14, _ => c14 | 15, _ => c15 | 16, _ => c16 | 17, _ => c17 | 18, _ => c18 | 19, _ => c19 | 20, _ => c20 | 21, _ => c21 | 22, _ => c22 | 23, _ => c23 | 24, _ => c24 | 25, _ => c25 | 26, _ => c26 | 27, _ => c27 | 28, _ => c28 | 29, _ => c29 | 30, _ => c30 | 31, _ => c31 | 32, _ => c32 | 33, _ => c33 | 34, _ => c34 | 35, _ => c35 | 36, _ => c36 | 37, _ => c37 | 38, _ => c38 | 39, _ => c39 | 40, _ => c40 | 41, _ => c41 | 42, _ => c42 | 43, _ => c43 | 44, _ => c44 | 45, _ => c45 | k + 46, hk => absurd hk (by omega)) (by decide)) (by decide) ?_
      exact hkJ _ h
theorem j_L_law {G : Gx} {d : Nat} (hl : G.1.stackTraces = false) (hd : 15 ≤ d) {σ : Sto} {r : Int32 × Sto} (h : F_L_law G.sl G.sx σ = some r) : J G d m_L_law 0 [(0, .ref 0)] [] σ (.inl (some (.int r.1))) r.2 := by
  rw [F_L_law] at h
  obtain ⟨p2, s1, ev, es, h⟩ := nw_some h
  refine r_new (dc_L_law_0 0 rfl) nl_RL_8 ?_
  rw [← ev, ← es]
  refine r_dup (dc_L_law_0 1 rfl) rfl ?_
  obtain ⟨s3, e0, h⟩ := Option.bind_eq_some_iff.mp h
  refine r_callI (dc_L_law_0 2 rfl) mi_X9_init ml_RL_156 (As := []) (t_X9_init (d := d - 1) hl (by omega) e0) (by omega) rfl (Nat.le_of_ble_eq_true rfl) ?_
  refine r_astore_n (dc_L_law_0 3 rfl) rfl (by decide) (lo' := [(1, .ref p2), (0, .ref 0)]) rfl ?_
  obtain ⟨p5, s4, ev, es, h⟩ := nw_some h
  refine r_new (dc_L_law_0 4 rfl) nl_RL_157 ?_
  rw [← ev, ← es]
  refine r_dup (dc_L_law_0 5 rfl) rfl ?_
  obtain ⟨s6, e0, h⟩ := Option.bind_eq_some_iff.mp h
  refine r_callI (dc_L_law_0 6 rfl) mi_X10_init ml_RL_159 (As := []) (t_X10_init (d := d - 1) hl (by omega) e0) (by omega) rfl (Nat.le_of_ble_eq_true rfl) ?_
  refine r_astore_n (dc_L_law_0 7 rfl) rfl (by decide) (lo' := [(2, .ref p5), (1, .ref p2), (0, .ref 0)]) rfl ?_
  refine r_iconst (dc_L_law_0 8 rfl) kiconst_1 ?_
  obtain ⟨p8, s7, ev, es, h⟩ := nw_some h
  refine r_newL (dc_L_law_0 9 rfl) ac_long (by decide) (by decide +kernel) ?_
  rw [← ev, ← es]
  refine r_astore_n (dc_L_law_0 10 rfl) rfl (by decide) (lo' := [(3, .ref p8), (2, .ref p5), (1, .ref p2), (0, .ref 0)]) rfl ?_
  refine r_iconst (dc_L_law_0 11 rfl) kiconst_0 ?_
  refine r_istore (dc_L_law_0 12 rfl) (by decide) (lo' := [(4, .int (0 : Int32)), (3, .ref p8), (2, .ref p5), (1, .ref p2), (0, .ref 0)]) rfl ?_
  refine r_pick [4, 3, 2, 1, 0] (lo' := [(0, .ref 0), (1, .ref p2), (2, .ref p5), (3, .ref p8), (4, .int (0 : Int32))]) rfl ?_
  refine l_L_law_L23 hl hd (hk3400 := ?_) fu _ _ h
  · intro s486 h
    refine r_iconst (dc_L_law_33 9 rfl) kiconst_1 ?_
    cases h
    exact r_zreturn (dc_L_law_33 10 rfl) rfl (Or.inr rfl)
