theorem l_X8_stepsToAll_L12 {G : Gx} {d : Nat} (hl : G.1.stackTraces = false) (hd : 1 ≤ d) {sL : Sto} {pL0 : Nat} {xL1 : Int32} {r : Int32} {k42 : Int32 → Option Int32}
    (hk42 : ∀ (xL2 : Int32), k42 xL2 = some r → J G d m_X8_stepsToAll 42 [(0, .ref pL0), (1, .int xL1), (2, .int xL2)] [] sL (.inl (some (.int r))) sL)
  : ∀ (f : Nat) (xL2 : Int32) (xL3 : Int32), F_X8_stepsToAll_L12 sL pL0 xL1 f xL2 xL3 k42 = some r → J G d m_X8_stepsToAll 12 [(0, .ref pL0), (1, .int xL1), (2, .int xL2), (3, .int xL3)] [] sL (.inl (some (.int r))) sL := by
  intro f
  induction f with
  | zero => intro xL2 xL3 h; rw [F_X8_stepsToAll_L12] at h; cases h
  | succ f ih =>
    intro xL2 xL3 h
    rw [F_X8_stepsToAll_L12] at h
    refine r_iload_n (dc_X8_stepsToAll 8 rfl) rfl rfl ?_
    refine r_aload_n (dc_X8_stepsToAll 9 rfl) rfl rfl ?_
    obtain ⟨x4, e0, h⟩ := Option.bind_eq_some_iff.mp h
    refine r_getI (dc_X8_stepsToAll 10 rfl) fl_RX8_9 e0 ?_
    refine r_icmp_ge (dc_X8_stepsToAll 11 rfl) (tgt := 42) (by decide) (fun c0 => ?_) (fun c0 => ?_)
    · rw [if_pos c0] at h
      refine r_pick [0, 1, 2] (lo' := [(0, .ref pL0), (1, .int xL1), (2, .int xL2)]) rfl ?_
      exact hk42 _ h
    · rw [if_neg c0] at h
      refine r_iload_n (dc_X8_stepsToAll 12 rfl) rfl rfl ?_
      refine r_aload_n (dc_X8_stepsToAll 13 rfl) rfl rfl ?_
      obtain ⟨p5, e0, h⟩ := Option.bind_eq_some_iff.mp h
      refine r_getR (dc_X8_stepsToAll 14 rfl) fl_RX8_24 e0 ?_
      refine r_iload_n (dc_X8_stepsToAll 15 rfl) rfl rfl ?_
      obtain ⟨p6, e0, h⟩ := Option.bind_eq_some_iff.mp h
      refine r_aaldR (dc_X8_stepsToAll 16 rfl) (kd := 4) rfl e0 ?_
      obtain ⟨p7, e0, h⟩ := Option.bind_eq_some_iff.mp h
      refine r_getR (dc_X8_stepsToAll 17 rfl) fl_RX8_180 e0 ?_
      refine r_iload_n (dc_X8_stepsToAll 18 rfl) rfl rfl ?_
      obtain ⟨x8, e0, h⟩ := Option.bind_eq_some_iff.mp h
      refine r_iald (dc_X8_stepsToAll 19 rfl) e0 ?_
      refine r_mmax (dc_X8_stepsToAll 20 rfl) ml_RX8_183 w_mmax1 w_math2 w_mmax3 (by omega) (Nat.le_of_ble_eq_true rfl) ?_
      refine r_istore_n (dc_X8_stepsToAll 21 rfl) rfl (by decide) (lo' := [(2, .int (if xL2 < x8 then x8 else xL2)), (0, .ref pL0), (1, .int xL1), (3, .int xL3)]) rfl ?_
      refine r_iinc (dc_X8_stepsToAll 22 rfl) rfl (kinc_1 _) (by decide) (lo' := [(3, .int (xL3 + (1 : Int32))), (2, .int (if xL2 < x8 then x8 else xL2)), (0, .ref pL0), (1, .int xL1)]) rfl ?_
      refine r_goto (dc_X8_stepsToAll 23 rfl) (tgt := 12) (by decide) ?_
      refine r_pick [2, 3, 1, 0] (lo' := [(0, .ref pL0), (1, .int xL1), (2, .int (if xL2 < x8 then x8 else xL2)), (3, .int (xL3 + (1 : Int32)))]) rfl ?_
      exact ih _ _ h
theorem t_X8_stepsToAll {G : Gx} {d : Nat} (hl : G.1.stackTraces = false) (hd : 1 ≤ d) {σ : Sto} {a0 : Nat} {xa1 : Int32} {r : Int32} (h : F_X8_stepsToAll σ a0 xa1 = some r) : Mi G d m_X8_stepsToAll 8 a0 [.int xa1] σ (.inl (some (.int r))) σ := by
  rw [F_X8_stepsToAll] at h
  obtain ⟨hg, h⟩ := chk_some h
  refine ⟨J.toMt (lo := [(0, .ref a0), (1, .int xa1)]) pn_RX8 rfl hl (Nat.le_of_ble_eq_true rfl) rfl ?_, hg⟩
  refine r_aload_n (dc_X8_stepsToAll 0 rfl) rfl rfl ?_
  obtain ⟨p1, e0, h⟩ := Option.bind_eq_some_iff.mp h
  refine r_getR (dc_X8_stepsToAll 1 rfl) fl_RX8_18 e0 ?_
  obtain ⟨p2, e0, h⟩ := Option.bind_eq_some_iff.mp h
  refine r_getR (dc_X8_stepsToAll 2 rfl) fl_RX8_177 e0 ?_
  refine r_iload_n (dc_X8_stepsToAll 3 rfl) rfl rfl ?_
  obtain ⟨x3, e0, h⟩ := Option.bind_eq_some_iff.mp h
  refine r_iald (dc_X8_stepsToAll 4 rfl) e0 ?_
  refine r_istore_n (dc_X8_stepsToAll 5 rfl) rfl (by decide) (lo' := [(2, .int x3), (0, .ref a0), (1, .int xa1)]) rfl ?_
  refine r_iconst (dc_X8_stepsToAll 6 rfl) kiconst_0 ?_
  refine r_istore_n (dc_X8_stepsToAll 7 rfl) rfl (by decide) (lo' := [(3, .int (0 : Int32)), (2, .int x3), (0, .ref a0), (1, .int xa1)]) rfl ?_
  refine r_pick [2, 3, 1, 0] (lo' := [(0, .ref a0), (1, .int xa1), (2, .int x3), (3, .int (0 : Int32))]) rfl ?_
  refine l_X8_stepsToAll_L12 hl hd (hk42 := ?_) fu _ _ h
  · intro x9 h
    refine r_iload_n (dc_X8_stepsToAll 24 rfl) rfl rfl ?_
    refine r_aload_n (dc_X8_stepsToAll 25 rfl) rfl rfl ?_
    obtain ⟨p10, e0, h⟩ := Option.bind_eq_some_iff.mp h
    refine r_getR (dc_X8_stepsToAll 26 rfl) fl_RX8_18 e0 ?_
    obtain ⟨p11, e0, h⟩ := Option.bind_eq_some_iff.mp h
    refine r_getR (dc_X8_stepsToAll 27 rfl) fl_RX8_177 e0 ?_
    refine r_iload_n (dc_X8_stepsToAll 28 rfl) rfl rfl ?_
    obtain ⟨x12, e0, h⟩ := Option.bind_eq_some_iff.mp h
    refine r_iald (dc_X8_stepsToAll 29 rfl) e0 ?_
    refine r_isub (dc_X8_stepsToAll 30 rfl) ?_
    cases h
    exact r_ireturn (dc_X8_stepsToAll 31 rfl) rfl
theorem l_X8_slowestEvent_L4 {G : Gx} {d : Nat} (hl : G.1.stackTraces = false) (hd : 2 ≤ d) {sL : Sto} {pL0 : Nat} {r : Int32} {k53 : Int32 → Option Int32}
    (hk53 : ∀ (xL1 : Int32), k53 xL1 = some r → J G d m_X8_slowestEvent 53 [(1, .int xL1)] [] sL (.inl (some (.int r))) sL)
  : ∀ (f : Nat) (xL1 : Int32) (xL2 : Int32), F_X8_slowestEvent_L4 sL pL0 f xL1 xL2 k53 = some r → J G d m_X8_slowestEvent 4 [(0, .ref pL0), (1, .int xL1), (2, .int xL2)] [] sL (.inl (some (.int r))) sL := by
  intro f
  induction f with
  | zero => intro xL1 xL2 h; rw [F_X8_slowestEvent_L4] at h; cases h
  | succ f ih =>
    intro xL1 xL2 h
    rw [F_X8_slowestEvent_L4] at h
    refine r_iload_n (dc_X8_slowestEvent 4 rfl) rfl rfl ?_
    refine r_aload_n (dc_X8_slowestEvent 5 rfl) rfl rfl ?_
    obtain ⟨p1, e0, h⟩ := Option.bind_eq_some_iff.mp h
    refine r_getR (dc_X8_slowestEvent 6 rfl) fl_RX8_18 e0 ?_
    obtain ⟨x2, e0, h⟩ := Option.bind_eq_some_iff.mp h
    refine r_getI (dc_X8_slowestEvent 7 rfl) fl_RX8_91 e0 ?_
    refine r_icmp_ge (dc_X8_slowestEvent 8 rfl) (tgt := 53) (by decide) (fun c0 => ?_) (fun c0 => ?_)
    · rw [if_pos c0] at h
      refine r_pick [1] (lo' := [(1, .int xL1)]) rfl ?_
      exact hk53 _ h
    · rw [if_neg c0] at h
      refine r_aload_n (dc_X8_slowestEvent 9 rfl) rfl rfl ?_
      refine r_iload_n (dc_X8_slowestEvent 10 rfl) rfl rfl ?_
      obtain ⟨x3, e0, h⟩ := Option.bind_eq_some_iff.mp h
      refine r_callV (dc_X8_slowestEvent 11 rfl) mv_X8_holders ml_RX8_170 (As := [.int xL2]) (t_X8_holders (d := d - 1) hl (by omega) e0) (by omega) rfl (Nat.le_of_ble_eq_true rfl) ?_
      refine r_aload_n (dc_X8_slowestEvent 12 rfl) rfl rfl ?_
      obtain ⟨x4, e0, h⟩ := Option.bind_eq_some_iff.mp h
      refine r_getI (dc_X8_slowestEvent 13 rfl) fl_RX8_9 e0 ?_
      refine r_icmp_ne (dc_X8_slowestEvent 14 rfl) (tgt := 47) (by decide) (fun c0 => ?_) (fun c0 => ?_)
      · rw [if_neg c0] at h
        refine r_iinc (dc_X8_slowestEvent 27 rfl) rfl (kinc_1 _) (by decide) (lo' := [(2, .int (xL2 + (1 : Int32))), (0, .ref pL0), (1, .int xL1)]) rfl ?_
        refine r_goto (dc_X8_slowestEvent 28 rfl) (tgt := 4) (by decide) ?_
        refine r_pick [1, 2, 0] (lo' := [(0, .ref pL0), (1, .int xL1), (2, .int (xL2 + (1 : Int32)))]) rfl ?_
        exact ih _ _ h
      · rw [if_pos c0] at h
        refine r_iload_n (dc_X8_slowestEvent 15 rfl) rfl rfl ?_
        refine r_iconst (dc_X8_slowestEvent 16 rfl) kiconst_m1 ?_
        refine r_icmp_eq (dc_X8_slowestEvent 17 rfl) (tgt := 45) (by decide) (fun c0 => ?_) (fun c0 => ?_)
        · rw [if_pos c0] at h
          refine r_iload_n (dc_X8_slowestEvent 25 rfl) rfl rfl ?_
          refine r_istore_n (dc_X8_slowestEvent 26 rfl) rfl (by decide) (lo' := [(1, .int xL2), (0, .ref pL0), (2, .int xL2)]) rfl ?_
          refine r_iinc (dc_X8_slowestEvent 27 rfl) rfl (kinc_1 _) (by decide) (lo' := [(2, .int (xL2 + (1 : Int32))), (1, .int xL2), (0, .ref pL0)]) rfl ?_
          refine r_goto (dc_X8_slowestEvent 28 rfl) (tgt := 4) (by decide) ?_
          refine r_pick [2, 1, 0] (lo' := [(0, .ref pL0), (1, .int xL2), (2, .int (xL2 + (1 : Int32)))]) rfl ?_
          exact ih _ _ h
        · rw [if_neg c0] at h
          refine r_aload_n (dc_X8_slowestEvent 18 rfl) rfl rfl ?_
          refine r_iload_n (dc_X8_slowestEvent 19 rfl) rfl rfl ?_
          obtain ⟨x5, e0, h⟩ := Option.bind_eq_some_iff.mp h
          refine r_callV (dc_X8_slowestEvent 20 rfl) mv_X8_stepsToAll ml_RX8_174 (As := [.int xL2]) (t_X8_stepsToAll (d := d - 1) hl (by omega) e0) (by omega) rfl (Nat.le_of_ble_eq_true rfl) ?_
          refine r_aload_n (dc_X8_slowestEvent 21 rfl) rfl rfl ?_
          refine r_iload_n (dc_X8_slowestEvent 22 rfl) rfl rfl ?_
          obtain ⟨x6, e0, h⟩ := Option.bind_eq_some_iff.mp h
          refine r_callV (dc_X8_slowestEvent 23 rfl) mv_X8_stepsToAll ml_RX8_174 (As := [.int xL1]) (t_X8_stepsToAll (d := d - 1) hl (by omega) e0) (by omega) rfl (Nat.le_of_ble_eq_true rfl) ?_
          refine r_icmp_le (dc_X8_slowestEvent 24 rfl) (tgt := 47) (by decide) (fun c0 => ?_) (fun c0 => ?_)
          · rw [if_pos c0] at h
            refine r_iinc (dc_X8_slowestEvent 27 rfl) rfl (kinc_1 _) (by decide) (lo' := [(2, .int (xL2 + (1 : Int32))), (0, .ref pL0), (1, .int xL1)]) rfl ?_
            refine r_goto (dc_X8_slowestEvent 28 rfl) (tgt := 4) (by decide) ?_
            refine r_pick [1, 2, 0] (lo' := [(0, .ref pL0), (1, .int xL1), (2, .int (xL2 + (1 : Int32)))]) rfl ?_
            exact ih _ _ h
          · rw [if_neg c0] at h
            refine r_iload_n (dc_X8_slowestEvent 25 rfl) rfl rfl ?_
            refine r_istore_n (dc_X8_slowestEvent 26 rfl) rfl (by decide) (lo' := [(1, .int xL2), (0, .ref pL0), (2, .int xL2)]) rfl ?_
            refine r_iinc (dc_X8_slowestEvent 27 rfl) rfl (kinc_1 _) (by decide) (lo' := [(2, .int (xL2 + (1 : Int32))), (1, .int xL2), (0, .ref pL0)]) rfl ?_
            refine r_goto (dc_X8_slowestEvent 28 rfl) (tgt := 4) (by decide) ?_
            refine r_pick [2, 1, 0] (lo' := [(0, .ref pL0), (1, .int xL2), (2, .int (xL2 + (1 : Int32)))]) rfl ?_
            exact ih _ _ h
theorem t_X8_slowestEvent {G : Gx} {d : Nat} (hl : G.1.stackTraces = false) (hd : 2 ≤ d) {σ : Sto} {a0 : Nat} {r : Int32} (h : F_X8_slowestEvent σ a0 = some r) : Mi G d m_X8_slowestEvent 8 a0 [] σ (.inl (some (.int r))) σ := by
  rw [F_X8_slowestEvent] at h
  obtain ⟨hg, h⟩ := chk_some h
  refine ⟨J.toMt (lo := [(0, .ref a0)]) pn_RX8 rfl hl (Nat.le_of_ble_eq_true rfl) rfl ?_, hg⟩
  refine r_iconst (dc_X8_slowestEvent 0 rfl) kiconst_m1 ?_
  refine r_istore_n (dc_X8_slowestEvent 1 rfl) rfl (by decide) (lo' := [(1, .int (-1 : Int32)), (0, .ref a0)]) rfl ?_
  refine r_iconst (dc_X8_slowestEvent 2 rfl) kiconst_0 ?_
  refine r_istore_n (dc_X8_slowestEvent 3 rfl) rfl (by decide) (lo' := [(2, .int (0 : Int32)), (1, .int (-1 : Int32)), (0, .ref a0)]) rfl ?_
  refine r_pick [2, 1, 0] (lo' := [(0, .ref a0), (1, .int (-1 : Int32)), (2, .int (0 : Int32))]) rfl ?_
  refine l_X8_slowestEvent_L4 hl hd (hk53 := ?_) fu _ _ h
  · intro x7 h
    refine r_iload_n (dc_X8_slowestEvent 29 rfl) rfl rfl ?_
    cases h
    exact r_ireturn (dc_X8_slowestEvent 30 rfl) rfl
theorem l_X8_lettersThatWait_L4 {G : Gx} {d : Nat} (hl : G.1.stackTraces = false) (hd : 0 ≤ d) {sL : Sto} {pL0 : Nat} {r : Int32} {k28 : Int32 → Option Int32}
    (hk28 : ∀ (xL1 : Int32), k28 xL1 = some r → J G d m_X8_lettersThatWait 28 [(1, .int xL1)] [] sL (.inl (some (.int r))) sL)
  : ∀ (f : Nat) (xL1 : Int32) (xL2 : Int32), F_X8_lettersThatWait_L4 sL pL0 f xL1 xL2 k28 = some r → J G d m_X8_lettersThatWait 4 [(0, .ref pL0), (1, .int xL1), (2, .int xL2)] [] sL (.inl (some (.int r))) sL := by
  intro f
  induction f with
  | zero => intro xL1 xL2 h; rw [F_X8_lettersThatWait_L4] at h; cases h
  | succ f ih =>
    intro xL1 xL2 h
    rw [F_X8_lettersThatWait_L4] at h
    refine r_iload_n (dc_X8_lettersThatWait 4 rfl) rfl rfl ?_
    refine r_bipush (dc_X8_lettersThatWait 5 rfl) kbipush_25 ?_
    refine r_icmp_ge (dc_X8_lettersThatWait 6 rfl) (tgt := 28) (by decide) (fun c0 => ?_) (fun c0 => ?_)
    · rw [if_pos c0] at h
      refine r_pick [1] (lo' := [(1, .int xL1)]) rfl ?_
      exact hk28 _ h
    · rw [if_neg c0] at h
      refine r_iload_n (dc_X8_lettersThatWait 7 rfl) rfl rfl ?_
      refine r_aload_n (dc_X8_lettersThatWait 8 rfl) rfl rfl ?_
      obtain ⟨p1, e0, h⟩ := Option.bind_eq_some_iff.mp h
      refine r_getR (dc_X8_lettersThatWait 9 rfl) fl_RX8_33 e0 ?_
      refine r_iload_n (dc_X8_lettersThatWait 10 rfl) rfl rfl ?_
      obtain ⟨p2, e0, h⟩ := Option.bind_eq_some_iff.mp h
      refine r_aaldR (dc_X8_lettersThatWait 11 rfl) (kd := 5) rfl e0 ?_
      obtain ⟨x3, e0, h⟩ := Option.bind_eq_some_iff.mp h
      refine r_getI (dc_X8_lettersThatWait 12 rfl) fl_RX8_59 e0 ?_
      refine r_iadd (dc_X8_lettersThatWait 13 rfl) ?_
      refine r_istore_n (dc_X8_lettersThatWait 14 rfl) rfl (by decide) (lo' := [(1, .int (xL1 + x3)), (0, .ref pL0), (2, .int xL2)]) rfl ?_
      refine r_iinc (dc_X8_lettersThatWait 15 rfl) rfl (kinc_1 _) (by decide) (lo' := [(2, .int (xL2 + (1 : Int32))), (1, .int (xL1 + x3)), (0, .ref pL0)]) rfl ?_
      refine r_goto (dc_X8_lettersThatWait 16 rfl) (tgt := 4) (by decide) ?_
      refine r_pick [2, 1, 0] (lo' := [(0, .ref pL0), (1, .int (xL1 + x3)), (2, .int (xL2 + (1 : Int32)))]) rfl ?_
      exact ih _ _ h
theorem t_X8_lettersThatWait {G : Gx} {d : Nat} (hl : G.1.stackTraces = false) (hd : 0 ≤ d) {σ : Sto} {a0 : Nat} {r : Int32} (h : F_X8_lettersThatWait σ a0 = some r) : Mi G d m_X8_lettersThatWait 8 a0 [] σ (.inl (some (.int r))) σ := by
  rw [F_X8_lettersThatWait] at h
  obtain ⟨hg, h⟩ := chk_some h
  refine ⟨J.toMt (lo := [(0, .ref a0)]) pn_RX8 rfl hl (Nat.le_of_ble_eq_true rfl) rfl ?_, hg⟩
  refine r_iconst (dc_X8_lettersThatWait 0 rfl) kiconst_0 ?_
  refine r_istore_n (dc_X8_lettersThatWait 1 rfl) rfl (by decide) (lo' := [(1, .int (0 : Int32)), (0, .ref a0)]) rfl ?_
  refine r_iconst (dc_X8_lettersThatWait 2 rfl) kiconst_0 ?_
  refine r_istore_n (dc_X8_lettersThatWait 3 rfl) rfl (by decide) (lo' := [(2, .int (0 : Int32)), (1, .int (0 : Int32)), (0, .ref a0)]) rfl ?_
  refine r_pick [2, 1, 0] (lo' := [(0, .ref a0), (1, .int (0 : Int32)), (2, .int (0 : Int32))]) rfl ?_
  refine l_X8_lettersThatWait_L4 hl hd (hk28 := ?_) fu _ _ h
  · intro x4 h
    refine r_iload_n (dc_X8_lettersThatWait 17 rfl) rfl rfl ?_
    cases h
    exact r_ireturn (dc_X8_lettersThatWait 18 rfl) rfl
theorem l_X8_viewsAreAlike_L2 {G : Gx} {d : Nat} (hl : G.1.stackTraces = false) (hd : 1 ≤ d) {sL : Sto} {pL0 : Nat} {r : Int32} {k42 : Option Int32}
    (hk42 : k42  = some r → J G d m_X8_viewsAreAlike 42 [] [] sL (.inl (some (.int r))) sL)
  : ∀ (f : Nat) (xL1 : Int32), F_X8_viewsAreAlike_L2 sL pL0 f xL1 k42 = some r → J G d m_X8_viewsAreAlike 2 [(0, .ref pL0), (1, .int xL1)] [] sL (.inl (some (.int r))) sL := by
  intro f
  induction f with
  | zero => intro xL1 h; rw [F_X8_viewsAreAlike_L2] at h; cases h
  | succ f ih =>
    intro xL1 h
    rw [F_X8_viewsAreAlike_L2] at h
    refine r_iload_n (dc_X8_viewsAreAlike 2 rfl) rfl rfl ?_
    refine r_aload_n (dc_X8_viewsAreAlike 3 rfl) rfl rfl ?_
    obtain ⟨x1, e0, h⟩ := Option.bind_eq_some_iff.mp h
    refine r_getI (dc_X8_viewsAreAlike 4 rfl) fl_RX8_9 e0 ?_
    refine r_icmp_ge (dc_X8_viewsAreAlike 5 rfl) (tgt := 42) (by decide) (fun c0 => ?_) (fun c0 => ?_)
    · rw [if_pos c0] at h
      refine r_pick [] (lo' := []) rfl ?_
      exact hk42  h
    · rw [if_neg c0] at h
      refine r_aload_n (dc_X8_viewsAreAlike 6 rfl) rfl rfl ?_
      obtain ⟨p2, e0, h⟩ := Option.bind_eq_some_iff.mp h
      refine r_getR (dc_X8_viewsAreAlike 7 rfl) fl_RX8_24 e0 ?_
      refine r_iload_n (dc_X8_viewsAreAlike 8 rfl) rfl rfl ?_
      obtain ⟨p3, e0, h⟩ := Option.bind_eq_some_iff.mp h
      refine r_aaldR (dc_X8_viewsAreAlike 9 rfl) (kd := 4) rfl e0 ?_
      obtain ⟨p4, e0, h⟩ := Option.bind_eq_some_iff.mp h
      refine r_getR (dc_X8_viewsAreAlike 10 rfl) fl_RX8_96 e0 ?_
      refine r_aload_n (dc_X8_viewsAreAlike 11 rfl) rfl rfl ?_
      obtain ⟨p5, e0, h⟩ := Option.bind_eq_some_iff.mp h
      refine r_getR (dc_X8_viewsAreAlike 12 rfl) fl_RX8_24 e0 ?_
      refine r_iconst (dc_X8_viewsAreAlike 13 rfl) kiconst_0 ?_
      obtain ⟨p6, e0, h⟩ := Option.bind_eq_some_iff.mp h
      refine r_aaldR (dc_X8_viewsAreAlike 14 rfl) (kd := 4) rfl e0 ?_
      obtain ⟨p7, e0, h⟩ := Option.bind_eq_some_iff.mp h
      refine r_getR (dc_X8_viewsAreAlike 15 rfl) fl_RX8_96 e0 ?_
      obtain ⟨x8, e0, h⟩ := Option.bind_eq_some_iff.mp h
      refine r_callV (dc_X8_viewsAreAlike 16 rfl) mv_X1_sameAs ml_RX8_188 (As := [.ref p7]) (t_X1_sameAs (d := d - 1) hl (by omega) e0) (by omega) rfl (Nat.le_of_ble_eq_true rfl) ?_
      refine r_if_ne (dc_X8_viewsAreAlike 17 rfl) (tgt := 36) (by decide) (fun c0 => ?_) (fun c0 => ?_)
      · rw [if_neg c0] at h
        refine r_iinc (dc_X8_viewsAreAlike 20 rfl) rfl (kinc_1 _) (by decide) (lo' := [(1, .int (xL1 + (1 : Int32))), (0, .ref pL0)]) rfl ?_
        refine r_goto (dc_X8_viewsAreAlike 21 rfl) (tgt := 2) (by decide) ?_
        refine r_pick [1, 0] (lo' := [(0, .ref pL0), (1, .int (xL1 + (1 : Int32)))]) rfl ?_
        exact ih _ h
      · rw [if_pos c0] at h
        refine r_iconst (dc_X8_viewsAreAlike 18 rfl) kiconst_0 ?_
        cases h
        exact r_zreturn (dc_X8_viewsAreAlike 19 rfl) rfl (Or.inl rfl)
theorem t_X8_viewsAreAlike {G : Gx} {d : Nat} (hl : G.1.stackTraces = false) (hd : 1 ≤ d) {σ : Sto} {a0 : Nat} {r : Int32} (h : F_X8_viewsAreAlike σ a0 = some r) : Mi G d m_X8_viewsAreAlike 8 a0 [] σ (.inl (some (.int r))) σ := by
  rw [F_X8_viewsAreAlike] at h
  obtain ⟨hg, h⟩ := chk_some h
  refine ⟨J.toMt (lo := [(0, .ref a0)]) pn_RX8 rfl hl (Nat.le_of_ble_eq_true rfl) rfl ?_, hg⟩
  refine r_iconst (dc_X8_viewsAreAlike 0 rfl) kiconst_1 ?_
  refine r_istore_n (dc_X8_viewsAreAlike 1 rfl) rfl (by decide) (lo' := [(1, .int (1 : Int32)), (0, .ref a0)]) rfl ?_
  refine r_pick [1, 0] (lo' := [(0, .ref a0), (1, .int (1 : Int32))]) rfl ?_
  refine l_X8_viewsAreAlike_L2 hl hd (hk42 := ?_) fu _ h
  · intro h
    refine r_iconst (dc_X8_viewsAreAlike 22 rfl) kiconst_1 ?_
    cases h
    exact r_zreturn (dc_X8_viewsAreAlike 23 rfl) rfl (Or.inr rfl)
theorem l_X8_cutLinks_L16 {G : Gx} {d : Nat} (hl : G.1.stackTraces = false) (hd : 2 ≤ d) {sL : Sto} {pL0 : Nat} {xL2 : Int32} {r : Int32} {k42 : Int32 → Option Int32}
    (hk42 : ∀ (xL1 : Int32), k42 xL1 = some r → J G d m_X8_cutLinks 42 [(0, .ref pL0), (1, .int xL1), (2, .int xL2)] [] sL (.inl (some (.int r))) sL)
  : ∀ (f : Nat) (xL1 : Int32) (xL3 : Int32), F_X8_cutLinks_L16 sL pL0 xL2 f xL1 xL3 k42 = some r → J G d m_X8_cutLinks 16 [(0, .ref pL0), (1, .int xL1), (2, .int xL2), (3, .int xL3)] [] sL (.inl (some (.int r))) sL := by
  intro f
  induction f with
  | zero => intro xL1 xL3 h; rw [F_X8_cutLinks_L16] at h; cases h
  | succ f ih =>
    intro xL1 xL3 h
    rw [F_X8_cutLinks_L16] at h
    refine r_iload_n (dc_X8_cutLinks 12 rfl) rfl rfl ?_
    refine r_aload_n (dc_X8_cutLinks 13 rfl) rfl rfl ?_
    obtain ⟨x2, e0, h⟩ := Option.bind_eq_some_iff.mp h
    refine r_getI (dc_X8_cutLinks 14 rfl) fl_RX8_9 e0 ?_
    refine r_icmp_ge (dc_X8_cutLinks 15 rfl) (tgt := 42) (by decide) (fun c0 => ?_) (fun c0 => ?_)
    · rw [if_pos c0] at h
      refine r_pick [0, 1, 2] (lo' := [(0, .ref pL0), (1, .int xL1), (2, .int xL2)]) rfl ?_
      exact hk42 _ h
    · rw [if_neg c0] at h
      refine r_aload_n (dc_X8_cutLinks 16 rfl) rfl rfl ?_
      refine r_iload_n (dc_X8_cutLinks 17 rfl) rfl rfl ?_
      refine r_iload_n (dc_X8_cutLinks 18 rfl) rfl rfl ?_
      obtain ⟨x3, e0, h⟩ := Option.bind_eq_some_iff.mp h
      refine r_callV (dc_X8_cutLinks 19 rfl) mv_X8_isCut ml_RX8_87 (As := [.int xL2, .int xL3]) (t_X8_isCut (d := d - 1) hl (by omega) e0) (by omega) rfl (Nat.le_of_ble_eq_true rfl) ?_
      refine r_if_eq (dc_X8_cutLinks 20 rfl) (tgt := 36) (by decide) (fun c0 => ?_) (fun c0 => ?_)
      · rw [if_pos c0] at h
        refine r_iinc (dc_X8_cutLinks 22 rfl) rfl (kinc_1 _) (by decide) (lo' := [(3, .int (xL3 + (1 : Int32))), (0, .ref pL0), (1, .int xL1), (2, .int xL2)]) rfl ?_
        refine r_goto (dc_X8_cutLinks 23 rfl) (tgt := 16) (by decide) ?_
        refine r_pick [1, 2, 3, 0] (lo' := [(0, .ref pL0), (1, .int xL1), (2, .int xL2), (3, .int (xL3 + (1 : Int32)))]) rfl ?_
        exact ih _ _ h
      · rw [if_neg c0] at h
        refine r_iinc (dc_X8_cutLinks 21 rfl) rfl (kinc_1 _) (by decide) (lo' := [(1, .int (xL1 + (1 : Int32))), (0, .ref pL0), (2, .int xL2), (3, .int xL3)]) rfl ?_
        refine r_iinc (dc_X8_cutLinks 22 rfl) rfl (kinc_1 _) (by decide) (lo' := [(3, .int (xL3 + (1 : Int32))), (1, .int (xL1 + (1 : Int32))), (0, .ref pL0), (2, .int xL2)]) rfl ?_
        refine r_goto (dc_X8_cutLinks 23 rfl) (tgt := 16) (by decide) ?_
        refine r_pick [2, 1, 3, 0] (lo' := [(0, .ref pL0), (1, .int (xL1 + (1 : Int32))), (2, .int xL2), (3, .int (xL3 + (1 : Int32)))]) rfl ?_
        exact ih _ _ h
theorem l_X8_cutLinks_L4 {G : Gx} {d : Nat} (hl : G.1.stackTraces = false) (hd : 2 ≤ d) {sL : Sto} {pL0 : Nat} {r : Int32} {k48 : Int32 → Option Int32}
    (hk48 : ∀ (xL1 : Int32), k48 xL1 = some r → J G d m_X8_cutLinks 48 [(1, .int xL1)] [] sL (.inl (some (.int r))) sL)
  : ∀ (f : Nat) (xL1 : Int32) (xL2 : Int32), F_X8_cutLinks_L4 sL pL0 f xL1 xL2 k48 = some r → J G d m_X8_cutLinks 4 [(0, .ref pL0), (1, .int xL1), (2, .int xL2)] [] sL (.inl (some (.int r))) sL := by
  intro f
  induction f with
  | zero => intro xL1 xL2 h; rw [F_X8_cutLinks_L4] at h; cases h
  | succ f ih =>
    intro xL1 xL2 h
    rw [F_X8_cutLinks_L4] at h
    refine r_iload_n (dc_X8_cutLinks 4 rfl) rfl rfl ?_
    refine r_aload_n (dc_X8_cutLinks 5 rfl) rfl rfl ?_
    obtain ⟨x1, e0, h⟩ := Option.bind_eq_some_iff.mp h
    refine r_getI (dc_X8_cutLinks 6 rfl) fl_RX8_9 e0 ?_
    refine r_icmp_ge (dc_X8_cutLinks 7 rfl) (tgt := 48) (by decide) (fun c0 => ?_) (fun c0 => ?_)
    · rw [if_pos c0] at h
      refine r_pick [1] (lo' := [(1, .int xL1)]) rfl ?_
      exact hk48 _ h
    · rw [if_neg c0] at h
      refine r_iload_n (dc_X8_cutLinks 8 rfl) rfl rfl ?_
      refine r_iconst (dc_X8_cutLinks 9 rfl) kiconst_1 ?_
      refine r_iadd (dc_X8_cutLinks 10 rfl) ?_
      refine r_istore_n (dc_X8_cutLinks 11 rfl) rfl (by decide) (lo' := [(3, .int (xL2 + (1 : Int32))), (0, .ref pL0), (1, .int xL1), (2, .int xL2)]) rfl ?_
      refine r_pick [1, 2, 3, 0] (lo' := [(0, .ref pL0), (1, .int xL1), (2, .int xL2), (3, .int (xL2 + (1 : Int32)))]) rfl ?_
      refine l_X8_cutLinks_L16 hl hd (hk42 := ?_) fu _ _ h
      · intro x4 h
        refine r_iinc (dc_X8_cutLinks 24 rfl) rfl (kinc_1 _) (by decide) (lo' := [(2, .int (xL2 + (1 : Int32))), (0, .ref pL0), (1, .int x4)]) rfl ?_
        refine r_goto (dc_X8_cutLinks 25 rfl) (tgt := 4) (by decide) ?_
        refine r_pick [1, 2, 0] (lo' := [(0, .ref pL0), (1, .int x4), (2, .int (xL2 + (1 : Int32)))]) rfl ?_
        exact ih _ _ h
theorem t_X8_cutLinks {G : Gx} {d : Nat} (hl : G.1.stackTraces = false) (hd : 2 ≤ d) {σ : Sto} {a0 : Nat} {r : Int32} (h : F_X8_cutLinks σ a0 = some r) : Mi G d m_X8_cutLinks 8 a0 [] σ (.inl (some (.int r))) σ := by
  rw [F_X8_cutLinks] at h
  obtain ⟨hg, h⟩ := chk_some h
  refine ⟨J.toMt (lo := [(0, .ref a0)]) pn_RX8 rfl hl (Nat.le_of_ble_eq_true rfl) rfl ?_, hg⟩
  refine r_iconst (dc_X8_cutLinks 0 rfl) kiconst_0 ?_
  refine r_istore_n (dc_X8_cutLinks 1 rfl) rfl (by decide) (lo' := [(1, .int (0 : Int32)), (0, .ref a0)]) rfl ?_
  refine r_iconst (dc_X8_cutLinks 2 rfl) kiconst_0 ?_
  refine r_istore_n (dc_X8_cutLinks 3 rfl) rfl (by decide) (lo' := [(2, .int (0 : Int32)), (1, .int (0 : Int32)), (0, .ref a0)]) rfl ?_
  refine r_pick [2, 1, 0] (lo' := [(0, .ref a0), (1, .int (0 : Int32)), (2, .int (0 : Int32))]) rfl ?_
  refine l_X8_cutLinks_L4 hl hd (hk48 := ?_) fu _ _ h
  · intro x5 h
    refine r_iload_n (dc_X8_cutLinks 26 rfl) rfl rfl ?_
    cases h
    exact r_ireturn (dc_X8_cutLinks 27 rfl) rfl
theorem l_X8_parts_L4 {G : Gx} {d : Nat} (hl : G.1.stackTraces = false) (hd : 4 ≤ d) {sL : Sto} {pL0 : Nat} {r : Int32} {k37 : Int32 → Option Int32}
    (hk37 : ∀ (xL1 : Int32), k37 xL1 = some r → J G d m_X8_parts 37 [(1, .int xL1)] [] sL (.inl (some (.int r))) sL)
  : ∀ (f : Nat) (xL1 : Int32) (xL2 : Int32), F_X8_parts_L4 sL pL0 f xL1 xL2 k37 = some r → J G d m_X8_parts 4 [(0, .ref pL0), (1, .int xL1), (2, .int xL2)] [] sL (.inl (some (.int r))) sL := by
  intro f
  induction f with
  | zero => intro xL1 xL2 h; rw [F_X8_parts_L4] at h; cases h
  | succ f ih =>
    intro xL1 xL2 h
    rw [F_X8_parts_L4] at h
    refine r_iload_n (dc_X8_parts 4 rfl) rfl rfl ?_
    refine r_aload_n (dc_X8_parts 5 rfl) rfl rfl ?_
    obtain ⟨x1, e0, h⟩ := Option.bind_eq_some_iff.mp h
    refine r_getI (dc_X8_parts 6 rfl) fl_RX8_9 e0 ?_
    refine r_icmp_ge (dc_X8_parts 7 rfl) (tgt := 37) (by decide) (fun c0 => ?_) (fun c0 => ?_)
    · rw [if_pos c0] at h
      refine r_pick [1] (lo' := [(1, .int xL1)]) rfl ?_
      exact hk37 _ h
    · rw [if_neg c0] at h
      refine r_iconst (dc_X8_parts 8 rfl) kiconst_1 ?_
      refine r_iload_n (dc_X8_parts 9 rfl) rfl rfl ?_
      refine r_ishl (dc_X8_parts 10 rfl) ?_
      refine r_iconst (dc_X8_parts 11 rfl) kiconst_1 ?_
      refine r_isub (dc_X8_parts 12 rfl) ?_
      refine r_istore_n (dc_X8_parts 13 rfl) rfl (by decide) (lo' := [(3, .int (((1 : Int32) <<< (xL2 &&& 31)) - (1 : Int32))), (0, .ref pL0), (1, .int xL1), (2, .int xL2)]) rfl ?_
      refine r_aload_n (dc_X8_parts 14 rfl) rfl rfl ?_
      refine r_iload_n (dc_X8_parts 15 rfl) rfl rfl ?_
      obtain ⟨x2, e0, h⟩ := Option.bind_eq_some_iff.mp h
      refine r_callV (dc_X8_parts 16 rfl) mv_X8_partOf ml_RX8_195 (As := [.int xL2]) (t_X8_partOf (d := d - 1) hl (by omega) e0) (by omega) rfl (Nat.le_of_ble_eq_true rfl) ?_
      refine r_iload_n (dc_X8_parts 17 rfl) rfl rfl ?_
      refine r_iand (dc_X8_parts 18 rfl) ?_
      refine r_if_ne (dc_X8_parts 19 rfl) (tgt := 31) (by decide) (fun c0 => ?_) (fun c0 => ?_)
      · rw [if_neg c0] at h
        refine r_iinc (dc_X8_parts 21 rfl) rfl (kinc_1 _) (by decide) (lo' := [(2, .int (xL2 + (1 : Int32))), (3, .int (((1 : Int32) <<< (xL2 &&& 31)) - (1 : Int32))), (0, .ref pL0), (1, .int xL1)]) rfl ?_
        refine r_goto (dc_X8_parts 22 rfl) (tgt := 4) (by decide) ?_
        refine r_pick [2, 3, 0] (lo' := [(0, .ref pL0), (1, .int xL1), (2, .int (xL2 + (1 : Int32)))]) rfl ?_
        exact ih _ _ h
      · rw [if_pos c0] at h
        refine r_iinc (dc_X8_parts 20 rfl) rfl (kinc_1 _) (by decide) (lo' := [(1, .int (xL1 + (1 : Int32))), (3, .int (((1 : Int32) <<< (xL2 &&& 31)) - (1 : Int32))), (0, .ref pL0), (2, .int xL2)]) rfl ?_
        refine r_iinc (dc_X8_parts 21 rfl) rfl (kinc_1 _) (by decide) (lo' := [(2, .int (xL2 + (1 : Int32))), (1, .int (xL1 + (1 : Int32))), (3, .int (((1 : Int32) <<< (xL2 &&& 31)) - (1 : Int32))), (0, .ref pL0)]) rfl ?_
        refine r_goto (dc_X8_parts 22 rfl) (tgt := 4) (by decide) ?_
        refine r_pick [3, 1, 0] (lo' := [(0, .ref pL0), (1, .int (xL1 + (1 : Int32))), (2, .int (xL2 + (1 : Int32)))]) rfl ?_
        exact ih _ _ h
theorem t_X8_parts {G : Gx} {d : Nat} (hl : G.1.stackTraces = false) (hd : 4 ≤ d) {σ : Sto} {a0 : Nat} {r : Int32} (h : F_X8_parts σ a0 = some r) : Mi G d m_X8_parts 8 a0 [] σ (.inl (some (.int r))) σ := by
  rw [F_X8_parts] at h
  obtain ⟨hg, h⟩ := chk_some h
  refine ⟨J.toMt (lo := [(0, .ref a0)]) pn_RX8 rfl hl (Nat.le_of_ble_eq_true rfl) rfl ?_, hg⟩
  refine r_iconst (dc_X8_parts 0 rfl) kiconst_0 ?_
  refine r_istore_n (dc_X8_parts 1 rfl) rfl (by decide) (lo' := [(1, .int (0 : Int32)), (0, .ref a0)]) rfl ?_
  refine r_iconst (dc_X8_parts 2 rfl) kiconst_0 ?_
  refine r_istore_n (dc_X8_parts 3 rfl) rfl (by decide) (lo' := [(2, .int (0 : Int32)), (1, .int (0 : Int32)), (0, .ref a0)]) rfl ?_
  refine r_pick [2, 1, 0] (lo' := [(0, .ref a0), (1, .int (0 : Int32)), (2, .int (0 : Int32))]) rfl ?_
  refine l_X8_parts_L4 hl hd (hk37 := ?_) fu _ _ h
  · intro x3 h
    refine r_iload_n (dc_X8_parts 23 rfl) rfl rfl ?_
    cases h
    exact r_ireturn (dc_X8_parts 24 rfl) rfl
theorem t_X9_init {G : Gx} {d : Nat} (hl : G.1.stackTraces = false) (hd : 4 ≤ d) {σ : Sto} {a0 : Nat} {r : Sto} (h : F_X9_init σ a0 = some r) : Mt G d m_X9_init [Value.ref a0] σ (.inl none) r := by
  rw [F_X9_init] at h
  refine J.toMt (lo := [(0, .ref a0)]) pn_RX9 rfl hl (Nat.le_of_ble_eq_true rfl) rfl ?_
  refine r_aload_n (dc_X9_init 0 rfl) rfl rfl ?_
  refine r_objInit (dc_X9_init 1 rfl) ml_RX9_3 w_obj1 w_obj2 (by omega) (Nat.le_of_ble_eq_true rfl) ?_
  refine r_aload_n (dc_X9_init 2 rfl) rfl rfl ?_
  obtain ⟨p2, s1, ev, es, h⟩ := nw_some h
  refine r_new (dc_X9_init 3 rfl) nl_RX9_9 ?_
  rw [← ev, ← es]
  refine r_dup (dc_X9_init 4 rfl) rfl ?_
  obtain ⟨s3, e0, h⟩ := Option.bind_eq_some_iff.mp h
  refine r_callI (dc_X9_init 5 rfl) mi_X8_init ml_RX9_11 (As := []) (t_X8_init (d := d - 1) hl (by omega) e0) (by omega) rfl (Nat.le_of_ble_eq_true rfl) ?_
  obtain ⟨s4, e0, h⟩ := Option.bind_eq_some_iff.mp h
  refine r_putX (dc_X9_init 6 rfl) pl_RX9_12 (Or.inr ⟨rfl, fun q hq => by cases hq; rfl⟩) rfl e0 ?_
  refine r_aload_n (dc_X9_init 7 rfl) rfl rfl ?_
  refine r_iconst (dc_X9_init 8 rfl) kiconst_2 ?_
  obtain ⟨p6, s5, ev, es, h⟩ := nw_some h
  refine r_newR (dc_X9_init 9 rfl) (kd := 7) rfl cl_RX9_9 (by decide) (by decide) (by decide +kernel) ?_
  rw [← ev, ← es]
  obtain ⟨s7, e0, h⟩ := Option.bind_eq_some_iff.mp h
  refine r_putX (dc_X9_init 10 rfl) pl_RX9_16 (Or.inr ⟨rfl, fun q hq => by cases hq; rfl⟩) rfl e0 ?_
  refine r_aload_n (dc_X9_init 11 rfl) rfl rfl ?_
  obtain ⟨p9, s8, ev, es, h⟩ := nw_some h
  refine r_new (dc_X9_init 12 rfl) nl_RX9_20 ?_
  rw [← ev, ← es]
  refine r_dup (dc_X9_init 13 rfl) rfl ?_
  obtain ⟨s10, e0, h⟩ := Option.bind_eq_some_iff.mp h
  refine r_callIN (dc_X9_init 14 rfl) mi_X7_init mn_RX9_22 (As := []) (t_X7_init (d := d - 1) hl (by omega) e0) (by omega) rfl (Nat.le_of_ble_eq_true rfl) ?_
  obtain ⟨s11, e0, h⟩ := Option.bind_eq_some_iff.mp h
  refine r_putX (dc_X9_init 15 rfl) pl_RX9_23 (Or.inr ⟨rfl, fun q hq => by cases hq; rfl⟩) rfl e0 ?_
  refine r_aload_n (dc_X9_init 16 rfl) rfl rfl ?_
  obtain ⟨p13, s12, ev, es, h⟩ := nw_some h
  refine r_new (dc_X9_init 17 rfl) nl_RX9_27 ?_
  rw [← ev, ← es]
  refine r_dup (dc_X9_init 18 rfl) rfl ?_
  refine r_aload_n (dc_X9_init 19 rfl) rfl rfl ?_
  obtain ⟨p14, e0, h⟩ := Option.bind_eq_some_iff.mp h
  refine r_getR (dc_X9_init 20 rfl) fl_RX9_12 e0 ?_
  obtain ⟨s15, e0, h⟩ := Option.bind_eq_some_iff.mp h
  refine r_callI (dc_X9_init 21 rfl) mi_X5_init ml_RX9_29 (As := [.ref p14]) (t_X5_init (d := d - 1) hl (by omega) e0) (by omega) rfl (Nat.le_of_ble_eq_true rfl) ?_
  obtain ⟨s16, e0, h⟩ := Option.bind_eq_some_iff.mp h
  refine r_putX (dc_X9_init 22 rfl) pl_RX9_32 (Or.inr ⟨rfl, fun q hq => by cases hq; rfl⟩) rfl e0 ?_
  refine r_aload_n (dc_X9_init 23 rfl) rfl rfl ?_
  obtain ⟨p18, s17, ev, es, h⟩ := nw_some h
  refine r_new (dc_X9_init 24 rfl) nl_RX9_36 ?_
  rw [← ev, ← es]
  refine r_dup (dc_X9_init 25 rfl) rfl ?_
  refine r_aload_n (dc_X9_init 26 rfl) rfl rfl ?_
  obtain ⟨p19, e0, h⟩ := Option.bind_eq_some_iff.mp h
  refine r_getR (dc_X9_init 27 rfl) fl_RX9_12 e0 ?_
  obtain ⟨s20, e0, h⟩ := Option.bind_eq_some_iff.mp h
  refine r_callI (dc_X9_init 28 rfl) mi_X0_init ml_RX9_38 (As := [.ref p19]) (t_X0_init (d := d - 1) hl (by omega) e0) (by omega) rfl (Nat.le_of_ble_eq_true rfl) ?_
  obtain ⟨s21, e0, h⟩ := Option.bind_eq_some_iff.mp h
  refine r_putX (dc_X9_init 29 rfl) pl_RX9_39 (Or.inr ⟨rfl, fun q hq => by cases hq; rfl⟩) rfl e0 ?_
  refine r_aload_n (dc_X9_init 30 rfl) rfl rfl ?_
  refine r_lconst (dc_X9_init 31 rfl) klconst_0 ?_
  obtain ⟨s22, e0, h⟩ := Option.bind_eq_some_iff.mp h
  refine r_put (dc_X9_init 32 rfl) pl_RX9_43 rfl e0 ?_
  cases h
  exact r_vreturn (dc_X9_init 33 rfl) rfl
theorem t_X9_sites {G : Gx} {d : Nat} (hl : G.1.stackTraces = false) (hd : 6 ≤ d) {σ : Sto} {a0 : Nat} {xa1 : Int32} {r : ((Int32 ⊕ String) × Sto)} (h : F_X9_sites σ a0 xa1 = some r) : Mi G d m_X9_sites 9 a0 [.int xa1] σ (toI r.1) r.2 := by
  rw [F_X9_sites] at h
  obtain ⟨hg, h⟩ := chk_some h
  refine ⟨J.toMt (lo := [(0, .ref a0), (1, .int xa1)]) pn_RX9 rfl hl (Nat.le_of_ble_eq_true rfl) rfl ?_, hg⟩
  refine r_iload_n (dc_X9_sites 0 rfl) rfl rfl ?_
  refine r_iconst (dc_X9_sites 1 rfl) kiconst_2 ?_
  refine r_icmp_lt (dc_X9_sites 2 rfl) (tgt := 10) (by decide) (fun c0 => ?_) (fun c0 => ?_)
  · rw [if_pos c0] at h
    cases h
    exact r_throwS tl_RX9_47_51 (str_in 0 rfl) (dc_X9_sites 6 rfl) (dc_X9_sites 7 rfl) (dc_X9_sites 8 rfl) (dc_X9_sites 9 rfl) (dc_X9_sites 10 rfl) rfl (by omega) (Nat.le_of_ble_eq_true rfl)
  · rw [if_neg c0] at h
    refine r_iload_n (dc_X9_sites 3 rfl) rfl rfl ?_
    refine r_iconst (dc_X9_sites 4 rfl) kiconst_5 ?_
    refine r_icmp_le (dc_X9_sites 5 rfl) (tgt := 20) (by decide) (fun c0 => ?_) (fun c0 => ?_)
    · rw [if_pos c0] at h
      refine r_aload_n (dc_X9_sites 11 rfl) rfl rfl ?_
      obtain ⟨p1, e0, h⟩ := Option.bind_eq_some_iff.mp h
      refine r_getR (dc_X9_sites 12 rfl) fl_RX9_12 e0 ?_
      refine r_iload_n (dc_X9_sites 13 rfl) rfl rfl ?_
      obtain ⟨s2, e0, h⟩ := Option.bind_eq_some_iff.mp h
      refine r_callV (dc_X9_sites 14 rfl) mv_X8_begin ml_RX9_54 (As := [.int xa1]) (t_X8_begin (d := d - 1) hl (by omega) e0) (by omega) rfl (Nat.le_of_ble_eq_true rfl) ?_
      refine r_aload_n (dc_X9_sites 15 rfl) rfl rfl ?_
      obtain ⟨p3, e0, h⟩ := Option.bind_eq_some_iff.mp h
      refine r_getR (dc_X9_sites 16 rfl) fl_RX9_23 e0 ?_
      obtain ⟨s4, e0, h⟩ := Option.bind_eq_some_iff.mp h
      refine r_callV (dc_X9_sites 17 rfl) mv_X7_forget ml_RX9_58 (As := []) (t_X7_forget (d := d - 1) hl (by omega) e0) (by omega) rfl (Nat.le_of_ble_eq_true rfl) ?_
      refine r_iload_n (dc_X9_sites 18 rfl) rfl rfl ?_
      cases h
      exact r_ireturn (dc_X9_sites 19 rfl) rfl
    · rw [if_neg c0] at h
      cases h
      exact r_throwS tl_RX9_47_51 (str_in 0 rfl) (dc_X9_sites 6 rfl) (dc_X9_sites 7 rfl) (dc_X9_sites 8 rfl) (dc_X9_sites 9 rfl) (dc_X9_sites 10 rfl) rfl (by omega) (Nat.le_of_ble_eq_true rfl)
theorem t_X9_mode {G : Gx} {d : Nat} (hl : G.1.stackTraces = false) (hd : 6 ≤ d) {σ : Sto} {a0 : Nat} {xa1 : Int32} {r : ((Int32 ⊕ String) × Sto)} (h : F_X9_mode σ a0 xa1 = some r) : Mi G d m_X9_mode 9 a0 [.int xa1] σ (toI r.1) r.2 := by
  rw [F_X9_mode] at h
  obtain ⟨hg, h⟩ := chk_some h
  refine ⟨J.toMt (lo := [(0, .ref a0), (1, .int xa1)]) pn_RX9 rfl hl (Nat.le_of_ble_eq_true rfl) rfl ?_, hg⟩
  refine r_iload_n (dc_X9_mode 0 rfl) rfl rfl ?_
  refine r_if_lt (dc_X9_mode 1 rfl) (tgt := 9) (by decide) (fun c0 => ?_) (fun c0 => ?_)
  · rw [if_pos c0] at h
    cases h
    exact r_throwS tl_RX9_47_51 (str_in 1 rfl) (dc_X9_mode 5 rfl) (dc_X9_mode 6 rfl) (dc_X9_mode 7 rfl) (dc_X9_mode 8 rfl) (dc_X9_mode 9 rfl) rfl (by omega) (Nat.le_of_ble_eq_true rfl)
  · rw [if_neg c0] at h
    refine r_iload_n (dc_X9_mode 2 rfl) rfl rfl ?_
    refine r_iconst (dc_X9_mode 3 rfl) kiconst_2 ?_
    refine r_icmp_le (dc_X9_mode 4 rfl) (tgt := 19) (by decide) (fun c0 => ?_) (fun c0 => ?_)
    · rw [if_pos c0] at h
      refine r_aload_n (dc_X9_mode 10 rfl) rfl rfl ?_
      obtain ⟨p1, e0, h⟩ := Option.bind_eq_some_iff.mp h
      refine r_getR (dc_X9_mode 11 rfl) fl_RX9_12 e0 ?_
      obtain ⟨x2, e0, h⟩ := Option.bind_eq_some_iff.mp h
      refine r_getI (dc_X9_mode 12 rfl) fl_RX9_63 e0 ?_
      refine r_istore_n (dc_X9_mode 13 rfl) rfl (by decide) (lo' := [(2, .int x2), (0, .ref a0), (1, .int xa1)]) rfl ?_
      refine r_aload_n (dc_X9_mode 14 rfl) rfl rfl ?_
      obtain ⟨p3, e0, h⟩ := Option.bind_eq_some_iff.mp h
      refine r_getR (dc_X9_mode 15 rfl) fl_RX9_12 e0 ?_
      refine r_iload_n (dc_X9_mode 16 rfl) rfl rfl ?_
      obtain ⟨s4, e0, h⟩ := Option.bind_eq_some_iff.mp h
      refine r_put (dc_X9_mode 17 rfl) pl_RX9_63 rfl e0 ?_
      refine r_iload_n (dc_X9_mode 18 rfl) rfl rfl ?_
      cases h
      exact r_ireturn (dc_X9_mode 19 rfl) rfl
    · rw [if_neg c0] at h
      cases h
      exact r_throwS tl_RX9_47_51 (str_in 1 rfl) (dc_X9_mode 5 rfl) (dc_X9_mode 6 rfl) (dc_X9_mode 7 rfl) (dc_X9_mode 8 rfl) (dc_X9_mode 9 rfl) rfl (by omega) (Nat.le_of_ble_eq_true rfl)
theorem t_X9_needSite {G : Gx} {d : Nat} (hl : G.1.stackTraces = false) (hd : 6 ≤ d) {σ : Sto} {a0 : Nat} {xa1 : Int32} {r : ((Unit ⊕ String) × Sto)} (h : F_X9_needSite σ a0 xa1 = some r) : Mi G d m_X9_needSite 9 a0 [.int xa1] σ (toU r.1) r.2 := by
  rw [F_X9_needSite] at h
  obtain ⟨hg, h⟩ := chk_some h
  refine ⟨J.toMt (lo := [(0, .ref a0), (1, .int xa1)]) pn_RX9 rfl hl (Nat.le_of_ble_eq_true rfl) rfl ?_, hg⟩
  refine r_iload_n (dc_X9_needSite 0 rfl) rfl rfl ?_
  refine r_if_lt (dc_X9_needSite 1 rfl) (tgt := 15) (by decide) (fun c0 => ?_) (fun c0 => ?_)
  · rw [if_pos c0] at h
    cases h
    exact r_throwSW tl_RX9_400_404 (str_in 2 rfl) (dc_X9_needSite 7 rfl) (dc_X9_needSite 8 rfl) (dc_X9_needSite 9 rfl) (dc_X9_needSite 10 rfl) (dc_X9_needSite 11 rfl) rfl (by omega) (Nat.le_of_ble_eq_true rfl)
  · rw [if_neg c0] at h
    refine r_iload_n (dc_X9_needSite 2 rfl) rfl rfl ?_
    refine r_aload_n (dc_X9_needSite 3 rfl) rfl rfl ?_
    obtain ⟨p1, e0, h⟩ := Option.bind_eq_some_iff.mp h
    refine r_getR (dc_X9_needSite 4 rfl) fl_RX9_12 e0 ?_
    obtain ⟨x2, e0, h⟩ := Option.bind_eq_some_iff.mp h
    refine r_getI (dc_X9_needSite 5 rfl) fl_RX9_330 e0 ?_
    refine r_icmp_lt (dc_X9_needSite 6 rfl) (tgt := 26) (by decide) (fun c0 => ?_) (fun c0 => ?_)
    · rw [if_pos c0] at h
      cases h
      exact r_vreturn (dc_X9_needSite 12 rfl) rfl
    · rw [if_neg c0] at h
      cases h
      exact r_throwSW tl_RX9_400_404 (str_in 2 rfl) (dc_X9_needSite 7 rfl) (dc_X9_needSite 8 rfl) (dc_X9_needSite 9 rfl) (dc_X9_needSite 10 rfl) (dc_X9_needSite 11 rfl) rfl (by omega) (Nat.le_of_ble_eq_true rfl)
theorem t_X9_needRoomForEvent {G : Gx} {d : Nat} (hl : G.1.stackTraces = false) (hd : 6 ≤ d) {σ : Sto} {a0 : Nat} {r : ((Unit ⊕ String) × Sto)} (h : F_X9_needRoomForEvent σ a0 = some r) : Mi G d m_X9_needRoomForEvent 9 a0 [] σ (toU r.1) r.2 := by
  rw [F_X9_needRoomForEvent] at h
  obtain ⟨hg, h⟩ := chk_some h
  refine ⟨J.toMt (lo := [(0, .ref a0)]) pn_RX9 rfl hl (Nat.le_of_ble_eq_true rfl) rfl ?_, hg⟩
  refine r_aload_n (dc_X9_needRoomForEvent 0 rfl) rfl rfl ?_
  obtain ⟨p1, e0, h⟩ := Option.bind_eq_some_iff.mp h
  refine r_getR (dc_X9_needRoomForEvent 1 rfl) fl_RX9_12 e0 ?_
  obtain ⟨p2, e0, h⟩ := Option.bind_eq_some_iff.mp h
  refine r_getR (dc_X9_needRoomForEvent 2 rfl) fl_RX9_84 e0 ?_
  obtain ⟨x3, e0, h⟩ := Option.bind_eq_some_iff.mp h
  refine r_callV (dc_X9_needRoomForEvent 3 rfl) mv_X2_isFull ml_RX9_409 (As := []) (t_X2_isFull (d := d - 1) hl (by omega) e0) (by omega) rfl (Nat.le_of_ble_eq_true rfl) ?_
  refine r_if_eq (dc_X9_needRoomForEvent 4 rfl) (tgt := 24) (by decide) (fun c0 => ?_) (fun c0 => ?_)
  · rw [if_pos c0] at h
    cases h
    exact r_vreturn (dc_X9_needRoomForEvent 10 rfl) rfl
  · rw [if_neg c0] at h
    cases h
    exact r_throwSW tl_RX9_125_129 (str_in 3 rfl) (dc_X9_needRoomForEvent 5 rfl) (dc_X9_needRoomForEvent 6 rfl) (dc_X9_needRoomForEvent 7 rfl) (dc_X9_needRoomForEvent 8 rfl) (dc_X9_needRoomForEvent 9 rfl) rfl (by omega) (Nat.le_of_ble_eq_true rfl)
theorem t_X9_needName {G : Gx} {d : Nat} (hl : G.1.stackTraces = false) (hd : 6 ≤ d) {σ : Sto} {a0 : Nat} {xa1 : Int32} {r : ((Unit ⊕ String) × Sto)} (h : F_X9_needName σ a0 xa1 = some r) : Mi G d m_X9_needName 9 a0 [.int xa1] σ (toU r.1) r.2 := by
  rw [F_X9_needName] at h
  obtain ⟨hg, h⟩ := chk_some h
  refine ⟨J.toMt (lo := [(0, .ref a0), (1, .int xa1)]) pn_RX9 rfl hl (Nat.le_of_ble_eq_true rfl) rfl ?_, hg⟩
  refine r_iload_n (dc_X9_needName 0 rfl) rfl rfl ?_
  refine r_if_lt (dc_X9_needName 1 rfl) (tgt := 10) (by decide) (fun c0 => ?_) (fun c0 => ?_)
  · rw [if_pos c0] at h
    cases h
    exact r_throwSW tl_RX9_47_51 (str_in 4 rfl) (dc_X9_needName 5 rfl) (dc_X9_needName 6 rfl) (dc_X9_needName 7 rfl) (dc_X9_needName 8 rfl) (dc_X9_needName 9 rfl) rfl (by omega) (Nat.le_of_ble_eq_true rfl)
  · rw [if_neg c0] at h
    refine r_iload_n (dc_X9_needName 2 rfl) rfl rfl ?_
    refine r_bipush (dc_X9_needName 3 rfl) kbipush_100 ?_
    refine r_icmp_lt (dc_X9_needName 4 rfl) (tgt := 21) (by decide) (fun c0 => ?_) (fun c0 => ?_)
    · rw [if_pos c0] at h
      cases h
      exact r_vreturn (dc_X9_needName 10 rfl) rfl
    · rw [if_neg c0] at h
      cases h
      exact r_throwSW tl_RX9_47_51 (str_in 4 rfl) (dc_X9_needName 5 rfl) (dc_X9_needName 6 rfl) (dc_X9_needName 7 rfl) (dc_X9_needName 8 rfl) (dc_X9_needName 9 rfl) rfl (by omega) (Nat.le_of_ble_eq_true rfl)
theorem t_X9_traced {G : Gx} {d : Nat} (hl : G.1.stackTraces = false) (hd : 1 ≤ d) {σ : Sto} {a0 : Nat} {xa1 : Int32} {xa2 : Int32} {xa3 : Int32} {r : (Int32 × Sto)} (h : F_X9_traced σ a0 xa1 xa2 xa3 = some r) : Mi G d m_X9_traced 9 a0 [.int xa1, .int xa2, .int xa3] σ (.inl (some (.int r.1))) r.2 := by
  rw [F_X9_traced] at h
  obtain ⟨hg, h⟩ := chk_some h
  refine ⟨J.toMt (lo := [(0, .ref a0), (1, .int xa1), (2, .int xa2), (3, .int xa3)]) pn_RX9 rfl hl (Nat.le_of_ble_eq_true rfl) rfl ?_, hg⟩
  refine r_aload_n (dc_X9_traced 0 rfl) rfl rfl ?_
  obtain ⟨p1, e0, h⟩ := Option.bind_eq_some_iff.mp h
  refine r_getR (dc_X9_traced 1 rfl) fl_RX9_23 e0 ?_
  refine r_aload_n (dc_X9_traced 2 rfl) rfl rfl ?_
  obtain ⟨p2, e0, h⟩ := Option.bind_eq_some_iff.mp h
  refine r_getR (dc_X9_traced 3 rfl) fl_RX9_12 e0 ?_
  obtain ⟨x3, e0, h⟩ := Option.bind_eq_some_iff.mp h
  refine r_getI (dc_X9_traced 4 rfl) fl_RX9_395 e0 ?_
  refine r_iload_n (dc_X9_traced 5 rfl) rfl rfl ?_
  refine r_iload_n (dc_X9_traced 6 rfl) rfl rfl ?_
  refine r_iload_n (dc_X9_traced 7 rfl) rfl rfl ?_
  obtain ⟨s4, e0, h⟩ := Option.bind_eq_some_iff.mp h
  refine r_callV (dc_X9_traced 8 rfl) mv_X7_record ml_RX9_420 (As := [.int x3, .int xa1, .int xa2, .int xa3]) (t_X7_record (d := d - 1) hl (by omega) e0) (by omega) rfl (Nat.le_of_ble_eq_true rfl) ?_
  refine r_iload_n (dc_X9_traced 9 rfl) rfl rfl ?_
  cases h
  exact r_ireturn (dc_X9_traced 10 rfl) rfl
theorem t_X9_add {G : Gx} {d : Nat} (hl : G.1.stackTraces = false) (hd : 7 ≤ d) {σ : Sto} {a0 : Nat} {xa1 : Int32} {xa2 : Int32} {r : ((Int32 ⊕ String) × Sto)} (h : F_X9_add σ a0 xa1 xa2 = some r) : Mi G d m_X9_add 9 a0 [.int xa1, .int xa2] σ (toI r.1) r.2 := by
  rw [F_X9_add] at h
  obtain ⟨hg, h⟩ := chk_some h
  refine ⟨J.toMt (lo := [(0, .ref a0), (1, .int xa1), (2, .int xa2)]) pn_RX9 rfl hl (Nat.le_of_ble_eq_true rfl) rfl ?_, hg⟩
  refine r_aload_n (dc_X9_add 0 rfl) rfl rfl ?_
  refine r_iload_n (dc_X9_add 1 rfl) rfl rfl ?_
  rcases tb_some h with ⟨u0, s1, e0, h⟩ | ⟨E0, s1, e0, h⟩
  rotate_left
  · subst h
    exact r_callVX (dc_X9_add 2 rfl) mv_X9_needSite ml_RX9_67 (As := [.int xa1]) (t_X9_needSite (d := d - 1) hl (by omega) e0) (by omega) rfl (Nat.le_of_ble_eq_true rfl) rfl
  refine r_callV (dc_X9_add 2 rfl) mv_X9_needSite ml_RX9_67 (As := [.int xa1]) (t_X9_needSite (d := d - 1) hl (by omega) e0) (by omega) rfl (Nat.le_of_ble_eq_true rfl) ?_
  refine r_aload_n (dc_X9_add 3 rfl) rfl rfl ?_
  rcases tb_some h with ⟨u0, s2, e0, h⟩ | ⟨E0, s2, e0, h⟩
  rotate_left
  · subst h
    exact r_callVX (dc_X9_add 4 rfl) mv_X9_needRoomForEvent ml_RX9_70 (As := []) (t_X9_needRoomForEvent (d := d - 1) hl (by omega) e0) (by omega) rfl (Nat.le_of_ble_eq_true rfl) rfl
  refine r_callV (dc_X9_add 4 rfl) mv_X9_needRoomForEvent ml_RX9_70 (As := []) (t_X9_needRoomForEvent (d := d - 1) hl (by omega) e0) (by omega) rfl (Nat.le_of_ble_eq_true rfl) ?_
  refine r_aload_n (dc_X9_add 5 rfl) rfl rfl ?_
  refine r_iload_n (dc_X9_add 6 rfl) rfl rfl ?_
  rcases tb_some h with ⟨u0, s3, e0, h⟩ | ⟨E0, s3, e0, h⟩
  rotate_left
  · subst h
    exact r_callVX (dc_X9_add 7 rfl) mv_X9_needName ml_RX9_73 (As := [.int xa2]) (t_X9_needName (d := d - 1) hl (by omega) e0) (by omega) rfl (Nat.le_of_ble_eq_true rfl) rfl
  refine r_callV (dc_X9_add 7 rfl) mv_X9_needName ml_RX9_73 (As := [.int xa2]) (t_X9_needName (d := d - 1) hl (by omega) e0) (by omega) rfl (Nat.le_of_ble_eq_true rfl) ?_
  refine r_aload_n (dc_X9_add 8 rfl) rfl rfl ?_
  refine r_iconst (dc_X9_add 9 rfl) kiconst_0 ?_
  refine r_iload_n (dc_X9_add 10 rfl) rfl rfl ?_
  refine r_aload_n (dc_X9_add 11 rfl) rfl rfl ?_
  obtain ⟨p4, e0, h⟩ := Option.bind_eq_some_iff.mp h
  refine r_getR (dc_X9_add 12 rfl) fl_RX9_12 e0 ?_
  refine r_iload_n (dc_X9_add 13 rfl) rfl rfl ?_
  refine r_iload_n (dc_X9_add 14 rfl) rfl rfl ?_
  obtain ⟨x6, s5, e0, h⟩ := wb_some h
  refine r_callV (dc_X9_add 15 rfl) mv_X8_bringIn ml_RX9_76 (As := [.int xa1, .int xa2]) (t_X8_bringIn (d := d - 1) hl (by omega) e0) (by omega) rfl (Nat.le_of_ble_eq_true rfl) ?_
  obtain ⟨x8, s7, e0, h⟩ := wb_some h
  refine r_callV (dc_X9_add 16 rfl) mv_X9_traced ml_RX9_80 (As := [.int (0 : Int32), .int xa1, .int x6]) (t_X9_traced (d := d - 1) hl (by omega) e0) (by omega) rfl (Nat.le_of_ble_eq_true rfl) ?_
  cases h
  exact r_ireturn (dc_X9_add 17 rfl) rfl
theorem t_X9_take {G : Gx} {d : Nat} (hl : G.1.stackTraces = false) (hd : 7 ≤ d) {σ : Sto} {a0 : Nat} {xa1 : Int32} {xa2 : Int32} {r : ((Int32 ⊕ String) × Sto)} (h : F_X9_take σ a0 xa1 xa2 = some r) : Mi G d m_X9_take 9 a0 [.int xa1, .int xa2] σ (toI r.1) r.2 := by
  rw [F_X9_take] at h
  obtain ⟨hg, h⟩ := chk_some h
  refine ⟨J.toMt (lo := [(0, .ref a0), (1, .int xa1), (2, .int xa2)]) pn_RX9 rfl hl (Nat.le_of_ble_eq_true rfl) rfl ?_, hg⟩
  refine r_aload_n (dc_X9_take 0 rfl) rfl rfl ?_
  refine r_iload_n (dc_X9_take 1 rfl) rfl rfl ?_
  rcases tb_some h with ⟨u0, s1, e0, h⟩ | ⟨E0, s1, e0, h⟩
  rotate_left
  · subst h
    exact r_callVX (dc_X9_take 2 rfl) mv_X9_needSite ml_RX9_67 (As := [.int xa1]) (t_X9_needSite (d := d - 1) hl (by omega) e0) (by omega) rfl (Nat.le_of_ble_eq_true rfl) rfl
  refine r_callV (dc_X9_take 2 rfl) mv_X9_needSite ml_RX9_67 (As := [.int xa1]) (t_X9_needSite (d := d - 1) hl (by omega) e0) (by omega) rfl (Nat.le_of_ble_eq_true rfl) ?_
  refine r_aload_n (dc_X9_take 3 rfl) rfl rfl ?_
  obtain ⟨p2, e0, h⟩ := Option.bind_eq_some_iff.mp h
  refine r_getR (dc_X9_take 4 rfl) fl_RX9_12 e0 ?_
  obtain ⟨p3, e0, h⟩ := Option.bind_eq_some_iff.mp h
  refine r_getR (dc_X9_take 5 rfl) fl_RX9_84 e0 ?_
  refine r_iload_n (dc_X9_take 6 rfl) rfl rfl ?_
  obtain ⟨x4, e0, h⟩ := Option.bind_eq_some_iff.mp h
  refine r_callV (dc_X9_take 7 rfl) mv_X2_contains ml_RX9_88 (As := [.int xa2]) (t_X2_contains (d := d - 1) hl (by omega) e0) (by omega) rfl (Nat.le_of_ble_eq_true rfl) ?_
  refine r_if_eq (dc_X9_take 8 rfl) (tgt := 38) (by decide) (fun c0 => ?_) (fun c0 => ?_)
  · rw [if_pos c0] at h
    cases h
    exact r_throwN tl_RX9_109_113 (str_in 5 rfl) (dc_X9_take 18 rfl) (dc_X9_take 19 rfl) (dc_X9_take 20 rfl) (dc_X9_take 21 rfl) (dc_X9_take 22 rfl) rfl (by omega) (Nat.le_of_ble_eq_true rfl)
  · rw [if_neg c0] at h
    refine r_aload_n (dc_X9_take 9 rfl) rfl rfl ?_
    obtain ⟨p5, e0, h⟩ := Option.bind_eq_some_iff.mp h
    refine r_getR (dc_X9_take 10 rfl) fl_RX9_12 e0 ?_
    obtain ⟨p6, e0, h⟩ := Option.bind_eq_some_iff.mp h
    refine r_getR (dc_X9_take 11 rfl) fl_RX9_94 e0 ?_
    refine r_iload_n (dc_X9_take 12 rfl) rfl rfl ?_
    obtain ⟨p7, e0, h⟩ := Option.bind_eq_some_iff.mp h
    refine r_aaldR (dc_X9_take 13 rfl) (kd := 4) rfl e0 ?_
    obtain ⟨p8, e0, h⟩ := Option.bind_eq_some_iff.mp h
    refine r_getR (dc_X9_take 14 rfl) fl_RX9_98 e0 ?_
    refine r_iload_n (dc_X9_take 15 rfl) rfl rfl ?_
    obtain ⟨x9, e0, h⟩ := Option.bind_eq_some_iff.mp h
    refine r_callV (dc_X9_take 16 rfl) mv_X1_holds ml_RX9_104 (As := [.int xa2]) (t_X1_holds (d := d - 1) hl (by omega) e0) (by omega) rfl (Nat.le_of_ble_eq_true rfl) ?_
    refine r_if_ne (dc_X9_take 17 rfl) (tgt := 48) (by decide) (fun c0 => ?_) (fun c0 => ?_)
    · rw [if_neg c0] at h
      refine r_aload_n (dc_X9_take 23 rfl) rfl rfl ?_
      rcases tb_some h with ⟨u0, s10, e0, h⟩ | ⟨E0, s10, e0, h⟩
      rotate_left
      · subst h
        exact r_callVX (dc_X9_take 24 rfl) mv_X9_needRoomForEvent ml_RX9_70 (As := []) (t_X9_needRoomForEvent (d := d - 1) hl (by omega) e0) (by omega) rfl (Nat.le_of_ble_eq_true rfl) rfl
      refine r_callV (dc_X9_take 24 rfl) mv_X9_needRoomForEvent ml_RX9_70 (As := []) (t_X9_needRoomForEvent (d := d - 1) hl (by omega) e0) (by omega) rfl (Nat.le_of_ble_eq_true rfl) ?_
      refine r_aload_n (dc_X9_take 25 rfl) rfl rfl ?_
      refine r_iconst (dc_X9_take 26 rfl) kiconst_1 ?_
      refine r_iload_n (dc_X9_take 27 rfl) rfl rfl ?_
      refine r_aload_n (dc_X9_take 28 rfl) rfl rfl ?_
      obtain ⟨p11, e0, h⟩ := Option.bind_eq_some_iff.mp h
      refine r_getR (dc_X9_take 29 rfl) fl_RX9_12 e0 ?_
      refine r_iload_n (dc_X9_take 30 rfl) rfl rfl ?_
      refine r_iload_n (dc_X9_take 31 rfl) rfl rfl ?_
      obtain ⟨x13, s12, e0, h⟩ := wb_some h
      refine r_callV (dc_X9_take 32 rfl) mv_X8_takeOut ml_RX9_114 (As := [.int xa1, .int xa2]) (t_X8_takeOut (d := d - 1) hl (by omega) e0) (by omega) rfl (Nat.le_of_ble_eq_true rfl) ?_
      obtain ⟨x15, s14, e0, h⟩ := wb_some h
      refine r_callV (dc_X9_take 33 rfl) mv_X9_traced ml_RX9_80 (As := [.int (1 : Int32), .int xa1, .int x13]) (t_X9_traced (d := d - 1) hl (by omega) e0) (by omega) rfl (Nat.le_of_ble_eq_true rfl) ?_
      cases h
      exact r_ireturn (dc_X9_take 34 rfl) rfl
    · rw [if_pos c0] at h
      cases h
      exact r_throwN tl_RX9_109_113 (str_in 5 rfl) (dc_X9_take 18 rfl) (dc_X9_take 19 rfl) (dc_X9_take 20 rfl) (dc_X9_take 21 rfl) (dc_X9_take 22 rfl) rfl (by omega) (Nat.le_of_ble_eq_true rfl)
theorem t_X9_needTwoSites {G : Gx} {d : Nat} (hl : G.1.stackTraces = false) (hd : 6 ≤ d) {σ : Sto} {a0 : Nat} {xa1 : Int32} {xa2 : Int32} {r : ((Unit ⊕ String) × Sto)} (h : F_X9_needTwoSites σ a0 xa1 xa2 = some r) : Mi G d m_X9_needTwoSites 9 a0 [.int xa1, .int xa2] σ (toU r.1) r.2 := by
  rw [F_X9_needTwoSites] at h
  obtain ⟨hg, h⟩ := chk_some h
  refine ⟨J.toMt (lo := [(0, .ref a0), (1, .int xa1), (2, .int xa2)]) pn_RX9 rfl hl (Nat.le_of_ble_eq_true rfl) rfl ?_, hg⟩
  refine r_iload_n (dc_X9_needTwoSites 0 rfl) rfl rfl ?_
  refine r_if_lt (dc_X9_needTwoSites 1 rfl) (tgt := 35) (by decide) (fun c0 => ?_) (fun c0 => ?_)
  · rw [if_pos c0] at h
    cases h
    exact r_throwSW tl_RX9_400_404 (str_in 6 rfl) (dc_X9_needTwoSites 17 rfl) (dc_X9_needTwoSites 18 rfl) (dc_X9_needTwoSites 19 rfl) (dc_X9_needTwoSites 20 rfl) (dc_X9_needTwoSites 21 rfl) rfl (by omega) (Nat.le_of_ble_eq_true rfl)
  · rw [if_neg c0] at h
    refine r_iload_n (dc_X9_needTwoSites 2 rfl) rfl rfl ?_
    refine r_aload_n (dc_X9_needTwoSites 3 rfl) rfl rfl ?_
    obtain ⟨p1, e0, h⟩ := Option.bind_eq_some_iff.mp h
    refine r_getR (dc_X9_needTwoSites 4 rfl) fl_RX9_12 e0 ?_
    obtain ⟨x2, e0, h⟩ := Option.bind_eq_some_iff.mp h
    refine r_getI (dc_X9_needTwoSites 5 rfl) fl_RX9_330 e0 ?_
    refine r_icmp_ge (dc_X9_needTwoSites 6 rfl) (tgt := 35) (by decide) (fun c0 => ?_) (fun c0 => ?_)
    · rw [if_pos c0] at h
      cases h
      exact r_throwSW tl_RX9_400_404 (str_in 6 rfl) (dc_X9_needTwoSites 17 rfl) (dc_X9_needTwoSites 18 rfl) (dc_X9_needTwoSites 19 rfl) (dc_X9_needTwoSites 20 rfl) (dc_X9_needTwoSites 21 rfl) rfl (by omega) (Nat.le_of_ble_eq_true rfl)
    · rw [if_neg c0] at h
      refine r_iload_n (dc_X9_needTwoSites 7 rfl) rfl rfl ?_
      refine r_if_lt (dc_X9_needTwoSites 8 rfl) (tgt := 35) (by decide) (fun c0 => ?_) (fun c0 => ?_)
      · rw [if_pos c0] at h
        cases h
        exact r_throwSW tl_RX9_400_404 (str_in 6 rfl) (dc_X9_needTwoSites 17 rfl) (dc_X9_needTwoSites 18 rfl) (dc_X9_needTwoSites 19 rfl) (dc_X9_needTwoSites 20 rfl) (dc_X9_needTwoSites 21 rfl) rfl (by omega) (Nat.le_of_ble_eq_true rfl)
      · rw [if_neg c0] at h
        refine r_iload_n (dc_X9_needTwoSites 9 rfl) rfl rfl ?_
        refine r_aload_n (dc_X9_needTwoSites 10 rfl) rfl rfl ?_
        obtain ⟨p3, e0, h⟩ := Option.bind_eq_some_iff.mp h
        refine r_getR (dc_X9_needTwoSites 11 rfl) fl_RX9_12 e0 ?_
        obtain ⟨x4, e0, h⟩ := Option.bind_eq_some_iff.mp h
        refine r_getI (dc_X9_needTwoSites 12 rfl) fl_RX9_330 e0 ?_
        refine r_icmp_ge (dc_X9_needTwoSites 13 rfl) (tgt := 35) (by decide) (fun c0 => ?_) (fun c0 => ?_)
        · rw [if_pos c0] at h
          cases h
          exact r_throwSW tl_RX9_400_404 (str_in 6 rfl) (dc_X9_needTwoSites 17 rfl) (dc_X9_needTwoSites 18 rfl) (dc_X9_needTwoSites 19 rfl) (dc_X9_needTwoSites 20 rfl) (dc_X9_needTwoSites 21 rfl) rfl (by omega) (Nat.le_of_ble_eq_true rfl)
        · rw [if_neg c0] at h
          refine r_iload_n (dc_X9_needTwoSites 14 rfl) rfl rfl ?_
          refine r_iload_n (dc_X9_needTwoSites 15 rfl) rfl rfl ?_
          refine r_icmp_ne (dc_X9_needTwoSites 16 rfl) (tgt := 46) (by decide) (fun c0 => ?_) (fun c0 => ?_)
          · rw [if_neg c0] at h
            cases h
            exact r_vreturn (dc_X9_needTwoSites 22 rfl) rfl
          · rw [if_pos c0] at h
            cases h
            exact r_throwSW tl_RX9_400_404 (str_in 6 rfl) (dc_X9_needTwoSites 17 rfl) (dc_X9_needTwoSites 18 rfl) (dc_X9_needTwoSites 19 rfl) (dc_X9_needTwoSites 20 rfl) (dc_X9_needTwoSites 21 rfl) rfl (by omega) (Nat.le_of_ble_eq_true rfl)
theorem t_X9_write {G : Gx} {d : Nat} (hl : G.1.stackTraces = false) (hd : 7 ≤ d) {σ : Sto} {a0 : Nat} {xa1 : Int32} {xa2 : Int32} {r : ((Int32 ⊕ String) × Sto)} (h : F_X9_write σ a0 xa1 xa2 = some r) : Mi G d m_X9_write 9 a0 [.int xa1, .int xa2] σ (toI r.1) r.2 := by
  rw [F_X9_write] at h
  obtain ⟨hg, h⟩ := chk_some h
  refine ⟨J.toMt (lo := [(0, .ref a0), (1, .int xa1), (2, .int xa2)]) pn_RX9 rfl hl (Nat.le_of_ble_eq_true rfl) rfl ?_, hg⟩
  refine r_aload_n (dc_X9_write 0 rfl) rfl rfl ?_
  refine r_iload_n (dc_X9_write 1 rfl) rfl rfl ?_
  refine r_iload_n (dc_X9_write 2 rfl) rfl rfl ?_
  rcases tb_some h with ⟨u0, s1, e0, h⟩ | ⟨E0, s1, e0, h⟩
  rotate_left
  · subst h
    exact r_callVX (dc_X9_write 3 rfl) mv_X9_needTwoSites ml_RX9_117 (As := [.int xa1, .int xa2]) (t_X9_needTwoSites (d := d - 1) hl (by omega) e0) (by omega) rfl (Nat.le_of_ble_eq_true rfl) rfl
  refine r_callV (dc_X9_write 3 rfl) mv_X9_needTwoSites ml_RX9_117 (As := [.int xa1, .int xa2]) (t_X9_needTwoSites (d := d - 1) hl (by omega) e0) (by omega) rfl (Nat.le_of_ble_eq_true rfl) ?_
  refine r_aload_n (dc_X9_write 4 rfl) rfl rfl ?_
  obtain ⟨p2, e0, h⟩ := Option.bind_eq_some_iff.mp h
  refine r_getR (dc_X9_write 5 rfl) fl_RX9_12 e0 ?_
  refine r_iload_n (dc_X9_write 6 rfl) rfl rfl ?_
  refine r_iload_n (dc_X9_write 7 rfl) rfl rfl ?_
  obtain ⟨x3, e0, h⟩ := Option.bind_eq_some_iff.mp h
  refine r_callV (dc_X9_write 8 rfl) mv_X8_canPost ml_RX9_121 (As := [.int xa1, .int xa2]) (t_X8_canPost (d := d - 1) hl (by omega) e0) (by omega) rfl (Nat.le_of_ble_eq_true rfl) ?_
  refine r_if_ne (dc_X9_write 9 rfl) (tgt := 28) (by decide) (fun c0 => ?_) (fun c0 => ?_)
  · rw [if_neg c0] at h
    refine r_aload_n (dc_X9_write 15 rfl) rfl rfl ?_
    refine r_iconst (dc_X9_write 16 rfl) kiconst_2 ?_
    refine r_iload_n (dc_X9_write 17 rfl) rfl rfl ?_
    refine r_aload_n (dc_X9_write 18 rfl) rfl rfl ?_
    obtain ⟨p4, e0, h⟩ := Option.bind_eq_some_iff.mp h
    refine r_getR (dc_X9_write 19 rfl) fl_RX9_12 e0 ?_
    refine r_iload_n (dc_X9_write 20 rfl) rfl rfl ?_
    refine r_iload_n (dc_X9_write 21 rfl) rfl rfl ?_
    obtain ⟨x6, s5, e0, h⟩ := wb_some h
    refine r_callV (dc_X9_write 22 rfl) mv_X8_post ml_RX9_130 (As := [.int xa1, .int xa2]) (t_X8_post (d := d - 1) hl (by omega) e0) (by omega) rfl (Nat.le_of_ble_eq_true rfl) ?_
    obtain ⟨x8, s7, e0, h⟩ := wb_some h
    refine r_callV (dc_X9_write 23 rfl) mv_X9_traced ml_RX9_80 (As := [.int (2 : Int32), .int xa1, .int x6]) (t_X9_traced (d := d - 1) hl (by omega) e0) (by omega) rfl (Nat.le_of_ble_eq_true rfl) ?_
    cases h
    exact r_ireturn (dc_X9_write 24 rfl) rfl
  · rw [if_pos c0] at h
    cases h
    exact r_throwS tl_RX9_125_129 (str_in 7 rfl) (dc_X9_write 10 rfl) (dc_X9_write 11 rfl) (dc_X9_write 12 rfl) (dc_X9_write 13 rfl) (dc_X9_write 14 rfl) rfl (by omega) (Nat.le_of_ble_eq_true rfl)
theorem t_X9_needLetter {G : Gx} {d : Nat} (hl : G.1.stackTraces = false) (hd : 6 ≤ d) {σ : Sto} {a0 : Nat} {xa1 : Int32} {xa2 : Int32} {xa3 : Int32} {r : ((Unit ⊕ String) × Sto)} (h : F_X9_needLetter σ a0 xa1 xa2 xa3 = some r) : Mi G d m_X9_needLetter 9 a0 [.int xa1, .int xa2, .int xa3] σ (toU r.1) r.2 := by
  rw [F_X9_needLetter] at h
  obtain ⟨hg, h⟩ := chk_some h
  refine ⟨J.toMt (lo := [(0, .ref a0), (1, .int xa1), (2, .int xa2), (3, .int xa3)]) pn_RX9 rfl hl (Nat.le_of_ble_eq_true rfl) rfl ?_, hg⟩
  refine r_iload_n (dc_X9_needLetter 0 rfl) rfl rfl ?_
  refine r_if_lt (dc_X9_needLetter 1 rfl) (tgt := 20) (by decide) (fun c0 => ?_) (fun c0 => ?_)
  · rw [if_pos c0] at h
    cases h
    exact r_throwNW tl_RX9_109_113 (str_in 8 rfl) (dc_X9_needLetter 10 rfl) (dc_X9_needLetter 11 rfl) (dc_X9_needLetter 12 rfl) (dc_X9_needLetter 13 rfl) (dc_X9_needLetter 14 rfl) rfl (by omega) (Nat.le_of_ble_eq_true rfl)
  · rw [if_neg c0] at h
    refine r_iload_n (dc_X9_needLetter 2 rfl) rfl rfl ?_
    refine r_aload_n (dc_X9_needLetter 3 rfl) rfl rfl ?_
    obtain ⟨p1, e0, h⟩ := Option.bind_eq_some_iff.mp h
    refine r_getR (dc_X9_needLetter 4 rfl) fl_RX9_12 e0 ?_
    refine r_iload_n (dc_X9_needLetter 5 rfl) rfl rfl ?_
    refine r_iload_n (dc_X9_needLetter 6 rfl) rfl rfl ?_
    obtain ⟨p2, e0, h⟩ := Option.bind_eq_some_iff.mp h
    refine r_callV (dc_X9_needLetter 7 rfl) mv_X8_row ml_RX9_148 (As := [.int xa1, .int xa2]) (t_X8_row (d := d - 1) hl (by omega) e0) (by omega) rfl (Nat.le_of_ble_eq_true rfl) ?_
    obtain ⟨x3, e0, h⟩ := Option.bind_eq_some_iff.mp h
    refine r_getI (dc_X9_needLetter 8 rfl) fl_RX9_163 e0 ?_
    refine r_icmp_lt (dc_X9_needLetter 9 rfl) (tgt := 31) (by decide) (fun c0 => ?_) (fun c0 => ?_)
    · rw [if_pos c0] at h
      cases h
      exact r_vreturn (dc_X9_needLetter 15 rfl) rfl
    · rw [if_neg c0] at h
      cases h
      exact r_throwNW tl_RX9_109_113 (str_in 8 rfl) (dc_X9_needLetter 10 rfl) (dc_X9_needLetter 11 rfl) (dc_X9_needLetter 12 rfl) (dc_X9_needLetter 13 rfl) (dc_X9_needLetter 14 rfl) rfl (by omega) (Nat.le_of_ble_eq_true rfl)
theorem t_X9_come {G : Gx} {d : Nat} (hl : G.1.stackTraces = false) (hd : 7 ≤ d) {σ : Sto} {a0 : Nat} {xa1 : Int32} {xa2 : Int32} {xa3 : Int32} {r : ((Int32 ⊕ String) × Sto)} (h : F_X9_come σ a0 xa1 xa2 xa3 = some r) : Mi G d m_X9_come 9 a0 [.int xa1, .int xa2, .int xa3] σ (toI r.1) r.2 := by
  rw [F_X9_come] at h
  obtain ⟨hg, h⟩ := chk_some h
  refine ⟨J.toMt (lo := [(0, .ref a0), (1, .int xa1), (2, .int xa2), (3, .int xa3)]) pn_RX9 rfl hl (Nat.le_of_ble_eq_true rfl) rfl ?_, hg⟩
  refine r_aload_n (dc_X9_come 0 rfl) rfl rfl ?_
  refine r_iload_n (dc_X9_come 1 rfl) rfl rfl ?_
  refine r_iload_n (dc_X9_come 2 rfl) rfl rfl ?_
  rcases tb_some h with ⟨u0, s1, e0, h⟩ | ⟨E0, s1, e0, h⟩
  rotate_left
  · subst h
    exact r_callVX (dc_X9_come 3 rfl) mv_X9_needTwoSites ml_RX9_117 (As := [.int xa1, .int xa2]) (t_X9_needTwoSites (d := d - 1) hl (by omega) e0) (by omega) rfl (Nat.le_of_ble_eq_true rfl) rfl
  refine r_callV (dc_X9_come 3 rfl) mv_X9_needTwoSites ml_RX9_117 (As := [.int xa1, .int xa2]) (t_X9_needTwoSites (d := d - 1) hl (by omega) e0) (by omega) rfl (Nat.le_of_ble_eq_true rfl) ?_
  refine r_aload_n (dc_X9_come 4 rfl) rfl rfl ?_
  refine r_iload_n (dc_X9_come 5 rfl) rfl rfl ?_
  refine r_iload_n (dc_X9_come 6 rfl) rfl rfl ?_
  refine r_iload_n (dc_X9_come 7 rfl) rfl rfl ?_
  rcases tb_some h with ⟨u0, s2, e0, h⟩ | ⟨E0, s2, e0, h⟩
  rotate_left
  · subst h
    exact r_callVX (dc_X9_come 8 rfl) mv_X9_needLetter ml_RX9_133 (As := [.int xa1, .int xa2, .int xa3]) (t_X9_needLetter (d := d - 1) hl (by omega) e0) (by omega) rfl (Nat.le_of_ble_eq_true rfl) rfl
  refine r_callV (dc_X9_come 8 rfl) mv_X9_needLetter ml_RX9_133 (As := [.int xa1, .int xa2, .int xa3]) (t_X9_needLetter (d := d - 1) hl (by omega) e0) (by omega) rfl (Nat.le_of_ble_eq_true rfl) ?_
  refine r_aload_n (dc_X9_come 9 rfl) rfl rfl ?_
  obtain ⟨p3, e0, h⟩ := Option.bind_eq_some_iff.mp h
  refine r_getR (dc_X9_come 10 rfl) fl_RX9_12 e0 ?_
  refine r_iload_n (dc_X9_come 11 rfl) rfl rfl ?_
  refine r_iload_n (dc_X9_come 12 rfl) rfl rfl ?_
  obtain ⟨x4, e0, h⟩ := Option.bind_eq_some_iff.mp h
  refine r_callV (dc_X9_come 13 rfl) mv_X8_isCut ml_RX9_137 (As := [.int xa1, .int xa2]) (t_X8_isCut (d := d - 1) hl (by omega) e0) (by omega) rfl (Nat.le_of_ble_eq_true rfl) ?_
  refine r_if_eq (dc_X9_come 14 rfl) (tgt := 35) (by decide) (fun c0 => ?_) (fun c0 => ?_)
  · rw [if_pos c0] at h
    refine r_aload_n (dc_X9_come 20 rfl) rfl rfl ?_
    refine r_iconst (dc_X9_come 21 rfl) kiconst_3 ?_
    refine r_iload_n (dc_X9_come 22 rfl) rfl rfl ?_
    refine r_aload_n (dc_X9_come 23 rfl) rfl rfl ?_
    obtain ⟨p5, e0, h⟩ := Option.bind_eq_some_iff.mp h
    refine r_getR (dc_X9_come 24 rfl) fl_RX9_12 e0 ?_
    refine r_iload_n (dc_X9_come 25 rfl) rfl rfl ?_
    refine r_iload_n (dc_X9_come 26 rfl) rfl rfl ?_
    refine r_iload_n (dc_X9_come 27 rfl) rfl rfl ?_
    obtain ⟨x7, s6, e0, h⟩ := wb_some h
    refine r_callV (dc_X9_come 28 rfl) mv_X8_deliver ml_RX9_142 (As := [.int xa1, .int xa2, .int xa3]) (t_X8_deliver (d := d - 1) hl (by omega) e0) (by omega) rfl (Nat.le_of_ble_eq_true rfl) ?_
    obtain ⟨x9, s8, e0, h⟩ := wb_some h
    refine r_callV (dc_X9_come 29 rfl) mv_X9_traced ml_RX9_80 (As := [.int (3 : Int32), .int xa1, .int x7]) (t_X9_traced (d := d - 1) hl (by omega) e0) (by omega) rfl (Nat.le_of_ble_eq_true rfl) ?_
    cases h
    exact r_ireturn (dc_X9_come 30 rfl) rfl
  · rw [if_neg c0] at h
    cases h
    exact r_throwS tl_RX9_125_129 (str_in 9 rfl) (dc_X9_come 15 rfl) (dc_X9_come 16 rfl) (dc_X9_come 17 rfl) (dc_X9_come 18 rfl) (dc_X9_come 19 rfl) rfl (by omega) (Nat.le_of_ble_eq_true rfl)
