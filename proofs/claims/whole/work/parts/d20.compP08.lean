theorem l_X8_parts_L4 {G : Gx} {d : Nat} (hl : G.1.stackTraces = false) (hd : 4 ≤ d) {sL : Sto} {pL0 : Nat} {r : Int32} {k37 : Int32 → Option Int32}
    (hk37 : ∀ (xL1 : Int32), k37 xL1 = some r → J G d m_X8_parts 37 [(1, .int xL1)] [] sL (.inl (some (.int r))) sL)
  : ∀ (f : Nat) (xL1 : Int32) (xL2 : Int32), F_X8_parts_L4 sL pL0 f xL1 xL2 k37 = some r → J G d m_X8_parts 4 [(0, .ref pL0), (1, .int xL1), (2, .int xL2)] [] sL (.inl (some (.int r))) sL := by
  intro f
  induction f with
  | zero => intro xL1 xL2 h; rw [F_X8_parts_L4] at h; cases h
  | succ f ih =>
    intro xL1 xL2 h
    rw [F_X8_parts_L4] at h
    refine r_iload_n (dc_X8_parts 4 rfl) rfl rfl ?_
    refine r_aload_n (dc_X8_parts 5 rfl) rfl rfl ?_
    obtain ⟨x1, e0, h⟩ := Option.bind_eq_some_iff.mp h
    refine r_getI (dc_X8_parts 6 rfl) fl_RX8_9 e0 ?_
    refine r_icmp_ge (dc_X8_parts 7 rfl) (tgt := 37) (by decide) (fun c0 => ?_) (fun c0 => ?_)
    · rw [if_pos c0] at h
      refine r_pick [1] (lo' := [(1, .int xL1)]) rfl ?_
      exact hk37 _ h
    · rw [if_neg c0] at h
      refine r_iconst (dc_X8_parts 8 rfl) kiconst_1 ?_
      refine r_iload_n (dc_X8_parts 9 rfl) rfl rfl ?_
      refine r_ishl (dc_X8_parts 10 rfl) ?_
      refine r_iconst (dc_X8_parts 11 rfl) kiconst_1 ?_
      refine r_isub (dc_X8_parts 12 rfl) ?_
      refine r_istore_n (dc_X8_parts 13 rfl) rfl (by decide) (lo' := [(3, .int (((1 : Int32) <<< (xL2 &&& 31)) - (1 : Int32))), (0, .ref pL0), (1, .int xL1), (2, .int xL2)]) rfl ?_
      refine r_aload_n (dc_X8_parts 14 rfl) rfl rfl ?_
      refine r_iload_n (dc_X8_parts 15 rfl) rfl rfl ?_
      obtain ⟨x2, e0, h⟩ := Option.bind_eq_some_iff.mp h
      refine r_callV (dc_X8_parts 16 rfl) mv_X8_partOf ml_RX8_195 (As := [.int xL2]) (t_X8_partOf (d := d - 1) hl (by omega) e0) (by omega) rfl (Nat.le_of_ble_eq_true rfl) ?_
      refine r_iload_n (dc_X8_parts 17 rfl) rfl rfl ?_
      refine r_iand (dc_X8_parts 18 rfl) ?_
      refine r_if_ne (dc_X8_parts 19 rfl) (tgt := 31) (by decide) (fun c0 => ?_) (fun c0 => ?_)
      · rw [if_neg c0] at h
        refine r_iinc (dc_X8_parts 21 rfl) rfl (kinc_1 _) (by decide) (lo' := [(2, .int (xL2 + (1 : Int32))), (3, .int (((1 : Int32) <<< (xL2 &&& 31)) - (1 : Int32))), (0, .ref pL0), (1, .int xL1)]) rfl ?_
        refine r_goto (dc_X8_parts 22 rfl) (tgt := 4) (by decide) ?_
        refine r_pick [2, 3, 0] (lo' := [(0, .ref pL0), (1, .int xL1), (2, .int (xL2 + (1 : Int32)))]) rfl ?_
        exact ih _ _ h
      · rw [if_pos c0] at h
        refine r_iinc (dc_X8_parts 20 rfl) rfl (kinc_1 _) (by decide) (lo' := [(1, .int (xL1 + (1 : Int32))), (3, .int (((1 : Int32) <<< (xL2 &&& 31)) - (1 : Int32))), (0, .ref pL0), (2, .int xL2)]) rfl ?_
        refine r_iinc (dc_X8_parts 21 rfl) rfl (kinc_1 _) (by decide) (lo' := [(2, .int (xL2 + (1 : Int32))), (1, .int (xL1 + (1 : Int32))), (3, .int (((1 : Int32) <<< (xL2 &&& 31)) - (1 : Int32))), (0, .ref pL0)]) rfl ?_
        refine r_goto (dc_X8_parts 22 rfl) (tgt := 4) (by decide) ?_
        refine r_pick [3, 1, 0] (lo' := [(0, .ref pL0), (1, .int (xL1 + (1 : Int32))), (2, .int (xL2 + (1 : Int32)))]) rfl ?_
        exact ih _ _ h
theorem t_X8_parts {G : Gx} {d : Nat} (hl : G.1.stackTraces = false) (hd : 4 ≤ d) {σ : Sto} {a0 : Nat} {r : Int32} (h : F_X8_parts σ a0 = some r) : Mi G d m_X8_parts 8 a0 [] σ (.inl (some (.int r))) σ := by
  rw [F_X8_parts] at h
  obtain ⟨hg, h⟩ := chk_some h
  refine ⟨J.toMt (lo := [(0, .ref a0)]) pn_RX8 rfl hl (Nat.le_of_ble_eq_true rfl) rfl ?_, hg⟩
  refine r_iconst (dc_X8_parts 0 rfl) kiconst_0 ?_
  refine r_istore_n (dc_X8_parts 1 rfl) rfl (by decide) (lo' := [(1, .int (0 : Int32)), (0, .ref a0)]) rfl ?_
  refine r_iconst (dc_X8_parts 2 rfl) kiconst_0 ?_
  refine r_istore_n (dc_X8_parts 3 rfl) rfl (by decide) (lo' := [(2, .int (0 : Int32)), (1, .int (0 : Int32)), (0, .ref a0)]) rfl ?_
  refine r_pick [2, 1, 0] (lo' := [(0, .ref a0), (1, .int (0 : Int32)), (2, .int (0 : Int32))]) rfl ?_
  refine l_X8_parts_L4 hl hd (hk37 := ?_) fu _ _ h
  · intro x3 h
    refine r_iload_n (dc_X8_parts 23 rfl) rfl rfl ?_
    cases h
    exact r_ireturn (dc_X8_parts 24 rfl) rfl
theorem t_X9_init {G : Gx} {d : Nat} (hl : G.1.stackTraces = false) (hd : 4 ≤ d) {σ : Sto} {a0 : Nat} {r : Sto} (h : F_X9_init σ a0 = some r) : Mt G d m_X9_init [Value.ref a0] σ (.inl none) r := by
  rw [F_X9_init] at h
  refine J.toMt (lo := [(0, .ref a0)]) pn_RX9 rfl hl (Nat.le_of_ble_eq_true rfl) rfl ?_
  refine r_aload_n (dc_X9_init 0 rfl) rfl rfl ?_
  refine r_objInit (dc_X9_init 1 rfl) ml_RX9_3 w_obj1 w_obj2 (by omega) (Nat.le_of_ble_eq_true rfl) ?_
  refine r_aload_n (dc_X9_init 2 rfl) rfl rfl ?_
  obtain ⟨p2, s1, ev, es, h⟩ := nw_some h
  refine r_new (dc_X9_init 3 rfl) nl_RX9_9 ?_
  rw [← ev, ← es]
  refine r_dup (dc_X9_init 4 rfl) rfl ?_
  obtain ⟨s3, e0, h⟩ := Option.bind_eq_some_iff.mp h
  refine r_callI (dc_X9_init 5 rfl) mi_X8_init ml_RX9_11 (As := []) (t_X8_init (d := d - 1) hl (by omega) e0) (by omega) rfl (Nat.le_of_ble_eq_true rfl) ?_
  obtain ⟨s4, e0, h⟩ := Option.bind_eq_some_iff.mp h
  refine r_putX (dc_X9_init 6 rfl) pl_RX9_12 (Or.inr ⟨rfl, fun q hq => by cases hq; rfl⟩) rfl e0 ?_
  refine r_aload_n (dc_X9_init 7 rfl) rfl rfl ?_
  refine r_iconst (dc_X9_init 8 rfl) kiconst_2 ?_
  obtain ⟨p6, s5, ev, es, h⟩ := nw_some h
  refine r_newR (dc_X9_init 9 rfl) (kd := 7) rfl cl_RX9_9 (by decide) (by decide) (by decide +kernel) ?_
  rw [← ev, ← es]
  obtain ⟨s7, e0, h⟩ := Option.bind_eq_some_iff.mp h
  refine r_putX (dc_X9_init 10 rfl) pl_RX9_16 (Or.inr ⟨rfl, fun q hq => by cases hq; rfl⟩) rfl e0 ?_
  refine r_aload_n (dc_X9_init 11 rfl) rfl rfl ?_
  obtain ⟨p9, s8, ev, es, h⟩ := nw_some h
  refine r_new (dc_X9_init 12 rfl) nl_RX9_20 ?_
  rw [← ev, ← es]
  refine r_dup (dc_X9_init 13 rfl) rfl ?_
  obtain ⟨s10, e0, h⟩ := Option.bind_eq_some_iff.mp h
  refine r_callIN (dc_X9_init 14 rfl) mi_X7_init mn_RX9_22 (As := []) (t_X7_init (d := d - 1) hl (by omega) e0) (by omega) rfl (Nat.le_of_ble_eq_true rfl) ?_
  obtain ⟨s11, e0, h⟩ := Option.bind_eq_some_iff.mp h
  refine r_putX (dc_X9_init 15 rfl) pl_RX9_23 (Or.inr ⟨rfl, fun q hq => by cases hq; rfl⟩) rfl e0 ?_
  refine r_aload_n (dc_X9_init 16 rfl) rfl rfl ?_
  obtain ⟨p13, s12, ev, es, h⟩ := nw_some h
  refine r_new (dc_X9_init 17 rfl) nl_RX9_27 ?_
  rw [← ev, ← es]
  refine r_dup (dc_X9_init 18 rfl) rfl ?_
  refine r_aload_n (dc_X9_init 19 rfl) rfl rfl ?_
  obtain ⟨p14, e0, h⟩ := Option.bind_eq_some_iff.mp h
  refine r_getR (dc_X9_init 20 rfl) fl_RX9_12 e0 ?_
  obtain ⟨s15, e0, h⟩ := Option.bind_eq_some_iff.mp h
  refine r_callI (dc_X9_init 21 rfl) mi_X5_init ml_RX9_29 (As := [.ref p14]) (t_X5_init (d := d - 1) hl (by omega) e0) (by omega) rfl (Nat.le_of_ble_eq_true rfl) ?_
  obtain ⟨s16, e0, h⟩ := Option.bind_eq_some_iff.mp h
  refine r_putX (dc_X9_init 22 rfl) pl_RX9_32 (Or.inr ⟨rfl, fun q hq => by cases hq; rfl⟩) rfl e0 ?_
  refine r_aload_n (dc_X9_init 23 rfl) rfl rfl ?_
  obtain ⟨p18, s17, ev, es, h⟩ := nw_some h
  refine r_new (dc_X9_init 24 rfl) nl_RX9_36 ?_
  rw [← ev, ← es]
  refine r_dup (dc_X9_init 25 rfl) rfl ?_
  refine r_aload_n (dc_X9_init 26 rfl) rfl rfl ?_
  obtain ⟨p19, e0, h⟩ := Option.bind_eq_some_iff.mp h
  refine r_getR (dc_X9_init 27 rfl) fl_RX9_12 e0 ?_
  obtain ⟨s20, e0, h⟩ := Option.bind_eq_some_iff.mp h
  refine r_callI (dc_X9_init 28 rfl) mi_X0_init ml_RX9_38 (As := [.ref p19]) (t_X0_init (d := d - 1) hl (by omega) e0) (by omega) rfl (Nat.le_of_ble_eq_true rfl) ?_
  obtain ⟨s21, e0, h⟩ := Option.bind_eq_some_iff.mp h
  refine r_putX (dc_X9_init 29 rfl) pl_RX9_39 (Or.inr ⟨rfl, fun q hq => by cases hq; rfl⟩) rfl e0 ?_
  refine r_aload_n (dc_X9_init 30 rfl) rfl rfl ?_
  refine r_lconst (dc_X9_init 31 rfl) klconst_0 ?_
  obtain ⟨s22, e0, h⟩ := Option.bind_eq_some_iff.mp h
  refine r_put (dc_X9_init 32 rfl) pl_RX9_43 rfl e0 ?_
  cases h
  exact r_vreturn (dc_X9_init 33 rfl) rfl
theorem t_X9_sites {G : Gx} {d : Nat} (hl : G.1.stackTraces = false) (hd : 6 ≤ d) {σ : Sto} {a0 : Nat} {xa1 : Int32} {r : ((Int32 ⊕ String) × Sto)} (h : F_X9_sites σ a0 xa1 = some r) : Mi G d m_X9_sites 9 a0 [.int xa1] σ (toI r.1) r.2 := by
  rw [F_X9_sites] at h
  obtain ⟨hg, h⟩ := chk_some h
  refine ⟨J.toMt (lo := [(0, .ref a0), (1, .int xa1)]) pn_RX9 rfl hl (Nat.le_of_ble_eq_true rfl) rfl ?_, hg⟩
  refine r_iload_n (dc_X9_sites 0 rfl) rfl rfl ?_
  refine r_iconst (dc_X9_sites 1 rfl) kiconst_2 ?_
  refine r_icmp_lt (dc_X9_sites 2 rfl) (tgt := 10) (by decide) (fun c0 => ?_) (fun c0 => ?_)
  · rw [if_pos c0] at h
    cases h
    exact r_throwS tl_RX9_47_51 (str_in 0 rfl) (dc_X9_sites 6 rfl) (dc_X9_sites 7 rfl) (dc_X9_sites 8 rfl) (dc_X9_sites 9 rfl) (dc_X9_sites 10 rfl) rfl (by omega) (Nat.le_of_ble_eq_true rfl)
  · rw [if_neg c0] at h
    refine r_iload_n (dc_X9_sites 3 rfl) rfl rfl ?_
    refine r_iconst (dc_X9_sites 4 rfl) kiconst_5 ?_
    refine r_icmp_le (dc_X9_sites 5 rfl) (tgt := 20) (by decide) (fun c0 => ?_) (fun c0 => ?_)
    · rw [if_pos c0] at h
      refine r_aload_n (dc_X9_sites 11 rfl) rfl rfl ?_
      obtain ⟨p1, e0, h⟩ := Option.bind_eq_some_iff.mp h
      refine r_getR (dc_X9_sites 12 rfl) fl_RX9_12 e0 ?_
      refine r_iload_n (dc_X9_sites 13 rfl) rfl rfl ?_
      obtain ⟨s2, e0, h⟩ := Option.bind_eq_some_iff.mp h
      refine r_callV (dc_X9_sites 14 rfl) mv_X8_begin ml_RX9_54 (As := [.int xa1]) (t_X8_begin (d := d - 1) hl (by omega) e0) (by omega) rfl (Nat.le_of_ble_eq_true rfl) ?_
      refine r_aload_n (dc_X9_sites 15 rfl) rfl rfl ?_
      obtain ⟨p3, e0, h⟩ := Option.bind_eq_some_iff.mp h
      refine r_getR (dc_X9_sites 16 rfl) fl_RX9_23 e0 ?_
      obtain ⟨s4, e0, h⟩ := Option.bind_eq_some_iff.mp h
      refine r_callV (dc_X9_sites 17 rfl) mv_X7_forget ml_RX9_58 (As := []) (t_X7_forget (d := d - 1) hl (by omega) e0) (by omega) rfl (Nat.le_of_ble_eq_true rfl) ?_
      refine r_iload_n (dc_X9_sites 18 rfl) rfl rfl ?_
      cases h
      exact r_ireturn (dc_X9_sites 19 rfl) rfl
    · rw [if_neg c0] at h
      cases h
      exact r_throwS tl_RX9_47_51 (str_in 0 rfl) (dc_X9_sites 6 rfl) (dc_X9_sites 7 rfl) (dc_X9_sites 8 rfl) (dc_X9_sites 9 rfl) (dc_X9_sites 10 rfl) rfl (by omega) (Nat.le_of_ble_eq_true rfl)
theorem t_X9_mode {G : Gx} {d : Nat} (hl : G.1.stackTraces = false) (hd : 6 ≤ d) {σ : Sto} {a0 : Nat} {xa1 : Int32} {r : ((Int32 ⊕ String) × Sto)} (h : F_X9_mode σ a0 xa1 = some r) : Mi G d m_X9_mode 9 a0 [.int xa1] σ (toI r.1) r.2 := by
  rw [F_X9_mode] at h
  obtain ⟨hg, h⟩ := chk_some h
  refine ⟨J.toMt (lo := [(0, .ref a0), (1, .int xa1)]) pn_RX9 rfl hl (Nat.le_of_ble_eq_true rfl) rfl ?_, hg⟩
  refine r_iload_n (dc_X9_mode 0 rfl) rfl rfl ?_
  refine r_if_lt (dc_X9_mode 1 rfl) (tgt := 9) (by decide) (fun c0 => ?_) (fun c0 => ?_)
  · rw [if_pos c0] at h
    cases h
    exact r_throwS tl_RX9_47_51 (str_in 1 rfl) (dc_X9_mode 5 rfl) (dc_X9_mode 6 rfl) (dc_X9_mode 7 rfl) (dc_X9_mode 8 rfl) (dc_X9_mode 9 rfl) rfl (by omega) (Nat.le_of_ble_eq_true rfl)
  · rw [if_neg c0] at h
    refine r_iload_n (dc_X9_mode 2 rfl) rfl rfl ?_
    refine r_iconst (dc_X9_mode 3 rfl) kiconst_2 ?_
    refine r_icmp_le (dc_X9_mode 4 rfl) (tgt := 19) (by decide) (fun c0 => ?_) (fun c0 => ?_)
    · rw [if_pos c0] at h
      refine r_aload_n (dc_X9_mode 10 rfl) rfl rfl ?_
      obtain ⟨p1, e0, h⟩ := Option.bind_eq_some_iff.mp h
      refine r_getR (dc_X9_mode 11 rfl) fl_RX9_12 e0 ?_
      obtain ⟨x2, e0, h⟩ := Option.bind_eq_some_iff.mp h
      refine r_getI (dc_X9_mode 12 rfl) fl_RX9_63 e0 ?_
      refine r_istore_n (dc_X9_mode 13 rfl) rfl (by decide) (lo' := [(2, .int x2), (0, .ref a0), (1, .int xa1)]) rfl ?_
      refine r_aload_n (dc_X9_mode 14 rfl) rfl rfl ?_
      obtain ⟨p3, e0, h⟩ := Option.bind_eq_some_iff.mp h
      refine r_getR (dc_X9_mode 15 rfl) fl_RX9_12 e0 ?_
      refine r_iload_n (dc_X9_mode 16 rfl) rfl rfl ?_
      obtain ⟨s4, e0, h⟩ := Option.bind_eq_some_iff.mp h
      refine r_put (dc_X9_mode 17 rfl) pl_RX9_63 rfl e0 ?_
      refine r_iload_n (dc_X9_mode 18 rfl) rfl rfl ?_
      cases h
      exact r_ireturn (dc_X9_mode 19 rfl) rfl
    · rw [if_neg c0] at h
      cases h
      exact r_throwS tl_RX9_47_51 (str_in 1 rfl) (dc_X9_mode 5 rfl) (dc_X9_mode 6 rfl) (dc_X9_mode 7 rfl) (dc_X9_mode 8 rfl) (dc_X9_mode 9 rfl) rfl (by omega) (Nat.le_of_ble_eq_true rfl)
theorem t_X9_needSite {G : Gx} {d : Nat} (hl : G.1.stackTraces = false) (hd : 6 ≤ d) {σ : Sto} {a0 : Nat} {xa1 : Int32} {r : ((Unit ⊕ String) × Sto)} (h : F_X9_needSite σ a0 xa1 = some r) : Mi G d m_X9_needSite 9 a0 [.int xa1] σ (toU r.1) r.2 := by
  rw [F_X9_needSite] at h
  obtain ⟨hg, h⟩ := chk_some h
  refine ⟨J.toMt (lo := [(0, .ref a0), (1, .int xa1)]) pn_RX9 rfl hl (Nat.le_of_ble_eq_true rfl) rfl ?_, hg⟩
  refine r_iload_n (dc_X9_needSite 0 rfl) rfl rfl ?_
  refine r_if_lt (dc_X9_needSite 1 rfl) (tgt := 15) (by decide) (fun c0 => ?_) (fun c0 => ?_)
  · rw [if_pos c0] at h
    cases h
    exact r_throwSW tl_RX9_400_404 (str_in 2 rfl) (dc_X9_needSite 7 rfl) (dc_X9_needSite 8 rfl) (dc_X9_needSite 9 rfl) (dc_X9_needSite 10 rfl) (dc_X9_needSite 11 rfl) rfl (by omega) (Nat.le_of_ble_eq_true rfl)
  · rw [if_neg c0] at h
    refine r_iload_n (dc_X9_needSite 2 rfl) rfl rfl ?_
    refine r_aload_n (dc_X9_needSite 3 rfl) rfl rfl ?_
    obtain ⟨p1, e0, h⟩ := Option.bind_eq_some_iff.mp h
    refine r_getR (dc_X9_needSite 4 rfl) fl_RX9_12 e0 ?_
    obtain ⟨x2, e0, h⟩ := Option.bind_eq_some_iff.mp h
    refine r_getI (dc_X9_needSite 5 rfl) fl_RX9_330 e0 ?_
    refine r_icmp_lt (dc_X9_needSite 6 rfl) (tgt := 26) (by decide) (fun c0 => ?_) (fun c0 => ?_)
    · rw [if_pos c0] at h
      cases h
      exact r_vreturn (dc_X9_needSite 12 rfl) rfl
    · rw [if_neg c0] at h
      cases h
      exact r_throwSW tl_RX9_400_404 (str_in 2 rfl) (dc_X9_needSite 7 rfl) (dc_X9_needSite 8 rfl) (dc_X9_needSite 9 rfl) (dc_X9_needSite 10 rfl) (dc_X9_needSite 11 rfl) rfl (by omega) (Nat.le_of_ble_eq_true rfl)
theorem t_X9_needRoomForEvent {G : Gx} {d : Nat} (hl : G.1.stackTraces = false) (hd : 6 ≤ d) {σ : Sto} {a0 : Nat} {r : ((Unit ⊕ String) × Sto)} (h : F_X9_needRoomForEvent σ a0 = some r) : Mi G d m_X9_needRoomForEvent 9 a0 [] σ (toU r.1) r.2 := by
  rw [F_X9_needRoomForEvent] at h
  obtain ⟨hg, h⟩ := chk_some h
  refine ⟨J.toMt (lo := [(0, .ref a0)]) pn_RX9 rfl hl (Nat.le_of_ble_eq_true rfl) rfl ?_, hg⟩
  refine r_aload_n (dc_X9_needRoomForEvent 0 rfl) rfl rfl ?_
  obtain ⟨p1, e0, h⟩ := Option.bind_eq_some_iff.mp h
  refine r_getR (dc_X9_needRoomForEvent 1 rfl) fl_RX9_12 e0 ?_
  obtain ⟨p2, e0, h⟩ := Option.bind_eq_some_iff.mp h
  refine r_getR (dc_X9_needRoomForEvent 2 rfl) fl_RX9_84 e0 ?_
  obtain ⟨x3, e0, h⟩ := Option.bind_eq_some_iff.mp h
  refine r_callV (dc_X9_needRoomForEvent 3 rfl) mv_X2_isFull ml_RX9_409 (As := []) (t_X2_isFull (d := d - 1) hl (by omega) e0) (by omega) rfl (Nat.le_of_ble_eq_true rfl) ?_
  refine r_if_eq (dc_X9_needRoomForEvent 4 rfl) (tgt := 24) (by decide) (fun c0 => ?_) (fun c0 => ?_)
  · rw [if_pos c0] at h
    cases h
    exact r_vreturn (dc_X9_needRoomForEvent 10 rfl) rfl
  · rw [if_neg c0] at h
    cases h
    exact r_throwSW tl_RX9_125_129 (str_in 3 rfl) (dc_X9_needRoomForEvent 5 rfl) (dc_X9_needRoomForEvent 6 rfl) (dc_X9_needRoomForEvent 7 rfl) (dc_X9_needRoomForEvent 8 rfl) (dc_X9_needRoomForEvent 9 rfl) rfl (by omega) (Nat.le_of_ble_eq_true rfl)
theorem t_X9_needName {G : Gx} {d : Nat} (hl : G.1.stackTraces = false) (hd : 6 ≤ d) {σ : Sto} {a0 : Nat} {xa1 : Int32} {r : ((Unit ⊕ String) × Sto)} (h : F_X9_needName σ a0 xa1 = some r) : Mi G d m_X9_needName 9 a0 [.int xa1] σ (toU r.1) r.2 := by
  rw [F_X9_needName] at h
  obtain ⟨hg, h⟩ := chk_some h
  refine ⟨J.toMt (lo := [(0, .ref a0), (1, .int xa1)]) pn_RX9 rfl hl (Nat.le_of_ble_eq_true rfl) rfl ?_, hg⟩
  refine r_iload_n (dc_X9_needName 0 rfl) rfl rfl ?_
  refine r_if_lt (dc_X9_needName 1 rfl) (tgt := 10) (by decide) (fun c0 => ?_) (fun c0 => ?_)
  · rw [if_pos c0] at h
    cases h
    exact r_throwSW tl_RX9_47_51 (str_in 4 rfl) (dc_X9_needName 5 rfl) (dc_X9_needName 6 rfl) (dc_X9_needName 7 rfl) (dc_X9_needName 8 rfl) (dc_X9_needName 9 rfl) rfl (by omega) (Nat.le_of_ble_eq_true rfl)
  · rw [if_neg c0] at h
    refine r_iload_n (dc_X9_needName 2 rfl) rfl rfl ?_
    refine r_bipush (dc_X9_needName 3 rfl) kbipush_100 ?_
    refine r_icmp_lt (dc_X9_needName 4 rfl) (tgt := 21) (by decide) (fun c0 => ?_) (fun c0 => ?_)
    · rw [if_pos c0] at h
      cases h
      exact r_vreturn (dc_X9_needName 10 rfl) rfl
    · rw [if_neg c0] at h
      cases h
      exact r_throwSW tl_RX9_47_51 (str_in 4 rfl) (dc_X9_needName 5 rfl) (dc_X9_needName 6 rfl) (dc_X9_needName 7 rfl) (dc_X9_needName 8 rfl) (dc_X9_needName 9 rfl) rfl (by omega) (Nat.le_of_ble_eq_true rfl)
theorem t_X9_traced {G : Gx} {d : Nat} (hl : G.1.stackTraces = false) (hd : 1 ≤ d) {σ : Sto} {a0 : Nat} {xa1 : Int32} {xa2 : Int32} {xa3 : Int32} {r : (Int32 × Sto)} (h : F_X9_traced σ a0 xa1 xa2 xa3 = some r) : Mi G d m_X9_traced 9 a0 [.int xa1, .int xa2, .int xa3] σ (.inl (some (.int r.1))) r.2 := by
  rw [F_X9_traced] at h
  obtain ⟨hg, h⟩ := chk_some h
  refine ⟨J.toMt (lo := [(0, .ref a0), (1, .int xa1), (2, .int xa2), (3, .int xa3)]) pn_RX9 rfl hl (Nat.le_of_ble_eq_true rfl) rfl ?_, hg⟩
  refine r_aload_n (dc_X9_traced 0 rfl) rfl rfl ?_
  obtain ⟨p1, e0, h⟩ := Option.bind_eq_some_iff.mp h
  refine r_getR (dc_X9_traced 1 rfl) fl_RX9_23 e0 ?_
  refine r_aload_n (dc_X9_traced 2 rfl) rfl rfl ?_
  obtain ⟨p2, e0, h⟩ := Option.bind_eq_some_iff.mp h
  refine r_getR (dc_X9_traced 3 rfl) fl_RX9_12 e0 ?_
  obtain ⟨x3, e0, h⟩ := Option.bind_eq_some_iff.mp h
  refine r_getI (dc_X9_traced 4 rfl) fl_RX9_395 e0 ?_
  refine r_iload_n (dc_X9_traced 5 rfl) rfl rfl ?_
  refine r_iload_n (dc_X9_traced 6 rfl) rfl rfl ?_
  refine r_iload_n (dc_X9_traced 7 rfl) rfl rfl ?_
  obtain ⟨s4, e0, h⟩ := Option.bind_eq_some_iff.mp h
  refine r_callV (dc_X9_traced 8 rfl) mv_X7_record ml_RX9_420 (As := [.int x3, .int xa1, .int xa2, .int xa3]) (t_X7_record (d := d - 1) hl (by omega) e0) (by omega) rfl (Nat.le_of_ble_eq_true rfl) ?_
  refine r_iload_n (dc_X9_traced 9 rfl) rfl rfl ?_
  cases h
  exact r_ireturn (dc_X9_traced 10 rfl) rfl
theorem t_X9_add {G : Gx} {d : Nat} (hl : G.1.stackTraces = false) (hd : 7 ≤ d) {σ : Sto} {a0 : Nat} {xa1 : Int32} {xa2 : Int32} {r : ((Int32 ⊕ String) × Sto)} (h : F_X9_add σ a0 xa1 xa2 = some r) : Mi G d m_X9_add 9 a0 [.int xa1, .int xa2] σ (toI r.1) r.2 := by
  rw [F_X9_add] at h
  obtain ⟨hg, h⟩ := chk_some h
  refine ⟨J.toMt (lo := [(0, .ref a0), (1, .int xa1), (2, .int xa2)]) pn_RX9 rfl hl (Nat.le_of_ble_eq_true rfl) rfl ?_, hg⟩
  refine r_aload_n (dc_X9_add 0 rfl) rfl rfl ?_
  refine r_iload_n (dc_X9_add 1 rfl) rfl rfl ?_
  rcases tb_some h with ⟨u0, s1, e0, h⟩ | ⟨E0, s1, e0, h⟩
  rotate_left
  · subst h
    exact r_callVX (dc_X9_add 2 rfl) mv_X9_needSite ml_RX9_67 (As := [.int xa1]) (t_X9_needSite (d := d - 1) hl (by omega) e0) (by omega) rfl (Nat.le_of_ble_eq_true rfl) rfl
  refine r_callV (dc_X9_add 2 rfl) mv_X9_needSite ml_RX9_67 (As := [.int xa1]) (t_X9_needSite (d := d - 1) hl (by omega) e0) (by omega) rfl (Nat.le_of_ble_eq_true rfl) ?_
  refine r_aload_n (dc_X9_add 3 rfl) rfl rfl ?_
  rcases tb_some h with ⟨u0, s2, e0, h⟩ | ⟨E0, s2, e0, h⟩
  rotate_left
  · subst h
    exact r_callVX (dc_X9_add 4 rfl) mv_X9_needRoomForEvent ml_RX9_70 (As := []) (t_X9_needRoomForEvent (d := d - 1) hl (by omega) e0) (by omega) rfl (Nat.le_of_ble_eq_true rfl) rfl
  refine r_callV (dc_X9_add 4 rfl) mv_X9_needRoomForEvent ml_RX9_70 (As := []) (t_X9_needRoomForEvent (d := d - 1) hl (by omega) e0) (by omega) rfl (Nat.le_of_ble_eq_true rfl) ?_
  refine r_aload_n (dc_X9_add 5 rfl) rfl rfl ?_
  refine r_iload_n (dc_X9_add 6 rfl) rfl rfl ?_
  rcases tb_some h with ⟨u0, s3, e0, h⟩ | ⟨E0, s3, e0, h⟩
  rotate_left
  · subst h
    exact r_callVX (dc_X9_add 7 rfl) mv_X9_needName ml_RX9_73 (As := [.int xa2]) (t_X9_needName (d := d - 1) hl (by omega) e0) (by omega) rfl (Nat.le_of_ble_eq_true rfl) rfl
  refine r_callV (dc_X9_add 7 rfl) mv_X9_needName ml_RX9_73 (As := [.int xa2]) (t_X9_needName (d := d - 1) hl (by omega) e0) (by omega) rfl (Nat.le_of_ble_eq_true rfl) ?_
  refine r_aload_n (dc_X9_add 8 rfl) rfl rfl ?_
  refine r_iconst (dc_X9_add 9 rfl) kiconst_0 ?_
  refine r_iload_n (dc_X9_add 10 rfl) rfl rfl ?_
  refine r_aload_n (dc_X9_add 11 rfl) rfl rfl ?_
  obtain ⟨p4, e0, h⟩ := Option.bind_eq_some_iff.mp h
  refine r_getR (dc_X9_add 12 rfl) fl_RX9_12 e0 ?_
  refine r_iload_n (dc_X9_add 13 rfl) rfl rfl ?_
  refine r_iload_n (dc_X9_add 14 rfl) rfl rfl ?_
  obtain ⟨x6, s5, e0, h⟩ := wb_some h
  refine r_callV (dc_X9_add 15 rfl) mv_X8_bringIn ml_RX9_76 (As := [.int xa1, .int xa2]) (t_X8_bringIn (d := d - 1) hl (by omega) e0) (by omega) rfl (Nat.le_of_ble_eq_true rfl) ?_
  obtain ⟨x8, s7, e0, h⟩ := wb_some h
  refine r_callV (dc_X9_add 16 rfl) mv_X9_traced ml_RX9_80 (As := [.int (0 : Int32), .int xa1, .int x6]) (t_X9_traced (d := d - 1) hl (by omega) e0) (by omega) rfl (Nat.le_of_ble_eq_true rfl) ?_
  cases h
  exact r_ireturn (dc_X9_add 17 rfl) rfl
theorem t_X9_take {G : Gx} {d : Nat} (hl : G.1.stackTraces = false) (hd : 7 ≤ d) {σ : Sto} {a0 : Nat} {xa1 : Int32} {xa2 : Int32} {r : ((Int32 ⊕ String) × Sto)} (h : F_X9_take σ a0 xa1 xa2 = some r) : Mi G d m_X9_take 9 a0 [.int xa1, .int xa2] σ (toI r.1) r.2 := by
  rw [F_X9_take] at h
  obtain ⟨hg, h⟩ := chk_some h
  refine ⟨J.toMt (lo := [(0, .ref a0), (1, .int xa1), (2, .int xa2)]) pn_RX9 rfl hl (Nat.le_of_ble_eq_true rfl) rfl ?_, hg⟩
  refine r_aload_n (dc_X9_take 0 rfl) rfl rfl ?_
  refine r_iload_n (dc_X9_take 1 rfl) rfl rfl ?_
  rcases tb_some h with ⟨u0, s1, e0, h⟩ | ⟨E0, s1, e0, h⟩
  rotate_left
  · subst h
    exact r_callVX (dc_X9_take 2 rfl) mv_X9_needSite ml_RX9_67 (As := [.int xa1]) (t_X9_needSite (d := d - 1) hl (by omega) e0) (by omega) rfl (Nat.le_of_ble_eq_true rfl) rfl
  refine r_callV (dc_X9_take 2 rfl) mv_X9_needSite ml_RX9_67 (As := [.int xa1]) (t_X9_needSite (d := d - 1) hl (by omega) e0) (by omega) rfl (Nat.le_of_ble_eq_true rfl) ?_
  refine r_aload_n (dc_X9_take 3 rfl) rfl rfl ?_
  obtain ⟨p2, e0, h⟩ := Option.bind_eq_some_iff.mp h
  refine r_getR (dc_X9_take 4 rfl) fl_RX9_12 e0 ?_
  obtain ⟨p3, e0, h⟩ := Option.bind_eq_some_iff.mp h
  refine r_getR (dc_X9_take 5 rfl) fl_RX9_84 e0 ?_
  refine r_iload_n (dc_X9_take 6 rfl) rfl rfl ?_
  obtain ⟨x4, e0, h⟩ := Option.bind_eq_some_iff.mp h
  refine r_callV (dc_X9_take 7 rfl) mv_X2_contains ml_RX9_88 (As := [.int xa2]) (t_X2_contains (d := d - 1) hl (by omega) e0) (by omega) rfl (Nat.le_of_ble_eq_true rfl) ?_
  refine r_if_eq (dc_X9_take 8 rfl) (tgt := 38) (by decide) (fun c0 => ?_) (fun c0 => ?_)
  · rw [if_pos c0] at h
    cases h
    exact r_throwN tl_RX9_109_113 (str_in 5 rfl) (dc_X9_take 18 rfl) (dc_X9_take 19 rfl) (dc_X9_take 20 rfl) (dc_X9_take 21 rfl) (dc_X9_take 22 rfl) rfl (by omega) (Nat.le_of_ble_eq_true rfl)
  · rw [if_neg c0] at h
    refine r_aload_n (dc_X9_take 9 rfl) rfl rfl ?_
    obtain ⟨p5, e0, h⟩ := Option.bind_eq_some_iff.mp h
    refine r_getR (dc_X9_take 10 rfl) fl_RX9_12 e0 ?_
    obtain ⟨p6, e0, h⟩ := Option.bind_eq_some_iff.mp h
    refine r_getR (dc_X9_take 11 rfl) fl_RX9_94 e0 ?_
    refine r_iload_n (dc_X9_take 12 rfl) rfl rfl ?_
    obtain ⟨p7, e0, h⟩ := Option.bind_eq_some_iff.mp h
    refine r_aaldR (dc_X9_take 13 rfl) (kd := 4) rfl e0 ?_
    obtain ⟨p8, e0, h⟩ := Option.bind_eq_some_iff.mp h
    refine r_getR (dc_X9_take 14 rfl) fl_RX9_98 e0 ?_
    refine r_iload_n (dc_X9_take 15 rfl) rfl rfl ?_
    obtain ⟨x9, e0, h⟩ := Option.bind_eq_some_iff.mp h
    refine r_callV (dc_X9_take 16 rfl) mv_X1_holds ml_RX9_104 (As := [.int xa2]) (t_X1_holds (d := d - 1) hl (by omega) e0) (by omega) rfl (Nat.le_of_ble_eq_true rfl) ?_
    refine r_if_ne (dc_X9_take 17 rfl) (tgt := 48) (by decide) (fun c0 => ?_) (fun c0 => ?_)
    · rw [if_neg c0] at h
      refine r_aload_n (dc_X9_take 23 rfl) rfl rfl ?_
      rcases tb_some h with ⟨u0, s10, e0, h⟩ | ⟨E0, s10, e0, h⟩
      rotate_left
      · subst h
        exact r_callVX (dc_X9_take 24 rfl) mv_X9_needRoomForEvent ml_RX9_70 (As := []) (t_X9_needRoomForEvent (d := d - 1) hl (by omega) e0) (by omega) rfl (Nat.le_of_ble_eq_true rfl) rfl
      refine r_callV (dc_X9_take 24 rfl) mv_X9_needRoomForEvent ml_RX9_70 (As := []) (t_X9_needRoomForEvent (d := d - 1) hl (by omega) e0) (by omega) rfl (Nat.le_of_ble_eq_true rfl) ?_
      refine r_aload_n (dc_X9_take 25 rfl) rfl rfl ?_
      refine r_iconst (dc_X9_take 26 rfl) kiconst_1 ?_
      refine r_iload_n (dc_X9_take 27 rfl) rfl rfl ?_
      refine r_aload_n (dc_X9_take 28 rfl) rfl rfl ?_
      obtain ⟨p11, e0, h⟩ := Option.bind_eq_some_iff.mp h
      refine r_getR (dc_X9_take 29 rfl) fl_RX9_12 e0 ?_
      refine r_iload_n (dc_X9_take 30 rfl) rfl rfl ?_
      refine r_iload_n (dc_X9_take 31 rfl) rfl rfl ?_
      obtain ⟨x13, s12, e0, h⟩ := wb_some h
      refine r_callV (dc_X9_take 32 rfl) mv_X8_takeOut ml_RX9_114 (As := [.int xa1, .int xa2]) (t_X8_takeOut (d := d - 1) hl (by omega) e0) (by omega) rfl (Nat.le_of_ble_eq_true rfl) ?_
      obtain ⟨x15, s14, e0, h⟩ := wb_some h
      refine r_callV (dc_X9_take 33 rfl) mv_X9_traced ml_RX9_80 (As := [.int (1 : Int32), .int xa1, .int x13]) (t_X9_traced (d := d - 1) hl (by omega) e0) (by omega) rfl (Nat.le_of_ble_eq_true rfl) ?_
      cases h
      exact r_ireturn (dc_X9_take 34 rfl) rfl
    · rw [if_pos c0] at h
      cases h
      exact r_throwN tl_RX9_109_113 (str_in 5 rfl) (dc_X9_take 18 rfl) (dc_X9_take 19 rfl) (dc_X9_take 20 rfl) (dc_X9_take 21 rfl) (dc_X9_take 22 rfl) rfl (by omega) (Nat.le_of_ble_eq_true rfl)
theorem t_X9_needTwoSites {G : Gx} {d : Nat} (hl : G.1.stackTraces = false) (hd : 6 ≤ d) {σ : Sto} {a0 : Nat} {xa1 : Int32} {xa2 : Int32} {r : ((Unit ⊕ String) × Sto)} (h : F_X9_needTwoSites σ a0 xa1 xa2 = some r) : Mi G d m_X9_needTwoSites 9 a0 [.int xa1, .int xa2] σ (toU r.1) r.2 := by
  rw [F_X9_needTwoSites] at h
  obtain ⟨hg, h⟩ := chk_some h
  refine ⟨J.toMt (lo := [(0, .ref a0), (1, .int xa1), (2, .int xa2)]) pn_RX9 rfl hl (Nat.le_of_ble_eq_true rfl) rfl ?_, hg⟩
  refine r_iload_n (dc_X9_needTwoSites 0 rfl) rfl rfl ?_
  refine r_if_lt (dc_X9_needTwoSites 1 rfl) (tgt := 35) (by decide) (fun c0 => ?_) (fun c0 => ?_)
  · rw [if_pos c0] at h
    cases h
    exact r_throwSW tl_RX9_400_404 (str_in 6 rfl) (dc_X9_needTwoSites 17 rfl) (dc_X9_needTwoSites 18 rfl) (dc_X9_needTwoSites 19 rfl) (dc_X9_needTwoSites 20 rfl) (dc_X9_needTwoSites 21 rfl) rfl (by omega) (Nat.le_of_ble_eq_true rfl)
  · rw [if_neg c0] at h
    refine r_iload_n (dc_X9_needTwoSites 2 rfl) rfl rfl ?_
    refine r_aload_n (dc_X9_needTwoSites 3 rfl) rfl rfl ?_
    obtain ⟨p1, e0, h⟩ := Option.bind_eq_some_iff.mp h
    refine r_getR (dc_X9_needTwoSites 4 rfl) fl_RX9_12 e0 ?_
    obtain ⟨x2, e0, h⟩ := Option.bind_eq_some_iff.mp h
    refine r_getI (dc_X9_needTwoSites 5 rfl) fl_RX9_330 e0 ?_
    refine r_icmp_ge (dc_X9_needTwoSites 6 rfl) (tgt := 35) (by decide) (fun c0 => ?_) (fun c0 => ?_)
    · rw [if_pos c0] at h
      cases h
      exact r_throwSW tl_RX9_400_404 (str_in 6 rfl) (dc_X9_needTwoSites 17 rfl) (dc_X9_needTwoSites 18 rfl) (dc_X9_needTwoSites 19 rfl) (dc_X9_needTwoSites 20 rfl) (dc_X9_needTwoSites 21 rfl) rfl (by omega) (Nat.le_of_ble_eq_true rfl)
    · rw [if_neg c0] at h
      refine r_iload_n (dc_X9_needTwoSites 7 rfl) rfl rfl ?_
      refine r_if_lt (dc_X9_needTwoSites 8 rfl) (tgt := 35) (by decide) (fun c0 => ?_) (fun c0 => ?_)
      · rw [if_pos c0] at h
        cases h
        exact r_throwSW tl_RX9_400_404 (str_in 6 rfl) (dc_X9_needTwoSites 17 rfl) (dc_X9_needTwoSites 18 rfl) (dc_X9_needTwoSites 19 rfl) (dc_X9_needTwoSites 20 rfl) (dc_X9_needTwoSites 21 rfl) rfl (by omega) (Nat.le_of_ble_eq_true rfl)
      · rw [if_neg c0] at h
        refine r_iload_n (dc_X9_needTwoSites 9 rfl) rfl rfl ?_
        refine r_aload_n (dc_X9_needTwoSites 10 rfl) rfl rfl ?_
        obtain ⟨p3, e0, h⟩ := Option.bind_eq_some_iff.mp h
        refine r_getR (dc_X9_needTwoSites 11 rfl) fl_RX9_12 e0 ?_
        obtain ⟨x4, e0, h⟩ := Option.bind_eq_some_iff.mp h
        refine r_getI (dc_X9_needTwoSites 12 rfl) fl_RX9_330 e0 ?_
        refine r_icmp_ge (dc_X9_needTwoSites 13 rfl) (tgt := 35) (by decide) (fun c0 => ?_) (fun c0 => ?_)
        · rw [if_pos c0] at h
          cases h
          exact r_throwSW tl_RX9_400_404 (str_in 6 rfl) (dc_X9_needTwoSites 17 rfl) (dc_X9_needTwoSites 18 rfl) (dc_X9_needTwoSites 19 rfl) (dc_X9_needTwoSites 20 rfl) (dc_X9_needTwoSites 21 rfl) rfl (by omega) (Nat.le_of_ble_eq_true rfl)
        · rw [if_neg c0] at h
          refine r_iload_n (dc_X9_needTwoSites 14 rfl) rfl rfl ?_
          refine r_iload_n (dc_X9_needTwoSites 15 rfl) rfl rfl ?_
          refine r_icmp_ne (dc_X9_needTwoSites 16 rfl) (tgt := 46) (by decide) (fun c0 => ?_) (fun c0 => ?_)
          · rw [if_neg c0] at h
            cases h
            exact r_vreturn (dc_X9_needTwoSites 22 rfl) rfl
          · rw [if_pos c0] at h
            cases h
            exact r_throwSW tl_RX9_400_404 (str_in 6 rfl) (dc_X9_needTwoSites 17 rfl) (dc_X9_needTwoSites 18 rfl) (dc_X9_needTwoSites 19 rfl) (dc_X9_needTwoSites 20 rfl) (dc_X9_needTwoSites 21 rfl) rfl (by omega) (Nat.le_of_ble_eq_true rfl)
theorem t_X9_write {G : Gx} {d : Nat} (hl : G.1.stackTraces = false) (hd : 7 ≤ d) {σ : Sto} {a0 : Nat} {xa1 : Int32} {xa2 : Int32} {r : ((Int32 ⊕ String) × Sto)} (h : F_X9_write σ a0 xa1 xa2 = some r) : Mi G d m_X9_write 9 a0 [.int xa1, .int xa2] σ (toI r.1) r.2 := by
  rw [F_X9_write] at h
  obtain ⟨hg, h⟩ := chk_some h
  refine ⟨J.toMt (lo := [(0, .ref a0), (1, .int xa1), (2, .int xa2)]) pn_RX9 rfl hl (Nat.le_of_ble_eq_true rfl) rfl ?_, hg⟩
  refine r_aload_n (dc_X9_write 0 rfl) rfl rfl ?_
  refine r_iload_n (dc_X9_write 1 rfl) rfl rfl ?_
  refine r_iload_n (dc_X9_write 2 rfl) rfl rfl ?_
  rcases tb_some h with ⟨u0, s1, e0, h⟩ | ⟨E0, s1, e0, h⟩
  rotate_left
  · subst h
    exact r_callVX (dc_X9_write 3 rfl) mv_X9_needTwoSites ml_RX9_117 (As := [.int xa1, .int xa2]) (t_X9_needTwoSites (d := d - 1) hl (by omega) e0) (by omega) rfl (Nat.le_of_ble_eq_true rfl) rfl
  refine r_callV (dc_X9_write 3 rfl) mv_X9_needTwoSites ml_RX9_117 (As := [.int xa1, .int xa2]) (t_X9_needTwoSites (d := d - 1) hl (by omega) e0) (by omega) rfl (Nat.le_of_ble_eq_true rfl) ?_
  refine r_aload_n (dc_X9_write 4 rfl) rfl rfl ?_
  obtain ⟨p2, e0, h⟩ := Option.bind_eq_some_iff.mp h
  refine r_getR (dc_X9_write 5 rfl) fl_RX9_12 e0 ?_
  refine r_iload_n (dc_X9_write 6 rfl) rfl rfl ?_
  refine r_iload_n (dc_X9_write 7 rfl) rfl rfl ?_
  obtain ⟨x3, e0, h⟩ := Option.bind_eq_some_iff.mp h
  refine r_callV (dc_X9_write 8 rfl) mv_X8_canPost ml_RX9_121 (As := [.int xa1, .int xa2]) (t_X8_canPost (d := d - 1) hl (by omega) e0) (by omega) rfl (Nat.le_of_ble_eq_true rfl) ?_
  refine r_if_ne (dc_X9_write 9 rfl) (tgt := 28) (by decide) (fun c0 => ?_) (fun c0 => ?_)
  · rw [if_neg c0] at h
    refine r_aload_n (dc_X9_write 15 rfl) rfl rfl ?_
    refine r_iconst (dc_X9_write 16 rfl) kiconst_2 ?_
    refine r_iload_n (dc_X9_write 17 rfl) rfl rfl ?_
    refine r_aload_n (dc_X9_write 18 rfl) rfl rfl ?_
    obtain ⟨p4, e0, h⟩ := Option.bind_eq_some_iff.mp h
    refine r_getR (dc_X9_write 19 rfl) fl_RX9_12 e0 ?_
    refine r_iload_n (dc_X9_write 20 rfl) rfl rfl ?_
    refine r_iload_n (dc_X9_write 21 rfl) rfl rfl ?_
    obtain ⟨x6, s5, e0, h⟩ := wb_some h
    refine r_callV (dc_X9_write 22 rfl) mv_X8_post ml_RX9_130 (As := [.int xa1, .int xa2]) (t_X8_post (d := d - 1) hl (by omega) e0) (by omega) rfl (Nat.le_of_ble_eq_true rfl) ?_
    obtain ⟨x8, s7, e0, h⟩ := wb_some h
    refine r_callV (dc_X9_write 23 rfl) mv_X9_traced ml_RX9_80 (As := [.int (2 : Int32), .int xa1, .int x6]) (t_X9_traced (d := d - 1) hl (by omega) e0) (by omega) rfl (Nat.le_of_ble_eq_true rfl) ?_
    cases h
    exact r_ireturn (dc_X9_write 24 rfl) rfl
  · rw [if_pos c0] at h
    cases h
    exact r_throwS tl_RX9_125_129 (str_in 7 rfl) (dc_X9_write 10 rfl) (dc_X9_write 11 rfl) (dc_X9_write 12 rfl) (dc_X9_write 13 rfl) (dc_X9_write 14 rfl) rfl (by omega) (Nat.le_of_ble_eq_true rfl)
theorem t_X9_needLetter {G : Gx} {d : Nat} (hl : G.1.stackTraces = false) (hd : 6 ≤ d) {σ : Sto} {a0 : Nat} {xa1 : Int32} {xa2 : Int32} {xa3 : Int32} {r : ((Unit ⊕ String) × Sto)} (h : F_X9_needLetter σ a0 xa1 xa2 xa3 = some r) : Mi G d m_X9_needLetter 9 a0 [.int xa1, .int xa2, .int xa3] σ (toU r.1) r.2 := by
  rw [F_X9_needLetter] at h
  obtain ⟨hg, h⟩ := chk_some h
  refine ⟨J.toMt (lo := [(0, .ref a0), (1, .int xa1), (2, .int xa2), (3, .int xa3)]) pn_RX9 rfl hl (Nat.le_of_ble_eq_true rfl) rfl ?_, hg⟩
  refine r_iload_n (dc_X9_needLetter 0 rfl) rfl rfl ?_
  refine r_if_lt (dc_X9_needLetter 1 rfl) (tgt := 20) (by decide) (fun c0 => ?_) (fun c0 => ?_)
  · rw [if_pos c0] at h
    cases h
    exact r_throwNW tl_RX9_109_113 (str_in 8 rfl) (dc_X9_needLetter 10 rfl) (dc_X9_needLetter 11 rfl) (dc_X9_needLetter 12 rfl) (dc_X9_needLetter 13 rfl) (dc_X9_needLetter 14 rfl) rfl (by omega) (Nat.le_of_ble_eq_true rfl)
  · rw [if_neg c0] at h
    refine r_iload_n (dc_X9_needLetter 2 rfl) rfl rfl ?_
    refine r_aload_n (dc_X9_needLetter 3 rfl) rfl rfl ?_
    obtain ⟨p1, e0, h⟩ := Option.bind_eq_some_iff.mp h
    refine r_getR (dc_X9_needLetter 4 rfl) fl_RX9_12 e0 ?_
    refine r_iload_n (dc_X9_needLetter 5 rfl) rfl rfl ?_
    refine r_iload_n (dc_X9_needLetter 6 rfl) rfl rfl ?_
    obtain ⟨p2, e0, h⟩ := Option.bind_eq_some_iff.mp h
    refine r_callV (dc_X9_needLetter 7 rfl) mv_X8_row ml_RX9_148 (As := [.int xa1, .int xa2]) (t_X8_row (d := d - 1) hl (by omega) e0) (by omega) rfl (Nat.le_of_ble_eq_true rfl) ?_
    obtain ⟨x3, e0, h⟩ := Option.bind_eq_some_iff.mp h
    refine r_getI (dc_X9_needLetter 8 rfl) fl_RX9_163 e0 ?_
    refine r_icmp_lt (dc_X9_needLetter 9 rfl) (tgt := 31) (by decide) (fun c0 => ?_) (fun c0 => ?_)
    · rw [if_pos c0] at h
      cases h
      exact r_vreturn (dc_X9_needLetter 15 rfl) rfl
    · rw [if_neg c0] at h
      cases h
      exact r_throwNW tl_RX9_109_113 (str_in 8 rfl) (dc_X9_needLetter 10 rfl) (dc_X9_needLetter 11 rfl) (dc_X9_needLetter 12 rfl) (dc_X9_needLetter 13 rfl) (dc_X9_needLetter 14 rfl) rfl (by omega) (Nat.le_of_ble_eq_true rfl)
theorem t_X9_come {G : Gx} {d : Nat} (hl : G.1.stackTraces = false) (hd : 7 ≤ d) {σ : Sto} {a0 : Nat} {xa1 : Int32} {xa2 : Int32} {xa3 : Int32} {r : ((Int32 ⊕ String) × Sto)} (h : F_X9_come σ a0 xa1 xa2 xa3 = some r) : Mi G d m_X9_come 9 a0 [.int xa1, .int xa2, .int xa3] σ (toI r.1) r.2 := by
  rw [F_X9_come] at h
  obtain ⟨hg, h⟩ := chk_some h
  refine ⟨J.toMt (lo := [(0, .ref a0), (1, .int xa1), (2, .int xa2), (3, .int xa3)]) pn_RX9 rfl hl (Nat.le_of_ble_eq_true rfl) rfl ?_, hg⟩
  refine r_aload_n (dc_X9_come 0 rfl) rfl rfl ?_
  refine r_iload_n (dc_X9_come 1 rfl) rfl rfl ?_
  refine r_iload_n (dc_X9_come 2 rfl) rfl rfl ?_
  rcases tb_some h with ⟨u0, s1, e0, h⟩ | ⟨E0, s1, e0, h⟩
  rotate_left
  · subst h
    exact r_callVX (dc_X9_come 3 rfl) mv_X9_needTwoSites ml_RX9_117 (As := [.int xa1, .int xa2]) (t_X9_needTwoSites (d := d - 1) hl (by omega) e0) (by omega) rfl (Nat.le_of_ble_eq_true rfl) rfl
  refine r_callV (dc_X9_come 3 rfl) mv_X9_needTwoSites ml_RX9_117 (As := [.int xa1, .int xa2]) (t_X9_needTwoSites (d := d - 1) hl (by omega) e0) (by omega) rfl (Nat.le_of_ble_eq_true rfl) ?_
  refine r_aload_n (dc_X9_come 4 rfl) rfl rfl ?_
  refine r_iload_n (dc_X9_come 5 rfl) rfl rfl ?_
  refine r_iload_n (dc_X9_come 6 rfl) rfl rfl ?_
  refine r_iload_n (dc_X9_come 7 rfl) rfl rfl ?_
  rcases tb_some h with ⟨u0, s2, e0, h⟩ | ⟨E0, s2, e0, h⟩
  rotate_left
  · subst h
    exact r_callVX (dc_X9_come 8 rfl) mv_X9_needLetter ml_RX9_133 (As := [.int xa1, .int xa2, .int xa3]) (t_X9_needLetter (d := d - 1) hl (by omega) e0) (by omega) rfl (Nat.le_of_ble_eq_true rfl) rfl
  refine r_callV (dc_X9_come 8 rfl) mv_X9_needLetter ml_RX9_133 (As := [.int xa1, .int xa2, .int xa3]) (t_X9_needLetter (d := d - 1) hl (by omega) e0) (by omega) rfl (Nat.le_of_ble_eq_true rfl) ?_
  refine r_aload_n (dc_X9_come 9 rfl) rfl rfl ?_
  obtain ⟨p3, e0, h⟩ := Option.bind_eq_some_iff.mp h
  refine r_getR (dc_X9_come 10 rfl) fl_RX9_12 e0 ?_
  refine r_iload_n (dc_X9_come 11 rfl) rfl rfl ?_
  refine r_iload_n (dc_X9_come 12 rfl) rfl rfl ?_
  obtain ⟨x4, e0, h⟩ := Option.bind_eq_some_iff.mp h
  refine r_callV (dc_X9_come 13 rfl) mv_X8_isCut ml_RX9_137 (As := [.int xa1, .int xa2]) (t_X8_isCut (d := d - 1) hl (by omega) e0) (by omega) rfl (Nat.le_of_ble_eq_true rfl) ?_
  refine r_if_eq (dc_X9_come 14 rfl) (tgt := 35) (by decide) (fun c0 => ?_) (fun c0 => ?_)
  · rw [if_pos c0] at h
    refine r_aload_n (dc_X9_come 20 rfl) rfl rfl ?_
    refine r_iconst (dc_X9_come 21 rfl) kiconst_3 ?_
    refine r_iload_n (dc_X9_come 22 rfl) rfl rfl ?_
    refine r_aload_n (dc_X9_come 23 rfl) rfl rfl ?_
    obtain ⟨p5, e0, h⟩ := Option.bind_eq_some_iff.mp h
    refine r_getR (dc_X9_come 24 rfl) fl_RX9_12 e0 ?_
    refine r_iload_n (dc_X9_come 25 rfl) rfl rfl ?_
    refine r_iload_n (dc_X9_come 26 rfl) rfl rfl ?_
    refine r_iload_n (dc_X9_come 27 rfl) rfl rfl ?_
    obtain ⟨x7, s6, e0, h⟩ := wb_some h
    refine r_callV (dc_X9_come 28 rfl) mv_X8_deliver ml_RX9_142 (As := [.int xa1, .int xa2, .int xa3]) (t_X8_deliver (d := d - 1) hl (by omega) e0) (by omega) rfl (Nat.le_of_ble_eq_true rfl) ?_
    obtain ⟨x9, s8, e0, h⟩ := wb_some h
    refine r_callV (dc_X9_come 29 rfl) mv_X9_traced ml_RX9_80 (As := [.int (3 : Int32), .int xa1, .int x7]) (t_X9_traced (d := d - 1) hl (by omega) e0) (by omega) rfl (Nat.le_of_ble_eq_true rfl) ?_
    cases h
    exact r_ireturn (dc_X9_come 30 rfl) rfl
  · rw [if_neg c0] at h
    cases h
    exact r_throwS tl_RX9_125_129 (str_in 9 rfl) (dc_X9_come 15 rfl) (dc_X9_come 16 rfl) (dc_X9_come 17 rfl) (dc_X9_come 18 rfl) (dc_X9_come 19 rfl) rfl (by omega) (Nat.le_of_ble_eq_true rfl)
theorem t_X9_lose {G : Gx} {d : Nat} (hl : G.1.stackTraces = false) (hd : 7 ≤ d) {σ : Sto} {a0 : Nat} {xa1 : Int32} {xa2 : Int32} {xa3 : Int32} {r : ((Int32 ⊕ String) × Sto)} (h : F_X9_lose σ a0 xa1 xa2 xa3 = some r) : Mi G d m_X9_lose 9 a0 [.int xa1, .int xa2, .int xa3] σ (toI r.1) r.2 := by
  rw [F_X9_lose] at h
  obtain ⟨hg, h⟩ := chk_some h
  refine ⟨J.toMt (lo := [(0, .ref a0), (1, .int xa1), (2, .int xa2), (3, .int xa3)]) pn_RX9 rfl hl (Nat.le_of_ble_eq_true rfl) rfl ?_, hg⟩
  refine r_aload_n (dc_X9_lose 0 rfl) rfl rfl ?_
  refine r_iload_n (dc_X9_lose 1 rfl) rfl rfl ?_
  refine r_iload_n (dc_X9_lose 2 rfl) rfl rfl ?_
  rcases tb_some h with ⟨u0, s1, e0, h⟩ | ⟨E0, s1, e0, h⟩
  rotate_left
  · subst h
    exact r_callVX (dc_X9_lose 3 rfl) mv_X9_needTwoSites ml_RX9_117 (As := [.int xa1, .int xa2]) (t_X9_needTwoSites (d := d - 1) hl (by omega) e0) (by omega) rfl (Nat.le_of_ble_eq_true rfl) rfl
  refine r_callV (dc_X9_lose 3 rfl) mv_X9_needTwoSites ml_RX9_117 (As := [.int xa1, .int xa2]) (t_X9_needTwoSites (d := d - 1) hl (by omega) e0) (by omega) rfl (Nat.le_of_ble_eq_true rfl) ?_
  refine r_aload_n (dc_X9_lose 4 rfl) rfl rfl ?_
  refine r_iload_n (dc_X9_lose 5 rfl) rfl rfl ?_
  refine r_iload_n (dc_X9_lose 6 rfl) rfl rfl ?_
  refine r_iload_n (dc_X9_lose 7 rfl) rfl rfl ?_
  rcases tb_some h with ⟨u0, s2, e0, h⟩ | ⟨E0, s2, e0, h⟩
  rotate_left
  · subst h
    exact r_callVX (dc_X9_lose 8 rfl) mv_X9_needLetter ml_RX9_133 (As := [.int xa1, .int xa2, .int xa3]) (t_X9_needLetter (d := d - 1) hl (by omega) e0) (by omega) rfl (Nat.le_of_ble_eq_true rfl) rfl
  refine r_callV (dc_X9_lose 8 rfl) mv_X9_needLetter ml_RX9_133 (As := [.int xa1, .int xa2, .int xa3]) (t_X9_needLetter (d := d - 1) hl (by omega) e0) (by omega) rfl (Nat.le_of_ble_eq_true rfl) ?_
  refine r_aload_n (dc_X9_lose 9 rfl) rfl rfl ?_
  refine r_iconst (dc_X9_lose 10 rfl) kiconst_4 ?_
  refine r_iload_n (dc_X9_lose 11 rfl) rfl rfl ?_
  refine r_aload_n (dc_X9_lose 12 rfl) rfl rfl ?_
  obtain ⟨p3, e0, h⟩ := Option.bind_eq_some_iff.mp h
  refine r_getR (dc_X9_lose 13 rfl) fl_RX9_12 e0 ?_
  refine r_iload_n (dc_X9_lose 14 rfl) rfl rfl ?_
  refine r_iload_n (dc_X9_lose 15 rfl) rfl rfl ?_
  refine r_iload_n (dc_X9_lose 16 rfl) rfl rfl ?_
  obtain ⟨x5, s4, e0, h⟩ := wb_some h
  refine r_callV (dc_X9_lose 17 rfl) mv_X8_discard ml_RX9_145 (As := [.int xa1, .int xa2, .int xa3]) (t_X8_discard (d := d - 1) hl (by omega) e0) (by omega) rfl (Nat.le_of_ble_eq_true rfl) ?_
  obtain ⟨x7, s6, e0, h⟩ := wb_some h
  refine r_callV (dc_X9_lose 18 rfl) mv_X9_traced ml_RX9_80 (As := [.int (4 : Int32), .int xa1, .int x5]) (t_X9_traced (d := d - 1) hl (by omega) e0) (by omega) rfl (Nat.le_of_ble_eq_true rfl) ?_
  cases h
  exact r_ireturn (dc_X9_lose 19 rfl) rfl
theorem t_X9_twice {G : Gx} {d : Nat} (hl : G.1.stackTraces = false) (hd : 7 ≤ d) {σ : Sto} {a0 : Nat} {xa1 : Int32} {xa2 : Int32} {xa3 : Int32} {r : ((Int32 ⊕ String) × Sto)} (h : F_X9_twice σ a0 xa1 xa2 xa3 = some r) : Mi G d m_X9_twice 9 a0 [.int xa1, .int xa2, .int xa3] σ (toI r.1) r.2 := by
  rw [F_X9_twice] at h
  obtain ⟨hg, h⟩ := chk_some h
  refine ⟨J.toMt (lo := [(0, .ref a0), (1, .int xa1), (2, .int xa2), (3, .int xa3)]) pn_RX9 rfl hl (Nat.le_of_ble_eq_true rfl) rfl ?_, hg⟩
  refine r_aload_n (dc_X9_twice 0 rfl) rfl rfl ?_
  refine r_iload_n (dc_X9_twice 1 rfl) rfl rfl ?_
  refine r_iload_n (dc_X9_twice 2 rfl) rfl rfl ?_
  rcases tb_some h with ⟨u0, s1, e0, h⟩ | ⟨E0, s1, e0, h⟩
  rotate_left
  · subst h
    exact r_callVX (dc_X9_twice 3 rfl) mv_X9_needTwoSites ml_RX9_117 (As := [.int xa1, .int xa2]) (t_X9_needTwoSites (d := d - 1) hl (by omega) e0) (by omega) rfl (Nat.le_of_ble_eq_true rfl) rfl
  refine r_callV (dc_X9_twice 3 rfl) mv_X9_needTwoSites ml_RX9_117 (As := [.int xa1, .int xa2]) (t_X9_needTwoSites (d := d - 1) hl (by omega) e0) (by omega) rfl (Nat.le_of_ble_eq_true rfl) ?_
  refine r_aload_n (dc_X9_twice 4 rfl) rfl rfl ?_
  refine r_iload_n (dc_X9_twice 5 rfl) rfl rfl ?_
  refine r_iload_n (dc_X9_twice 6 rfl) rfl rfl ?_
  refine r_iload_n (dc_X9_twice 7 rfl) rfl rfl ?_
  rcases tb_some h with ⟨u0, s2, e0, h⟩ | ⟨E0, s2, e0, h⟩
  rotate_left
  · subst h
    exact r_callVX (dc_X9_twice 8 rfl) mv_X9_needLetter ml_RX9_133 (As := [.int xa1, .int xa2, .int xa3]) (t_X9_needLetter (d := d - 1) hl (by omega) e0) (by omega) rfl (Nat.le_of_ble_eq_true rfl) rfl
  refine r_callV (dc_X9_twice 8 rfl) mv_X9_needLetter ml_RX9_133 (As := [.int xa1, .int xa2, .int xa3]) (t_X9_needLetter (d := d - 1) hl (by omega) e0) (by omega) rfl (Nat.le_of_ble_eq_true rfl) ?_
  refine r_aload_n (dc_X9_twice 9 rfl) rfl rfl ?_
  obtain ⟨p3, e0, h⟩ := Option.bind_eq_some_iff.mp h
  refine r_getR (dc_X9_twice 10 rfl) fl_RX9_12 e0 ?_
  refine r_iload_n (dc_X9_twice 11 rfl) rfl rfl ?_
  refine r_iload_n (dc_X9_twice 12 rfl) rfl rfl ?_
  obtain ⟨p4, e0, h⟩ := Option.bind_eq_some_iff.mp h
  refine r_callV (dc_X9_twice 13 rfl) mv_X8_row ml_RX9_148 (As := [.int xa1, .int xa2]) (t_X8_row (d := d - 1) hl (by omega) e0) (by omega) rfl (Nat.le_of_ble_eq_true rfl) ?_
  obtain ⟨x5, e0, h⟩ := Option.bind_eq_some_iff.mp h
  refine r_callV (dc_X9_twice 14 rfl) mv_X4_isFull ml_RX9_152 (As := []) (t_X4_isFull (d := d - 1) hl (by omega) e0) (by omega) rfl (Nat.le_of_ble_eq_true rfl) ?_
  refine r_if_eq (dc_X9_twice 15 rfl) (tgt := 38) (by decide) (fun c0 => ?_) (fun c0 => ?_)
  · rw [if_pos c0] at h
    refine r_aload_n (dc_X9_twice 21 rfl) rfl rfl ?_
    refine r_iconst (dc_X9_twice 22 rfl) kiconst_5 ?_
    refine r_iload_n (dc_X9_twice 23 rfl) rfl rfl ?_
    refine r_aload_n (dc_X9_twice 24 rfl) rfl rfl ?_
    obtain ⟨p6, e0, h⟩ := Option.bind_eq_some_iff.mp h
    refine r_getR (dc_X9_twice 25 rfl) fl_RX9_12 e0 ?_
    refine r_iload_n (dc_X9_twice 26 rfl) rfl rfl ?_
    refine r_iload_n (dc_X9_twice 27 rfl) rfl rfl ?_
    refine r_iload_n (dc_X9_twice 28 rfl) rfl rfl ?_
    obtain ⟨x8, s7, e0, h⟩ := wb_some h
    refine r_callV (dc_X9_twice 29 rfl) mv_X8_repeat ml_RX9_160 (As := [.int xa1, .int xa2, .int xa3]) (t_X8_repeat (d := d - 1) hl (by omega) e0) (by omega) rfl (Nat.le_of_ble_eq_true rfl) ?_
    obtain ⟨x10, s9, e0, h⟩ := wb_some h
    refine r_callV (dc_X9_twice 30 rfl) mv_X9_traced ml_RX9_80 (As := [.int (5 : Int32), .int xa1, .int x8]) (t_X9_traced (d := d - 1) hl (by omega) e0) (by omega) rfl (Nat.le_of_ble_eq_true rfl) ?_
    cases h
    exact r_ireturn (dc_X9_twice 31 rfl) rfl
  · rw [if_neg c0] at h
    cases h
    exact r_throwS tl_RX9_125_129 (str_in 10 rfl) (dc_X9_twice 16 rfl) (dc_X9_twice 17 rfl) (dc_X9_twice 18 rfl) (dc_X9_twice 19 rfl) (dc_X9_twice 20 rfl) rfl (by omega) (Nat.le_of_ble_eq_true rfl)
theorem t_X9_waiting {G : Gx} {d : Nat} (hl : G.1.stackTraces = false) (hd : 7 ≤ d) {σ : Sto} {a0 : Nat} {xa1 : Int32} {xa2 : Int32} {r : ((Int32 ⊕ String) × Sto)} (h : F_X9_waiting σ a0 xa1 xa2 = some r) : Mi G d m_X9_waiting 9 a0 [.int xa1, .int xa2] σ (toI r.1) r.2 := by
  rw [F_X9_waiting] at h
  obtain ⟨hg, h⟩ := chk_some h
  refine ⟨J.toMt (lo := [(0, .ref a0), (1, .int xa1), (2, .int xa2)]) pn_RX9 rfl hl (Nat.le_of_ble_eq_true rfl) rfl ?_, hg⟩
  refine r_aload_n (dc_X9_waiting 0 rfl) rfl rfl ?_
  refine r_iload_n (dc_X9_waiting 1 rfl) rfl rfl ?_
  refine r_iload_n (dc_X9_waiting 2 rfl) rfl rfl ?_
  rcases tb_some h with ⟨u0, s1, e0, h⟩ | ⟨E0, s1, e0, h⟩
  rotate_left
  · subst h
    exact r_callVX (dc_X9_waiting 3 rfl) mv_X9_needTwoSites ml_RX9_117 (As := [.int xa1, .int xa2]) (t_X9_needTwoSites (d := d - 1) hl (by omega) e0) (by omega) rfl (Nat.le_of_ble_eq_true rfl) rfl
  refine r_callV (dc_X9_waiting 3 rfl) mv_X9_needTwoSites ml_RX9_117 (As := [.int xa1, .int xa2]) (t_X9_needTwoSites (d := d - 1) hl (by omega) e0) (by omega) rfl (Nat.le_of_ble_eq_true rfl) ?_
  refine r_aload_n (dc_X9_waiting 4 rfl) rfl rfl ?_
  obtain ⟨p2, e0, h⟩ := Option.bind_eq_some_iff.mp h
  refine r_getR (dc_X9_waiting 5 rfl) fl_RX9_12 e0 ?_
  refine r_iload_n (dc_X9_waiting 6 rfl) rfl rfl ?_
  refine r_iload_n (dc_X9_waiting 7 rfl) rfl rfl ?_
  obtain ⟨p3, e0, h⟩ := Option.bind_eq_some_iff.mp h
  refine r_callV (dc_X9_waiting 8 rfl) mv_X8_row ml_RX9_148 (As := [.int xa1, .int xa2]) (t_X8_row (d := d - 1) hl (by omega) e0) (by omega) rfl (Nat.le_of_ble_eq_true rfl) ?_
  obtain ⟨x4, e0, h⟩ := Option.bind_eq_some_iff.mp h
  refine r_getI (dc_X9_waiting 9 rfl) fl_RX9_163 e0 ?_
  cases h
  exact r_ireturn (dc_X9_waiting 10 rfl) rfl
theorem t_X9_needWhat {G : Gx} {d : Nat} (hl : G.1.stackTraces = false) (hd : 6 ≤ d) {σ : Sto} {a0 : Nat} {xa1 : Int32} {xa2 : Int32} {r : ((Unit ⊕ String) × Sto)} (h : F_X9_needWhat σ a0 xa1 xa2 = some r) : Mi G d m_X9_needWhat 9 a0 [.int xa1, .int xa2] σ (toU r.1) r.2 := by
  rw [F_X9_needWhat] at h
  obtain ⟨hg, h⟩ := chk_some h
  refine ⟨J.toMt (lo := [(0, .ref a0), (1, .int xa1), (2, .int xa2)]) pn_RX9 rfl hl (Nat.le_of_ble_eq_true rfl) rfl ?_, hg⟩
  refine r_iload_n (dc_X9_needWhat 0 rfl) rfl rfl ?_
  refine r_if_lt (dc_X9_needWhat 1 rfl) (tgt := 9) (by decide) (fun c0 => ?_) (fun c0 => ?_)
  · rw [if_pos c0] at h
    cases h
    exact r_throwSW tl_RX9_47_51 (str_in 11 rfl) (dc_X9_needWhat 5 rfl) (dc_X9_needWhat 6 rfl) (dc_X9_needWhat 7 rfl) (dc_X9_needWhat 8 rfl) (dc_X9_needWhat 9 rfl) rfl (by omega) (Nat.le_of_ble_eq_true rfl)
  · rw [if_neg c0] at h
    refine r_iload_n (dc_X9_needWhat 2 rfl) rfl rfl ?_
    refine r_iload_n (dc_X9_needWhat 3 rfl) rfl rfl ?_
    refine r_icmp_lt (dc_X9_needWhat 4 rfl) (tgt := 20) (by decide) (fun c0 => ?_) (fun c0 => ?_)
    · rw [if_pos c0] at h
      cases h
      exact r_vreturn (dc_X9_needWhat 10 rfl) rfl
    · rw [if_neg c0] at h
      cases h
      exact r_throwSW tl_RX9_47_51 (str_in 11 rfl) (dc_X9_needWhat 5 rfl) (dc_X9_needWhat 6 rfl) (dc_X9_needWhat 7 rfl) (dc_X9_needWhat 8 rfl) (dc_X9_needWhat 9 rfl) rfl (by omega) (Nat.le_of_ble_eq_true rfl)
theorem t_X9_letter {G : Gx} {d : Nat} (hl : G.1.stackTraces = false) (hd : 7 ≤ d) {σ : Sto} {a0 : Nat} {xa1 : Int32} {xa2 : Int32} {xa3 : Int32} {xa4 : Int32} {r : ((Int32 ⊕ String) × Sto)} (h : F_X9_letter σ a0 xa1 xa2 xa3 xa4 = some r) : Mi G d m_X9_letter 9 a0 [.int xa1, .int xa2, .int xa3, .int xa4] σ (toI r.1) r.2 := by
  rw [F_X9_letter] at h
  obtain ⟨hg, h⟩ := chk_some h
  refine ⟨J.toMt (lo := [(0, .ref a0), (1, .int xa1), (2, .int xa2), (3, .int xa3), (4, .int xa4)]) pn_RX9 rfl hl (Nat.le_of_ble_eq_true rfl) rfl ?_, hg⟩
  refine r_aload_n (dc_X9_letter 0 rfl) rfl rfl ?_
  refine r_iload_n (dc_X9_letter 1 rfl) rfl rfl ?_
  refine r_iload_n (dc_X9_letter 2 rfl) rfl rfl ?_
  rcases tb_some h with ⟨u0, s1, e0, h⟩ | ⟨E0, s1, e0, h⟩
  rotate_left
  · subst h
    exact r_callVX (dc_X9_letter 3 rfl) mv_X9_needTwoSites ml_RX9_117 (As := [.int xa1, .int xa2]) (t_X9_needTwoSites (d := d - 1) hl (by omega) e0) (by omega) rfl (Nat.le_of_ble_eq_true rfl) rfl
  refine r_callV (dc_X9_letter 3 rfl) mv_X9_needTwoSites ml_RX9_117 (As := [.int xa1, .int xa2]) (t_X9_needTwoSites (d := d - 1) hl (by omega) e0) (by omega) rfl (Nat.le_of_ble_eq_true rfl) ?_
  refine r_aload_n (dc_X9_letter 4 rfl) rfl rfl ?_
  refine r_iload_n (dc_X9_letter 5 rfl) rfl rfl ?_
  refine r_iload_n (dc_X9_letter 6 rfl) rfl rfl ?_
  refine r_iload_n (dc_X9_letter 7 rfl) rfl rfl ?_
  rcases tb_some h with ⟨u0, s2, e0, h⟩ | ⟨E0, s2, e0, h⟩
  rotate_left
  · subst h
    exact r_callVX (dc_X9_letter 8 rfl) mv_X9_needLetter ml_RX9_133 (As := [.int xa1, .int xa2, .int xa3]) (t_X9_needLetter (d := d - 1) hl (by omega) e0) (by omega) rfl (Nat.le_of_ble_eq_true rfl) rfl
  refine r_callV (dc_X9_letter 8 rfl) mv_X9_needLetter ml_RX9_133 (As := [.int xa1, .int xa2, .int xa3]) (t_X9_needLetter (d := d - 1) hl (by omega) e0) (by omega) rfl (Nat.le_of_ble_eq_true rfl) ?_
  refine r_aload_n (dc_X9_letter 9 rfl) rfl rfl ?_
  refine r_iload (dc_X9_letter 10 rfl) rfl ?_
  refine r_iconst (dc_X9_letter 11 rfl) kiconst_3 ?_
  rcases tb_some h with ⟨u0, s3, e0, h⟩ | ⟨E0, s3, e0, h⟩
  rotate_left
  · subst h
    exact r_callVX (dc_X9_letter 12 rfl) mv_X9_needWhat ml_RX9_166 (As := [.int xa4, .int (3 : Int32)]) (t_X9_needWhat (d := d - 1) hl (by omega) e0) (by omega) rfl (Nat.le_of_ble_eq_true rfl) rfl
  refine r_callV (dc_X9_letter 12 rfl) mv_X9_needWhat ml_RX9_166 (As := [.int xa4, .int (3 : Int32)]) (t_X9_needWhat (d := d - 1) hl (by omega) e0) (by omega) rfl (Nat.le_of_ble_eq_true rfl) ?_
  refine r_aload_n (dc_X9_letter 13 rfl) rfl rfl ?_
  obtain ⟨p4, e0, h⟩ := Option.bind_eq_some_iff.mp h
  refine r_getR (dc_X9_letter 14 rfl) fl_RX9_12 e0 ?_
  refine r_iload_n (dc_X9_letter 15 rfl) rfl rfl ?_
  refine r_iload_n (dc_X9_letter 16 rfl) rfl rfl ?_
  obtain ⟨p5, e0, h⟩ := Option.bind_eq_some_iff.mp h
  refine r_callV (dc_X9_letter 17 rfl) mv_X8_row ml_RX9_148 (As := [.int xa1, .int xa2]) (t_X8_row (d := d - 1) hl (by omega) e0) (by omega) rfl (Nat.le_of_ble_eq_true rfl) ?_
  refine r_iload_n (dc_X9_letter 18 rfl) rfl rfl ?_
  obtain ⟨p7, s6, e0, h⟩ := wb_some h
  refine r_callV (dc_X9_letter 19 rfl) mv_X4_at ml_RX9_169 (As := [.int xa3]) (t_X4_at (d := d - 1) hl (by omega) e0) (by omega) rfl (Nat.le_of_ble_eq_true rfl) ?_
  refine r_astore (dc_X9_letter 20 rfl) (by decide) (lo' := [(5, .ref p7), (0, .ref a0), (1, .int xa1), (2, .int xa2), (3, .int xa3), (4, .int xa4)]) rfl ?_
  refine r_iload (dc_X9_letter 21 rfl) rfl ?_
  refine r_if_ne (dc_X9_letter 22 rfl) (tgt := 46) (by decide) (fun c0 => ?_) (fun c0 => ?_)
  · rw [if_neg c0] at h
    refine r_iload (dc_X9_letter 26 rfl) rfl ?_
    refine r_iconst (dc_X9_letter 27 rfl) kiconst_1 ?_
    refine r_icmp_ne (dc_X9_letter 28 rfl) (tgt := 60) (by decide) (fun c0 => ?_) (fun c0 => ?_)
    · rw [if_neg c0] at h
      refine r_aload (dc_X9_letter 32 rfl) rfl ?_
      obtain ⟨p8, e0, h⟩ := Option.bind_eq_some_iff.mp h
      refine r_getR (dc_X9_letter 33 rfl) fl_RX9_177 e0 ?_
      refine r_aload_n (dc_X9_letter 34 rfl) rfl rfl ?_
      obtain ⟨p9, e0, h⟩ := Option.bind_eq_some_iff.mp h
      refine r_getR (dc_X9_letter 35 rfl) fl_RX9_12 e0 ?_
      obtain ⟨p10, e0, h⟩ := Option.bind_eq_some_iff.mp h
      refine r_getR (dc_X9_letter 36 rfl) fl_RX9_94 e0 ?_
      refine r_iload_n (dc_X9_letter 37 rfl) rfl rfl ?_
      obtain ⟨p11, e0, h⟩ := Option.bind_eq_some_iff.mp h
      refine r_aaldR (dc_X9_letter 38 rfl) (kd := 4) rfl e0 ?_
      obtain ⟨p12, e0, h⟩ := Option.bind_eq_some_iff.mp h
      refine r_getR (dc_X9_letter 39 rfl) fl_RX9_180 e0 ?_
      obtain ⟨x13, e0, h⟩ := Option.bind_eq_some_iff.mp h
      refine r_callV (dc_X9_letter 40 rfl) mv_X1_shared ml_RX9_183 (As := [.ref p12]) (t_X1_shared (d := d - 1) hl (by omega) e0) (by omega) rfl (Nat.le_of_ble_eq_true rfl) ?_
      cases h
      exact r_ireturn (dc_X9_letter 41 rfl) rfl
    · rw [if_pos c0] at h
      refine r_aload (dc_X9_letter 29 rfl) rfl ?_
      obtain ⟨x14, e0, h⟩ := Option.bind_eq_some_iff.mp h
      refine r_getI (dc_X9_letter 30 rfl) fl_RX9_176 e0 ?_
      refine r_goto (dc_X9_letter 31 rfl) (tgt := 80) (by decide) ?_
      cases h
      exact r_ireturn (dc_X9_letter 41 rfl) rfl
  · rw [if_pos c0] at h
    refine r_aload (dc_X9_letter 23 rfl) rfl ?_
    obtain ⟨x15, e0, h⟩ := Option.bind_eq_some_iff.mp h
    refine r_getI (dc_X9_letter 24 rfl) fl_RX9_173 e0 ?_
    cases h
    exact r_ireturn (dc_X9_letter 25 rfl) rfl
theorem t_X9_inLetter {G : Gx} {d : Nat} (hl : G.1.stackTraces = false) (hd : 7 ≤ d) {σ : Sto} {a0 : Nat} {xa1 : Int32} {xa2 : Int32} {xa3 : Int32} {xa4 : Int32} {r : ((Int32 ⊕ String) × Sto)} (h : F_X9_inLetter σ a0 xa1 xa2 xa3 xa4 = some r) : Mi G d m_X9_inLetter 9 a0 [.int xa1, .int xa2, .int xa3, .int xa4] σ (toI r.1) r.2 := by
  rw [F_X9_inLetter] at h
  obtain ⟨hg, h⟩ := chk_some h
  refine ⟨J.toMt (lo := [(0, .ref a0), (1, .int xa1), (2, .int xa2), (3, .int xa3), (4, .int xa4)]) pn_RX9 rfl hl (Nat.le_of_ble_eq_true rfl) rfl ?_, hg⟩
  refine r_aload_n (dc_X9_inLetter 0 rfl) rfl rfl ?_
  refine r_iload_n (dc_X9_inLetter 1 rfl) rfl rfl ?_
  refine r_iload_n (dc_X9_inLetter 2 rfl) rfl rfl ?_
  rcases tb_some h with ⟨u0, s1, e0, h⟩ | ⟨E0, s1, e0, h⟩
  rotate_left
  · subst h
    exact r_callVX (dc_X9_inLetter 3 rfl) mv_X9_needTwoSites ml_RX9_117 (As := [.int xa1, .int xa2]) (t_X9_needTwoSites (d := d - 1) hl (by omega) e0) (by omega) rfl (Nat.le_of_ble_eq_true rfl) rfl
  refine r_callV (dc_X9_inLetter 3 rfl) mv_X9_needTwoSites ml_RX9_117 (As := [.int xa1, .int xa2]) (t_X9_needTwoSites (d := d - 1) hl (by omega) e0) (by omega) rfl (Nat.le_of_ble_eq_true rfl) ?_
  refine r_aload_n (dc_X9_inLetter 4 rfl) rfl rfl ?_
  refine r_iload_n (dc_X9_inLetter 5 rfl) rfl rfl ?_
  refine r_iload_n (dc_X9_inLetter 6 rfl) rfl rfl ?_
  refine r_iload_n (dc_X9_inLetter 7 rfl) rfl rfl ?_
  rcases tb_some h with ⟨u0, s2, e0, h⟩ | ⟨E0, s2, e0, h⟩
  rotate_left
  · subst h
    exact r_callVX (dc_X9_inLetter 8 rfl) mv_X9_needLetter ml_RX9_133 (As := [.int xa1, .int xa2, .int xa3]) (t_X9_needLetter (d := d - 1) hl (by omega) e0) (by omega) rfl (Nat.le_of_ble_eq_true rfl) rfl
  refine r_callV (dc_X9_inLetter 8 rfl) mv_X9_needLetter ml_RX9_133 (As := [.int xa1, .int xa2, .int xa3]) (t_X9_needLetter (d := d - 1) hl (by omega) e0) (by omega) rfl (Nat.le_of_ble_eq_true rfl) ?_
  refine r_aload_n (dc_X9_inLetter 9 rfl) rfl rfl ?_
  obtain ⟨p3, e0, h⟩ := Option.bind_eq_some_iff.mp h
  refine r_getR (dc_X9_inLetter 10 rfl) fl_RX9_12 e0 ?_
  refine r_iload_n (dc_X9_inLetter 11 rfl) rfl rfl ?_
  refine r_iload_n (dc_X9_inLetter 12 rfl) rfl rfl ?_
  obtain ⟨p4, e0, h⟩ := Option.bind_eq_some_iff.mp h
  refine r_callV (dc_X9_inLetter 13 rfl) mv_X8_row ml_RX9_148 (As := [.int xa1, .int xa2]) (t_X8_row (d := d - 1) hl (by omega) e0) (by omega) rfl (Nat.le_of_ble_eq_true rfl) ?_
  refine r_iload_n (dc_X9_inLetter 14 rfl) rfl rfl ?_
  obtain ⟨p6, s5, e0, h⟩ := wb_some h
  refine r_callV (dc_X9_inLetter 15 rfl) mv_X4_at ml_RX9_169 (As := [.int xa3]) (t_X4_at (d := d - 1) hl (by omega) e0) (by omega) rfl (Nat.le_of_ble_eq_true rfl) ?_
  refine r_astore (dc_X9_inLetter 16 rfl) (by decide) (lo' := [(5, .ref p6), (0, .ref a0), (1, .int xa1), (2, .int xa2), (3, .int xa3), (4, .int xa4)]) rfl ?_
  refine r_iload (dc_X9_inLetter 17 rfl) rfl ?_
  refine r_if_lt (dc_X9_inLetter 18 rfl) (tgt := 43) (by decide) (fun c0 => ?_) (fun c0 => ?_)
  · rw [if_pos c0] at h
    cases h
    exact r_throwN tl_RX9_109_113 (str_in 12 rfl) (dc_X9_inLetter 23 rfl) (dc_X9_inLetter 24 rfl) (dc_X9_inLetter 25 rfl) (dc_X9_inLetter 26 rfl) (dc_X9_inLetter 27 rfl) rfl (by omega) (Nat.le_of_ble_eq_true rfl)
  · rw [if_neg c0] at h
    refine r_iload (dc_X9_inLetter 19 rfl) rfl ?_
    refine r_aload (dc_X9_inLetter 20 rfl) rfl ?_
    obtain ⟨x7, e0, h⟩ := Option.bind_eq_some_iff.mp h
    refine r_getI (dc_X9_inLetter 21 rfl) fl_RX9_173 e0 ?_
    refine r_icmp_lt (dc_X9_inLetter 22 rfl) (tgt := 53) (by decide) (fun c0 => ?_) (fun c0 => ?_)
    · rw [if_pos c0] at h
      refine r_aload (dc_X9_inLetter 28 rfl) rfl ?_
      obtain ⟨p8, e0, h⟩ := Option.bind_eq_some_iff.mp h
      refine r_getR (dc_X9_inLetter 29 rfl) fl_RX9_189 e0 ?_
      refine r_iload (dc_X9_inLetter 30 rfl) rfl ?_
      obtain ⟨x9, e0, h⟩ := Option.bind_eq_some_iff.mp h
      refine r_iald (dc_X9_inLetter 31 rfl) e0 ?_
      cases h
      exact r_ireturn (dc_X9_inLetter 32 rfl) rfl
    · rw [if_neg c0] at h
      cases h
      exact r_throwN tl_RX9_109_113 (str_in 12 rfl) (dc_X9_inLetter 23 rfl) (dc_X9_inLetter 24 rfl) (dc_X9_inLetter 25 rfl) (dc_X9_inLetter 26 rfl) (dc_X9_inLetter 27 rfl) rfl (by omega) (Nat.le_of_ble_eq_true rfl)
theorem t_X9_save {G : Gx} {d : Nat} (hl : G.1.stackTraces = false) (hd : 7 ≤ d) {σ : Sto} {a0 : Nat} {xa1 : Int32} {r : ((Int32 ⊕ String) × Sto)} (h : F_X9_save σ a0 xa1 = some r) : Mi G d m_X9_save 9 a0 [.int xa1] σ (toI r.1) r.2 := by
  rw [F_X9_save] at h
  obtain ⟨hg, h⟩ := chk_some h
  refine ⟨J.toMt (lo := [(0, .ref a0), (1, .int xa1)]) pn_RX9 rfl hl (Nat.le_of_ble_eq_true rfl) rfl ?_, hg⟩
  refine r_aload_n (dc_X9_save 0 rfl) rfl rfl ?_
  refine r_iload_n (dc_X9_save 1 rfl) rfl rfl ?_
  rcases tb_some h with ⟨u0, s1, e0, h⟩ | ⟨E0, s1, e0, h⟩
  rotate_left
  · subst h
    exact r_callVX (dc_X9_save 2 rfl) mv_X9_needSite ml_RX9_67 (As := [.int xa1]) (t_X9_needSite (d := d - 1) hl (by omega) e0) (by omega) rfl (Nat.le_of_ble_eq_true rfl) rfl
  refine r_callV (dc_X9_save 2 rfl) mv_X9_needSite ml_RX9_67 (As := [.int xa1]) (t_X9_needSite (d := d - 1) hl (by omega) e0) (by omega) rfl (Nat.le_of_ble_eq_true rfl) ?_
  refine r_aload_n (dc_X9_save 3 rfl) rfl rfl ?_
  refine r_bipush (dc_X9_save 4 rfl) kbipush_6 ?_
  refine r_iload_n (dc_X9_save 5 rfl) rfl rfl ?_
  refine r_aload_n (dc_X9_save 6 rfl) rfl rfl ?_
  obtain ⟨p2, e0, h⟩ := Option.bind_eq_some_iff.mp h
  refine r_getR (dc_X9_save 7 rfl) fl_RX9_12 e0 ?_
  refine r_iload_n (dc_X9_save 8 rfl) rfl rfl ?_
  obtain ⟨x4, s3, e0, h⟩ := wb_some h
  refine r_callV (dc_X9_save 9 rfl) mv_X8_store ml_RX9_193 (As := [.int xa1]) (t_X8_store (d := d - 1) hl (by omega) e0) (by omega) rfl (Nat.le_of_ble_eq_true rfl) ?_
  obtain ⟨x6, s5, e0, h⟩ := wb_some h
  refine r_callV (dc_X9_save 10 rfl) mv_X9_traced ml_RX9_80 (As := [.int (6 : Int32), .int xa1, .int x4]) (t_X9_traced (d := d - 1) hl (by omega) e0) (by omega) rfl (Nat.le_of_ble_eq_true rfl) ?_
  cases h
  exact r_ireturn (dc_X9_save 11 rfl) rfl
theorem t_X9_fall {G : Gx} {d : Nat} (hl : G.1.stackTraces = false) (hd : 7 ≤ d) {σ : Sto} {a0 : Nat} {xa1 : Int32} {r : ((Int32 ⊕ String) × Sto)} (h : F_X9_fall σ a0 xa1 = some r) : Mi G d m_X9_fall 9 a0 [.int xa1] σ (toI r.1) r.2 := by
  rw [F_X9_fall] at h
  obtain ⟨hg, h⟩ := chk_some h
  refine ⟨J.toMt (lo := [(0, .ref a0), (1, .int xa1)]) pn_RX9 rfl hl (Nat.le_of_ble_eq_true rfl) rfl ?_, hg⟩
  refine r_aload_n (dc_X9_fall 0 rfl) rfl rfl ?_
  refine r_iload_n (dc_X9_fall 1 rfl) rfl rfl ?_
  rcases tb_some h with ⟨u0, s1, e0, h⟩ | ⟨E0, s1, e0, h⟩
  rotate_left
  · subst h
    exact r_callVX (dc_X9_fall 2 rfl) mv_X9_needSite ml_RX9_67 (As := [.int xa1]) (t_X9_needSite (d := d - 1) hl (by omega) e0) (by omega) rfl (Nat.le_of_ble_eq_true rfl) rfl
  refine r_callV (dc_X9_fall 2 rfl) mv_X9_needSite ml_RX9_67 (As := [.int xa1]) (t_X9_needSite (d := d - 1) hl (by omega) e0) (by omega) rfl (Nat.le_of_ble_eq_true rfl) ?_
  refine r_aload_n (dc_X9_fall 3 rfl) rfl rfl ?_
  refine r_bipush (dc_X9_fall 4 rfl) kbipush_7 ?_
  refine r_iload_n (dc_X9_fall 5 rfl) rfl rfl ?_
  refine r_aload_n (dc_X9_fall 6 rfl) rfl rfl ?_
  obtain ⟨p2, e0, h⟩ := Option.bind_eq_some_iff.mp h
  refine r_getR (dc_X9_fall 7 rfl) fl_RX9_12 e0 ?_
  refine r_iload_n (dc_X9_fall 8 rfl) rfl rfl ?_
  obtain ⟨x4, s3, e0, h⟩ := wb_some h
  refine r_callV (dc_X9_fall 9 rfl) mv_X8_restore ml_RX9_197 (As := [.int xa1]) (t_X8_restore (d := d - 1) hl (by omega) e0) (by omega) rfl (Nat.le_of_ble_eq_true rfl) ?_
  obtain ⟨x6, s5, e0, h⟩ := wb_some h
  refine r_callV (dc_X9_fall 10 rfl) mv_X9_traced ml_RX9_80 (As := [.int (7 : Int32), .int xa1, .int x4]) (t_X9_traced (d := d - 1) hl (by omega) e0) (by omega) rfl (Nat.le_of_ble_eq_true rfl) ?_
  cases h
  exact r_ireturn (dc_X9_fall 11 rfl) rfl
