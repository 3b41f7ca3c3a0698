/-! ===== PURE 47: the class's constructors ===== -/
/-- a cell is made, and a field of p is set to it -/
theorem nwf {σ : Sto} {p c k m N : Nat} {fs : List Value} {e : Ent} (h : cel σ p = some (.inl (c, fs))) (hk : k < fs.length) (hl : σ.1.length = m) : ∃ t, (∀ K : Sto → Option Sto, nw_ σ e N (fun p2 s1 => (sV s1 p c k (.ref p2)).bind K) = K t) ∧ cel t p = some (.inl (c, fs.set k (.ref m))) ∧ cel t m = some e ∧ (∀ i, i ≠ p → i ≠ m → cel t i = cel σ i) ∧ t.1.length = m + 1 ∧ t.2 = σ.2 + N := by
  have hp := cel_lt h
  have c0 : ∀ i, cel (apc σ e N) i = if i = m then some e else cel σ i := fun i => by rw [cel_apc, hl]
  have o0 : cel (apc σ e N) p = some (.inl (c, fs)) := by rw [c0, if_neg (by omega), h]
  refine ⟨stc (apc σ e N) p (.inl (c, fs.set k (.ref m))), fun K => ?_, cel_stc_s o0, ?_, fun i h1 h2 => ?_, by rw [len_stc, len_apc, hl], rfl⟩
  · unfold nw_
    show (sV (apc σ e N) p c k (.ref σ.1.length)).bind K = _
    rw [hl, sV_cel o0 hk, bind_some']
  · rw [cel_stc_n o0 (by omega), c0, if_pos rfl]
  · rw [cel_stc_n o0 h1, c0, if_neg h2]
theorem nwf1 {σ : Sto} {p c k m N : Nat} {fs : List Value} {e : Ent} (h : cel σ p = some (.inl (c, fs))) (hk : k < fs.length) (hl : σ.1.length = m) : ∃ t, (∀ K : Sto → Option Sto, nw_ σ e N (fun p2 s1 => (F_X1_init s1 p2).bind fun _ => (sV s1 p c k (.ref p2)).bind K) = K t) ∧ cel t p = some (.inl (c, fs.set k (.ref m))) ∧ cel t m = some e ∧ (∀ i, i ≠ p → i ≠ m → cel t i = cel σ i) ∧ t.1.length = m + 1 ∧ t.2 = σ.2 + N := nwf h hk hl
section NEW
variable {σ : Sto} {p : Nat}
theorem C_newSite (h : cel σ p = some (.inl (6, dfl_6))) (hl : σ.1.length = p + 1) : ∃ t, F_X6_init σ p = some t ∧ SI t p sBeg ∧ (∀ i, i < p → cel t i = cel σ i) ∧ t.1.length = p + 7 ∧ t.2 = σ.2 + 389 := by
  obtain ⟨t1, K1, o1, a1, n1, l1, z1⟩ := nwf1 (k := 0) (N := 2) (e := .inl (1, dfl_1)) h (Nat.le_of_ble_eq_true rfl) hl
  obtain ⟨t2, K2, o2, a2, n2, l2, z2⟩ := nwf1 (k := 1) (N := 2) (e := .inl (1, dfl_1)) o1 (Nat.le_of_ble_eq_true rfl) l1
  obtain ⟨t3, K3, o3, a3, n3, l3, z3⟩ := nwf (k := 2) (N := 120) (e := .inr (0, (120, .inl (fun _ => 0)))) o2 (Nat.le_of_ble_eq_true rfl) l2
  obtain ⟨t4, K4, o4, a4, n4, l4, z4⟩ := nwf (k := 4) (N := 25) (e := .inr (0, (25, .inl (fun _ => 0)))) o3 (Nat.le_of_ble_eq_true rfl) l3
  obtain ⟨t5, K5, o5, a5, n5, l5, z5⟩ := nwf (k := 5) (N := 120) (e := .inr (0, (120, .inl (fun _ => 0)))) o4 (Nat.le_of_ble_eq_true rfl) l4
  obtain ⟨t6, K6, o6, a6, n6, l6, z6⟩ := nwf (k := 6) (N := 120) (e := .inr (0, (120, .inl (fun _ => 0)))) o5 (Nat.le_of_ble_eq_true rfl) l5
  refine ⟨t6, ?_, ⟨fun _ => 0, fun _ => 0, fun _ => 0, fun _ => 0, o6, es0 ?_, es0 ?_, ia0 ?_, ia0 ?_, ia0 ?_, ia0 a6, fun i x hx => by simp [sBeg, sLg] at hx, fun _ _ => rfl, fun e _ he => by simp [sBeg, sHs] at he, Nat.zero_le _⟩, fun i hi => ?_, by omega, by omega⟩
  · unfold F_X6_init
    rw [show ((120 : Int32).toNatClampNeg) = 120 from rfl, show ((25 : Int32).toNatClampNeg) = 25 from rfl]
    rw [K1, K2, K3, K4, K5, K6]
  · rw [n6 _ (by omega) (by omega), n5 _ (by omega) (by omega), n4 _ (by omega) (by omega), n3 _ (by omega) (by omega), n2 _ (by omega) (by omega)]; exact a1
  · rw [n6 _ (by omega) (by omega), n5 _ (by omega) (by omega), n4 _ (by omega) (by omega), n3 _ (by omega) (by omega)]; exact a2
  · rw [n6 _ (by omega) (by omega), n5 _ (by omega) (by omega), n4 _ (by omega) (by omega)]; exact a3
  · rw [n6 _ (by omega) (by omega), n5 _ (by omega) (by omega)]; exact a4
  · rw [n6 _ (by omega) (by omega)]; exact a5
  · rw [n6 _ (by omega) (by omega), n5 _ (by omega) (by omega), n4 _ (by omega) (by omega), n3 _ (by omega) (by omega), n2 _ (by omega) (by omega), n1 _ (by omega) (by omega)]
theorem C_newTrace (h : cel σ p = some (.inl (7, dfl_7))) (hl : σ.1.length = p + 1) : ∃ t, F_X7_init σ p = some t ∧ CT t p [] ∧ (∀ i, i < p → cel t i = cel σ i) ∧ t.1.length = p + 5 ∧ t.2 = σ.2 + 128 := by
  obtain ⟨t1, K1, o1, a1, n1, l1, z1⟩ := nwf (k := 2) (N := 32) (e := .inr (0, (32, .inl (fun _ => 0)))) h (Nat.le_of_ble_eq_true rfl) hl
  obtain ⟨t2, K2, o2, a2, n2, l2, z2⟩ := nwf (k := 3) (N := 32) (e := .inr (0, (32, .inl (fun _ => 0)))) o1 (Nat.le_of_ble_eq_true rfl) l1
  obtain ⟨t3, K3, o3, a3, n3, l3, z3⟩ := nwf (k := 4) (N := 32) (e := .inr (0, (32, .inl (fun _ => 0)))) o2 (Nat.le_of_ble_eq_true rfl) l2
  obtain ⟨t4, K4, o4, a4, n4, l4, z4⟩ := nwf (k := 5) (N := 32) (e := .inr (0, (32, .inl (fun _ => 0)))) o3 (Nat.le_of_ble_eq_true rfl) l3
  refine ⟨t4, ?_, ⟨fun _ _ => 0, o4, fun k hk => ia0 ?_, fun j t _ ht => by simp at ht⟩, fun i hi => ?_, by omega, by omega⟩
  · unfold F_X7_init
    rw [show ((32 : Int32).toNatClampNeg) = 32 from rfl]
    rw [K1, K2, K3, K4]
  · have k4 : k = 0 ∨ k = 1 ∨ k = 2 ∨ k = 3 := by omega
    rcases k4 with rfl | rfl | rfl | rfl
    · rw [n4 _ (by omega) (by omega), n3 _ (by omega) (by omega), n2 _ (by omega) (by omega)]; exact a1
    · rw [n4 _ (by omega) (by omega), n3 _ (by omega) (by omega)]; exact a2
    · rw [n4 _ (by omega) (by omega)]; exact a3
    · exact a4
  · rw [n4 _ (by omega) (by omega), n3 _ (by omega) (by omega), n2 _ (by omega) (by omega), n1 _ (by omega) (by omega)]
theorem C_newCouples (h : cel σ p = some (.inl (0, dfl_0))) (hl : σ.1.length = p + 1) (b : Nat) : ∃ t, F_X0_init σ p b = some t ∧ CP t p b 0 0 (fun _ => 0) (fun _ => 0) (fun _ => 0) ∧ (∀ i, i < p → cel t i = cel σ i) ∧ t.1.length = p + 4 ∧ t.2 = σ.2 + 40 := by
  obtain ⟨t1, K1, o1, a1, n1, l1, z1⟩ := nwf (k := 3) (N := 6) (e := .inr (0, (6, .inl (fun _ => 0)))) h (Nat.le_of_ble_eq_true rfl) hl
  obtain ⟨t2, K2, o2, a2, n2, l2, z2⟩ := nwf (k := 4) (N := 6) (e := .inr (0, (6, .inl (fun _ => 0)))) o1 (Nat.le_of_ble_eq_true rfl) l1
  obtain ⟨t3, K3, o3, a3, n3, l3, z3⟩ := nwf (k := 5) (N := 28) (e := .inr (0, (28, .inl (fun _ => 0)))) o2 (Nat.le_of_ble_eq_true rfl) l2
  have o4 := cel_stc_s (e := .inl (0, cO0 p b 0 0)) o3
  refine ⟨stc t3 p (.inl (0, cO0 p b 0 0)), ?_, ⟨o4, ia0 ?_, ia0 ?_, ia0 ?_⟩, fun i hi => ?_, by rw [len_stc]; omega, by show t3.2 = _; omega⟩
  · unfold F_X0_init
    rw [show ((6 : Int32).toNatClampNeg) = 6 from rfl, show ((28 : Int32).toNatClampNeg) = 28 from rfl]
    rw [K1, K2, K3, sV_cel o3 (Nat.le_of_ble_eq_true rfl), bind_some']
    rfl
  · rw [cel_stc_n o3 (by omega), n3 _ (by omega) (by omega), n2 _ (by omega) (by omega)]; exact a1
  · rw [cel_stc_n o3 (by omega), n3 _ (by omega) (by omega)]; exact a2
  · rw [cel_stc_n o3 (by omega)]; exact a3
  · rw [cel_stc_n o3 (by omega), n3 _ (by omega) (by omega), n2 _ (by omega) (by omega), n1 _ (by omega) (by omega)]
theorem C_newEvents (h : cel σ p = some (.inl (2, dfl_2))) (hl : σ.1.length = p + 1) : ∃ t, F_X2_init σ p = some t ∧ EE t p 0 (fun _ => 0) eBeg ∧ (∀ i, i < p → cel t i = cel σ i) ∧ t.1.length = p + 129 ∧ t.2 = σ.2 + 1085 := by
  obtain ⟨t1, K1, o1, a1, n1, l1, z1⟩ := nwf (k := 1) (N := 5) (e := .inr (0, (5, .inl (fun _ => 0)))) h (Nat.le_of_ble_eq_true rfl) hl
  obtain ⟨t2, K2, o2, a2, n2, l2, z2⟩ := nwf (k := 2) (N := 120) (e := .inr (0, (120, .inl (fun _ => 0)))) o1 (Nat.le_of_ble_eq_true rfl) l1
  obtain ⟨t3, K3, o3, a3, n3, l3, z3⟩ := nwf (k := 3) (N := 120) (e := .inr (0, (120, .inl (fun _ => 0)))) o2 (Nat.le_of_ble_eq_true rfl) l2
  obtain ⟨t4, K4, o4, a4, n4, l4, z4⟩ := nwf (k := 4) (N := 120) (e := .inr (0, (120, .inl (fun _ => 0)))) o3 (Nat.le_of_ble_eq_true rfl) l3
  obtain ⟨t5, K5, o5, a5, n5, l5, z5⟩ := nwf (k := 5) (N := 120) (e := .inr (0, (120, .inl (fun _ => 0)))) o4 (Nat.le_of_ble_eq_true rfl) l4
  obtain ⟨t6, K6, o6, a6, n6, l6, z6⟩ := nwf (k := 6) (N := 120) (e := .inr (0, (120, .inl (fun _ => 0)))) o5 (Nat.le_of_ble_eq_true rfl) l5
  obtain ⟨t7, K7, o7, a7, n7, l7, z7⟩ := nwf (k := 7) (N := 120) (e := .inr (0, (120, .inl (fun _ => 0)))) o6 (Nat.le_of_ble_eq_true rfl) l6
  obtain ⟨t8, K8, o8, a8, n8, l8, z8⟩ := nwf (k := 8) (N := 120) (e := .inr (3, (120, .inr (.inr (.inr (.inr (fun _ => none))))))) o7 (Nat.le_of_ble_eq_true rfl) l7
  have o8' : cel t8 p = some (.inl (2, eO2 p 0)) := o8
  have b1 : cel t8 (p + 1) = some (.inr (0, (5, .inl (fun _ => 0)))) := by
    rw [n8 _ (by omega) (by omega), n7 _ (by omega) (by omega), n6 _ (by omega) (by omega), n5 _ (by omega) (by omega), n4 _ (by omega) (by omega), n3 _ (by omega) (by omega), n2 _ (by omega) (by omega)]; exact a1
  have b2 : cel t8 (p + 2) = some (.inr (0, (120, .inl (fun _ => 0)))) := by
    rw [n8 _ (by omega) (by omega), n7 _ (by omega) (by omega), n6 _ (by omega) (by omega), n5 _ (by omega) (by omega), n4 _ (by omega) (by omega), n3 _ (by omega) (by omega)]; exact a2
  have b3 : cel t8 (p + 3) = some (.inr (0, (120, .inl (fun _ => 0)))) := by
    rw [n8 _ (by omega) (by omega), n7 _ (by omega) (by omega), n6 _ (by omega) (by omega), n5 _ (by omega) (by omega), n4 _ (by omega) (by omega)]; exact a3
  have b4 : cel t8 (p + 4) = some (.inr (0, (120, .inl (fun _ => 0)))) := by
    rw [n8 _ (by omega) (by omega), n7 _ (by omega) (by omega), n6 _ (by omega) (by omega), n5 _ (by omega) (by omega)]; exact a4
  have b5 : cel t8 (p + 5) = some (.inr (0, (120, .inl (fun _ => 0)))) := by
    rw [n8 _ (by omega) (by omega), n7 _ (by omega) (by omega), n6 _ (by omega) (by omega)]; exact a5
  have b6 : cel t8 (p + 6) = some (.inr (0, (120, .inl (fun _ => 0)))) := by
    rw [n8 _ (by omega) (by omega), n7 _ (by omega) (by omega)]; exact a6
  have b7 : cel t8 (p + 7) = some (.inr (0, (120, .inl (fun _ => 0)))) := by
    rw [n8 _ (by omega) (by omega)]; exact a7
  have b8 : RA t8 (p + 8) 3 120 (fun _ => none) := a8
  have fr8 : ∀ i, i < p → cel t8 i = cel σ i := fun i hi => by
    rw [n8 _ (by omega) (by omega), n7 _ (by omega) (by omega), n6 _ (by omega) (by omega), n5 _ (by omega) (by omega), n4 _ (by omega) (by omega), n3 _ (by omega) (by omega), n2 _ (by omega) (by omega), n1 _ (by omega) (by omega)]
  obtain ⟨t9, ⟨L9, z9, f9, r9, s9⟩, e9⟩ := lpS (fun fl j t => F_X2_init_L70 p fl (nI j) t (fun s29 => some s29)) (fun t => some t) (fun j t => t.1.length = p + 9 + j ∧ t.2 = t8.2 + 2 * j ∧ (∀ i, i < p + 8 → cel t i = cel t8 i) ∧ RA t (p + 8) 3 120 (fun e => if e < j then some (p + 9 + e) else none) ∧ ∀ e, e < j → cel t (p + 9 + e) = some (.inl (1, dfl_1))) 120 (by
    intro j fl t hj ⟨L9, z9, f9, r9, s9⟩
    have c0 : ∀ i, cel (apc t (.inl (1, dfl_1)) 2) i = if i = p + 9 + j then some (.inl (1, dfl_1)) else cel t i := fun i => by rw [cel_apc, L9]
    have r0 : RA (apc t (.inl (1, dfl_1)) 2) (p + 8) 3 120 (fun e => if e < j then some (p + 9 + e) else none) := by
      unfold RA; rw [c0, if_neg (by omega)]; exact r9
    have og : (gO (apc t (.inl (1, dfl_1)) 2) (p + 9 + j) 1).isSome = true := gOs_cel (by rw [c0, if_pos rfl])
    obtain ⟨u, e1, r1, F1⟩ := r0.wr (j := j) (r := p + 9 + j) hj (by decide) og
    refine ⟨u, ⟨?_, ?_, fun i hi => ?_, ?_, fun e he => ?_⟩, ?_⟩
    · rw [F1.2.1, len_apc]; omega
    · rw [F1.1]; show t.2 + 2 = _; omega
    · rw [F1.at (by omega), c0, if_neg (by omega)]; exact f9 i hi
    · have : up (fun e => if e < j then some (p + 9 + e) else none) j (some (p + 9 + j)) = fun e => if e < j + 1 then some (p + 9 + e) else none := by
        funext e
        by_cases hej : e = j
        · rw [hej, up_s, if_pos (by omega)]
        · rw [up_n _ _ hej]
          by_cases hlt : e < j
          · rw [if_pos hlt, if_pos (by omega)]
          · rw [if_neg hlt, if_neg (by omega)]
      rw [← this]; exact r1
    · rw [F1.at (by omega), c0]
      by_cases hej : e = j
      · rw [hej, if_pos rfl]
      · rw [if_neg (by omega)]; exact s9 e (by omega)
    · show F_X2_init_L70 p (fl + 1) (nI j) t (fun s29 => some s29) = F_X2_init_L70 p fl (nI (j + 1)) u (fun s29 => some s29)
      rw [F_X2_init_L70, show (120 : Int32) = nI 120 from rfl, if_neg (by rw [nI_leI (by omega) (by omega)]; omega), gR_cel ((f9 p (by omega)).trans o8') rfl, bind_some']
      unfold nw_
      show (aast (apc t (.inl (1, dfl_1)) 2) (p + 8) 3 (nI j) t.1.length).bind _ = _
      rw [L9, e1, bind_some', l_1, nI_add]) (by
    intro fl t _
    show F_X2_init_L70 p (fl + 1) (nI 120) t (fun s29 => some s29) = some t
    rw [F_X2_init_L70, if_pos (by decide)]) fu t8 (by unfold fu; omega) ⟨by omega, by omega, fun _ _ => rfl, b8, fun e he => absurd he (Nat.not_lt_zero e)⟩
  refine ⟨t9, ?_, ⟨fun _ _ => 0, (f9 p (by omega)).trans o8', fun k h1 h2 => ia0 ?_, r9, fun e he => ⟨_, es0 (s9 e he), fun hc => absurd hc (Nat.not_lt_zero e)⟩, fun _ _ => rfl, fun e hc => absurd hc (Nat.not_lt_zero e)⟩, fun i hi => (f9 i (by omega)).trans (fr8 i hi), by omega, by omega⟩
  · unfold F_X2_init
    rw [show ((120 : Int32).toNatClampNeg) = 120 from rfl, show ((5 : Int32).toNatClampNeg) = 5 from rfl]
    rw [K1, K2, K3, K4, K5, K6, K7, K8, l_0]
    exact e9
  · rw [f9 _ (by omega)]
    have k7 : k = 1 ∨ k = 2 ∨ k = 3 ∨ k = 4 ∨ k = 5 ∨ k = 6 ∨ k = 7 := by omega
    rcases k7 with rfl | rfl | rfl | rfl | rfl | rfl | rfl
    · exact b1
    · exact b2
    · exact b3
    · exact b4
    · exact b5
    · exact b6
    · exact b7
end NEW
