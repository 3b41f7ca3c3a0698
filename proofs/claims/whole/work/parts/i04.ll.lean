/-! ===== PURE 96: the law: cut, fewest, count; the beginning; the whole ===== -/
theorem jint {ρ : Type} (x : Int32) (F : Int32 → Option ρ) : jn F (fun j => if x = 0 then j (0 : Int32) else j (1 : Int32)) = F (if x = 0 then (0 : Int32) else 1) := by
  by_cases h : x = 0
  · rw [jn_eq, if_pos h, if_pos h]
  · rw [jn_eq, if_neg h, if_neg h]
theorem L_cut {σ : Sto} {A : Ga} {c z n i sl : Nat} {Q : Nat → Prop} {sx : Nat → Int32} (h : LI σ A c z Q n) (hn : n ≤ 512) (hi' : i + 5 ≤ sl) (hs : sl ≤ 2560) (kJ : Sto → Option (Int32 × Sto)) : ∃ σ' A' c' z' Q', F_L_law_C17 sl sx 1 310 324 (nI i) σ kJ = kJ σ' ∧ LI σ' A' c' z' Q' (n + 1) := by
  have hA := h.2.2.1
  have i' := hA.1
  have hl : A.2.2.1.length < 2 ^ 31 - 1 := by have := hA.2.2.2.2; omega
  have hcd : ∀ (y : Int32) e, (aCut A (sx (i + 1)) (sx (i + 2)) y).1 = .inr e → Kd (cd1 eIO) (fun E0 s0 => if E0 = eIO then some ((1 : Int32), s0) else none) e := fun y e he => by
    cases t_aCut he
    exact cx1 _
  have hkk : ∀ (x : Int32) (s : Sto), (if x = 0 then (last s 324 (0 : Int32) (0 : Int64)).bind fun s3 => some ((0 : Int32), s3) else (last s 324 (0 : Int32) (1 : Int64)).bind fun s4 => some ((0 : Int32), s4)) = (last s 324 (0 : Int32) (if x = 0 then (0 : Int64) else 1)).bind fun s3 => some ((0 : Int32), s3) := fun x s => by
    by_cases hx : x = 0
    · rw [if_pos hx, if_pos hx]
    · rw [if_neg hx, if_neg hx]
  unfold F_L_law_C17
  rw [sld1 hi' hs, bind_some', sld2 hi' hs, bind_some', sld3 hi' hs, bind_some', jint]
  by_cases hx : sx (i + 3) = 0
  · rw [if_pos hx]
    unfold F_L_cut
    exact lw_step (FR := fun s => F_X10_cut s 310 (sx (i + 1)) (sx (i + 2)) 0) (cd := cd1 eIO) (fun x => if x = 0 then (0 : Int64) else 1) h (C_cut h.1 i' (sx (i + 1)) (sx (i + 2)) false) (fun s c' hr => R_cut hr i' hl (sx (i + 1)) (sx (i + 2)) 0) (ai_aCut h.2.2.1 _ _ _) (hcd _) hkk (fun x12 s11 => by simp only [bind_some', jint, jbool, if_pos hx])
  · rw [if_neg hx]
    unfold F_L_cut
    exact lw_step (FR := fun s => F_X10_cut s 310 (sx (i + 1)) (sx (i + 2)) 1) (cd := cd1 eIO) (fun x => if x = 0 then (0 : Int64) else 1) h (C_cut h.1 i' (sx (i + 1)) (sx (i + 2)) true) (fun s c' hr => R_cut hr i' hl (sx (i + 1)) (sx (i + 2)) 1) (ai_aCut h.2.2.1 _ _ _) (hcd _) hkk (fun x12 s11 => by simp only [bind_some', jint, jbool, if_neg hx])
theorem L_count {σ : Sto} {A : Ga} {c z n i sl : Nat} {Q : Nat → Prop} {sx : Nat → Int32} (h : LI σ A c z Q n) (hn : n ≤ 512) (hi' : i + 5 ≤ sl) (hs : sl ≤ 2560) (kJ : Sto → Option (Int32 × Sto)) : ∃ σ' A' c' z' Q', F_L_law_C45 sl sx 1 310 324 (nI i) σ kJ = kJ σ' ∧ LI σ' A' c' z' Q' (n + 1) := by
  have i' := h.2.2.1.1
  unfold F_L_law_C45
  rw [sld1 hi' hs, bind_some']
  exact lw_q (FR := fun s => F_X10_count s 310 (sx (i + 1))) h (C_count h.1 i' (sx (i + 1))) (fun s c' hr => R_count hr i' (sx (i + 1))) (fun _ _ => rfl)
/-- what is to be shown of the couples -/
def FewOK : Prop := ∀ (s : Sto) (a c : Nat) (A : Ga) (k : Int32), RJ s a c A → Iv A.1 → Rq s a (F_X10_fewest s a k) (aFew A k) A
theorem L_fewest (hF : FewOK) {σ : Sto} {A : Ga} {c z n i sl : Nat} {Q : Nat → Prop} {sx : Nat → Int32} (h : LI σ A c z Q n) (hn : n ≤ 512) (hi' : i + 5 ≤ sl) (hs : sl ≤ 2560) (kJ : Sto → Option (Int32 × Sto)) : ∃ σ' A' c' z' Q', F_L_law_C44 sl sx 1 310 324 (nI i) σ kJ = kJ σ' ∧ LI σ' A' c' z' Q' (n + 1) := by
  have i' := h.2.2.1.1
  unfold F_L_law_C44
  rw [sld1 hi' hs, bind_some']
  exact lw_q (FR := fun s => F_X10_fewest s 310 (sx (i + 1))) h (C_fewest h.1 i' (sx (i + 1))) (fun s c' hr => hF s 310 c' A (sx (i + 1)) hr i') (fun _ _ => rfl)
theorem ne_a (a k : Nat) : a + 1 + k ≠ a := by omega
theorem ne_k {a k j : Nat} (h : k ≠ j) : a + 1 + k ≠ a + 1 + j := by omega
theorem ne_i {i a : Nat} (h : i < a) (j : Nat) : i ≠ a + 1 + j := by omega
/-- the reference's cells are made -/
theorem R_init1 {s : Sto} {a : Nat} (h : cel s a = some (.inl (10, dfl_10))) (hl : s.1.length = a + 1) : ∃ t, (∀ K : Sto → Option Sto, nw_ s (.inr (0, (197700, .inl (fun _ => 0)))) 197700 (fun p2 s1 => (sV s1 a 10 1 (.ref p2)).bind fun s3 => nw_ s3 (.inr (2, (2, .inl (fun _ => 0)))) 2 fun p5 s4 => (sV s4 a 10 2 (.ref p5)).bind fun s6 => nw_ s6 (.inr (0, (128, .inl (fun _ => 0)))) 128 fun p8 s7 => (sV s7 a 10 4 (.ref p8)).bind fun s9 => nw_ s9 (.inr (0, (120, .inl (fun _ => 0)))) 120 fun p11 s10 => (sV s10 a 10 6 (.ref p11)).bind fun s12 => nw_ s12 (.inr (2, (120, .inl (fun _ => 0)))) 120 fun p14 s13 => (sV s13 a 10 8 (.ref p14)).bind fun s15 => nw_ s15 (.inr (0, (120, .inl (fun _ => 0)))) 120 fun p17 s16 => (sV s16 a 10 9 (.ref p17)).bind fun s18 => nw_ s18 (.inr (0, (120, .inl (fun _ => 0)))) 120 fun p20 s19 => (sV s19 a 10 10 (.ref p20)).bind fun s21 => nw_ s21 (.inr (0, (120, .inl (fun _ => 0)))) 120 fun p23 s22 => (sV s22 a 10 11 (.ref p23)).bind fun s24 => nw_ s24 (.inr (2, (4096, .inl (fun _ => 0)))) 4096 fun p26 s25 => (sV s25 a 10 14 (.ref p26)).bind fun s27 => nw_ s27 (.inr (0, (4096, .inl (fun _ => 0)))) 4096 fun p29 s28 => (sV s28 a 10 15 (.ref p29)).bind fun s30 => nw_ s30 (.inr (0, (4096, .inl (fun _ => 0)))) 4096 fun p32 s31 => (sV s31 a 10 16 (.ref p32)).bind fun s33 => nw_ s33 (.inr (0, (4096, .inl (fun _ => 0)))) 4096 fun p35 s34 => (sV s34 a 10 17 (.ref p35)).bind fun s36 => nw_ s36 (.inr (0, (4096, .inl (fun _ => 0)))) 4096 fun p38 s37 => (sV s37 a 10 18 (.ref p38)).bind K) = K t) ∧ RM t a (fun _ => 0, 0, fun _ _ => 0) ∧ (∀ i, i < a → cel t i = cel s i) ∧ t.1.length = a + 14 ∧ t.2 = s.2 + 218910 := by
  obtain ⟨t1, K1, o1, a1, n1, l1, z1⟩ := nwf (k := 1) (N := 197700) (m := a + 1 + 0) (e := .inr (0, (197700, .inl (fun _ => 0)))) h (Nat.le_of_ble_eq_true rfl) hl
  obtain ⟨t2, K2, o2, a2, n2, l2, z2⟩ := nwf (k := 2) (N := 2) (m := a + 1 + 1) (e := .inr (2, (2, .inl (fun _ => 0)))) o1 (Nat.le_of_ble_eq_true rfl) l1
  obtain ⟨t3, K3, o3, a3, n3, l3, z3⟩ := nwf (k := 4) (N := 128) (m := a + 1 + 2) (e := .inr (0, (128, .inl (fun _ => 0)))) o2 (Nat.le_of_ble_eq_true rfl) l2
  obtain ⟨t4, K4, o4, a4, n4, l4, z4⟩ := nwf (k := 6) (N := 120) (m := a + 1 + 3) (e := .inr (0, (120, .inl (fun _ => 0)))) o3 (Nat.le_of_ble_eq_true rfl) l3
  obtain ⟨t5, K5, o5, a5, n5, l5, z5⟩ := nwf (k := 8) (N := 120) (m := a + 1 + 4) (e := .inr (2, (120, .inl (fun _ => 0)))) o4 (Nat.le_of_ble_eq_true rfl) l4
  obtain ⟨t6, K6, o6, a6, n6, l6, z6⟩ := nwf (k := 9) (N := 120) (m := a + 1 + 5) (e := .inr (0, (120, .inl (fun _ => 0)))) o5 (Nat.le_of_ble_eq_true rfl) l5
  obtain ⟨t7, K7, o7, a7, n7, l7, z7⟩ := nwf (k := 10) (N := 120) (m := a + 1 + 6) (e := .inr (0, (120, .inl (fun _ => 0)))) o6 (Nat.le_of_ble_eq_true rfl) l6
  obtain ⟨t8, K8, o8, a8, n8, l8, z8⟩ := nwf (k := 11) (N := 120) (m := a + 1 + 7) (e := .inr (0, (120, .inl (fun _ => 0)))) o7 (Nat.le_of_ble_eq_true rfl) l7
  obtain ⟨t9, K9, o9, a9, n9, l9, z9⟩ := nwf (k := 14) (N := 4096) (m := a + 1 + 8) (e := .inr (2, (4096, .inl (fun _ => 0)))) o8 (Nat.le_of_ble_eq_true rfl) l8
  obtain ⟨t10, K10, o10, a10, n10, l10, z10⟩ := nwf (k := 15) (N := 4096) (m := a + 1 + 9) (e := .inr (0, (4096, .inl (fun _ => 0)))) o9 (Nat.le_of_ble_eq_true rfl) l9
  obtain ⟨t11, K11, o11, a11, n11, l11, z11⟩ := nwf (k := 16) (N := 4096) (m := a + 1 + 10) (e := .inr (0, (4096, .inl (fun _ => 0)))) o10 (Nat.le_of_ble_eq_true rfl) l10
  obtain ⟨t12, K12, o12, a12, n12, l12, z12⟩ := nwf (k := 17) (N := 4096) (m := a + 1 + 11) (e := .inr (0, (4096, .inl (fun _ => 0)))) o11 (Nat.le_of_ble_eq_true rfl) l11
  obtain ⟨t13, K13, o13, a13, n13, l13, z13⟩ := nwf (k := 18) (N := 4096) (m := a + 1 + 12) (e := .inr (0, (4096, .inl (fun _ => 0)))) o12 (Nat.le_of_ble_eq_true rfl) l12
  have hM : RM t13 a (fun _ => 0, 0, fun _ _ => 0) := by
    refine ⟨o13, fun k hk => ?_⟩
    rcases (show k = 0 ∨ k = 1 ∨ k = 2 ∨ k = 3 ∨ k = 4 ∨ k = 5 ∨ k = 6 ∨ k = 7 ∨ k = 8 ∨ k = 9 ∨ k = 10 ∨ k = 11 ∨ k = 12 by omega) with rfl | rfl | rfl | rfl | rfl | rfl | rfl | rfl | rfl | rfl | rfl | rfl | rfl
    · rw [n13 _ (ne_a a 0) (ne_k (by decide)), n12 _ (ne_a a 0) (ne_k (by decide)), n11 _ (ne_a a 0) (ne_k (by decide)), n10 _ (ne_a a 0) (ne_k (by decide)), n9 _ (ne_a a 0) (ne_k (by decide)), n8 _ (ne_a a 0) (ne_k (by decide)), n7 _ (ne_a a 0) (ne_k (by decide)), n6 _ (ne_a a 0) (ne_k (by decide)), n5 _ (ne_a a 0) (ne_k (by decide)), n4 _ (ne_a a 0) (ne_k (by decide)), n3 _ (ne_a a 0) (ne_k (by decide)), n2 _ (ne_a a 0) (ne_k (by decide))]; exact a1
    · rw [n13 _ (ne_a a 1) (ne_k (by decide)), n12 _ (ne_a a 1) (ne_k (by decide)), n11 _ (ne_a a 1) (ne_k (by decide)), n10 _ (ne_a a 1) (ne_k (by decide)), n9 _ (ne_a a 1) (ne_k (by decide)), n8 _ (ne_a a 1) (ne_k (by decide)), n7 _ (ne_a a 1) (ne_k (by decide)), n6 _ (ne_a a 1) (ne_k (by decide)), n5 _ (ne_a a 1) (ne_k (by decide)), n4 _ (ne_a a 1) (ne_k (by decide)), n3 _ (ne_a a 1) (ne_k (by decide))]; exact a2
    · rw [n13 _ (ne_a a 2) (ne_k (by decide)), n12 _ (ne_a a 2) (ne_k (by decide)), n11 _ (ne_a a 2) (ne_k (by decide)), n10 _ (ne_a a 2) (ne_k (by decide)), n9 _ (ne_a a 2) (ne_k (by decide)), n8 _ (ne_a a 2) (ne_k (by decide)), n7 _ (ne_a a 2) (ne_k (by decide)), n6 _ (ne_a a 2) (ne_k (by decide)), n5 _ (ne_a a 2) (ne_k (by decide)), n4 _ (ne_a a 2) (ne_k (by decide))]; exact a3
    · rw [n13 _ (ne_a a 3) (ne_k (by decide)), n12 _ (ne_a a 3) (ne_k (by decide)), n11 _ (ne_a a 3) (ne_k (by decide)), n10 _ (ne_a a 3) (ne_k (by decide)), n9 _ (ne_a a 3) (ne_k (by decide)), n8 _ (ne_a a 3) (ne_k (by decide)), n7 _ (ne_a a 3) (ne_k (by decide)), n6 _ (ne_a a 3) (ne_k (by decide)), n5 _ (ne_a a 3) (ne_k (by decide))]; exact a4
    · rw [n13 _ (ne_a a 4) (ne_k (by decide)), n12 _ (ne_a a 4) (ne_k (by decide)), n11 _ (ne_a a 4) (ne_k (by decide)), n10 _ (ne_a a 4) (ne_k (by decide)), n9 _ (ne_a a 4) (ne_k (by decide)), n8 _ (ne_a a 4) (ne_k (by decide)), n7 _ (ne_a a 4) (ne_k (by decide)), n6 _ (ne_a a 4) (ne_k (by decide))]; exact a5
    · rw [n13 _ (ne_a a 5) (ne_k (by decide)), n12 _ (ne_a a 5) (ne_k (by decide)), n11 _ (ne_a a 5) (ne_k (by decide)), n10 _ (ne_a a 5) (ne_k (by decide)), n9 _ (ne_a a 5) (ne_k (by decide)), n8 _ (ne_a a 5) (ne_k (by decide)), n7 _ (ne_a a 5) (ne_k (by decide))]; exact a6
    · rw [n13 _ (ne_a a 6) (ne_k (by decide)), n12 _ (ne_a a 6) (ne_k (by decide)), n11 _ (ne_a a 6) (ne_k (by decide)), n10 _ (ne_a a 6) (ne_k (by decide)), n9 _ (ne_a a 6) (ne_k (by decide)), n8 _ (ne_a a 6) (ne_k (by decide))]; exact a7
    · rw [n13 _ (ne_a a 7) (ne_k (by decide)), n12 _ (ne_a a 7) (ne_k (by decide)), n11 _ (ne_a a 7) (ne_k (by decide)), n10 _ (ne_a a 7) (ne_k (by decide)), n9 _ (ne_a a 7) (ne_k (by decide))]; exact a8
    · rw [n13 _ (ne_a a 8) (ne_k (by decide)), n12 _ (ne_a a 8) (ne_k (by decide)), n11 _ (ne_a a 8) (ne_k (by decide)), n10 _ (ne_a a 8) (ne_k (by decide))]; exact a9
    · rw [n13 _ (ne_a a 9) (ne_k (by decide)), n12 _ (ne_a a 9) (ne_k (by decide)), n11 _ (ne_a a 9) (ne_k (by decide))]; exact a10
    · rw [n13 _ (ne_a a 10) (ne_k (by decide)), n12 _ (ne_a a 10) (ne_k (by decide))]; exact a11
    · rw [n13 _ (ne_a a 11) (ne_k (by decide))]; exact a12
    · exact a13
  refine ⟨t13, fun K => ?_, hM, fun i hi => ?_, l13, by clear K1 K2 K3 K4 K5 K6 K7 K8 K9 K10 K11 K12 K13 hM; omega⟩
  · rw [K1, K2, K3, K4, K5, K6, K7, K8, K9, K10, K11, K12, K13]
  · rw [n13 _ (Nat.ne_of_lt hi) (ne_i hi 12), n12 _ (Nat.ne_of_lt hi) (ne_i hi 11), n11 _ (Nat.ne_of_lt hi) (ne_i hi 10), n10 _ (Nat.ne_of_lt hi) (ne_i hi 9), n9 _ (Nat.ne_of_lt hi) (ne_i hi 8), n8 _ (Nat.ne_of_lt hi) (ne_i hi 7), n7 _ (Nat.ne_of_lt hi) (ne_i hi 6), n6 _ (Nat.ne_of_lt hi) (ne_i hi 5), n5 _ (Nat.ne_of_lt hi) (ne_i hi 4), n4 _ (Nat.ne_of_lt hi) (ne_i hi 3), n3 _ (Nat.ne_of_lt hi) (ne_i hi 2), n2 _ (Nat.ne_of_lt hi) (ne_i hi 1), n1 _ (Nat.ne_of_lt hi) (ne_i hi 0)]
theorem cl_1 : ((197700 : Int32).toNatClampNeg) = 197700 := by decide +kernel
theorem cl_2 : ((2 : Int32).toNatClampNeg) = 2 := by decide +kernel
theorem cl_3 : ((128 : Int32).toNatClampNeg) = 128 := by decide +kernel
theorem cl_4 : ((120 : Int32).toNatClampNeg) = 120 := by decide +kernel
theorem cl_5 : ((4096 : Int32).toNatClampNeg) = 4096 := by decide +kernel
/-- the reference at its beginning -/
theorem R_init {s : Sto} {a : Nat} (h : cel s a = some (.inl (10, dfl_10))) (hl : s.1.length = a + 1) : ∃ t, F_X10_init s a = some t ∧ RJ t a 0 (wBeg 3 0, fun _ => none, [], 0) ∧ (∀ i, i < a → cel t i = cel s i) ∧ t.1.length = a + 14 ∧ t.2 = s.2 + 218910 := by
  obtain ⟨t, K1, hM, n1, l1, z1⟩ := R_init1 h hl
  obtain ⟨u, N, e1, h1, z0, c0, c1, c2, c3, E1⟩ := R_begins (c := 3) hM (by decide)
  have hk : RK N (wBeg 3 0, fun _ => none, [], 0) := ⟨by rw [z0.1]; exact Nat.zero_le _, RW_beg c0 c1 c2, fun q hq => ⟨by rw [z0.2.2 1 (by decide)]; rfl, fun v hv => (by cases hv)⟩, ⟨by rw [z0.1]; rfl, fun j t hj ht => (by cases ht)⟩, by rw [z0.2.1]; rfl⟩
  refine ⟨u, ?_, ⟨N, h1, hk, by rw [z0.1]; rfl⟩, fun i hi => (E1.2.2 i (Or.inl hi)).trans (n1 i hi), E1.2.1.trans l1, E1.1.trans z1⟩
  unfold F_X10_init
  rw [cl_1, cl_2, cl_3, cl_4, cl_5]
  refine (K1 _).trans ?_
  rw [show F_X10_begins t a 3 = _ from e1, bind_some']
theorem LI.mo {σ : Sto} {A : Ga} {c z n : Nat} {Q : Nat → Prop} (h : LI σ A c z Q n) : LI σ A c z Q (n + 1) := by
  obtain ⟨l1, l2, l3, l4, l5, l6, l7, l8⟩ := h
  exact ⟨l1, l2, l3.mo, l4, l5, l6, by omega, by omega⟩
theorem L_loop (hF : FewOK) {sl : Nat} {sx : Nat → Int32} (hs : sl ≤ 2560) : ∀ (m n f : Nat) (σ : Sto) (A : Ga) (c z : Nat) (Q : Nat → Prop), n + m = 513 → m < f → n ≤ 512 → LI σ A c z Q n → ∃ σ', F_L_law_L23 sl sx 1 310 324 f (nI (5 * n)) σ (fun s486 => some ((1 : Int32), s486)) = some (1, σ') ∧ σ'.1.length ≤ 20000 ∧ σ'.2 ≤ 2000000
  | 0, n, f, σ, A, c, z, Q, h1, h2, h3, h => by omega
  | m + 1, n, 0, σ, A, c, z, Q, h1, h2, h3, h => by omega
  | m + 1, n, f + 1, σ, A, c, z, Q, h1, h2, h3, h => by
    have hcond : (Int32.ofNat sl - (5 : Int32)) < nI (5 * n) ↔ ¬ (5 * n + 5 ≤ sl) := by
      have h5 : (nI sl - nI 5).toInt = (sl : Int) - 5 := pk_sub_toInt (by omega) (by omega)
      rw [show Int32.ofNat sl - (5 : Int32) = nI sl - nI 5 from rfl, Int32.lt_iff_toInt_lt, h5, nI_toInt (by omega)]
      omega
    rw [F_L_law_L23]
    by_cases hc : 5 * n + 5 ≤ sl
    · rw [if_neg (fun y => hcond.mp y hc), show sld sl sx (nI (5 * n)) = some (sx (5 * n)) from sld_ok (j := 0) hc hs (by omega), bind_some', jn_eq]
      have hadd : nI (5 * n) + (5 : Int32) = nI (5 * (n + 1)) := by rw [show (5 : Int32) = nI 5 from rfl, nI_add, show 5 * n + 5 = 5 * (n + 1) by omega]
      have step : ∀ X : Option (Int32 × Sto), (∃ σ' A' c' z' Q', X = F_L_law_L23 sl sx 1 310 324 f (nI (5 * n) + (5 : Int32)) σ' (fun s486 => some ((1 : Int32), s486)) ∧ LI σ' A' c' z' Q' (n + 1)) → ∃ σ', X = some (1, σ') ∧ σ'.1.length ≤ 20000 ∧ σ'.2 ≤ 2000000 := by
        rintro X ⟨σ', A', c', z', Q', e1, h4⟩
        rw [e1, hadd]
        exact L_loop hF hs m (n + 1) f σ' A' c' z' Q' (by omega) (by omega) (by omega) h4
      generalize sx (5 * n) &&& (63 : Int32) = k
      by_cases k0 : k = (0 : Int32)
      · rw [if_pos k0]; exact step _ (L_sites h h3 hc hs (fun sJ => F_L_law_L23 sl sx 1 310 324 f (nI (5 * n) + (5 : Int32)) sJ (fun s486 => some ((1 : Int32), s486))))
      rw [if_neg k0]
      by_cases k1 : k = (1 : Int32)
      · rw [if_pos k1]; exact step _ (L_mode h h3 hc hs (fun sJ => F_L_law_L23 sl sx 1 310 324 f (nI (5 * n) + (5 : Int32)) sJ (fun s486 => some ((1 : Int32), s486))))
      rw [if_neg k1]
      by_cases k2 : k = (2 : Int32)
      · rw [if_pos k2]; exact step _ (L_add h h3 hc hs (fun sJ => F_L_law_L23 sl sx 1 310 324 f (nI (5 * n) + (5 : Int32)) sJ (fun s486 => some ((1 : Int32), s486))))
      rw [if_neg k2]
      by_cases k3 : k = (3 : Int32)
      · rw [if_pos k3]; exact step _ (L_take h h3 hc hs (fun sJ => F_L_law_L23 sl sx 1 310 324 f (nI (5 * n) + (5 : Int32)) sJ (fun s486 => some ((1 : Int32), s486))))
      rw [if_neg k3]
      by_cases k4 : k = (4 : Int32)
      · rw [if_pos k4]; exact step _ (L_write h h3 hc hs (fun sJ => F_L_law_L23 sl sx 1 310 324 f (nI (5 * n) + (5 : Int32)) sJ (fun s486 => some ((1 : Int32), s486))))
      rw [if_neg k4]
      by_cases k5 : k = (5 : Int32)
      · rw [if_pos k5]; exact step _ (L_come h h3 hc hs (fun sJ => F_L_law_L23 sl sx 1 310 324 f (nI (5 * n) + (5 : Int32)) sJ (fun s486 => some ((1 : Int32), s486))))
      rw [if_neg k5]
      by_cases k6 : k = (6 : Int32)
      · rw [if_pos k6]; exact step _ (L_lose h h3 hc hs (fun sJ => F_L_law_L23 sl sx 1 310 324 f (nI (5 * n) + (5 : Int32)) sJ (fun s486 => some ((1 : Int32), s486))))
      rw [if_neg k6]
      by_cases k7 : k = (7 : Int32)
      · rw [if_pos k7]; exact step _ (L_twice h h3 hc hs (fun sJ => F_L_law_L23 sl sx 1 310 324 f (nI (5 * n) + (5 : Int32)) sJ (fun s486 => some ((1 : Int32), s486))))
      rw [if_neg k7]
      by_cases k8 : k = (8 : Int32)
      · rw [if_pos k8]; exact step _ (L_waiting h h3 hc hs (fun sJ => F_L_law_L23 sl sx 1 310 324 f (nI (5 * n) + (5 : Int32)) sJ (fun s486 => some ((1 : Int32), s486))))
      rw [if_neg k8]
      by_cases k9 : k = (9 : Int32)
      · rw [if_pos k9]; exact step _ (L_letter h h3 hc hs (fun sJ => F_L_law_L23 sl sx 1 310 324 f (nI (5 * n) + (5 : Int32)) sJ (fun s486 => some ((1 : Int32), s486))))
      rw [if_neg k9]
      by_cases k10 : k = (10 : Int32)
      · rw [if_pos k10]; exact step _ (L_inLetter h h3 hc hs (fun sJ => F_L_law_L23 sl sx 1 310 324 f (nI (5 * n) + (5 : Int32)) sJ (fun s486 => some ((1 : Int32), s486))))
      rw [if_neg k10]
      by_cases k11 : k = (11 : Int32)
      · rw [if_pos k11]; exact step _ (L_save h h3 hc hs (fun sJ => F_L_law_L23 sl sx 1 310 324 f (nI (5 * n) + (5 : Int32)) sJ (fun s486 => some ((1 : Int32), s486))))
      rw [if_neg k11]
      by_cases k12 : k = (12 : Int32)
      · rw [if_pos k12]; exact step _ (L_fall h h3 hc hs (fun sJ => F_L_law_L23 sl sx 1 310 324 f (nI (5 * n) + (5 : Int32)) sJ (fun s486 => some ((1 : Int32), s486))))
      rw [if_neg k12]
      by_cases k13 : k = (13 : Int32)
      · rw [if_pos k13]; exact step _ (L_join h h3 hc hs (fun sJ => F_L_law_L23 sl sx 1 310 324 f (nI (5 * n) + (5 : Int32)) sJ (fun s486 => some ((1 : Int32), s486))))
      rw [if_neg k13]
      by_cases k14 : k = (14 : Int32)
      · rw [if_pos k14]; exact step _ (L_chance h h3 hc hs (fun sJ => F_L_law_L23 sl sx 1 310 324 f (nI (5 * n) + (5 : Int32)) sJ (fun s486 => some ((1 : Int32), s486))))
      rw [if_neg k14]
      by_cases k15 : k = (15 : Int32)
      · rw [if_pos k15]; exact step _ (L_keep h h3 hc hs (fun sJ => F_L_law_L23 sl sx 1 310 324 f (nI (5 * n) + (5 : Int32)) sJ (fun s486 => some ((1 : Int32), s486))))
      rw [if_neg k15]
      by_cases k16 : k = (16 : Int32)
      · rw [if_pos k16]; exact step _ (L_back h h3 hc hs (fun sJ => F_L_law_L23 sl sx 1 310 324 f (nI (5 * n) + (5 : Int32)) sJ (fun s486 => some ((1 : Int32), s486))))
      rw [if_neg k16]
      by_cases k17 : k = (17 : Int32)
      · rw [if_pos k17]; exact step _ (L_cut h h3 hc hs (fun sJ => F_L_law_L23 sl sx 1 310 324 f (nI (5 * n) + (5 : Int32)) sJ (fun s486 => some ((1 : Int32), s486))))
      rw [if_neg k17]
      by_cases k18 : k = (18 : Int32)
      · rw [if_pos k18]; exact step _ (L_view h h3 hc hs (fun sJ => F_L_law_L23 sl sx 1 310 324 f (nI (5 * n) + (5 : Int32)) sJ (fun s486 => some ((1 : Int32), s486))))
      rw [if_neg k18]
      by_cases k19 : k = (19 : Int32)
      · rw [if_pos k19]; exact step _ (L_named h h3 hc hs (fun sJ => F_L_law_L23 sl sx 1 310 324 f (nI (5 * n) + (5 : Int32)) sJ (fun s486 => some ((1 : Int32), s486))))
      rw [if_neg k19]
      by_cases k20 : k = (20 : Int32)
      · rw [if_pos k20]; exact step _ (L_log h h3 hc hs (fun sJ => F_L_law_L23 sl sx 1 310 324 f (nI (5 * n) + (5 : Int32)) sJ (fun s486 => some ((1 : Int32), s486))))
      rw [if_neg k20]
      by_cases k21 : k = (21 : Int32)
      · rw [if_pos k21]; exact step _ (L_table h h3 hc hs (fun sJ => F_L_law_L23 sl sx 1 310 324 f (nI (5 * n) + (5 : Int32)) sJ (fun s486 => some ((1 : Int32), s486))))
      rw [if_neg k21]
      by_cases k22 : k = (22 : Int32)
      · rw [if_pos k22]; exact step _ (L_knows h h3 hc hs (fun sJ => F_L_law_L23 sl sx 1 310 324 f (nI (5 * n) + (5 : Int32)) sJ (fun s486 => some ((1 : Int32), s486))))
      rw [if_neg k22]
      by_cases k23 : k = (23 : Int32)
      · rw [if_pos k23]; exact step _ (L_has h h3 hc hs (fun sJ => F_L_law_L23 sl sx 1 310 324 f (nI (5 * n) + (5 : Int32)) sJ (fun s486 => some ((1 : Int32), s486))))
      rw [if_neg k23]
      by_cases k24 : k = (24 : Int32)
      · rw [if_pos k24]; exact step _ (L_site h h3 hc hs (fun sJ => F_L_law_L23 sl sx 1 310 324 f (nI (5 * n) + (5 : Int32)) sJ (fun s486 => some ((1 : Int32), s486))))
      rw [if_neg k24]
      by_cases k25 : k = (25 : Int32)
      · rw [if_pos k25]; exact step _ (L_unlike h h3 hc hs (fun sJ => F_L_law_L23 sl sx 1 310 324 f (nI (5 * n) + (5 : Int32)) sJ (fun s486 => some ((1 : Int32), s486))))
      rw [if_neg k25]
      by_cases k26 : k = (26 : Int32)
      · rw [if_pos k26]; exact step _ (L_would h h3 hc hs (fun sJ => F_L_law_L23 sl sx 1 310 324 f (nI (5 * n) + (5 : Int32)) sJ (fun s486 => some ((1 : Int32), s486))))
      rw [if_neg k26]
      by_cases k27 : k = (27 : Int32)
      · rw [if_pos k27]; exact step _ (L_event h h3 hc hs (fun sJ => F_L_law_L23 sl sx 1 310 324 f (nI (5 * n) + (5 : Int32)) sJ (fun s486 => some ((1 : Int32), s486))))
      rw [if_neg k27]
      by_cases k28 : k = (28 : Int32)
      · rw [if_pos k28]; exact step _ (L_ahead h h3 hc hs (fun sJ => F_L_law_L23 sl sx 1 310 324 f (nI (5 * n) + (5 : Int32)) sJ (fun s486 => some ((1 : Int32), s486))))
      rw [if_neg k28]
      by_cases k29 : k = (29 : Int32)
      · rw [if_pos k29]; exact step _ (L_wide h h3 hc hs (fun sJ => F_L_law_L23 sl sx 1 310 324 f (nI (5 * n) + (5 : Int32)) sJ (fun s486 => some ((1 : Int32), s486))))
      rw [if_neg k29]
      by_cases k30 : k = (30 : Int32)
      · rw [if_pos k30]; exact step _ (L_came h h3 hc hs (fun sJ => F_L_law_L23 sl sx 1 310 324 f (nI (5 * n) + (5 : Int32)) sJ (fun s486 => some ((1 : Int32), s486))))
      rw [if_neg k30]
      by_cases k31 : k = (31 : Int32)
      · rw [if_pos k31]; exact step _ (L_way h h3 hc hs (fun sJ => F_L_law_L23 sl sx 1 310 324 f (nI (5 * n) + (5 : Int32)) sJ (fun s486 => some ((1 : Int32), s486))))
      rw [if_neg k31]
      by_cases k32 : k = (32 : Int32)
      · rw [if_pos k32]; exact step _ (L_slowest h h3 hc hs (fun sJ => F_L_law_L23 sl sx 1 310 324 f (nI (5 * n) + (5 : Int32)) sJ (fun s486 => some ((1 : Int32), s486))))
      rw [if_neg k32]
      by_cases k33 : k = (33 : Int32)
      · rw [if_pos k33]; exact step _ (L_chain h h3 hc hs (fun sJ => F_L_law_L23 sl sx 1 310 324 f (nI (5 * n) + (5 : Int32)) sJ (fun s486 => some ((1 : Int32), s486))))
      rw [if_neg k33]
      by_cases k34 : k = (34 : Int32)
      · rw [if_pos k34]; exact step _ (L_between h h3 hc hs (fun sJ => F_L_law_L23 sl sx 1 310 324 f (nI (5 * n) + (5 : Int32)) sJ (fun s486 => some ((1 : Int32), s486))))
      rw [if_neg k34]
      by_cases k35 : k = (35 : Int32)
      · rw [if_pos k35]; exact step _ (L_front h h3 hc hs (fun sJ => F_L_law_L23 sl sx 1 310 324 f (nI (5 * n) + (5 : Int32)) sJ (fun s486 => some ((1 : Int32), s486))))
      rw [if_neg k35]
      by_cases k36 : k = (36 : Int32)
      · rw [if_pos k36]; exact step _ (L_only h h3 hc hs (fun sJ => F_L_law_L23 sl sx 1 310 324 f (nI (5 * n) + (5 : Int32)) sJ (fun s486 => some ((1 : Int32), s486))))
      rw [if_neg k36]
      by_cases k37 : k = (37 : Int32)
      · rw [if_pos k37]; exact step _ (L_sure h h3 hc hs (fun sJ => F_L_law_L23 sl sx 1 310 324 f (nI (5 * n) + (5 : Int32)) sJ (fun s486 => some ((1 : Int32), s486))))
      rw [if_neg k37]
      by_cases k38 : k = (38 : Int32)
      · rw [if_pos k38]; exact step _ (L_part h h3 hc hs (fun sJ => F_L_law_L23 sl sx 1 310 324 f (nI (5 * n) + (5 : Int32)) sJ (fun s486 => some ((1 : Int32), s486))))
      rw [if_neg k38]
      by_cases k39 : k = (39 : Int32)
      · rw [if_pos k39]; exact step _ (L_trace h h3 hc hs (fun sJ => F_L_law_L23 sl sx 1 310 324 f (nI (5 * n) + (5 : Int32)) sJ (fun s486 => some ((1 : Int32), s486))))
      rw [if_neg k39]
      by_cases k40 : k = (40 : Int32)
      · rw [if_pos k40]; exact step _ (L_gossip h h3 hc hs (fun sJ => F_L_law_L23 sl sx 1 310 324 f (nI (5 * n) + (5 : Int32)) sJ (fun s486 => some ((1 : Int32), s486))))
      rw [if_neg k40]
      by_cases k41 : k = (41 : Int32)
      · rw [if_pos k41]; exact step _ (L_falling h h3 hc hs (fun sJ => F_L_law_L23 sl sx 1 310 324 f (nI (5 * n) + (5 : Int32)) sJ (fun s486 => some ((1 : Int32), s486))))
      rw [if_neg k41]
      by_cases k42 : k = (42 : Int32)
      · rw [if_pos k42]; exact step _ (L_joining h h3 hc hs (fun sJ => F_L_law_L23 sl sx 1 310 324 f (nI (5 * n) + (5 : Int32)) sJ (fun s486 => some ((1 : Int32), s486))))
      rw [if_neg k42]
      by_cases k43 : k = (43 : Int32)
      · rw [if_pos k43]; exact step _ (L_best h h3 hc hs (fun sJ => F_L_law_L23 sl sx 1 310 324 f (nI (5 * n) + (5 : Int32)) sJ (fun s486 => some ((1 : Int32), s486))))
      rw [if_neg k43]
      by_cases k44 : k = (44 : Int32)
      · rw [if_pos k44]; exact step _ (L_fewest hF h h3 hc hs (fun sJ => F_L_law_L23 sl sx 1 310 324 f (nI (5 * n) + (5 : Int32)) sJ (fun s486 => some ((1 : Int32), s486))))
      rw [if_neg k44]
      by_cases k45 : k = (45 : Int32)
      · rw [if_pos k45]; exact step _ (L_count h h3 hc hs (fun sJ => F_L_law_L23 sl sx 1 310 324 f (nI (5 * n) + (5 : Int32)) sJ (fun s486 => some ((1 : Int32), s486))))
      rw [if_neg k45]
      exact step _ ⟨σ, A, c, z, Q, rfl, h.mo⟩
    · rw [if_pos (hcond.mpr hc)]
      obtain ⟨l1, l2, l3, l4, l5, l6, l7, l8⟩ := h
      exact ⟨σ, rfl, by omega, by omega⟩
theorem law_all (hF : FewOK) (L : Nat) (xs : Nat → Int32) (hL : L ≤ 2560) : ∃ σ' : Sto, F_L_law L xs ([none], 0) = some (1, σ') ∧ σ'.1.length ≤ 20000 ∧ σ'.2 ≤ 2000000 := by
  have c0 : ∀ i, cel (apc ([none], 0) (.inl (9, dfl_9)) 6) i = if i = 1 then some (.inl (9, dfl_9)) else cel ([none], 0) i := fun i => by rw [cel_apc]; rfl
  obtain ⟨t1, e1, h1, n1, l1, z1⟩ := C_newGT (σ := apc ([none], 0) (.inl (9, dfl_9)) 6) (g := 1) (by rw [c0, if_pos rfl]) (by rw [len_apc]; rfl)
  have c1 : ∀ i, cel (apc t1 (.inl (10, dfl_10)) 19) i = if i = 310 then some (.inl (10, dfl_10)) else cel t1 i := fun i => by rw [cel_apc, l1]
  obtain ⟨t2, e2, r2, n2, l2, z2⟩ := R_init (s := apc t1 (.inl (10, dfl_10)) 19) (a := 310) (by rw [c1, if_pos rfl]) (by rw [len_apc, l1])
  have c2 : ∀ i, cel (apc t2 (.inr (1, (1, .inr (.inl (fun _ => 0))))) 1) i = if i = 324 then some (.inr (1, (1, .inr (.inl (fun _ => 0))))) else cel t2 i := fun i => by rw [cel_apc, l2]
  have l3 : (apc t2 (.inr (1, (1, .inr (.inl (fun _ => 0))))) 1).1.length = 325 := by rw [len_apc, l2]
  have hc : ∀ i, i < 310 → cel (apc t2 (.inr (1, (1, .inr (.inl (fun _ => 0))))) 1) i = cel t1 i := fun i hi => by rw [c2, if_neg (by omega), n2 i hi, c1, if_neg (by omega)]
  have hG : GA (apc t2 (.inr (1, (1, .inr (.inl (fun _ => 0))))) 1) 1 (wBeg 3 0, fun _ => none, [], 0) 1028 (fun i => 1 ≤ i ∧ i < 310) := GT.cg h1 (fun i hi => hc i (by have := hi.2; omega)) (by rw [l3, l1]; omega)
  have hR : RJ (apc t2 (.inr (1, (1, .inr (.inl (fun _ => 0))))) 1) 310 0 (wBeg 3 0, fun _ => none, [], 0) := r2.cg (fun i a b => by rw [c2, if_neg (by omega)])
  have hI : LI (apc t2 (.inr (1, (1, .inr (.inl (fun _ => 0))))) 1) (wBeg 3 0, fun _ => none, [], 0) 0 1028 (fun i => 1 ≤ i ∧ i < 310) 0 := by
    refine ⟨hG, hR, ⟨Iv_beg (by omega) (by omega) (by omega), fun k v hv => (by cases hv), Nat.zero_le _, fun k v hv => (by cases hv), Nat.zero_le _⟩, fun i hi => Or.inl hi.2, ⟨fun _ => 0, by rw [c2, if_pos rfl]⟩, by omega, by omega, ?_⟩
    show t2.2 + 1 + 154 * 1028 ≤ _
    rw [z2]
    show t1.2 + 19 + 218910 + 1 + 154 * 1028 ≤ _
    rw [z1]
    show 0 + 6 + 7831 + 19 + 218910 + 1 + 154 * 1028 ≤ _
    omega
  obtain ⟨σ', e9, b1, b2⟩ := L_loop hF (sx := xs) hL 513 0 fu _ _ _ _ _ (by omega) (by unfold fu; omega) (by omega) hI
  refine ⟨σ', ?_, by omega, by omega⟩
  unfold F_L_law nw_
  show (F_X9_init (apc ([none], 0) (.inl (9, dfl_9)) 6) 1).bind _ = _
  rw [e1, bind_some']
  show (F_X10_init (apc t1 (.inl (10, dfl_10)) 19) t1.1.length).bind _ = _
  rw [l1, e2, bind_some']
  show F_L_law_L23 L xs 1 310 t2.1.length fu 0 (apc t2 (.inr (1, (1, .inr (.inl (fun _ => 0))))) 1) _ = _
  rw [l2]
  exact e9
