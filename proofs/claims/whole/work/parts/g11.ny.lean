/-! ===== PURE 49: the class's constructors: paper, all ===== -/
section NEY
variable {σ : Sto} {b P g : Nat}
theorem C_newPaperS {k : Sto → Option Sto} (ho : cel σ P = some (.inl (5, pO5 P b))) (hl : σ.1.length = P + 9) (h1 : RA σ (P + 1) 4 5 (fun _ => none)) : ∃ t, F_X5_init_L67 P fu (nI 0) σ k = k t ∧ t.1.length = P + 44 ∧ t.2 = σ.2 + 1980 ∧ (∀ i, i < P + 9 → i ≠ P + 1 → cel t i = cel σ i) ∧ RA t (P + 1) 4 5 (rfN 5 (fun s => P + 9 + 7 * s)) ∧ ∀ s, s < 5 → SI t (P + 9 + 7 * s) sBeg := by
  obtain ⟨t9, ⟨L9, z9, f9, r9, s9⟩, e9⟩ := lpS (fun fl j t => F_X5_init_L67 P fl (nI j) t k) k (fun j t => t.1.length = P + 9 + 7 * j ∧ t.2 = σ.2 + 396 * j ∧ (∀ i, i < P + 9 → i ≠ P + 1 → cel t i = cel σ i) ∧ RA t (P + 1) 4 5 (rfN j (fun s => P + 9 + 7 * s)) ∧ ∀ s, s < j → SI t (P + 9 + 7 * s) sBeg) 5 (by
    intro j fl t hj ⟨L9, z9, f9, r9, s9⟩
    obtain ⟨t1, K1, a1, b1, n1, l1, z1⟩ := nwS (g := fun s => P + 9 + 7 * s) L9 r9 hj rfl
    refine ⟨t1, ⟨by omega, by rw [z1, z9]; omega, fun i g1 g2 => ?_, a1, fun s hs => ?_⟩, ?_⟩
    · rw [n1 i (by omega) g2]; exact f9 i g1 g2
    · by_cases hsj : s = j
      · subst hsj; exact b1
      · exact (s9 s (by omega)).cg (fun i g1 g2 => n1 i (by omega) (by omega))
    · show F_X5_init_L67 P (fl + 1) (nI j) t k = F_X5_init_L67 P fl (nI (j + 1)) t1 k
      have ob : cel t P = some (.inl (5, pO5 P b)) := (f9 P (by omega) (by omega)).trans ho
      rw [F_X5_init_L67, show (5 : Int32) = nI 5 from rfl, if_neg (by rw [nI_leI (by omega) (by omega)]; omega), gR_cel ob rfl, bind_some', K1, l_1, nI_add]) (by
    intro fl t _
    show F_X5_init_L67 P (fl + 1) (nI 5) t k = k t
    rw [F_X5_init_L67, if_pos (by decide)]) fu σ (by unfold fu; omega) ⟨by omega, by omega, fun _ _ _ => rfl, by rw [rfN_0]; exact h1, fun s hs => absurd hs (Nat.not_lt_zero s)⟩
  exact ⟨t9, e9, by omega, by omega, f9, r9, s9⟩
theorem C_newPaper (h : cel σ P = some (.inl (5, dfl_5))) (hl : σ.1.length = P + 1) : ∃ t, F_X5_init σ P b = some t ∧ PB t P b ∧ PS t P (fun _ => sBeg) ∧ (∀ i, i < P → cel t i = cel σ i) ∧ t.1.length = P + 44 ∧ t.2 = σ.2 + 2168 := by
  obtain ⟨t1, K1, o1, a1, n1, l1, z1⟩ := nwf (k := 1) (N := 5) (e := .inr (4, (5, .inr (.inr (.inr (.inr (fun _ => none))))))) h (Nat.le_of_ble_eq_true rfl) hl
  obtain ⟨t2, e2, L2, f2, l2, z2⟩ := C_newLetter t1
  rw [l1] at e2 L2 f2 l2
  have o2 : cel t2 P = _ := (f2 P (by omega)).trans o1
  have e3 := sV_cel (k := 2) (v := .ref (P + 1 + 1)) o2 (Nat.le_of_ble_eq_true rfl)
  have o3 := cel_stc_s (e := .inl (5, (dfl_5.set 1 (.ref (P + 1))).set 2 (.ref (P + 1 + 1)))) o2
  have n3 : ∀ i, i ≠ P → cel (stc t2 P (.inl (5, (dfl_5.set 1 (.ref (P + 1))).set 2 (.ref (P + 1 + 1))))) i = cel t2 i := fun i hi => cel_stc_n o2 hi
  have l3 : (stc t2 P (.inl (5, (dfl_5.set 1 (.ref (P + 1))).set 2 (.ref (P + 1 + 1))))).1.length = P + 6 := by rw [len_stc, l2]
  have z3 : (stc t2 P (.inl (5, (dfl_5.set 1 (.ref (P + 1))).set 2 (.ref (P + 1 + 1))))).2 = t2.2 := rfl
  generalize stc t2 P (.inl (5, (dfl_5.set 1 (.ref (P + 1))).set 2 (.ref (P + 1 + 1)))) = t3 at o3 e3 n3 l3 z3
  obtain ⟨t4, K4, o4, a4, n4, l4, z4⟩ := nwf1 (k := 3) (N := 2) (e := .inl (1, dfl_1)) o3 (Nat.le_of_ble_eq_true rfl) l3
  obtain ⟨t5, K5, o5, a5, n5, l5, z5⟩ := nwf1 (k := 4) (N := 2) (e := .inl (1, dfl_1)) o4 (Nat.le_of_ble_eq_true rfl) l4
  obtain ⟨t6, K6, o6, a6, n6, l6, z6⟩ := nwf (k := 5) (N := 25) (e := .inr (0, (25, .inl (fun _ => 0)))) o5 (Nat.le_of_ble_eq_true rfl) l5
  have e7 := sV_cel (k := 0) (v := .ref b) o6 (Nat.le_of_ble_eq_true rfl)
  have o7 := cel_stc_s (e := .inl (5, pO5 P b)) o6
  have n7 : ∀ i, i ≠ P → cel (stc t6 P (.inl (5, pO5 P b))) i = cel t6 i := fun i hi => cel_stc_n o6 hi
  have l7 : (stc t6 P (.inl (5, pO5 P b))).1.length = P + 9 := by rw [len_stc, l6]
  have z7 : (stc t6 P (.inl (5, pO5 P b))).2 = t6.2 := rfl
  have e7' : sV t6 P 5 0 (.ref b) = some (stc t6 P (.inl (5, pO5 P b))) := e7
  generalize stc t6 P (.inl (5, pO5 P b)) = t7 at o7 n7 l7 z7 e7'
  have lo : ∀ i, i < P + 6 → i ≠ P → cel t7 i = cel t2 i := fun i g1 g2 => by
    rw [n7 i g2, n6 i g2 (by omega), n5 i g2 (by omega), n4 i g2 (by omega), n3 i g2]
  obtain ⟨t8, e8, l8, z8, f8, r8, s8⟩ := C_newPaperS (σ := t7) (P := P) (b := b) (k := fun s23 => some s23) o7 l7 (by unfold RA; rw [lo _ (by omega) (by omega), f2 _ (by omega)]; exact a1)
  refine ⟨t8, ?_, ⟨(f8 P (by omega) (by omega)).trans o7, r8, ⟨0, 0, nol, L2.cg (fun i g1 g2 => by rw [f8 i (by omega) (by omega), lo i (by omega) (by omega)])⟩, ⟨_, es0 ?_⟩, ⟨_, es0 ?_⟩, ⟨_, ia0 ?_⟩⟩, s8, fun i hi => ?_, l8, ?_⟩
  · unfold F_X5_init
    rw [show ((5 : Int32).toNatClampNeg) = 5 from rfl, show ((25 : Int32).toNatClampNeg) = 25 from rfl, K1]
    rw [nw_]
    show (F_X3_init (apc (apc t1 (.inl (3, dfl_3)) 7) (.inl (1, dfl_1)) 2) t1.1.length (apc t1 (.inl (3, dfl_3)) 7).1.length).bind _ = _
    rw [l1, e2, bind_some', e3, bind_some', K4, K5, K6, e7', bind_some', l_0]
    exact e8
  · rw [f8 _ (by omega) (by omega), n7 _ (by omega), n6 _ (by omega) (by omega), n5 _ (by omega) (by omega)]; exact a4
  · rw [f8 _ (by omega) (by omega), n7 _ (by omega), n6 _ (by omega) (by omega)]; exact a5
  · rw [f8 _ (by omega) (by omega), n7 _ (by omega)]; exact a6
  · rw [f8 i (by omega) (by omega), lo i (by omega) (by omega), f2 i (by omega), n1 i (by omega) (by omega)]
  · rw [z8, z7, z6, z5, z4, z3, z2, z1]
def gO9 (b a p P q : Nat) (d : Int64) : List Value := [.ref b, .ref a, .ref p, .ref P, .ref q, .long d]
theorem C_newAll (h : cel σ g = some (.inl (9, dfl_9))) (hl : σ.1.length = g + 1) : ∃ t, F_X9_init σ g = some t ∧ cel t g = some (.inl (9, gO9 (g + 1) (g + 255) (g + 256) (g + 261) (g + 305) 0)) ∧ CM (Ow (g + 1)) t (g + 1) (wBeg 3 0) (fun _ _ => none) ∧ RA t (g + 255) 7 2 (fun _ => none) ∧ CT t (g + 256) [] ∧ PB t (g + 261) (g + 1) ∧ PS t (g + 261) (fun _ => sBeg) ∧ CP t (g + 305) (g + 1) 0 0 (fun _ => 0) (fun _ => 0) (fun _ => 0) ∧ (∀ i, i < g → cel t i = cel σ i) ∧ t.1.length = g + 309 ∧ t.2 = σ.2 + 7831 := by
  have c0 : ∀ i, cel (apc σ (.inl (8, dfl_8)) 11) i = if i = g + 1 then some (.inl (8, dfl_8)) else cel σ i := fun i => by rw [cel_apc, hl]
  obtain ⟨s1, e1, W1, f1, l1, z1⟩ := C_newWorld (σ := apc σ (.inl (8, dfl_8)) 11) (b := g + 1) (by rw [c0, if_pos rfl]) (by rw [len_apc, hl])
  have o1 : cel s1 g = some (.inl (9, dfl_9)) := by rw [f1 g (by omega), c0, if_neg (by omega)]; exact h
  have e2 := sV_cel (k := 0) (v := .ref (g + 1)) o1 (Nat.le_of_ble_eq_true rfl)
  have o2 := cel_stc_s (e := .inl (9, dfl_9.set 0 (.ref (g + 1)))) o1
  have n2 : ∀ i, i ≠ g → cel (stc s1 g (.inl (9, dfl_9.set 0 (.ref (g + 1))))) i = cel s1 i := fun i hi => cel_stc_n o1 hi
  have l2 : (stc s1 g (.inl (9, dfl_9.set 0 (.ref (g + 1))))).1.length = g + 255 := by rw [len_stc, l1]
  have z2 : (stc s1 g (.inl (9, dfl_9.set 0 (.ref (g + 1))))).2 = s1.2 := rfl
  generalize stc s1 g (.inl (9, dfl_9.set 0 (.ref (g + 1)))) = s2 at o2 e2 n2 l2 z2
  obtain ⟨s3, K3, o3, a3, n3, l3, z3⟩ := nwf (k := 1) (N := 2) (e := .inr (7, (2, .inr (.inr (.inr (.inr (fun _ => none))))))) o2 (Nat.le_of_ble_eq_true rfl) l2
  have c4 : ∀ i, cel (apc s3 (.inl (7, dfl_7)) 6) i = if i = g + 256 then some (.inl (7, dfl_7)) else cel s3 i := fun i => by rw [cel_apc, l3]
  obtain ⟨s4, e4, T4, f4, l4, z4⟩ := C_newTrace (σ := apc s3 (.inl (7, dfl_7)) 6) (p := g + 256) (by rw [c4, if_pos rfl]) (by rw [len_apc, l3])
  have g4 : ∀ i, i < g + 256 → cel s4 i = cel s3 i := fun i hi => by rw [f4 i hi, c4, if_neg (by omega)]
  have o4 : cel s4 g = _ := (g4 g (by omega)).trans o3
  have e5 := sV_cel (k := 2) (v := .ref (g + 256)) o4 (Nat.le_of_ble_eq_true rfl)
  have o5 := cel_stc_s (e := .inl (9, ((dfl_9.set 0 (.ref (g + 1))).set 1 (.ref (g + 255))).set 2 (.ref (g + 256)))) o4
  have n5 : ∀ i, i ≠ g → cel (stc s4 g (.inl (9, ((dfl_9.set 0 (.ref (g + 1))).set 1 (.ref (g + 255))).set 2 (.ref (g + 256))))) i = cel s4 i := fun i hi => cel_stc_n o4 hi
  have l5 : (stc s4 g (.inl (9, ((dfl_9.set 0 (.ref (g + 1))).set 1 (.ref (g + 255))).set 2 (.ref (g + 256))))).1.length = g + 261 := by rw [len_stc, l4]
  have z5 : (stc s4 g (.inl (9, ((dfl_9.set 0 (.ref (g + 1))).set 1 (.ref (g + 255))).set 2 (.ref (g + 256))))).2 = s4.2 := rfl
  generalize stc s4 g (.inl (9, ((dfl_9.set 0 (.ref (g + 1))).set 1 (.ref (g + 255))).set 2 (.ref (g + 256)))) = s5 at o5 e5 n5 l5 z5
  have c6 : ∀ i, cel (apc s5 (.inl (5, dfl_5)) 6) i = if i = g + 261 then some (.inl (5, dfl_5)) else cel s5 i := fun i => by rw [cel_apc, l5]
  have o6 : cel (apc s5 (.inl (5, dfl_5)) 6) g = _ := (by rw [c6, if_neg (by omega)] : cel (apc s5 (.inl (5, dfl_5)) 6) g = cel s5 g).trans o5
  obtain ⟨s7, e7, B7, S7, f7, l7, z7⟩ := C_newPaper (σ := apc s5 (.inl (5, dfl_5)) 6) (P := g + 261) (b := g + 1) (by rw [c6, if_pos rfl]) (by rw [len_apc, l5])
  have g7 : ∀ i, i < g + 261 → cel s7 i = cel s5 i := fun i hi => by rw [f7 i hi, c6, if_neg (by omega)]
  have o7 : cel s7 g = _ := (g7 g (by omega)).trans o5
  have e8 := sV_cel (k := 3) (v := .ref (g + 261)) o7 (Nat.le_of_ble_eq_true rfl)
  have o8 := cel_stc_s (e := .inl (9, (((dfl_9.set 0 (.ref (g + 1))).set 1 (.ref (g + 255))).set 2 (.ref (g + 256))).set 3 (.ref (g + 261)))) o7
  have n8 : ∀ i, i ≠ g → cel (stc s7 g (.inl (9, (((dfl_9.set 0 (.ref (g + 1))).set 1 (.ref (g + 255))).set 2 (.ref (g + 256))).set 3 (.ref (g + 261))))) i = cel s7 i := fun i hi => cel_stc_n o7 hi
  have l8 : (stc s7 g (.inl (9, (((dfl_9.set 0 (.ref (g + 1))).set 1 (.ref (g + 255))).set 2 (.ref (g + 256))).set 3 (.ref (g + 261))))).1.length = g + 305 := by rw [len_stc, l7]
  have z8 : (stc s7 g (.inl (9, (((dfl_9.set 0 (.ref (g + 1))).set 1 (.ref (g + 255))).set 2 (.ref (g + 256))).set 3 (.ref (g + 261))))).2 = s7.2 := rfl
  generalize stc s7 g (.inl (9, (((dfl_9.set 0 (.ref (g + 1))).set 1 (.ref (g + 255))).set 2 (.ref (g + 256))).set 3 (.ref (g + 261)))) = s8 at o8 e8 n8 l8 z8
  have c9 : ∀ i, cel (apc s8 (.inl (0, dfl_0)) 6) i = if i = g + 305 then some (.inl (0, dfl_0)) else cel s8 i := fun i => by rw [cel_apc, l8]
  have o9 : cel (apc s8 (.inl (0, dfl_0)) 6) g = _ := (by rw [c9, if_neg (by omega)] : cel (apc s8 (.inl (0, dfl_0)) 6) g = cel s8 g).trans o8
  obtain ⟨s10, e10, C10, f10, l10, z10⟩ := C_newCouples (σ := apc s8 (.inl (0, dfl_0)) 6) (p := g + 305) (by rw [c9, if_pos rfl]) (by rw [len_apc, l8]) (g + 1)
  have g10 : ∀ i, i < g + 305 → cel s10 i = cel s8 i := fun i hi => by rw [f10 i hi, c9, if_neg (by omega)]
  have o10 : cel s10 g = _ := (g10 g (by omega)).trans o8
  have e11 := sV_cel (k := 4) (v := .ref (g + 305)) o10 (Nat.le_of_ble_eq_true rfl)
  have o11 := cel_stc_s (e := .inl (9, ((((dfl_9.set 0 (.ref (g + 1))).set 1 (.ref (g + 255))).set 2 (.ref (g + 256))).set 3 (.ref (g + 261))).set 4 (.ref (g + 305)))) o10
  have n11 : ∀ i, i ≠ g → cel (stc s10 g (.inl (9, ((((dfl_9.set 0 (.ref (g + 1))).set 1 (.ref (g + 255))).set 2 (.ref (g + 256))).set 3 (.ref (g + 261))).set 4 (.ref (g + 305))))) i = cel s10 i := fun i hi => cel_stc_n o10 hi
  have l11 : (stc s10 g (.inl (9, ((((dfl_9.set 0 (.ref (g + 1))).set 1 (.ref (g + 255))).set 2 (.ref (g + 256))).set 3 (.ref (g + 261))).set 4 (.ref (g + 305))))).1.length = g + 309 := by rw [len_stc, l10]
  have z11 : (stc s10 g (.inl (9, ((((dfl_9.set 0 (.ref (g + 1))).set 1 (.ref (g + 255))).set 2 (.ref (g + 256))).set 3 (.ref (g + 261))).set 4 (.ref (g + 305))))).2 = s10.2 := rfl
  generalize stc s10 g (.inl (9, ((((dfl_9.set 0 (.ref (g + 1))).set 1 (.ref (g + 255))).set 2 (.ref (g + 256))).set 3 (.ref (g + 261))).set 4 (.ref (g + 305)))) = s11 at o11 e11 n11 l11 z11
  have e12 := sV_cel (k := 5) (v := .long 0) o11 (Nat.le_of_ble_eq_true rfl)
  have o12 := cel_stc_s (e := .inl (9, gO9 (g + 1) (g + 255) (g + 256) (g + 261) (g + 305) 0)) o11
  have n12 : ∀ i, i ≠ g → cel (stc s11 g (.inl (9, gO9 (g + 1) (g + 255) (g + 256) (g + 261) (g + 305) 0))) i = cel s11 i := fun i hi => cel_stc_n o11 hi
  have l12 : (stc s11 g (.inl (9, gO9 (g + 1) (g + 255) (g + 256) (g + 261) (g + 305) 0))).1.length = g + 309 := by rw [len_stc, l11]
  have z12 : (stc s11 g (.inl (9, gO9 (g + 1) (g + 255) (g + 256) (g + 261) (g + 305) 0))).2 = s11.2 := rfl
  have e12' : sV s11 g 9 5 (.long 0) = some (stc s11 g (.inl (9, gO9 (g + 1) (g + 255) (g + 256) (g + 261) (g + 305) 0))) := e12
  generalize stc s11 g (.inl (9, gO9 (g + 1) (g + 255) (g + 256) (g + 261) (g + 305) 0)) = s12 at o12 n12 l12 z12 e12'
  have h12 : ∀ i, i ≠ g → i < g + 305 → cel s12 i = cel s7 i := fun i g1 g2 => by rw [n12 i g1, n11 i g1, g10 i g2, n8 i g1]
  have h7 : ∀ i, i ≠ g → i < g + 261 → cel s12 i = cel s4 i := fun i g1 g2 => by rw [h12 i g1 (by omega), g7 i g2, n5 i g1]
  have h1 : ∀ i, i ≠ g → i < g + 255 → cel s12 i = cel s1 i := fun i g1 g2 => by rw [h7 i g1 (by omega), g4 i (by omega), n3 i g1 (by omega), n2 i g1]
  refine ⟨s12, ?_, o12, W1.cg (fun i hi => h1 i (by have := hi.1; omega) (by have := hi.2; omega)), ?_, T4.cg (fun i g1 g2 => h7 i (by omega) (by omega)), B7.cg (fun i g1 g2 => h12 i (by omega) (by omega)), fun s hs => (S7 s hs).cg (fun i g1 g2 => h12 i (by omega) (by omega)), C10.cg (fun i g1 g2 => by rw [n12 i (by omega), n11 i (by omega)]), fun i hi => ?_, l12, ?_⟩
  · unfold F_X9_init
    rw [show ((2 : Int32).toNatClampNeg) = 2 from rfl]
    rw [nw_]
    show (F_X8_init (apc σ (.inl (8, dfl_8)) 11) σ.1.length).bind _ = _
    rw [hl, e1, bind_some', e2, bind_some', K3]
    rw [nw_]
    show (F_X7_init (apc s3 (.inl (7, dfl_7)) 6) s3.1.length).bind _ = _
    rw [l3, e4, bind_some', e5, bind_some']
    rw [nw_]
    show (gR (apc s5 (.inl (5, dfl_5)) 6) g 9 0).bind (fun p14 => (F_X5_init (apc s5 (.inl (5, dfl_5)) 6) s5.1.length p14).bind _) = _
    rw [gR_cel o6 rfl, bind_some', l5, e7, bind_some', e8, bind_some']
    rw [nw_]
    show (gR (apc s8 (.inl (0, dfl_0)) 6) g 9 0).bind (fun p19 => (F_X0_init (apc s8 (.inl (0, dfl_0)) 6) s8.1.length p19).bind _) = _
    rw [gR_cel o9 rfl, bind_some', l8, e10, bind_some', e11, bind_some', e12', bind_some']
  · unfold RA
    rw [h7 _ (by omega) (by omega), g4 _ (by omega)]
    exact a3
  · rw [h1 i (by omega) (by omega), f1 i (by omega), c0, if_neg (by omega)]
  · rw [z12, z11, z10]
    show s8.2 + 6 + 40 = _
    rw [z8, z7]
    show s5.2 + 6 + 2168 + 6 + 40 = _
    rw [z5, z4]
    show s3.2 + 6 + 128 + 6 + 2168 + 6 + 40 = _
    rw [z3, z2, z1]
    show σ.2 + 11 + 5464 + 2 + 6 + 128 + 6 + 2168 + 6 + 40 = _
    simp only [Nat.add_assoc]
end NEY
