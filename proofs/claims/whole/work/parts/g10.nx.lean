/-! ===== PURE 48: the class's constructors: world, paper, all ===== -/
theorem rfN_up (j : Nat) (g : Nat → Nat) : up (rfN j g) j (some (g j)) = rfN (j + 1) g := by
  funext e
  unfold rfN
  by_cases hej : e = j
  · rw [hej, up_s, if_pos (by omega)]
  · rw [up_n _ _ hej]
    by_cases hlt : e < j
    · rw [if_pos hlt, if_pos (by omega)]
    · rw [if_neg hlt, if_neg (by omega)]
theorem rfN_0 (g : Nat → Nat) : rfN 0 g = fun _ => none := by
  funext e; exact if_neg (Nat.not_lt_zero e)
/-- a site is made, and laid into an array -/
theorem nwS {σ : Sto} {a j m : Nat} {g : Nat → Nat} (hl : σ.1.length = m) (h : RA σ a 4 5 (rfN j g)) (hj : j < 5) (hg : g j = m) : ∃ t, (∀ K : Sto → Option Sto, nw_ σ (.inl (6, dfl_6)) 7 (fun p20 s19 => (F_X6_init s19 p20).bind fun s21 => (aast s21 a 4 (nI j) p20).bind K) = K t) ∧ RA t a 4 5 (rfN (j + 1) g) ∧ SI t m sBeg ∧ (∀ i, i < m → i ≠ a → cel t i = cel σ i) ∧ t.1.length = m + 7 ∧ t.2 = σ.2 + 396 := by
  have ha := cel_lt h
  have c0 : ∀ i, cel (apc σ (.inl (6, dfl_6)) 7) i = if i = m then some (.inl (6, dfl_6)) else cel σ i := fun i => by rw [cel_apc, hl]
  obtain ⟨t1, e1, s1, f1, l1, z1⟩ := C_newSite (σ := apc σ (.inl (6, dfl_6)) 7) (p := m) (by rw [c0, if_pos rfl]) (by rw [len_apc, hl])
  have r1 : RA t1 a 4 5 (rfN j g) := by unfold RA; rw [f1 a (by omega), c0, if_neg (by omega)]; exact h
  obtain ⟨t2, e2, r2, F2⟩ := r1.wr (j := j) (r := m) hj (by decide) s1.ok
  have r3 : RA t2 a 4 5 (rfN (j + 1) g) := by rw [← rfN_up, hg]; exact r2
  refine ⟨t2, fun K => ?_, r3, s1.fr F2 (by omega), fun i h1 h2 => ?_, by rw [F2.2.1]; exact l1, ?_⟩
  · unfold nw_
    show (F_X6_init (apc σ (.inl (6, dfl_6)) 7) σ.1.length).bind _ = _
    rw [hl, e1, bind_some', e2, bind_some']
  · rw [F2.at (by omega), f1 i h1, c0, if_neg (by omega)]
  · rw [F2.1, z1]; show σ.2 + 7 + 389 = _; omega
section NEX
variable {σ : Sto} {b P g : Nat}
theorem C_newWorldS {k : Sto → Option Sto} (ho : cel σ b = some (.inl (8, wO8 b (wBeg 3 0)))) (hl : σ.1.length = b + 134) (h1 : RA σ (b + 130) 4 5 (fun _ => none)) (h2 : RA σ (b + 131) 4 5 (fun _ => none)) : ∃ t, F_X8_init_L55 b fu (nI 0) σ k = k t ∧ t.1.length = b + 204 ∧ t.2 = σ.2 + 3960 ∧ (∀ i, i < b + 134 → i ≠ b + 130 → i ≠ b + 131 → cel t i = cel σ i) ∧ RA t (b + 130) 4 5 (rfN 5 (Ls b)) ∧ RA t (b + 131) 4 5 (rfN 5 (fun s => b + 141 + 14 * s)) ∧ ∀ s, s < 5 → SI t (Ls b s) sBeg ∧ SI t (b + 141 + 14 * s) sBeg := by
  obtain ⟨t9, ⟨L9, z9, f9, r9, q9, s9⟩, e9⟩ := lpS (fun fl j t => F_X8_init_L55 b fl (nI j) t k) k (fun j t => t.1.length = b + 134 + 14 * j ∧ t.2 = σ.2 + 792 * j ∧ (∀ i, i < b + 134 → i ≠ b + 130 → i ≠ b + 131 → cel t i = cel σ i) ∧ RA t (b + 130) 4 5 (rfN j (Ls b)) ∧ RA t (b + 131) 4 5 (rfN j (fun s => b + 141 + 14 * s)) ∧ ∀ s, s < j → SI t (Ls b s) sBeg ∧ SI t (b + 141 + 14 * s) sBeg) 5 (by
    intro j fl t hj ⟨L9, z9, f9, r9, q9, s9⟩
    obtain ⟨t1, K1, a1, b1, n1, l1, z1⟩ := nwS (g := Ls b) L9 r9 hj rfl
    have q1 : RA t1 (b + 131) 4 5 (rfN j (fun s => b + 141 + 14 * s)) := by unfold RA; rw [n1 _ (by omega) (by omega)]; exact q9
    have hlj : Ls b j = b + 134 + 14 * j := rfl
    obtain ⟨t2, K2, a2, b2, n2, l2, z2⟩ := nwS (m := b + 134 + 14 * j + 7) (g := fun s => b + 141 + 14 * s) l1 q1 hj (by omega)
    refine ⟨t2, ⟨by omega, by rw [z2, z1, z9]; omega, fun i g1 g2 g3 => ?_, ?_, a2, fun s hs => ?_⟩, ?_⟩
    · rw [n2 i (by omega) g3, n1 i (by omega) g2]; exact f9 i g1 g2 g3
    · unfold RA; rw [n2 _ (by omega) (by omega)]; exact a1
    · have hls : Ls b s = b + 134 + 14 * s := rfl
      by_cases hsj : s = j
      · subst hsj
        refine ⟨?_, ?_⟩
        · rw [hls]; exact b1.cg (fun i g1 g2 => n2 i (by omega) (by omega))
        · rw [show b + 141 + 14 * s = b + 134 + 14 * s + 7 by omega]; exact b2
      · have := s9 s (by omega)
        exact ⟨this.1.cg (fun i g1 g2 => by rw [n2 i (by omega) (by omega), n1 i (by omega) (by omega)]), this.2.cg (fun i g1 g2 => by rw [n2 i (by omega) (by omega), n1 i (by omega) (by omega)])⟩
    · show F_X8_init_L55 b (fl + 1) (nI j) t k = F_X8_init_L55 b fl (nI (j + 1)) t2 k
      have ob : cel t b = some (.inl (8, wO8 b (wBeg 3 0))) := (f9 b (by omega) (by omega) (by omega)).trans ho
      have ob1 : cel t1 b = some (.inl (8, wO8 b (wBeg 3 0))) := (n1 b (by omega) (by omega)).trans ob
      rw [F_X8_init_L55, show (5 : Int32) = nI 5 from rfl, if_neg (by rw [nI_leI (by omega) (by omega)]; omega), gR_cel ob rfl, bind_some', K1, gR_cel ob1 rfl, bind_some', K2, l_1, nI_add]) (by
    intro fl t _
    show F_X8_init_L55 b (fl + 1) (nI 5) t k = k t
    rw [F_X8_init_L55, if_pos (by decide)]) fu σ (by unfold fu; omega) ⟨by omega, by omega, fun _ _ _ _ => rfl, by rw [rfN_0]; exact h1, by rw [rfN_0]; exact h2, fun s hs => absurd hs (Nat.not_lt_zero s)⟩
  exact ⟨t9, e9, by omega, by omega, f9, r9, q9, s9⟩
theorem C_newWorldR {k : Sto → Option Sto} (ho : cel σ b = some (.inl (8, wO8 b (wBeg 3 0)))) (hl : σ.1.length = b + 204) (h1 : RA σ (b + 132) 5 25 (fun _ => none)) : ∃ t, F_X8_init_L94 b fu (nI 0) σ k = k t ∧ t.1.length = b + 254 ∧ t.2 = σ.2 + 350 ∧ (∀ i, i < b + 204 → i ≠ b + 132 → cel t i = cel σ i) ∧ RA t (b + 132) 5 25 (rfN 25 (fun c => b + 204 + 2 * c)) ∧ ∀ c, c < 25 → cel t (b + 204 + 2 * c) = some (.inl (4, [.int (nI 0), .ref (b + 205 + 2 * c)])) ∧ RA t (b + 205 + 2 * c) 6 12 (fun _ => none) := by
  obtain ⟨t9, ⟨L9, z9, f9, r9, s9⟩, e9⟩ := lpS (fun fl j t => F_X8_init_L94 b fl (nI j) t k) k (fun j t => t.1.length = b + 204 + 2 * j ∧ t.2 = σ.2 + 14 * j ∧ (∀ i, i < b + 204 → i ≠ b + 132 → cel t i = cel σ i) ∧ RA t (b + 132) 5 25 (rfN j (fun c => b + 204 + 2 * c)) ∧ ∀ c, c < j → cel t (b + 204 + 2 * c) = some (.inl (4, [.int (nI 0), .ref (b + 205 + 2 * c)])) ∧ RA t (b + 205 + 2 * c) 6 12 (fun _ => none)) 25 (by
    intro j fl t hj ⟨L9, z9, f9, r9, s9⟩
    have c0 : ∀ i, cel (apc t (.inl (4, dfl_4)) 2) i = if i = b + 204 + 2 * j then some (.inl (4, dfl_4)) else cel t i := fun i => by rw [cel_apc, L9]
    obtain ⟨t1, K1, o1, a1, n1, l1, z1⟩ := nwf (σ := apc t (.inl (4, dfl_4)) 2) (p := b + 204 + 2 * j) (c := 4) (fs := dfl_4) (k := 1) (m := b + 204 + 2 * j + 1) (N := 12) (e := .inr (6, (12, .inr (.inr (.inr (.inr (fun _ => none))))))) (by rw [c0, if_pos rfl]) (Nat.le_of_ble_eq_true rfl) (by rw [len_apc, L9])
    have fr1 : ∀ i, i < b + 204 + 2 * j → cel t1 i = cel t i := fun i hi => by rw [n1 i (by omega) (by omega), c0, if_neg (by omega)]
    have r1 : RA t1 (b + 132) 5 25 (rfN j (fun c => b + 204 + 2 * c)) := by unfold RA; rw [fr1 _ (by omega)]; exact r9
    obtain ⟨u, e2, r2, F2⟩ := r1.wr (j := j) (r := b + 204 + 2 * j) hj (by decide) (gOs_cel o1)
    have r3 : RA u (b + 132) 5 25 (rfN (j + 1) (fun c => b + 204 + 2 * c)) := by rw [← rfN_up]; exact r2
    refine ⟨u, ⟨by rw [F2.2.1]; omega, ?_, fun i g1 g2 => ?_, r3, fun c hc => ?_⟩, ?_⟩
    · rw [F2.1, z1]; show t.2 + 2 + 12 = _; omega
    · rw [F2.at (by omega), fr1 i (by omega)]; exact f9 i g1 g2
    · by_cases hcj : c = j
      · subst hcj
        refine ⟨(F2.at (by omega)).trans ?_, (F2.at (by omega)).trans ?_⟩
        · rw [show b + 205 + 2 * c = b + 204 + 2 * c + 1 by omega]; exact o1
        · rw [show b + 205 + 2 * c = b + 204 + 2 * c + 1 by omega]; exact a1
      · have := s9 c (by omega)
        refine ⟨(F2.at (by omega)).trans ((fr1 _ (by omega)).trans this.1), ?_⟩
        unfold RA
        rw [F2.at (by omega), fr1 _ (by omega)]
        exact this.2
    · show F_X8_init_L94 b (fl + 1) (nI j) t k = F_X8_init_L94 b fl (nI (j + 1)) u k
      have ob : cel t b = some (.inl (8, wO8 b (wBeg 3 0))) := (f9 b (by omega) (by omega)).trans ho
      rw [F_X8_init_L94, show (25 : Int32) = nI 25 from rfl, if_neg (by rw [nI_leI (by omega) (by omega)]; omega), gR_cel ob rfl, bind_some']
      have e1 : F_X4_init (apc t (.inl (4, dfl_4)) 2) (b + 204 + 2 * j) = some t1 := by
        unfold F_X4_init
        rw [show ((12 : Int32).toNatClampNeg) = 12 from rfl]
        exact K1 (fun s3 => some s3)
      rw [nw_]
      show (F_X4_init (apc t (.inl (4, dfl_4)) 2) t.1.length).bind _ = _
      rw [L9, e1, bind_some', e2, bind_some', l_1, nI_add]) (by
    intro fl t _
    show F_X8_init_L94 b (fl + 1) (nI 25) t k = k t
    rw [F_X8_init_L94, if_pos (by decide)]) fu σ (by unfold fu; omega) ⟨by omega, by omega, fun _ _ _ => rfl, by rw [rfN_0]; exact h1, fun s hs => absurd hs (Nat.not_lt_zero s)⟩
  exact ⟨t9, e9, by omega, by omega, f9, r9, s9⟩
/-- the cells of a new world -/
def Ow (b : Nat) : Nat → Prop := fun i => b ≤ i ∧ i < b + 254
theorem C_newWorld (h : cel σ b = some (.inl (8, dfl_8))) (hl : σ.1.length = b + 1) : ∃ t, F_X8_init σ b = some t ∧ CM (Ow b) t b (wBeg 3 0) (fun _ _ => none) ∧ (∀ i, i < b → cel t i = cel σ i) ∧ t.1.length = b + 254 ∧ t.2 = σ.2 + 5464 := by
  have o0 := cel_stc_s (e := .inl (8, dfl_8.set 0 (.int 3))) h
  have e0 : sV σ b 8 0 (.int 3) = some (stc σ b (.inl (8, dfl_8.set 0 (.int 3)))) := sV_cel h (Nat.le_of_ble_eq_true rfl)
  have n0 : ∀ i, i ≠ b → cel (stc σ b (.inl (8, dfl_8.set 0 (.int 3)))) i = cel σ i := fun i hi => cel_stc_n h hi
  have l0 : (stc σ b (.inl (8, dfl_8.set 0 (.int 3)))).1.length = b + 1 := by rw [len_stc, hl]
  have z0 : (stc σ b (.inl (8, dfl_8.set 0 (.int 3)))).2 = σ.2 := rfl
  generalize stc σ b (.inl (8, dfl_8.set 0 (.int 3))) = s0 at o0 e0 n0 l0 z0
  have c1 : ∀ i, cel (apc s0 (.inl (2, dfl_2)) 9) i = if i = b + 1 then some (.inl (2, dfl_2)) else cel s0 i := fun i => by rw [cel_apc, l0]
  obtain ⟨s1, e1, E1, f1, l1, z1⟩ := C_newEvents (σ := apc s0 (.inl (2, dfl_2)) 9) (p := b + 1) (by rw [c1, if_pos rfl]) (by rw [len_apc, l0])
  have o1 : cel s1 b = some (.inl (8, dfl_8.set 0 (.int 3))) := by rw [f1 b (by omega), c1, if_neg (by omega)]; exact o0
  have e2 : sV s1 b 8 6 (.ref (b + 1)) = some (stc s1 b (.inl (8, (dfl_8.set 0 (.int 3)).set 6 (.ref (b + 1))))) := sV_cel o1 (Nat.le_of_ble_eq_true rfl)
  have o2 := cel_stc_s (e := .inl (8, (dfl_8.set 0 (.int 3)).set 6 (.ref (b + 1)))) o1
  have n2 : ∀ i, i ≠ b → cel (stc s1 b (.inl (8, (dfl_8.set 0 (.int 3)).set 6 (.ref (b + 1))))) i = cel s1 i := fun i hi => cel_stc_n o1 hi
  have l2 : (stc s1 b (.inl (8, (dfl_8.set 0 (.int 3)).set 6 (.ref (b + 1))))).1.length = b + 130 := by rw [len_stc, l1]
  have z2 : (stc s1 b (.inl (8, (dfl_8.set 0 (.int 3)).set 6 (.ref (b + 1))))).2 = s1.2 := rfl
  generalize stc s1 b (.inl (8, (dfl_8.set 0 (.int 3)).set 6 (.ref (b + 1)))) = s2 at o2 e2 n2 l2 z2
  obtain ⟨t1, K1, p1, a1, m1, k1, y1⟩ := nwf (k := 7) (N := 5) (e := .inr (4, (5, .inr (.inr (.inr (.inr (fun _ => none))))))) o2 (Nat.le_of_ble_eq_true rfl) l2
  obtain ⟨t2, K2, p2, a2, m2, k2, y2⟩ := nwf (k := 8) (N := 5) (e := .inr (4, (5, .inr (.inr (.inr (.inr (fun _ => none))))))) p1 (Nat.le_of_ble_eq_true rfl) k1
  obtain ⟨t3, K3, p3, a3, m3, k3, y3⟩ := nwf (k := 9) (N := 25) (e := .inr (5, (25, .inr (.inr (.inr (.inr (fun _ => none))))))) p2 (Nat.le_of_ble_eq_true rfl) k2
  obtain ⟨t4, K4, p4, a4, m4, k4, y4⟩ := nwf (k := 10) (N := 25) (e := .inr (2, (25, .inl (fun _ => 0)))) p3 (Nat.le_of_ble_eq_true rfl) k3
  have p4' : cel t4 b = some (.inl (8, wO8 b (wBeg 3 0))) := p4
  obtain ⟨t5, e5, l5, z5, f5, r5, q5, s5⟩ := C_newWorldS (σ := t4) (b := b) (k := fun s28 => F_X8_init_L94 b fu (nI 0) s28 (fun s34 => some s34)) p4' k4 (by unfold RA; rw [m4 _ (by omega) (by omega), m3 _ (by omega) (by omega), m2 _ (by omega) (by omega)]; exact a1) (by unfold RA; rw [m4 _ (by omega) (by omega), m3 _ (by omega) (by omega)]; exact a2)
  have p5 : cel t5 b = some (.inl (8, wO8 b (wBeg 3 0))) := (f5 b (by omega) (by omega) (by omega)).trans p4'
  obtain ⟨t6, e6, l6, z6, f6, r6, s6⟩ := C_newWorldR (σ := t5) (b := b) (k := fun s34 => some s34) p5 l5 (by unfold RA; rw [f5 _ (by omega) (by omega) (by omega), m4 _ (by omega) (by omega)]; exact a3)
  have fr : ∀ i, i < b + 130 → i ≠ b → cel t6 i = cel s1 i := fun i g1 g2 => by
    rw [f6 i (by omega) (by omega), f5 i (by omega) (by omega) (by omega), m4 i g2 (by omega), m3 i g2 (by omega), m2 i g2 (by omega), m1 i g2 (by omega), n2 i g2]
  refine ⟨t6, ?_, ⟨⟨(f6 b (by omega) (by omega)).trans p5, E1.cg (fun i g1 g2 => fr i (by omega) (by omega)), ?_, ?_, r6, ⟨fun _ => 0, ?_, fun f o _ _ => rfl⟩, fun s hs => ?_, s6, fun c k p _ _ hp => (by cases hp), fun c k l _ hl => (by simp [wBeg, wT] at hl), fun i g1 g2 => ⟨g1, g2⟩, fun s hs i g1 g2 => ?_, fun c k p _ _ hp => (by cases hp)⟩, fun c k p _ _ hp => (by cases hp), fun c k p c' k' p' _ _ _ _ hp => (by cases hp)⟩, fun i hi => ?_, l6, ?_⟩
  · unfold F_X8_init
    rw [show ((5 : Int32).toNatClampNeg) = 5 from rfl, show ((25 : Int32).toNatClampNeg) = 25 from rfl, e0, bind_some']
    rw [nw_]
    show (F_X2_init (apc s0 (.inl (2, dfl_2)) 9) s0.1.length).bind _ = _
    rw [l0, e1, bind_some', e2, bind_some', K1, K2, K3, K4, l_0]
    exact e5.trans e6
  · unfold RA; rw [f6 _ (by omega) (by omega)]; exact r5
  · unfold RA; rw [f6 _ (by omega) (by omega)]; exact q5
  · unfold ZA
    rw [f6 _ (by omega) (by omega), f5 _ (by omega) (by omega) (by omega)]
    exact a4
  · have := s5 s hs
    have hls : Ls b s = b + 134 + 14 * s := rfl
    exact ⟨this.1.cg (fun i g1 g2 => f6 i (by omega) (by omega)), this.2.cg (fun i g1 g2 => f6 i (by omega) (by omega))⟩
  · have hls : Ls b s = b + 134 + 14 * s := rfl
    exact ⟨by omega, by omega⟩
  · rw [fr i (by omega) (by omega), f1 i (by omega), c1, if_neg (by omega), n0 i (by omega)]
  · have : (apc s0 (.inl (2, dfl_2)) 9).2 = s0.2 + 9 := rfl
    omega
end NEX
