/-! ===== PURE 50: the class's state ===== -/
/-- a throw leaves a cell with nothing in it -/
def thw (σ : Sto) : Sto := (σ.1 ++ [none], σ.2 + 6)
theorem cel_thw (σ : Sto) (i : Nat) : cel (thw σ) i = cel σ i := by
  unfold cel thw
  show ((σ.1 ++ [none])[i]?).bind id = _
  by_cases hi : i < σ.1.length
  · rw [List.getElem?_append_left hi]
  · rw [List.getElem?_append_right (by omega), List.getElem?_eq_none (l := σ.1) (by omega)]
    cases hj : i - σ.1.length with
    | zero => rfl
    | succ j => rfl
theorem len_thw (σ : Sto) : (thw σ).1.length = σ.1.length + 1 := by simp [thw]
def zI (im : Nat → Option Wd) (sli : Nat → Nat → Nat → Option Nat) (k : Nat) : Nat := match im k with
  | none => 364
  | some _ => nz (sli k)
/-- the class's state: world, images, trace, what was drawn; z places for letters are unmade; Q are its cells -/
def GT (σ : Sto) (g : Nat) (w : Wd) (im : Nat → Option Wd) (tr : List Tr) (d : Int64) (z : Nat) (Q : Nat → Prop) : Prop :=
  ∃ (O : Nat → Prop) (sl : Nat → Nat → Option Nat) (bi : Nat → Nat) (Oi : Nat → Nat → Prop) (sli : Nat → Nat → Nat → Option Nat),
  cel σ g = some (.inl (9, gO9 (g + 1) (g + 255) (g + 256) (g + 261) (g + 305) d)) ∧
  CM O σ (g + 1) w sl ∧
  RA σ (g + 255) 7 2 (fun k => (im k).map (fun _ => bi k)) ∧
  CT σ (g + 256) tr ∧ (PB σ (g + 261) (g + 1) ∧ ∃ ps, PS σ (g + 261) ps) ∧ (∃ x a F S K, CP σ (g + 305) (g + 1) x a F S K) ∧
  (∀ i, O i → (g + 1 ≤ i ∧ i < g + 255) ∨ g + 309 ≤ i) ∧
  (∀ k v, im k = some v → k < 2 ∧ CM (Oi k) σ (bi k) v (sli k) ∧ (∀ i, Oi k i → g + 309 ≤ i ∧ ¬ O i ∧ Q i) ∧ (gO σ (bi k) 8).isSome = true) ∧
  (∀ i v v', im 0 = some v → im 1 = some v' → Oi 0 i → ¬ Oi 1 i) ∧
  z = nz sl + zI im sli 0 + zI im sli 1 ∧
  (∀ i, g ≤ i → i < g + 309 → Q i) ∧ (∀ i, O i → Q i) ∧ ∀ i, Q i → i < σ.1.length
/-- how the store goes on: only cells of Q are changed, new cells come behind, room is counted -/
def Gz (Q : Nat → Prop) (σ : Sto) (z : Nat) (Q' : Nat → Prop) (t : Sto) (z' c s : Nat) : Prop := (∀ i, Q i → Q' i) ∧ (∀ i, Q' i → Q i ∨ σ.1.length ≤ i) ∧ (∀ i, i < σ.1.length → ¬ Q i → cel t i = cel σ i) ∧ σ.1.length ≤ t.1.length ∧ t.1.length + 4 * z' ≤ σ.1.length + 4 * z + c ∧ t.2 + 154 * z' ≤ σ.2 + 154 * z + s
theorem Gz.rf {Q : Nat → Prop} {σ : Sto} {z : Nat} : Gz Q σ z Q σ z 0 0 := ⟨fun _ h => h, fun _ h => Or.inl h, fun _ _ _ => rfl, Nat.le_refl _, Nat.le_refl _, Nat.le_refl _⟩
theorem Gz.tr {Q Q1 Q2 : Nat → Prop} {σ s t : Sto} {z z1 z2 a b c d : Nat} (h1 : Gz Q σ z Q1 s z1 a b) (h2 : Gz Q1 s z1 Q2 t z2 c d) : Gz Q σ z Q2 t z2 (a + c) (b + d) := by
  obtain ⟨p1, p2, p3, p4, p5, p6⟩ := h1
  obtain ⟨q1, q2, q3, q4, q5, q6⟩ := h2
  refine ⟨fun i h => q1 i (p1 i h), fun i h => ?_, fun i h n => ?_, by omega, by omega, by omega⟩
  · rcases q2 i h with h | h
    · exact p2 i h
    · exact Or.inr (by omega)
  · rw [q3 i (by omega) (fun z => by rcases p2 i z with y | y; exact n y; omega), p3 i h n]
section GTS
variable {σ t : Sto} {g : Nat} {w : Wd} {im : Nat → Option Wd} {tr : List Tr} {d : Int64} {z : Nat} {Q : Nat → Prop} {w2 : Wd}
theorem GT.lt (h : GT σ g w im tr d z Q) : ∀ i, Q i → i < σ.1.length := by
  obtain ⟨O, sl, bi, Oi, sli, h1, h2, h3, h4, h5, h6, h7, h8, h9, h10, h11, h12, h13⟩ := h
  exact h13
theorem GT.blk (h : GT σ g w im tr d z Q) : ∀ i, g ≤ i → i < g + 309 → Q i := by
  obtain ⟨O, sl, bi, Oi, sli, h1, h2, h3, h4, h5, h6, h7, h8, h9, h10, h11, h12, h13⟩ := h
  exact h11
theorem GT.o (h : GT σ g w im tr d z Q) : cel σ g = some (.inl (9, gO9 (g + 1) (g + 255) (g + 256) (g + 261) (g + 305) d)) := by
  obtain ⟨O, sl, bi, Oi, sli, h1, h2, h3, h4, h5, h6, h7, h8, h9, h10, h11, h12, h13⟩ := h
  exact h1
theorem GT.ok (h : GT σ g w im tr d z Q) : (gO σ g 9).isSome = true := gOs_cel h.o
theorem GT.r0 (h : GT σ g w im tr d z Q) : gR σ g 9 0 = some (g + 1) := gR_cel h.o rfl
theorem GT.r1 (h : GT σ g w im tr d z Q) : gR σ g 9 1 = some (g + 255) := gR_cel h.o rfl
theorem GT.r2 (h : GT σ g w im tr d z Q) : gR σ g 9 2 = some (g + 256) := gR_cel h.o rfl
theorem GT.r3 (h : GT σ g w im tr d z Q) : gR σ g 9 3 = some (g + 261) := gR_cel h.o rfl
theorem GT.r4 (h : GT σ g w im tr d z Q) : gR σ g 9 4 = some (g + 305) := gR_cel h.o rfl
theorem GT.cm (h : GT σ g w im tr d z Q) : ∃ O sl, CM O σ (g + 1) w sl ∧ (∀ i, O i → (g + 1 ≤ i ∧ i < g + 255) ∨ g + 309 ≤ i) ∧ ∀ i, O i → i < σ.1.length := by
  obtain ⟨O, sl, bi, Oi, sli, h1, h2, h3, h4, h5, h6, h7, h8, h9, h10, h11, h12, h13⟩ := h
  exact ⟨O, sl, h2, h7, fun i hi => h13 i (h12 i hi)⟩
/-- the same cells, the same state -/
theorem GT.cg (h : GT σ g w im tr d z Q) (hc : ∀ i, Q i → cel t i = cel σ i) (hl : σ.1.length ≤ t.1.length) : GT t g w im tr d z Q := by
  obtain ⟨O, sl, bi, Oi, sli, h1, h2, h3, h4, ⟨h5, ps, h5b⟩, ⟨x, a, F, S, K, h6⟩, h7, h8, h9, h10, h11, h12, h13⟩ := h
  refine ⟨O, sl, bi, Oi, sli, (hc _ (h11 _ (by omega) (by omega))).trans h1, h2.cg (fun i hi => hc i (h12 i hi)), ?_, h4.cg (fun i g1 g2 => hc i (h11 i (by omega) (by omega))), ⟨h5.cg (fun i g1 g2 => hc i (h11 i (by omega) (by omega))), ps, fun s hs => (h5b s hs).cg (fun i g1 g2 => hc i (h11 i (by omega) (by omega)))⟩, ⟨x, a, F, S, K, h6.cg (fun i g1 g2 => hc i (h11 i (by omega) (by omega)))⟩, h7, fun k v hk => ?_, h9, h10, h11, h12, fun i hi => Nat.lt_of_lt_of_le (h13 i hi) hl⟩
  · unfold RA; rw [hc _ (h11 _ (by omega) (by omega))]; exact h3
  · obtain ⟨a1, a2, a3, a4⟩ := h8 k v hk
    have a5 := a2.cg (t := t) (fun i hi => hc i (a3 i hi).2.2)
    exact ⟨a1, a5, a3, a5.1.ok⟩
theorem GT.thw (h : GT σ g w im tr d z Q) : GT (thw σ) g w im tr d z Q := h.cg (fun i _ => cel_thw σ i) (by rw [len_thw]; omega)
theorem Gz.tw : Gz Q σ z Q (thw σ) z 1 6 := ⟨fun _ h => h, fun _ h => Or.inl h, fun i _ _ => cel_thw σ i, by rw [len_thw]; omega, by rw [len_thw]; omega, by show σ.2 + 6 + _ ≤ _; omega⟩
/-- the trace has one more -/
theorem GT.trc (h : GT σ g w im tr d z Q) {tr' : List Tr} (hT : CT t (g + 256) tr') (hF : Fr (g + 256) 5 σ t) : GT t g w im tr' d z Q ∧ Gz Q σ z Q t z 0 0 := by
  obtain ⟨O, sl, bi, Oi, sli, h1, h2, h3, h4, ⟨h5, ps, h5b⟩, ⟨x, a, F, S, K, h6⟩, h7, h8, h9, h10, h11, h12, h13⟩ := h
  refine ⟨⟨O, sl, bi, Oi, sli, (hF.at (by omega)).trans h1, h2.cg (fun i hi => hF.at (by have := h7 i hi; omega)), ?_, hT, ⟨h5.cg (fun i g1 g2 => hF.at (by omega)), ps, fun s hs => (h5b s hs).cg (fun i g1 g2 => hF.at (by omega))⟩, ⟨x, a, F, S, K, h6.cg (fun i g1 g2 => hF.at (by omega))⟩, h7, fun k v hk => ?_, h9, h10, h11, h12, fun i hi => by rw [hF.2.1]; exact h13 i hi⟩, fun _ h => h, fun _ h => Or.inl h, fun i _ n => hF.at (by have := mt (fun y : g ≤ i ∧ i < g + 309 => h11 i y.1 y.2) n; omega), by rw [hF.2.1]; omega, by rw [hF.2.1]; omega, by rw [hF.1]; omega⟩
  · unfold RA; rw [hF.at (by omega)]; exact h3
  · obtain ⟨a1, a2, a3, a4⟩ := h8 k v hk
    have a5 := a2.cg (t := t) (fun i hi => hF.at (by have := (a3 i hi).1; omega))
    exact ⟨a1, a5, a3, a5.1.ok⟩
/-- the paper is written on -/
theorem GT.pap (h : GT σ g w im tr d z Q) {ps : Nat → St} (hP : PB t (g + 261) (g + 1)) (hS : PS t (g + 261) ps) (hF : Fr (g + 261 + 2) 42 σ t) : GT t g w im tr d z Q ∧ Gz Q σ z Q t z 0 0 := by
  obtain ⟨O, sl, bi, Oi, sli, h1, h2, h3, h4, -, ⟨x, a, F, S, K, h6⟩, h7, h8, h9, h10, h11, h12, h13⟩ := h
  refine ⟨⟨O, sl, bi, Oi, sli, (hF.at (by omega)).trans h1, h2.cg (fun i hi => hF.at (by have := h7 i hi; omega)), ?_, h4.cg (fun i g1 g2 => hF.at (by omega)), ⟨hP, ps, hS⟩, ⟨x, a, F, S, K, h6.cg (fun i g1 g2 => hF.at (by omega))⟩, h7, fun k v hk => ?_, h9, h10, h11, h12, fun i hi => by rw [hF.2.1]; exact h13 i hi⟩, fun _ h => h, fun _ h => Or.inl h, fun i _ n => hF.at (by have := mt (fun y : g ≤ i ∧ i < g + 309 => h11 i y.1 y.2) n; omega), by rw [hF.2.1]; omega, by rw [hF.2.1]; omega, by rw [hF.1]; omega⟩
  · unfold RA; rw [hF.at (by omega)]; exact h3
  · obtain ⟨a1, a2, a3, a4⟩ := h8 k v hk
    have a5 := a2.cg (t := t) (fun i hi => hF.at (by have := (a3 i hi).1; omega))
    exact ⟨a1, a5, a3, a5.1.ok⟩
/-- the couples are sought -/
theorem GT.cpl (h : GT σ g w im tr d z Q) {x : Int32} {a : Nat} {F S K : Nat → Nat} (hP : CP t (g + 305) (g + 1) x a F S K) (hF : Fr (g + 305) 4 σ t) : GT t g w im tr d z Q ∧ Gz Q σ z Q t z 0 0 := by
  obtain ⟨O, sl, bi, Oi, sli, h1, h2, h3, h4, ⟨h5, ps, h5b⟩, -, h7, h8, h9, h10, h11, h12, h13⟩ := h
  refine ⟨⟨O, sl, bi, Oi, sli, (hF.at (by omega)).trans h1, h2.cg (fun i hi => hF.at (by have := h7 i hi; omega)), ?_, h4.cg (fun i g1 g2 => hF.at (by omega)), ⟨h5.cg (fun i g1 g2 => hF.at (by omega)), ps, fun s hs => (h5b s hs).cg (fun i g1 g2 => hF.at (by omega))⟩, ⟨x, a, F, S, K, hP⟩, h7, fun k v hk => ?_, h9, h10, h11, h12, fun i hi => by rw [hF.2.1]; exact h13 i hi⟩, fun _ h => h, fun _ h => Or.inl h, fun i _ n => hF.at (by have := mt (fun y : g ≤ i ∧ i < g + 309 => h11 i y.1 y.2) n; omega), by rw [hF.2.1]; omega, by rw [hF.2.1]; omega, by rw [hF.1]; omega⟩
  · unfold RA; rw [hF.at (by omega)]; exact h3
  · obtain ⟨a1, a2, a3, a4⟩ := h8 k v hk
    have a5 := a2.cg (t := t) (fun i hi => hF.at (by have := (a3 i hi).1; omega))
    exact ⟨a1, a5, a3, a5.1.ok⟩
/-- the world goes on -/
theorem GT.wld (h : GT σ g w im tr d z Q) (hop : ∀ O sl, CM O σ (g + 1) w sl → (∀ i, O i → i < σ.1.length) → ∃ O' sl' w', CM O' t (g + 1) w' sl' ∧ w' = w2 ∧ Gw O σ (nz sl) O' t (nz sl')) : ∃ z' Q', GT t g w2 im tr d z' Q' ∧ Gz Q σ z Q' t z' 0 0 := by
  obtain ⟨O, sl, bi, Oi, sli, h1, h2, h3, h4, ⟨h5, ps, h5b⟩, ⟨x, a, F, S, K, h6⟩, h7, h8, h9, h10, h11, h12, h13⟩ := h
  obtain ⟨O', sl', w', c1, rfl, g1, g2, g3, g4, g5, g6⟩ := hop O sl h2 (fun i hi => h13 i (h12 i hi))
  have hlen : σ.1.length ≤ t.1.length := by omega
  have bO : ∀ i, g + 255 ≤ i → i < g + 309 → cel t i = cel σ i := fun i a b => g3 i (h13 i (h11 i (by omega) b)) (fun y => by have := h7 i y; omega)
  refine ⟨nz sl' + zI im sli 0 + zI im sli 1, fun i => Q i ∨ (σ.1.length ≤ i ∧ i < t.1.length), ⟨O', sl', bi, Oi, sli, ?_, c1, ?_, h4.cg (fun i a b => bO i (by omega) (by omega)), ⟨h5.cg (fun i a b => bO i (by omega) (by omega)), ps, fun s hs => (h5b s hs).cg (fun i a b => bO i (by omega) (by omega))⟩, ⟨x, a, F, S, K, h6.cg (fun i a b => bO i (by omega) (by omega))⟩, fun i hi => ?_, fun k v hk => ?_, h9, rfl, fun i a b => Or.inl (h11 i a b), fun i hi => ?_, fun i hi => ?_⟩, fun i hi => Or.inl hi, fun i hi => hi.imp id (fun y => y.1), fun i a b => g3 i a (fun y => b (h12 i y)), hlen, by omega, by omega⟩
  · rw [g3 g (h13 g (h11 g (by omega) (by omega))) (fun y => by have := h7 g y; omega)]; exact h1
  · unfold RA; rw [bO _ (by omega) (by omega)]; exact h3
  · rcases g2 i hi with y | y
    · exact h7 i y
    · have := h13 (g + 308) (h11 _ (by omega) (by omega))
      exact Or.inr (by omega)
  · obtain ⟨a1, a2, a3, a4⟩ := h8 k v hk
    have a5 := a2.cg (t := t) (fun i hi => g3 i (h13 i (a3 i hi).2.2) (a3 i hi).2.1)
    refine ⟨a1, a5, fun i hi => ⟨(a3 i hi).1, fun y => ?_, Or.inl (a3 i hi).2.2⟩, a5.1.ok⟩
    rcases g2 i y with y | y
    · exact (a3 i hi).2.1 y
    · have := h13 i (a3 i hi).2.2
      omega
  · rcases g2 i hi with y | y
    · exact Or.inl (h12 i y)
    · exact Or.inr y
  · rcases hi with y | y
    · exact Nat.lt_of_lt_of_le (h13 i y) hlen
    · exact y.2
/-- the same, where the world's own cells alone are changed -/
theorem GT.wfr (h : GT σ g w im tr d z Q) (hop : ∀ O sl, CM O σ (g + 1) w sl → ∃ sl', CM O t (g + 1) w2 sl' ∧ nz sl' = nz sl) (hF : Fr (g + 1) 254 σ t) : ∃ z' Q', GT t g w2 im tr d z' Q' ∧ Gz Q σ z Q' t z' 0 0 := h.wld (fun O sl c _ => by
  obtain ⟨sl', c', e⟩ := hop O sl c
  refine ⟨O, sl', w2, c', rfl, fun _ h => h, fun _ h => Or.inl h, fun i _ n => hF.at (by have := mt (fun y : g + 1 ≤ i ∧ i < g + 1 + 254 => c.1.o1 i y.1 y.2) n; omega), Nat.le_of_eq e, by rw [hF.2.1, e], by rw [hF.1, e]⟩)
theorem nz_none : nz (fun _ _ => none) = 300 := fb_ct_all.mpr (fun _ _ => rfl)
/-- a new one -/
theorem C_newGT (h : cel σ g = some (.inl (9, dfl_9))) (hl : σ.1.length = g + 1) : ∃ t, F_X9_init σ g = some t ∧ GT t g (wBeg 3 0) (fun _ => none) [] 0 1028 (fun i => g ≤ i ∧ i < g + 309) ∧ (∀ i, i < g → cel t i = cel σ i) ∧ t.1.length = g + 309 ∧ t.2 = σ.2 + 7831 := by
  obtain ⟨t, e1, h1, h2, h3, h4, h5, h5b, h6, h7, h8, h9⟩ := C_newAll h hl
  have z0 : ∀ k, zI (fun _ => none) (fun _ _ _ => none) k = 364 := fun _ => rfl
  have hz : 1028 = nz (fun _ _ => none) + zI (fun _ => none) (fun _ _ _ => none) 0 + zI (fun _ => none) (fun _ _ _ => none) 1 := by
    rw [nz_none, z0, z0]
  refine ⟨t, e1, ⟨Ow (g + 1), _, fun _ => 0, fun _ _ => False, fun _ _ _ => none, h1, h2, h3, h4, ⟨h5, _, h5b⟩, ⟨_, _, _, _, _, h6⟩, fun i hi => Or.inl ⟨hi.1, by have := hi.2; omega⟩, fun k v hk => (by cases hk), fun i v v' hk => (by cases hk), hz, fun i a b => ⟨a, b⟩, fun i hi => ⟨by have := hi.1; omega, by have := hi.2; omega⟩, fun i hi => by have := hi.2; omega⟩, h7, h8, h9⟩
end GTS
