/-! ===== PURE 104: the search by layers ===== -/
def okY (w : Wd) (n : Nat) (y : Nat × Nat) : Prop := y.1 < n ∧ y.2 < n ∧ lgc w y.1 y.2 = true
/-- a word of the row is as good as this list of couples -/
def hsQ (U : Nat → Pq) (N : Nat) (p : Pq) : Prop := ∃ j, j < N ∧ wrd (U j) = wrd p ∧ cdc 0 (U j) ≤ cdc 0 p
/-- N words stand in the row, h are done, of the next one the couples under m are done -/
def BQ (w : Wd) (n : Nat) (G : Nat → Bool) (U : Nat → Pq) (N h m : Nat) : Prop :=
  (∀ j, j < N → okP w n (U j)) ∧ (0 < N ∧ U 0 = [] ∧ h ≤ N) ∧ (∀ i j, i < j → j < N → cdc 0 (U i) < cdc 0 (U j)) ∧
  (∀ i, i < h → G (wrd (U i)) = false ∧ ∀ y, okY w n y → hsQ U N (U i ++ [y])) ∧
  (h < N → (∀ y, okY w n y → 5 * y.1 + y.2 < m → hsQ U N (U h ++ [y])) ∧ ∀ j, j < N → cdc 0 (U j) < 32 * cdc 0 (U h) + m + 1) ∧
  (∀ i j, i < j → j < N → wrd (U i) ≠ wrd (U j)) ∧ ∀ j, j < N → j = 0 ∨ ∃ i y, i < j ∧ U j = U i ++ [y]
section BQS
variable {w : Wd} {n : Nat} {G : Nat → Bool} {U : Nat → Pq} {N h m : Nat}
theorem BQ.start : BQ w n G (fun _ => []) 1 0 0 := by
  refine ⟨fun j _ y hy => absurd hy List.not_mem_nil, ⟨by omega, rfl, by omega⟩, fun i j h1 h2 => by omega, fun i hi => by omega, fun _ => ⟨fun y _ hy => by omega, fun j hj => ?_⟩, fun i j h1 h2 => by omega, fun j hj => Or.inl (by omega)⟩
  show 0 < 32 * 0 + 0 + 1
  omega
theorem BQ.claim (b : BQ w n G U N h m) : ∀ (k : Nat) (p : Pq), p.length = k → okP w n p → hsQ U N p ∨ ∃ j, h ≤ j ∧ j < N ∧ cdc 0 (U j) ≤ cdc 0 p := by
  obtain ⟨b1, ⟨b2, b3, b4⟩, b5, b6, b7, b8, b9⟩ := b
  intro k
  induction k with
  | zero =>
    intro p hk hp
    have hp0 : p = [] := List.length_eq_zero_iff.mp hk
    refine Or.inl ⟨0, b2, ?_⟩
    rw [b3, hp0]
    exact ⟨rfl, Nat.le_refl _⟩
  | succ k ih =>
    intro p hk hp
    rcases sn_ex p with hp0 | ⟨p', y, hp'⟩
    · rw [hp0] at hk; cases hk
    · rw [hp'] at hp hk ⊢
      have a1 := okP_sn.mp hp
      have hl : p'.length = k := by rw [List.length_append] at hk; simpa using hk
      rcases ih p' hl a1.1 with ⟨j, c1, c2, c3⟩ | ⟨j, c1, c2, c3⟩
      · by_cases hj : j < h
        · obtain ⟨j', d1, d2, d3⟩ := (b6 j hj).2 y a1.2
          refine Or.inl ⟨j', d1, ?_, ?_⟩
          · rw [d2, wrd_sn, wrd_sn, c2]
          · rw [cdc_sn] at d3 ⊢; omega
        · refine Or.inr ⟨j, by omega, c1, ?_⟩
          rw [cdc_sn]; omega
      · refine Or.inr ⟨j, c1, c2, ?_⟩
        rw [cdc_sn]; omega
theorem BQ.found (b : BQ w n G U N h m) (hh : h < N) {q : Pq} (hq : okP w n q) (hg : G (wrd q) = true) : cdc 0 (U h) ≤ cdc 0 q := by
  have hle : ∀ j, h ≤ j → j < N → cdc 0 (U h) ≤ cdc 0 (U j) := by
    intro j h1 h2
    by_cases hj : h = j
    · rw [hj]; exact Nat.le_refl _
    · exact Nat.le_of_lt (b.2.2.1 h j (by omega) h2)
  rcases b.claim q.length q rfl hq with ⟨j, c1, c2, c3⟩ | ⟨j, c1, c2, c3⟩
  · by_cases hj : j < h
    · have := (b.2.2.2.1 j hj).1
      rw [c2, hg] at this; cases this
    · exact Nat.le_trans (hle j (by omega) c1) c3
  · exact Nat.le_trans (hle j c1 c2) c3
theorem BQ.empty (b : BQ w n G U N N m) {q : Pq} (hq : okP w n q) : G (wrd q) = false := by
  rcases b.claim q.length q rfl hq with ⟨j, c1, c2, c3⟩ | ⟨j, c1, c2, c3⟩
  · have := (b.2.2.2.1 j c1).1
    rw [c2] at this; exact this
  · omega
theorem BQ.next (b : BQ w n G U N h m) (hh : h < N) (hg : G (wrd (U h)) = false) (hm : m = 5 * n) (hn : n ≤ 4) : BQ w n G U N (h + 1) 0 := by
  obtain ⟨b1, ⟨b2, b3, b4⟩, b5, b6, b7, b8, b9⟩ := b
  obtain ⟨c1, c2⟩ := b7 hh
  refine ⟨b1, ⟨b2, b3, hh⟩, b5, fun i hi => ?_, fun h1 => ⟨fun y _ hy => by omega, fun j hj => ?_⟩, b8, b9⟩
  · by_cases hi2 : i = h
    · rw [hi2]
      exact ⟨hg, fun y hy => c1 y hy (by have := hy.1; have := hy.2.1; omega)⟩
    · exact b6 i (by omega)
  · have := c2 j hj
    have := b5 h (h + 1) (by omega) h1
    omega
theorem BQ.skip (b : BQ w n G U N h m) (hh : h < N) (hy : ∀ y, okY w n y → 5 * y.1 + y.2 = m → hsQ U N (U h ++ [y])) : BQ w n G U N h (m + 1) := by
  obtain ⟨b1, b2, b5, b6, b7, b8, b9⟩ := b
  obtain ⟨c1, c2⟩ := b7 hh
  refine ⟨b1, b2, b5, b6, fun h1 => ⟨fun y h2 h3 => ?_, fun j hj => ?_⟩, b8, b9⟩
  · by_cases h4 : 5 * y.1 + y.2 = m
    · exact hy y h2 h4
    · exact c1 y h2 (by omega)
  · have := c2 j hj
    omega
theorem okY_u {y z : Nat × Nat} (hn : n ≤ 4) (hy : okY w n y) (hz : okY w n z) (h : 5 * y.1 + y.2 = 5 * z.1 + z.2) : y = z := by
  have h1 := hy.1
  have h2 := hy.2.1
  have h3 := hz.1
  have h4 := hz.2.1
  exact Prod.ext (by omega) (by omega)
theorem BQ.seen (b : BQ w n G U N h m) (hn : n ≤ 4) (hh : h < N) {y : Nat × Nat} (hy : okY w n y) (hm : 5 * y.1 + y.2 = m) {j : Nat} (hj : j < N) (hw : wrd (U j) = wrd (U h ++ [y])) : BQ w n G U N h (m + 1) := by
  refine b.skip hh (fun z hz hzm => ?_)
  rw [okY_u hn hz hy (by omega)]
  refine ⟨j, hj, hw, ?_⟩
  have := (b.2.2.2.2.1 hh).2 j hj
  rw [cdc_sn]
  omega
theorem hsQ.up {p : Pq} (q : Pq) (h : hsQ U N p) : hsQ (up U N q) (N + 1) p := by
  obtain ⟨j, h1, h2⟩ := h
  refine ⟨j, by omega, ?_⟩
  rw [up_n _ _ (by omega)]
  exact h2
theorem BQ.add (b : BQ w n G U N h m) (hn : n ≤ 4) (hh : h < N) {y : Nat × Nat} (hy : okY w n y) (hm : 5 * y.1 + y.2 = m) (hw : ∀ j, j < N → wrd (U j) ≠ wrd (U h ++ [y])) : BQ w n G (up U N (U h ++ [y])) (N + 1) h (m + 1) := by
  obtain ⟨b1, ⟨b2, b3, b4⟩, b5, b6, b7, b8, b9⟩ := b
  obtain ⟨c1, c2⟩ := b7 hh
  have e : ∀ j, j < N → up U N (U h ++ [y]) j = U j := fun j hj => up_n _ _ (by omega)
  have hc : cdc 0 (U h ++ [y]) = 32 * cdc 0 (U h) + m + 1 := by rw [cdc_sn]; omega
  refine ⟨fun j hj => ?_, ⟨by omega, by rw [e 0 b2]; exact b3, by omega⟩, fun i j h1 h2 => ?_, fun i hi => ?_, fun _ => ⟨fun z hz hzm => ?_, fun j hj => ?_⟩, fun i j h1 h2 => ?_, fun j hj => ?_⟩
  · by_cases hj2 : j = N
    · rw [hj2, up_s]; exact okP_sn.mpr ⟨b1 h hh, hy⟩
    · rw [e j (by omega)]; exact b1 j (by omega)
  · rw [e i (by omega)]
    by_cases hj2 : j = N
    · rw [hj2, up_s, hc]; exact c2 i (by omega)
    · rw [e j (by omega)]; exact b5 i j h1 (by omega)
  · rw [e i (by omega)]
    exact ⟨(b6 i hi).1, fun z hz => ((b6 i hi).2 z hz).up _⟩
  · rw [e h hh]
    by_cases hz2 : 5 * z.1 + z.2 = m
    · rw [okY_u hn hz hy (by omega)]
      refine ⟨N, by omega, ?_⟩
      rw [up_s]
      exact ⟨rfl, Nat.le_refl _⟩
    · exact (c1 z hz (by omega)).up _
  · rw [e h hh]
    by_cases hj2 : j = N
    · rw [hj2, up_s, hc]; omega
    · rw [e j (by omega)]
      have := c2 j (by omega)
      omega
  · rw [e i (by omega)]
    by_cases hj2 : j = N
    · rw [hj2, up_s]; exact hw i (by omega)
    · rw [e j (by omega)]; exact b8 i j h1 (by omega)
  · by_cases hj2 : j = N
    · refine Or.inr ⟨h, y, by omega, ?_⟩
      rw [hj2, up_s, e h hh]
    · rcases b9 j (by omega) with c | ⟨i, z, d1, d2⟩
      · exact Or.inl c
      · refine Or.inr ⟨i, z, d1, ?_⟩
        rw [e j (by omega), e i (by omega)]; exact d2
end BQS
