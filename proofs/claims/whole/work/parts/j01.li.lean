/-! ===== PURE 101: couples as lists and as numbers ===== -/
def rnL : (Nat → Nat) → Pq → (Nat → Nat)
  | r, [] => r
  | r, y :: p => rnL (rst r y.1 y.2) p
def okP (w : Wd) (n : Nat) (p : Pq) : Prop := ∀ y, y ∈ p → y.1 < n ∧ y.2 < n ∧ lgc w y.1 y.2 = true
def cdc : Nat → Pq → Nat
  | c, [] => c
  | c, y :: p => cdc (32 * c + (5 * y.1 + y.2 + 1)) p
theorem okP.tl {w : Wd} {n : Nat} {y : Nat × Nat} {p : Pq} (h : okP w n (y :: p)) : okP w n p := fun z hz => h z (List.mem_cons_of_mem _ hz)
theorem cdc_at {w : Wd} {n : Nat} (hn : n ≤ 4) : ∀ {p : Pq} (c : Nat), okP w n p → cdc c p = c * 32 ^ p.length + cdc 0 p ∧ cdc 0 p < 32 ^ p.length
  | [], c, _ => ⟨by show c = c * 1 + 0; omega, by show 0 < 1; omega⟩
  | y :: p, c, h => by
    obtain ⟨h1, h2, _⟩ := h y List.mem_cons_self
    have i1 := cdc_at hn (32 * c + (5 * y.1 + y.2 + 1)) h.tl
    have i2 := cdc_at hn (32 * 0 + (5 * y.1 + y.2 + 1)) h.tl
    show cdc (32 * c + (5 * y.1 + y.2 + 1)) p = c * 32 ^ (p.length + 1) + cdc (32 * 0 + (5 * y.1 + y.2 + 1)) p ∧ cdc (32 * 0 + (5 * y.1 + y.2 + 1)) p < 32 ^ (p.length + 1)
    rw [i1.1, i2.1, Nat.pow_succ]
    have e1 : (32 * c + (5 * y.1 + y.2 + 1)) * 32 ^ p.length = 32 * (c * 32 ^ p.length) + (5 * y.1 + y.2 + 1) * 32 ^ p.length := by rw [Nat.add_mul, Nat.mul_assoc]
    have e2 : (32 * 0 + (5 * y.1 + y.2 + 1)) * 32 ^ p.length = (5 * y.1 + y.2 + 1) * 32 ^ p.length := by rw [Nat.mul_zero, Nat.zero_add]
    have e3 : c * (32 ^ p.length * 32) = 32 * (c * 32 ^ p.length) := by rw [← Nat.mul_assoc, Nat.mul_comm]
    have e4 : (5 * y.1 + y.2 + 1) * 32 ^ p.length ≤ 31 * 32 ^ p.length := Nat.mul_le_mul_right _ (by omega)
    have := i2.2
    rw [e1, e2, e3]
    constructor <;> omega
theorem gd_sound {w : Wd} {n a : Nat} : ∀ {m : Nat} {r : Nat → Nat} {p : Pq}, gd w n a m r = some p → okP w n p ∧ p.length = m ∧ lea (rnL r p) a n = 0
  | 0, r, p, h => by
    have h' : (if lea r a n = 0 then some ([] : Pq) else none) = some p := h
    by_cases h0 : lea r a n = 0
    · rw [if_pos h0] at h'; cases h'; exact ⟨fun y hy => absurd hy List.not_mem_nil, rfl, h0⟩
    · rw [if_neg h0] at h'; cases h'
  | m + 1, r, p, h => by
    obtain ⟨f, o, p', hf, ho, hl, hg, he, _⟩ := gd_some h
    obtain ⟨i1, i2, i3⟩ := gd_sound hg
    rw [he]
    refine ⟨fun y hy => ?_, by rw [List.length_cons, i2], i3⟩
    rcases List.mem_cons.mp hy with h1 | h1
    · rw [h1]; exact ⟨hf, ho, hl⟩
    · exact i1 y h1
theorem gd_least {w : Wd} {n a : Nat} (hn : n ≤ 4) : ∀ {q : Pq} {r : Nat → Nat}, okP w n q → lea (rnL r q) a n = 0 → ∃ p, gd w n a q.length r = some p ∧ cdc 0 p ≤ cdc 0 q
  | [], r, _, h => ⟨[], if_pos h, Nat.le_refl _⟩
  | y :: q, r, hq, h => by
    obtain ⟨h1, h2, h3⟩ := hq y List.mem_cons_self
    obtain ⟨p', g1, g2⟩ := gd_least hn (q := q) (r := rst r y.1 y.2) hq.tl h
    show ∃ p, gd w n a (q.length + 1) r = some p ∧ cdc 0 p ≤ cdc (32 * 0 + (5 * y.1 + y.2 + 1)) q
    cases hg : gd w n a (q.length + 1) r with
    | none => rw [gd_ne hg h1 h2 h3] at g1; cases g1
    | some p =>
      refine ⟨p, rfl, ?_⟩
      obtain ⟨f, o, p1, hf, ho, hl, hg1, he, hm⟩ := gd_some hg
      have s1 := gd_sound hg1
      have a1 := cdc_at hn (32 * 0 + (5 * y.1 + y.2 + 1)) hq.tl
      have a2 := cdc_at hn (32 * 0 + (5 * f + o + 1)) s1.1
      rw [he]
      show cdc (32 * 0 + (5 * f + o + 1)) p1 ≤ cdc (32 * 0 + (5 * y.1 + y.2 + 1)) q
      rw [a1.1, a2.1, s1.2.1]
      by_cases hlt : 5 * f + o < 5 * y.1 + y.2
      · have e := Nat.mul_le_mul_right (32 ^ q.length) (show 32 * 0 + (5 * f + o + 1) + 1 ≤ 32 * 0 + (5 * y.1 + y.2 + 1) by omega)
        rw [Nat.add_mul _ 1, Nat.one_mul] at e
        have := a2.2
        rw [s1.2.1] at this
        omega
      · by_cases heq : 5 * f + o = 5 * y.1 + y.2
        · have hfy : f = y.1 := by omega
          have hoy : o = y.2 := by omega
          rw [← hfy, ← hoy, hg1] at g1
          cases g1
          rw [heq]
          exact Nat.add_le_add_left g2 _
        · exfalso
          have := hm y.1 y.2 h1 h2 h3 (by omega)
          rw [this] at g1; cases g1
/-- what the search finds, from the least length on -/
theorem fdl_gd {w : Wd} {n a : Nat} (hn : n ≤ 4) (hn2 : 2 ≤ n) {r : Nat → Nat} : ∀ (d m : Nat), (∀ m', m' < m → gd w n a m' r = none) → (∃ p, fdl w n a r d m = some p ∧ gd w n a p.length r = some p ∧ ∀ m', m' < p.length → gd w n a m' r = none) ∨ (fdl w n a r d m = none ∧ ∀ m', m' < m + d → gd w n a m' r = none)
  | 0, m, h => Or.inr ⟨rfl, fun m' hm => h m' (by omega)⟩
  | d + 1, m, h => by
    have e : fdl w n a r (d + 1) m = match srch w n a m r with | some p => some p | none => fdl w n a r d (m + 1) := rfl
    rw [e, srch_gd hn hn2 m r h]
    cases hg : gd w n a m r with
    | some p =>
      have := gd_sound hg
      refine Or.inl ⟨p, rfl, by rw [this.2.1]; exact hg, by rw [this.2.1]; exact h⟩
    | none =>
      have ih := fdl_gd hn hn2 (r := r) (w := w) (a := a) d (m + 1) (fun m' hm => by
        by_cases hh : m' = m
        · rw [hh]; exact hg
        · exact h m' (by omega))
      rw [show m + (d + 1) = m + 1 + d by omega]
      exact ih
/-- the least number of a list of couples that makes all alike -/
def lsP (w : Wd) (n a : Nat) (r : Nat → Nat) (p : Pq) : Prop := okP w n p ∧ lea (rnL r p) a n = 0 ∧ ∀ q, okP w n q → lea (rnL r q) a n = 0 → cdc 0 p ≤ cdc 0 q
theorem gd_lst {w : Wd} {n a : Nat} (hn : n ≤ 4) {r : Nat → Nat} {p : Pq} (h : gd w n a p.length r = some p) (hm : ∀ m', m' < p.length → gd w n a m' r = none) : lsP w n a r p := by
  obtain ⟨s1, s2, s3⟩ := gd_sound h
  refine ⟨s1, s3, fun q hq hg => ?_⟩
  obtain ⟨p', g1, g2⟩ := gd_least hn hq hg
  by_cases hl : q.length < p.length
  · rw [hm _ hl] at g1; cases g1
  by_cases he : q.length = p.length
  · rw [he, h] at g1; cases g1; exact g2
  · have a1 := cdc_at hn 0 s1
    cases hq' : q with
    | nil => rw [hq', List.length_nil] at hl he; omega
    | cons y t =>
      rw [hq'] at hq hl he
      have a2 := cdc_at hn (32 * 0 + (5 * y.1 + y.2 + 1)) hq.tl
      show cdc 0 p ≤ cdc (32 * 0 + (5 * y.1 + y.2 + 1)) t
      rw [a2.1]
      have b1 : 32 ^ p.length ≤ 32 ^ t.length := Nat.pow_le_pow_right (by omega) (by rw [List.length_cons] at hl he; omega)
      have b2 : 1 * 32 ^ t.length ≤ (32 * 0 + (5 * y.1 + y.2 + 1)) * 32 ^ t.length := Nat.mul_le_mul_right _ (by omega)
      omega
