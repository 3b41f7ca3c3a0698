/-! ===== PURE 100: the couples, plainly ===== -/
theorem tb_ext {x y : Nat} (h : ∀ e, x.testBit e = true ↔ y.testBit e = true) : x = y := by
  apply Nat.eq_of_testBit_eq
  intro e
  have := h e
  cases hx : x.testBit e <;> cases hy : y.testBit e <;> simp [hx, hy] at this ⊢
theorem jnd_mem {r : Nat → Nat} {x e : Nat} : ∀ {n : Nat}, (jnd r x n).testBit e = true ↔ ∃ s, s < n ∧ x.testBit s = true ∧ (r s).testBit e = true
  | 0 => by
    show (0 : Nat).testBit e = true ↔ _
    rw [Nat.zero_testBit]
    constructor
    · intro h; cases h
    · intro ⟨s, hs, _⟩; omega
  | n + 1 => by
    have ih := jnd_mem (r := r) (x := x) (e := e) (n := n)
    show (if x.testBit n = true then jnd r x n ||| r n else jnd r x n).testBit e = true ↔ _
    by_cases hx : x.testBit n = true
    · rw [if_pos hx, Nat.testBit_or, Bool.or_eq_true, ih]
      constructor
      · rintro (⟨s, h1, h2⟩ | h)
        · exact ⟨s, by omega, h2⟩
        · exact ⟨n, by omega, hx, h⟩
      · intro ⟨s, h1, h2, h3⟩
        by_cases hs : s = n
        · rw [hs] at h3; exact Or.inr h3
        · exact Or.inl ⟨s, by omega, h2, h3⟩
    · rw [if_neg hx, ih]
      constructor
      · intro ⟨s, h1, h2⟩; exact ⟨s, by omega, h2⟩
      · intro ⟨s, h1, h2, h3⟩
        by_cases hs : s = n
        · rw [hs] at h2; exact absurd h2 hx
        · exact ⟨s, by omega, h2, h3⟩
theorem tb_or {x y e : Nat} : (x ||| y).testBit e = true ↔ x.testBit e = true ∨ y.testBit e = true := by
  rw [Nat.testBit_or, Bool.or_eq_true]
theorem tb_p2 {f e : Nat} : (2 ^ f).testBit e = true ↔ e = f := by
  rw [Nat.testBit_two_pow]
  constructor
  · intro h; exact (of_decide_eq_true h).symm
  · intro h; exact decide_eq_true h.symm
theorem jnd_rst {r : Nat → Nat} {f o x n : Nat} (hf : f < n) (ho : o < n) (hx : x.testBit o = true) : jnd (rst r f o) x n = jnd r (x ||| 2 ^ f) n := by
  apply tb_ext
  intro e
  rw [jnd_mem, jnd_mem]
  constructor
  · intro ⟨s, h1, h2, h3⟩
    unfold rst at h3
    by_cases hs : s = o
    · rw [hs, up_s, tb_or] at h3
      rcases h3 with h3 | h3
      · exact ⟨f, hf, tb_or.mpr (Or.inr (tb_p2.mpr rfl)), h3⟩
      · exact ⟨o, ho, tb_or.mpr (Or.inl hx), h3⟩
    · rw [up_n _ _ hs] at h3
      exact ⟨s, h1, tb_or.mpr (Or.inl h2), h3⟩
  · intro ⟨s, h1, h2, h3⟩
    rcases tb_or.mp h2 with h2 | h2
    · by_cases hs : s = o
      · refine ⟨o, ho, hx, ?_⟩
        unfold rst
        rw [up_s, tb_or]
        rw [hs] at h3
        exact Or.inr h3
      · refine ⟨s, h1, h2, ?_⟩
        unfold rst
        rw [up_n _ _ hs]
        exact h3
    · refine ⟨o, ho, hx, ?_⟩
      unfold rst
      rw [up_s, tb_or]
      rw [tb_p2.mp h2] at h3
      exact Or.inl h3
theorem jnd_rst0 {r : Nat → Nat} {f o x n : Nat} (hx : ¬ x.testBit o = true) : jnd (rst r f o) x n = jnd r x n := by
  apply tb_ext
  intro e
  rw [jnd_mem, jnd_mem]
  have hr : ∀ s, x.testBit s = true → rst r f o s = r s := by
    intro s h
    unfold rst
    exact up_n _ _ (fun z => hx (z ▸ h))
  constructor
  · intro ⟨s, h1, h2, h3⟩; rw [hr s h2] at h3; exact ⟨s, h1, h2, h3⟩
  · intro ⟨s, h1, h2, h3⟩; exact ⟨s, h1, h2, by rw [hr s h2]; exact h3⟩
theorem jnd_two {r : Nat → Nat} {f o n : Nat} (hf : f < n) (ho : o < n) : jnd r (2 ^ f ||| 2 ^ o) n = r f ||| r o := by
  apply tb_ext
  intro e
  rw [jnd_mem, tb_or]
  constructor
  · intro ⟨s, h1, h2, h3⟩
    rcases tb_or.mp h2 with h2 | h2
    · rw [tb_p2.mp h2] at h3; exact Or.inl h3
    · rw [tb_p2.mp h2] at h3; exact Or.inr h3
  · rintro (h | h)
    · exact ⟨f, hf, tb_or.mpr (Or.inl (tb_p2.mpr rfl)), h⟩
    · exact ⟨o, ho, tb_or.mpr (Or.inr (tb_p2.mpr rfl)), h⟩
theorem tgt_le {r : Nat → Nat} {a n x : Nat} (h0 : 1 ≤ x) (hj : jnd r x n = a) : ∀ {k : Nat}, x ≤ k → tgt r a n k ≤ bc4 x
  | 0, h => by omega
  | k + 1, h => by
    show (if jnd r (k + 1) n = a then (if bc4 (k + 1) < tgt r a n k then bc4 (k + 1) else tgt r a n k) else tgt r a n k) ≤ bc4 x
    by_cases hx : x = k + 1
    · rw [← hx, if_pos hj]
      split <;> omega
    · have ih := tgt_le h0 hj (k := k) (by omega)
      split
      · split <;> omega
      · exact ih
theorem tgt_at {r : Nat → Nat} {a n : Nat} : ∀ (k : Nat), tgt r a n k = n ∨ ∃ x, 1 ≤ x ∧ x ≤ k ∧ jnd r x n = a ∧ bc4 x = tgt r a n k
  | 0 => Or.inl rfl
  | k + 1 => by
    have ih := tgt_at (r := r) (a := a) (n := n) k
    have e : tgt r a n (k + 1) = if jnd r (k + 1) n = a then (if bc4 (k + 1) < tgt r a n k then bc4 (k + 1) else tgt r a n k) else tgt r a n k := rfl
    have old : tgt r a n (k + 1) = tgt r a n k → tgt r a n (k + 1) = n ∨ ∃ x, 1 ≤ x ∧ x ≤ k + 1 ∧ jnd r x n = a ∧ bc4 x = tgt r a n (k + 1) := by
      intro z
      rw [z]
      rcases ih with h | ⟨x, h1, h2, h3⟩
      · exact Or.inl h
      · exact Or.inr ⟨x, h1, by omega, h3⟩
    by_cases hj : jnd r (k + 1) n = a
    · by_cases hb : bc4 (k + 1) < tgt r a n k
      · right
        refine ⟨k + 1, by omega, Nat.le_refl _, hj, ?_⟩
        rw [e, if_pos hj, if_pos hb]
      · exact old (by rw [e, if_pos hj, if_neg hb])
    · exact old (by rw [e, if_neg hj])
theorem bc4_or : ∀ x, x < 16 → ∀ f, f < 4 → bc4 (x ||| 2 ^ f) ≤ bc4 x + 1 := by decide +kernel
theorem bc4_two : ∀ f, f < 4 → ∀ o, o < 4 → bc4 (2 ^ f ||| 2 ^ o) ≤ 2 := by decide +kernel
theorem tgt_step {r : Nat → Nat} {a n f o : Nat} (hn : n ≤ 4) (hf : f < n) (ho : o < n) : tgt r a n (2 ^ n - 1) ≤ tgt (rst r f o) a n (2 ^ n - 1) + 1 := by
  have hpw : 2 ^ n ≤ 2 ^ 4 := pw_le hn
  have hpp : 0 < 2 ^ n := Nat.two_pow_pos _
  rcases tgt_at (r := rst r f o) (a := a) (n := n) (2 ^ n - 1) with h | ⟨x, h1, h2, h3, h4⟩
  · have := (tgt_b (r := r) (a := a) (n := n) (by omega) (k := 2 ^ n - 1) (by omega)).1
    omega
  · rw [← h4]
    by_cases hx : x.testBit o = true
    · rw [jnd_rst hf ho hx] at h3
      have hl : x ||| 2 ^ f < 2 ^ n := or_lt (by omega) (pw_lt hf)
      have hge : x ≤ x ||| 2 ^ f := Nat.left_le_or
      have := tgt_le (r := r) (k := 2 ^ n - 1) (by omega) h3 (by omega)
      have := bc4_or x (by omega) f (by omega)
      omega
    · rw [jnd_rst0 hx] at h3
      have := tgt_le (r := r) (k := 2 ^ n - 1) h1 h3 h2
      omega
theorem lck_rst {r : Nat → Nat} {a n f o : Nat} (ho : o < n) : lck (rst r f o) a n + (if r o = a then 0 else 1) = lck r a n + if r f ||| r o = a then 0 else 1 := by
  have h := fb_ct_upd (fun s => !decide (r s = a)) (!decide (r f ||| r o = a)) ho
  have e : fb_ct (fun k => if k = o then !decide (r f ||| r o = a) else !decide (r k = a)) n = lck (rst r f o) a n := by
    apply fb_ct_cong
    intro k hk
    unfold rst
    by_cases hko : k = o
    · rw [if_pos hko, hko, up_s]
    · rw [if_neg hko, up_n _ _ hko]
  rw [e] at h
  unfold lck at h ⊢
  by_cases h1 : r o = a <;> by_cases h2 : r f ||| r o = a <;> simp [h1, h2] at h ⊢ <;> omega
theorem lea_step {r : Nat → Nat} {a n f o : Nat} (hn : n ≤ 4) (hn2 : 2 ≤ n) (hf : f < n) (ho : o < n) : lea r a n ≤ lea (rst r f o) a n + 1 := by
  have hpw : 2 ^ n ≤ 2 ^ 4 := pw_le hn
  have hpp : 0 < 2 ^ n := Nat.two_pow_pos _
  have h1 := lck_rst (r := r) (a := a) (f := f) ho
  have h2 := lck_le r a n
  have h3 := lck_le (rst r f o) a n
  have h4 := tgt_step (r := r) (a := a) hn hf ho
  have h5 := tgt_b (r := r) (a := a) (n := n) (by omega) (k := 2 ^ n - 1) (by omega)
  have h6 := tgt_b (r := rst r f o) (a := a) (n := n) (by omega) (k := 2 ^ n - 1) (by omega)
  have h7 : lck r a n ≤ lck (rst r f o) a n + 1 := by split at h1 <;> split at h1 <;> omega
  unfold lea
  by_cases c1 : lck r a n < n
  · rw [if_pos c1]
    by_cases c2 : lck (rst r f o) a n < n
    · rw [if_pos c2]; exact h7
    · rw [if_neg c2]; omega
  · rw [if_neg c1]
    by_cases c2 : lck (rst r f o) a n < n
    · rw [if_pos c2]
      have hro : ¬ r o = a := by
        have h8 := fb_ct_all.mp (show fb_ct (fun s => !decide (r s = a)) n = n by unfold lck at c1 h2; omega) o ho
        simpa using h8
      rw [if_neg hro] at h1
      have hjo : r f ||| r o = a := by
        by_cases z : r f ||| r o = a
        · exact z
        · rw [if_neg z] at h1; omega
      have hb := bc4_two f (by omega) o (by omega)
      have hl : 2 ^ f ||| 2 ^ o < 2 ^ n := or_lt (pw_lt hf) (pw_lt ho)
      have hge : 2 ^ f ≤ 2 ^ f ||| 2 ^ o := Nat.left_le_or
      have hfp : 0 < 2 ^ f := Nat.two_pow_pos _
      have := tgt_le (r := r) (n := n) (k := 2 ^ n - 1) (by omega) ((jnd_two hf ho).trans hjo) (by omega)
      omega
    · rw [if_neg c2]; omega
theorem lea_0 {r : Nat → Nat} {a n : Nat} (hn : n ≤ 4) (hn2 : 2 ≤ n) : lea r a n = 0 ↔ ∀ s, s < n → r s = a := by
  have hpw : 2 ^ n ≤ 2 ^ 4 := pw_le hn
  have hpp : 0 < 2 ^ n := Nat.two_pow_pos _
  have h2 := lck_le r a n
  have h5 := tgt_b (r := r) (a := a) (n := n) (by omega) (k := 2 ^ n - 1) (by omega)
  have key : lea r a n = 0 ↔ lck r a n = 0 := by
    unfold lea
    by_cases c1 : lck r a n < n
    · rw [if_pos c1]
    · rw [if_neg c1]; omega
  rw [key]
  unfold lck
  rw [fb_ct_zero]
  constructor
  · intro h s hs; simpa using h s hs
  · intro h s hs; simpa using h s hs
def lgc (w : Wd) (f o : Nat) : Bool := !decide (f = o) && !wcut w f o
def gd (w : Wd) (n a : Nat) : Nat → (Nat → Nat) → Option Pq
  | 0, r => if lea r a n = 0 then some [] else none
  | m + 1, r => (List.range n).findSome? (fun f => (List.range n).findSome? (fun o => if lgc w f o then (gd w n a m (rst r f o)).map (fun p => (f, o) :: p) else none))
theorem rng_none {α : Type} {h : Nat → Option α} {N : Nat} : (List.range N).findSome? h = none ↔ ∀ i, i < N → h i = none := by
  rw [List.findSome?_eq_none_iff]
  constructor
  · intro z i hi; exact z i (List.mem_range.mpr hi)
  · intro z i hi; exact z i (List.mem_range.mp hi)
theorem rng_some {α : Type} {h : Nat → Option α} {y : α} : ∀ {N : Nat}, (List.range N).findSome? h = some y → ∃ i, i < N ∧ h i = some y ∧ ∀ j, j < i → h j = none
  | 0, z => by cases z
  | N + 1, z => by
    rw [List.range_succ, List.findSome?_append] at z
    cases hN : (List.range N).findSome? h with
    | some v =>
      rw [hN] at z
      have hv : v = y := by simpa using z
      rw [hv] at hN
      obtain ⟨i, h1, h2⟩ := rng_some hN
      exact ⟨i, by omega, h2⟩
    | none =>
      rw [hN] at z
      refine ⟨N, by omega, ?_, rng_none.mp hN⟩
      cases hh : h N with
      | none => simp [hh] at z
      | some v => simp [hh] at z; rw [z]
theorem gd_cg {w : Wd} {n a : Nat} : ∀ (m : Nat) {r r' : Nat → Nat}, (∀ s, s < n → r s = r' s) → gd w n a m r = gd w n a m r'
  | 0, r, r', h => by
    show (if lea r a n = 0 then some [] else none) = if lea r' a n = 0 then some [] else none
    rw [lea_cg h]
  | m + 1, r, r', h => by
    refine fsA_cg (fun f hf => fsA_cg (fun o ho => ?_))
    rw [gd_cg m (r := rst r f o) (r' := rst r' f o) (fun s hs => by
        unfold rst
        rw [h f hf, h o ho]
        by_cases hso : s = o
        · rw [hso, up_s, up_s]
        · rw [up_n _ _ hso, up_n _ _ hso]; exact h s hs)]
theorem gd_some {w : Wd} {n a m : Nat} {r : Nat → Nat} {p : Pq} (h : gd w n a (m + 1) r = some p) : ∃ f o p', f < n ∧ o < n ∧ lgc w f o = true ∧ gd w n a m (rst r f o) = some p' ∧ p = (f, o) :: p' ∧ ∀ f' o', f' < n → o' < n → lgc w f' o' = true → (f' < f ∨ f' = f ∧ o' < o) → gd w n a m (rst r f' o') = none := by
  obtain ⟨f, hf, h1, h2⟩ := rng_some h
  obtain ⟨o, ho, h3, h4⟩ := rng_some h1
  by_cases hl : lgc w f o = true
  · rw [if_pos hl] at h3
    cases hg : gd w n a m (rst r f o) with
    | none => rw [hg] at h3; cases h3
    | some p' =>
      rw [hg] at h3
      refine ⟨f, o, p', hf, ho, hl, hg, by cases h3; rfl, ?_⟩
      intro f' o' hf' ho' hl' hlt
      have hin : (if lgc w f' o' = true then (gd w n a m (rst r f' o')).map (fun p => (f', o') :: p) else none) = none := by
        rcases hlt with hlt | ⟨he, hlt⟩
        · exact rng_none.mp (h2 f' hlt) o' ho'
        · rw [he]; exact h4 o' hlt
      rw [if_pos hl'] at hin
      cases hg' : gd w n a m (rst r f' o') with
      | none => rfl
      | some q => rw [hg'] at hin; cases hin
  · rw [if_neg hl] at h3; cases h3
theorem gd_ne {w : Wd} {n a m f o : Nat} {r : Nat → Nat} (h : gd w n a (m + 1) r = none) (hf : f < n) (ho : o < n) (hl : lgc w f o = true) : gd w n a m (rst r f o) = none := by
  have h1 := rng_none.mp (rng_none.mp h f hf) o ho
  rw [if_pos hl] at h1
  cases hg : gd w n a m (rst r f o) with
  | none => rfl
  | some q => rw [hg] at h1; cases h1
theorem gd_lea {w : Wd} {n a : Nat} (hn : n ≤ 4) (hn2 : 2 ≤ n) : ∀ {m : Nat} {r : Nat → Nat} {p : Pq}, gd w n a m r = some p → lea r a n ≤ m
  | 0, r, p, h => by
    have h' : (if lea r a n = 0 then some ([] : Pq) else none) = some p := h
    by_cases h0 : lea r a n = 0
    · omega
    · rw [if_neg h0] at h'; cases h'
  | m + 1, r, p, h => by
    obtain ⟨f, o, p', hf, ho, hl, hg, _⟩ := gd_some h
    have := gd_lea hn hn2 hg
    have := lea_step (r := r) (a := a) hn hn2 hf ho
    omega
theorem srch_gd {w : Wd} {n a : Nat} (hn : n ≤ 4) (hn2 : 2 ≤ n) : ∀ (m : Nat) (r : Nat → Nat), (∀ m', m' < m → gd w n a m' r = none) → srch w n a m r = gd w n a m r
  | 0, r, _ => rfl
  | m + 1, r, h => by
    have h0 : ¬ lea r a n = 0 := by
      intro z
      have h1 := h 0 (by omega)
      have h2 : (if lea r a n = 0 then some ([] : Pq) else none) = none := h1
      rw [if_pos z] at h2; cases h2
    show (if lea r a n = 0 then none else if m + 1 < lea r a n then none else (List.range n).findSome? (fun f => (List.range n).findSome? (fun o => if tkc w r f o then (srch w n a m (rst r f o)).map (fun p => (f, o) :: p) else none))) = _
    rw [if_neg h0]
    by_cases h1 : m + 1 < lea r a n
    · rw [if_pos h1]
      cases hg : gd w n a (m + 1) r with
      | none => rfl
      | some p => have := gd_lea hn hn2 hg; omega
    · rw [if_neg h1]
      refine fsA_cg (fun f hf => fsA_cg (fun o ho => ?_))
      by_cases hl : lgc w f o = true
      · rw [if_pos hl]
        by_cases hu : r f ||| r o = r o
        · have ht : ¬ tkc w r f o = true := by
            unfold tkc
            rw [decide_eq_true hu]
            simp
          rw [if_neg ht]
          have hs : gd w n a m (rst r f o) = gd w n a m r := gd_cg m (fun s hs => by
            unfold rst
            by_cases hso : s = o
            · rw [hso, up_s, hu]
            · rw [up_n _ _ hso])
          rw [hs, h m (by omega)]
          rfl
        · have ht : tkc w r f o = true := by
            unfold tkc
            unfold lgc at hl
            rw [hl, decide_eq_false hu]
            rfl
          rw [if_pos ht, srch_gd hn hn2 m (rst r f o) (fun m' hm' => gd_ne (h (m' + 1) (by omega)) hf ho hl)]
      · have ht : ¬ tkc w r f o = true := by
          intro z
          unfold tkc at z
          unfold lgc at hl
          rw [Bool.and_eq_true] at z
          exact hl z.1
        rw [if_neg hl, if_neg ht]
