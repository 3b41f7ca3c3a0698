/-! ===== PURE 51: the class's publics: what they need ===== -/
theorem inR_if {α : Type} (n : Nat) (x : Int32) (a b : α) : (if x < 0 then b else if x < nI n then a else b) = if inR x n = true then a else b := by
  unfold inR
  by_cases h0 : x < 0
  · rw [if_pos h0, if_neg (fun z => Int32.not_lt.mpr (of_decide_eq_true z).1 h0)]
  · rw [if_neg h0]
    by_cases h1 : x < nI n
    · rw [if_pos h1, if_pos (decide_eq_true ⟨Int32.not_lt.mp h0, h1⟩)]
    · rw [if_neg h1, if_neg (fun z => h1 (of_decide_eq_true z).2)]
abbrev eIO : String := "java/lang/IndexOutOfBoundsException"
abbrev eIA : String := "java/lang/IllegalArgumentException"
abbrev eIS : String := "java/lang/IllegalStateException"
abbrev eNS : String := "java/util/NoSuchElementException"
section NEE
variable {σ t : Sto} {g : Nat} {w : Wd} {im : Nat → Option Wd} {tr : List Tr} {d : Int64} {z : Nat} {Q : Nat → Prop}
theorem GT.i0 (h : GT σ g w im tr d z Q) : gI σ (g + 1) 8 0 = some (nI (wC w 0)) := by
  obtain ⟨O, sl, c, -⟩ := h.cm
  exact c.1.i0
theorem C_needSite (h : GT σ g w im tr d z Q) (hn : wC w 0 ≤ 5) (x : Int32) : F_X9_needSite σ g x = if inR x (wC w 0) = true then some (.inl (), σ) else some (.inr eIO, thw σ) := by
  unfold F_X9_needSite
  rw [chk_eq h.ok, h.r0, bind_some', h.i0, bind_some']
  exact inR_if _ x _ _
theorem C_needTwo (h : GT σ g w im tr d z Q) (hn : wC w 0 ≤ 5) (x y : Int32) : F_X9_needTwoSites σ g x y = if (inR x (wC w 0) && inR y (wC w 0) && !decide (x = y)) = true then some (.inl (), σ) else some (.inr eIO, thw σ) := by
  unfold F_X9_needTwoSites
  rw [chk_eq h.ok, h.r0, bind_some', h.i0, bind_some', bind_some', h.i0, bind_some']
  have key : ∀ (v : Int32) (A B : Option ((Unit ⊕ String) × Sto)), (if v < 0 then B else if nI (wC w 0) ≤ v then B else A) = if inR v (wC w 0) = true then A else B := by
    intro v A B
    rw [← inR_if]
    by_cases v0 : v < 0
    · rw [if_pos v0, if_pos v0]
    · rw [if_neg v0, if_neg v0]
      by_cases v1 : nI (wC w 0) ≤ v
      · rw [if_pos v1, if_neg (Int32.not_lt.mpr v1)]
      · rw [if_neg v1, if_pos (Int32.not_le.mp v1)]
  refine (key x _ _).trans ?_
  cases hx : inR x (wC w 0) with
  | false => rfl
  | true =>
    rw [if_pos rfl]
    refine (key y _ _).trans ?_
    cases hy : inR y (wC w 0) with
    | false => rfl
    | true =>
      rw [if_pos rfl]
      by_cases hxy : x = y
      · rw [if_pos hxy, decide_eq_true hxy]; rfl
      · rw [if_neg hxy, decide_eq_false hxy]; rfl
theorem C_needName (h : GT σ g w im tr d z Q) (x : Int32) : F_X9_needName σ g x = if inR x 100 = true then some (.inl (), σ) else some (.inr eIA, thw σ) := by
  unfold F_X9_needName
  rw [chk_eq h.ok]
  exact inR_if 100 x _ _
theorem C_needWhat (h : GT σ g w im tr d z Q) (x : Int32) {m : Nat} (hm : m < 2 ^ 31) : F_X9_needWhat σ g x (nI m) = if inR x m = true then some (.inl (), σ) else some (.inr eIA, thw σ) := by
  unfold F_X9_needWhat
  rw [chk_eq h.ok]
  exact inR_if m x _ _
theorem C_needImage (h : GT σ g w im tr d z Q) (x : Int32) : F_X9_needImage σ g x = if inR x 2 = true then some (.inl (), σ) else some (.inr eIA, thw σ) := by
  unfold F_X9_needImage
  rw [chk_eq h.ok]
  exact inR_if 2 x _ _
theorem GT.r6 (h : GT σ g w im tr d z Q) : gR σ (g + 1) 8 6 = some (g + 1 + 1) := by
  obtain ⟨O, sl, c, -⟩ := h.cm
  exact c.1.r6
theorem C_needEvent (h : GT σ g w im tr d z Q) (i : Jv w) (x : Int32) : F_X9_needEvent σ g x = if inR x (wC w 2) = true then some (.inl (), σ) else some (.inr eIO, thw σ) := by
  obtain ⟨O, sl, c, -⟩ := h.cm
  have hcn : F_X2_contains σ (g + 1 + 1) x = some (nI (b2 (inR x (wC w 2)))) := by
    exact C_contains c.1.ev i.bv x
  unfold F_X9_needEvent
  rw [chk_eq h.ok, h.r0, bind_some', h.r6, bind_some', hcn, bind_some', ifb0]
  rfl
theorem C_needRoom (h : GT σ g w im tr d z Q) (i : Jv w) : F_X9_needRoomForEvent σ g = if wC w 2 < 120 then some (.inl (), σ) else some (.inr eIS, thw σ) := by
  have hc := i.c
  obtain ⟨O, sl, c, -⟩ := h.cm
  have hf := C_isFull c.1.ev i.bv
  unfold F_X9_needRoomForEvent
  rw [chk_eq h.ok, h.r0, bind_some', h.r6, bind_some', hf, bind_some', ifb0]
  by_cases h1 : wC w 2 < 120
  · rw [if_pos h1, decide_eq_false (show ¬ 120 ≤ wC w 2 by omega)]; rfl
  · rw [if_neg h1, decide_eq_true (show 120 ≤ wC w 2 by omega)]; rfl
end NEE
