/-! ===== PURE 103: the reference's words for sets of sites ===== -/
def fld (v s : Nat) : Nat := (v >>> (3 * s)) &&& 7
def mk1 (b s : Nat) : Nat := ((b &&& (2 ^ s - 1)) ||| 2 ^ s) ||| ((b >>> s) <<< (s + 1))
def un1 (x s : Nat) : Nat := (x &&& (2 ^ s - 1)) ||| ((x >>> (s + 1)) <<< s)
def mk (v s : Nat) : Nat := mk1 (fld v s) s
def wm (v s x : Nat) : Nat := (v &&& (4294967295 - 7 * 8 ^ s)) ||| (un1 x s <<< (3 * s))
theorem fld_lt (v s : Nat) : fld v s < 8 := Nat.and_lt_two_pow _ (n := 3) (by decide)
theorem mk1_f : ∀ b, b < 8 → ∀ s, s < 4 → mk1 b s < 16 ∧ (mk1 b s).testBit s = true := by decide +kernel
theorem un1_f : ∀ x, x < 16 → ∀ s, s < 4 → un1 x s < 8 ∧ mk1 (un1 x s) s = x ||| 2 ^ s := by decide +kernel
theorem mk_f (v : Nat) {s : Nat} (hs : s < 4) : mk v s < 16 ∧ (mk v s).testBit s = true := mk1_f _ (fld_lt v s) s hs
theorem shl_f : ∀ u, u < 8 → ∀ s, s < 4 → ∀ t, t < 4 → ((u <<< (3 * s)) >>> (3 * t)) &&& 7 = (if t = s then u else 0) ∧ u <<< (3 * s) < 4096 := by decide +kernel
theorem cst_f : ∀ s, s < 4 → ∀ t, t < 4 → ((4294967295 - 7 * 8 ^ s) >>> (3 * t)) &&& 7 = if t = s then 0 else 7 := by decide +kernel
theorem fld_wm {v s x t : Nat} (hs : s < 4) (ht : t < 4) (hx : x < 16) : fld (wm v s x) t = if t = s then un1 x s else fld v t := by
  unfold fld wm
  rw [Nat.shiftRight_or_distrib, Nat.and_or_distrib_right, Nat.shiftRight_and_distrib, Nat.and_assoc, cst_f s hs t ht, (shl_f _ (un1_f x hx s hs).1 s hs t ht).1]
  by_cases hts : t = s
  · rw [if_pos hts, if_pos hts, if_pos hts, Nat.and_zero, Nat.zero_or]
  · rw [if_neg hts, if_neg hts, if_neg hts, Nat.or_zero]
theorem wm_lt {v s x : Nat} (hv : v < 4096) (hs : s < 4) (hx : x < 16) : wm v s x < 4096 := or_lt (k := 12) (Nat.lt_of_le_of_lt Nat.and_le_left hv) (shl_f _ (un1_f x hx s hs).1 s hs 0 (by omega)).2
theorem mk_wm {v s x t : Nat} (hs : s < 4) (ht : t < 4) (hx : x < 16) : mk (wm v s x) t = if t = s then x ||| 2 ^ s else mk v t := by
  unfold mk
  rw [fld_wm hs ht hx]
  by_cases hts : t = s
  · rw [if_pos hts, if_pos hts, hts]; exact (un1_f x hx s hs).2
  · rw [if_neg hts, if_neg hts]
theorem or_in {x s : Nat} (h : x.testBit s = true) : x ||| 2 ^ s = x := by
  apply tb_ext
  intro e
  rw [tb_or, tb_p2]
  constructor
  · rintro (h1 | h1)
    · exact h1
    · rw [h1]; exact h
  · intro h1; exact Or.inl h1
/-- a couple, on words -/
def stw (v : Nat) (y : Nat × Nat) : Nat := wm v y.2 (mk v y.1 ||| mk v y.2)
theorem stw_lt {v : Nat} {y : Nat × Nat} (hv : v < 4096) (h1 : y.1 < 4) (h2 : y.2 < 4) : stw v y < 4096 := wm_lt hv h2 (or_lt (k := 4) (mk_f v h1).1 (mk_f v h2).1)
theorem mk_stw {v : Nat} {y : Nat × Nat} {s : Nat} (h1 : y.1 < 4) (h2 : y.2 < 4) (hs : s < 4) : mk (stw v y) s = rst (mk v) y.1 y.2 s := by
  unfold stw rst
  rw [mk_wm h2 hs (or_lt (k := 4) (mk_f v h1).1 (mk_f v h2).1)]
  by_cases hsy : s = y.2
  · rw [if_pos hsy, hsy, up_s, or_in (tb_or.mpr (Or.inr (mk_f v h2).2))]
  · rw [if_neg hsy, up_n _ _ hsy]
def wrd (p : Pq) : Nat := p.foldl stw 0
theorem wrd_sn (p : Pq) (y : Nat × Nat) : wrd (p ++ [y]) = stw (wrd p) y := by
  unfold wrd
  rw [List.foldl_append]
  rfl
theorem mk_0 : ∀ s, s < 4 → mk 0 s = 2 ^ s := by decide +kernel
theorem wrd_at {w : Wd} {n : Nat} (hn : n ≤ 4) : ∀ (p : Pq) (v : Nat) (m : Nat → Nat), okP w n p → v < 4096 → (∀ s, s < n → mk v s = m s) → p.foldl stw v < 4096 ∧ ∀ s, s < n → mk (p.foldl stw v) s = rnL m p s
  | [], v, m, _, hv, h => ⟨hv, h⟩
  | y :: p, v, m, hp, hv, h => by
    obtain ⟨h1, h2, _⟩ := hp y List.mem_cons_self
    refine wrd_at hn p (stw v y) (rst m y.1 y.2) hp.tl (stw_lt hv (by omega) (by omega)) (fun s hs => ?_)
    rw [mk_stw (by omega) (by omega) (by omega)]
    unfold rst
    by_cases hsy : s = y.2
    · rw [hsy, up_s, up_s, h _ h1, h _ h2]
    · rw [up_n _ _ hsy, up_n _ _ hsy]; exact h s hs
theorem wrd_lt {w : Wd} {n : Nat} (hn : n ≤ 4) {p : Pq} (hp : okP w n p) : wrd p < 4096 := (wrd_at hn p 0 (fun s => 2 ^ s) hp (by omega) (fun s hs => mk_0 s (by omega))).1
theorem mk_wrd {w : Wd} {n : Nat} (hn : n ≤ 4) {p : Pq} (hp : okP w n p) {s : Nat} (hs : s < n) : mk (wrd p) s = rnL (fun s => 2 ^ s) p s := (wrd_at hn p 0 (fun s => 2 ^ s) hp (by omega) (fun s hs => mk_0 s (by omega))).2 s hs
theorem cdc_sn : ∀ (p : Pq) (c : Nat) (y : Nat × Nat), cdc c (p ++ [y]) = 32 * cdc c p + (5 * y.1 + y.2 + 1)
  | [], c, y => rfl
  | z :: p, c, y => cdc_sn p _ y
theorem okP_sn {w : Wd} {n : Nat} {p : Pq} {y : Nat × Nat} : okP w n (p ++ [y]) ↔ okP w n p ∧ y.1 < n ∧ y.2 < n ∧ lgc w y.1 y.2 = true := by
  constructor
  · intro h
    exact ⟨fun z hz => h z (List.mem_append_left _ hz), h y (List.mem_append_right _ List.mem_cons_self)⟩
  · intro ⟨h1, h2⟩ z hz
    rcases List.mem_append.mp hz with hz | hz
    · exact h1 z hz
    · rw [List.mem_singleton.mp hz]; exact h2
theorem sn_ex (p : Pq) : p = [] ∨ ∃ (q : Pq) (y : Nat × Nat), p = q ++ [y] := by
  rcases List.eq_nil_or_concat p with h | ⟨q, y, h⟩
  · exact Or.inl h
  · exact Or.inr ⟨q, y, by rw [h, List.concat_eq_append]⟩
theorem cdc_inj {w : Wd} {n : Nat} (hn : n ≤ 4) : ∀ (k : Nat) (p q : Pq), p.length = k → okP w n p → okP w n q → cdc 0 p = cdc 0 q → p = q := by
  intro k
  induction k with
  | zero =>
    intro p q hk hp hq h
    have hp0 : p = [] := List.length_eq_zero_iff.mp hk
    rcases sn_ex q with hq0 | ⟨q', y, hq'⟩
    · rw [hp0, hq0]
    · rw [hp0, hq', cdc_sn] at h
      have : cdc 0 [] = 0 := rfl
      omega
  | succ k ih =>
    intro p q hk hp hq h
    rcases sn_ex p with hp0 | ⟨p', z, hp'⟩
    · rw [hp0] at hk; cases hk
    rcases sn_ex q with hq0 | ⟨q', y, hq'⟩
    · rw [hp', hq0, cdc_sn] at h
      have : cdc 0 [] = 0 := rfl
      omega
    · rw [hp'] at hp hk
      rw [hq'] at hq
      rw [hp', hq', cdc_sn, cdc_sn] at h
      have a1 := okP_sn.mp hp
      have a2 := okP_sn.mp hq
      have b1 : cdc 0 p' = cdc 0 q' := by omega
      have hl : p'.length = k := by rw [List.length_append] at hk; simpa using hk
      have b2 := ih p' q' hl a1.1 a2.1 b1
      have b3 : z.1 = y.1 := by omega
      have b4 : z.2 = y.2 := by omega
      rw [hp', hq', b2, show z = y from Prod.ext b3 b4]
/-! the reference's own -/
theorem nI_shr {v k : Nat} (hv : v < 2 ^ 31) (hk : k < 32) : nI v >>> (nI k &&& 31) = nI (v >>> k) := by
  apply b_ext
  intro i hi
  rw [b_sshr k hk _ hi, bt_nI, bt_nI, bt_nI, Nat.testBit_shiftRight]
  by_cases h : k + i < 32
  · rw [if_pos h]; simp [h, hi]
  · rw [if_neg h]
    have h1 : v.testBit 31 = false := Nat.testBit_lt_two_pow hv
    have h2 : v.testBit (k + i) = false := Nat.testBit_lt_two_pow (Nat.lt_of_lt_of_le hv (Nat.pow_le_pow_right (by omega) (by omega)))
    rw [h1, h2]
    simp
theorem i_mk1 : ∀ b, b < 8 → ∀ s, s < 4 → (((nI b &&& (((1 : Int32) <<< (nI s &&& 31)) - (1 : Int32))) ||| ((1 : Int32) <<< (nI s &&& 31))) ||| ((nI b >>> (nI s &&& 31)) <<< ((nI s + (1 : Int32)) &&& 31))) = nI (mk1 b s) := by decide +kernel
theorem i_un1 : ∀ x, x < 16 → ∀ s, s < 4 → (((nI x &&& (((1 : Int32) <<< (nI s &&& 31)) - (1 : Int32))) ||| ((nI x >>> ((nI s + (1 : Int32)) &&& 31)) <<< (nI s &&& 31))) <<< (((3 : Int32) * nI s) &&& 31)) = nI (un1 x s <<< (3 * s)) := by decide +kernel
theorem i_cst : ∀ s, s < 4 → (((7 : Int32) <<< (((3 : Int32) * nI s) &&& 31)) ^^^ (-1 : Int32)) = nI (4294967295 - 7 * 8 ^ s) := by decide +kernel
theorem R_maskIn {v s : Nat} (hv : v < 4096) (hs : s < 4) : F_X10_maskIn (nI v) (nI s) = some (nI (mk v s)) := by
  unfold F_X10_maskIn
  have h : (nI v >>> (((3 : Int32) * nI s) &&& 31)) &&& (7 : Int32) = nI (fld v s) := by
    rw [l_3, pk_mul, nI_shr (by omega) (by omega), l_7, nI_and]
    rfl
  rw [h, i_mk1 _ (fld_lt v s) s hs]
  rfl
theorem R_withMask {v s x : Nat} (hs : s < 4) (hx : x < 16) : F_X10_withMask (nI v) (nI s) (nI x) = some (nI (wm v s x)) := by
  unfold F_X10_withMask
  rw [i_un1 x hx s hs, i_cst s hs, nI_and, nI_or]
  rfl
