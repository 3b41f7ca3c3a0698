/-! ===== PURE 3: numbers, bits, counts, loops ===== -/
theorem l_0 : (0 : Int32) = nI 0 := by decide +kernel
theorem l_1 : (1 : Int32) = nI 1 := by decide +kernel
theorem l_2 : (2 : Int32) = nI 2 := by decide +kernel
theorem l_3 : (3 : Int32) = nI 3 := by decide +kernel
theorem l_4 : (4 : Int32) = nI 4 := by decide +kernel
theorem l_5 : (5 : Int32) = nI 5 := by decide +kernel
theorem l_6 : (6 : Int32) = nI 6 := by decide +kernel
theorem l_7 : (7 : Int32) = nI 7 := by decide +kernel
theorem l_8 : (8 : Int32) = nI 8 := by decide +kernel
theorem l_9 : (9 : Int32) = nI 9 := by decide +kernel
theorem l_10 : (10 : Int32) = nI 10 := by decide +kernel
theorem l_11 : (11 : Int32) = nI 11 := by decide +kernel
theorem l_12 : (12 : Int32) = nI 12 := by decide +kernel
theorem l_13 : (13 : Int32) = nI 13 := by decide +kernel
theorem l_14 : (14 : Int32) = nI 14 := by decide +kernel
theorem l_15 : (15 : Int32) = nI 15 := by decide +kernel
theorem l_16 : (16 : Int32) = nI 16 := by decide +kernel
theorem l_17 : (17 : Int32) = nI 17 := by decide +kernel
theorem l_18 : (18 : Int32) = nI 18 := by decide +kernel
theorem l_19 : (19 : Int32) = nI 19 := by decide +kernel
theorem l_20 : (20 : Int32) = nI 20 := by decide +kernel
theorem l_21 : (21 : Int32) = nI 21 := by decide +kernel
theorem l_22 : (22 : Int32) = nI 22 := by decide +kernel
theorem l_23 : (23 : Int32) = nI 23 := by decide +kernel
theorem l_24 : (24 : Int32) = nI 24 := by decide +kernel
theorem l_25 : (25 : Int32) = nI 25 := by decide +kernel
theorem l_26 : (26 : Int32) = nI 26 := by decide +kernel
theorem l_27 : (27 : Int32) = nI 27 := by decide +kernel
theorem l_28 : (28 : Int32) = nI 28 := by decide +kernel
theorem l_29 : (29 : Int32) = nI 29 := by decide +kernel
theorem l_30 : (30 : Int32) = nI 30 := by decide +kernel
theorem l_31 : (31 : Int32) = nI 31 := by decide +kernel
theorem l_32 : (32 : Int32) = nI 32 := by decide +kernel
theorem l_33 : (33 : Int32) = nI 33 := by decide +kernel
theorem l_34 : (34 : Int32) = nI 34 := by decide +kernel
theorem l_35 : (35 : Int32) = nI 35 := by decide +kernel
theorem l_36 : (36 : Int32) = nI 36 := by decide +kernel
theorem l_37 : (37 : Int32) = nI 37 := by decide +kernel
theorem l_38 : (38 : Int32) = nI 38 := by decide +kernel
theorem l_39 : (39 : Int32) = nI 39 := by decide +kernel
theorem l_40 : (40 : Int32) = nI 40 := by decide +kernel
theorem l_41 : (41 : Int32) = nI 41 := by decide +kernel
theorem l_42 : (42 : Int32) = nI 42 := by decide +kernel
theorem l_43 : (43 : Int32) = nI 43 := by decide +kernel
theorem l_44 : (44 : Int32) = nI 44 := by decide +kernel
theorem l_45 : (45 : Int32) = nI 45 := by decide +kernel
theorem l_60 : (60 : Int32) = nI 60 := by decide +kernel
theorem l_63 : (63 : Int32) = nI 63 := by decide +kernel
theorem l_64 : (64 : Int32) = nI 64 := by decide +kernel
theorem l_100 : (100 : Int32) = nI 100 := by decide +kernel
theorem l_120 : (120 : Int32) = nI 120 := by decide +kernel
theorem l_122 : (122 : Int32) = nI 122 := by decide +kernel
theorem l_127 : (127 : Int32) = nI 127 := by decide +kernel
theorem l_128 : (128 : Int32) = nI 128 := by decide +kernel
theorem l_147 : (147 : Int32) = nI 147 := by decide +kernel
theorem l_154 : (154 : Int32) = nI 154 := by decide +kernel
theorem l_274 : (274 : Int32) = nI 274 := by decide +kernel
theorem l_394 : (394 : Int32) = nI 394 := by decide +kernel
theorem l_395 : (395 : Int32) = nI 395 := by decide +kernel
theorem l_789 : (789 : Int32) = nI 789 := by decide +kernel
theorem l_3953 : (3953 : Int32) = nI 3953 := by decide +kernel
theorem l_4096 : (4096 : Int32) = nI 4096 := by decide +kernel
theorem l_5153 : (5153 : Int32) = nI 5153 := by decide +kernel
theorem l_5178 : (5178 : Int32) = nI 5178 := by decide +kernel
theorem l_49278 : (49278 : Int32) = nI 49278 := by decide +kernel
theorem l_49279 : (49279 : Int32) = nI 49279 := by decide +kernel
theorem l_49280 : (49280 : Int32) = nI 49280 := by decide +kernel
theorem l_49425 : (49425 : Int32) = nI 49425 := by decide +kernel
theorem l_98850 : (98850 : Int32) = nI 98850 := by decide +kernel
theorem l_197700 : (197700 : Int32) = nI 197700 := by decide +kernel
theorem l_m1 : (-1 : Int32) = nI 4294967295 := by decide +kernel
/-! how many of the first n (kit/laws/COUNTS.to-paste, the family fb_ct) -/
def fb_ct (p : Nat → Bool) : Nat → Nat
  | 0 => 0
  | n + 1 => fb_ct p n + (if p n then 1 else 0)
theorem fb_ct_succ (p : Nat → Bool) (n : Nat) : fb_ct p (n + 1) = fb_ct p n + (if p n then 1 else 0) := rfl
theorem fb_ct_le (p : Nat → Bool) : ∀ n, fb_ct p n ≤ n
  | 0 => Nat.le_refl _
  | n + 1 => by
    have h := fb_ct_le p n
    rw [fb_ct_succ]
    split <;> omega
theorem fb_ct_step (p : Nat → Bool) (m : Nat) : ∀ n, fb_ct p m ≤ fb_ct p (m + n)
  | 0 => Nat.le_refl _
  | n + 1 => by
    have h := fb_ct_step p m n
    show fb_ct p m ≤ fb_ct p (m + n + 1)
    rw [fb_ct_succ]
    omega
theorem fb_ct_mono (p : Nat → Bool) {m n : Nat} (h : m ≤ n) : fb_ct p m ≤ fb_ct p n := by
  have := fb_ct_step p m (n - m)
  rwa [Nat.add_sub_cancel' h] at this
theorem fb_ct_cong {p q : Nat → Bool} : ∀ {n : Nat}, (∀ k, k < n → p k = q k) → fb_ct p n = fb_ct q n
  | 0, _ => rfl
  | n + 1, h => by
    rw [fb_ct_succ, fb_ct_succ, fb_ct_cong (fun k hk => h k (by omega)), h n (by omega)]
/-- one place changed -/
theorem fb_ct_out (p : Nat → Bool) (b : Bool) {i n : Nat} (h : n ≤ i) : fb_ct (fun k => if k = i then b else p k) n = fb_ct p n :=
  fb_ct_cong fun k hk => if_neg (by omega)
theorem fb_ct_upd (p : Nat → Bool) (b : Bool) {i : Nat} : ∀ {n : Nat}, i < n → fb_ct (fun k => if k = i then b else p k) n + (if p i then 1 else 0) = fb_ct p n + (if b then 1 else 0)
  | 0, h => absurd h (Nat.not_lt_zero i)
  | n + 1, h => by
    rw [fb_ct_succ, fb_ct_succ]
    rcases Nat.lt_or_ge i n with q | q
    · have := fb_ct_upd p b q
      have e : (if n = i then b else p n) = p n := if_neg (by omega)
      rw [e]
      omega
    · have e : i = n := by omega
      subst e
      rw [fb_ct_out p b (Nat.le_refl _)]
      simp only [if_true]
      omega
theorem fb_ct_sub {p q : Nat → Bool} : ∀ {n : Nat}, (∀ k, k < n → p k = true → q k = true) → fb_ct p n ≤ fb_ct q n
  | 0, _ => Nat.le_refl _
  | n + 1, h => by
    have h1 := fb_ct_sub (n := n) (p := p) (q := q) (fun k hk => h k (by omega))
    have h2 := h n (by omega)
    rw [fb_ct_succ, fb_ct_succ]
    cases hp : p n <;> cases hq : q n <;> simp_all <;> omega
theorem fb_ct_or {p q : Nat → Bool} : ∀ {n : Nat}, (∀ k, k < n → ¬ (p k = true ∧ q k = true)) → fb_ct (fun k => p k || q k) n = fb_ct p n + fb_ct q n
  | 0, _ => rfl
  | n + 1, h => by
    have h1 := fb_ct_or (n := n) (p := p) (q := q) (fun k hk => h k (by omega))
    have h2 := h n (by omega)
    rw [fb_ct_succ, fb_ct_succ, fb_ct_succ, h1]
    cases hp : p n <;> cases hq : q n <;> simp_all <;> omega
theorem fb_ct_not (p : Nat → Bool) : ∀ n, fb_ct p n + fb_ct (fun k => !p k) n = n
  | 0 => rfl
  | n + 1 => by
    have h := fb_ct_not p n
    rw [fb_ct_succ, fb_ct_succ]
    cases p n <;> simp <;> omega
theorem fb_ct_split (p : Nat → Bool) (m : Nat) : ∀ n, fb_ct p (m + n) = fb_ct p m + fb_ct (fun k => p (m + k)) n
  | 0 => rfl
  | n + 1 => by
    have h := fb_ct_split p m n
    show fb_ct p (m + n + 1) = _
    rw [fb_ct_succ, fb_ct_succ, h, Nat.add_assoc]
theorem fb_ct_zero {p : Nat → Bool} : ∀ {n : Nat}, fb_ct p n = 0 ↔ ∀ k, k < n → p k = false
  | 0 => ⟨fun _ k hk => absurd hk (Nat.not_lt_zero k), fun _ => rfl⟩
  | n + 1 => by
    have h := fb_ct_zero (p := p) (n := n)
    rw [fb_ct_succ]
    constructor
    · intro e k hk
      have e1 : fb_ct p n = 0 := by omega
      rcases Nat.lt_or_ge k n with q | q
      · exact h.mp e1 k q
      · have ek : k = n := by omega
        subst ek
        cases hp : p k
        · rfl
        · simp [hp] at e
    · intro a
      rw [h.mpr (fun k hk => a k (by omega)), a n (by omega)]
      rfl
theorem fb_ct_pos {p : Nat → Bool} {n : Nat} : 0 < fb_ct p n ↔ ∃ k, k < n ∧ p k = true := by
  constructor
  · intro h
    refine Classical.byContradiction fun hx => ?_
    have := fb_ct_zero.mpr (fun k hk => by
      cases hp : p k
      · rfl
      · exact absurd ⟨k, hk, hp⟩ hx : ∀ k, k < n → p k = false)
    omega
  · rintro ⟨k, hk, hp⟩
    rcases Nat.eq_zero_or_pos (fb_ct p n) with e | e
    · have := fb_ct_zero.mp e k hk
      rw [this] at hp
      cases hp
    · exact e
theorem fb_ct_all {p : Nat → Bool} {n : Nat} : fb_ct p n = n ↔ ∀ k, k < n → p k = true := by
  have h := fb_ct_not p n
  constructor
  · intro e k hk
    have z : fb_ct (fun k => !p k) n = 0 := by omega
    have := fb_ct_zero.mp z k hk
    cases hp : p k
    · simp [hp] at this
    · rfl
  · intro a
    have z : fb_ct (fun k => !p k) n = 0 := fb_ct_zero.mpr (fun k hk => by simp [a k hk])
    omega
/-- the k-th place with the property -/
theorem fb_ct_kth {p : Nat → Bool} {k : Nat} : ∀ {n : Nat}, k < fb_ct p n → ∃ i, i < n ∧ p i = true ∧ fb_ct p i = k
  | 0, h => absurd h (Nat.not_lt_zero k)
  | n + 1, h => by
    rcases Nat.lt_or_ge k (fb_ct p n) with q | q
    · obtain ⟨i, h1, h2⟩ := fb_ct_kth q
      exact ⟨i, by omega, h2⟩
    · rw [fb_ct_succ] at h
      cases hp : p n
      · simp [hp] at h; omega
      · simp [hp] at h
        exact ⟨n, by omega, hp, by omega⟩
theorem fb_ct_kth_one {p : Nat → Bool} {i j : Nat} (hi : p i = true) (hj : p j = true) (e : fb_ct p i = fb_ct p j) : i = j := by
  have key : ∀ a b : Nat, a < b → p a = true → fb_ct p a < fb_ct p b := by
    intro a b hab ha
    have h := fb_ct_mono p (show a + 1 ≤ b from hab)
    rw [fb_ct_succ, ha] at h
    simp at h
    omega
  rcases Nat.lt_trichotomy i j with q | q | q
  · have := key i j q hi; omega
  · exact q
  · have := key j i q hj; omega
/-! ===== sums over a range: one place changed, parts, bounds ===== -/
/-! Int32 by its bits (begun with the family of kit/laws/BITS.to-paste) -/
def bt (x : Int32) (i : Nat) : Bool := x.toBitVec.getLsbD i
theorem b_ext {x y : Int32} (h : ∀ i, i < 32 → bt x i = bt y i) : x = y := Int32.toBitVec_inj.mp (BitVec.eq_of_getLsbD_eq (fun i hi => h i hi))
theorem b_or (x y : Int32) (i : Nat) : bt (x ||| y) i = (bt x i || bt y i) := by unfold bt; rw [Int32.toBitVec_or, BitVec.getLsbD_or]
theorem b_and (x y : Int32) (i : Nat) : bt (x &&& y) i = (bt x i && bt y i) := by unfold bt; rw [Int32.toBitVec_and, BitVec.getLsbD_and]
theorem b_xor (x y : Int32) (i : Nat) : bt (x ^^^ y) i = (bt x i ^^ bt y i) := by unfold bt; rw [Int32.toBitVec_xor, BitVec.getLsbD_xor]
theorem b_m1 : ∀ i, i < 32 → bt (-1) i = true := by decide +kernel
theorem s_l : ∀ n, n < 32 → ((nI n &&& 31).toBitVec.smod 32).toNat = n := by decide +kernel
theorem b_shl (n : Nat) (hn : n < 32) (x : Int32) {i : Nat} (hi : i < 32) : bt (x <<< (nI n &&& 31)) i = (decide (n ≤ i) && bt x (i - n)) := by
  unfold bt
  rw [Int32.toBitVec_shiftLeft]
  show (x.toBitVec <<< ((nI n &&& 31).toBitVec.smod 32).toNat).getLsbD i = _
  rw [s_l n hn, BitVec.getLsbD_shiftLeft]
  rcases Nat.lt_or_ge i n with h | h
  · simp [h, Nat.not_le.mpr h]
  · simp [hi, h, Nat.not_lt.mpr h]
theorem b_sshr (n : Nat) (hn : n < 32) (x : Int32) {i : Nat} (hi : i < 32) : bt (x >>> (nI n &&& 31)) i = if n + i < 32 then bt x (n + i) else bt x 31 := by
  unfold bt
  rw [Int32.toBitVec_shiftRight]
  show (x.toBitVec.sshiftRight ((nI n &&& 31).toBitVec.smod 32).toNat).getLsbD i = _
  rw [s_l n hn, BitVec.getLsbD_sshiftRight, BitVec.msb_eq_getLsbD_last]
  simp [hi]
theorem bt_nI (v i : Nat) : bt (nI v) i = (decide (i < 32) && v.testBit i) := by
  show (BitVec.ofNat 32 v).getLsbD i = _
  rw [BitVec.getLsbD_ofNat]
theorem bt_1 (i : Nat) : bt 1 i = decide (i = 0) := by
  rw [l_1, bt_nI]
  cases i with
  | zero => rfl
  | succ i => simp [Nat.testBit_succ]
theorem and1 (x : Int32) : (x &&& 1 = 1) ↔ bt x 0 = true := by
  constructor
  · intro h
    have h1 := congrArg (fun z => bt z 0) h
    simp only [b_and, bt_1] at h1
    simpa using h1
  · intro h
    apply b_ext
    intro i hi
    rw [b_and, bt_1]
    by_cases h0 : i = 0
    · subst h0; simp [h]
    · simp [h0]
/-- the e-th bit of a row of words -/
def rb (W : Nat → Nat) (r e : Nat) : Bool := (W (r + e / 32)).testBit (e % 32)
/-- the reference's words, at its base -/
def Wb (M : Ms) : Nat → Nat := fun j => M.2.2 0 (M.1 3 + j)
def b2 (b : Bool) : Nat := if b then 1 else 0
theorem lg_lt {x y : Int32} : (lg_cmp x.toInt64 y.toInt64 < 0) ↔ x < y := by
  unfold lg_cmp
  refine Iff.trans ?_ Int32.lt_iff_toInt_lt.symm
  have hx : x.toInt64.toInt = x.toInt := by simp
  have hy : y.toInt64.toInt = y.toInt := by simp
  by_cases h1 : x.toInt64 > y.toInt64
  · rw [if_pos h1]
    have h2 : y.toInt64 < x.toInt64 := h1
    rw [Int64.lt_iff_toInt_lt, hx, hy] at h2
    constructor
    · intro h; exact absurd h (by decide)
    · intro h; omega
  · rw [if_neg h1]
    have h2 : ¬ y.toInt64 < x.toInt64 := h1
    rw [Int64.lt_iff_toInt_lt, hx, hy] at h2
    by_cases h3 : x.toInt64 = y.toInt64
    · rw [if_pos h3]
      have h4 := congrArg Int64.toInt h3
      rw [hx, hy] at h4
      constructor
      · intro h; exact absurd h (by decide)
      · intro h; omega
    · rw [if_neg h3]
      have h4 : x.toInt ≠ y.toInt := fun h => h3 (Int64.toInt_inj.mp (by rw [hx, hy]; exact h))
      constructor
      · intro _; omega
      · intro _; decide
theorem lg_gt {x y : Int32} : (0 < lg_cmp x.toInt64 y.toInt64) ↔ y < x := by
  unfold lg_cmp
  refine Iff.trans ?_ Int32.lt_iff_toInt_lt.symm
  have hx : x.toInt64.toInt = x.toInt := by simp
  have hy : y.toInt64.toInt = y.toInt := by simp
  by_cases h1 : x.toInt64 > y.toInt64
  · rw [if_pos h1]
    have h2 : y.toInt64 < x.toInt64 := h1
    rw [Int64.lt_iff_toInt_lt, hx, hy] at h2
    constructor
    · intro _; exact h2
    · intro _; decide
  · rw [if_neg h1]
    have h2 : ¬ y.toInt64 < x.toInt64 := h1
    rw [Int64.lt_iff_toInt_lt, hx, hy] at h2
    by_cases h3 : x.toInt64 = y.toInt64
    · rw [if_pos h3]
      constructor
      · intro h; exact absurd h (by decide)
      · intro h; omega
    · rw [if_neg h3]
      constructor
      · intro h; exact absurd h (by decide)
      · intro h; omega
theorem bind_some' {α β : Type} (x : α) (f : α → Option β) : (some x).bind f = f x := rfl
/-- a loop that only reads: the states are numbered -/
theorem lup {ρ : Type} (L : Nat → Nat → ρ) (N : Nat) (r : ρ) (hs : ∀ i f, i < N → L (f + 1) i = L f (i + 1)) (he : ∀ f, L (f + 1) N = r) (F : Nat) (hF : N < F) : L F 0 = r := by
  have h : ∀ d i f, i + d = N → d < f → L f i = r := by
    intro d
    induction d with
    | zero =>
      intro i f h1 h2
      cases f with
      | zero => omega
      | succ f => rw [show i = N by omega]; exact he f
    | succ d ih =>
      intro i f h1 h2
      cases f with
      | zero => omega
      | succ f => rw [hs i f (by omega)]; exact ih (i + 1) f (by omega) (by omega)
  exact h N 0 F (by omega) hF
/-- a loop with a state that changes -/
theorem lpS {ρ S : Type} (L : Nat → Nat → S → ρ) (K : S → ρ) (Inv : Nat → S → Prop) (N : Nat) (hs : ∀ i f s, i < N → Inv i s → ∃ s', Inv (i + 1) s' ∧ L (f + 1) i s = L f (i + 1) s') (he : ∀ f s, Inv N s → L (f + 1) N s = K s) (F : Nat) (s : S) (hF : N < F) (h0 : Inv 0 s) : ∃ s', Inv N s' ∧ L F 0 s = K s' := by
  have h : ∀ d i f s, i + d = N → d < f → Inv i s → ∃ s', Inv N s' ∧ L f i s = K s' := by
    intro d
    induction d with
    | zero =>
      intro i f s h1 h2 h3
      cases f with
      | zero => omega
      | succ f =>
        have hi : i = N := by omega
        subst hi
        exact ⟨s, h3, he f s h3⟩
    | succ d ih =>
      intro i f s h1 h2 h3
      cases f with
      | zero => omega
      | succ f =>
        obtain ⟨s', h4, h5⟩ := hs i f s (by omega) h3
        obtain ⟨s2, h6, h7⟩ := ih (i + 1) f s' (by omega) (by omega) h4
        exact ⟨s2, h6, h5.trans h7⟩
  exact h N 0 F s (by omega) hF h0
/-- a loop that may end early: any property of its answer -/
theorem lpQ {ρ S : Type} (L : Nat → Nat → S → ρ) (Q : ρ → Prop) (Inv : Nat → S → Prop) (N : Nat) (hs : ∀ i f s, i < N → Inv i s → Q (L (f + 1) i s) ∨ ∃ s', Inv (i + 1) s' ∧ L (f + 1) i s = L f (i + 1) s') (he : ∀ f s, Inv N s → Q (L (f + 1) N s)) (F : Nat) (s : S) (hF : N < F) (h0 : Inv 0 s) : Q (L F 0 s) := by
  have h : ∀ d i f s, i + d = N → d < f → Inv i s → Q (L f i s) := by
    intro d
    induction d with
    | zero =>
      intro i f s h1 h2 h3
      cases f with
      | zero => omega
      | succ f =>
        have hi : i = N := by omega
        subst hi
        exact he f s h3
    | succ d ih =>
      intro i f s h1 h2 h3
      cases f with
      | zero => omega
      | succ f =>
        rcases hs i f s (by omega) h3 with h4 | ⟨s', h4, h5⟩
        · exact h4
        · rw [h5]; exact ih (i + 1) f s' (by omega) (by omega) h4
  exact h N 0 F s (by omega) hF h0
