/-! ===== PURE 21: Long.bitCount counts the bits ===== -/
/-- digits of k bits each -/
def dv (k : Nat) (d : Nat → Nat) : Nat → Nat
  | 0 => 0
  | n + 1 => d 0 + 2 ^ k * dv k (fun i => d (i + 1)) n
theorem dv_cg {k : Nat} : ∀ {n : Nat} {d e : Nat → Nat}, (∀ i, i < n → d i = e i) → dv k d n = dv k e n
  | 0, _, _, _ => rfl
  | n + 1, d, e, h => by
    show d 0 + _ = e 0 + _
    rw [h 0 (by omega), dv_cg (fun i hi => h (i + 1) (by omega))]
theorem dv_lt {k : Nat} : ∀ {n : Nat} {d : Nat → Nat}, (∀ i, i < n → d i < 2 ^ k) → dv k d n < 2 ^ (k * n)
  | 0, _, _ => by simp [dv]
  | n + 1, d, h => by
    have h1 := dv_lt (k := k) (n := n) (d := fun i => d (i + 1)) (fun i hi => h (i + 1) (by omega))
    have h2 := h 0 (by omega)
    show d 0 + 2 ^ k * _ < _
    rw [Nat.mul_succ, Nat.pow_add, Nat.mul_comm (2 ^ (k * n))]
    have h3 : 2 ^ k * (dv k (fun i => d (i + 1)) n + 1) ≤ 2 ^ k * 2 ^ (k * n) := Nat.mul_le_mul_left _ h1
    rw [Nat.mul_succ] at h3
    omega
/-- a number by its low part and the rest, masked -/
theorem and_parts (m x X y Y : Nat) (hx : x < 2 ^ m) (hy : y < 2 ^ m) : (x + 2 ^ m * X) &&& (y + 2 ^ m * Y) = (x &&& y) + 2 ^ m * (X &&& Y) := by
  have h0 : 0 < 2 ^ m := Nat.two_pow_pos m
  have e1 := Nat.mod_add_div ((x + 2 ^ m * X) &&& (y + 2 ^ m * Y)) (2 ^ m)
  rw [Nat.and_mod_two_pow, Nat.and_div_two_pow] at e1
  rw [Nat.add_mul_mod_self_left, Nat.add_mul_mod_self_left, Nat.mod_eq_of_lt hx, Nat.mod_eq_of_lt hy, Nat.add_mul_div_left _ _ h0, Nat.add_mul_div_left _ _ h0, Nat.div_eq_of_lt hx, Nat.div_eq_of_lt hy, Nat.zero_add, Nat.zero_add] at e1
  exact e1.symm
/-- the even digits -/
theorem dv_even {k : Nat} : ∀ {n : Nat} {d : Nat → Nat}, (∀ i, i < 2 * n → d i < 2 ^ k) → dv k d (2 * n) &&& dv (2 * k) (fun _ => 2 ^ k - 1) n = dv (2 * k) (fun i => d (2 * i)) n
  | 0, _, _ => by show (0 &&& 0 : Nat) = 0; rfl
  | n + 1, d, h => by
    have h0 : 0 < 2 ^ k := Nat.two_pow_pos k
    have ih := dv_even (k := k) (n := n) (d := fun i => d (i + 1 + 1)) (fun i hi => h (i + 1 + 1) (by omega))
    have a0 := h 0 (by omega)
    have a1 := h 1 (by omega)
    have hp : 2 ^ (2 * k) = 2 ^ k * 2 ^ k := by rw [Nat.two_mul, Nat.pow_add]
    have e1 : dv k d (2 * (n + 1)) = (d 0 + 2 ^ k * d 1) + 2 ^ (2 * k) * dv k (fun i => d (i + 1 + 1)) (2 * n) := by
      show d 0 + 2 ^ k * (d 1 + 2 ^ k * dv k (fun i => d (i + 1 + 1)) (2 * n)) = _
      rw [hp, Nat.mul_add, Nat.mul_assoc, Nat.add_assoc]
    have hb : d 0 + 2 ^ k * d 1 < 2 ^ (2 * k) := by
      rw [hp]
      have : 2 ^ k * (d 1 + 1) ≤ 2 ^ k * 2 ^ k := Nat.mul_le_mul_left _ a1
      rw [Nat.mul_succ] at this
      omega
    have hm : 2 ^ k - 1 < 2 ^ (2 * k) := by
      have : 2 ^ k ≤ 2 ^ (2 * k) := Nat.pow_le_pow_right (by omega) (by omega)
      omega
    show dv k d (2 * (n + 1)) &&& ((2 ^ k - 1) + 2 ^ (2 * k) * dv (2 * k) (fun _ => 2 ^ k - 1) n) = d (2 * 0) + 2 ^ (2 * k) * dv (2 * k) (fun i => d (2 * (i + 1))) n
    rw [e1, and_parts _ _ _ _ _ hb hm, ih]
    congr 1
    rw [Nat.and_two_pow_sub_one_eq_mod, Nat.add_mul_mod_self_left, Nat.mod_eq_of_lt a0]
theorem dv_div {k n : Nat} {d : Nat → Nat} (h : d 0 < 2 ^ k) : dv k d (n + 1) / 2 ^ k = dv k (fun i => d (i + 1)) n := by
  show (d 0 + 2 ^ k * _) / 2 ^ k = _
  rw [Nat.add_mul_div_left _ _ (Nat.two_pow_pos k), Nat.div_eq_of_lt h, Nat.zero_add]
theorem dv_add {k : Nat} : ∀ {n : Nat} {d e : Nat → Nat}, dv k d n + dv k e n = dv k (fun i => d i + e i) n
  | 0, _, _ => rfl
  | n + 1, d, e => by
    show d 0 + 2 ^ k * _ + (e 0 + 2 ^ k * _) = d 0 + e 0 + 2 ^ k * dv k (fun i => d (i + 1) + e (i + 1)) n
    rw [← dv_add (k := k) (n := n) (d := fun i => d (i + 1)) (e := fun i => e (i + 1)), Nat.mul_add]
    omega
/-- two digits to one -/
theorem dv_two {k : Nat} : ∀ {n : Nat} {d : Nat → Nat}, dv k d (2 * n) = dv (2 * k) (fun i => d (2 * i) + 2 ^ k * d (2 * i + 1)) n
  | 0, _ => rfl
  | n + 1, d => by
    have hp : 2 ^ (2 * k) = 2 ^ k * 2 ^ k := by rw [Nat.two_mul, Nat.pow_add]
    show d 0 + 2 ^ k * (d 1 + 2 ^ k * dv k (fun i => d (i + 1 + 1)) (2 * n)) = d (2 * 0) + 2 ^ k * d (2 * 0 + 1) + 2 ^ (2 * k) * dv (2 * k) (fun i => d (2 * (i + 1)) + 2 ^ k * d (2 * (i + 1) + 1)) n
    rw [dv_two (k := k) (n := n) (d := fun i => d (i + 1 + 1)), hp, Nat.mul_add, Nat.mul_assoc, Nat.add_assoc]
    rfl
theorem dv_odd {k n : Nat} {d : Nat → Nat} (h : ∀ i, i < 2 * n → d i < 2 ^ k) (hz : ∀ i, 2 * n ≤ i → d i = 0) : dv k d (2 * n) / 2 ^ k &&& dv (2 * k) (fun _ => 2 ^ k - 1) n = dv (2 * k) (fun i => d (2 * i + 1)) n := by
  cases n with
  | zero => simp [dv]
  | succ n =>
    have e0 : dv k d (2 * (n + 1)) / 2 ^ k = dv k (fun i => d (i + 1)) (2 * n + 1) := dv_div (h 0 (by omega))
    have e1 : dv k (fun i => d (i + 1)) (2 * n + 1) = dv k (fun i => d (i + 1)) (2 * (n + 1)) := by
      have : ∀ (m : Nat) (d : Nat → Nat), d m = 0 → dv k d (m + 1) = dv k d m := by
        intro m
        induction m with
        | zero => intro d h0; show d 0 + 2 ^ k * 0 = 0; rw [h0, Nat.mul_zero]
        | succ m ih =>
          intro d h0
          show d 0 + 2 ^ k * dv k (fun i => d (i + 1)) (m + 1) = d 0 + 2 ^ k * dv k (fun i => d (i + 1)) m
          rw [ih (fun i => d (i + 1)) h0]
      exact (this (2 * n + 1) (fun i => d (i + 1)) (hz (2 * n + 1 + 1) (by omega))).symm
    rw [e0, e1]
    refine (dv_even (d := fun i => d (i + 1)) (fun i hi => ?_)).trans rfl
    by_cases h2 : i + 1 < 2 * (n + 1)
    · exact h _ h2
    · show d (i + 1) < _
      rw [hz _ (by omega)]; exact Nat.two_pow_pos k
def bN (b : Bool) : Nat := if b then 1 else 0
theorem bN_lt (b : Bool) : bN b < 2 := by cases b <;> decide
/-- a number of n bits -/
theorem dv_bits : ∀ (n x : Nat), x < 2 ^ n → x = dv 1 (fun i => bN (x.testBit i)) n
  | 0, x, h => by
    have : x = 0 := by simpa using h
    subst this; rfl
  | n + 1, x, h => by
    have h2 := dv_bits n (x / 2) (by omega)
    show x = bN (x.testBit 0) + 2 ^ 1 * dv 1 (fun i => bN (x.testBit (i + 1))) n
    have e : (fun i => bN (x.testBit (i + 1))) = fun i => bN ((x / 2).testBit i) := by
      funext i; rw [Nat.testBit_succ]
    rw [e, ← h2]
    have : bN (x.testBit 0) = x % 2 := by
      rw [Nat.testBit_zero]
      rcases Nat.mod_two_eq_zero_or_one x with h0 | h0 <;> simp [bN, h0]
    rw [this]
    omega
/-- the sums of the digits, and the bits -/
def pcN (X : Nat) : Nat :=
  let a := X - (X / 2 &&& 6148914691236517205)
  let b := (a &&& 3689348814741910323) + (a / 4 &&& 3689348814741910323)
  (b + b / 16) &&& 1085102592571150095
set_option maxRecDepth 20000 in
theorem pcN_eq (X : Nat) (hX : X < 2 ^ 64) : pcN X = dv 8 (fun j => fb_ct (fun i => X.testBit (8 * j + i)) 8) 8 ∧ (X / 2 &&& 6148914691236517205) ≤ X := by
  have hb : ∀ i, 2 * 32 ≤ i → bN (X.testBit i) = 0 := fun i hi => by
    rw [Nat.testBit_lt_two_pow (Nat.lt_of_lt_of_le hX (Nat.pow_le_pow_right (by omega) (by omega)))]; rfl
  have hX1 := dv_bits 64 X hX
  have m1 : (6148914691236517205 : Nat) = dv (2 * 1) (fun _ => 2 ^ 1 - 1) 32 := by decide +kernel
  have m2 : (3689348814741910323 : Nat) = dv (2 * 2) (fun _ => 2 ^ 2 - 1) 16 := by decide +kernel
  have m3 : (1085102592571150095 : Nat) = dv (2 * 4) (fun _ => 2 ^ 4 - 1) 8 := by decide +kernel
  have s1 : X / 2 &&& 6148914691236517205 = dv 2 (fun i => bN (X.testBit (2 * i + 1))) 32 := by
    have := dv_odd (k := 1) (n := 32) (d := fun i => bN (X.testBit i)) (fun i _ => bN_lt _) hb
    rw [← m1] at this
    have e2 : dv 1 (fun i => bN (X.testBit i)) (2 * 32) = X := hX1.symm
    rw [e2] at this
    exact this
  have s2 : X = dv 2 (fun i => bN (X.testBit (2 * i)) + bN (X.testBit (2 * i + 1))) 32 + dv 2 (fun i => bN (X.testBit (2 * i + 1))) 32 := by
    rw [dv_add]
    conv => lhs; rw [hX1]
    rw [show (64 : Nat) = 2 * 32 from rfl, dv_two]
    refine dv_cg (fun i _ => ?_)
    omega
  have hle : X / 2 &&& 6148914691236517205 ≤ X := by rw [s1]; omega
  have a1 : X - (X / 2 &&& 6148914691236517205) = dv 2 (fun i => bN (X.testBit (2 * i)) + bN (X.testBit (2 * i + 1))) 32 := by rw [s1]; omega
  refine ⟨?_, hle⟩
  unfold pcN
  dsimp only
  rw [a1]
  -- the twos
  generalize hd : (fun i => if i < 32 then bN (X.testBit (2 * i)) + bN (X.testBit (2 * i + 1)) else 0) = d
  have dz : ∀ i, 32 ≤ i → d i = 0 := fun i hi => by rw [← hd]; exact if_neg (by omega)
  have dl : ∀ i, d i ≤ 2 := fun i => by
    rw [← hd]
    have h1 := bN_lt (X.testBit (2 * i))
    have h2 := bN_lt (X.testBit (2 * i + 1))
    dsimp only
    split <;> omega
  have e1 : dv 2 (fun i => bN (X.testBit (2 * i)) + bN (X.testBit (2 * i + 1))) 32 = dv 2 d (2 * 16) := dv_cg (fun i hi => by rw [← hd]; exact (if_pos hi).symm)
  rw [e1, m2, show (4 : Nat) = 2 ^ 2 from rfl, dv_even (k := 2) (fun i _ => Nat.lt_of_le_of_lt (dl i) (by decide)), dv_odd (k := 2) (n := 16) (fun i _ => Nat.lt_of_le_of_lt (dl i) (by decide)) (fun i hi => dz i (by omega)), dv_add]
  generalize hc : (fun i => d (2 * i) + d (2 * i + 1)) = c
  have cz : ∀ i, 16 ≤ i → c i = 0 := fun i hi => by rw [← hc]; dsimp only; rw [dz _ (by omega), dz _ (by omega)]
  have cl : ∀ i, c i ≤ 4 := fun i => by
    rw [← hc]
    have h1 := dl (2 * i)
    have h2 := dl (2 * i + 1)
    dsimp only
    omega
  have e2 : dv (2 * 2) c 16 / 16 = dv 4 (fun i => c (i + 1)) 16 := by
    rw [show (16 : Nat) = 15 + 1 from rfl, show dv (2 * 2) c (15 + 1) / (15 + 1) = dv 4 (fun i => c (i + 1)) 15 from dv_div (k := 4) (n := 15) (Nat.lt_of_le_of_lt (cl 0) (by decide))]
    have : ∀ (m : Nat) (d : Nat → Nat), d m = 0 → dv 4 d (m + 1) = dv 4 d m := by
      intro m
      induction m with
      | zero => intro d h0; show d 0 + 2 ^ 4 * 0 = 0; rw [h0]
      | succ m ih =>
        intro d h0
        show d 0 + 2 ^ 4 * dv 4 (fun i => d (i + 1)) (m + 1) = d 0 + 2 ^ 4 * dv 4 (fun i => d (i + 1)) m
        rw [ih (fun i => d (i + 1)) h0]
    exact (this 15 _ (cz 16 (by omega))).symm
  rw [e2, show dv (2 * 2) c 16 = dv 4 c 16 from rfl, dv_add, m3]
  rw [show (16 : Nat) = 2 * 8 from rfl, dv_even (k := 4) (n := 8) (fun i _ => by
    have h1 := cl i
    have h2 := cl (i + 1)
    show c i + c (i + 1) < 16
    omega)]
  refine dv_cg (fun j hj => ?_)
  rw [← hc]
  dsimp only
  rw [← hd]
  dsimp only
  rw [if_pos (by omega), if_pos (by omega), if_pos (by omega), if_pos (by omega)]
  simp only [fb_ct, bN]
  have x0 : 2 * (2 * (2 * j)) = 8 * j := by omega
  have x1 : 2 * (2 * (2 * j)) + 1 = 8 * j + 1 := by omega
  have x2 : 2 * (2 * (2 * j) + 1) = 8 * j + 2 := by omega
  have x3 : 2 * (2 * (2 * j) + 1) + 1 = 8 * j + 3 := by omega
  have x4 : 2 * (2 * (2 * j + 1)) = 8 * j + 4 := by omega
  have x5 : 2 * (2 * (2 * j + 1)) + 1 = 8 * j + 5 := by omega
  have x6 : 2 * (2 * (2 * j + 1) + 1) = 8 * j + 6 := by omega
  have x7 : 2 * (2 * (2 * j + 1) + 1) + 1 = 8 * j + 7 := by omega
  rw [x1, x3, x5, x7, x0, x2, x4, x6]
  simp only [Nat.zero_add, Nat.add_zero, Nat.add_assoc]
theorem pc_a1 (e X x : Nat) (h : e ≤ 8) (hx : x = e + 256 * X) : x / 256 = X := by omega
theorem pc_l (e X x B : Nat) (h : e ≤ 8) (hx : x = e + 256 * X) (hX : X ≤ B) : x ≤ 8 + 256 * B := by omega
theorem pc_div (L Q M x : Nat) (hL : L < M) (hx : x = L + M * Q) : x / M = Q := by
  rw [hx, Nat.add_mul_div_left _ _ (by omega), Nat.div_eq_of_lt hL, Nat.zero_add]
theorem pc_mod (L Q M x : Nat) (hL : L < M) (hx : x = L + M * Q) : x % M = L := by
  rw [hx, Nat.add_mul_mod_self_left, Nat.mod_eq_of_lt hL]
theorem pc_y (e0 e1 e2 X1 X2 X3 x : Nat) (hx : x = e0 + 256 * X1) (h1 : X1 = e1 + 256 * X2) (h2 : X2 = e2 + 256 * X3) : x + X1 = ((e0 + e1) + 256 * (e1 + e2)) + 65536 * (X2 + X3) := by omega
theorem pc_yl (e0 e1 e2 : Nat) (h0 : e0 ≤ 8) (h1 : e1 ≤ 8) (h2 : e2 ≤ 8) : (e0 + e1) + 256 * (e1 + e2) < 65536 := by omega
theorem pc_z (e0 e1 e2 e3 e4 e5 e6 e7 x X1 X2 X3 X4 X5 X6 : Nat) (hx : x = e0 + 256 * X1) (h1 : X1 = e1 + 256 * X2) (h2 : X2 = e2 + 256 * X3) (h3 : X3 = e3 + 256 * X4) (h4 : X4 = e4 + 256 * X5) (h5 : X5 = e5 + 256 * X6) (h6 : X6 = e6 + 256 * e7) : x + X1 + (X2 + X3) = ((e0 + e1 + e2 + e3) + 256 * (e1 + e2 + e3 + e4) + 65536 * (e2 + e3 + e4 + e5) + 16777216 * (e3 + e4 + e5 + e6)) + 4294967296 * (X4 + X5 + X6 + e7) := by omega
theorem pc_zl (e0 e1 e2 e3 e4 e5 e6 : Nat) (h0 : e0 ≤ 8) (h1 : e1 ≤ 8) (h2 : e2 ≤ 8) (h3 : e3 ≤ 8) (h4 : e4 ≤ 8) (h5 : e5 ≤ 8) (h6 : e6 ≤ 8) : (e0 + e1 + e2 + e3) + 256 * (e1 + e2 + e3 + e4) + 65536 * (e2 + e3 + e4 + e5) + 16777216 * (e3 + e4 + e5 + e6) < 4294967296 := by omega
theorem pc_t (e0 e1 e2 e3 e4 e5 e6 e7 x X1 X2 X3 X4 X5 X6 : Nat) (hx : x = e0 + 256 * X1) (h1 : X1 = e1 + 256 * X2) (h2 : X2 = e2 + 256 * X3) (h3 : X3 = e3 + 256 * X4) (h4 : X4 = e4 + 256 * X5) (h5 : X5 = e5 + 256 * X6) (h6 : X6 = e6 + 256 * e7) : x + X1 + (X2 + X3) + (X4 + X5 + X6 + e7) = (e0 + e1 + e2 + e3 + e4 + e5 + e6 + e7) + 128 * (2 * (X1 + X2 + X3 + X4 + X5 + X6 + e7)) := by omega
theorem pc_b (x X1 X2 X3 X4 X5 X6 e7 : Nat) (h7 : e7 ≤ 8) (h6 : X6 ≤ 8 + 256 * 8) (h5 : X5 ≤ 8 + 256 * (8 + 256 * 8)) (h4 : X4 ≤ 8 + 256 * (8 + 256 * (8 + 256 * 8))) (h3 : X3 ≤ 8 + 256 * (8 + 256 * (8 + 256 * (8 + 256 * 8)))) (h2 : X2 ≤ 8 + 256 * (8 + 256 * (8 + 256 * (8 + 256 * (8 + 256 * 8))))) (h1 : X1 ≤ 8 + 256 * (8 + 256 * (8 + 256 * (8 + 256 * (8 + 256 * (8 + 256 * 8)))))) (hx : x ≤ 8 + 256 * (8 + 256 * (8 + 256 * (8 + 256 * (8 + 256 * (8 + 256 * (8 + 256 * 8))))))) : x + X1 + (X2 + X3) + (X4 + X5 + X6 + e7) < 18446744073709551616 := by omega
theorem pc_end (e0 e1 e2 e3 e4 e5 e6 e7 : Nat) (h : e0 ≤ 8 ∧ e1 ≤ 8 ∧ e2 ≤ 8 ∧ e3 ≤ 8 ∧ e4 ≤ 8 ∧ e5 ≤ 8 ∧ e6 ≤ 8 ∧ e7 ≤ 8) (x y z t : Nat) (hx : x = e0 + 256 * (e1 + 256 * (e2 + 256 * (e3 + 256 * (e4 + 256 * (e5 + 256 * (e6 + 256 * e7))))))) (hy : y = x + x / 256) (hz : z = y + y / 65536) (ht : t = z + z / 4294967296) : t < 2 ^ 64 ∧ t % 128 = e0 + e1 + e2 + e3 + e4 + e5 + e6 + e7 ∧ z < 2 ^ 64 ∧ y < 2 ^ 64 := by
  obtain ⟨b0, b1, b2', b3, b4, b5, b6, b7⟩ := h
  generalize h6 : e6 + 256 * e7 = X6 at hx
  generalize h5 : e5 + 256 * X6 = X5 at hx
  generalize h4 : e4 + 256 * X5 = X4 at hx
  generalize h3 : e3 + 256 * X4 = X3 at hx
  generalize h2 : e2 + 256 * X3 = X2 at hx
  generalize h1 : e1 + 256 * X2 = X1 at hx
  rw [pc_a1 e0 X1 x b0 hx] at hy
  have y1 := pc_y e0 e1 e2 X1 X2 X3 x hx h1.symm h2.symm
  rw [← hy] at y1
  rw [pc_div _ _ 65536 y (pc_yl e0 e1 e2 b0 b1 b2') y1, hy] at hz
  have z1 := pc_z e0 e1 e2 e3 e4 e5 e6 e7 x X1 X2 X3 X4 X5 X6 hx h1.symm h2.symm h3.symm h4.symm h5.symm h6.symm
  rw [← hz] at z1
  rw [pc_div _ _ 4294967296 z (pc_zl e0 e1 e2 e3 e4 e5 e6 b0 b1 b2' b3 b4 b5 b6) z1, hz] at ht
  have t1 := pc_t e0 e1 e2 e3 e4 e5 e6 e7 x X1 X2 X3 X4 X5 X6 hx h1.symm h2.symm h3.symm h4.symm h5.symm h6.symm
  rw [← ht] at t1
  have l6 := pc_l e6 e7 X6 8 b6 h6.symm b7
  have l5 := pc_l e5 X6 X5 _ b5 h5.symm l6
  have l4 := pc_l e4 X5 X4 _ b4 h4.symm l5
  have l3 := pc_l e3 X4 X3 _ b3 h3.symm l4
  have l2 := pc_l e2 X3 X2 _ b2' h2.symm l3
  have l1 := pc_l e1 X2 X1 _ b1 h1.symm l2
  have l0 := pc_l e0 X1 x _ b0 hx l1
  have tl := pc_b x X1 X2 X3 X4 X5 X6 e7 b7 l6 l5 l4 l3 l2 l1 l0
  rw [← ht] at tl
  refine ⟨tl, pc_mod _ _ 128 t ?_ t1, ?_, ?_⟩
  · clear tl l0 l1 l2 l3 l4 l5 l6 t1 z1 y1 hx ht hz hy h1 h2 h3 h4 h5 h6; omega
  · refine Nat.lt_of_le_of_lt ?_ tl
    rw [ht, ← hz]; exact Nat.le_add_right _ _
  · refine Nat.lt_of_le_of_lt ?_ tl
    rw [ht, ← hy, Nat.add_assoc]; exact Nat.le_add_right _ _
def u64 (y : Int64) : Nat := y.toBitVec.toNat
theorem u_lt (y : Int64) : u64 y < 2 ^ 64 := y.toBitVec.isLt
theorem u_and (x y : Int64) : u64 (x &&& y) = u64 x &&& u64 y := by unfold u64; rw [Int64.toBitVec_and, BitVec.toNat_and]
theorem u_add (x y : Int64) (h : u64 x + u64 y < 2 ^ 64) : u64 (x + y) = u64 x + u64 y := by
  unfold u64 at h ⊢
  rw [Int64.toBitVec_add, BitVec.toNat_add, Nat.mod_eq_of_lt h]
theorem u_sub (x y : Int64) (h : u64 y ≤ u64 x) : u64 (x - y) = u64 x - u64 y := by
  unfold u64 at h ⊢
  rw [Int64.toBitVec_sub]
  exact BitVec.toNat_sub_of_le h
theorem u_shr (x : Int64) (s : Int32) (k : Nat) (hs : ((s.toInt64.toUInt64 &&& Int64.toUInt64 63).toBitVec % 64).toNat = k) : u64 (x.toUInt64 >>> (s.toInt64.toUInt64 &&& Int64.toUInt64 63)).toInt64 = u64 x / 2 ^ k := by
  unfold u64
  show (x.toUInt64 >>> (s.toInt64.toUInt64 &&& Int64.toUInt64 63)).toBitVec.toNat = _
  rw [UInt64.toBitVec_shiftRight]
  show (x.toUInt64.toBitVec >>> ((s.toInt64.toUInt64 &&& Int64.toUInt64 63).toBitVec % 64).toNat).toNat = _
  rw [hs, BitVec.toNat_ushiftRight, Nat.shiftRight_eq_div_pow]
  rfl
theorem u_lN (x : Int64) : x = lN (u64 x) := by
  apply Int64.toBitVec_inj.mp
  show x.toBitVec = BitVec.ofNat 64 x.toBitVec.toNat
  rw [BitVec.ofNat_toNat, BitVec.setWidth_eq]
theorem u_i (x : Int64) : x.toInt32 &&& 127 = nI (u64 x % 128) := by
  have h1 : x.toInt32 = nI (u64 x) := by
    have := lN_i (u64 x)
    rw [← u_lN] at this
    exact this
  rw [h1, pk_and _ 7 (by decide)]
  have h2 : (nI (u64 x)).toBitVec.toNat = u64 x % 2 ^ 32 := rfl
  rw [h2]
  congr 1
  omega
theorem J_bitCount (y : Int64) : F_J13_bitCount_95d88 y = some (nI (fb_ct (lb y) 64)) := by
  generalize ha : y - ((y.toUInt64 >>> ((1 : Int32).toInt64.toUInt64 &&& Int64.toUInt64 63)).toInt64 &&& (6148914691236517205 : Int64)) = A
  generalize hb : (A &&& (3689348814741910323 : Int64)) + ((A.toUInt64 >>> ((2 : Int32).toInt64.toUInt64 &&& Int64.toUInt64 63)).toInt64 &&& (3689348814741910323 : Int64)) = B
  generalize hc : (B + (B.toUInt64 >>> ((4 : Int32).toInt64.toUInt64 &&& Int64.toUInt64 63)).toInt64) &&& (1085102592571150095 : Int64) = C
  generalize hd : C + (C.toUInt64 >>> ((8 : Int32).toInt64.toUInt64 &&& Int64.toUInt64 63)).toInt64 = D
  generalize he : D + (D.toUInt64 >>> ((16 : Int32).toInt64.toUInt64 &&& Int64.toUInt64 63)).toInt64 = E
  generalize hf : E + (E.toUInt64 >>> ((32 : Int32).toInt64.toUInt64 &&& Int64.toUInt64 63)).toInt64 = G
  have h0 : F_J13_bitCount_95d88 y = some (G.toInt32 &&& (127 : Int32)) := by
    rw [← hf, ← he, ← hd, ← hc, ← hb, ← ha]
    rfl
  rw [h0, u_i]
  have hp := pcN_eq (u64 y) (u_lt y)
  have uA : u64 A = u64 y - (u64 y / 2 &&& 6148914691236517205) := by
    have e1 : u64 ((y.toUInt64 >>> ((1 : Int32).toInt64.toUInt64 &&& Int64.toUInt64 63)).toInt64 &&& (6148914691236517205 : Int64)) = (u64 y / 2 &&& 6148914691236517205) := by
      rw [u_and, u_shr y 1 1 (by decide)]; rfl
    rw [← ha, u_sub _ _ (by rw [e1]; exact hp.2), e1]
  have uB : u64 B = (u64 A &&& 3689348814741910323) + (u64 A / 4 &&& 3689348814741910323) := by
    have e1 : u64 ((A.toUInt64 >>> ((2 : Int32).toInt64.toUInt64 &&& Int64.toUInt64 63)).toInt64 &&& (3689348814741910323 : Int64)) = (u64 A / 4 &&& 3689348814741910323) := by
      rw [u_and, u_shr A 2 2 (by decide)]; rfl
    have e2 : u64 (A &&& (3689348814741910323 : Int64)) = (u64 A &&& 3689348814741910323) := by rw [u_and]; rfl
    have l1 : (u64 A / 4 &&& 3689348814741910323) ≤ 3689348814741910323 := Nat.and_le_right
    have l2 : (u64 A &&& 3689348814741910323) ≤ 3689348814741910323 := Nat.and_le_right
    rw [← hb, u_add _ _ (by rw [e1, e2]; omega), e1, e2]
  have lB : u64 B ≤ 2 * 3689348814741910323 := by
    have l1 : (u64 A / 4 &&& 3689348814741910323) ≤ 3689348814741910323 := Nat.and_le_right
    have l2 : (u64 A &&& 3689348814741910323) ≤ 3689348814741910323 := Nat.and_le_right
    omega
  have uC : u64 C = pcN (u64 y) := by
    have e1 : u64 ((B.toUInt64 >>> ((4 : Int32).toInt64.toUInt64 &&& Int64.toUInt64 63)).toInt64) = u64 B / 16 := by
      rw [u_shr B 4 4 (by decide)]
    rw [← hc, u_and, u_add _ _ (by rw [e1]; omega), e1, uB, uA]
    rfl
  rw [hp.1] at uC
  generalize hd8 : (fun j => fb_ct (fun i => (u64 y).testBit (8 * j + i)) 8) = d at uC
  have hl : ∀ j, d j ≤ 8 := fun j => by rw [← hd8]; exact fb_ct_le _ _
  have uC2 : u64 C = d 0 + 256 * (d 1 + 256 * (d 2 + 256 * (d 3 + 256 * (d 4 + 256 * (d 5 + 256 * (d 6 + 256 * d 7)))))) := by
    rw [uC]
    simp only [dv, Nat.mul_zero, Nat.add_zero]
  have fin := pc_end (d 0) (d 1) (d 2) (d 3) (d 4) (d 5) (d 6) (d 7) ⟨hl 0, hl 1, hl 2, hl 3, hl 4, hl 5, hl 6, hl 7⟩ (u64 C) (u64 C + u64 C / 256) (u64 C + u64 C / 256 + (u64 C + u64 C / 256) / 65536) (u64 C + u64 C / 256 + (u64 C + u64 C / 256) / 65536 + (u64 C + u64 C / 256 + (u64 C + u64 C / 256) / 65536) / 4294967296) uC2 rfl rfl rfl
  obtain ⟨f1, f2, f3, f4⟩ := fin
  have uD : u64 D = u64 C + u64 C / 256 := by
    have e1 : u64 ((C.toUInt64 >>> ((8 : Int32).toInt64.toUInt64 &&& Int64.toUInt64 63)).toInt64) = u64 C / 256 := by
      rw [u_shr C 8 8 (by decide)]
    rw [← hd, u_add _ _ (by rw [e1]; exact f4), e1]
  rw [← uD] at f1 f2 f3
  have uE : u64 E = u64 D + u64 D / 65536 := by
    have e1 : u64 ((D.toUInt64 >>> ((16 : Int32).toInt64.toUInt64 &&& Int64.toUInt64 63)).toInt64) = u64 D / 65536 := by
      rw [u_shr D 16 16 (by decide)]
    rw [← he, u_add _ _ (by rw [e1]; exact f3), e1]
  rw [← uE] at f1 f2
  have uG : u64 G = u64 E + u64 E / 4294967296 := by
    have e1 : u64 ((E.toUInt64 >>> ((32 : Int32).toInt64.toUInt64 &&& Int64.toUInt64 63)).toInt64) = u64 E / 4294967296 := by
      rw [u_shr E 32 32 (by decide)]
    rw [← hf, u_add _ _ (by rw [e1]; exact f1), e1]
  rw [← uG] at f2
  rw [f2]
  congr 2
  have split8 : ∀ m, fb_ct (lb y) (8 * (m + 1)) = fb_ct (lb y) (8 * m) + d m := by
    intro m
    rw [Nat.mul_succ, fb_ct_split, ← hd8]
    rfl
  have s0 := split8 0
  have s1 := split8 1
  have s2 := split8 2
  have s3 := split8 3
  have s4 := split8 4
  have s5 := split8 5
  have s6 := split8 6
  have s7 := split8 7
  have z0 : fb_ct (lb y) (8 * 0) = 0 := rfl
  have z8 : fb_ct (lb y) (8 * (7 + 1)) = fb_ct (lb y) 64 := rfl
  clear f1 f2 f3 f4 uA uB uC uC2 uD uE uG lB hp hl h0 ha hb hc hd he hf
  simp only [Nat.zero_add, Nat.reduceAdd, Nat.reduceMul] at s0 s1 s2 s3 s4 s5 s6 s7 z0 z8
  omega
section SZ
variable {σ : Sto} {p q : Nat} {f g : Nat → Bool}
theorem fb_half {lo hi : Int64} (h2 : ∀ e, e < 64 → lb lo e = f e) (h3 : ∀ e, e < 64 → lb hi e = f (64 + e)) : fb_ct (lb lo) 64 + fb_ct (lb hi) 64 = fb_ct f 128 := by
  have := fb_ct_split f 64 64
  rw [show (128 : Nat) = 64 + 64 from rfl, this, fb_ct_cong h2, fb_ct_cong h3]
theorem X_size (h : ES σ p f) : F_X1_size σ p = some (nI (fb_ct f 128)) := by
  obtain ⟨lo, hi, h1, h2, h3⟩ := h
  unfold F_X1_size
  rw [chk_eq (gOs_cel h1), gL_cel h1 rfl, bind_some', J_bitCount, bind_some', gL_cel h1 rfl, bind_some', J_bitCount, bind_some', nI_add, fb_half h2 h3]
theorem X_shared (h : ES σ p f) (hg : ES σ q g) : F_X1_shared σ p q = some (nI (fb_ct (fun e => f e && g e) 128)) := by
  obtain ⟨lo, hi, h1, h2, h3⟩ := h
  obtain ⟨lo2, hi2, g1, g2, g3⟩ := hg
  unfold F_X1_shared
  rw [chk_eq (gOs_cel h1), gL_cel h1 rfl, bind_some', gL_cel g1 rfl, bind_some', J_bitCount, bind_some', gL_cel h1 rfl, bind_some', gL_cel g1 rfl, bind_some', J_bitCount, bind_some', nI_add, fb_half (f := fun e => f e && g e) (fun e he => by rw [lb_and, h2 e he, g2 e he]) (fun e he => by rw [lb_and, h3 e he, g3 e he])]
theorem fb_128 {c : Nat} (hc : c ≤ 128) (h : ∀ e, f e = true → e < c) : fb_ct f 128 = fb_ct f c := by
  have h1 := fb_ct_split f c (128 - c)
  rw [show c + (128 - c) = 128 by omega] at h1
  have h2 : fb_ct (fun k => f (c + k)) (128 - c) = 0 := fb_ct_zero.mpr (fun k hk => by
    rw [← Bool.not_eq_true]
    intro h2
    have := h _ h2
    omega)
  rw [h1, h2, Nat.add_zero]
end SZ
