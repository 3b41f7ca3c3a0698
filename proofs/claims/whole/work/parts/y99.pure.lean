/-! ===== the law's function answers 1 on every script, within the room ===== -/
theorem law_pure (L : Nat) (xs : Nat → Int32) (hL : L ≤ 2560) : ∃ σ' : Sto, F_L_law L xs ([none], 0) = some (1, σ') ∧ σ'.1.length ≤ 20000 ∧ σ'.2 ≤ 2000000 := law_all few_ok L xs hL
