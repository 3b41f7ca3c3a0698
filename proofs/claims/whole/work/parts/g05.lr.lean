/-! ===== PURE 43: the class's paper: longest rows ===== -/
theorem hg1_pos (b : Nat → Bool) (h : Nat → Nat) : ∀ n, 0 < hg1 b h n
  | 0 => Nat.one_pos
  | n + 1 => by
    show 0 < if (b n && decide (hg1 b h n ≤ h n)) = true then h n + 1 else hg1 b h n
    have := hg1_pos b h n
    split <;> omega
theorem hgt_pos (A : Nat → Nat → Bool) (e : Nat) : 0 < hgt A e := by
  rw [hgt_eq]; exact hg1_pos _ _ _
/-- one event's lower ones, the first n of them -/
def lrI (A : Nat → Nat → Bool) (e : Nat) : Nat → (Nat → Bool) → (Nat → Bool)
  | 0, f => f
  | n + 1, f => if A e n && decide (hgt A n + 1 = hgt A e) then up (lrI A e n f) n true else lrI A e n f
def lrO (A : Nat → Nat → Bool) : Nat → (Nat → Bool) → (Nat → Bool)
  | 0, f => f
  | e + 1, f => lrO A e (if f (e + 1) then lrI A (e + 1) (e + 1) f else f)
def lrF (A : Nat → Nat → Bool) (e : Nat) : Nat → Bool := lrO A e (up (fun _ => false) e true)
/-- the greedy row: who is reached, and how high -/
def lrT (A : Nat → Nat → Bool) (F : Nat → Bool) (k : Nat) : Nat → Option Nat × Nat
  | 0 => (none, 0)
  | n + 1 => if decide ((lrT A F k n).2 ≤ k) && F n && decide (hgt A n = (lrT A F k n).2 + 1) && (match (lrT A F k n).1 with | none => true | some a => A n a) then (some n, (lrT A F k n).2 + 1) else lrT A F k n
theorem lrT_st {A : Nat → Nat → Bool} {F : Nat → Bool} {k n : Nat} (h : k < (lrT A F k n).2) : ∀ d, lrT A F k (n + d) = lrT A F k n
  | 0 => rfl
  | d + 1 => by
    have := lrT_st h d
    show (if (decide ((lrT A F k (n + d)).2 ≤ k) && F (n + d) && decide (hgt A (n + d) = (lrT A F k (n + d)).2 + 1) && _) = true then _ else lrT A F k (n + d)) = _
    rw [this, show decide ((lrT A F k n).2 ≤ k) = false by simp; omega]
    rfl
theorem lrT_b {A : Nat → Nat → Bool} {F : Nat → Bool} {k : Nat} : ∀ n, (lrT A F k n).2 ≤ n ∧ ∀ a, (lrT A F k n).1 = some a → a < n
  | 0 => ⟨Nat.le_refl _, fun a h => by cases h⟩
  | n + 1 => by
    have ih := lrT_b (A := A) (F := F) (k := k) n
    have key : ∀ c : Bool, (if c = true then (some n, (lrT A F k n).2 + 1) else lrT A F k n).2 ≤ n + 1 ∧ ∀ a, (if c = true then (some n, (lrT A F k n).2 + 1) else lrT A F k n).1 = some a → a < n + 1 := by
      intro c
      cases c
      · exact ⟨Nat.le_succ_of_le ih.1, fun a h => Nat.lt_succ_of_lt (ih.2 a h)⟩
      · exact ⟨Nat.succ_le_succ ih.1, fun a h => by cases h; omega⟩
    rw [lrT]
    exact key _
section LRO
variable {O : Nat → Prop} {L : Nat → Nat} {σ t : Sto} {b P : Nat} {w : Wd} {sl : Nat → Nat → Option Nat}
theorem C_lrI (h : CW O L σ b w sl) (hp : PB σ P b) (i : Jv w) (hO : Ap O P) {e : Nat} (he : e < wC w 2) {f : Nat → Bool} (hf : ES σ (P + 6) f) (K : Sto → Option Sto) : ∃ t, F_X5_findLongestRows_L46 P (b + 1) (nI e) fu (nI 0) σ K = K t ∧ PB t P b ∧ Fr (P + 2) 7 σ t ∧ ES t (P + 6) (lrI (eA (wE w)) e e f) := by
  have hc := i.c
  obtain ⟨t1, ⟨p1, F1, s1⟩, e1⟩ := lpS (fun fl j t => F_X5_findLongestRows_L46 P (b + 1) (nI e) fl (nI j) t K) K (fun j t => PB t P b ∧ Fr (P + 2) 7 σ t ∧ ES t (P + 6) (lrI (eA (wE w)) e j f)) e (by
    intro j fl t hj ⟨p1, F1, s1⟩
    have h1 := h.ap hO F1
    have hv := h1.ev
    have hj1 := hgt_le (eA (wE w)) j
    have he1 := hgt_le (eA (wE w)) e
    have he0 := hgt_pos (eA (wE w)) e
    show ∃ s', _ ∧ F_X5_findLongestRows_L46 P (b + 1) (nI e) (fl + 1) (nI j) t K = _
    rw [F_X5_findLongestRows_L46, if_neg (by rw [nI_leI (by omega) (by omega)]; omega), C_isAhead hv i.bv he (by omega), bind_some', ifb0, l_1, nI_add]
    have hst : lrI (eA (wE w)) e (j + 1) f = if eA (wE w) e j && decide (hgt (eA (wE w)) j + 1 = hgt (eA (wE w)) e) then up (lrI (eA (wE w)) e j f) j true else lrI (eA (wE w)) e j f := rfl
    rw [hst]
    cases hA : eA (wE w) e j with
    | false => exact ⟨t, ⟨p1, F1, s1⟩, rfl⟩
    | true =>
      rw [if_pos rfl, hv.g7, bind_some', hv.rH i.bv (by omega), bind_some', bind_some', hv.rH i.bv he, bind_some', pk_sub (by omega), ifE (by omega) (by omega)]
      by_cases hh : hgt (eA (wE w)) j + 1 = hgt (eA (wE w)) e
      · obtain ⟨t2, e2, s2, F2⟩ := X_insert s1 (e := j) (by omega)
        obtain ⟨p2, G2⟩ := p1.f6 s2 F2
        refine ⟨t2, ⟨p2, F1.tr G2, ?_⟩, ?_⟩
        · rw [show decide (hgt (eA (wE w)) j + 1 = hgt (eA (wE w)) e) = true from decide_eq_true hh]
          exact s2
        · rw [if_pos (by omega), p1.r3, bind_some', e2, bind_some']
      · refine ⟨t, ⟨p1, F1, ?_⟩, ?_⟩
        · rw [show decide (hgt (eA (wE w)) j + 1 = hgt (eA (wE w)) e) = false from decide_eq_false hh]
          exact s1
        · rw [if_neg (by omega)]) (by
    intro fl t ⟨p1, F1, s1⟩
    show F_X5_findLongestRows_L46 P (b + 1) (nI e) (fl + 1) (nI e) t K = _
    rw [F_X5_findLongestRows_L46, if_pos (Int32.le_refl _)]) fu σ (by unfold fu; omega) ⟨hp, Fr.rf, hf⟩
  exact ⟨t1, e1, p1, F1, s1⟩
theorem C_lrO (i : Jv w) (hO : Ap O P) (K : Sto → Option Sto) : ∀ (e fl : Nat) (σ : Sto) (f : Nat → Bool), e < fl → e < wC w 2 → CW O L σ b w sl → PB σ P b → ES σ (P + 6) f → ∃ t, F_X5_findLongestRows_L25 P (b + 1) fl (nI e) σ K = K t ∧ PB t P b ∧ Fr (P + 2) 7 σ t ∧ ES t (P + 6) (lrO (eA (wE w)) e f)
  | 0, fl + 1, σ, f, _, _, h, hp, hf => by
    refine ⟨σ, ?_, hp, Fr.rf, hf⟩
    rw [F_X5_findLongestRows_L25, if_pos (by rw [nI_0]; exact Int32.le_refl _)]
  | e + 1, fl + 1, σ, f, h1, h2, h, hp, hf => by
    have hc := i.c
    rw [F_X5_findLongestRows_L25, if_neg (by rw [← nI_0, nI_leI (by omega) (by omega)]; omega), hp.r3, bind_some', X_holds hf (by omega), bind_some', ifb0, m1_add]
    show ∃ t, _ ∧ _ ∧ _ ∧ ES t (P + 6) (lrO (eA (wE w)) e (if f (e + 1) then lrI (eA (wE w)) (e + 1) (e + 1) f else f))
    cases hfe : f (e + 1) with
    | false =>
      rw [if_neg (by decide), if_neg (by decide)]
      exact C_lrO i hO K e fl σ f (by omega) (by omega) h hp hf
    | true =>
      rw [if_pos rfl, if_pos rfl, l_0]
      obtain ⟨t1, e1, p1, F1, s1⟩ := C_lrI h hp i hO h2 hf (fun s16 => F_X5_findLongestRows_L25 P (b + 1) fl (nI e) s16 K)
      obtain ⟨t2, e2, p2, F2, s2⟩ := C_lrO i hO K e fl t1 _ (by omega) (by omega) (h.ap hO F1) p1 s1
      exact ⟨t2, e1.trans e2, p2, F1.tr F2, s2⟩
theorem C_findLongestRows (h : CW O L σ b w sl) (hp : PB σ P b) (i : Jv w) (hO : Ap O P) {e : Nat} (he : e < wC w 2) : ∃ t, F_X5_findLongestRows σ P (nI e) = some t ∧ PB t P b ∧ Fr (P + 2) 7 σ t ∧ ES t (P + 6) (lrF (eA (wE w)) e) := by
  have hc := i.c
  obtain ⟨g, hg⟩ := hp.2.2.2.1
  obtain ⟨t1, e1, s1, F1⟩ := X_clear hg
  obtain ⟨p1, G1⟩ := hp.f6 s1 F1
  obtain ⟨t2, e2, s2, F2⟩ := X_insert s1 (e := e) (by omega)
  obtain ⟨p2, G2⟩ := p1.f6 s2 F2
  have h2 := h.ap hO (G1.tr G2)
  obtain ⟨t3, e3, p3, F3, s3⟩ := C_lrO i hO (fun s17 => some s17) e fu t2 _ (by unfold fu; omega) he h2 p2 s2
  refine ⟨t3, ?_, p3, (G1.tr G2).tr F3, s3⟩
  unfold F_X5_findLongestRows
  rw [chk_eq hp.ok, hp.r0, bind_some', h.r6, bind_some', hp.r3, bind_some', e1, bind_some', p1.r3, bind_some', e2, bind_some', e3]
theorem C_inRow (h : CW O L σ b w sl) (hp : PB σ P b) (i : Jv w) {e k : Nat} (he : e < wC w 2) (hk : k < 2 ^ 31) {F : Nat → Bool} (hf : ES σ (P + 6) F) (K : Int32 → Option (Int32 × Sto)) : ∀ (d n fl : Nat), n + d = e + 1 → d < fl → F_X5_inLongestRow_L35 σ P (nI e) (nI k) fl (oI (lrT (eA (wE w)) F k n).1) (nI (lrT (eA (wE w)) F k n).2) (nI n) K = K (oI (lrT (eA (wE w)) F k (e + 1)).1)
  | 0, n, fl + 1, h1, _ => by
    have hc := i.c
    have : n = e + 1 := by omega
    subst this
    rw [F_X5_inLongestRow_L35, if_pos (nI_lt (by omega) (by omega))]
  | d + 1, n, fl + 1, h1, h2 => by
    have hc := i.c
    have hb := lrT_b (A := eA (wE w)) (F := F) (k := k) n
    have hn1 := hgt_le (eA (wE w)) n
    have hv := h.ev
    rw [F_X5_inLongestRow_L35, if_neg (by rw [nI_ltI (by omega) (by omega)]; omega)]
    by_cases hkh : k < (lrT (eA (wE w)) F k n).2
    · rw [if_pos (nI_lt hkh (by omega)), ← h1, lrT_st hkh]
    · have ih := C_inRow h hp i he hk hf K d (n + 1) fl (by omega) (by omega)
      have hst : lrT (eA (wE w)) F k (n + 1) = if F n && decide (hgt (eA (wE w)) n = (lrT (eA (wE w)) F k n).2 + 1) && (match (lrT (eA (wE w)) F k n).1 with | none => true | some a => eA (wE w) n a) then (some n, (lrT (eA (wE w)) F k n).2 + 1) else lrT (eA (wE w)) F k n := by
        show (if (decide ((lrT (eA (wE w)) F k n).2 ≤ k) && F n && decide (hgt (eA (wE w)) n = (lrT (eA (wE w)) F k n).2 + 1) && _) = true then _ else lrT (eA (wE w)) F k n) = _
        rw [show decide ((lrT (eA (wE w)) F k n).2 ≤ k) = true by simp; omega, Bool.true_and]
      rw [if_neg (by rw [nI_ltI (by omega) (by omega)]; exact hkh), hp.r3, bind_some', X_holds hf (by omega), bind_some', ifb0, l_1, nI_add, nI_add]
      rw [hst] at ih
      cases hF : F n with
      | false =>
        rw [hF] at ih
        rw [if_neg (by decide)]
        exact ih
      | true =>
        rw [hF, Bool.true_and] at ih
        rw [if_pos rfl, hp.r0, bind_some', h.r6, bind_some', hv.g7, bind_some', hv.rH i.bv (by omega), bind_some', ifE (by omega) (by omega)]
        by_cases hh : hgt (eA (wE w)) n = (lrT (eA (wE w)) F k n).2 + 1
        · rw [decide_eq_true hh, Bool.true_and] at ih
          rw [if_pos hh]
          cases ha : (lrT (eA (wE w)) F k n).1 with
          | none =>
            rw [ha] at ih
            show (if (-1 : Int32) = -1 then _ else _) = _
            rw [if_pos rfl]
            exact ih
          | some a =>
            have hal := hb.2 a ha
            rw [ha] at ih
            dsimp only at ih
            show (if nI a = (-1 : Int32) then _ else _) = _
            rw [if_neg (oI_n1 (by omega)), bind_some', h.r6, bind_some', show oI (some a) = nI a from rfl, C_isAhead hv i.bv (by omega) (by omega), bind_some', ifb0]
            cases hA : eA (wE w) n a with
            | true =>
              rw [if_pos hA] at ih
              rw [if_pos rfl]
              exact ih
            | false =>
              have hA2 : ¬ eA (wE w) n a = true := by rw [hA]; decide
              rw [if_neg hA2, ha] at ih
              rw [if_neg (by decide)]
              exact ih
        · rw [decide_eq_false hh, Bool.false_and, if_neg (by decide)] at ih
          rw [if_neg hh]
          exact ih
/-- the k-th of the greedy longest row up to e -/
def lrA (A : Nat → Nat → Bool) (e : Nat) (k : Int32) : Option Nat := if k < 0 then none else if k < nI (hgt A e) then (lrT A (lrF A e) k.toNatClampNeg (e + 1)).1 else none
theorem C_inLongestRow (h : CW O L σ b w sl) (hp : PB σ P b) (i : Jv w) (hO : Ap O P) {e : Nat} (he : e < wC w 2) (k : Int32) : ∃ t, F_X5_inLongestRow σ P (nI e) k = some (oI (lrA (eA (wE w)) e k), t) ∧ PB t P b ∧ Fr (P + 2) 7 σ t := by
  have hc := i.c
  have hv := h.ev
  have he1 := hgt_le (eA (wE w)) e
  unfold F_X5_inLongestRow lrA
  rw [chk_eq hp.ok]
  by_cases hk : k < 0
  · rw [if_pos hk, if_pos hk]
    exact ⟨σ, rfl, hp, Fr.rf⟩
  · rw [if_neg hk, if_neg hk, hp.r0, bind_some', h.r6, bind_some', hv.g7, bind_some', hv.rH i.bv he, bind_some']
    by_cases hk2 : k < nI (hgt (eA (wE w)) e)
    · rw [if_pos hk2, if_pos hk2]
      obtain ⟨t1, e1, p1, F1, s1⟩ := C_findLongestRows h hp i hO he
      refine ⟨t1, ?_, p1, F1⟩
      have hk3 : k = nI k.toNatClampNeg := by
        rw [Int32.lt_iff_toInt_lt] at hk
        have h0 : (0 : Int32).toInt = 0 := rfl
        rw [h0] at hk
        apply Int32.toInt_inj.mp
        have hkb : k.toInt < 2 ^ 31 := Int32.toInt_lt k
        have : k.toNatClampNeg = k.toInt.toNat := rfl
        rw [nI_toInt (by rw [this]; omega), this]
        omega
      have hk4 : k.toNatClampNeg < 2 ^ 31 := by
        have hkb : k.toInt < 2 ^ 31 := Int32.toInt_lt k
        have : k.toNatClampNeg = k.toInt.toNat := rfl
        omega
      rw [e1, bind_some', l_0]
      have := C_inRow (h.ap hO F1) p1 i he hk4 s1 (fun x15 => some (x15, t1)) (e + 1) 0 fu (by omega) (by unfold fu; omega)
      rw [← hk3] at this
      exact this
    · rw [if_neg hk2, if_neg hk2]
      exact ⟨σ, rfl, hp, Fr.rf⟩
end LRO
