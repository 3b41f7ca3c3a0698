/-! ===== PURE 22: the class's arrays, events, sites ===== -/
def IA (σ : Sto) (p n : Nat) (f : Nat → Nat) : Prop := cel σ p = some (.inr (0, (n, .inl (fun j => nI (f j)))))
def cpN (f g : Nat → Nat) (sp dp k : Nat) : Nat → Nat := fun j => if dp ≤ j ∧ j < dp + k then f (sp + (j - dp)) else g j
section IAS
variable {σ σ1 : Sto} {p q n m j v : Nat} {f g : Nat → Nat}
theorem IA.cg (h : IA σ p n f) (hc : cel σ1 p = cel σ p) : IA σ1 p n f := hc.trans h
theorem IA.rd (h : IA σ p n f) (hj : j < n) (hn : n ≤ 2 ^ 31) : iald σ p (nI j) = some (nI (f j)) := iald_cel h hj hn
theorem IA.wr (h : IA σ p n f) (hj : j < n) (hn : n ≤ 2 ^ 31) : ∃ s, iast σ p (nI j) (nI v) = some s ∧ IA s p n (upN f j v) ∧ Fr p 1 σ s := by
  refine ⟨_, iast_cel h hj hn, ?_, Fr.st h (Nat.le_refl _) (by omega)⟩
  unfold IA
  rw [cel_stc_s h, upd_nI]
theorem IA.cp (h : IA σ p n f) (hg : IA σ q m g) {sp dp k : Nat} (h1 : sp + k ≤ n) (h2 : dp + k ≤ m) (hn : n < 2 ^ 31) (hm : m < 2 ^ 31) : ∃ s, acp σ p (nI sp) q (nI dp) (nI k) = some s ∧ IA s q m (cpN f g sp dp k) ∧ Fr q 1 σ s := by
  refine ⟨stc σ q (.inr (0, (m, .inl (fun j => nI (cpN f g sp dp k j))))), ?_, cel_stc_s hg, Fr.st hg (Nat.le_refl _) (by omega)⟩
  unfold acp
  rw [gA_cel h]
  show (aI (gA σ q 0)).bind _ = _
  rw [gA_cel hg]
  show (if _ then _ else _) = _
  dsimp only
  rw [nI_clamp (by omega), nI_clamp (by omega), nI_clamp (by omega), if_neg (by
    intro h3
    rcases h3 with h3 | h3 | h3 | h3 | h3
    · exact nI_pos (by omega) h3
    · exact nI_pos (by omega) h3
    · exact nI_pos (by omega) h3
    · omega
    · omega)]
  have : va_cpy (fun j => nI (f j)) (fun j => nI (g j)) sp dp k = fun j => nI (cpN f g sp dp k j) := by
    funext j
    unfold cpN
    by_cases hj : dp ≤ j ∧ j < dp + k
    · rw [pk_cpy_in hj.1 hj.2, if_pos hj]
    · rw [pk_cpy_out (by omega), if_neg hj]
  rw [this]
  rfl
end IAS
/-! heights, as both sides reckon them -/
/-- the height of f, from heights of lower ones: the loop over e < n -/
def hg1 (b : Nat → Bool) (h : Nat → Nat) : Nat → Nat
  | 0 => 1
  | n + 1 => if b n && decide (hg1 b h n ≤ h n) then h n + 1 else hg1 b h n
def hgs (A : Nat → Nat → Bool) : Nat → (Nat → Nat)
  | 0 => fun _ => 0
  | n + 1 => up (hgs A n) n (hg1 (A n) (hgs A n) n)
def hgt (A : Nat → Nat → Bool) (e : Nat) : Nat := hgs A (e + 1) e
theorem hg1_cg {b b' : Nat → Bool} {h h' : Nat → Nat} : ∀ {n : Nat}, (∀ i, i < n → b i = b' i ∧ h i = h' i) → hg1 b h n = hg1 b' h' n
  | 0, _ => rfl
  | n + 1, hh => by
    show (if b n && decide (hg1 b h n ≤ h n) then h n + 1 else hg1 b h n) = if b' n && decide (hg1 b' h' n ≤ h' n) then h' n + 1 else hg1 b' h' n
    rw [hg1_cg (fun i hi => hh i (by omega)), (hh n (by omega)).1, (hh n (by omega)).2]
theorem hgs_lt (A : Nat → Nat → Bool) {e n : Nat} (h : e < n) : hgs A n e = hgt A e := by
  induction n with
  | zero => omega
  | succ n ih =>
    by_cases he : e = n
    · subst he; rfl
    · show up (hgs A n) n _ e = _
      rw [up_n _ _ he]; exact ih (by omega)
theorem hgs_cg {A B : Nat → Nat → Bool} : ∀ {n : Nat}, (∀ e, e < n → ∀ i, i < e → A e i = B e i) → hgs A n = hgs B n
  | 0, _ => rfl
  | n + 1, h => by
    show up (hgs A n) n _ = up (hgs B n) n _
    rw [hgs_cg (fun e he => h e (by omega)), hg1_cg (fun i hi => ⟨h n (by omega) i hi, rfl⟩)]
theorem hgt_cg {A B : Nat → Nat → Bool} {e : Nat} (h : ∀ f, f ≤ e → ∀ i, i < f → A f i = B f i) : hgt A e = hgt B e := by
  unfold hgt
  rw [hgs_cg (fun f hf => h f (by omega))]
theorem hgt_eq (A : Nat → Nat → Bool) (e : Nat) : hgt A e = hg1 (A e) (hgt A) e := by
  show up (hgs A e) e _ e = _
  rw [up_s]
  exact hg1_cg (fun i hi => ⟨rfl, hgs_lt A hi⟩)
theorem hg1_le {b : Nat → Bool} {h : Nat → Nat} {m : Nat} : ∀ {n : Nat}, (∀ i, i < n → h i ≤ m) → hg1 b h n ≤ m + 1
  | 0, _ => by show 1 ≤ m + 1; omega
  | n + 1, hh => by
    show (if (b n && decide (hg1 b h n ≤ h n)) = true then h n + 1 else hg1 b h n) ≤ m + 1
    have h1 := hh n (by omega)
    have h2 := hg1_le (b := b) (n := n) (fun i hi => hh i (by omega))
    split <;> omega
theorem hgt_le (A : Nat → Nat → Bool) : ∀ e, hgt A e ≤ e + 1 := by
  intro e
  induction e using Nat.strongRecOn with
  | ind e ih =>
    rw [hgt_eq]
    cases e with
    | zero => show 1 ≤ 1; omega
    | succ e => exact hg1_le (fun i hi => Nat.le_trans (ih i hi) (by omega))
/-! events -/
def alen (k : Nat) : Nat := if k = 1 then 5 else 120
theorem alen_le (k : Nat) : alen k ≤ 2 ^ 31 := by unfold alen; split <;> decide
theorem alen_lt (k : Nat) : alen k < 2 ^ 31 := by unfold alen; split <;> decide
def eO2 (p c : Nat) : List Value := [.int (nI c), .ref (p + 1), .ref (p + 2), .ref (p + 3), .ref (p + 4), .ref (p + 5), .ref (p + 6), .ref (p + 7), .ref (p + 8)]
/-- the events' block, 129 cells from p on: c of them, clocks K -/
def EE (σ : Sto) (p c : Nat) (K : Nat → Nat) (v : Ev) : Prop := ∃ A : Nat → Nat → Nat, cel σ p = some (.inl (2, eO2 p c)) ∧ (∀ k, 0 < k → k < 8 → IA σ (p + k) (alen k) (A k)) ∧ cel σ (p + 8) = some (.inr (3, (120, .inr (.inr (.inr (.inr (fun e => if e < 120 then some (p + 9 + e) else none))))))) ∧ (∀ e, e < 120 → ∃ f, ES σ (p + 9 + e) f ∧ (e < c → f = eA v e)) ∧ (∀ x, x < 5 → A 1 x = K x) ∧ ∀ e, e < c → A 2 e = eS v e ∧ A 3 e = eT v e ∧ A 4 e = eM v e ∧ A 5 e = eN v e ∧ A 6 e = eP v e ∧ A 7 e = hgt (eA v) e
/-- bounds of events -/
def Bv (v : Ev) (c : Nat) : Prop := c ≤ 120 ∧ ∀ e, e < c → eS v e < 5 ∧ eT v e ≤ 120 ∧ eM v e < 120
theorem Jv.bv {w : Wd} (i : Jv w) : Bv (wE w) (wC w 2) := ⟨i.c, fun e he => i.2.2.1 e he⟩
section EES
variable {σ σ1 : Sto} {q c e o : Nat} {K : Nat → Nat} {v : Ev}
theorem EE.cg (h : EE σ q c K v) (hc : ∀ i, q ≤ i → i < q + 129 → cel σ1 i = cel σ i) : EE σ1 q c K v := by
  obtain ⟨A, h1, h2, h3, h4, h5⟩ := h
  refine ⟨A, (hc q (by omega) (by omega)).trans h1, fun k hk1 hk2 => (h2 k hk1 hk2).cg (hc _ (by omega) (by omega)), (hc _ (by omega) (by omega)).trans h3, fun e he => ?_, h5⟩
  obtain ⟨f, h6, h7⟩ := h4 e he
  exact ⟨f, h6.cg (hc _ (by omega) (by omega)), h7⟩
theorem EE.fr {p n : Nat} (h : EE σ q c K v) (hF : Fr p n σ σ1) (hd : p + n ≤ q ∨ q + 129 ≤ p) : EE σ1 q c K v := h.cg (fun i h1 h2 => hF.at (by omega))
theorem EE.ok (h : EE σ q c K v) : (gO σ q 2).isSome = true := by
  obtain ⟨A, h1, -⟩ := h
  exact gOs_cel h1
theorem EE.g0 (h : EE σ q c K v) : gI σ q 2 0 = some (nI c) := by
  obtain ⟨A, h1, -⟩ := h
  exact gI_cel h1 rfl
theorem EE.g1 (h : EE σ q c K v) : gR σ q 2 1 = some (q + 1) := by
  obtain ⟨A, h1, -⟩ := h
  exact gR_cel h1 rfl
theorem EE.g2 (h : EE σ q c K v) : gR σ q 2 2 = some (q + 2) := by
  obtain ⟨A, h1, -⟩ := h
  exact gR_cel h1 rfl
theorem EE.g3 (h : EE σ q c K v) : gR σ q 2 3 = some (q + 3) := by
  obtain ⟨A, h1, -⟩ := h
  exact gR_cel h1 rfl
theorem EE.g4 (h : EE σ q c K v) : gR σ q 2 4 = some (q + 4) := by
  obtain ⟨A, h1, -⟩ := h
  exact gR_cel h1 rfl
theorem EE.g5 (h : EE σ q c K v) : gR σ q 2 5 = some (q + 5) := by
  obtain ⟨A, h1, -⟩ := h
  exact gR_cel h1 rfl
theorem EE.g6 (h : EE σ q c K v) : gR σ q 2 6 = some (q + 6) := by
  obtain ⟨A, h1, -⟩ := h
  exact gR_cel h1 rfl
theorem EE.g7 (h : EE σ q c K v) : gR σ q 2 7 = some (q + 7) := by
  obtain ⟨A, h1, -⟩ := h
  exact gR_cel h1 rfl
theorem EE.g8 (h : EE σ q c K v) : gR σ q 2 8 = some (q + 8) := by
  obtain ⟨A, h1, -⟩ := h
  exact gR_cel h1 rfl
theorem EE.rk (h : EE σ q c K v) {x : Nat} (hx : x < 5) : iald σ (q + 1) (nI x) = some (nI (K x)) := by
  obtain ⟨A, h1, h2, h3, h4, h5, h6⟩ := h
  rw [(h2 1 (by omega) (by omega)).rd (show x < alen 1 from hx) (alen_le 1), h5 x hx]
theorem EE.rS (h : EE σ q c K v) (b : Bv v c) (he : e < c) : iald σ (q + 2) (nI e) = some (nI (eS v e)) := by
  obtain ⟨A, h1, h2, h3, h4, h5, h6⟩ := h
  have := b.1
  rw [(h2 2 (by omega) (by omega)).rd (show e < alen 2 by show e < 120; omega) (alen_le 2), (h6 e he).1]
theorem EE.rT (h : EE σ q c K v) (b : Bv v c) (he : e < c) : iald σ (q + 3) (nI e) = some (nI (eT v e)) := by
  obtain ⟨A, h1, h2, h3, h4, h5, h6⟩ := h
  have := b.1
  rw [(h2 3 (by omega) (by omega)).rd (show e < alen 3 by show e < 120; omega) (alen_le 3), (h6 e he).2.1]
theorem EE.rM (h : EE σ q c K v) (b : Bv v c) (he : e < c) : iald σ (q + 4) (nI e) = some (nI (eM v e)) := by
  obtain ⟨A, h1, h2, h3, h4, h5, h6⟩ := h
  have := b.1
  rw [(h2 4 (by omega) (by omega)).rd (show e < alen 4 by show e < 120; omega) (alen_le 4), (h6 e he).2.2.1]
theorem EE.rN (h : EE σ q c K v) (b : Bv v c) (he : e < c) : iald σ (q + 5) (nI e) = some (nI (eN v e)) := by
  obtain ⟨A, h1, h2, h3, h4, h5, h6⟩ := h
  have := b.1
  rw [(h2 5 (by omega) (by omega)).rd (show e < alen 5 by show e < 120; omega) (alen_le 5), (h6 e he).2.2.2.1]
theorem EE.rP (h : EE σ q c K v) (b : Bv v c) (he : e < c) : iald σ (q + 6) (nI e) = some (nI (eP v e)) := by
  obtain ⟨A, h1, h2, h3, h4, h5, h6⟩ := h
  have := b.1
  rw [(h2 6 (by omega) (by omega)).rd (show e < alen 6 by show e < 120; omega) (alen_le 6), (h6 e he).2.2.2.2.1]
theorem EE.rH (h : EE σ q c K v) (b : Bv v c) (he : e < c) : iald σ (q + 7) (nI e) = some (nI (hgt (eA v) e)) := by
  obtain ⟨A, h1, h2, h3, h4, h5, h6⟩ := h
  have := b.1
  rw [(h2 7 (by omega) (by omega)).rd (show e < alen 7 by show e < 120; omega) (alen_le 7), (h6 e he).2.2.2.2.2]
theorem EE.rB (h : EE σ q c K v) (he : e < 120) : aaldR σ (q + 8) 3 (nI e) = some (q + 9 + e) := by
  obtain ⟨A, h1, h2, h3, h4, h5, h6⟩ := h
  exact aaldR_cel h3 he (by decide) (if_pos he)
theorem EE.es (h : EE σ q c K v) (b : Bv v c) (he : e < c) : ES σ (q + 9 + e) (eA v e) := by
  obtain ⟨A, h1, h2, h3, h4, h5, h6⟩ := h
  have := b.1
  obtain ⟨f, h7, h8⟩ := h4 e (by omega)
  rw [← h8 he]; exact h7
theorem C_contains (h : EE σ q c K v) (b : Bv v c) (x : Int32) : F_X2_contains σ q x = some (nI (b2 (inR x c))) := by
  have := b.1
  unfold F_X2_contains
  rw [chk_eq h.ok]
  by_cases h1 : x < 0
  · rw [if_pos h1]
    have : inR x c = false := by
      unfold inR
      refine decide_eq_false (fun h2 => ?_)
      exact absurd h1 (Int32.not_lt.mpr h2.1)
    rw [this]; rfl
  · rw [if_neg h1, h.g0, bind_some']
    obtain ⟨j, hj, rfl⟩ := nI_of h1
    by_cases h2 : c ≤ j
    · rw [if_pos (nI_le h2 hj)]
      have : inR (nI j) c = false := by
        unfold inR
        refine decide_eq_false (fun h3 => ?_)
        have := (nI_ltI hj (by omega)).mp h3.2
        omega
      rw [this]; rfl
    · rw [if_neg (by rw [nI_leI (by omega) hj]; exact h2), inR_nI (by omega) (by omega), decide_eq_true (by omega)]; rfl
theorem C_isFull (h : EE σ q c K v) (b : Bv v c) : F_X2_isFull σ q = some (nI (b2 (decide (120 ≤ c)))) := by
  have := b.1
  unfold F_X2_isFull
  rw [chk_eq h.ok, h.g0, bind_some', l_120, l_0, l_1, ifB', ← ndec]
  congr 4
  exact decide_eq_decide.mpr (nI_ltI (by omega) (by omega))
theorem C_isOut (h : EE σ q c K v) (b : Bv v c) (he : e < c) : F_X2_isOut σ q (nI e) = some (nI (b2 (eO v e))) := by
  have h1 := b.1
  have h2 := (b.2 e he).2.2
  unfold F_X2_isOut
  rw [chk_eq h.ok, h.g4, bind_some', h.rM b he, bind_some']
  unfold eO
  by_cases h3 : eM v e = e
  · rw [h3, if_pos rfl]; simp [b2]; rfl
  · rw [if_neg (by rw [nI_eq (by omega) (by omega)]; exact h3)]; simp [b2, h3]; rfl
theorem C_isAhead (h : EE σ q c K v) (b : Bv v c) (ho : o < c) (he : e < 128) : F_X2_isAhead σ q (nI e) (nI o) = some (nI (b2 (eA v o e))) := by
  have h1 := b.1
  unfold F_X2_isAhead
  rw [chk_eq h.ok, h.g8, bind_some', h.rB (by omega), bind_some', X_holds (h.es b ho) he, bind_some', l_0, l_1, ifz]
end EES
/-! sites -/
def sO6 (p n : Nat) : List Value := [.ref (p + 1), .ref (p + 2), .ref (p + 3), .int (nI n), .ref (p + 4), .ref (p + 5), .ref (p + 6)]
/-- a site's block, 7 cells from p on -/
def SI (σ : Sto) (p : Nat) (s : St) : Prop := ∃ lf tf hf bf : Nat → Nat, cel σ p = some (.inl (6, sO6 p (sLg s).length)) ∧ ES σ (p + 1) (sVw s) ∧ ES σ (p + 2) (sHs s) ∧ IA σ (p + 3) 120 lf ∧ IA σ (p + 4) 25 tf ∧ IA σ (p + 5) 120 hf ∧ IA σ (p + 6) 120 bf ∧ (∀ i x, (sLg s)[i]? = some x → lf i = x) ∧ (∀ i, i < 25 → tf i = sTb s i) ∧ (∀ e, e < 120 → sHs s e = true → hf e = sWh s e ∧ bf e = sBy s e) ∧ (sLg s).length ≤ 120
section SIS
variable {σ σ1 : Sto} {p q c e o x : Nat} {K : Nat → Nat} {v : Ev} {s : St}
theorem SI.cg (h : SI σ p s) (hc : ∀ i, p ≤ i → i < p + 7 → cel σ1 i = cel σ i) : SI σ1 p s := by
  obtain ⟨lf, tf, hf, bf, h1, h2, h3, h4, h5, h6, h7, h8⟩ := h
  exact ⟨lf, tf, hf, bf, (hc p (by omega) (by omega)).trans h1, h2.cg (hc _ (by omega) (by omega)), h3.cg (hc _ (by omega) (by omega)), h4.cg (hc _ (by omega) (by omega)), h5.cg (hc _ (by omega) (by omega)), h6.cg (hc _ (by omega) (by omega)), h7.cg (hc _ (by omega) (by omega)), h8⟩
theorem SI.fr {p1 n : Nat} (h : SI σ p s) (hF : Fr p1 n σ σ1) (hd : p1 + n ≤ p ∨ p + 7 ≤ p1) : SI σ1 p s := h.cg (fun i h1 h2 => hF.at (by omega))
theorem SI.ok (h : SI σ p s) : (gO σ p 6).isSome = true := by
  obtain ⟨lf, tf, hf, bf, h1, -⟩ := h
  exact gOs_cel h1
theorem SI.g0 (h : SI σ p s) : gR σ p 6 0 = some (p + 1) := by
  obtain ⟨lf, tf, hf, bf, h1, -⟩ := h
  exact gR_cel h1 rfl
theorem SI.g1 (h : SI σ p s) : gR σ p 6 1 = some (p + 2) := by
  obtain ⟨lf, tf, hf, bf, h1, -⟩ := h
  exact gR_cel h1 rfl
theorem SI.g2 (h : SI σ p s) : gR σ p 6 2 = some (p + 3) := by
  obtain ⟨lf, tf, hf, bf, h1, -⟩ := h
  exact gR_cel h1 rfl
theorem SI.g3 (h : SI σ p s) : gI σ p 6 3 = some (nI (sLg s).length) := by
  obtain ⟨lf, tf, hf, bf, h1, -⟩ := h
  exact gI_cel h1 rfl
theorem SI.g4 (h : SI σ p s) : gR σ p 6 4 = some (p + 4) := by
  obtain ⟨lf, tf, hf, bf, h1, -⟩ := h
  exact gR_cel h1 rfl
theorem SI.g5 (h : SI σ p s) : gR σ p 6 5 = some (p + 5) := by
  obtain ⟨lf, tf, hf, bf, h1, -⟩ := h
  exact gR_cel h1 rfl
theorem SI.g6 (h : SI σ p s) : gR σ p 6 6 = some (p + 6) := by
  obtain ⟨lf, tf, hf, bf, h1, -⟩ := h
  exact gR_cel h1 rfl
theorem SI.vw (h : SI σ p s) : ES σ (p + 1) (sVw s) := by
  obtain ⟨lf, tf, hf, bf, h1, h2, -⟩ := h
  exact h2
theorem SI.hs (h : SI σ p s) : ES σ (p + 2) (sHs s) := by
  obtain ⟨lf, tf, hf, bf, h1, h2, h3, -⟩ := h
  exact h3
theorem SI.ll (h : SI σ p s) : (sLg s).length ≤ 120 := by
  obtain ⟨lf, tf, hf, bf, h1, h2, h3, h4, h5, h6, h7, h8, h9, h10, h11⟩ := h
  exact h11
theorem SI.rl (h : SI σ p s) {i : Nat} (hi : i < (sLg s).length) : iald σ (p + 3) (nI i) = some (nI (sLg s)[i]) := by
  have := h.ll
  obtain ⟨lf, tf, hf, bf, h1, h2, h3, h4, h5, h6, h7, h8, -⟩ := h
  rw [h4.rd (by omega) (by decide), h8 i _ (List.getElem?_eq_getElem hi)]
theorem SI.rt (h : SI σ p s) {i : Nat} (hi : i < 25) : iald σ (p + 4) (nI i) = some (nI (sTb s i)) := by
  obtain ⟨lf, tf, hf, bf, h1, h2, h3, h4, h5, h6, h7, h8, h9, -⟩ := h
  rw [h5.rd hi (by decide), h9 i hi]
theorem SI.rw (h : SI σ p s) (he : e < 120) (hh : sHs s e = true) : iald σ (p + 5) (nI e) = some (nI (sWh s e)) := by
  obtain ⟨lf, tf, hf, bf, h1, h2, h3, h4, h5, h6, h7, h8, h9, h10, h11⟩ := h
  rw [h6.rd he (by decide), (h10 e he hh).1]
theorem SI.rb (h : SI σ p s) (he : e < 120) (hh : sHs s e = true) : iald σ (p + 6) (nI e) = some (nI (sBy s e)) := by
  obtain ⟨lf, tf, hf, bf, h1, h2, h3, h4, h5, h6, h7, h8, h9, h10, h11⟩ := h
  rw [h7.rd he (by decide), (h10 e he hh).2]
theorem C_isKnown (h : SI σ p s) (g : EE σ q c K v) (b : Bv v c) (hj : ∀ i, i < 25 → sTb s i ≤ 120) (ho : o < 5) (he : e < c) : F_X6_isKnown σ p q (nI o) (nI e) = some (nI (b2 (knw v s o e))) := by
  have h1 := b.2 e he
  have h2 := hj (5 * o + eS v e) (by omega)
  unfold F_X6_isKnown
  rw [chk_eq h.ok, h.g4, bind_some', g.g2, bind_some', g.rS b he, bind_some', l_5, pk_mul, nI_add, Nat.mul_comm, h.rt (by omega), bind_some', g.g3, bind_some', g.rT b he, bind_some', l_0, l_1, ifB']
  congr 3
  unfold knw
  rw [← ndec]
  congr 1
  exact decide_eq_decide.mpr (nI_ltI (by omega) (by omega))
/-- the log's end -/
theorem C_appendToLog (h : SI σ p s) (hl : (sLg s).length < 120) : ∃ t, F_X6_appendToLog σ p (nI e) = some t ∧ SI t p (sLg' s (sLg s ++ [e])) ∧ Fr p 7 σ t := by
  obtain ⟨lf, tf, hf, bf, h1, h2, h3, h4, h5, h6, h7, h8, h9, h10, h11⟩ := id h
  obtain ⟨s1, e1, i1, f1⟩ := h4.wr (j := (sLg s).length) (v := e) (by omega) (by decide)
  have o1 : cel s1 p = some (.inl (6, sO6 p (sLg s).length)) := (f1.at (by omega)).trans h1
  have f2 : Fr p 7 σ (stc s1 p (.inl (6, sO6 p ((sLg s).length + 1)))) := (f1.mo (by omega) (by omega)).tr (Fr.st o1 (by omega) (by omega))
  have n2 : ∀ i, i ≠ p → i ≠ p + 3 → cel (stc s1 p (.inl (6, sO6 p ((sLg s).length + 1)))) i = cel σ i := fun i hi hi3 => by
    rw [cel_stc_n o1 hi]; exact f1.at (by omega)
  refine ⟨_, ?_, ⟨upN lf (sLg s).length e, tf, hf, bf, ?_, h2.cg (n2 _ (by omega) (by omega)), h3.cg (n2 _ (by omega) (by omega)), i1.cg (cel_stc_n o1 (by omega)), h5.cg (n2 _ (by omega) (by omega)), h6.cg (n2 _ (by omega) (by omega)), h7.cg (n2 _ (by omega) (by omega)), fun i x hx => ?_, h9, h10, ?_⟩, f2⟩
  · unfold F_X6_appendToLog
    rw [chk_eq h.ok, h.g3, bind_some', l_120, if_neg (by rw [nI_leI (by omega) (by omega)]; omega), h.g2, bind_some', bind_some', e1, bind_some', gI_cel o1 rfl, bind_some', l_1, nI_add, sV_cel o1 (Nat.le_of_ble_eq_true rfl)]
    rfl
  · rw [cel_stc_s o1]
    show _ = some (Sum.inl (6, sO6 p (sLg s ++ [e]).length))
    rw [List.length_append]; rfl
  · have hx' : (sLg s ++ [e])[i]? = some x := hx
    rw [List.getElem?_append] at hx'
    by_cases hi : i < (sLg s).length
    · rw [if_pos hi] at hx'
      rw [upN_n (by omega)]; exact h8 i x hx'
    · rw [if_neg hi] at hx'
      have h12 := (List.getElem?_eq_some_iff.mp hx').1
      have h13 : i = (sLg s).length := by simp at h12; omega
      subst h13
      rw [upN_s]
      simpa using hx'
  · show (sLg s ++ [e]).length ≤ 120
    rw [List.length_append]; show _ + 1 ≤ 120; omega
theorem C_gain (h : SI σ p s) {y : Nat} (he : e < 120) : ∃ t, F_X6_gain σ p (nI e) (nI x) (nI y) = some t ∧ SI t p (hwS s (gn (sHw s) e x y)) ∧ Fr p 7 σ t := by
  have hh := X_holds h.hs (show e < 128 by omega)
  unfold F_X6_gain
  rw [chk_eq h.ok, h.g1, bind_some', hh, bind_some', l_0, ifb]
  cases hb : sHs s e with
  | true =>
    have : hwS s (gn (sHw s) e x y) = s := by
      have h0 : (sHw s).1 e = true := hb
      unfold gn
      rw [if_pos h0]; rfl
    rw [this]
    exact ⟨σ, rfl, h, Fr.rf⟩
  | false =>
    obtain ⟨lf, tf, hf, bf, h1, h2, h3, h4, h5, h6, h7, h8, h9, h10, h11⟩ := id h
    have hg : gn (sHw s) e x y = (up (sHs s) e true, up (sWh s) e x, up (sBy s) e y) := by
      have h0 : (sHw s).1 e = false := hb
      unfold gn
      rw [h0]; rfl
    obtain ⟨s1, e1, i1, f1⟩ := X_insert h3 (show e < 128 by omega)
    have a1 : IA s1 (p + 5) 120 hf := h6.cg (f1.at (by omega))
    obtain ⟨s2, e2, i2, f2⟩ := a1.wr (j := e) (v := x) he (by decide)
    have a2 : IA s2 (p + 6) 120 bf := h7.cg ((f2.at (by omega)).trans (f1.at (by omega)))
    obtain ⟨s3, e3, i3, f3⟩ := a2.wr (j := e) (v := y) he (by decide)
    have o1 : cel s1 p = some (.inl (6, sO6 p (sLg s).length)) := (f1.at (by omega)).trans h1
    have o2 : cel s2 p = some (.inl (6, sO6 p (sLg s).length)) := (f2.at (by omega)).trans o1
    have n3 : ∀ i, i ≠ p + 2 → i ≠ p + 5 → i ≠ p + 6 → cel s3 i = cel σ i := fun i q1 q2 q3 => (f3.at (by omega)).trans ((f2.at (by omega)).trans (f1.at (by omega)))
    refine ⟨s3, ?_, ?_, (f1.mo (by omega) (by omega)).tr ((f2.mo (by omega) (by omega)).tr (f3.mo (by omega) (by omega)))⟩
    · rw [if_neg (by decide), bind_some', e1, bind_some', gR_cel o1 rfl, bind_some', e2, bind_some', gR_cel o2 rfl, bind_some', e3]; rfl
    · rw [hg]
      refine ⟨lf, tf, upN hf e x, upN bf e y, (n3 p (by omega) (by omega) (by omega)).trans h1, h2.cg (n3 _ (by omega) (by omega) (by omega)), i1.cg ((f3.at (by omega)).trans (f2.at (by omega))), h4.cg (n3 _ (by omega) (by omega) (by omega)), h5.cg (n3 _ (by omega) (by omega) (by omega)), i2.cg (f3.at (by omega)), i3, h8, h9, fun z hz hs => ?_, h11⟩
      have hs' : up (sHs s) e true z = true := hs
      show _ = up (sWh s) e x z ∧ _ = up (sBy s) e y z
      by_cases hze : z = e
      · subst hze
        rw [upN_s, upN_s, up_s, up_s]; exact ⟨rfl, rfl⟩
      · rw [upN_n hze, upN_n hze, up_n _ _ hze, up_n _ _ hze]
        rw [up_n _ _ hze] at hs'
        exact h10 z hz hs'
/-- the view changed -/
theorem C_setV (h : SI σ p s) {t : Sto} {f : Nat → Bool} (hE : ES t (p + 1) f) (hF : Fr (p + 1) 1 σ t) : SI t p (sVw' s f) ∧ Fr p 7 σ t := by
  obtain ⟨lf, tf, hf, bf, h1, h2, h3, h4, h5, h6, h7, h8⟩ := h
  exact ⟨⟨lf, tf, hf, bf, (hF.at (by omega)).trans h1, hE, h3.cg (hF.at (by omega)), h4.cg (hF.at (by omega)), h5.cg (hF.at (by omega)), h6.cg (hF.at (by omega)), h7.cg (hF.at (by omega)), h8⟩, hF.mo (by omega) (by omega)⟩
/-- a cell of the table -/
theorem C_tset (h : SI σ p s) {i : Nat} (x : Nat) (hi : i < 25) : ∃ t, iast σ (p + 4) (nI i) (nI x) = some t ∧ SI t p (sTb' s (up (sTb s) i x)) ∧ Fr p 7 σ t := by
  obtain ⟨lf, tf, hf, bf, h1, h2, h3, h4, h5, h6, h7, h8, h9, h10, h11⟩ := h
  obtain ⟨s1, e1, i1, f1⟩ := h5.wr (j := i) (v := x) hi (by decide)
  refine ⟨s1, e1, ⟨lf, upN tf i x, hf, bf, (f1.at (by omega)).trans h1, h2.cg (f1.at (by omega)), h3.cg (f1.at (by omega)), h4.cg (f1.at (by omega)), i1, h6.cg (f1.at (by omega)), h7.cg (f1.at (by omega)), h8, fun k hk => ?_, h10, h11⟩, f1.mo (by omega) (by omega)⟩
  show upN tf i x k = up (sTb s) i x k
  by_cases hki : k = i
  · subst hki; rw [upN_s, up_s]
  · rw [upN_n hki, up_n _ _ hki]; exact h9 k hk
theorem SI.tbc (h : SI σ p s) {t : Nat → Nat} (ht : ∀ i, i < 25 → t i = sTb s i) : SI σ p (sTb' s t) := by
  obtain ⟨lf, tf, hf, bf, h1, h2, h3, h4, h5, h6, h7, h8, h9, h10⟩ := h
  exact ⟨lf, tf, hf, bf, h1, h2, h3, h4, h5, h6, h7, h8, fun i hi => (h9 i hi).trans (ht i hi).symm, h10⟩
end SIS
