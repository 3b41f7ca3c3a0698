/-! ===== PURE 23: the class's letters; what a site does ===== -/
def lO3 (p f o m n : Nat) : List Value := [.int (nI f), .int (nI o), .int (nI m), .int (nI n), .ref (p + 2), .ref (p + 1), .ref (p + 3)]
/-- a letter's block, 4 cells from p on -/
def LE (σ : Sto) (p f o : Nat) (l : Lt) : Prop := ∃ ef tf : Nat → Nat, cel σ p = some (.inl (3, lO3 p f o (lMd l) (lEv l).length)) ∧ IA σ (p + 2) 120 ef ∧ ES σ (p + 1) (fun e => (lEv l).contains e) ∧ IA σ (p + 3) 25 tf ∧ (∀ i x, (lEv l)[i]? = some x → ef i = x) ∧ (∀ i, i < 25 → tf i = lTb l i) ∧ (lEv l).length ≤ 120
section LES
variable {σ σ1 : Sto} {p f o : Nat} {l : Lt}
theorem LE.cg (h : LE σ p f o l) (hc : ∀ i, p ≤ i → i < p + 4 → cel σ1 i = cel σ i) : LE σ1 p f o l := by
  obtain ⟨ef, tf, h1, h2, h3, h4, h5⟩ := h
  exact ⟨ef, tf, (hc p (by omega) (by omega)).trans h1, h2.cg (hc _ (by omega) (by omega)), h3.cg (hc _ (by omega) (by omega)), h4.cg (hc _ (by omega) (by omega)), h5⟩
theorem LE.fr {p1 n : Nat} (h : LE σ p f o l) (hF : Fr p1 n σ σ1) (hd : p1 + n ≤ p ∨ p + 4 ≤ p1) : LE σ1 p f o l := h.cg (fun i h1 h2 => hF.at (by omega))
theorem LE.ok (h : LE σ p f o l) : (gO σ p 3).isSome = true := by
  obtain ⟨ef, tf, h1, -⟩ := h
  exact gOs_cel h1
theorem LE.g0 (h : LE σ p f o l) : gI σ p 3 0 = some (nI f) := by
  obtain ⟨ef, tf, h1, -⟩ := h
  exact gI_cel h1 rfl
theorem LE.g1 (h : LE σ p f o l) : gI σ p 3 1 = some (nI o) := by
  obtain ⟨ef, tf, h1, -⟩ := h
  exact gI_cel h1 rfl
theorem LE.g2 (h : LE σ p f o l) : gI σ p 3 2 = some (nI (lMd l)) := by
  obtain ⟨ef, tf, h1, -⟩ := h
  exact gI_cel h1 rfl
theorem LE.g3 (h : LE σ p f o l) : gI σ p 3 3 = some (nI (lEv l).length) := by
  obtain ⟨ef, tf, h1, -⟩ := h
  exact gI_cel h1 rfl
theorem LE.g4 (h : LE σ p f o l) : gR σ p 3 4 = some (p + 2) := by
  obtain ⟨ef, tf, h1, -⟩ := h
  exact gR_cel h1 rfl
theorem LE.g5 (h : LE σ p f o l) : gR σ p 3 5 = some (p + 1) := by
  obtain ⟨ef, tf, h1, -⟩ := h
  exact gR_cel h1 rfl
theorem LE.g6 (h : LE σ p f o l) : gR σ p 3 6 = some (p + 3) := by
  obtain ⟨ef, tf, h1, -⟩ := h
  exact gR_cel h1 rfl
theorem LE.ll (h : LE σ p f o l) : (lEv l).length ≤ 120 := by
  obtain ⟨ef, tf, h1, h2, h3, h4, h5, h6, h7⟩ := h
  exact h7
theorem LE.re (h : LE σ p f o l) {i : Nat} (hi : i < (lEv l).length) : iald σ (p + 2) (nI i) = some (nI (lEv l)[i]) := by
  have := h.ll
  obtain ⟨ef, tf, h1, h2, h3, h4, h5, -⟩ := h
  rw [h2.rd (by omega) (by decide), h5 i _ (List.getElem?_eq_getElem hi)]
theorem LE.es (h : LE σ p f o l) : ES σ (p + 1) (fun e => (lEv l).contains e) := by
  obtain ⟨ef, tf, h1, h2, h3, -⟩ := h
  exact h3
theorem LE.rt (h : LE σ p f o l) {i : Nat} (hi : i < 25) : iald σ (p + 3) (nI i) = some (nI (lTb l i)) := by
  obtain ⟨ef, tf, h1, h2, h3, h4, h5, h6, h7⟩ := h
  rw [h4.rd hi (by decide), h6 i hi]
end LES
section SIT
variable {σ : Sto} {p q r c e o x y : Nat} {K : Nat → Nat} {v : Ev} {s : St} {l : Lt}
/-- a site changed by each of a list -/
theorem SI.each {ρ : Type} (L : Nat → Nat → Sto → ρ) (K : Sto → ρ) (g : St → Nat → St) (Q : List Nat) (i0 : Nat) (P : Nat → St → Prop) (hq : i0 + Q.length < fu)
    (hs : ∀ j f t st (hj : j < Q.length), P j st → SI t p st → Fr p 7 σ t → ∃ t', P (j + 1) (g st Q[j]) ∧ SI t' p (g st Q[j]) ∧ Fr p 7 t t' ∧ L (f + 1) (i0 + j) t = L f (i0 + j + 1) t')
    (he : ∀ f t st, P Q.length st → SI t p st → Fr p 7 σ t → L (f + 1) (i0 + Q.length) t = K t) (h0 : P 0 s) (h : SI σ p s) : ∃ t, L fu i0 σ = K t ∧ P Q.length (Q.foldl g s) ∧ SI t p (Q.foldl g s) ∧ Fr p 7 σ t := by
  obtain ⟨t, ⟨h1, h2, h4⟩, h3⟩ := lpS (fun f j t => L f (i0 + j) t) K (fun j t => P j ((Q.take j).foldl g s) ∧ SI t p ((Q.take j).foldl g s) ∧ Fr p 7 σ t) Q.length (by
    intro j f t hj hI
    obtain ⟨t', h1, h2, h3, h4⟩ := hs j f t _ hj hI.1 hI.2.1 hI.2.2
    refine ⟨t', ?_, h4⟩
    rw [tk_fold _ _ hj]
    exact ⟨h1, h2, hI.2.2.tr h3⟩) (by
    intro f t hI
    exact he f t _ hI.1 hI.2.1 hI.2.2) fu σ (by omega) (by rw [List.take_zero]; exact ⟨h0, h, Fr.rf⟩)
  rw [List.take_length] at h1 h2
  exact ⟨t, h3, h1, h2, h4⟩
theorem C_raise (h : SI σ p s) (hj : ∀ i, i < 25 → sTb s i ≤ 120) {row a : Nat} (hr : row < 5) (ha : a < 5) (hx : x ≤ 120) : ∃ t, F_X6_raise σ p (nI row) (nI a) (nI x) = some t ∧ SI t p (sTb' s (rOne (sTb s) (5 * row + a) x)) ∧ Fr p 7 σ t := by
  have hb := hj (5 * row + a) (by omega)
  unfold F_X6_raise
  rw [chk_eq h.ok, h.g4, bind_some', bind_some', l_5, pk_mul, nI_add, Nat.mul_comm, h.rt (by omega), bind_some', bind_some', h.rt (by omega), bind_some']
  by_cases hle : x ≤ sTb s (5 * row + a)
  · obtain ⟨t, e1, i1, f1⟩ := C_tset h (i := 5 * row + a) (sTb s (5 * row + a)) (by omega)
    rw [if_pos (nI_le hle (by omega)), e1]
    refine ⟨t, rfl, ?_, f1⟩
    have : rOne (sTb s) (5 * row + a) x = up (sTb s) (5 * row + a) (sTb s (5 * row + a)) := by
      unfold rOne; rw [Nat.max_eq_left hle]
    rw [this]; exact i1
  · obtain ⟨t, e1, i1, f1⟩ := C_tset h (i := 5 * row + a) x (by omega)
    rw [if_neg (by rw [nI_leI (by omega) (by omega)]; exact hle), e1]
    refine ⟨t, rfl, ?_, f1⟩
    have : rOne (sTb s) (5 * row + a) x = up (sTb s) (5 * row + a) x := by
      unfold rOne; rw [Nat.max_eq_right (by omega)]
    rw [this]; exact i1
theorem C_raiseRow (h : SI σ p s) (hj : ∀ i, i < 25 → sTb s i ≤ 120) {row : Nat} {u : Nat → Nat} (hr : row < 5) (hy : y < 5) (hu : ∀ i, i < 25 → u i ≤ 120) (hA : ∀ t, Fr p 7 σ t → ∀ i, i < 25 → iald t q (nI i) = some (nI (u i))) : ∃ t, F_X6_raiseRow σ p (nI row) q (nI y) = some t ∧ SI t p (sTb' s (rRow (sTb s) row u y)) ∧ Fr p 7 σ t := by
  unfold F_X6_raiseRow
  rw [chk_eq h.ok, l_0]
  obtain ⟨t, ⟨h1, h2⟩, h3⟩ := lpS (fun f j t => F_X6_raiseRow_L3 p (nI row) q (nI y) f (nI j) t (fun s9 => some s9)) (fun t => some t) (fun j t => SI t p (sTb' s (rRowN j (sTb s) row u y)) ∧ Fr p 7 σ t) 5 (by
    intro j f t hj5 ⟨hS, hF⟩
    have hle := rRowN_le (n := j) (row := row) (fun i hi => hj i hi) hu hy
    have hb : rRowN j (sTb s) row u y (5 * row + j) ≤ 120 := hle _ (by omega)
    have hub := hu (5 * y + j) (by omega)
    have hst : sTb (sTb' s (rRowN j (sTb s) row u y)) = rRowN j (sTb s) row u y := rfl
    have hrt := hS.rt (i := 5 * row + j) (by omega)
    rw [hst] at hrt
    have fin : ∀ x, x = max (rRowN j (sTb s) row u y (5 * row + j)) (u (5 * y + j)) → sTb' (sTb' s (rRowN j (sTb s) row u y)) (up (sTb (sTb' s (rRowN j (sTb s) row u y))) (5 * row + j) x) = sTb' s (rRowN (j + 1) (sTb s) row u y) := by
      intro x hx
      rw [← rRowN_s j _ _ _ _ (by omega), hx]
      rfl
    by_cases hc : u (5 * y + j) ≤ rRowN j (sTb s) row u y (5 * row + j)
    · obtain ⟨t2, e1, i1, f1⟩ := C_tset hS (i := 5 * row + j) (rRowN j (sTb s) row u y (5 * row + j)) (by omega)
      refine ⟨t2, ⟨?_, hF.tr f1⟩, ?_⟩
      · rw [fin _ (by omega)] at i1; exact i1
      · rw [F_X6_raiseRow_L3, l_5, if_neg (by rw [nI_leI (by omega) (by omega)]; omega), pk_mul, nI_add, Nat.mul_comm y, hA t hF _ (by omega), bind_some', hS.g4, bind_some', bind_some', pk_mul, nI_add, Nat.mul_comm row, hrt, bind_some', if_pos (nI_le hc (by omega)), bind_some', hrt, bind_some', e1, bind_some', l_1, nI_add]
    · obtain ⟨t2, e1, i1, f1⟩ := C_tset hS (i := 5 * row + j) (u (5 * y + j)) (by omega)
      refine ⟨t2, ⟨?_, hF.tr f1⟩, ?_⟩
      · rw [fin _ (by omega)] at i1; exact i1
      · rw [F_X6_raiseRow_L3, l_5, if_neg (by rw [nI_leI (by omega) (by omega)]; omega), pk_mul, nI_add, Nat.mul_comm y, hA t hF _ (by omega), bind_some', hS.g4, bind_some', bind_some', pk_mul, nI_add, Nat.mul_comm row, hrt, bind_some', if_neg (by rw [nI_leI (by omega) (by omega)]; exact hc), e1, bind_some', l_1, nI_add]) (by
    intro f t _
    rw [F_X6_raiseRow_L3, l_5, if_pos (nI_le (Nat.le_refl _) (by omega))]) fu σ (by unfold fu; omega) ⟨by rw [rRowN_0]; exact h, Fr.rf⟩
  refine ⟨t, h3, ?_, h2⟩
  have : rRowN 5 (sTb s) row u y = rRow (sTb s) row u y := by
    funext i
    unfold rRowN rRow
    by_cases hi : i / 5 = row
    · rw [if_pos ⟨hi, by omega⟩, if_pos hi]
    · rw [if_neg (fun z => hi z.1), if_neg hi]
  rw [this] at h1
  exact h1
theorem rRow_le {t : Nat → Nat} {row : Nat} {u : Nat → Nat} {y c : Nat} (ht : ∀ i, i < 25 → t i ≤ c) (hu : ∀ i, i < 25 → u i ≤ c) (hy : y < 5) : ∀ i, i < 25 → rRow t row u y i ≤ c := by
  intro i hi
  have h1 := ht i hi
  have h2 := hu (5 * y + i % 5) (by omega)
  unfold rRow
  split <;> omega
theorem C_learn (h : SI σ p s) (g : EE σ q c K v) (b : Bv v c) (hl : LE σ r x o l) (hj : ∀ i, i < 25 → sTb s i ≤ 120) (hu : ∀ i, i < 25 → lTb l i ≤ 120) (hle : ∀ e ∈ lEv l, e < c) (hm : lMd l < 3) (hx : x < 5) (ho : o < 5) (hpq : p + 7 ≤ q ∨ q + 129 ≤ p) (hpr : p + 7 ≤ r ∨ r + 4 ≤ p) : ∃ t, F_X6_learn σ p r q = some t ∧ SI t p (sTb' s (lrn v l x o (sTb s))) ∧ Fr p 7 σ t := by
  have hll := hl.ll
  have hc := b.1
  unfold F_X6_learn
  rw [chk_eq h.ok, hl.g2, bind_some', l_2]
  by_cases h2 : lMd l = 2
  · rw [if_pos (by rw [h2]), l_0]
    obtain ⟨t, e1, p1, i1, f1⟩ := SI.each (p := p) (σ := σ) (fun f j t => F_X6_learn_L10 p r q f (nI j) t (fun s29 => some s29)) (fun t => some t) (fun st e => sTb' st (lrn2 v x o (sTb st) e)) (lEv l) 0 (fun _ st => ∀ i, i < 25 → sTb st i ≤ 120) (by unfold fu; omega) (by
      intro j f t st hjn hP hS hF
      have hec := hle _ (List.getElem_mem hjn)
      have hbe := b.2 _ hec
      have g1 := g.fr hF (by omega)
      have l1 := hl.fr hF (by omega)
      obtain ⟨t1, e1, i1, f1⟩ := C_raise hS hP (row := o) (a := eS v (lEv l)[j]) ho hbe.1 hbe.2.1
      have hP1 : ∀ i, i < 25 → sTb (sTb' st (rOne (sTb st) (5 * o + eS v (lEv l)[j]) (eT v (lEv l)[j]))) i ≤ 120 := rOne_le hP hbe.2.1
      obtain ⟨t2, e2, i2, f2⟩ := C_raise i1 hP1 (row := x) (a := eS v (lEv l)[j]) hx hbe.1 hbe.2.1
      have g2 := g1.fr f1 (by omega)
      have l2 := l1.fr f1 (by omega)
      refine ⟨t2, rOne_le (rOne_le hP hbe.2.1) hbe.2.1, i2, f1.tr f2, ?_⟩
      rw [Nat.zero_add, F_X6_learn_L10]
      simp (disch := omega) only [l_0, l_1, l_2, l_3, l_4, l_5, l_6, l_7, l_8, l_9, l_10, l_12, l_25, l_29, l_33, l_34, l_120, l_122, l_147, l_154, l_274, l_394, l_395, l_789, l_3953, l_5153, l_5178, l_49278, l_49279, l_49280, bind_some', jn_eq, nI_add, pk_mul, nI_leI, nI_ltI, nI_eq, ifb, ifz, R_flag0, R_flag1, R_flag, if_true, if_false, l1.g3, if_neg, l1.g4, l1.re hjn, l1.g1, g1.g2, g1.rS b hec, g1.g3, g1.rT b hec, e1, l2.g0, g2.g2, g2.rS b hec, g2.g3, g2.rT b hec, e2]) (by
      intro f t st _ _ hF
      rw [Nat.zero_add, F_X6_learn_L10, (hl.fr hF (by omega)).g3, bind_some', if_pos (nI_le (Nat.le_refl _) (by omega))]) hj h
    refine ⟨t, e1, ?_, f1⟩
    have k : ∀ (Q : List Nat) (st : St), Q.foldl (fun st e => sTb' st (lrn2 v x o (sTb st) e)) st = sTb' st (Q.foldl (lrn2 v x o) (sTb st)) := by
      intro Q; induction Q with
      | nil => intro st; rfl
      | cons e Q ih => intro st; rw [List.foldl_cons, ih]; rfl
    rw [k] at i1
    unfold lrn
    rw [if_pos h2]
    exact i1
  · rw [if_neg (fun z => h2 ((nI_eq (by omega) (by omega)).mp z)), hl.g1, bind_some', hl.g6, bind_some', hl.g0, bind_some']
    have rd : ∀ t, Fr p 7 σ t → ∀ i, i < 25 → iald t (r + 3) (nI i) = some (nI (lTb l i)) := fun t hF i hi => (hl.fr hF (by omega)).rt hi
    obtain ⟨t1, e1, i1, f1⟩ := C_raiseRow h hj (row := o) (y := x) ho hx hu rd
    have l1 := hl.fr f1 (by omega)
    rw [e1, bind_some', l1.g2, bind_some', l_1]
    have hj1 : ∀ i, i < 25 → sTb (sTb' s (rRow (sTb s) o (lTb l) x)) i ≤ 120 := rRow_le hj hu hx
    by_cases h3 : lMd l = 1
    · rw [if_pos (by rw [h3]), l1.g0, bind_some', l1.g6, bind_some', bind_some']
      obtain ⟨t2, e2, i2, f2⟩ := C_raiseRow i1 hj1 (row := x) (y := x) hx hx hu (fun t hF i hi => rd t (f1.tr hF) i hi)
      rw [e2]
      refine ⟨t2, rfl, ?_, f1.tr f2⟩
      unfold lrn
      rw [if_neg h2, if_pos h3]
      exact i2
    · rw [if_neg (fun z => h3 ((nI_eq (by omega) (by omega)).mp z)), l_0]
      obtain ⟨t2, ⟨i2, f2⟩, e2⟩ := lpS (fun f j t => F_X6_learn_L120 p r f (nI j) t (fun s9 => some s9)) (fun t => some t) (fun j t => SI t p (sTb' s (fun i => if i / 5 < j then max (rRow (sTb s) o (lTb l) x i) (lTb l i) else rRow (sTb s) o (lTb l) x i)) ∧ Fr p 7 σ t) 5 (by
        intro j f t hj5 ⟨hS, hF⟩
        have hj2 : ∀ i, i < 25 → sTb (sTb' s (fun i => if i / 5 < j then max (rRow (sTb s) o (lTb l) x i) (lTb l i) else rRow (sTb s) o (lTb l) x i)) i ≤ 120 := by
          intro i hi
          have a1 := rRow_le (row := o) hj hu hx i hi
          have a2 := hu i hi
          rw [sTb_']
          split <;> omega
        have l2 := hl.fr hF (by omega)
        obtain ⟨t3, e3, i3, f3⟩ := C_raiseRow hS hj2 (row := j) (y := j) hj5 hj5 hu (fun t hF2 i hi => rd t (hF.tr hF2) i hi)
        refine ⟨t3, ⟨?_, hF.tr f3⟩, ?_⟩
        · have : rRow (sTb (sTb' s (fun i => if i / 5 < j then max (rRow (sTb s) o (lTb l) x i) (lTb l i) else rRow (sTb s) o (lTb l) x i))) j (lTb l) j = (fun i => if i / 5 < j + 1 then max (rRow (sTb s) o (lTb l) x i) (lTb l i) else rRow (sTb s) o (lTb l) x i) := by
            funext i
            rw [sTb_']
            unfold rRow
            dsimp only
            by_cases hi : i / 5 = j
            · rw [if_pos hi, if_neg (show ¬ i / 5 < j by omega), if_pos (show i / 5 < j + 1 by omega), show 5 * j + i % 5 = i by omega]
            · rw [if_neg hi]
              by_cases hi2 : i / 5 < j
              · rw [if_pos hi2, if_pos (show i / 5 < j + 1 by omega)]
              · rw [if_neg hi2, if_neg (show ¬ i / 5 < j + 1 by omega)]
          rw [this] at i3
          exact i3
        · rw [F_X6_learn_L120]
          simp (disch := omega) only [l_0, l_1, l_2, l_3, l_4, l_5, l_6, l_7, l_8, l_9, l_10, l_12, l_25, l_29, l_33, l_34, l_120, l_122, l_147, l_154, l_274, l_394, l_395, l_789, l_3953, l_5153, l_5178, l_49278, l_49279, l_49280, bind_some', jn_eq, nI_add, pk_mul, nI_leI, nI_ltI, nI_eq, ifb, ifz, R_flag0, R_flag1, R_flag, if_true, if_false, if_neg, l2.g6, e3]) (by
        intro f t _
        rw [F_X6_learn_L120, l_5, if_pos (nI_le (Nat.le_refl _) (by omega))]) fu t1 (by unfold fu; omega) ⟨by
          have : (fun i => if i / 5 < 0 then max (rRow (sTb s) o (lTb l) x i) (lTb l i) else rRow (sTb s) o (lTb l) x i) = rRow (sTb s) o (lTb l) x := by
            funext i; rw [if_neg (by omega)]
          rw [this]; exact i1, f1⟩
      refine ⟨t2, e2, ?_, f2⟩
      have i2' : SI t2 p (sTb' s (lrn v l x o (sTb s))) := by
        refine (i2.tbc (t := lrn v l x o (sTb s)) (fun i hi => ?_))
        unfold lrn
        rw [if_neg h2, if_neg h3, sTb_', if_pos (by omega)]
      exact i2'
theorem C_isKnownToAll {n : Nat} (h : SI σ p s) (g : EE σ q c K v) (b : Bv v c) (hj : ∀ i, i < 25 → sTb s i ≤ 120) (hn : n ≤ 5) (he : e < c) : F_X6_isKnownToAll σ p q (nI e) (nI n) = some (nI (b2 (knA v n s e))) := by
  have h1 := b.2 e he
  unfold F_X6_isKnownToAll
  rw [chk_eq h.ok, g.g2, bind_some', g.rS b he, bind_some']
  refine (lall (fun f k => F_X6_isKnownToAll_L8 σ p q (nI e) (nI n) f (nI (eS v e + 5 * k)) (some 1)) (fun k => knw v s k e) n (some 0) (some 1) ?_ ?_ fu (by unfold fu; omega)).trans ?_
  · intro k f hk
    have h2 := hj (5 * k + eS v e) (by omega)
    have h3 := h.rt (i := eS v e + 5 * k) (by omega)
    rw [show sTb s (eS v e + 5 * k) = sTb s (5 * k + eS v e) by rw [Nat.add_comm]] at h3
    rw [F_X6_isKnownToAll_L8, l_5, pk_mul, if_neg (by rw [nI_leI (by omega) (by omega)]; omega), h.g4, bind_some', h3, bind_some', g.g3, bind_some', g.rT b he, bind_some', nI_add, show eS v e + 5 * k + 5 = eS v e + 5 * (k + 1) by omega]
    unfold knw
    by_cases h4 : eT v e ≤ sTb s (5 * k + eS v e)
    · rw [if_pos (nI_le h4 (by omega)), if_pos (by simpa using h4)]
    · rw [if_neg (by rw [nI_leI (by omega) (by omega)]; exact h4), if_neg (by simpa using h4)]
  · intro f
    rw [F_X6_isKnownToAll_L8, l_5, pk_mul, if_pos (nI_le (by omega) (by omega))]
  · rw [l_0, l_1, ifT]; rfl
theorem C_lset (h : SI σ p s) {i : Nat} (x : Nat) (hi : i < (sLg s).length) : ∃ t, iast σ (p + 3) (nI i) (nI x) = some t ∧ SI t p (sLg' s ((sLg s).set i x)) ∧ Fr p 7 σ t := by
  obtain ⟨lf, tf, hf, bf, h1, h2, h3, h4, h5, h6, h7, h8, h9, h10, h11⟩ := h
  obtain ⟨s1, e1, i1, f1⟩ := h4.wr (j := i) (v := x) (by omega) (by decide)
  refine ⟨s1, e1, ⟨upN lf i x, tf, hf, bf, ?_, h2.cg (f1.at (by omega)), h3.cg (f1.at (by omega)), i1, h5.cg (f1.at (by omega)), h6.cg (f1.at (by omega)), h7.cg (f1.at (by omega)), fun k z hz => ?_, h9, h10, ?_⟩, f1.mo (by omega) (by omega)⟩
  · rw [f1.at (by omega), h1]
    show _ = some (Sum.inl (6, sO6 p ((sLg s).set i x).length))
    rw [List.length_set]
  · have hz' : ((sLg s).set i x)[k]? = some z := hz
    by_cases hki : k = i
    · subst hki
      rw [List.getElem?_set_self hi] at hz'
      rw [upN_s]; exact Option.some.inj hz'
    · rw [List.getElem?_set_ne (Ne.symm hki)] at hz'
      rw [upN_n hki]; exact h8 k z hz'
  · show ((sLg s).set i x).length ≤ 120
    rw [List.length_set]; exact h11
theorem C_lcut (h : SI σ p s) {k : Nat} (hk : k ≤ (sLg s).length) : ∃ t, sV σ p 6 3 (.int (nI k)) = some t ∧ SI t p (sLg' s ((sLg s).take k)) ∧ Fr p 7 σ t := by
  obtain ⟨lf, tf, hf, bf, h1, h2, h3, h4, h5, h6, h7, h8, h9, h10, h11⟩ := h
  refine ⟨_, sV_cel h1 (Nat.le_of_ble_eq_true rfl), ⟨lf, tf, hf, bf, ?_, h2.cg (cel_stc_n h1 (by omega)), h3.cg (cel_stc_n h1 (by omega)), h4.cg (cel_stc_n h1 (by omega)), h5.cg (cel_stc_n h1 (by omega)), h6.cg (cel_stc_n h1 (by omega)), h7.cg (cel_stc_n h1 (by omega)), fun i z hz => ?_, h9, h10, ?_⟩, Fr.st h1 (by omega) (by omega)⟩
  · rw [cel_stc_s h1]
    show _ = some (Sum.inl (6, sO6 p ((sLg s).take k).length))
    rw [List.length_take, Nat.min_eq_left hk]
    rfl
  · have hz' : ((sLg s).take k)[i]? = some z := hz
    rw [List.getElem?_take] at hz'
    by_cases hi : i < k
    · rw [if_pos hi] at hz'; exact h8 i z hz'
    · rw [if_neg hi] at hz'; cases hz'
  · show ((sLg s).take k).length ≤ 120
    rw [List.length_take]; omega
theorem C_drop {n : Nat} (h : SI σ p s) (g : EE σ q c K v) (b : Bv v c) (hj : Js c s) (hn : n ≤ 5) (hpq : p + 7 ≤ q ∨ q + 129 ≤ p) : ∃ t, F_X6_dropKnownToAll σ p q (nI n) = some t ∧ SI t p (sLg' s ((sLg s).filter (fun e => !knA v n s e))) ∧ Fr p 7 σ t := by
  have hlg := hj.lg
  have hc := b.1
  unfold F_X6_dropKnownToAll
  rw [chk_eq h.ok, l_0]
  obtain ⟨z, ⟨hz1, hS, hF⟩, hE⟩ := lpS (fun f j (z : Nat × Sto) => F_X6_dropKnownToAll_L5 p q (nI n) f (nI z.1) (nI j) z.2 (fun x9 s10 => (sV s10 p 6 3 (.int x9)).bind fun s11 => some s11)) (fun z => (sV z.2 p 6 3 (.int (nI z.1))).bind fun s11 => some s11) (fun j z => z.1 = ((sLg s).take j |>.filter (fun e => !knA v n s e)).length ∧ SI z.2 p (sLg' s (sift (fun e => !knA v n s e) (sLg s) j)) ∧ Fr p 7 σ z.2) (sLg s).length (by
    intro j f z hjn ⟨hz1, hS, hF⟩
    have g1 := g.fr hF (by omega)
    have hn1 := hS.g3
    rw [show sLg (sLg' s (sift (fun e => !knA v n s e) (sLg s) j)) = sift (fun e => !knA v n s e) (sLg s) j from rfl, sift_len _ _ _ (by omega)] at hn1
    have hec := hj.lm (List.getElem_mem hjn)
    have hrl : iald z.2 (p + 3) (nI j) = some (nI (sLg s)[j]) := by
      have hsl : j < (sLg (sLg' s (sift (fun e => !knA v n s e) (sLg s) j))).length := by
        show j < (sift _ (sLg s) j).length
        rw [sift_len _ _ _ (by omega)]; exact hjn
      rw [hS.rl hsl]
      have h11 : (sLg (sLg' s (sift (fun e => !knA v n s e) (sLg s) j)))[j]? = (sLg s)[j]? := sift_get (fun e => !knA v n s e) (sLg s) j hjn
      rw [List.getElem?_eq_getElem hsl, List.getElem?_eq_getElem hjn] at h11
      rw [Option.some.inj h11]
    have hk := C_isKnownToAll hS g1 b (fun i hi => hj.tb hi) hn hec
    rw [show knA v n (sLg' s (sift (fun e => !knA v n s e) (sLg s) j)) (sLg s)[j] = knA v n s (sLg s)[j] from rfl] at hk
    have hfl := filt_len (fun e => !knA v n s e) (sLg s) j
    by_cases hp : knA v n s (sLg s)[j] = true
    · refine ⟨z, ⟨?_, ?_, hF⟩, ?_⟩
      · rw [tk_filt _ hjn, if_neg (by rw [hp]; decide), List.append_nil]; exact hz1
      · rw [sift_n _ _ _ hjn (by rw [hp]; decide)]; exact hS
      · rw [F_X6_dropKnownToAll_L5]
        simp (disch := omega) only [l_0, l_1, l_2, l_3, l_4, l_5, l_6, l_7, l_8, l_9, l_10, l_12, l_25, l_29, l_33, l_34, l_120, l_122, l_147, l_154, l_274, l_394, l_395, l_789, l_3953, l_5153, l_5178, l_49278, l_49279, l_49280, bind_some', jn_eq, nI_add, pk_mul, nI_leI, nI_ltI, nI_eq, ifb, ifz, R_flag0, R_flag1, R_flag, if_true, if_false, hn1, if_neg, hS.g2, hrl, hk, hp]
    · have hp2 : knA v n s (sLg s)[j] = false := by simpa using hp
      obtain ⟨t3, e3, i3, f3⟩ := C_lset hS (i := z.1) (sLg s)[j] (by
        show z.1 < (sift _ (sLg s) j).length
        rw [sift_len _ _ _ (by omega)]; omega)
      refine ⟨(z.1 + 1, t3), ⟨?_, ?_, hF.tr f3⟩, ?_⟩
      · rw [tk_filt _ hjn, if_pos (by rw [hp2]; rfl), List.length_append, ← hz1]; rfl
      · have e1 : (sift (fun e => !knA v n s e) (sLg s) j).set z.1 (sLg s)[j] = sift (fun e => !knA v n s e) (sLg s) (j + 1) := by
          rw [hz1]; exact sift_s _ _ _ hjn (by rw [hp2]; rfl)
        rw [← e1]; exact i3
      · rw [F_X6_dropKnownToAll_L5]
        simp (disch := omega) only [l_0, l_1, l_2, l_3, l_4, l_5, l_6, l_7, l_8, l_9, l_10, l_12, l_25, l_29, l_33, l_34, l_120, l_122, l_147, l_154, l_274, l_394, l_395, l_789, l_3953, l_5153, l_5178, l_49278, l_49279, l_49280, bind_some', jn_eq, nI_add, pk_mul, nI_leI, nI_ltI, nI_eq, ifb, ifz, R_flag0, R_flag1, R_flag, if_true, if_false, hn1, if_neg, hS.g2, hrl, hk, hp2, e3]
        rfl) (by
    intro f z ⟨hz1, hS, hF⟩
    have hn1 := hS.g3
    rw [show sLg (sLg' s (sift (fun e => !knA v n s e) (sLg s) (sLg s).length)) = sift (fun e => !knA v n s e) (sLg s) (sLg s).length from rfl, sift_len _ _ _ (Nat.le_refl _)] at hn1
    rw [F_X6_dropKnownToAll_L5, hn1, bind_some', if_pos (nI_le (Nat.le_refl _) (by omega))]) fu (0, σ) (by unfold fu; omega) ⟨rfl, by
      have e0 : sift (fun e => !knA v n s e) (sLg s) 0 = sLg s := by unfold sift; simp
      rw [e0]; exact h, Fr.rf⟩
  rw [hE]
  rw [List.take_length] at hz1
  have hfl : ((sLg s).filter (fun e => !knA v n s e)).length ≤ (sLg s).length := List.length_filter_le ..
  obtain ⟨t, e3, i3, f3⟩ := C_lcut hS (k := z.1) (by
    show z.1 ≤ (sift _ (sLg s) _).length
    rw [sift_len _ _ _ (Nat.le_refl _)]; omega)
  refine ⟨t, by rw [e3]; rfl, ?_, hF.tr f3⟩
  have e1 : (sift (fun e => !knA v n s e) (sLg s) (sLg s).length).take z.1 = (sLg s).filter (fun e => !knA v n s e) := by
    unfold sift
    rw [List.take_length, hz1, List.take_append_of_le_length (Nat.le_refl _), List.take_length]
  rw [← e1]; exact i3
end SIT
