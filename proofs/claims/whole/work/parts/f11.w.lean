/-! ===== PURE 31: the class's letters come and go ===== -/
/-- how many slots are empty -/
def nz (sl : Nat → Nat → Option Nat) : Nat := fb_ct (fun j => (sl (j / 12) (j % 12)).isNone) 300
/-- from σ to t: O grows to O'; nothing else has changed; each new letter fills an empty slot -/
def Gw (O : Nat → Prop) (σ : Sto) (z : Nat) (O' : Nat → Prop) (t : Sto) (z' : Nat) : Prop := (∀ i, O i → O' i) ∧ (∀ i, O' i → O i ∨ (σ.1.length ≤ i ∧ i < t.1.length)) ∧ (∀ i, i < σ.1.length → ¬ O i → cel t i = cel σ i) ∧ z' ≤ z ∧ t.1.length + 4 * z' = σ.1.length + 4 * z ∧ t.2 + 154 * z' = σ.2 + 154 * z
section GW
variable {O O1 O2 : Nat → Prop} {σ t u : Sto} {z z1 z2 : Nat}
theorem Gw.rf : Gw O σ z O σ z := ⟨fun _ h => h, fun _ h => Or.inl h, fun _ _ _ => rfl, Nat.le_refl _, rfl, rfl⟩
theorem Gw.tr (h : Gw O σ z O1 t z1) (h2 : Gw O1 t z1 O2 u z2) : Gw O σ z O2 u z2 := by
  obtain ⟨a1, a2, a3, a4, a5, a6⟩ := h
  obtain ⟨b1, b2', b3, b4, b5, b6⟩ := h2
  have hl : σ.1.length ≤ t.1.length := by omega
  refine ⟨fun i hi => b1 i (a1 i hi), fun i hi => ?_, fun i hi hO => ?_, by omega, by omega, by omega⟩
  · rcases b2' i hi with h | h
    · rcases a2 i h with h | h
      · exact Or.inl h
      · exact Or.inr (by omega)
    · exact Or.inr (by omega)
  · rw [b3 i (by omega) (fun h => by
      rcases a2 i h with h | h
      · exact hO h
      · omega)]
    exact a3 i hi hO
theorem Gw.fr {b n : Nat} (hF : Fr b n σ t) (hO : ∀ i, b ≤ i → i < b + n → O i) : Gw O σ z O t z := by
  obtain ⟨h1, h2, h3⟩ := hF
  refine ⟨fun _ h => h, fun _ h => Or.inl h, fun i _ hi => h3 i ?_, Nat.le_refl _, by omega, by omega⟩
  refine Classical.byContradiction fun hx => hi (hO i (by omega) (by omega))
theorem Gw.len (h : Gw O σ z O1 t z1) : σ.1.length ≤ t.1.length := by
  obtain ⟨a1, a2, a3, a4, a5, a6⟩ := h
  omega
theorem Gw.sub (h : Gw O σ z O1 t z1) (hs : ∀ i, O i → i < σ.1.length) : ∀ i, O1 i → i < t.1.length := fun i hi => by
  have := h.len
  rcases h.2.1 i hi with h2 | h2
  · have := hs i h2; omega
  · exact h2.2
end GW
section RAS
variable {σ : Sto} {p kd n j r : Nat} {f : Nat → Option Nat}
theorem RA.wr (h : RA σ p kd n f) (hj : j < n) (hn : n ≤ 2 ^ 31) (hr : (gO σ r (kcl kd)).isSome = true) : ∃ t, aast σ p kd (nI j) r = some t ∧ RA t p kd n (up f j (some r)) ∧ Fr p 1 σ t := by
  refine ⟨stc σ p (.inr (kd, (n, .inr (.inr (.inr (.inr (va_up f j (some r)))))))), ?_, ?_, Fr.st h (Nat.le_refl _) (by omega)⟩
  · unfold aast
    rw [gA_cel h]
    show (if _ then _ else _) = _
    dsimp only
    rw [if_neg (nI_bad hj hn), nI_clamp (by omega)]
    obtain ⟨v, hv⟩ := Option.isSome_iff_exists.mp hr
    rw [hv]
    rfl
  · unfold RA
    rw [cel_stc_s h]
    rfl
end RAS
theorem ia0 {σ : Sto} {p n : Nat} (h : cel σ p = some (.inr (0, (n, .inl (fun _ => 0))))) : IA σ p n (fun _ => 0) := by
  unfold IA
  rw [h]
  congr 4
theorem es0 {σ : Sto} {p : Nat} (h : cel σ p = some (.inl (1, dfl_1))) : ES σ p (fun _ => false) := ⟨0, 0, h, fun e _ => lb_0 e, fun e _ => lb_0 e⟩
/-- a letter is made -/
theorem C_newLetter (σ : Sto) : ∃ t, F_X3_init (apc (apc σ (.inl (3, dfl_3)) 7) (.inl (1, dfl_1)) 2) σ.1.length (apc σ (.inl (3, dfl_3)) 7).1.length = some t ∧ LE t σ.1.length 0 0 nol ∧ (∀ i, i < σ.1.length → cel t i = cel σ i) ∧ t.1.length = σ.1.length + 4 ∧ t.2 = σ.2 + 154 := by
  generalize hp : σ.1.length = p
  generalize hs0 : apc σ (.inl (3, dfl_3)) 7 = s0
  have l0 : s0.1.length = p + 1 := by rw [← hs0, len_apc, hp]
  have c0 : ∀ i, cel s0 i = if i = p then some (.inl (3, dfl_3)) else cel σ i := fun i => by rw [← hs0, cel_apc, hp]
  have z0 : s0.2 = σ.2 + 7 := by rw [← hs0]; rfl
  have o0 : cel s0 p = some (.inl (3, dfl_3)) := by rw [c0, if_pos rfl]
  rw [l0]
  generalize hs5 : apc s0 (.inl (1, dfl_1)) 2 = s5
  have l5 : s5.1.length = p + 2 := by rw [← hs5, len_apc, l0]
  have c5 : ∀ i, cel s5 i = if i = p + 1 then some (.inl (1, dfl_1)) else cel s0 i := fun i => by rw [← hs5, cel_apc, l0]
  have z5 : s5.2 = σ.2 + 7 + 2 := by rw [← hs5, ← z0]; rfl
  have o5 : cel s5 p = some (.inl (3, dfl_3)) := by rw [c5, if_neg (by omega), o0]
  generalize hs1 : apc s5 (.inr (0, (120, .inl (fun _ => 0)))) 120 = s1
  have l1 : s1.1.length = p + 3 := by rw [← hs1, len_apc, l5]
  have c1 : ∀ i, cel s1 i = if i = p + 2 then some (.inr (0, (120, .inl (fun _ => 0)))) else cel s5 i := fun i => by rw [← hs1, cel_apc, l5]
  have o1 : cel s1 p = some (.inl (3, dfl_3)) := by rw [c1, if_neg (by omega), o5]
  generalize hs3 : stc s1 p (.inl (3, [.int 0, .int 0, .int 0, .int 0, .ref (p + 2), .null, .null])) = s3
  have c3 : ∀ i, cel s3 i = if i = p then some (.inl (3, [.int 0, .int 0, .int 0, .int 0, .ref (p + 2), .null, .null])) else cel s1 i := fun i => by rw [← hs3, cel_stc (by omega)]
  have l3 : s3.1.length = p + 3 := by rw [← hs3, len_stc, l1]
  generalize hs7 : apc s3 (.inr (0, (25, .inl (fun _ => 0)))) 25 = s7
  have l7 : s7.1.length = p + 4 := by rw [← hs7, len_apc, l3]
  have c7 : ∀ i, cel s7 i = if i = p + 3 then some (.inr (0, (25, .inl (fun _ => 0)))) else cel s3 i := fun i => by rw [← hs7, cel_apc, l3]
  have o7 : cel s7 p = some (.inl (3, [.int 0, .int 0, .int 0, .int 0, .ref (p + 2), .null, .null])) := by rw [c7, if_neg (by omega), c3, if_pos rfl]
  generalize hs6 : stc s7 p (.inl (3, [.int 0, .int 0, .int 0, .int 0, .ref (p + 2), .null, .ref (p + 3)])) = s6
  have c6 : ∀ i, cel s6 i = if i = p then some (.inl (3, [.int 0, .int 0, .int 0, .int 0, .ref (p + 2), .null, .ref (p + 3)])) else cel s7 i := fun i => by rw [← hs6, cel_stc (by omega)]
  have l6 : s6.1.length = p + 4 := by rw [← hs6, len_stc, l7]
  have o6 : cel s6 p = some (.inl (3, [.int 0, .int 0, .int 0, .int 0, .ref (p + 2), .null, .ref (p + 3)])) := by rw [c6, if_pos rfl]
  generalize hs9 : stc s6 p (.inl (3, lO3 p 0 0 0 0)) = s9
  have c9 : ∀ i, cel s9 i = if i = p then some (.inl (3, lO3 p 0 0 0 0)) else cel s6 i := fun i => by rw [← hs9, cel_stc (by omega)]
  refine ⟨s9, ?_, ⟨fun _ => 0, fun _ => 0, ?_, ia0 ?_, ?_, ia0 ?_, fun i x hx => ?_, fun _ _ => rfl, ?_⟩, fun i hi => ?_, ?_, ?_⟩
  · unfold F_X3_init nw_
    rw [show ((120 : Int32).toNatClampNeg) = 120 from rfl, show ((25 : Int32).toNatClampNeg) = 25 from rfl]
    show (sV (apc s5 (.inr (0, (120, .inl (fun _ => 0)))) 120) p 3 4 (.ref s5.1.length)).bind _ = _
    rw [hs1, l5, sV_cel o1 (Nat.le_of_ble_eq_true rfl), bind_some', show dfl_3.set 4 (.ref (p + 2)) = [.int 0, .int 0, .int 0, .int 0, .ref (p + 2), .null, .null] from rfl, hs3]
    show (sV (apc s3 (.inr (0, (25, .inl (fun _ => 0)))) 25) p 3 6 (.ref s3.1.length)).bind _ = _
    rw [hs7, l3, sV_cel o7 (Nat.le_of_ble_eq_true rfl), bind_some', show ([.int 0, .int 0, .int 0, .int 0, .ref (p + 2), .null, .null] : List Value).set 6 (.ref (p + 3)) = [.int 0, .int 0, .int 0, .int 0, .ref (p + 2), .null, .ref (p + 3)] from rfl, hs6]
    rw [sV_cel o6 (Nat.le_of_ble_eq_true rfl), bind_some', show ([.int 0, .int 0, .int 0, .int 0, .ref (p + 2), .null, .ref (p + 3)] : List Value).set 5 (.ref (p + 1)) = lO3 p 0 0 0 0 from rfl, hs9]
  · rw [c9, if_pos rfl]; rfl
  · rw [c9, if_neg (by omega), c6, if_neg (by omega), c7, if_neg (by omega), c3, if_neg (by omega), c1, if_pos rfl]
  · exact es0 (by rw [c9, if_neg (by omega), c6, if_neg (by omega), c7, if_neg (by omega), c3, if_neg (by omega), c1, if_neg (by omega), c5, if_pos rfl])
  · rw [c9, if_neg (by omega), c6, if_neg (by omega), c7, if_pos rfl]
  · have hx' : ([] : List Nat)[i]? = some x := hx
    simp at hx'
  · show ([] : List Nat).length ≤ 120
    decide
  · rw [c9, if_neg (by omega), c6, if_neg (by omega), c7, if_neg (by omega), c3, if_neg (by omega), c1, if_neg (by omega), c5, if_neg (by omega), c0, if_neg (by omega)]
  · rw [← hs9, len_stc, l6]
  · rw [← hs9, snd_stc, ← hs6, snd_stc, ← hs7]
    show s3.2 + 25 = _
    rw [← hs3, snd_stc, ← hs1]
    show s5.2 + 120 + 25 = _
    omega
section ROW
variable {R : (Nat → Nat) → Prop} {O : Nat → Prop} {σ : Sto} {b c : Nat} {w : Wd} {sl : Nat → Nat → Option Nat}
/-- a row takes one more letter: its place -/
theorem C_rowAppend (h : CM' R O σ b w sl) (hc : c < 25) (hn : (wT w c).length < 12) : ∃ (p : Nat) (t : Sto) (sl' : Nat → Nat → Option Nat), F_X4_append σ (b + 204 + 2 * c) = some (p, t) ∧ sl' c (wT w c).length = some p ∧ (∀ c' k', ¬ (c' = c ∧ k' = (wT w c).length) → sl' c' k' = sl c' k') ∧ cel t (b + 204 + 2 * c) = some (.inl (4, [.int (nI ((wT w c).length + 1)), .ref (b + 205 + 2 * c)])) ∧ RA t (b + 205 + 2 * c) 6 12 (sl' c) ∧ (∃ x0 o0 l0, LE t p x0 o0 l0) ∧ (∀ i, i < σ.1.length → i ≠ b + 204 + 2 * c → i ≠ b + 205 + 2 * c → cel t i = cel σ i) ∧ ((sl c (wT w c).length = some p ∧ t.1.length = σ.1.length ∧ t.2 = σ.2) ∨ (sl c (wT w c).length = none ∧ p = σ.1.length ∧ t.1.length = σ.1.length + 4 ∧ t.2 = σ.2 + 154)) := by
  have ho := h.1.ro hc
  have hs := h.1.rs hc
  have l1 : b + 204 + 2 * c < σ.1.length := cel_lt ho
  have l2 : b + 205 + 2 * c < σ.1.length := cel_lt hs
  have o1 : cel (stc σ (b + 204 + 2 * c) (.inl (4, [.int (nI ((wT w c).length + 1)), .ref (b + 205 + 2 * c)]))) (b + 204 + 2 * c) = some (.inl (4, [.int (nI ((wT w c).length + 1)), .ref (b + 205 + 2 * c)])) := cel_stc_s ho
  generalize hS : stc σ (b + 204 + 2 * c) (.inl (4, [.int (nI ((wT w c).length + 1)), .ref (b + 205 + 2 * c)])) = S at o1
  have n1 : ∀ i, i ≠ b + 204 + 2 * c → cel S i = cel σ i := fun i hi => by rw [← hS]; exact cel_stc_n ho hi
  have lS : S.1.length = σ.1.length := by rw [← hS, len_stc]
  have zS : S.2 = σ.2 := by rw [← hS]; rfl
  have hs1 : RA S (b + 205 + 2 * c) 6 12 (sl c) := (n1 _ (by omega)).trans hs
  have pre : ∀ r, F_X4_at S (b + 204 + 2 * c) (nI (wT w c).length) = some r → F_X4_append σ (b + 204 + 2 * c) = some r := by
    intro r hr
    unfold F_X4_append
    rw [chk_eq (gOs_cel ho), gI_cel ho rfl, bind_some', l_1, nI_add, sV_cel ho (Nat.le_of_ble_eq_true rfl), bind_some', show ([.int (nI (wT w c).length), .ref (b + 205 + 2 * c)] : List Value).set 0 (.int (nI ((wT w c).length + 1))) = [.int (nI ((wT w c).length + 1)), .ref (b + 205 + 2 * c)] from rfl]
    rw [hS, gI_cel o1 rfl, bind_some', pk_sub (by omega), Nat.add_sub_cancel, hr]
    rfl
  cases hq : sl c (wT w c).length with
  | some p =>
    refine ⟨p, S, sl, pre _ ?_, hq, fun _ _ _ => rfl, o1, hs1, ?_, fun i _ hi _ => n1 i hi, Or.inl ⟨rfl, lS, zS⟩⟩
    · unfold F_X4_at
      rw [chk_eq (gOs_cel o1), gR_cel o1 rfl, bind_some', aald_cel hs1 hn (by decide), bind_some', hq]
      rfl
    · obtain ⟨f, o, l, a⟩ := h.1.gb hc hn hq
      have := h.2.1 c _ p hc hn hq
      exact ⟨f, o, l, a.cg (fun i h1 h2 => n1 i (by omega))⟩
  | none =>
    obtain ⟨t, e1, L1, f1, l3, z3⟩ := C_newLetter S
    have o2 : cel t (b + 204 + 2 * c) = some (.inl (4, [.int (nI ((wT w c).length + 1)), .ref (b + 205 + 2 * c)])) := (f1 _ (by omega)).trans o1
    have s2 : RA t (b + 205 + 2 * c) 6 12 (sl c) := (f1 _ (by omega)).trans hs1
    obtain ⟨u, e2, s3, f2⟩ := s2.wr (j := (wT w c).length) (r := S.1.length) hn (by decide) L1.ok
    refine ⟨S.1.length, u, up sl c (up (sl c) (wT w c).length (some S.1.length)), pre _ ?_, by rw [up_s, up_s], fun c' k' hne => ?_, (f2.at (by omega)).trans o2, by rw [up_s]; exact s3, ⟨0, 0, nol, L1.fr f2 (by omega)⟩, fun i h1 h2 h3 => ?_, Or.inr ⟨rfl, lS, by rw [f2.2.1]; omega, by rw [f2.1]; omega⟩⟩
    · unfold F_X4_at nw_
      rw [chk_eq (gOs_cel o1), gR_cel o1 rfl, bind_some', aald_cel hs1 hn (by decide), bind_some', hq]
      show (F_X3_init (apc (apc S (.inl (3, dfl_3)) 7) (.inl (1, dfl_1)) 2) S.1.length (apc S (.inl (3, dfl_3)) 7).1.length).bind _ = _
      rw [e1, bind_some', gR_cel o2 rfl, bind_some', e2]
      rfl
    · by_cases hcc : c' = c
      · subst hcc
        rw [up_s, up_n _ _ (fun z => hne ⟨rfl, z⟩)]
      · rw [up_n _ _ hcc]
    · rw [f2.at (by omega), f1 i (by omega)]; exact n1 i h2
/-- the letter laid into its place: the world has it -/
theorem CM'.fill (h : CM' R O σ b w sl) (hs : ∀ i, O i → i < σ.1.length) (hc : c < 25) (hn : (wT w c).length < 12) {p : Nat} {t u : Sto} {sl' : Nat → Nat → Option Nat} {l : Lt} (h1 : sl' c (wT w c).length = some p) (h2 : ∀ c' k', ¬ (c' = c ∧ k' = (wT w c).length) → sl' c' k' = sl c' k') (h3 : cel t (b + 204 + 2 * c) = some (.inl (4, [.int (nI ((wT w c).length + 1)), .ref (b + 205 + 2 * c)]))) (h4 : RA t (b + 205 + 2 * c) 6 12 (sl' c)) (h6 : ∀ i, i < σ.1.length → i ≠ b + 204 + 2 * c → i ≠ b + 205 + 2 * c → cel t i = cel σ i) (h7 : (sl c (wT w c).length = some p ∧ t.1.length = σ.1.length ∧ t.2 = σ.2) ∨ (sl c (wT w c).length = none ∧ p = σ.1.length ∧ t.1.length = σ.1.length + 4 ∧ t.2 = σ.2 + 154)) (hL : LE u p (c / 5) (c % 5) l) (hF : Fr p 4 t u) :
    ∃ O', CM' R O' u b (wT' w (up (wT w) c (wT w c ++ [l]))) sl' ∧ Gw O σ (nz sl) O' u (nz sl') := by
  have hO := h.1.o1
  have hb254 : b + 254 ≤ σ.1.length := by have := hs _ (hO (b + 253) (by omega) (by omega)); omega
  -- the place is apart from the block, and from the other letters
  have hpb : p + 4 ≤ b ∨ b + 254 ≤ p := by
    rcases h7 with ⟨a1, -⟩ | ⟨-, a2, -⟩
    · exact h.2.1 c _ p hc hn a1
    · right; omega
  have hlen : σ.1.length ≤ u.1.length := by
    rw [hF.2.1]
    rcases h7 with ⟨-, a1, -⟩ | ⟨-, -, a1, -⟩ <;> omega
  have apart : ∀ c' k' p', c' < 25 → k' < 12 → ¬ (c' = c ∧ k' = (wT w c).length) → sl c' k' = some p' → p' + 4 ≤ p ∨ p + 4 ≤ p' := by
    intro c' k' p' hc' hk' hne hp'
    rcases h7 with ⟨a1, -⟩ | ⟨-, a2, -⟩
    · exact h.2.2 c' k' p' c _ p hc' hk' hc hn hp' a1 hne
    · left
      have := hs (p' + 3) (h.1.o3 c' k' p' hc' hk' hp' (p' + 3) (by omega) (by omega))
      omega
  have same : ∀ i, i < σ.1.length → i ≠ b + 204 + 2 * c → i ≠ b + 205 + 2 * c → (i < p ∨ p + 4 ≤ i) → cel u i = cel σ i := fun i a1 a2 a3 a4 => (hF.at a4).trans (h6 i a1 a2 a3)
  have sameB : ∀ i, b ≤ i → i < b + 254 → i ≠ b + 204 + 2 * c → i ≠ b + 205 + 2 * c → cel u i = cel σ i := fun i a1 a2 a3 a4 => same i (by omega) a3 a4 (by omega)
  obtain ⟨cf, c1, c2⟩ := h.1.2.2.2.2.2.1
  refine ⟨fun i => O i ∨ (σ.1.length ≤ i ∧ i < u.1.length), ⟨⟨(sameB b (by omega) (by omega) (by omega) (by omega)).trans h.1.1, h.1.ev.cg (fun i a1 a2 => sameB i (by omega) (by omega) (by omega) (by omega)), (sameB _ (by omega) (by omega) (by omega) (by omega)).trans h.1.2.2.1, (sameB _ (by omega) (by omega) (by omega) (by omega)).trans h.1.2.2.2.1, (sameB _ (by omega) (by omega) (by omega) (by omega)).trans h.1.2.2.2.2.1, ⟨cf, (sameB _ (by omega) (by omega) (by omega) (by omega)).trans c1, c2⟩, fun s hs5 => ⟨?_, (h.1.SS hs5).cg (fun i a1 a2 => sameB i (by omega) (by omega) (by omega) (by omega))⟩, fun c' hc' => ?_, fun c' k' p' hc' hk' hp' => ?_, fun c' k' l' hc' hl' => ?_, fun i a1 a2 => Or.inl (hO i a1 a2), fun s hs5 i a1 a2 => Or.inl (h.1.o2 s hs5 i a1 a2), fun c' k' p' hc' hk' hp' i a1 a2 => ?_⟩, ⟨fun c' k' p' hc' hk' hp' => ?_, fun c' k' p' c2 k2 p2 hc' hk' hc2 hk2 hp' hp2 hne => ?_⟩⟩, ⟨fun i hi => Or.inl hi, fun i hi => hi, fun i a1 a2 => ?_, ?_⟩⟩
  · have : Ls b s = b + 134 + 14 * s := rfl
    exact (h.1.SL hs5).cg (fun i a1 a2 => sameB i (by omega) (by omega) (by omega) (by omega))
  · show cel u _ = some (.inl (4, [.int (nI (up (wT w) c (wT w c ++ [l]) c').length), .ref _])) ∧ _
    by_cases hcc : c' = c
    · subst hcc
      rw [up_s, List.length_append]
      exact ⟨(hF.at (by omega)).trans h3, (hF.at (by omega)).trans h4⟩
    · rw [up_n _ _ hcc]
      refine ⟨(sameB _ (by omega) (by omega) (by omega) (by omega)).trans (h.1.ro hc'), ?_⟩
      have : sl' c' = sl c' := funext fun k => h2 c' k (fun z => hcc z.1)
      rw [this]
      exact (sameB _ (by omega) (by omega) (by omega) (by omega)).trans (h.1.rs hc')
  · by_cases hck : c' = c ∧ k' = (wT w c).length
    · rw [hck.1, hck.2, h1] at hp'
      cases hp'
      exact ⟨_, _, l, hL⟩
    · rw [h2 c' k' hck] at hp'
      obtain ⟨f, o, l', a⟩ := h.1.gb hc' hk' hp'
      have a5 := apart c' k' p' hc' hk' hck hp'
      have a6 := h.2.1 c' k' p' hc' hk' hp'
      have a7 := hs (p' + 3) (h.1.o3 c' k' p' hc' hk' hp' (p' + 3) (by omega) (by omega))
      exact ⟨f, o, l', a.cg (fun i b1 b2' => same i (by omega) (by omega) (by omega) (by omega))⟩
  · have hl2 : (up (wT w) c (wT w c ++ [l]) c')[k']? = some l' := hl'
    have old : ¬ (c' = c ∧ k' = (wT w c).length) → (wT w c')[k']? = some l' → k' < 12 ∧ ∃ p, sl' c' k' = some p ∧ LE u p (c' / 5) (c' % 5) l' := by
      intro hck hl3
      obtain ⟨hk', p', a1, a2⟩ := h.1.lt hc' hl3
      have a5 := apart c' k' p' hc' hk' hck a1
      have a6 := h.2.1 c' k' p' hc' hk' a1
      have a7 := hs (p' + 3) (h.1.o3 c' k' p' hc' hk' a1 (p' + 3) (by omega) (by omega))
      exact ⟨hk', p', (h2 c' k' hck).trans a1, a2.cg (fun i b1 b2' => same i (by omega) (by omega) (by omega) (by omega))⟩
    by_cases hcc : c' = c
    · subst hcc
      rw [up_s, List.getElem?_append] at hl2
      by_cases hk : k' < (wT w c').length
      · rw [if_pos hk] at hl2
        exact old (by omega) hl2
      · rw [if_neg hk] at hl2
        have h12 := (List.getElem?_eq_some_iff.mp hl2).1
        have h13 : k' = (wT w c').length := by simp at h12; omega
        subst h13
        rw [Nat.sub_self] at hl2
        have : l = l' := by simpa using hl2
        subst this
        exact ⟨hn, p, h1, hL⟩
    · rw [up_n _ _ hcc] at hl2
      exact old (fun z => hcc z.1) hl2
  · by_cases hck : c' = c ∧ k' = (wT w c).length
    · rw [hck.1, hck.2, h1] at hp'
      cases hp'
      rcases h7 with ⟨b1, -⟩ | ⟨-, b1, b3, -⟩
      · exact Or.inl (h.1.o3 c _ p hc hn b1 i a1 a2)
      · refine Or.inr ⟨by omega, ?_⟩
        rw [hF.2.1]; omega
    · rw [h2 c' k' hck] at hp'
      exact Or.inl (h.1.o3 c' k' p' hc' hk' hp' i a1 a2)
  · by_cases hck : c' = c ∧ k' = (wT w c).length
    · rw [hck.1, hck.2, h1] at hp'
      cases hp'
      exact hpb
    · rw [h2 c' k' hck] at hp'
      exact h.2.1 c' k' p' hc' hk' hp'
  · by_cases hck : c' = c ∧ k' = (wT w c).length
    · rw [hck.1, hck.2, h1] at hp'
      cases hp'
      have hck2 : ¬ (c2 = c ∧ k2 = (wT w c).length) := fun z => hne ⟨hck.1.trans z.1.symm, hck.2.trans z.2.symm⟩
      rw [h2 c2 k2 hck2] at hp2
      exact (apart c2 k2 p2 hc2 hk2 hck2 hp2).symm
    · rw [h2 c' k' hck] at hp'
      by_cases hck2 : c2 = c ∧ k2 = (wT w c).length
      · rw [hck2.1, hck2.2, h1] at hp2
        cases hp2
        exact apart c' k' p' hc' hk' hck hp'
      · rw [h2 c2 k2 hck2] at hp2
        exact h.2.2 c' k' p' c2 k2 p2 hc' hk' hc2 hk2 hp' hp2 hne
  · -- what is not the world's has not changed
    refine same i a1 (fun z => a2 (hO i (by omega) (by omega))) (fun z => a2 (hO i (by omega) (by omega))) ?_
    rcases h7 with ⟨b1, -⟩ | ⟨-, b1, -⟩
    · refine Classical.byContradiction fun hx => a2 (h.1.o3 c _ p hc hn b1 i (by omega) (by omega))
    · left; omega
  · -- the room
    have hj : 12 * c + (wT w c).length < 300 := by omega
    have hdiv : (12 * c + (wT w c).length) / 12 = c := by omega
    have hmod : (12 * c + (wT w c).length) % 12 = (wT w c).length := by omega
    have hupd : (fun j => (sl' (j / 12) (j % 12)).isNone) = (fun j => if j = 12 * c + (wT w c).length then false else (sl (j / 12) (j % 12)).isNone) := by
      funext j
      by_cases hjj : j = 12 * c + (wT w c).length
      · rw [if_pos hjj, hjj, hdiv, hmod, h1]; rfl
      · rw [if_neg hjj, h2 _ _ (by omega)]
    have hnz := fb_ct_upd (fun j => (sl (j / 12) (j % 12)).isNone) false (i := 12 * c + (wT w c).length) (n := 300) hj
    rw [← hupd] at hnz
    rw [hdiv, hmod] at hnz
    have hnz' : nz sl' + (if (sl c (wT w c).length).isNone = true then 1 else 0) = nz sl + 0 := hnz
    rw [hF.2.1, hF.1]
    rcases h7 with ⟨b1, b2', b3⟩ | ⟨b1, b2', b3, b4⟩
    · rw [b1] at hnz'
      have : (some p : Option Nat).isNone = false := rfl
      rw [this] at hnz'
      simp at hnz'
      omega
    · rw [b1] at hnz'
      have : (none : Option Nat).isNone = true := rfl
      rw [this] at hnz'
      simp at hnz'
      omega
end ROW
