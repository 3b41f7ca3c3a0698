/-! ===== PURE 28: the class's world ===== -/
def wO8 (b : Nat) (w : Wd) : List Value := [.int (nI (wC w 0)), .int (nI (wC w 1)), .int (nI (wC w 6)), .int (nI (wC w 3)), .int (nI (wC w 4)), .int (nI (wC w 5)), .ref (b + 1), .ref (b + 130), .ref (b + 131), .ref (b + 132), .ref (b + 133)]
def rfN (n : Nat) (g : Nat → Nat) : Nat → Option Nat := fun s => if s < n then some (g s) else none
def RA (σ : Sto) (p kd n : Nat) (f : Nat → Option Nat) : Prop := cel σ p = some (.inr (kd, (n, .inr (.inr (.inr (.inr f))))))
def ZA (σ : Sto) (p n : Nat) (f : Nat → Nat) : Prop := cel σ p = some (.inr (2, (n, .inl (fun j => nI (f j)))))
/-- the world's block, 254 cells from b on, live sites at L, letters by their slots; O holds all of its cells -/
def CW' (R : (Nat → Nat) → Prop) (O : Nat → Prop) (L : Nat → Nat) (σ : Sto) (b : Nat) (w : Wd) (sl : Nat → Nat → Option Nat) : Prop :=
  cel σ b = some (.inl (8, wO8 b w)) ∧ EE σ (b + 1) (wC w 2) (wK w) (wE w) ∧ RA σ (b + 130) 4 5 (rfN 5 L) ∧ RA σ (b + 131) 4 5 (rfN 5 (fun s => b + 141 + 14 * s)) ∧ RA σ (b + 132) 5 25 (rfN 25 (fun c => b + 204 + 2 * c)) ∧
  (∃ cf, ZA σ (b + 133) 25 cf ∧ R cf) ∧
  (∀ s, s < 5 → SI σ (L s) (wL w s) ∧ SI σ (b + 141 + 14 * s) (wS w s)) ∧
  (∀ c, c < 25 → cel σ (b + 204 + 2 * c) = some (.inl (4, [.int (nI (wT w c).length), .ref (b + 205 + 2 * c)])) ∧ RA σ (b + 205 + 2 * c) 6 12 (sl c)) ∧
  (∀ c k p, c < 25 → k < 12 → sl c k = some p → ∃ f o l, LE σ p f o l) ∧
  (∀ c k l, c < 25 → (wT w c)[k]? = some l → k < 12 ∧ ∃ p, sl c k = some p ∧ LE σ p (c / 5) (c % 5) l) ∧
  (∀ i, b ≤ i → i < b + 254 → O i) ∧ (∀ s, s < 5 → ∀ i, L s ≤ i → i < L s + 7 → O i) ∧ ∀ c k p, c < 25 → k < 12 → sl c k = some p → ∀ i, p ≤ i → i < p + 4 → O i
/-- the row of cut links is the world's -/
def RX (w : Wd) (cf : Nat → Nat) : Prop := ∀ f o, f < 5 → o < 5 → cf (5 * f + o) = b2 (wcut w f o)
abbrev CW (O : Nat → Prop) (L : Nat → Nat) (σ : Sto) (b : Nat) (w : Wd) (sl : Nat → Nat → Option Nat) : Prop := CW' (RX w) O L σ b w sl
section CWS
variable {R : (Nat → Nat) → Prop} {O : Nat → Prop} {L : Nat → Nat} {σ σ1 : Sto} {b : Nat} {w : Wd} {sl : Nat → Nat → Option Nat}
theorem CW'.cg (h : CW' R O L σ b w sl) (hc : ∀ i, O i → cel σ1 i = cel σ i) : CW' R O L σ1 b w sl := by
  obtain ⟨h1, h2, h3, h4, h5, ⟨cf, h6, h6'⟩, h7, h8, h9, h10, h11, h12, h13⟩ := h
  have hb : ∀ i, b ≤ i → i < b + 254 → cel σ1 i = cel σ i := fun i a1 a2 => hc i (h11 i a1 a2)
  refine ⟨(hb b (by omega) (by omega)).trans h1, h2.cg (fun i a1 a2 => hb i (by omega) (by omega)), (hb _ (by omega) (by omega)).trans h3, (hb _ (by omega) (by omega)).trans h4, (hb _ (by omega) (by omega)).trans h5, ⟨cf, (hb _ (by omega) (by omega)).trans h6, h6'⟩, fun s hs => ⟨(h7 s hs).1.cg (fun i a1 a2 => hc i (h12 s hs i a1 a2)), (h7 s hs).2.cg (fun i a1 a2 => hb i (by omega) (by omega))⟩, fun c hc2 => ⟨(hb _ (by omega) (by omega)).trans (h8 c hc2).1, (hb _ (by omega) (by omega)).trans (h8 c hc2).2⟩, fun c k p hc2 hk hp => ?_, fun c k l hc2 hl => ?_, h11, h12, h13⟩
  · obtain ⟨f, o, l, a1⟩ := h9 c k p hc2 hk hp
    exact ⟨f, o, l, a1.cg (fun i b1 b2' => hc i (h13 c k p hc2 hk hp i b1 b2'))⟩
  · obtain ⟨hk, p, a1, a2⟩ := h10 c k l hc2 hl
    exact ⟨hk, p, a1, a2.cg (fun i b1 b2' => hc i (h13 c k p hc2 hk a1 i b1 b2'))⟩
theorem CW'.ok (h : CW' R O L σ b w sl) : (gO σ b 8).isSome = true := gOs_cel h.1
theorem CW'.i0 (h : CW' R O L σ b w sl) : gI σ b 8 0 = some (nI (wC w 0)) := gI_cel h.1 rfl
theorem CW'.i1 (h : CW' R O L σ b w sl) : gI σ b 8 1 = some (nI (wC w 1)) := gI_cel h.1 rfl
theorem CW'.i2 (h : CW' R O L σ b w sl) : gI σ b 8 2 = some (nI (wC w 6)) := gI_cel h.1 rfl
theorem CW'.i3 (h : CW' R O L σ b w sl) : gI σ b 8 3 = some (nI (wC w 3)) := gI_cel h.1 rfl
theorem CW'.i4 (h : CW' R O L σ b w sl) : gI σ b 8 4 = some (nI (wC w 4)) := gI_cel h.1 rfl
theorem CW'.i5 (h : CW' R O L σ b w sl) : gI σ b 8 5 = some (nI (wC w 5)) := gI_cel h.1 rfl
theorem CW'.r6 (h : CW' R O L σ b w sl) : gR σ b 8 6 = some (b + 1) := gR_cel h.1 rfl
theorem CW'.r7 (h : CW' R O L σ b w sl) : gR σ b 8 7 = some (b + 130) := gR_cel h.1 rfl
theorem CW'.r8 (h : CW' R O L σ b w sl) : gR σ b 8 8 = some (b + 131) := gR_cel h.1 rfl
theorem CW'.r9 (h : CW' R O L σ b w sl) : gR σ b 8 9 = some (b + 132) := gR_cel h.1 rfl
theorem CW'.r10 (h : CW' R O L σ b w sl) : gR σ b 8 10 = some (b + 133) := gR_cel h.1 rfl
theorem CW'.ev (h : CW' R O L σ b w sl) : EE σ (b + 1) (wC w 2) (wK w) (wE w) := h.2.1
theorem CW'.lv (h : CW' R O L σ b w sl) {s : Nat} (hs : s < 5) : aaldR σ (b + 130) 4 (nI s) = some (L s) := aaldR_cel h.2.2.1 hs (by decide) (if_pos hs)
theorem CW'.sd (h : CW' R O L σ b w sl) {s : Nat} (hs : s < 5) : aaldR σ (b + 131) 4 (nI s) = some (b + 141 + 14 * s) := aaldR_cel h.2.2.2.1 hs (by decide) (if_pos hs)
theorem CW'.rw (h : CW' R O L σ b w sl) {c : Nat} (hc : c < 25) : aaldR σ (b + 132) 5 (nI c) = some (b + 204 + 2 * c) := aaldR_cel h.2.2.2.2.1 hc (by decide) (if_pos hc)
theorem CW'.SL (h : CW' R O L σ b w sl) {s : Nat} (hs : s < 5) : SI σ (L s) (wL w s) := (h.2.2.2.2.2.2.1 s hs).1
theorem CW'.SS (h : CW' R O L σ b w sl) {s : Nat} (hs : s < 5) : SI σ (b + 141 + 14 * s) (wS w s) := (h.2.2.2.2.2.2.1 s hs).2
theorem CW.ct (h : CW O L σ b w sl) {f o : Nat} (hf : f < 5) (ho : o < 5) : zald σ (b + 133) (nI (5 * f + o)) = some (nI (b2 (wcut w f o))) := by
  obtain ⟨cf, h1, h2⟩ := h.2.2.2.2.2.1
  rw [zald_cel h1 (by omega) (by decide), h2 f o hf ho]
theorem CW'.ro (h : CW' R O L σ b w sl) {c : Nat} (hc : c < 25) : cel σ (b + 204 + 2 * c) = some (.inl (4, [.int (nI (wT w c).length), .ref (b + 205 + 2 * c)])) := (h.2.2.2.2.2.2.2.1 c hc).1
theorem CW'.rs (h : CW' R O L σ b w sl) {c : Nat} (hc : c < 25) : RA σ (b + 205 + 2 * c) 6 12 (sl c) := (h.2.2.2.2.2.2.2.1 c hc).2
theorem CW'.gb (h : CW' R O L σ b w sl) {c k p : Nat} (hc : c < 25) (hk : k < 12) (hp : sl c k = some p) : ∃ f o l, LE σ p f o l := h.2.2.2.2.2.2.2.2.1 c k p hc hk hp
theorem CW'.lt (h : CW' R O L σ b w sl) {c k : Nat} {l : Lt} (hc : c < 25) (hl : (wT w c)[k]? = some l) : k < 12 ∧ ∃ p, sl c k = some p ∧ LE σ p (c / 5) (c % 5) l := h.2.2.2.2.2.2.2.2.2.1 c k l hc hl
theorem CW'.o1 (h : CW' R O L σ b w sl) : ∀ i, b ≤ i → i < b + 254 → O i := h.2.2.2.2.2.2.2.2.2.2.1
theorem CW'.o2 (h : CW' R O L σ b w sl) : ∀ s, s < 5 → ∀ i, L s ≤ i → i < L s + 7 → O i := h.2.2.2.2.2.2.2.2.2.2.2.1
theorem CW'.o3 (h : CW' R O L σ b w sl) : ∀ c k p, c < 25 → k < 12 → sl c k = some p → ∀ i, p ≤ i → i < p + 4 → O i := h.2.2.2.2.2.2.2.2.2.2.2.2
theorem CW'.tl (h : CW' R O L σ b w sl) {c : Nat} (hc : c < 25) : (wT w c).length ≤ 12 := by
  refine Classical.byContradiction fun hx => ?_
  have hk : (wT w c).length - 1 < (wT w c).length := by omega
  have := (h.lt hc (List.getElem?_eq_getElem hk)).1
  omega
theorem C_cell (f o : Nat) : F_X9_cell (nI f) (nI o) = some (nI (5 * f + o)) := by
  unfold F_X9_cell; rw [l_5, pk_mul, nI_add, Nat.mul_comm]
theorem C_row (h : CW' R O L σ b w sl) {f o : Nat} (hf : f < 5) (ho : o < 5) : F_X8_row σ b (nI f) (nI o) = some (b + 204 + 2 * (5 * f + o)) := by
  unfold F_X8_row
  rw [chk_eq h.ok, h.r9, bind_some', C_cell, bind_some', h.rw (by omega)]
  rfl
theorem C_isCut (h : CW O L σ b w sl) {f o : Nat} (hf : f < 5) (ho : o < 5) : F_X8_isCut σ b (nI f) (nI o) = some (nI (b2 (wcut w f o))) := by
  unfold F_X8_isCut
  rw [chk_eq h.ok, h.r10, bind_some', C_cell, bind_some', h.ct hf ho, bind_some', l_0, l_1, ifz]
theorem C_rowN (h : CW' R O L σ b w sl) {c : Nat} (hc : c < 25) : gI σ (b + 204 + 2 * c) 4 0 = some (nI (wT w c).length) := gI_cel (h.ro hc) rfl
theorem C_isFullR (h : CW' R O L σ b w sl) {c : Nat} (hc : c < 25) : F_X4_isFull σ (b + 204 + 2 * c) = some (nI (b2 (decide (12 ≤ (wT w c).length)))) := by
  have := h.tl hc
  unfold F_X4_isFull
  rw [chk_eq (gOs_cel (h.ro hc)), C_rowN h hc, bind_some', l_12, l_0, l_1, ifB', ← ndec]
  congr 4
  exact decide_eq_decide.mpr (nI_ltI (by omega) (by omega))
theorem C_canPost (h : CW O L σ b w sl) {f o : Nat} (hf : f < 5) (ho : o < 5) : F_X8_canPost σ b (nI f) (nI o) = some (nI (b2 (decide ((wT w (5 * f + o)).length < 12) && !wcut w f o))) := by
  unfold F_X8_canPost
  rw [chk_eq h.ok, C_row h hf ho, bind_some', C_isFullR h (by omega), bind_some', l_0, ifb, C_isCut h hf ho, bind_some', ifb, l_1]
  by_cases h1 : 12 ≤ (wT w (5 * f + o)).length
  · rw [decide_eq_true h1, decide_eq_false (by omega)]; rfl
  · rw [decide_eq_false h1, decide_eq_true (by omega)]
    cases wcut w f o <;> rfl
theorem C_nextSite (h : CW O L σ b w sl) (hn : wC w 0 ≤ 5) {s : Nat} (hs : s < 5) : F_X8_nextSite σ b (nI s) = some (nI (if s + 1 < wC w 0 then s + 1 else 0)) := by
  unfold F_X8_nextSite
  rw [chk_eq h.ok, h.i0, bind_some', l_1, nI_add, l_0]
  by_cases h1 : s + 1 < wC w 0
  · rw [if_neg (by rw [nI_leI (by omega) (by omega)]; omega), if_pos h1]
  · rw [if_pos (nI_le (by omega) (by omega)), if_neg h1]
/-- a letter that waits -/
theorem C_at (h : CW' R O L σ b w sl) {c k : Nat} {l : Lt} (hc : c < 25) (hl : (wT w c)[k]? = some l) : ∃ p, F_X4_at σ (b + 204 + 2 * c) (nI k) = some (p, σ) ∧ sl c k = some p ∧ LE σ p (c / 5) (c % 5) l := by
  obtain ⟨hk, p, h1, h2⟩ := h.lt hc hl
  refine ⟨p, ?_, h1, h2⟩
  unfold F_X4_at
  rw [chk_eq (gOs_cel (h.ro hc)), gR_cel (h.ro hc) rfl, bind_some', aald_cel (h.rs hc) hk (by decide), bind_some', h1]
  rfl
/-! what is told of the world -/
theorem C_holders (h : CW O L σ b w sl) (hn : wC w 0 ≤ 5) {e : Nat} (he : e < 128) : F_X8_holders σ b (nI e) = some (nI (fb_ct (fun s => sHs (wL w s) e) (wC w 0))) := by
  unfold F_X8_holders
  rw [chk_eq h.ok]
  refine lup (fun f j => F_X8_holders_L4 σ b (nI e) f (nI (fb_ct (fun s => sHs (wL w s) e) j)) (nI j) (fun x => some x)) (wC w 0) _ ?_ ?_ fu (by unfold fu; omega)
  · intro j f hj
    have hj5 : j < 5 := by omega
    rw [F_X8_holders_L4]
    simp (disch := omega) only [l_0, l_1, l_2, l_3, l_4, l_5, l_6, l_7, l_8, l_9, l_10, l_12, l_25, l_29, l_33, l_34, l_120, l_122, l_147, l_154, l_274, l_394, l_395, l_789, l_3953, l_5153, l_5178, l_49278, l_49279, l_49280, bind_some', jn_eq, nI_add, pk_mul, nI_leI, nI_ltI, nI_eq, ifb, ifz, R_flag0, R_flag1, R_flag, if_true, if_false, h.i0, if_neg, h.r7, h.lv hj5, (h.SL hj5).g1, X_holds (h.SL hj5).hs he]
    rw [fb_ct_succ]
    cases sHs (wL w j) e <;> rfl
  · intro f
    rw [F_X8_holders_L4, h.i0, bind_some', if_pos (nI_le (Nat.le_refl _) (by omega))]
theorem C_logsWith (h : CW O L σ b w sl) (i : Jv w) {e : Nat} (he : e < 120) : F_X8_logsWith σ b (nI e) = some (nI (fb_ct (fun s => (sLg (wL w s)).contains e) (wC w 0))) := by
  have hn := i.n5
  have hc := i.c
  unfold F_X8_logsWith
  rw [chk_eq h.ok]
  refine lup (fun f j => F_X8_logsWith_L4 σ b (nI e) f (nI (fb_ct (fun s => (sLg (wL w s)).contains e) j)) (nI j) (fun x => some x)) (wC w 0) _ ?_ ?_ fu (by unfold fu; omega)
  · intro j f hj
    have hj5 : j < 5 := by omega
    have hlh := C_logHolds (h.SL hj5) (fun e he => Nat.lt_of_lt_of_le ((i.L hj5).lm he) hc) he
    rw [F_X8_logsWith_L4]
    simp (disch := omega) only [l_0, l_1, l_2, l_3, l_4, l_5, l_6, l_7, l_8, l_9, l_10, l_12, l_25, l_29, l_33, l_34, l_120, l_122, l_147, l_154, l_274, l_394, l_395, l_789, l_3953, l_5153, l_5178, l_49278, l_49279, l_49280, bind_some', jn_eq, nI_add, pk_mul, nI_leI, nI_ltI, nI_eq, ifb, ifz, R_flag0, R_flag1, R_flag, if_true, if_false, h.i0, if_neg, h.r7, h.lv hj5, hlh]
    rw [fb_ct_succ]
    cases (sLg (wL w j)).contains e <;> rfl
  · intro f
    rw [F_X8_logsWith_L4, h.i0, bind_some', if_pos (nI_le (Nat.le_refl _) (by omega))]
theorem C_lettersThatWait (h : CW O L σ b w sl) : F_X8_lettersThatWait σ b = some (nI (sm (fun c => (wT w c).length) 25)) := by
  unfold F_X8_lettersThatWait
  rw [chk_eq h.ok]
  refine lup (fun f j => F_X8_lettersThatWait_L4 σ b f (nI (sm (fun c => (wT w c).length) j)) (nI j) (fun x => some x)) 25 _ ?_ ?_ fu (by unfold fu; omega)
  · intro j f hj
    rw [F_X8_lettersThatWait_L4]
    simp (disch := omega) only [l_0, l_1, l_2, l_3, l_4, l_5, l_6, l_7, l_8, l_9, l_10, l_12, l_25, l_29, l_33, l_34, l_120, l_122, l_147, l_154, l_274, l_394, l_395, l_789, l_3953, l_5153, l_5178, l_49278, l_49279, l_49280, bind_some', jn_eq, nI_add, pk_mul, nI_leI, nI_ltI, nI_eq, ifb, ifz, R_flag0, R_flag1, R_flag, if_true, if_false, if_neg, h.r9, h.rw hj, C_rowN h hj]
    rfl
  · intro f
    rw [F_X8_lettersThatWait_L4, l_25, if_pos (nI_le (Nat.le_refl _) (by omega))]
/-- a reading loop from i0 on that may end early: all -/
theorem lallG {ρ : Type} (L : Nat → Nat → ρ) (p : Nat → Bool) (N i0 : Nat) (r0 r1 : ρ) (hi : i0 ≤ N) (hs : ∀ i f, i0 ≤ i → i < N → L (f + 1) i = if p i = true then L f (i + 1) else r0) (he : ∀ f, L (f + 1) N = r1) (F : Nat) (hF : N < F) : L F i0 = if al (fun k => p (i0 + k)) (N - i0) = true then r1 else r0 := by
  have := lall (fun f j => L f (i0 + j)) (fun k => p (i0 + k)) (N - i0) r0 r1 (fun i f h => hs (i0 + i) f (by omega) (by omega)) (fun f => by show L (f + 1) (i0 + (N - i0)) = r1; rw [show i0 + (N - i0) = N by omega]; exact he f) F (by omega)
  exact this
theorem C_viewsAreAlike (h : CW O L σ b w sl) (hn : wC w 0 ≤ 5) (hn1 : 1 ≤ wC w 0) : F_X8_viewsAreAlike σ b = some (nI (b2 (al (fun k => al (fun e => sVw (wL w (1 + k)) e == sVw (wL w 0) e) 128) (wC w 0 - 1)))) := by
  unfold F_X8_viewsAreAlike
  rw [chk_eq h.ok]
  refine (lallG (fun f j => F_X8_viewsAreAlike_L2 σ b f (nI j) (some (nI 1))) (fun s => al (fun e => sVw (wL w s) e == sVw (wL w 0) e) 128) (wC w 0) 1 (some (nI 0)) (some (nI 1)) hn1 ?_ ?_ fu (by unfold fu; omega)).trans (ifT _)
  · intro j f h1 hj
    have hj5 : j < 5 := by omega
    have hsm := X_sameAs (h.SL hj5).vw (h.SL (show 0 < 5 by omega)).vw
    rw [F_X8_viewsAreAlike_L2]
    simp (disch := omega) only [l_0, l_1, l_2, l_3, l_4, l_5, l_6, l_7, l_8, l_9, l_10, l_12, l_25, l_29, l_33, l_34, l_120, l_122, l_147, l_154, l_274, l_394, l_395, l_789, l_3953, l_5153, l_5178, l_49278, l_49279, l_49280, bind_some', jn_eq, nI_add, pk_mul, nI_leI, nI_ltI, nI_eq, ifb, ifz, R_flag0, R_flag1, R_flag, if_true, if_false, h.i0, if_neg, h.r7, h.lv hj5, (h.SL hj5).g0, h.lv (show 0 < 5 by omega), (h.SL (show 0 < 5 by omega)).g0, hsm]
  · intro f
    rw [F_X8_viewsAreAlike_L2, h.i0, bind_some', if_pos (nI_le (Nat.le_refl _) (by omega))]
def mxW (w : Wd) (e a : Nat) : Nat → Nat
  | 0 => a
  | n + 1 => max (mxW w e a n) (sWh (wL w n) e)
theorem C_stepsToAll (h : CW O L σ b w sl) (i : Jv w) {e : Nat} (he : e < wC w 2) (hall : ∀ s, s < wC w 0 → sHs (wL w s) e = true ∧ sWh (wL w s) e < 2 ^ 31) (hp : eP (wE w) e < 2 ^ 31) : F_X8_stepsToAll σ b (nI e) = some (nI (mxW w e (eP (wE w) e) (wC w 0) - eP (wE w) e)) := by
  have hn := i.n5
  have hc := i.c
  have hmx : ∀ n, n ≤ wC w 0 → mxW w e (eP (wE w) e) n < 2 ^ 31 ∧ eP (wE w) e ≤ mxW w e (eP (wE w) e) n := by
    intro n
    induction n with
    | zero => intro _; exact ⟨hp, Nat.le_refl _⟩
    | succ n ih =>
      intro hn1
      have h1 := ih (by omega)
      have h2 := (hall n (by omega)).2
      show max _ _ < _ ∧ _ ≤ max _ _
      omega
  unfold F_X8_stepsToAll
  rw [chk_eq h.ok, h.r6, bind_some', h.ev.g6, bind_some', h.ev.rP i.bv he, bind_some']
  refine lup (fun f j => F_X8_stepsToAll_L12 σ b (nI e) f (nI (mxW w e (eP (wE w) e) j)) (nI j) (fun x9 =>
      (some (b + 1)).bind fun p10 =>
      (gR σ p10 2 6).bind fun p11 =>
      (iald σ p11 (nI e)).bind fun x12 =>
      some (x9 - x12))) (wC w 0) _ ?_ ?_ fu (by unfold fu; omega)
  · intro j f hj
    have hj5 : j < 5 := by omega
    have hw := (h.SL hj5).rw (show e < 120 by omega) (hall j hj).1
    have h1 := (hmx j (by omega)).1
    have h2 := (hall j hj).2
    rw [F_X8_stepsToAll_L12]
    simp (disch := omega) only [l_0, l_1, l_2, l_3, l_4, l_5, l_6, l_7, l_8, l_9, l_10, l_12, l_25, l_29, l_33, l_34, l_120, l_122, l_147, l_154, l_274, l_394, l_395, l_789, l_3953, l_5153, l_5178, l_49278, l_49279, l_49280, bind_some', jn_eq, nI_add, pk_mul, nI_leI, nI_ltI, nI_eq, ifb, ifz, R_flag0, R_flag1, R_flag, if_true, if_false, h.i0, if_neg, h.r7, h.lv hj5, (h.SL hj5).g5, hw]
    congr 1
    show _ = nI (max (mxW w e (eP (wE w) e) j) (sWh (wL w j) e))
    by_cases h3 : mxW w e (eP (wE w) e) j < sWh (wL w j) e
    · rw [if_pos h3, Nat.max_eq_right (by omega)]
    · rw [if_neg h3, Nat.max_eq_left (by omega)]
  · intro f
    rw [F_X8_stepsToAll_L12, h.i0, bind_some', if_pos (nI_le (Nat.le_refl _) (by omega)), bind_some', h.ev.g6, bind_some', h.ev.rP i.bv he, bind_some', pk_sub (hmx _ (Nat.le_refl _)).2]
end CWS
