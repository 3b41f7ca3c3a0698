/-! ===== PURE 20: the class's cells; sets of events ===== -/
/-- nothing but cells p .. p + n - 1 has changed -/
def Fr (p n : Nat) (σ σ' : Sto) : Prop := σ'.2 = σ.2 ∧ σ'.1.length = σ.1.length ∧ ∀ i, (i < p ∨ p + n ≤ i) → cel σ' i = cel σ i
section FR
variable {p n q m : Nat} {σ σ1 σ2 : Sto}
theorem Fr.rf : Fr p n σ σ := ⟨rfl, rfl, fun _ _ => rfl⟩
theorem Fr.tr (h : Fr p n σ σ1) (h2 : Fr p n σ1 σ2) : Fr p n σ σ2 := ⟨h2.1.trans h.1, h2.2.1.trans h.2.1, fun i hi => (h2.2.2 i hi).trans (h.2.2 i hi)⟩
theorem Fr.mo (h : Fr p n σ σ1) (h1 : q ≤ p) (h2 : p + n ≤ q + m) : Fr q m σ σ1 := ⟨h.1, h.2.1, fun i hi => h.2.2 i (by omega)⟩
theorem Fr.at (h : Fr p n σ σ1) {i : Nat} (hi : i < p ∨ p + n ≤ i) : cel σ1 i = cel σ i := h.2.2 i hi
theorem Fr.st {b : Nat} {e0 e : Ent} (h : cel σ b = some e0) (h1 : p ≤ b) (h2 : b < p + n) : Fr p n σ (stc σ b e) := ⟨rfl, len_stc, fun i hi => by rw [cel_stc (cel_lt h), if_neg (by omega)]⟩
theorem cel_stc_s {b : Nat} {e0 e : Ent} (h : cel σ b = some e0) : cel (stc σ b e) b = some e := by rw [cel_stc (cel_lt h), if_pos rfl]
theorem cel_stc_n {b i : Nat} {e0 e : Ent} (h : cel σ b = some e0) (hi : i ≠ b) : cel (stc σ b e) i = cel σ i := by rw [cel_stc (cel_lt h), if_neg hi]
end FR
/-! longs by their bits -/
def lb (x : Int64) (i : Nat) : Bool := x.toBitVec.getLsbD i
theorem lb_ext {x y : Int64} (h : ∀ i, i < 64 → lb x i = lb y i) : x = y := Int64.toBitVec_inj.mp (BitVec.eq_of_getLsbD_eq (fun i hi => h i hi))
theorem lb_or (x y : Int64) (i : Nat) : lb (x ||| y) i = (lb x i || lb y i) := by unfold lb; rw [Int64.toBitVec_or, BitVec.getLsbD_or]
theorem lb_and (x y : Int64) (i : Nat) : lb (x &&& y) i = (lb x i && lb y i) := by unfold lb; rw [Int64.toBitVec_and, BitVec.getLsbD_and]
theorem lb_xor (x y : Int64) (i : Nat) : lb (x ^^^ y) i = (lb x i ^^ lb y i) := by unfold lb; rw [Int64.toBitVec_xor, BitVec.getLsbD_xor]
theorem lb_m1 : ∀ i, i < 64 → lb (-1) i = true := by decide +kernel
theorem lb_0 (i : Nat) : lb 0 i = false := by
  show (0 : Int64).toBitVec.getLsbD i = false
  rw [show (0 : Int64).toBitVec = 0#64 from rfl, BitVec.getLsbD_zero]
theorem lb_1 (i : Nat) (hi : i < 64) : lb 1 i = decide (i = 0) := by
  have : ∀ i, i < 64 → lb 1 i = decide (i = 0) := by decide +kernel
  exact this i hi
theorem ls_l : ∀ n, n < 64 → (((nI n).toInt64 &&& 63).toBitVec.smod 64).toNat = n := by decide +kernel
theorem lu_l : ∀ n, n < 64 → (((nI n).toInt64.toUInt64 &&& Int64.toUInt64 63).toBitVec % 64).toNat = n := by decide +kernel
theorem lb_shl (n : Nat) (hn : n < 64) {i : Nat} (hi : i < 64) : lb ((1 : Int64) <<< ((nI n).toInt64 &&& 63)) i = decide (i = n) := by
  have e : lb ((1 : Int64) <<< ((nI n).toInt64 &&& 63)) i = (decide (n ≤ i) && lb 1 (i - n)) := by
    unfold lb
    rw [Int64.toBitVec_shiftLeft]
    show ((1 : Int64).toBitVec <<< (((nI n).toInt64 &&& 63).toBitVec.smod 64).toNat).getLsbD i = _
    rw [ls_l n hn, BitVec.getLsbD_shiftLeft]
    rcases Nat.lt_or_ge i n with h | h
    · simp [h, Nat.not_le.mpr h]
    · simp [hi, h, Nat.not_lt.mpr h]
  rw [e, lb_1 _ (by omega)]
  by_cases h : i = n
  · subst h; simp
  · by_cases h2 : n ≤ i
    · have : ¬ i - n = 0 := by omega
      simp [h, h2, this]
    · simp [h, h2]
theorem lb_ushr (n : Nat) (hn : n < 64) (x : Int64) (i : Nat) : lb (x.toUInt64 >>> ((nI n).toInt64.toUInt64 &&& Int64.toUInt64 63)).toInt64 i = lb x (n + i) := by
  unfold lb
  show (x.toUInt64 >>> ((nI n).toInt64.toUInt64 &&& Int64.toUInt64 63)).toBitVec.getLsbD i = x.toUInt64.toBitVec.getLsbD (n + i)
  rw [UInt64.toBitVec_shiftRight]
  show (x.toUInt64.toBitVec >>> (((nI n).toInt64.toUInt64 &&& Int64.toUInt64 63).toBitVec % 64).toNat).getLsbD i = _
  rw [lu_l n hn, BitVec.getLsbD_ushiftRight]
theorem lg_eq0 {x y : Int64} : lg_cmp x y = 0 ↔ x = y := by
  unfold lg_cmp
  by_cases h1 : x > y
  · rw [if_pos h1]
    constructor
    · intro h; exact absurd h (by decide)
    · intro h; subst h; exact absurd (Int64.lt_iff_toInt_lt.mp h1) (Int.lt_irrefl _)
  · rw [if_neg h1]
    by_cases h2 : x = y
    · rw [if_pos h2]; exact ⟨fun _ => h2, fun _ => rfl⟩
    · rw [if_neg h2]
      exact ⟨fun h => absurd h (by decide), fun h => absurd h h2⟩
theorem land1 (x : Int64) : (x &&& 1 = 0) ↔ lb x 0 = false := by
  constructor
  · intro h
    have h1 := congrArg (fun z => lb z 0) h
    simp only [lb_and, lb_0] at h1
    rw [lb_1 0 (by omega)] at h1
    simpa using h1
  · intro h
    apply lb_ext
    intro i hi
    rw [lb_and, lb_0, lb_1 i hi]
    by_cases h0 : i = 0
    · subst h0; simp [h]
    · simp [h0]
/-- a set of events -/
def ES (σ : Sto) (p : Nat) (f : Nat → Bool) : Prop := ∃ lo hi : Int64, cel σ p = some (.inl (1, [.long lo, .long hi])) ∧ (∀ e, e < 64 → lb lo e = f e) ∧ ∀ e, e < 64 → lb hi e = f (64 + e)
section ESS
variable {σ σ1 : Sto} {p q e : Nat} {f g : Nat → Bool}
theorem ES.cg (h : ES σ p f) (hc : cel σ1 p = cel σ p) : ES σ1 p f := by
  obtain ⟨lo, hi, h1, h2, h3⟩ := h
  exact ⟨lo, hi, hc.trans h1, h2, h3⟩
theorem ES.ex (h : ES σ p f) (hf : ∀ e, e < 128 → g e = f e) : ES σ p g := by
  obtain ⟨lo, hi, h1, h2, h3⟩ := h
  exact ⟨lo, hi, h1, fun e he => (h2 e he).trans (hf e (by omega)).symm, fun e he => (h3 e he).trans (hf _ (by omega)).symm⟩
theorem ES.ok (h : ES σ p f) : (gO σ p 1).isSome = true := by
  obtain ⟨lo, hi, h1, h2, h3⟩ := h
  exact gOs_cel h1
theorem ES.lt (h : ES σ p f) : p < σ.1.length := by
  obtain ⟨lo, hi, h1, h2, h3⟩ := h
  exact cel_lt h1
theorem X_holds (h : ES σ p f) (he : e < 128) : F_X1_holds σ p (nI e) = some (nI (b2 (f e))) := by
  obtain ⟨lo, hi, h1, h2, h3⟩ := h
  have key : ∀ (y : Int64) (b : Bool), lb y 0 = b → (if lg_cmp (y &&& 1) 0 = 0 then some (0 : Int32) else some 1) = some (nI (b2 b)) := by
    intro y b hy
    cases b
    · rw [if_pos (lg_eq0.mpr ((land1 y).mpr hy))]; rfl
    · rw [if_neg (fun z => by have := (land1 y).mp (lg_eq0.mp z); rw [hy] at this; cases this)]; rfl
  unfold F_X1_holds
  rw [chk_eq (gOs_cel h1)]
  dsimp only [jn_eq]
  by_cases h64 : 64 ≤ e
  · rw [l_64, if_pos (nI_le h64 (by omega)), gL_cel h1 rfl, bind_some', pk_sub h64]
    refine key _ _ ?_
    rw [lb_ushr _ (by omega), Nat.add_zero, h3 _ (by omega), show 64 + (e - 64) = e by omega]
  · rw [l_64, if_neg (by rw [nI_leI (by omega) (by omega)]; exact h64), gL_cel h1 rfl, bind_some']
    refine key _ _ ?_
    rw [lb_ushr _ (by omega), Nat.add_zero, h2 _ (by omega)]
theorem sL2 {lo hi x : Int64} (h : cel σ p = some (.inl (1, [.long lo, .long hi]))) : sV σ p 1 0 (.long x) = some (stc σ p (.inl (1, [.long x, .long hi]))) := sV_cel h (Nat.le_of_ble_eq_true rfl)
theorem sH2 {lo hi x : Int64} (h : cel σ p = some (.inl (1, [.long lo, .long hi]))) : sV σ p 1 1 (.long x) = some (stc σ p (.inl (1, [.long lo, .long x]))) := sV_cel h (Nat.le_of_ble_eq_true rfl)
theorem set2 {lo hi x y : Int64} (h : cel σ p = some (.inl (1, [.long lo, .long hi]))) : ∃ s1 s2, sV σ p 1 0 (.long x) = some s1 ∧ cel s1 p = some (.inl (1, [.long x, .long hi])) ∧ sV s1 p 1 1 (.long y) = some s2 ∧ cel s2 p = some (.inl (1, [.long x, .long y])) ∧ Fr p 1 σ s1 ∧ Fr p 1 σ s2 := by
  have h1 := cel_stc_s (e := .inl (1, [.long x, .long hi])) h
  have f1 : Fr p 1 σ (stc σ p (.inl (1, [.long x, .long hi]))) := Fr.st h (Nat.le_refl _) (by omega)
  exact ⟨_, _, sL2 h, h1, sH2 h1, cel_stc_s h1, f1, f1.tr (Fr.st h1 (Nat.le_refl _) (by omega))⟩
theorem X_clear (h : ES σ p f) : ∃ s, F_X1_clear σ p = some s ∧ ES s p (fun _ => false) ∧ Fr p 1 σ s := by
  obtain ⟨lo, hi, h1, h2, h3⟩ := h
  obtain ⟨s1, s2, e1, c1, e2, c2, f1, f2⟩ := set2 (x := 0) (y := 0) h1
  refine ⟨s2, ?_, ⟨0, 0, c2, fun e _ => lb_0 e, fun e _ => lb_0 e⟩, f2⟩
  unfold F_X1_clear
  rw [chk_eq (gOs_cel h1), e1, bind_some', e2]
  rfl
theorem X_copyOf (h : ES σ p f) (hg : ES σ q g) (hpq : p ≠ q) : ∃ s, F_X1_copyOf σ p q = some s ∧ ES s p g ∧ Fr p 1 σ s := by
  obtain ⟨lo, hi, h1, h2, h3⟩ := h
  obtain ⟨lo2, hi2, g1, g2, g3⟩ := hg
  obtain ⟨s1, s2, e1, c1, e2, c2, f1, f2⟩ := set2 (x := lo2) (y := hi2) h1
  refine ⟨s2, ?_, ⟨lo2, hi2, c2, g2, g3⟩, f2⟩
  have g4 : cel s1 q = some (.inl (1, [.long lo2, .long hi2])) := (f1.at (by omega)).trans g1
  unfold F_X1_copyOf
  rw [chk_eq (gOs_cel h1), gL_cel g1 rfl, bind_some', e1, bind_some', gL_cel g4 rfl, bind_some', e2]
  rfl
theorem X_insert (h : ES σ p f) (he : e < 128) : ∃ s, F_X1_insert σ p (nI e) = some s ∧ ES s p (up f e true) ∧ Fr p 1 σ s := by
  obtain ⟨lo, hi, h1, h2, h3⟩ := h
  unfold F_X1_insert
  rw [chk_eq (gOs_cel h1)]
  by_cases h64 : 64 ≤ e
  · rw [l_64, if_pos (nI_le h64 (by omega)), gL_cel h1 rfl, bind_some', pk_sub h64]
    refine ⟨_, by rw [sH2 h1]; rfl, ⟨lo, _, cel_stc_s h1, fun i hi => ?_, fun i hi => ?_⟩, Fr.st h1 (Nat.le_refl _) (by omega)⟩
    · rw [up_n _ _ (by omega)]; exact h2 i hi
    · rw [lb_or, lb_shl _ (by omega) hi, h3 i hi]
      unfold up
      by_cases hie : i = e - 64
      · rw [if_pos (by omega)]; simp [hie]
      · rw [if_neg (by omega)]; simp [hie]
  · rw [l_64, if_neg (by rw [nI_leI (by omega) (by omega)]; exact h64), gL_cel h1 rfl, bind_some']
    refine ⟨_, by rw [sL2 h1]; rfl, ⟨_, hi, cel_stc_s h1, fun i hi => ?_, fun i hi => ?_⟩, Fr.st h1 (Nat.le_refl _) (by omega)⟩
    · rw [lb_or, lb_shl _ (by omega) hi, h2 i hi]
      unfold up
      by_cases hie : i = e
      · rw [if_pos (by omega)]; simp [hie]
      · rw [if_neg (by omega)]; simp [hie]
    · rw [up_n _ _ (by omega)]; exact h3 i hi
theorem X_remove (h : ES σ p f) (he : e < 128) : ∃ s, F_X1_remove σ p (nI e) = some s ∧ ES s p (up f e false) ∧ Fr p 1 σ s := by
  obtain ⟨lo, hi, h1, h2, h3⟩ := h
  unfold F_X1_remove
  rw [chk_eq (gOs_cel h1)]
  by_cases h64 : 64 ≤ e
  · rw [l_64, if_pos (nI_le h64 (by omega)), gL_cel h1 rfl, bind_some', pk_sub h64]
    refine ⟨_, by rw [sH2 h1]; rfl, ⟨lo, _, cel_stc_s h1, fun i hi => ?_, fun i hi => ?_⟩, Fr.st h1 (Nat.le_refl _) (by omega)⟩
    · rw [up_n _ _ (by omega)]; exact h2 i hi
    · rw [lb_and, lb_xor, lb_shl _ (by omega) hi, lb_m1 i hi, h3 i hi]
      unfold up
      by_cases hie : i = e - 64
      · rw [if_pos (by omega)]; simp [hie]
      · rw [if_neg (by omega)]; simp [hie]
  · rw [l_64, if_neg (by rw [nI_leI (by omega) (by omega)]; exact h64), gL_cel h1 rfl, bind_some']
    refine ⟨_, by rw [sL2 h1]; rfl, ⟨_, hi, cel_stc_s h1, fun i hi => ?_, fun i hi => ?_⟩, Fr.st h1 (Nat.le_refl _) (by omega)⟩
    · rw [lb_and, lb_xor, lb_shl _ (by omega) hi, lb_m1 i hi, h2 i hi]
      unfold up
      by_cases hie : i = e
      · rw [if_pos (by omega)]; simp [hie]
      · rw [if_neg (by omega)]; simp [hie]
    · rw [up_n _ _ (by omega)]; exact h3 i hi
theorem X_insertAll (h : ES σ p f) (hg : ES σ q g) (hpq : p ≠ q) : ∃ s, F_X1_insertAll σ p q = some s ∧ ES s p (fun e => f e || g e) ∧ Fr p 1 σ s := by
  obtain ⟨lo, hi, h1, h2, h3⟩ := h
  obtain ⟨lo2, hi2, g1, g2, g3⟩ := hg
  obtain ⟨s1, s2, e1, c1, e2, c2, f1, f2⟩ := set2 (x := lo ||| lo2) (y := hi ||| hi2) h1
  refine ⟨s2, ?_, ⟨_, _, c2, fun i hi => by rw [lb_or, h2 i hi, g2 i hi], fun i hi => by rw [lb_or, h3 i hi, g3 i hi]⟩, f2⟩
  have g4 : cel s1 q = some (.inl (1, [.long lo2, .long hi2])) := (f1.at (by omega)).trans g1
  unfold F_X1_insertAll
  rw [chk_eq (gOs_cel h1), gL_cel h1 rfl, bind_some', gL_cel g1 rfl, bind_some', e1, bind_some', gL_cel c1 rfl, bind_some', gL_cel g4 rfl, bind_some', e2]
  rfl
theorem X_removeAll (h : ES σ p f) (hg : ES σ q g) (hpq : p ≠ q) : ∃ s, F_X1_removeAll σ p q = some s ∧ ES s p (fun e => f e && !g e) ∧ Fr p 1 σ s := by
  obtain ⟨lo, hi, h1, h2, h3⟩ := h
  obtain ⟨lo2, hi2, g1, g2, g3⟩ := hg
  obtain ⟨s1, s2, e1, c1, e2, c2, f1, f2⟩ := set2 (x := lo &&& (lo2 ^^^ -1)) (y := hi &&& (hi2 ^^^ -1)) h1
  refine ⟨s2, ?_, ⟨_, _, c2, fun i hi => by rw [lb_and, lb_xor, lb_m1 i hi, h2 i hi, g2 i hi, Bool.xor_true], fun i hi => by rw [lb_and, lb_xor, lb_m1 i hi, h3 i hi, g3 i hi, Bool.xor_true]⟩, f2⟩
  have g4 : cel s1 q = some (.inl (1, [.long lo2, .long hi2])) := (f1.at (by omega)).trans g1
  unfold F_X1_removeAll
  rw [chk_eq (gOs_cel h1), gL_cel h1 rfl, bind_some', gL_cel g1 rfl, bind_some', e1, bind_some', gL_cel c1 rfl, bind_some', gL_cel g4 rfl, bind_some', e2]
  rfl
theorem X_retainAll (h : ES σ p f) (hg : ES σ q g) (hpq : p ≠ q) : ∃ s, F_X1_retainAll σ p q = some s ∧ ES s p (fun e => f e && g e) ∧ Fr p 1 σ s := by
  obtain ⟨lo, hi, h1, h2, h3⟩ := h
  obtain ⟨lo2, hi2, g1, g2, g3⟩ := hg
  obtain ⟨s1, s2, e1, c1, e2, c2, f1, f2⟩ := set2 (x := lo &&& lo2) (y := hi &&& hi2) h1
  refine ⟨s2, ?_, ⟨_, _, c2, fun i hi => by rw [lb_and, h2 i hi, g2 i hi], fun i hi => by rw [lb_and, h3 i hi, g3 i hi]⟩, f2⟩
  have g4 : cel s1 q = some (.inl (1, [.long lo2, .long hi2])) := (f1.at (by omega)).trans g1
  unfold F_X1_retainAll
  rw [chk_eq (gOs_cel h1), gL_cel h1 rfl, bind_some', gL_cel g1 rfl, bind_some', e1, bind_some', gL_cel c1 rfl, bind_some', gL_cel g4 rfl, bind_some', e2]
  rfl
theorem X_sameAs (h : ES σ p f) (hg : ES σ q g) : F_X1_sameAs σ p q = some (nI (b2 (al (fun e => f e == g e) 128))) := by
  obtain ⟨lo, hi, h1, h2, h3⟩ := h
  obtain ⟨lo2, hi2, g1, g2, g3⟩ := hg
  unfold F_X1_sameAs
  rw [chk_eq (gOs_cel h1), gL_cel h1 rfl, bind_some', gL_cel g1 rfl, bind_some', gL_cel h1 rfl, bind_some', gL_cel g1 rfl, bind_some']
  by_cases e1 : lo = lo2
  · rw [if_pos (lg_eq0.mpr e1)]
    by_cases e2 : hi = hi2
    · rw [if_pos (lg_eq0.mpr e2)]
      have : al (fun e => f e == g e) 128 = true := al_iff.mpr (fun e he => by
        by_cases h64 : e < 64
        · rw [← h2 e h64, ← g2 e h64, e1]; simp
        · have a1 := h3 (e - 64) (by omega)
          have a2 := g3 (e - 64) (by omega)
          rw [show 64 + (e - 64) = e by omega] at a1 a2
          rw [← a1, ← a2, e2]; simp)
      rw [this]; rfl
    · rw [if_neg (fun z => e2 (lg_eq0.mp z))]
      have : al (fun e => f e == g e) 128 = false := by
        rw [← Bool.not_eq_true]
        intro hal
        rw [al_iff] at hal
        refine e2 (lb_ext (fun i hi => ?_))
        rw [h3 i hi, g3 i hi]
        simpa using hal (64 + i) (by omega)
      rw [this]; rfl
  · rw [if_neg (fun z => e1 (lg_eq0.mp z))]
    have : al (fun e => f e == g e) 128 = false := by
      rw [← Bool.not_eq_true]
      intro hal
      rw [al_iff] at hal
      refine e1 (lb_ext (fun i hi => ?_))
      rw [h2 i hi, g2 i hi]
      simpa using hal i (by omega)
    rw [this]; rfl
end ESS
/-! the k-th of a set -/
def kth (f : Nat → Bool) (n k : Nat) : Option Nat := (List.range n).find? (fun e => f e && (fb_ct f e == k))
def oI (x : Option Nat) : Int32 := match x with
  | none => -1
  | some e => nI e
def kthI (f : Nat → Bool) (n : Nat) (k : Int32) : Option Nat := if k < 0 then none else kth f n k.toNatClampNeg
theorem kth_none {f : Nat → Bool} {n k : Nat} : kth f n k = none ↔ fb_ct f n ≤ k := by
  unfold kth
  rw [List.find?_eq_none]
  constructor
  · intro h
    refine Classical.byContradiction fun h2 => ?_
    obtain ⟨i, h3, h4, h5⟩ := fb_ct_kth (p := f) (k := k) (n := n) (by omega)
    exact h i (List.mem_range.mpr h3) (by simp [h4, h5])
  · intro h e he hx
    rw [List.mem_range] at he
    simp at hx
    have := fb_ct_mono f (show e + 1 ≤ n from he)
    rw [fb_ct_succ, hx.1] at this
    simp at this
    omega
theorem kth_some {f : Nat → Bool} {n k e : Nat} : kth f n k = some e ↔ e < n ∧ f e = true ∧ fb_ct f e = k := by
  constructor
  · intro h
    unfold kth at h
    have h1 := List.find?_some h
    have h2 := List.mem_of_find?_eq_some h
    rw [List.mem_range] at h2
    simp at h1
    exact ⟨h2, h1.1, h1.2⟩
  · intro ⟨h1, h2, h3⟩
    cases hk : kth f n k with
    | none =>
      rw [kth_none] at hk
      have := fb_ct_mono f (show e + 1 ≤ n from h1)
      rw [fb_ct_succ, h2] at this
      simp at this
      omega
    | some e2 =>
      unfold kth at hk
      have h4 := List.find?_some hk
      simp at h4
      rw [fb_ct_kth_one h4.1 h2 (h4.2.trans h3.symm)]
/-- the search for the k-th, as both sides make it: the answer -/
theorem kth_cut {f g : Nat → Bool} {n m k : Nat} (h : ∀ e, e < n → f e = g e) (hm : ∀ e, n ≤ e → e < m → g e = false) (hnm : n ≤ m) : kth f n k = kth g m k := by
  have hc : ∀ e, e ≤ n → fb_ct f e = fb_ct g e := fun e he => fb_ct_cong (fun k hk => h k (by omega))
  cases hk : kth f n k with
  | some e =>
    rw [kth_some] at hk
    symm
    rw [kth_some]
    exact ⟨by omega, by rw [← h e hk.1]; exact hk.2.1, by rw [← hc e (by omega)]; exact hk.2.2⟩
  | none =>
    rw [kth_none] at hk
    symm
    rw [kth_none]
    have : fb_ct g m = fb_ct g n := by
      have e1 := fb_ct_split g n (m - n)
      rw [show n + (m - n) = m by omega] at e1
      rw [e1, fb_ct_zero.mpr (fun k hk => hm (n + k) (by omega) (by omega))]
      rfl
    rw [this, ← hc n (Nat.le_refl _)]; exact hk
theorem kthI_cut {f g : Nat → Bool} {n m : Nat} {k : Int32} (h : ∀ e, e < n → f e = g e) (hm : ∀ e, n ≤ e → e < m → g e = false) (hnm : n ≤ m) : kthI f n k = kthI g m k := by
  unfold kthI; rw [kth_cut h hm hnm]
theorem kthI_nI {f : Nat → Bool} {n k : Nat} (hk : k < 2 ^ 31) : kthI f n (nI k) = kth f n k := by
  unfold kthI
  rw [if_neg (nI_pos hk), nI_clamp hk]
/-- a search for the k-th: a loop with the number left -/
theorem kth_loop {ρ : Type} (L : Nat → Int32 → Nat → ρ) (f : Nat → Bool) (n : Nat) (R : Option Nat → ρ) (hn : n < 2 ^ 30)
    (hs0 : ∀ F (x : Int32) e, e < n → f e = false → ¬ x < 0 → L (F + 1) x e = L F x (e + 1)) (hs1 : ∀ F e, e < n → f e = true → L (F + 1) (nI 0) e = R (some e)) (hs2 : ∀ F k e, e < n → f e = true → k < 2 ^ 31 - 1 → L (F + 1) (nI (k + 1)) e = L F (nI k) (e + 1)) (he : ∀ F (x : Int32), ¬ x < 0 → L (F + 1) x n = R none) (k : Nat) (hk : k < 2 ^ 31) (F : Nat) (hF : n < F) : L F (nI k) 0 = R (kth f n k) := by
  have h : ∀ d e F k0, e + d = n → d < F → k0 + fb_ct f e = k → L F (nI k0) e = R (kth f n k) := by
    intro d
    induction d with
    | zero =>
      intro e F k0 h1 h2 h3
      cases F with
      | zero => omega
      | succ F =>
        have hen : e = n := by omega
        subst hen
        rw [he F _ (nI_pos (by omega)), kth_none.mpr (by omega)]
    | succ d ih =>
      intro e F k0 h1 h2 h3
      cases F with
      | zero => omega
      | succ F =>
        cases hf : f e with
        | false =>
          rw [hs0 F _ e (by omega) hf (nI_pos (by omega))]
          refine ih (e + 1) F k0 (by omega) (by omega) ?_
          rw [fb_ct_succ, hf]; simpa using h3
        | true =>
          cases k0 with
          | zero =>
            rw [hs1 F e (by omega) hf, kth_some.mpr ⟨by omega, hf, by omega⟩]
          | succ k0 =>
            rw [hs2 F k0 e (by omega) hf (by omega)]
            refine ih (e + 1) F k0 (by omega) (by omega) ?_
            rw [fb_ct_succ, hf]
            simp
            omega
  exact h n 0 F k (by omega) hF rfl
theorem m1_add (k : Nat) : nI (k + 1) + (-1 : Int32) = nI k := pk_m1 k
theorem X_nth {σ : Sto} {p : Nat} {f : Nat → Bool} (h : ES σ p f) (k : Int32) : F_X1_nth σ p k = some (oI (kthI f 120 k)) := by
  unfold F_X1_nth
  rw [chk_eq h.ok]
  by_cases hk : k < 0
  · unfold kthI
    rw [if_pos hk]
    show F_X1_nth_L4 σ p (59999 + 1) k 0 _ = _
    rw [F_X1_nth_L4, if_neg (by decide), if_pos hk]
    rfl
  · obtain ⟨j, hj, rfl⟩ := nI_of hk
    rw [kthI_nI hj, l_0]
    refine kth_loop (fun F x e => F_X1_nth_L4 σ p F x (nI e) (some (-1))) f 120 (fun o => some (oI o)) (by omega) ?_ ?_ ?_ ?_ j hj fu (by unfold fu; omega)
    · intro F x e he hf hx
      rw [F_X1_nth_L4, l_120, if_neg (by rw [nI_leI (by omega) (by omega)]; omega), if_neg hx, X_holds h (by omega), bind_some', hf, if_pos (show nI (b2 false) = 0 from nI_0), l_1, nI_add]
    · intro F e he hf
      rw [F_X1_nth_L4, l_120, if_neg (by rw [nI_leI (by omega) (by omega)]; omega), if_neg (by decide), X_holds h (by omega), bind_some', hf, if_neg (by decide), if_pos nI_0]
      rfl
    · intro F k e he hf hk
      rw [F_X1_nth_L4, l_120, if_neg (by rw [nI_leI (by omega) (by omega)]; omega), if_neg (nI_pos (by omega)), X_holds h (by omega), bind_some', hf, if_neg (by decide), if_neg (nI_ne0 (by omega) (by omega)), m1_add, l_1, nI_add]
    · intro F x hx
      rw [F_X1_nth_L4, l_120, if_pos (Int32.le_refl _)]
      rfl
