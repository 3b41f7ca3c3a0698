/-! ===== PURE 94: the law: the state stays sound ===== -/
section AIS
variable {A : Ga} {n : Nat}
theorem ai_aSit (h : AI A n) (x : Int32) : AI (aSit A x).2 (n + 1) := by
  unfold aSit
  by_cases h2 : x < nI 2
  · rw [if_pos h2]; exact h.mo
  rw [if_neg h2]
  by_cases h5 : x ≤ nI 5
  · rw [if_pos h5]
    have h2' : ¬ x.toInt < 2 := by
      rw [ltn_i' x (by omega)] at h2
      omega
    have h5' : x.toInt ≤ 5 := by
      rw [Int32.le_iff_toInt_le, nI_toInt (by omega)] at h5
      omega
    have htN : tN x = x.toInt.toNat := rfl
    exact ⟨Iv_beg (by omega) (by omega) h.1.m3, h.2.1, Nat.zero_le _, fun k v hv => by have := h.2.2.2.1 k v hv; omega, Nat.zero_le _⟩
  · rw [if_neg h5]; exact h.mo
theorem ai_aMod (h : AI A n) (x : Int32) : AI (aMod A x).2 (n + 1) := by
  unfold aMod
  cases hx : inR x 3 with
  | false => exact h.mo
  | true =>
    obtain ⟨x1, x2⟩ := inR_tN (by omega) hx
    exact ⟨Iv_mod h.1 x2, h.2.1, by show wC A.1 6 ≤ _; have := h.2.2.1; omega, fun k v hv => by have := h.2.2.2.1 k v hv; omega, by show A.2.2.1.length ≤ _; have := h.2.2.2.2; omega⟩
theorem ai_aAdd (h : AI A n) (x m : Int32) : AI (aAdd A x m).2 (n + 1) := by
  have hn := h.1.n5
  unfold aAdd
  cases hx : inR x (wC A.1 0) with
  | false => exact h.mo
  | true =>
    obtain ⟨x1, x2⟩ := inR_tN (by omega) hx
    rw [if_pos rfl]
    by_cases hc : wC A.1 2 < 120
    · rw [if_pos hc]
      cases hm : inR m 100 with
      | false => exact h.mo
      | true =>
        obtain ⟨m1, m2⟩ := inR_tN (by omega) hm
        exact h.st (Iv_hap (Iv_stp h.1) hc x2 (Nat.le_refl _) m2) rfl
    · rw [if_neg hc]; exact h.mo
theorem ai_aTak (h : AI A n) (x m : Int32) : AI (aTak A x m).2 (n + 1) := by
  have hn := h.1.n5
  have hc2 := h.1.c
  unfold aTak
  cases hx : inR x (wC A.1 0) with
  | false => exact h.mo
  | true =>
    obtain ⟨x1, x2⟩ := inR_tN (by omega) hx
    rw [if_pos rfl]
    cases hm : inR m (wC A.1 2) with
    | false => exact h.mo
    | true =>
      obtain ⟨m1, m2⟩ := inR_tN (by omega) hm
      rw [if_pos rfl]
      cases hv : sVw (wL A.1 (tN x)) (tN m) with
      | false => exact h.mo
      | true =>
        rw [if_pos rfl]
        by_cases hc : wC A.1 2 < 120
        · rw [if_pos hc]
          exact h.st (Iv_hap (Iv_stp h.1) hc x2 (Nat.le_of_lt m2) (h.1.eNl _ m2)) rfl
        · rw [if_neg hc]; exact h.mo
theorem ai_aWri (h : AI A n) (x y : Int32) : AI (aWri A x y).2 (n + 1) := by
  have hn := h.1.n5
  unfold aWri
  cases hx : two A.1 x y with
  | false => exact h.mo
  | true =>
    obtain ⟨⟨x1, x2⟩, ⟨y1, y2⟩, hne⟩ := two_tN hn hx
    rw [if_pos rfl]
    cases hp : (decide ((wT A.1 (5 * tN x + tN y)).length < 12) && !wcut A.1 (tN x) (tN y)) with
    | false => exact h.mo
    | true =>
      have h12 : (wT A.1 (5 * tN x + tN y)).length < 12 := by
        rw [Bool.and_eq_true] at hp
        exact of_decide_eq_true hp.1
      exact h.st (Iv_wri (Iv_stp h.1) x2 y2 hne h12) rfl
theorem ai_aCom (h : AI A n) (x y k : Int32) : AI (aCom A x y k).2 (n + 1) := by
  have hn := h.1.n5
  unfold aCom
  cases hx : two A.1 x y with
  | false => exact h.mo
  | true =>
    obtain ⟨⟨x1, x2⟩, ⟨y1, y2⟩, hne⟩ := two_tN hn hx
    have hl := h.1.tl (show tN x < 5 by omega) (show tN y < 5 by omega)
    rw [if_pos rfl]
    cases hk : inR k (wT A.1 (5 * tN x + tN y)).length with
    | false => exact h.mo
    | true =>
      obtain ⟨k1, k2⟩ := inR_tN (by omega) hk
      rw [if_pos rfl]
      cases hw : wcut A.1 (tN x) (tN y) with
      | true => exact h.mo
      | false => exact h.st (Iv_com (Iv_stp h.1) x2 y2 hne k2) rfl
theorem ai_aLos (h : AI A n) (x y k : Int32) : AI (aLos A x y k).2 (n + 1) := by
  have hn := h.1.n5
  unfold aLos
  cases hx : two A.1 x y with
  | false => exact h.mo
  | true =>
    obtain ⟨⟨x1, x2⟩, ⟨y1, y2⟩, hne⟩ := two_tN hn hx
    rw [if_pos rfl]
    cases hk : inR k (wT A.1 (5 * tN x + tN y)).length with
    | false => exact h.mo
    | true => exact h.st (Iv_los (Iv_stp h.1) x2 y2 hne _) rfl
theorem ai_aTwi (h : AI A n) (x y k : Int32) : AI (aTwi A x y k).2 (n + 1) := by
  have hn := h.1.n5
  unfold aTwi
  cases hx : two A.1 x y with
  | false => exact h.mo
  | true =>
    obtain ⟨⟨x1, x2⟩, ⟨y1, y2⟩, hne⟩ := two_tN hn hx
    have hl := h.1.tl (show tN x < 5 by omega) (show tN y < 5 by omega)
    rw [if_pos rfl]
    cases hk : inR k (wT A.1 (5 * tN x + tN y)).length with
    | false => exact h.mo
    | true =>
      obtain ⟨k1, k2⟩ := inR_tN (by omega) hk
      rw [if_pos rfl]
      by_cases h12 : (wT A.1 (5 * tN x + tN y)).length < 12
      · rw [if_pos h12]
        exact h.st (Iv_twi (Iv_stp h.1) x2 y2 hne k2 h12) rfl
      · rw [if_neg h12]; exact h.mo
theorem ai_aSav (h : AI A n) (x : Int32) : AI (aSav A x).2 (n + 1) := by
  have hn := h.1.n5
  unfold aSav
  cases hx : inR x (wC A.1 0) with
  | false => exact h.mo
  | true =>
    obtain ⟨x1, x2⟩ := inR_tN (by omega) hx
    exact h.st (Iv_sav (Iv_stp h.1) (by omega)) rfl
theorem ai_aFal (h : AI A n) (x : Int32) : AI (aFal A x).2 (n + 1) := by
  have hn := h.1.n5
  unfold aFal
  cases hx : inR x (wC A.1 0) with
  | false => exact h.mo
  | true =>
    obtain ⟨x1, x2⟩ := inR_tN (by omega) hx
    exact h.st (Iv_fal (Iv_stp h.1) (by omega)) rfl
theorem ai_aJoi (h : AI A n) (x y : Int32) : AI (aJoi A x y).2 (n + 1) := by
  have hn := h.1.n5
  unfold aJoi
  cases hx : two A.1 x y with
  | false => exact h.mo
  | true =>
    obtain ⟨⟨x1, x2⟩, ⟨y1, y2⟩, hne⟩ := two_tN hn hx
    exact h.st (Iv_joi (Iv_stp h.1) x2 y2) rfl
theorem ai_aCut (h : AI A n) (x y b : Int32) : AI (aCut A x y b).2 (n + 1) := by
  have hn := h.1.n5
  unfold aCut
  cases hx : two A.1 x y with
  | false => exact h.mo
  | true =>
    obtain ⟨⟨x1, x2⟩, ⟨y1, y2⟩, hne⟩ := two_tN hn hx
    rw [if_pos rfl]
    by_cases hb : nI (b2 (wcut A.1 (tN x) (tN y))) = b
    · rw [if_pos hb]; exact h.mo
    · rw [if_neg hb]
      exact h.st (Iv_lnk (Iv_stp h.1) x2 y2 hne) rfl
theorem ch_6 (q : Ch) : wC (chSt q).1 6 ≤ wC q.1 6 + 1 := by
  unfold chSt chIn chOu chCo chLe
  repeat' split
  all_goals first | exact Nat.le_refl _ | exact Nat.le_succ _
theorem ch_6N (q : Ch) : ∀ k, wC (chIt q k).1 6 ≤ wC q.1 6 + k
  | 0 => Nat.le_refl _
  | k + 1 => Nat.le_trans (ch_6 _) (Nat.succ_le_succ (ch_6N q k))
theorem ai_aCha (h : AI A n) (x k : Int32) : AI (aCha A x k).2 (n + 1) := by
  unfold aCha
  by_cases hx : x < 0
  · rw [if_pos hx]; exact h.mo
  rw [if_neg hx]
  cases hk : inR k 61 with
  | false => exact h.mo
  | true =>
    obtain ⟨k1, k2⟩ := inR_tN (by omega) hk
    have h6 : wC (chA A (tN x) (tN k)).1 6 ≤ wC A.1 6 + tN k := ch_6N _ _
    have ht : (chA A (tN x) (tN k)).2.1.length ≤ A.2.2.1.length + tN k := ch_trN (A.1, A.2.2.1, tN x) h.1 _
    have a1 := h.2.2.1
    have a2 := h.2.2.2.2
    rw [if_pos rfl]
    exact ⟨Iv_chIt (c := (A.1, A.2.2.1, tN x)) h.1 _, h.2.1, by show wC (chA A (tN x) (tN k)).1 6 ≤ _; omega, fun k v hv => by have := h.2.2.2.1 k v hv; omega, by show (chA A (tN x) (tN k)).2.1.length ≤ _; omega⟩
theorem ai_aKee (h : AI A n) (x : Int32) : AI (aKee A x).2 (n + 1) := by
  unfold aKee
  cases hx : inR x 2 with
  | false => exact h.mo
  | true =>
    have a1 := h.2.2.1
    have a2 := h.2.2.2.2
    rw [if_pos rfl]
    refine ⟨h.1, fun k v hv => ?_, by show wC A.1 6 ≤ _; omega, fun k v hv => ?_, by show A.2.2.1.length ≤ _; omega⟩
    · have hv' : up A.2.1 (tN x) (some A.1) k = some v := hv
      by_cases hk : k = tN x
      · rw [hk, up_s] at hv'; cases hv'; exact h.1
      · rw [up_n _ _ hk] at hv'; exact h.2.1 k v hv'
    · have hv' : up A.2.1 (tN x) (some A.1) k = some v := hv
      by_cases hk : k = tN x
      · rw [hk, up_s] at hv'; cases hv'; omega
      · rw [up_n _ _ hk] at hv'
        have := h.2.2.2.1 k v hv'
        omega
theorem ai_aBac (h : AI A n) (x : Int32) : AI (aBac A x).2 (n + 1) := by
  unfold aBac
  cases hx : inR x 2 with
  | false => exact h.mo
  | true =>
    rw [if_pos rfl]
    cases hv : A.2.1 (tN x) with
    | none => exact h.mo
    | some v =>
      have := h.2.2.2.1 _ v hv
      exact ⟨h.2.1 _ v hv, h.2.1, by show wC v 6 ≤ _; omega, fun k v hv => by have := h.2.2.2.1 k v hv; omega, Nat.zero_le _⟩
end AIS
