/-! ===== PURE 87: the reference's heights ===== -/
def mxh (A : Nat → Nat → Bool) : Nat → Nat
  | 0 => 0
  | n + 1 => if hgt A n ≤ mxh A n then mxh A n else hgt A n
theorem mxh_ge {A : Nat → Nat → Bool} : ∀ {n e : Nat}, e < n → hgt A e ≤ mxh A n
  | 0, e, h => by omega
  | n + 1, e, h => by
    show hgt A e ≤ if hgt A n ≤ mxh A n then mxh A n else hgt A n
    by_cases he : e = n
    · subst he; split <;> omega
    · have := mxh_ge (A := A) (n := n) (e := e) (by omega)
      split <;> omega
theorem mxh_le {A : Nat → Nat → Bool} : ∀ n, mxh A n ≤ n
  | 0 => Nat.le_refl _
  | n + 1 => by
    have h1 := mxh_le (A := A) n
    have h2 := hgt_le A n
    show (if hgt A n ≤ mxh A n then mxh A n else hgt A n) ≤ n + 1
    split <;> omega
/-- the best before e, of the first n, by ranks R -/
def pvB (A : Nat → Nat → Bool) (R : Nat → Nat) (e h : Nat) : Nat → Option Nat
  | 0 => none
  | n + 1 => if decide (hgt A n + 1 = h) && A e n then (match pvB A R e h n with
    | none => some n
    | some p => if R p ≤ R n then some p else some n) else pvB A R e h n
theorem pvB_some {A : Nat → Nat → Bool} {R : Nat → Nat} {e h : Nat} : ∀ {n p : Nat}, pvB A R e h n = some p → p < n ∧ hgt A p + 1 = h ∧ A e p = true ∧ ∀ i, i < n → hgt A i + 1 = h → A e i = true → R p ≤ R i
  | 0, p, hp => by cases hp
  | n + 1, p, hp => by
    unfold pvB at hp
    by_cases hc : (decide (hgt A n + 1 = h) && A e n) = true
    · rw [if_pos hc] at hp
      rw [Bool.and_eq_true] at hc
      have hh := of_decide_eq_true hc.1
      cases hq : pvB A R e h n with
      | none =>
        rw [hq] at hp
        cases hp
        refine ⟨by omega, hh, hc.2, fun i hi h1 h2 => ?_⟩
        by_cases hin : i = n
        · subst hin; exact Nat.le_refl _
        · exfalso
          have : ∀ m, m ≤ n → pvB A R e h m = none → ∀ i, i < m → hgt A i + 1 = h → A e i = true → False := by
            intro m
            induction m with
            | zero => intro _ _ i hi; omega
            | succ m ih =>
              intro hm hn i hi h1 h2
              unfold pvB at hn
              by_cases hc2 : (decide (hgt A m + 1 = h) && A e m) = true
              · rw [if_pos hc2] at hn
                cases hq2 : pvB A R e h m with
                | none => rw [hq2] at hn; cases hn
                | some p => rw [hq2] at hn; dsimp only at hn; split at hn <;> cases hn
              · rw [if_neg hc2] at hn
                by_cases him : i = m
                · subst him
                  apply hc2
                  rw [Bool.and_eq_true]
                  exact ⟨decide_eq_true h1, h2⟩
                · exact ih (by omega) hn i (by omega) h1 h2
          exact this n (Nat.le_refl _) hq i (by omega) h1 h2
      | some p0 =>
        rw [hq] at hp
        obtain ⟨g1, g2, g3, g4⟩ := pvB_some hq
        dsimp only at hp
        by_cases hr : R p0 ≤ R n
        · rw [if_pos hr] at hp
          cases hp
          refine ⟨by omega, g2, g3, fun i hi h1 h2 => ?_⟩
          by_cases hin : i = n
          · subst hin; exact hr
          · exact g4 i (by omega) h1 h2
        · rw [if_neg hr] at hp
          cases hp
          refine ⟨by omega, hh, hc.2, fun i hi h1 h2 => ?_⟩
          by_cases hin : i = n
          · subst hin; exact Nat.le_refl _
          · have := g4 i (by omega) h1 h2
            omega
    · rw [if_neg hc] at hp
      obtain ⟨g1, g2, g3, g4⟩ := pvB_some hp
      refine ⟨by omega, g2, g3, fun i hi h1 h2 => ?_⟩
      by_cases hin : i = n
      · subst hin
        exfalso
        apply hc
        rw [Bool.and_eq_true]
        exact ⟨decide_eq_true h1, h2⟩
      · exact g4 i (by omega) h1 h2
theorem pvB_none {A : Nat → Nat → Bool} {R : Nat → Nat} {e h : Nat} : ∀ {n : Nat}, pvB A R e h n = none → ∀ i, i < n → hgt A i + 1 = h → A e i = true → False
  | 0, _, i, hi, _, _ => by omega
  | n + 1, hn, i, hi, h1, h2 => by
    unfold pvB at hn
    by_cases hc2 : (decide (hgt A n + 1 = h) && A e n) = true
    · rw [if_pos hc2] at hn
      cases hq2 : pvB A R e h n with
      | none => rw [hq2] at hn; cases hn
      | some p => rw [hq2] at hn; dsimp only at hn; split at hn <;> cases hn
    · rw [if_neg hc2] at hn
      by_cases him : i = n
      · subst him
        apply hc2
        rw [Bool.and_eq_true]
        exact ⟨decide_eq_true h1, h2⟩
      · exact pvB_none hn i (by omega) h1 h2
theorem pvB_cg {A : Nat → Nat → Bool} {R R' : Nat → Nat} {e h : Nat} : ∀ {n : Nat}, (∀ i, i < n → hgt A i + 1 = h → R i = R' i) → pvB A R e h n = pvB A R' e h n
  | 0, _ => rfl
  | n + 1, hR => by
    have ih := pvB_cg (A := A) (R := R) (R' := R') (e := e) (h := h) (n := n) (fun i hi => hR i (by omega))
    unfold pvB
    rw [ih]
    by_cases hc : (decide (hgt A n + 1 = h) && A e n) = true
    · rw [if_pos hc, if_pos hc]
      rw [Bool.and_eq_true] at hc
      cases hq : pvB A R' e h n with
      | none => rfl
      | some p =>
        have hp := pvB_some hq
        dsimp only
        rw [hR p (by omega) hp.2.1, hR n (by omega) (of_decide_eq_true hc.1)]
    · rw [if_neg hc, if_neg hc]
/-- an event of height h > 1 has one before it of height h - 1 -/
theorem hg1_wit {b : Nat → Bool} {h : Nat → Nat} : ∀ {n : Nat}, 1 < hg1 b h n → ∃ i, i < n ∧ b i = true ∧ h i + 1 = hg1 b h n
  | 0, hn => by
    have : hg1 b h 0 = 1 := rfl
    omega
  | n + 1, hn => by
    have he : hg1 b h (n + 1) = if b n && decide (hg1 b h n ≤ h n) then h n + 1 else hg1 b h n := rfl
    by_cases hc : (b n && decide (hg1 b h n ≤ h n)) = true
    · rw [if_pos hc] at he
      rw [Bool.and_eq_true] at hc
      exact ⟨n, by omega, hc.1, he.symm⟩
    · rw [if_neg hc] at he
      rw [he] at hn ⊢
      obtain ⟨i, h1, h2⟩ := hg1_wit hn
      exact ⟨i, by omega, h2⟩
def rv (P : Nat → Option Nat) (R : Nat → Nat) (x : Nat) : Nat := match P x with
  | none => 0
  | some p => R p
def bfr (P : Nat → Option Nat) (R : Nat → Nat) (x y : Nat) : Bool := decide (rv P R x < rv P R y) || (decide (rv P R x = rv P R y) && decide (x < y))
/-- rows and ranks are right up to height H -/
def RkS (A : Nat → Nat → Bool) (c H : Nat) (P : Nat → Option Nat) (R : Nat → Nat) : Prop := ∀ e, e < c → hgt A e ≤ H → P e = pvB A R e (hgt A e) e ∧ R e = fb_ct (fun x => decide (hgt A x = hgt A e) && bfr P R x e) c
def pe (o : Option Nat) : Nat := match o with
  | none => 4294967295
  | some p => p
theorem pe_m1 (o : Option Nat) : nI (pe o) = oI o := by
  cases o with
  | none => exact l_m1.symm
  | some p => rfl
section RGB
variable {s s1 t σ : Sto} {a c : Nat} {M : Ms} {A : Ga} {w : Wd} {W W' : Nat → Nat}
theorem R_hIn {u : Sto} {e : Nat} (h : RT a σ M W u) (r : RW W w) (i : Jv w) (he : e < wC w 2) (hh : ∀ x, x < e → M.2.2 5 x = hgt (eA (wE w)) x) (h1 : M.2.2 5 e = 1) (K : Sto → Option Sto) : ∃ u' M', F_X10_laysHeights_L28 a (nI e) fu 0 u K = K u' ∧ Mz M M' ∧ RT a σ M' W u' ∧ ∀ x, x < e + 1 → M'.2.2 5 x = hgt (eA (wE w)) x := by
  have hc := i.c
  have hx120 : ∀ x, hg1 (eA (wE w) e) (hgt (eA (wE w))) x ≤ 122 ∨ e < x := fun x => by
    by_cases hx : x ≤ e
    · left
      have := hg1_le (b := eA (wE w) e) (h := hgt (eA (wE w))) (m := 121) (n := x) (fun i hi => by have := hgt_le (eA (wE w)) i; omega)
      omega
    · right; omega
  obtain ⟨u', ⟨M', z1, t1, c1, d1⟩, e1⟩ := lpS (fun f j u => F_X10_laysHeights_L28 a (nI e) f (nI j) u K) K (fun j u => ∃ M', Mz M M' ∧ RT a σ M' W u ∧ (∀ x, x < e → M'.2.2 5 x = hgt (eA (wE w)) x) ∧ M'.2.2 5 e = hg1 (eA (wE w) e) (hgt (eA (wE w))) j) e (by
    intro j f u hj ⟨M', z1, t1, c1, d1⟩
    have hj1 := hgt_le (eA (wE w)) j
    have hb := hx120 j
    have a5j : iald u (a + 1 + 5) (nI j) = some (nI (hgt (eA (wE w)) j)) := by rw [t1.ar (k := 5) (by omega) (by omega) rfl (show j < 120 by omega), c1 j hj]
    have a5e : iald u (a + 1 + 5) (nI e) = some (nI (hg1 (eA (wE w) e) (hgt (eA (wE w))) j)) := by rw [t1.ar (k := 5) (by omega) (by omega) rfl (show e < 120 by omega), d1]
    have hst : hg1 (eA (wE w) e) (hgt (eA (wE w))) (j + 1) = if eA (wE w) e j && decide (hg1 (eA (wE w) e) (hgt (eA (wE w))) j ≤ hgt (eA (wE w)) j) then hgt (eA (wE w)) j + 1 else hg1 (eA (wE w) e) (hgt (eA (wE w))) j := rfl
    show ∃ s', _ ∧ F_X10_laysHeights_L28 _ _ _ _ _ _ = _
    rw [F_X10_laysHeights_L28, if_neg (by rw [nI_leI (by omega) (by omega)]; omega), R_isAhead t1 r i (by omega) he, bind_some', ifb0, t1.g9, bind_some', a5j, bind_some', bind_some', a5e, bind_some', bind_some', bind_some', a5j, bind_some', nI_add1 (hgt (eA (wE w)) j), nI_add1 j, hst]
    cases hA : eA (wE w) e j with
    | false => exact ⟨u, ⟨M', z1, t1, c1, d1⟩, rfl⟩
    | true =>
      rw [if_pos rfl, Bool.true_and]
      by_cases hle : hg1 (eA (wE w) e) (hgt (eA (wE w))) j ≤ hgt (eA (wE w)) j
      · obtain ⟨u2, e2, t2⟩ := t1.as (k := 5) (j := e) (hgt (eA (wE w)) j + 1) (by omega) (by omega) rfl (show e < 120 by omega)
        refine ⟨u2, ⟨uN M' 5 e (hgt (eA (wE w)) j + 1), z1.tr (Mz.uA (by omega)), t2, fun x hx => ?_, ?_⟩, ?_⟩
        · rw [uN_at, upN_n (by omega)]; exact c1 x hx
        · rw [uN_at, upN_s, if_pos (decide_eq_true hle)]
        · rw [if_neg (by rw [nI_ltI (by omega) (by omega)]; omega), e2, bind_some']
      · refine ⟨u, ⟨M', z1, t1, c1, ?_⟩, ?_⟩
        · rw [if_neg (by rw [decide_eq_false hle]; decide)]; exact d1
        · rw [if_pos (by rw [nI_ltI (by omega) (by omega)]; omega)]) (by
    intro f u _
    show F_X10_laysHeights_L28 _ _ _ _ _ _ = _
    rw [F_X10_laysHeights_L28, if_pos (Int32.le_refl _)]) fu u (by unfold fu; omega) ⟨M, Mz.rf, h, hh, h1⟩
  refine ⟨u', M', e1, z1, t1, fun x hx => ?_⟩
  by_cases hxe : x = e
  · subst hxe; rw [d1, ← hgt_eq]
  · exact c1 x (by omega)
theorem R_hOut {u : Sto} (h : RT a σ M W u) (hb : M.1 3 = 0) (r : RW W w) (i : Jv w) (K : Int32 → Sto → Option Sto) : ∃ u' M', F_X10_laysHeights_L9 a fu 0 0 u K = K (nI (mxh (eA (wE w)) (wC w 2))) u' ∧ Mz M M' ∧ RT a σ M' W u' ∧ ∀ x, x < wC w 2 → M'.2.2 5 x = hgt (eA (wE w)) x := by
  have hc := i.c
  obtain ⟨u', ⟨M', z1, t1, c1⟩, e1⟩ := lpS (fun f j u => F_X10_laysHeights_L9 a f (nI (mxh (eA (wE w)) j)) (nI j) u K) (fun u => K (nI (mxh (eA (wE w)) (wC w 2))) u) (fun j u => ∃ M', Mz M M' ∧ RT a σ M' W u ∧ ∀ x, x < j → M'.2.2 5 x = hgt (eA (wE w)) x) (wC w 2) (by
    intro j f u hj ⟨M', z1, t1, c1⟩
    have hb' : M'.1 3 = 0 := by rw [z1.1]; exact hb
    obtain ⟨u2, e2, t2⟩ := t1.as (k := 5) (j := j) 1 (by omega) (by omega) rfl (show j < 120 by omega)
    have hj1 := hgt_le (eA (wE w)) j
    have hm1 := mxh_le (A := eA (wE w)) j
    obtain ⟨u3, M3, e3, z3, t3, c3⟩ := R_hIn t2 r i hj (fun x hx => by rw [uN_at, upN_n (by omega)]; exact c1 x hx) (by rw [uN_at, upN_s]) (fun s15 => (gR s15 a 10 9).bind fun p16 => (iald s15 p16 (nI j)).bind fun x17 => if x17 ≤ nI (mxh (eA (wE w)) j) then F_X10_laysHeights_L9 a f (nI (mxh (eA (wE w)) j)) (nI j + 1) s15 K else (gR s15 a 10 9).bind fun p18 => (iald s15 p18 (nI j)).bind fun x19 => F_X10_laysHeights_L9 a f x19 (nI j + 1) s15 K)
    have n2 : iald u (a + 1) 2 = some (nI (wC w 2)) := (t1.raw hb' (j := 2) (by omega)).trans (by rw [r.c (by omega)])
    have a5 : iald u3 (a + 1 + 5) (nI j) = some (nI (hgt (eA (wE w)) j)) := by rw [t3.ar (k := 5) (by omega) (by omega) rfl (show j < 120 by omega), c3 j (by omega)]
    refine ⟨u3, ⟨M3, (z1.tr (Mz.uA (by omega))).tr z3, t3, c3⟩, ?_⟩
    show F_X10_laysHeights_L9 _ _ _ _ _ _ = _
    rw [F_X10_laysHeights_L9, t1.w, bind_some', n2, bind_some', if_neg (by rw [nI_leI (by omega) (by omega)]; omega), t1.g9, bind_some', show iast u (a + 1 + 5) (nI j) 1 = _ from e2, bind_some']
    refine e3.trans ?_
    rw [t3.g9, bind_some', a5, bind_some', bind_some', a5, bind_some', nI_add1]
    show _ = F_X10_laysHeights_L9 a f (nI (if hgt (eA (wE w)) j ≤ mxh (eA (wE w)) j then mxh (eA (wE w)) j else hgt (eA (wE w)) j)) (nI (j + 1)) u3 K
    by_cases hle : hgt (eA (wE w)) j ≤ mxh (eA (wE w)) j
    · rw [if_pos (by rw [nI_leI (by omega) (by omega)]; exact hle), if_pos hle]
    · rw [if_neg (by rw [nI_leI (by omega) (by omega)]; exact hle), if_neg hle]) (by
    intro f u ⟨M', z1, t1, c1⟩
    have hb' : M'.1 3 = 0 := by rw [z1.1]; exact hb
    have n2 : iald u (a + 1) 2 = some (nI (wC w 2)) := (t1.raw hb' (j := 2) (by omega)).trans (by rw [r.c (by omega)])
    show F_X10_laysHeights_L9 _ _ _ _ _ _ = _
    rw [F_X10_laysHeights_L9, t1.w, bind_some', n2, bind_some', if_pos (Int32.le_refl _)]) fu u (by unfold fu; omega) ⟨M, Mz.rf, h, fun x hx => absurd hx (Nat.not_lt_zero x)⟩
  exact ⟨u', M', e1, z1, t1, c1⟩
end RGB
