/-! ===== PURE 90: the longest row, as both find it ===== -/
theorem fb_lt {p q : Nat → Bool} {n y : Nat} (hy : y < n) (hp : p y = false) (hq : q y = true) (hs : ∀ k, k < n → p k = true → q k = true) : fb_ct p n < fb_ct q n := by
  have h1 := fb_ct_upd p true hy
  rw [hp, if_neg z_f, if_pos rfl] at h1
  have h2 : fb_ct (fun k => if k = y then true else p k) n ≤ fb_ct q n := fb_ct_sub (fun k hk h => by
    by_cases hky : k = y
    · rw [hky]; exact hq
    · rw [if_neg hky] at h; exact hs k hk h)
  omega
theorem bfr_irr (P : Nat → Option Nat) (R : Nat → Nat) (x : Nat) : bfr P R x x = false := by
  unfold bfr
  rw [decide_eq_false (Nat.lt_irrefl _), decide_eq_false (Nat.lt_irrefl _)]
  simp
theorem bfr_iff {P : Nat → Option Nat} {R : Nat → Nat} {x y : Nat} : bfr P R x y = true ↔ rv P R x < rv P R y ∨ (rv P R x = rv P R y ∧ x < y) := by
  unfold bfr
  rw [Bool.or_eq_true, Bool.and_eq_true]
  simp
section LRW
variable {A : Nat → Nat → Bool} {c Hm : Nat} {P : Nat → Option Nat} {R : Nat → Nat}
theorem rk_lt (hS : RkS A c Hm P R) {x y : Nat} (hx : x < c) (hy : y < c) (hxm : hgt A x ≤ Hm) (hxy : hgt A x = hgt A y) (hb : bfr P R y x = true) : R y < R x := by
  rw [(hS x hx hxm).2, (hS y hy (by omega)).2]
  refine fb_lt hy ?_ ?_ (fun z hz h => ?_)
  · rw [bfr_irr, Bool.and_false]
  · rw [decide_eq_true hxy.symm, hb]; rfl
  · rw [Bool.and_eq_true] at h ⊢
    refine ⟨decide_eq_true (by rw [of_decide_eq_true h.1, hxy]), ?_⟩
    have h1 := bfr_iff.mp h.2
    have h2 := bfr_iff.mp hb
    rw [bfr_iff]
    omega
/-- members of the longest rows to e -/
def lrM (A : Nat → Nat → Bool) (e : Nat) (F : Nat → Bool) (m : Nat) : Prop := F e = true ∧ (∀ x, F x = true → x ≤ e ∧ (x = e ∨ ∃ y, F y = true ∧ x < y ∧ A y x = true ∧ hgt A x + 1 = hgt A y)) ∧ ∀ y, m < y → F y = true → ∀ n, n < y → A y n = true → hgt A n + 1 = hgt A y → F n = true
theorem lrI_spec {e : Nat} : ∀ (n : Nat) (f : Nat → Bool) (x : Nat), lrI A e n f x = true ↔ f x = true ∨ (x < n ∧ A e x = true ∧ hgt A x + 1 = hgt A e)
  | 0, f, x => ⟨fun h => Or.inl h, fun h => h.elim id (fun y => by omega)⟩
  | n + 1, f, x => by
    have ih := lrI_spec (e := e) n f x
    have he : lrI A e (n + 1) f = if A e n && decide (hgt A n + 1 = hgt A e) then up (lrI A e n f) n true else lrI A e n f := rfl
    rw [he]
    by_cases hc : (A e n && decide (hgt A n + 1 = hgt A e)) = true
    · rw [if_pos hc]
      rw [Bool.and_eq_true] at hc
      by_cases hxn : x = n
      · subst hxn
        rw [up_s]
        exact ⟨fun _ => Or.inr ⟨by omega, hc.1, of_decide_eq_true hc.2⟩, fun _ => rfl⟩
      · rw [up_n _ _ hxn, ih]
        constructor
        · rintro (h | h)
          · exact Or.inl h
          · exact Or.inr ⟨by omega, h.2⟩
        · rintro (h | h)
          · exact Or.inl h
          · exact Or.inr ⟨by omega, h.2⟩
    · rw [if_neg hc, ih]
      constructor
      · rintro (h | h)
        · exact Or.inl h
        · exact Or.inr ⟨by omega, h.2⟩
      · rintro (h | h)
        · exact Or.inl h
        · refine Or.inr ⟨?_, h.2⟩
          have : x ≠ n := fun hxn => hc (by rw [← hxn, Bool.and_eq_true]; exact ⟨h.2.1, decide_eq_true h.2.2⟩)
          omega
theorem lrO_spec {e : Nat} : ∀ (m : Nat) (f : Nat → Bool), m ≤ e → lrM A e f m → lrM A e (lrO A m f) 0
  | 0, f, _, h => h
  | m + 1, f, hm, h => by
    show lrM A e (lrO A m (if f (m + 1) then lrI A (m + 1) (m + 1) f else f)) 0
    refine lrO_spec m _ (by omega) ?_
    obtain ⟨h1, h2, h3⟩ := h
    cases hf : f (m + 1) with
    | false =>
      rw [if_neg z_f]
      refine ⟨h1, h2, fun y hy hFy n hn => ?_⟩
      by_cases hym : y = m + 1
      · rw [hym, hf] at hFy; cases hFy
      · exact h3 y (by omega) hFy n hn
    | true =>
      rw [if_pos rfl]
      refine ⟨(lrI_spec _ f e).mpr (Or.inl h1), fun x hx => ?_, fun y hy hFy n hn ha hh => ?_⟩
      · rcases (lrI_spec _ f x).mp hx with h | h
        · obtain ⟨g1, g2⟩ := h2 x h
          refine ⟨g1, g2.imp id (fun ⟨y, y1, y2⟩ => ⟨y, (lrI_spec _ f y).mpr (Or.inl y1), y2⟩)⟩
        · exact ⟨by omega, Or.inr ⟨m + 1, (lrI_spec _ f (m + 1)).mpr (Or.inl hf), h.1, h.2.1, h.2.2⟩⟩
      · rcases (lrI_spec _ f y).mp hFy with h | h
        · by_cases hym : y = m + 1
          · subst hym
            exact (lrI_spec _ f n).mpr (Or.inr ⟨hn, ha, hh⟩)
          · exact (lrI_spec _ f n).mpr (Or.inl (h3 y (by omega) h n hn ha hh))
        · omega
theorem lrF_spec (e : Nat) : lrM A e (lrF A e) 0 := by
  unfold lrF
  refine lrO_spec e _ (Nat.le_refl _) ⟨up_s _ _ _, fun x hx => ?_, fun y hy hFy => ?_⟩
  · by_cases hxe : x = e
    · exact ⟨by omega, Or.inl hxe⟩
    · rw [up_n _ _ hxe] at hx; cases hx
  · rw [up_n _ _ (by omega)] at hFy
    cases hFy
theorem lrF_dn {e y n : Nat} (hA : ∀ x, A y x = true → x < y) (hF : lrF A e y = true) (ha : A y n = true) (hh : hgt A n + 1 = hgt A y) : lrF A e n = true := by
  have hn := hA n ha
  exact (lrF_spec (A := A) e).2.2 y (by omega) hF n hn ha hh
theorem lrF_h {e : Nat} : ∀ (d x : Nat), e - x ≤ d → lrF A e x = true → hgt A x ≤ hgt A e ∧ (hgt A x = hgt A e → x = e)
  | 0, x, hd, hx => by
    have := ((lrF_spec (A := A) e).2.1 x hx).1
    have : x = e := by omega
    subst this
    exact ⟨Nat.le_refl _, fun _ => rfl⟩
  | d + 1, x, hd, hx => by
    obtain ⟨h1, h2⟩ := (lrF_spec (A := A) e).2.1 x hx
    rcases h2 with h2 | ⟨y, y1, y2, y3, y4⟩
    · subst h2; exact ⟨Nat.le_refl _, fun _ => rfl⟩
    · have hy := ((lrF_spec (A := A) e).2.1 y y1).1
      have := lrF_h d y (by omega) y1
      exact ⟨by omega, fun h => by omega⟩
/-- j steps down the rows from e -/
def ddn (P : Nat → Option Nat) (e : Nat) : Nat → Nat
  | 0 => e
  | j + 1 => (P (ddn P e j)).getD 0
theorem rk_pv (hS : RkS A c Hm P R) {x : Nat} (hx : x < c) (hxm : hgt A x ≤ Hm) (hA : ∀ y, A x y = true → y < x) (h1 : 1 < hgt A x) : ∃ p, P x = some p ∧ p < x ∧ hgt A p + 1 = hgt A x ∧ A x p = true ∧ ∀ i, hgt A i + 1 = hgt A x → A x i = true → R p ≤ R i := by
  have hs := (hS x hx hxm).1
  cases hp : P x with
  | none =>
    rw [hp] at hs
    have hw := hg1_wit (b := A x) (h := hgt A) (n := x) (by rw [← hgt_eq]; exact h1)
    obtain ⟨i, i1, i2, i3⟩ := hw
    rw [← hgt_eq] at i3
    exact (pvB_none hs.symm i i1 i3 i2).elim
  | some p =>
    rw [hp] at hs
    obtain ⟨g1, g2, g3, g4⟩ := pvB_some hs.symm
    exact ⟨p, rfl, g1, g2, g3, fun i h h2 => g4 i (hA i h2) h h2⟩
theorem ddn_spec (hS : RkS A c Hm P R) (hm : ∀ x, x < c → hgt A x ≤ Hm) (hA : ∀ x, x < c → ∀ y, A x y = true → y < x) {e : Nat} (he : e < c) : ∀ j, j < hgt A e → ddn P e j ≤ e ∧ hgt A (ddn P e j) + j = hgt A e ∧ lrF A e (ddn P e j) = true ∧ (j + 1 < hgt A e → P (ddn P e j) = some (ddn P e (j + 1)) ∧ A (ddn P e j) (ddn P e (j + 1)) = true ∧ ddn P e (j + 1) < ddn P e j) := by
  intro j
  induction j with
  | zero =>
    intro h0
    refine ⟨Nat.le_refl _, rfl, (lrF_spec (A := A) e).1, fun h1 => ?_⟩
    obtain ⟨p, p1, p2, p3, p4, -⟩ := rk_pv hS he (hm e he) (hA e he) (by omega)
    show P e = some ((P e).getD 0) ∧ A e ((P e).getD 0) = true ∧ (P e).getD 0 < e
    rw [p1]
    exact ⟨rfl, p4, p2⟩
  | succ j ih =>
    intro hj
    obtain ⟨g1, g2, g3, g4⟩ := ih (by omega)
    obtain ⟨k1, k2, k3⟩ := g4 hj
    have hc1 : ddn P e j < c := by omega
    obtain ⟨p, p1, p2, p3, p4, -⟩ := rk_pv hS hc1 (hm _ hc1) (hA _ hc1) (by omega)
    have hpe : p = ddn P e (j + 1) := by
      rw [k1] at p1
      cases p1
      rfl
    subst hpe
    have hh : hgt A (ddn P e (j + 1)) + (j + 1) = hgt A e := by omega
    refine ⟨by omega, hh, lrF_dn (hA _ hc1) g3 k2 p3, fun h1 => ?_⟩
    have hc2 : ddn P e (j + 1) < c := by omega
    obtain ⟨q, q1, q2, q3, q4, -⟩ := rk_pv hS hc2 (hm _ hc2) (hA _ hc2) (by omega)
    show P (ddn P e (j + 1)) = some ((P (ddn P e (j + 1))).getD 0) ∧ A (ddn P e (j + 1)) ((P (ddn P e (j + 1))).getD 0) = true ∧ (P (ddn P e (j + 1))).getD 0 < ddn P e (j + 1)
    rw [q1]
    exact ⟨rfl, q4, q2⟩
/-- each member of a longest row ranks no lower than the row's own -/
theorem lr_rank (hS : RkS A c Hm P R) (hm : ∀ x, x < c → hgt A x ≤ Hm) (hA : ∀ x, x < c → ∀ y, A x y = true → y < x) {e : Nat} (he : e < c) : ∀ (d y : Nat), e - y ≤ d → lrF A e y = true → R (ddn P e (hgt A e - hgt A y)) ≤ R y := by
  intro d
  induction d with
  | zero =>
    intro y hd hy
    have := ((lrF_spec (A := A) e).2.1 y hy).1
    have : y = e := by omega
    subst this
    rw [Nat.sub_self]
    exact Nat.le_refl _
  | succ d ih =>
    intro y hd hy
    obtain ⟨h1, h2⟩ := (lrF_spec (A := A) e).2.1 y hy
    rcases h2 with h2 | ⟨z, y1, y2, y3, y4⟩
    · subst h2; rw [Nat.sub_self]; exact Nat.le_refl _
    · have hz := ((lrF_spec (A := A) e).2.1 z y1).1
      have hzc : z < c := by omega
      have hzh := (lrF_h _ z (Nat.le_refl _) y1).1
      have hyp := hgt_pos A y
      have i1 := ih z (by omega) y1
      obtain ⟨g1, g2, g3, g4⟩ := ddn_spec hS hm hA he (hgt A e - hgt A z) (by omega)
      obtain ⟨k1, k2, k3⟩ := g4 (by omega)
      rw [show hgt A e - hgt A y = hgt A e - hgt A z + 1 by omega]
      generalize hD : ddn P e (hgt A e - hgt A z) = D at *
      have hDc : D < c := by omega
      obtain ⟨p, p1, p2, p3, p4, p5⟩ := rk_pv hS hzc (hm z hzc) (hA z hzc) (by omega)
      have hnb : ¬ bfr P R z D = true := fun hb => by
        have := rk_lt hS hDc hzc (hm D hDc) (by omega) hb
        omega
      rw [bfr_iff] at hnb
      have r1 : rv P R z = R p := by unfold rv; rw [p1]
      have r2 : rv P R D = R (ddn P e (hgt A e - hgt A z + 1)) := by unfold rv; rw [k1]
      have := p5 y y4 y3
      omega
/-- the greedy row is the row of ranks -/
theorem lrT_eq (hS : RkS A c Hm P R) (hm : ∀ x, x < c → hgt A x ≤ Hm) (hA : ∀ x, x < c → ∀ y, A x y = true → y < x) {e k : Nat} (he : e < c) (hk : k < hgt A e) : (lrT A (lrF A e) k (e + 1)).1 = some (ddn P e (hgt A e - (k + 1))) := by
  have inv : ∀ n, n ≤ e + 1 → (lrT A (lrF A e) k n).2 ≤ k + 1 ∧ ((lrT A (lrF A e) k n).2 = 0 → (lrT A (lrF A e) k n).1 = none) ∧ (0 < (lrT A (lrF A e) k n).2 → (lrT A (lrF A e) k n).1 = some (ddn P e (hgt A e - (lrT A (lrF A e) k n).2)) ∧ ddn P e (hgt A e - (lrT A (lrF A e) k n).2) < n) ∧ ((lrT A (lrF A e) k n).2 ≤ k → n ≤ ddn P e (hgt A e - ((lrT A (lrF A e) k n).2 + 1))) := by
    intro n
    induction n with
    | zero => intro _; exact ⟨Nat.zero_le _, fun _ => rfl, fun h => absurd h (Nat.lt_irrefl 0), fun _ => Nat.zero_le _⟩
    | succ n ih =>
      intro hn
      obtain ⟨i1, i2, i3, i4⟩ := ih (by omega)
      have hst : lrT A (lrF A e) k (n + 1) = if decide ((lrT A (lrF A e) k n).2 ≤ k) && lrF A e n && decide (hgt A n = (lrT A (lrF A e) k n).2 + 1) && (match (lrT A (lrF A e) k n).1 with | none => true | some a => A n a) then (some n, (lrT A (lrF A e) k n).2 + 1) else lrT A (lrF A e) k n := rfl
      generalize lrT A (lrF A e) k n = T at *
      rw [hst]
      by_cases hTk : T.2 ≤ k
      · obtain ⟨g1, g2, g3, g4⟩ := ddn_spec hS hm hA he (hgt A e - (T.2 + 1)) (by omega)
        have hg2 : hgt A (ddn P e (hgt A e - (T.2 + 1))) = T.2 + 1 := by omega
        have i4' := i4 hTk
        by_cases hnD : n = ddn P e (hgt A e - (T.2 + 1))
        · have hcond : (decide (T.2 ≤ k) && lrF A e n && decide (hgt A n = T.2 + 1) && (match T.1 with | none => true | some a => A n a)) = true := by
            rw [decide_eq_true hTk, hnD, g3, hg2, decide_eq_true rfl]
            cases hT0 : T.2 with
            | zero => rw [i2 hT0]; rfl
            | succ m =>
              rw [(i3 (by omega)).1]
              obtain ⟨-, -, -, f4⟩ := ddn_spec hS hm hA he (hgt A e - (T.2 + 1)) (by omega)
              have := (f4 (by omega)).2.1
              rw [show hgt A e - (T.2 + 1) + 1 = hgt A e - T.2 by omega, hT0] at this
              rw [hT0]
              show (true && true && true && A (ddn P e (hgt A e - (m + 1 + 1))) (ddn P e (hgt A e - (m + 1)))) = true
              rw [this]
              rfl
          rw [if_pos hcond]
          refine ⟨by show T.2 + 1 ≤ k + 1; omega, fun h => absurd h (Nat.succ_ne_zero _), fun _ => ⟨by show some n = _; rw [hnD], by show ddn P e (hgt A e - (T.2 + 1)) < n + 1; omega⟩, fun h2 => ?_⟩
          show n + 1 ≤ ddn P e (hgt A e - (T.2 + 1 + 1))
          have h2' : T.2 + 1 ≤ k := h2
          obtain ⟨-, -, -, f4⟩ := ddn_spec hS hm hA he (hgt A e - (T.2 + 1 + 1)) (by omega)
          have := (f4 (by omega)).2.2
          rw [show hgt A e - (T.2 + 1 + 1) + 1 = hgt A e - (T.2 + 1) by omega] at this
          omega
        · have hcond : ¬ (decide (T.2 ≤ k) && lrF A e n && decide (hgt A n = T.2 + 1) && (match T.1 with | none => true | some a => A n a)) = true := fun hc => by
            rw [Bool.and_eq_true, Bool.and_eq_true, Bool.and_eq_true] at hc
            obtain ⟨⟨⟨-, c2⟩, c3⟩, c4⟩ := hc
            have c3' := of_decide_eq_true c3
            have hr := lr_rank hS hm hA he _ n (Nat.le_refl _) c2
            rw [c3'] at hr
            have hnc : n < c := by omega
            have hDc : ddn P e (hgt A e - (T.2 + 1)) < c := by omega
            have hnb : ¬ bfr P R n (ddn P e (hgt A e - (T.2 + 1))) = true := fun hb => by
              have := rk_lt hS hDc hnc (hm _ hDc) (by omega) hb
              omega
            rw [bfr_iff] at hnb
            cases hT0 : T.2 with
            | zero =>
              have hno : ∀ x, x < c → hgt A x = 1 → rv P R x = 0 := fun x hx hx1 => by
                unfold rv
                have := (hS x hx (hm x hx)).1
                cases hp : P x with
                | none => rfl
                | some p =>
                  rw [hp] at this
                  have := (pvB_some this.symm).2.1
                  have := hgt_pos A p
                  omega
              rw [hno n hnc (by omega), hno _ hDc (by omega)] at hnb
              omega
            | succ m =>
              obtain ⟨j1, j2⟩ := i3 (by omega)
              rw [j1] at c4
              obtain ⟨-, -, -, f4⟩ := ddn_spec hS hm hA he (hgt A e - (T.2 + 1)) (by omega)
              have f5 := (f4 (by omega)).1
              rw [show hgt A e - (T.2 + 1) + 1 = hgt A e - T.2 by omega] at f5
              obtain ⟨-, f6, -⟩ := ddn_spec hS hm hA he (hgt A e - T.2) (by omega)
              obtain ⟨p, p1, p2, p3, p4, p5⟩ := rk_pv hS hnc (hm n hnc) (hA n hnc) (by omega)
              have r1 : rv P R n = R p := by unfold rv; rw [p1]
              have r2 : rv P R (ddn P e (hgt A e - (T.2 + 1))) = R (ddn P e (hgt A e - T.2)) := by unfold rv; rw [f5]
              have := p5 (ddn P e (hgt A e - T.2)) (by omega) c4
              omega
          rw [if_neg hcond]
          refine ⟨i1, i2, fun h => ⟨(i3 h).1, by have := (i3 h).2; omega⟩, fun h => by omega⟩
      · rw [if_neg (by rw [decide_eq_false hTk]; simp)]
        exact ⟨i1, i2, fun h => ⟨(i3 h).1, by have := (i3 h).2; omega⟩, fun h => absurd h hTk⟩
  obtain ⟨i1, i2, i3, i4⟩ := inv (e + 1) (Nat.le_refl _)
  have hTk : (lrT A (lrF A e) k (e + 1)).2 = k + 1 := by
    by_cases h : (lrT A (lrF A e) k (e + 1)).2 ≤ k
    · have := i4 h
      have := (ddn_spec hS hm hA he (hgt A e - ((lrT A (lrF A e) k (e + 1)).2 + 1)) (by omega)).1
      omega
    · omega
  have := (i3 (by omega)).1
  rw [hTk] at this
  exact this
end LRW
