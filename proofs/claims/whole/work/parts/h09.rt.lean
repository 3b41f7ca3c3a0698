/-! ===== PURE 79: what is overstated, what is lost ===== -/
theorem fb_grid (p : Nat → Bool) : ∀ k, fb_ct p (5 * k) = sm (fun y => fb_ct (fun z => p (5 * y + z)) 5) k
  | 0 => rfl
  | k + 1 => by
    have h := fb_ct_split p (5 * k) 5
    show fb_ct p (5 * k + 5) = sm (fun y => fb_ct (fun z => p (5 * y + z)) 5) k + fb_ct (fun z => p (5 * k + z)) 5
    rw [h, fb_grid p k]
theorem sm_ext {f : Nat → Nat} {n m : Nat} (hnm : n ≤ m) (h : ∀ i, n ≤ i → i < m → f i = 0) : sm f m = sm f n := by
  obtain ⟨d, rfl⟩ : ∃ d, m = n + d := ⟨m - n, by omega⟩
  induction d with
  | zero => rfl
  | succ d ih =>
    show sm f (n + d) + f (n + d) = sm f n
    rw [h (n + d) (by omega) (by omega), ih (by omega) (fun i h1 h2 => h i h1 (by omega)), Nat.add_zero]
section OVS
variable {w : Wd} {x y z : Nat}
theorem ms_spec (i : Iv w) (s o : Nat) : ∀ c, c ≤ wC w 2 → (msT w s o c = 0 → ∀ e, e < c → eS (wE w) e = o → sHs (wL w s) e = true) ∧ (0 < msT w s o c → (∃ e, e < c ∧ eS (wE w) e = o ∧ sHs (wL w s) e = false ∧ eT (wE w) e = msT w s o c) ∧ ∀ e, e < c → eS (wE w) e = o → sHs (wL w s) e = false → msT w s o c ≤ eT (wE w) e)
  | 0, _ => ⟨fun _ e he => absurd he (Nat.not_lt_zero e), fun h => absurd h (Nat.lt_irrefl 0)⟩
  | c + 1, hc => by
    obtain ⟨h1, h2⟩ := ms_spec i s o c (by omega)
    have ht := i.t0 c (by omega)
    have hm : msT w s o (c + 1) = if msT w s o c = 0 ∧ eS (wE w) c = o ∧ sHs (wL w s) c = false then eT (wE w) c else msT w s o c := rfl
    by_cases hk : msT w s o c = 0 ∧ eS (wE w) c = o ∧ sHs (wL w s) c = false
    · rw [if_pos hk] at hm
      rw [hm]
      refine ⟨fun h => by omega, fun _ => ⟨⟨c, by omega, hk.2.1, hk.2.2, rfl⟩, fun e he h3 h4 => ?_⟩⟩
      by_cases hec : e = c
      · subst hec; exact Nat.le_refl _
      · have := h1 hk.1 e (by omega) h3
        rw [h4] at this
        cases this
    · rw [if_neg hk] at hm
      rw [hm]
      refine ⟨fun h0 e he h3 => ?_, fun h0 => ⟨?_, fun e he h3 h4 => ?_⟩⟩
      · by_cases hec : e = c
        · subst hec
          cases hh : sHs (wL w s) e with
          | true => rfl
          | false => exact absurd ⟨h0, h3, hh⟩ hk
        · exact h1 h0 e (by omega) h3
      · obtain ⟨⟨e, e1, e2⟩, -⟩ := h2 h0
        exact ⟨e, by omega, e2⟩
      · by_cases hec : e = c
        · subst hec
          obtain ⟨⟨e', e1, e2, e3, e4⟩, -⟩ := h2 h0
          have := i.2.2.2.1 e' e e1 (by omega) (e2.trans h3.symm)
          omega
        · exact (h2 h0).2 e (by omega) h3 h4
theorem ovC_eq (i : Iv w) (hy : y < wC w 0) (hz : z < 5) : ovC w x (5 * y + z) = ovr w x y z := by
  have h5 : (5 * y + z) / 5 = y := by omega
  have h6 : (5 * y + z) % 5 = z := by omega
  obtain ⟨h1, h2⟩ := ms_spec i y z (wC w 2) (Nat.le_refl _)
  unfold ovC ovr
  rw [h5, h6, decide_eq_true hy, Bool.true_and, Bool.eq_iff_iff, ex_iff]
  constructor
  · intro h
    rw [Bool.and_eq_true] at h
    obtain ⟨⟨e, e1, e2, e3, e4⟩, -⟩ := h2 (of_decide_eq_true h.1)
    refine ⟨e, e1, ?_⟩
    rw [decide_eq_true e2, e3, e4, decide_eq_true (of_decide_eq_true h.2)]
    rfl
  · rintro ⟨e, e1, h⟩
    rw [Bool.and_eq_true, Bool.and_eq_true] at h
    obtain ⟨h3, h4, h7⟩ := h
    have h8 : sHs (wL w y) e = false := by
      cases hh : sHs (wL w y) e with
      | false => rfl
      | true => rw [hh] at h7; cases h7
    have hp : 0 < msT w y z (wC w 2) := by
      cases hm : msT w y z (wC w 2) with
      | zero =>
        have := h1 hm e e1 (of_decide_eq_true h3)
        rw [h8] at this
        cases this
      | succ m => omega
    have := (h2 hp).2 e e1 (of_decide_eq_true h3) h8
    have h9 := of_decide_eq_true h4
    rw [decide_eq_true hp, decide_eq_true (show msT w y z (wC w 2) ≤ sTb (wL w x) (5 * y + z) by omega)]
    rfl
theorem ovr_out (i : Iv w) (hz : wC w 0 ≤ z) : ovr w x y z = false := by
  unfold ovr
  rw [ex_false]
  intro e he
  have := (i.2.2.1 e he).1
  rw [decide_eq_false (by omega), Bool.false_and]
theorem ov_sum (i : Iv w) : fb_ct (ovC w x) 25 = sm (fun y => fb_ct (ovr w x y) (wC w 0)) (wC w 0) := by
  have hn := i.n5
  have h := fb_grid (ovC w x) 5
  rw [show 5 * 5 = 25 from rfl] at h
  rw [h, sm_ext hn (fun y h1 h2 => ?_)]
  · refine sm_cg (fun y hy => ?_)
    rw [fb_ct_cong (fun z hz => ovC_eq (x := x) i hy hz), fb_ext hn (fun z h1 h2 => ovr_out i h1)]
  · refine fb_ct_zero.mpr (fun z hz => ?_)
    unfold ovC
    rw [decide_eq_false (by omega), Bool.false_and]
end OVS
section RFT
variable {s s1 t σ : Sto} {a c : Nat} {M : Ms} {A : Ga} {w : Wd} {W W' : Nat → Nat} {x : Nat}
def ovS (w : Wd) (x : Nat) : Nat := sm (fun y => fb_ct (ovr w x y) (wC w 0)) (wC w 0)
theorem R_overstatedOf (h : RT a σ M W s) (r : RW W w) (i : Jv w) (hx : x < 5) : F_X10_overstatedOf s a (nI x) = some (nI (ovS w x)) := by
  have hn := i.n5
  unfold F_X10_overstatedOf
  rw [chk_eq h.ok]
  refine lup (fun f j => F_X10_overstatedOf_L4 s a (nI x) f (nI (sm (fun y => fb_ct (ovr w x y) (wC w 0)) j)) (nI j) (fun x6 => some x6)) (wC w 0) _ ?_ ?_ fu (by unfold fu; omega)
  · intro j f hj
    have inner : ∀ (b : Nat) (K : Int32 → Option Int32), F_X10_overstatedOf_L16 s a (nI x) (nI j) fu (nI b) 0 K = K (nI (b + fb_ct (ovr w x j) (wC w 0))) := by
      intro b K
      refine lup (fun f q => F_X10_overstatedOf_L16 s a (nI x) (nI j) f (nI (b + fb_ct (ovr w x j) q)) (nI q) K) (wC w 0) _ ?_ ?_ fu (by unfold fu; omega)
      · intro q f hq
        rw [F_X10_overstatedOf_L16, show (0 : Int32) = nI 0 from rfl, R_of h (by omega), bind_some', r.c (by omega), if_neg (by rw [nI_leI (by omega) (by omega)]; omega), R_isOverstated h r i hx (by omega) (by omega), bind_some', R_flag, bind_some', nI_add, nI_add1, fb_ct_succ, Nat.add_assoc]
        cases ovr w x j q <;> rfl
      · intro f
        rw [F_X10_overstatedOf_L16, show (0 : Int32) = nI 0 from rfl, R_of h (by omega), bind_some', r.c (by omega), if_pos (Int32.le_refl _)]
    rw [F_X10_overstatedOf_L4, show F_X10_of s a 0 = _ from R_of h (x := 0) (by omega), bind_some', r.c (by omega), if_neg (by rw [nI_leI (by omega) (by omega)]; omega), inner, nI_add1]
    rfl
  · intro f
    rw [F_X10_overstatedOf_L4, show F_X10_of s a 0 = _ from R_of h (x := 0) (by omega), bind_some', r.c (by omega), if_pos (Int32.le_refl _)]
    rfl
theorem R_overstatedAll (h : RT a σ M W s) (r : RW W w) (i : Jv w) : F_X10_overstatedAll s a = some (nI (sm (ovS w) (wC w 0))) := by
  have hn := i.n5
  unfold F_X10_overstatedAll
  rw [chk_eq h.ok]
  refine lup (fun f j => F_X10_overstatedAll_L4 s a f (nI (sm (ovS w) j)) (nI j) (fun x6 => some x6)) (wC w 0) _ ?_ ?_ fu (by unfold fu; omega)
  · intro j f hj
    rw [F_X10_overstatedAll_L4, show F_X10_of s a 0 = _ from R_of h (x := 0) (by omega), bind_some', r.c (by omega), if_neg (by rw [nI_leI (by omega) (by omega)]; omega), R_overstatedOf h r i (by omega), bind_some', nI_add, nI_add1]
    rfl
  · intro f
    rw [F_X10_overstatedAll_L4, show F_X10_of s a 0 = _ from R_of h (x := 0) (by omega), bind_some', r.c (by omega), if_pos (Int32.le_refl _)]
/-- marks on the reference's fourth array -/
def LR (a : Nat) (σ : Sto) (M : Ms) (W : Nat → Nat) (u : Sto) (p : Nat → Bool) : Prop := ∃ M', Mz M M' ∧ RT a σ M' W u ∧ ∀ e, e < 120 → M'.2.2 4 e = b2 (p e)
theorem LR.ex {u : Sto} {p q : Nat → Bool} (h : LR a σ M W u p) (hq : ∀ e, e < 120 → q e = p e) : LR a σ M W u q := by
  obtain ⟨M', h1, h2, h3⟩ := h
  exact ⟨M', h1, h2, fun e he => by rw [hq e he]; exact h3 e he⟩
theorem LR.mk {u : Sto} {p : Nat → Bool} {e : Nat} (h : LR a σ M W u p) (he : e < 120) : ∃ u', zast u (a + 1 + 4) (nI e) 1 = some u' ∧ LR a σ M W u' (up p e true) := by
  obtain ⟨M', h1, h2, h3⟩ := h
  obtain ⟨u', e1, t1⟩ := h2.zs (k := 4) (j := e) 1 (by omega) (by omega) rfl (show e < 120 from he) (Or.inr rfl)
  refine ⟨u', e1, uN M' 4 e 1, h1.tr (Mz.uA (by omega)), t1, fun q hq => ?_⟩
  rw [uN_at]
  unfold upN up
  by_cases hqe : q = e
  · rw [if_pos hqe, if_pos hqe]; rfl
  · rw [if_neg hqe, if_neg hqe]; exact h3 q hq
theorem up_or {p : Nat → Bool} {e q : Nat} : up p e true q = (p q || decide (q = e)) := by
  unfold up
  by_cases h : q = e
  · rw [if_pos h, decide_eq_true h, Bool.or_true]
  · rw [if_neg h, decide_eq_false h, Bool.or_false]
theorem R_laysLetter {u : Sto} {p : Nat → Bool} {o : Nat} {l : Lt} (h : LR a σ M W u p) (r : RW W w) (i : Jv w) (hx : x < 5) (hL : RLe W o l) (hle : ∀ e ∈ lEv l, e < wC w 2) (ho : o + 147 ≤ 49425) : ∃ u', F_X10_laysLetter u a (nI o) (nI x) = some u' ∧ LR a σ M W u' (fun e => p e || ((lEv l).contains e && !knw (wE w) (wL w x) x e)) := by
  have hl := hL.2.2.1
  have hc := i.c
  obtain ⟨u', q1, e1⟩ := lpS (fun f j u => F_X10_laysLetter_L2 a (nI o) (nI x) f (nI j) u (fun s6 => some s6)) (fun u => some u) (fun j u => LR a σ M W u (fun e => p e || (((lEv l).take j).contains e && !knw (wE w) (wL w x) x e))) (lEv l).length (by
    intro j f u hj hq
    obtain ⟨M', h1, h2, h3⟩ := id hq
    have hxl : W (o + 2 + j) = (lEv l)[j] := hL.2.2.2.1 j _ (List.getElem?_eq_getElem hj)
    have hb := hle _ (List.getElem_mem hj)
    have hwL : W (o + 1) = (lEv l).length := hL.2.1
    show ∃ u', _ ∧ F_X10_laysLetter_L2 _ _ _ _ _ _ _ = _
    rw [F_X10_laysLetter_L2, nI_add1, R_of h2 (by omega), bind_some', hwL, if_neg (by rw [nI_leI (by omega) (by omega)]; omega), show (2 : Int32) = nI 2 from rfl, nI_add, nI_add, R_of h2 (by omega), bind_some', hxl, R_isKnown h2 r i hx hx hb, bind_some', ifb0, h2.g8, bind_some']
    cases hk : knw (wE w) (wL w x) x (lEv l)[j] with
    | true =>
      rw [if_pos rfl, nI_add1]
      refine ⟨u, hq.ex (fun e he => ?_), rfl⟩
      rw [take_contains _ hj]
      by_cases hee : e = (lEv l)[j]
      · rw [hee, hk]; simp
      · rw [decide_eq_false hee, Bool.or_false]
    | false =>
      obtain ⟨u2, e2, q2⟩ := hq.mk (e := (lEv l)[j]) (by omega)
      rw [if_neg z_f, e2, bind_some', nI_add1]
      refine ⟨u2, q2.ex (fun e he => ?_), rfl⟩
      rw [take_contains _ hj, up_or]
      by_cases hee : e = (lEv l)[j]
      · rw [decide_eq_true hee, hee, hk]; simp
      · rw [decide_eq_false hee, Bool.or_false, Bool.or_false]) (by
    intro f u hq
    obtain ⟨M', h1, h2, h3⟩ := hq
    have hwL : W (o + 1) = (lEv l).length := hL.2.1
    show F_X10_laysLetter_L2 _ _ _ _ _ _ _ = _
    rw [F_X10_laysLetter_L2, nI_add1, R_of h2 (by omega), bind_some', hwL, if_pos (Int32.le_refl _)]) fu u (by unfold fu; omega) (h.ex (fun e he => by simp))
  obtain ⟨M', h1, h2, h3⟩ := h
  refine ⟨u', ?_, q1.ex (fun e he => by rw [List.take_length])⟩
  unfold F_X10_laysLetter
  rw [chk_eq h2.ok]
  exact e1
end RFT
