/-! ===== PURE 72: the reference's publics: letters ===== -/
section RFL
variable {s s1 t : Sto} {a c : Nat} {M : Ms} {A : Ga} {w : Wd} {W W' : Nat → Nat}
/-- the place behind the last letter may hold anything -/
theorem RW_slot (r : RW W w) (i : Iv w) {c : Nat} (hc : c < 25) (hl : (wT w c).length < 12) (hA : Ax (5178 + 147 * (12 * c + (wT w c).length)) W W') : RW W' w := by
  refine ⟨fun k hk => by rw [hA k (by omega)]; exact r.c hk, fun q hq => by rw [hA 7 (by omega)]; exact r.2.1 q hq, fun x hx => ⟨by rw [hA _ (by omega)]; exact r.k hx, (r.L hx).cg (i.j.L hx).lg (fun j a b => hA j (by omega)), (r.S hx).cg (i.j.S hx) (fun j a b => hA j (by omega))⟩, fun e he => (r.e he).cg (fun j a b => hA j (by have := i.c; omega)), fun q hq => ⟨by rw [hA _ (by omega)]; exact r.t hq, fun k l hk => (r.l hq hk).cg (fun j a b => hA j ?_)⟩⟩
  have hk2 := (List.getElem?_eq_some_iff.mp hk).1
  have h12 := i.t12 q hq
  have hne : 12 * q + k ≠ 12 * c + (wT w c).length := fun he => by
    have : q = c := by omega
    subst this
    omega
  omega
/-- a letter more -/
theorem RW_push (r : RW W w) (i : Iv w) {c : Nat} {l : Lt} (hc : c < 25) (hl : (wT w c).length < 12) (hL : RLe W (5178 + 147 * (12 * c + (wT w c).length)) l) : RW (upN W (5153 + c) ((wT w c).length + 1)) (wT' w (up (wT w) c (wT w c ++ [l]))) := by
  have hj : ∀ j, j ≠ 5153 + c → upN W (5153 + c) ((wT w c).length + 1) j = W j := fun j hj => upN_n hj
  refine ⟨fun k hk => by rw [hj k (by omega)]; exact r.c hk, fun q hq => by rw [hj 7 (by omega)]; exact r.2.1 q hq, fun x hx => ⟨by rw [hj _ (by omega)]; exact r.k hx, (r.L hx).cg (i.j.L hx).lg (fun j a b => hj j (by omega)), (r.S hx).cg (i.j.S hx) (fun j a b => hj j (by omega))⟩, fun e he => (r.e he).cg (fun j a b => hj j (by have := i.c; have : e < wC w 2 := he; omega)), fun q hq => ?_⟩
  show upN W (5153 + c) ((wT w c).length + 1) (5153 + q) = (up (wT w) c (wT w c ++ [l]) q).length ∧ ∀ k l', (up (wT w) c (wT w c ++ [l]) q)[k]? = some l' → RLe (upN W (5153 + c) ((wT w c).length + 1)) (5178 + 147 * (12 * q + k)) l'
  by_cases hqc : q = c
  · subst hqc
    rw [up_s, upN_s, List.length_append]
    refine ⟨rfl, fun k l' hk => ?_⟩
    have key : RLe W (5178 + 147 * (12 * q + k)) l' := by
      by_cases hkl : k < (wT w q).length
      · rw [List.getElem?_append_left hkl] at hk
        exact r.l hq hk
      · rw [List.getElem?_append_right (by omega)] at hk
        have hk0 : k - (wT w q).length = 0 := by
          have := (List.getElem?_eq_some_iff.mp hk).1
          simp at this
          omega
        rw [hk0] at hk
        have hkk : k = (wT w q).length := by omega
        subst hkk
        cases hk
        exact hL
    exact key.cg (fun j a b => hj j (by omega))
  · rw [up_n _ _ hqc, upN_n (by omega)]
    exact ⟨r.t hq, fun k l' hk => (r.l hq hk).cg (fun j a b => hj j (by omega))⟩
theorem R_writes (h : RM s a M) (k : RK M A) (h0 : M.1 0 = 0) (i : Iv A.1) (hl : A.2.2.1.length < 2 ^ 31 - 1) {x y : Nat} (hx : x < wC A.1 0) (hy : y < wC A.1 0) (hne : x ≠ y) (h12 : (wT A.1 (5 * x + y)).length < 12) : ∃ t M', F_X10_writes s a (nI x) (nI y) = some (nI (lEv (ltr (wE A.1) (wC A.1 1) (wL A.1 x) y)).length, t) ∧ RB t a M' (dne A (wri (stp A.1) x y) 2 x (lEv (ltr (wE A.1) (wC A.1 1) (wL A.1 x) y)).length) ∧ Eo a s t := by
  have hn := i.n5
  have hc25 : 5 * x + y < 25 := by omega
  have i1 := Iv_stp i
  obtain ⟨s1, M1, e1, b1, E1⟩ := R_steps h k h0 i
  obtain ⟨s2, W2, e2, t2, L2, A2⟩ := R_lays b1.rt i1.j (x := x) (by omega) (o := y) (p := 5178 + 147 * (12 * (5 * x + y) + (wT A.1 (5 * x + y)).length)) (by omega) (by omega) (by omega) (fun W' hA => RW_slot b1.rw i1 hc25 h12 hA)
  have r2 : RW W2 (stp A.1) := RW_slot b1.rw i1 hc25 h12 A2
  have r3 := RW_push r2 i1 hc25 h12 L2
  have j3 : Iv (wT' (stp A.1) (up (wT A.1) (5 * x + y) (wT A.1 (5 * x + y) ++ [ltr (wE A.1) (wC A.1 1) (wL A.1 x) y]))) := by
    refine Iv_row i1 (by omega) (by omega) (by rw [List.length_append]; exact h12) (fun l hl => ?_) (fun h => by have h' : x = y ∨ wC A.1 0 ≤ x ∨ wC A.1 0 ≤ y := h; omega)
    rcases List.mem_append.mp hl with h | h
    · exact (i1.2.2.2.2.2.1 x (by omega) y (by omega)).2.1 l h
    · rw [List.mem_singleton.mp h]
      exact Il_ltr (i1.L (by omega)) i.m3
  have r4 := RW_num r3 j3 (k := 3) (v := wC A.1 3 + 1) (by omega) (by omega)
  have r5 := RW_num r4 (Iv_num j3 (fun k h3 h4 h5 => up_n _ _ h3)) (k := 4) (v := wC A.1 4 + (lEv (ltr (wE A.1) (wC A.1 1) (wL A.1 x) y)).length) (by omega) (by omega)
  obtain ⟨s3, e3, t3⟩ := t2.wraw b1.b (j := 5153 + (5 * x + y)) (v := (wT A.1 (5 * x + y)).length + 1) (by omega)
  obtain ⟨s4, e4, t4⟩ := t3.wraw b1.b (j := 3) (v := wC A.1 3 + 1) (by omega)
  obtain ⟨s5, e5, t5⟩ := t4.wraw b1.b (j := 4) (v := wC A.1 4 + (lEv (ltr (wE A.1) (wC A.1 1) (wL A.1 x) y)).length) (by omega)
  obtain ⟨b6, E6⟩ := b1.op Mz.rf t5 r5 (Iv_wri i1 hx hy hne h12)
  obtain ⟨s7, M7, e7, b7, E7⟩ := R_notes b6 hl 2 x (lEv (ltr (wE A.1) (wC A.1 1) (wL A.1 x) y)).length
  refine ⟨s7, M7, ?_, b7, (E1.tr E6).tr E7⟩
  have e2' : F_X10_lays s1 a (nI (5178 + 147 * (12 * (5 * x + y) + (wT A.1 (5 * x + y)).length))) (nI x) (nI y) = some (nI (lEv (ltr (wE A.1) (wC A.1 1) (wL A.1 x) y)).length, s2) := e2
  have w3 : iald s2 (a + 1) (nI (5153 + (5 * x + y))) = some (nI (wT A.1 (5 * x + y)).length) := by rw [t2.raw b1.b (by omega), r2.t hc25]; rfl
  have w4 : iald s3 (a + 1) (nI 3) = some (nI (wC A.1 3)) := by rw [t3.raw b1.b (by omega), upN_n (by omega), r2.c (by omega)]; rfl
  have w5 : iald s4 (a + 1) (nI 4) = some (nI (wC A.1 4)) := by rw [t4.raw b1.b (by omega), upN_n (by omega), upN_n (by omega), r2.c (by omega)]; rfl
  have e7' : F_X10_notes s5 a (nI 2) (nI x) (nI (lEv (ltr (wE A.1) (wC A.1 1) (wL A.1 x) y)).length) = some (nI (lEv (ltr (wE A.1) (wC A.1 1) (wL A.1 x) y)).length, s7) := e7
  have hwt : F_X10_waits s1 a (nI x) (nI y) = some (nI (wT A.1 (5 * x + y)).length) := R_waitsM b1.1 b1.2.1 (by omega) (by omega)
  unfold F_X10_writes
  rw [chk_eq h.ok, e1, bind_some', hwt, bind_some', R_letterOf, bind_some', e2', wbs, t2.w, bind_some', R_couple, bind_some', l_5153, nI_add, w3, bind_some', nI_add1, e3, bind_some', t3.w, bind_some', l_3, w4, bind_some', nI_add1, e4, bind_some', t4.w, bind_some', l_4, w5, bind_some', nI_add, e5, bind_some', l_2, e7', wbs]
theorem R_canWrite (h : RM s a M) (k : RK M A) (h0 : M.1 0 = 0) (i : Iv A.1) {x y : Nat} (hx : x < 5) (hy : y < 5) : ∃ t M', F_X10_canWrite s a (nI x) (nI y) = some (nI (b2 (decide ((wT A.1 (5 * x + y)).length < 12) && !wcut A.1 x y)), t) ∧ RB t a M' A ∧ Eo a s t := by
  obtain ⟨s1, e1, h1, E1⟩ := h.b0 0
  have b1 : RB s1 a (uS M 3 0) A := ⟨h1, k.b0 (Nat.zero_le _), rfl, h0⟩
  have hl := i.tl hx hy
  refine ⟨s1, _, ?_, b1, E1⟩
  unfold F_X10_canWrite
  rw [chk_eq h.ok, show sV s a 10 3 (.int 0) = _ from e1, bind_some', R_waitsM b1.1 b1.2.1 hx hy, bind_some', R_isCut b1.rt b1.rw hx hy, bind_some', ifb0]
  by_cases h12 : (wT A.1 (5 * x + y)).length < 12
  · rw [if_neg (by rw [l_12, nI_leI (by omega) (by omega)]; omega), decide_eq_true h12]
    cases wcut A.1 x y <;> rfl
  · rw [if_pos (by rw [l_12, nI_leI (by omega) (by omega)]; omega), decide_eq_false h12]
    rfl
theorem R_write (h : RJ s a c A) (i : Iv A.1) (hl : A.2.2.1.length < 2 ^ 31 - 1) (x y : Int32) : Rj s a (cd2 eIO eIS) (F_X10_write s a x y) (aWri A x y) := by
  obtain ⟨s1, M, e1, h1, k1, t1, E1, o⟩ := h.go1
  have hn := i.n5
  unfold F_X10_write aWri
  rw [chk_eq o, e1, bind_some', R_areTwoM h1 k1 i, bind_some', ifb0]
  cases hx : two A.1 x y with
  | false => exact Rj.fl h1 k1 E1 cd2_1
  | true =>
    obtain ⟨⟨x1, x2⟩, ⟨y1, y2⟩, hne⟩ := two_tN hn hx
    generalize tN x = x' at x1 x2 hne
    generalize tN y = y' at y1 y2 hne
    subst x1
    subst y1
    obtain ⟨s2, M2, e2, b2, E2⟩ := R_canWrite h1 k1 t1 i (x := x') (y := y') (by omega) (by omega)
    rw [if_pos rfl, if_pos rfl, e2, wbs, ifb0]
    cases hp : (decide ((wT A.1 (5 * x' + y')).length < 12) && !wcut A.1 x' y') with
    | false => exact Rj.fl b2.1 b2.2.1 (E1.tr E2) (cd2_2 n_IS_IO)
    | true =>
      have h12 : (wT A.1 (5 * x' + y')).length < 12 := by
        rw [Bool.and_eq_true] at hp
        exact of_decide_eq_true hp.1
      obtain ⟨s3, M3, e3, b3, E3⟩ := R_writes b2.1 b2.2.1 b2.2.2.2 i hl x2 y2 hne h12
      rw [if_pos rfl, if_pos rfl, e3, wbs]
      exact Rj.ok b3 ((E1.tr E2).tr E3)
/-- why a letter can't be named -/
theorem R_whyNot (h : RM s a M) (k : RK M A) (h0 : M.1 0 = 0) (i : Iv A.1) (x y q : Int32) : ∃ t M', F_X10_whyNot s a x y q = some (nI (if two A.1 x y = true then (if inR q (wT A.1 (5 * tN x + tN y)).length = true then 0 else 2) else 1), t) ∧ RB t a M' A ∧ Eo a s t := by
  obtain ⟨s1, e1, h1, E1⟩ := h.b0 0
  have b1 : RB s1 a (uS M 3 0) A := ⟨h1, k.b0 (Nat.zero_le _), rfl, h0⟩
  have hn := i.n5
  refine ⟨s1, _, ?_, b1, E1⟩
  unfold F_X10_whyNot
  rw [chk_eq h.ok, show sV s a 10 3 (.int 0) = _ from e1, bind_some', R_areTwoM b1.1 b1.2.1 i, bind_some', ifb0]
  cases hx : two A.1 x y with
  | false => rfl
  | true =>
    obtain ⟨⟨x1, x2⟩, ⟨y1, y2⟩, hne⟩ := two_tN hn hx
    generalize tN x = x' at x1 x2 hne
    generalize tN y = y' at y1 y2 hne
    subst x1
    subst y1
    have hl := i.tl (show x' < 5 by omega) (show y' < 5 by omega)
    rw [if_pos rfl, if_pos rfl, R_waitsM b1.1 b1.2.1 (by omega) (by omega), bind_some', l_1, isIn_inR q (by omega), bind_some', ifb0]
    cases inR q (wT A.1 (5 * x' + y')).length <;> rfl
end RFL
