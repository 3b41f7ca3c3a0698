/-! ===== PURE 73: the reference's publics: letters that come, are lost, come twice ===== -/
theorem z_1 : ¬ nI 1 = 0 := by decide
theorem z_2 : ¬ nI 2 = 0 := by decide
theorem z_3 : ¬ nI 3 = 0 := by decide
theorem z_f : ¬ (false = true) := by decide
section RFM
variable {s s1 t : Sto} {a c : Nat} {M : Ms} {A : Ga} {w : Wd} {W W' : Nat → Nat}
theorem R_comesNow (h : RM s a M) (k : RK M A) (h0 : M.1 0 = 0) (i : Iv A.1) (hl : A.2.2.1.length < 2 ^ 31 - 1) {x y q : Nat} (hx : x < wC A.1 0) (hy : y < wC A.1 0) (hne : x ≠ y) (hq : q < (wT A.1 (5 * x + y)).length) : ∃ t M', F_X10_comesNow s a (nI x) (nI y) (nI q) = some (nI (frN A.1 x y q), t) ∧ RB t a M' (dne A (com (stp A.1) x y q) 3 x (frN A.1 x y q)) ∧ Eo a s t := by
  have hn := i.n5
  have hc25 : 5 * x + y < 25 := by omega
  have i1 := Iv_stp i
  have h12 := i.tl (show x < 5 by omega) (show y < 5 by omega)
  have hg : (wT (stp A.1) (5 * x + y))[q]? = some (wlt A.1 x y q) := wlt_get hq
  have hIl : Il (wC A.1 0) (wC A.1 2) x (wE A.1) (wlt A.1 x y q) := i.lt (by omega) (by omega) (wlt_get hq)
  obtain ⟨s1, M1, e1, b1, E1⟩ := R_steps h k h0 i
  obtain ⟨s2, W2, e2, t2, c2, d2⟩ := R_cpy (a := a) (σ := s1) (M := M1) (fun f j s => F_X10_comesNow_L7 a (nI x) (nI y) (nI q) f (nI j) s (fun s7 => (F_X10_isGone s7 a (nI x) (nI y) (nI q)).bind fun s8 => wb (F_X10_comes s8 a (49278 : Int32) (nI x) (nI y)) fun x10 s9 => (gR s9 a 10 1).bind fun p11 => (iald s9 p11 (5 : Int32)).bind fun x12 => (gR s9 a 10 1).bind fun p13 => (iald s9 p13 (49279 : Int32)).bind fun x14 => (iast s9 p11 (5 : Int32) (x12 + (x14 - x10))).bind fun s15 => wb (F_X10_notes s15 a (3 : Int32) (nI x) x10) fun x17 s16 => some (x17, s16))) (fun s7 => (F_X10_isGone s7 a (nI x) (nI y) (nI q)).bind fun s8 => wb (F_X10_comes s8 a (49278 : Int32) (nI x) (nI y)) fun x10 s9 => (gR s9 a 10 1).bind fun p11 => (iald s9 p11 (5 : Int32)).bind fun x12 => (gR s9 a 10 1).bind fun p13 => (iald s9 p13 (49279 : Int32)).bind fun x14 => (iast s9 p11 (5 : Int32) (x12 + (x14 - x10))).bind fun s15 => wb (F_X10_notes s15 a (3 : Int32) (nI x) x10) fun x17 s16 => some (x17, s16)) 147 (5178 + 147 * (12 * (5 * x + y) + q)) 49278 (by unfold fu; omega) (by omega) (by omega) (by omega) (by
    intro j f s s' W' hj hR hi
    rw [b1.b, Nat.zero_add] at hi
    show F_X10_comesNow_L7 _ _ _ _ _ _ _ _ = _
    rw [F_X10_comesNow_L7, if_neg (by rw [l_147, nI_leI (by omega) (by omega)]; omega), hR.w, bind_some', bind_some', R_letterOf, bind_some', nI_add, hR.raw b1.b (by omega), bind_some', l_49278, nI_add, hi, bind_some', nI_add1]) (by
    intro f s
    show F_X10_comesNow_L7 _ _ _ _ _ _ _ _ = _
    rw [F_X10_comesNow_L7, if_pos (by rw [l_147]; exact Int32.le_refl _)]) b1.rt
  have r2 : RW W2 (stp A.1) := b1.rw.hand i1.j i1.t12 (fun j hj => d2 j (Or.inl hj))
  have L2 : RLe W2 49278 (wlt A.1 x y q) := (b1.rw.l hc25 hg).mv (fun j hj => c2 j hj)
  obtain ⟨s3, W3, e3, t3, r3, d3⟩ := R_isGone t2 r2 i1 b1.b (show x < 5 by omega) (show y < 5 by omega) hq
  have L3 : RLe W3 49278 (wlt A.1 x y q) := L2.cg (fun j h1 h2 => d3 j h1)
  have i3 := Iv_los i1 hx hy hne q
  obtain ⟨s4, M4, e4, z4, W4, t4, r4, g4⟩ := R_comes t3 r3 i3.j (x := y) (show y < 5 by omega) (o := 49278) (y := x) (show x < 5 by omega) L3 (by omega) (by omega) (fun j hj => Nat.le_trans (hIl.2.1 j hj).1 i.c) (fun j hj hz => (hIl.2.1 j hj).2 hz) (fun e he => (hIl.2.2.2 e he).1) hIl.1 (frN_len i hx hy hq)
  have j4 : Iv (wL' (los (stp A.1) x y q) (up (wL A.1) y (rcv (wE A.1) (wC A.1 0) (wC A.1 6 + 1) (wlt A.1 x y q) x y (wL A.1 y)))) := by
    have hR : Is (wC A.1 0) (wC A.1 2) y (wE A.1) (rcv (wE A.1) (wC A.1 0) (wC A.1 6 + 1) (wlt A.1 x y q) x y (wL A.1 y)) := Is_rcv (i.L (by omega)) hIl i.ie hx hy hn
    refine Iv_live i3 hR (fun e he => ?_)
    rcases (gn_fold (p := wC A.1 6 + 1) (y := x) (frs (wE A.1) (wlt A.1 x y q) (wL A.1 y) y) (sHw (wL A.1 y))).2 e he with ⟨b1, b2, b3⟩ | ⟨b1, b2, b3⟩
    · have h6 := i.wh (show y < 5 by omega) b1
      exact ⟨Nat.le_trans h6.1 (Nat.le_of_eq b3.symm), Nat.le_trans (Nat.le_of_eq b3) (Nat.le_succ_of_le h6.2)⟩
    · have he2 : e < wC A.1 2 := (hIl.2.2.2 e (List.mem_filter.mp b3).1).1
      exact ⟨Nat.le_trans (Nat.le_succ_of_le (i.ePl e he2)) (Nat.le_of_eq b2.symm), Nat.le_of_eq b2⟩
  have hb4 : M4.1 3 = 0 := by rw [z4.1]; exact b1.b
  have r5 := RW_num r4 j4 (k := 5) (v := wC A.1 5 + ((lEv (wlt A.1 x y q)).length - frN A.1 x y q)) (by omega) (by omega)
  obtain ⟨s5, e5, t5⟩ := t4.wraw hb4 (j := 5) (v := wC A.1 5 + ((lEv (wlt A.1 x y q)).length - frN A.1 x y q)) (by omega)
  obtain ⟨b6, E6⟩ := b1.op z4 t5 r5 (Iv_com i1 hx hy hne hq)
  obtain ⟨s7, M7, e7, b7, E7⟩ := R_notes b6 hl 3 x (frN A.1 x y q)
  refine ⟨s7, M7, ?_, b7, (E1.tr E6).tr E7⟩
  have e4' : F_X10_comes s3 a (49278 : Int32) (nI x) (nI y) = some (nI (frN A.1 x y q), s4) := e4
  have e7' : F_X10_notes s5 a 3 (nI x) (nI (frN A.1 x y q)) = some (nI (frN A.1 x y q), s7) := e7
  have w5 : iald s4 (a + 1) 5 = some (nI (wC A.1 5)) := (t4.raw hb4 (j := 5) (by omega)).trans (by rw [r4.c (by omega)]; rfl)
  have w9 : iald s4 (a + 1) 49279 = some (nI (lEv (wlt A.1 x y q)).length) := (t4.raw hb4 (j := 49279) (by omega)).trans (by rw [g4 _ (by omega), show W3 49279 = _ from L3.2.1])
  have hfl : frN A.1 x y q ≤ (lEv (wlt A.1 x y q)).length := List.length_filter_le ..
  unfold F_X10_comesNow
  rw [chk_eq h.ok, e1, bind_some']
  refine e2.trans ?_
  rw [e3, bind_some', e4', wbs, t4.w, bind_some', w5, bind_some', bind_some', w9, bind_some', pk_sub hfl, nI_add, show iast s4 (a + 1) 5 _ = _ from e5, bind_some', e7', wbs]
theorem R_come (h : RJ s a c A) (i : Iv A.1) (hl : A.2.2.1.length < 2 ^ 31 - 1) (x y q : Int32) : Rj s a (cd3 eIO eNS eIS) (F_X10_come s a x y q) (aCom A x y q) := by
  obtain ⟨s1, M, e1, h1, k1, t1, E1, o⟩ := h.go1
  obtain ⟨s2, M2, e2, b2, E2⟩ := R_whyNot h1 k1 t1 i x y q
  have hn := i.n5
  unfold F_X10_come aCom
  rw [chk_eq o, e1, bind_some', e2, wbs, jn_eq]
  cases hx : two A.1 x y with
  | false =>
    rw [if_neg z_f, if_neg z_f, if_neg z_1]
    dsimp only
    rw [if_neg z_1]
    exact Rj.fl b2.1 b2.2.1 (E1.tr E2) cd3_1
  | true =>
    obtain ⟨⟨x1, x2⟩, ⟨y1, y2⟩, hne⟩ := two_tN hn hx
    generalize tN x = x' at x1 x2 hne
    generalize tN y = y' at y1 y2 hne
    subst x1
    subst y1
    have h12 := i.tl (show x' < 5 by omega) (show y' < 5 by omega)
    rw [if_pos rfl, if_pos rfl]
    cases hq : inR q (wT A.1 (5 * x' + y')).length with
    | false =>
      rw [if_neg z_f, if_neg z_f, if_neg z_2]
      dsimp only
      rw [if_neg z_2]
      exact Rj.fl b2.1 b2.2.1 (E1.tr E2) (cd3_2 n_NS_IO)
    | true =>
      obtain ⟨q1, q2⟩ := inR_tN (by omega) hq
      generalize tN q = q' at q1 q2
      subst q1
      rw [if_pos rfl, if_pos rfl, if_pos nI_0, R_isCut b2.rt b2.rw (by omega) (by omega), bind_some', ifb0]
      cases hw : wcut A.1 x' y' with
      | true =>
        rw [if_pos rfl, show (3 : Int32) = nI 3 from rfl]
        dsimp only
        rw [if_neg z_3]
        exact Rj.fl b2.1 b2.2.1 (E1.tr E2) (cd3_3 n_IS_IO n_IS_NS)
      | false =>
        obtain ⟨s3, M3, e3, b3, E3⟩ := R_comesNow b2.1 b2.2.1 b2.2.2.2 i hl x2 y2 hne q2
        rw [if_neg z_f, if_neg z_f]
        dsimp only
        rw [if_pos nI_0, e3, wbs]
        exact Rj.ok b3 ((E1.tr E2).tr E3)
theorem R_lose (h : RJ s a c A) (i : Iv A.1) (hl : A.2.2.1.length < 2 ^ 31 - 1) (x y q : Int32) : Rj s a (cd2 eIO eNS) (F_X10_lose s a x y q) (aLos A x y q) := by
  obtain ⟨s1, M, e1, h1, k1, t1, E1, o⟩ := h.go1
  obtain ⟨s2, M2, e2, b2, E2⟩ := R_whyNot h1 k1 t1 i x y q
  have hn := i.n5
  unfold F_X10_lose aLos
  rw [chk_eq o, e1, bind_some', e2, wbs]
  cases hx : two A.1 x y with
  | false =>
    rw [if_neg z_f, if_neg z_f, if_neg z_1]
    exact Rj.fl b2.1 b2.2.1 (E1.tr E2) cd2_1
  | true =>
    obtain ⟨⟨x1, x2⟩, ⟨y1, y2⟩, hne⟩ := two_tN hn hx
    generalize tN x = x' at x1 x2 hne
    generalize tN y = y' at y1 y2 hne
    subst x1
    subst y1
    have h12 := i.tl (show x' < 5 by omega) (show y' < 5 by omega)
    rw [if_pos rfl, if_pos rfl]
    cases hq : inR q (wT A.1 (5 * x' + y')).length with
    | false =>
      rw [if_neg z_f, if_neg z_f, if_neg z_2]
      exact Rj.fl b2.1 b2.2.1 (E1.tr E2) (cd2_2 n_NS_IO)
    | true =>
      obtain ⟨q1, q2⟩ := inR_tN (by omega) hq
      generalize tN q = q' at q1 q2
      subst q1
      have i1 := Iv_stp i
      obtain ⟨s3, M3, e3, b3, E3⟩ := R_steps b2.1 b2.2.1 b2.2.2.2 i
      obtain ⟨s4, W4, e4, t4, r4, d4⟩ := R_isGone b3.rt b3.rw i1 b3.b (show x' < 5 by omega) (show y' < 5 by omega) q2
      obtain ⟨b5, E5⟩ := b3.op Mz.rf t4 r4 (Iv_los i1 x2 y2 hne q')
      have hw : F_X10_waits s4 a (nI x') (nI y') = some (nI ((wT A.1 (5 * x' + y')).length - 1)) := by
        have := R_waitsM b5.1 b5.2.1 (show x' < 5 by omega) (show y' < 5 by omega)
        rw [this]
        show some (nI (up (wT A.1) (5 * x' + y') ((wT A.1 (5 * x' + y')).eraseIdx q') (5 * x' + y')).length) = _
        rw [up_s, List.length_eraseIdx, if_pos q2]
      obtain ⟨s6, M6, e6, b6, E6⟩ := R_notes b5 hl 4 x' ((wT A.1 (5 * x' + y')).length - 1)
      have e6' : F_X10_notes s4 a 4 (nI x') (nI ((wT A.1 (5 * x' + y')).length - 1)) = some (nI ((wT A.1 (5 * x' + y')).length - 1), s6) := e6
      rw [if_pos rfl, if_pos rfl, if_pos nI_0, e3, bind_some', e4, bind_some', hw, bind_some', e6', wbs]
      exact Rj.ok b6 ((((E1.tr E2).tr E3).tr E5).tr E6)
theorem R_twice (h : RJ s a c A) (i : Iv A.1) (hl : A.2.2.1.length < 2 ^ 31 - 1) (x y q : Int32) : Rj s a (cd3 eIO eNS eIS) (F_X10_twice s a x y q) (aTwi A x y q) := by
  obtain ⟨s1, M, e1, h1, k1, t1, E1, o⟩ := h.go1
  obtain ⟨s2, M2, e2, b2, E2⟩ := R_whyNot h1 k1 t1 i x y q
  have hn := i.n5
  unfold F_X10_twice aTwi
  rw [chk_eq o, e1, bind_some', e2, wbs, jn_eq]
  cases hx : two A.1 x y with
  | false =>
    rw [if_neg z_f, if_neg z_f, if_neg z_1]
    dsimp only
    rw [if_neg z_1]
    exact Rj.fl b2.1 b2.2.1 (E1.tr E2) cd3_1
  | true =>
    obtain ⟨⟨x1, x2⟩, ⟨y1, y2⟩, hne⟩ := two_tN hn hx
    generalize tN x = x' at x1 x2 hne
    generalize tN y = y' at y1 y2 hne
    subst x1
    subst y1
    have h12 := i.tl (show x' < 5 by omega) (show y' < 5 by omega)
    have hc25 : 5 * x' + y' < 25 := by omega
    rw [if_pos rfl, if_pos rfl]
    cases hq : inR q (wT A.1 (5 * x' + y')).length with
    | false =>
      rw [if_neg z_f, if_neg z_f, if_neg z_2]
      dsimp only
      rw [if_neg z_2]
      exact Rj.fl b2.1 b2.2.1 (E1.tr E2) (cd3_2 n_NS_IO)
    | true =>
      obtain ⟨q1, q2⟩ := inR_tN (by omega) hq
      generalize tN q = q' at q1 q2
      subst q1
      rw [if_pos rfl, if_pos rfl, if_pos nI_0, R_waitsM b2.1 b2.2.1 (by omega) (by omega), bind_some', l_12, ifE (by omega) (by omega)]
      by_cases hf : (wT A.1 (5 * x' + y')).length < 12
      · rw [if_pos hf, if_neg (by omega)]
        dsimp only
        rw [if_pos nI_0]
        have i1 := Iv_stp i
        have hg : (wT (stp A.1) (5 * x' + y'))[q']? = some (wlt A.1 x' y' q') := wlt_get q2
        obtain ⟨s3, M3, e3, b3, E3⟩ := R_steps b2.1 b2.2.1 b2.2.2.2 i
        have hw : F_X10_waits s3 a (nI x') (nI y') = some (nI (wT A.1 (5 * x' + y')).length) := R_waitsM b3.1 b3.2.1 (by omega) (by omega)
        rw [e3, bind_some', hw, bind_some', R_letterOf, bind_some']
        obtain ⟨s4, W4, e4, t4, c4, d4⟩ := R_cpy (a := a) (σ := s3) (M := M3) (fun f j s => F_X10_twice_L65 a (nI x') (nI y') (nI q') (nI (5178 + 147 * (12 * (5 * x' + y') + (wT A.1 (5 * x' + y')).length))) f (nI j) s (fun s14 => (gR s14 a 10 1).bind fun p15 => (F_X10_couple (nI x') (nI y')).bind fun x16 => (iald s14 p15 ((5153 : Int32) + x16)).bind fun x17 => (iast s14 p15 ((5153 : Int32) + x16) (x17 + (1 : Int32))).bind fun s18 => (F_X10_waits s18 a (nI x') (nI y')).bind fun x19 => wb (F_X10_notes s18 a (5 : Int32) (nI x') x19) fun x21 s20 => some (x21, s20))) (fun s14 => (gR s14 a 10 1).bind fun p15 => (F_X10_couple (nI x') (nI y')).bind fun x16 => (iald s14 p15 ((5153 : Int32) + x16)).bind fun x17 => (iast s14 p15 ((5153 : Int32) + x16) (x17 + (1 : Int32))).bind fun s18 => (F_X10_waits s18 a (nI x') (nI y')).bind fun x19 => wb (F_X10_notes s18 a (5 : Int32) (nI x') x19) fun x21 s20 => some (x21, s20)) 147 (5178 + 147 * (12 * (5 * x' + y') + q')) (5178 + 147 * (12 * (5 * x' + y') + (wT A.1 (5 * x' + y')).length)) (by unfold fu; omega) (by omega) (by omega) (by omega) (by
          intro j f s s' W' hj hR hi
          rw [b3.b, Nat.zero_add] at hi
          show F_X10_twice_L65 _ _ _ _ _ _ _ _ _ = _
          rw [F_X10_twice_L65, if_neg (by rw [l_147, nI_leI (by omega) (by omega)]; omega), hR.w, bind_some', bind_some', R_letterOf, bind_some', nI_add, hR.raw b3.b (by omega), bind_some', nI_add, hi, bind_some', nI_add1]) (by
          intro f s
          show F_X10_twice_L65 _ _ _ _ _ _ _ _ _ = _
          rw [F_X10_twice_L65, if_pos (by rw [l_147]; exact Int32.le_refl _)]) b3.rt
        have A4 : Ax (5178 + 147 * (12 * (5 * x' + y') + (wT (stp A.1) (5 * x' + y')).length)) (M3.2.2 0) W4 := fun j hj => d4 j hj
        have r4 : RW W4 (stp A.1) := RW_slot b3.rw i1 hc25 hf A4
        have L4 : RLe W4 (5178 + 147 * (12 * (5 * x' + y') + (wT (stp A.1) (5 * x' + y')).length)) (wlt A.1 x' y' q') := (b3.rw.l hc25 hg).mv (fun j hj => c4 j hj)
        have r5 := RW_push r4 i1 hc25 hf L4
        obtain ⟨s5, e5, t5⟩ := t4.wraw b3.b (j := 5153 + (5 * x' + y')) (v := (wT A.1 (5 * x' + y')).length + 1) (by omega)
        obtain ⟨b6, E6⟩ := b3.op Mz.rf t5 r5 (Iv_twi i1 x2 y2 hne q2 hf)
        have w5 : iald s4 (a + 1) (nI (5153 + (5 * x' + y'))) = some (nI (wT A.1 (5 * x' + y')).length) := by rw [t4.raw b3.b (by omega), r4.t hc25]; rfl
        have hw6 : F_X10_waits s5 a (nI x') (nI y') = some (nI ((wT A.1 (5 * x' + y')).length + 1)) := by
          have := R_waitsM b6.1 b6.2.1 (show x' < 5 by omega) (show y' < 5 by omega)
          rw [this]
          show some (nI (up (wT A.1) (5 * x' + y') (wT A.1 (5 * x' + y') ++ [wlt A.1 x' y' q']) (5 * x' + y')).length) = _
          rw [up_s, List.length_append]
          rfl
        obtain ⟨s7, M7, e7, b7, E7⟩ := R_notes b6 hl 5 x' ((wT A.1 (5 * x' + y')).length + 1)
        have e7' : F_X10_notes s5 a 5 (nI x') (nI ((wT A.1 (5 * x' + y')).length + 1)) = some (nI ((wT A.1 (5 * x' + y')).length + 1), s7) := e7
        refine (congrArg (fun f => Rj s a _ f _) (e4.trans ?_)).mpr (Rj.ok b7 ((((E1.tr E2).tr E3).tr E6).tr E7))
        rw [t4.w, bind_some', R_couple, bind_some', l_5153, nI_add, w5, bind_some', nI_add1, e5, bind_some', hw6, bind_some', e7', wbs]
      · rw [if_neg hf, if_pos (by omega), show (3 : Int32) = nI 3 from rfl]
        dsimp only
        rw [if_neg z_3]
        exact Rj.fl b2.1 b2.2.1 (E1.tr E2) (cd3_3 n_IS_IO n_IS_NS)
theorem R_waiting (h : RJ s a c A) (i : Iv A.1) (x y : Int32) : Rj s a (cd1 eIO) (F_X10_waiting s a x y) (aWai A x y) := by
  obtain ⟨s1, M, e1, h1, k1, t1, E1, o⟩ := h.go1
  have hn := i.n5
  unfold F_X10_waiting aWai
  rw [chk_eq o, e1, bind_some', R_areTwoM h1 k1 i, bind_some', ifb0]
  cases hx : two A.1 x y with
  | false => exact Rj.fl h1 k1 E1 cd1_1
  | true =>
    obtain ⟨⟨x1, x2⟩, ⟨y1, y2⟩, hne⟩ := two_tN hn hx
    generalize tN x = x' at x1 x2 hne
    generalize tN y = y' at y1 y2 hne
    subst x1
    subst y1
    rw [if_pos rfl, if_pos rfl, R_waitsM h1 k1 (by omega) (by omega), bind_some']
    exact Rj.ok1 h1 k1 t1 E1
end RFM
