/-! ===== PURE 74: the reference's publics: save, fall, join, cut ===== -/
theorem jfl0 {ρ : Type} (n : Nat) (K : Int32 → Option ρ) : ((F_X10_flag (0 : Int32)).bind fun x => K (nI n + x)) = K (nI n) := by
  rw [show (0 : Int32) = nI 0 from rfl, R_flag0, bind_some', nI_add]
  rfl
theorem jfl1 {ρ : Type} (n : Nat) (K : Int32 → Option ρ) : ((F_X10_flag (1 : Int32)).bind fun x => K (nI n + x)) = K (nI (n + 1)) := by
  rw [show (1 : Int32) = nI 1 from rfl, R_flag1, bind_some', nI_add]
section RFN
variable {s s1 t : Sto} {a c : Nat} {M : Ms} {A : Ga} {w : Wd} {W W' : Nat → Nat}
theorem R_save (h : RJ s a c A) (i : Iv A.1) (hl : A.2.2.1.length < 2 ^ 31 - 1) (x : Int32) : Rj s a (cd1 eIO) (F_X10_save s a x) (aSav A x) := by
  obtain ⟨s1, M, e1, h1, k1, t1, E1, o⟩ := h.go1
  have hn := i.n5
  unfold F_X10_save aSav
  rw [chk_eq o, e1, bind_some', R_isSiteM h1 k1 i, bind_some', ifb0]
  cases hx : inR x (wC A.1 0) with
  | false => exact Rj.fl h1 k1 E1 cd1_1
  | true =>
    obtain ⟨x1, x2⟩ := inR_tN (by omega) hx
    generalize tN x = x' at x1 x2
    subst x1
    have i1 := Iv_stp i
    obtain ⟨s2, M2, e2, b2, E2⟩ := R_steps h1 k1 t1 i
    obtain ⟨s3, W3, e3, t3, r3⟩ := R_saves b2.rt b2.rw i1 (x := x') (by omega)
    obtain ⟨b4, E4⟩ := b2.op Mz.rf t3 r3 (Iv_sav i1 (by omega))
    have hm : F_X10_hasMany s3 a (nI x') = some (nI (fb_ct (sHs (wL A.1 x')) (wC A.1 2))) := R_hasMany b4.rt b4.rw (Iv_sav i1 (show x' < 5 by omega)).j (by omega)
    obtain ⟨s5, M5, e5, b5, E5⟩ := R_notes b4 hl 6 x' (fb_ct (sHs (wL A.1 x')) (wC A.1 2))
    have e5' : F_X10_notes s3 a 6 (nI x') (nI (fb_ct (sHs (wL A.1 x')) (wC A.1 2))) = some (nI (fb_ct (sHs (wL A.1 x')) (wC A.1 2)), s5) := e5
    rw [if_pos rfl, if_pos rfl, e2, bind_some', R_stateOf, bind_some', bind_some', l_395, nI_add, nI_k1 (by omega), show 9 + 789 * x' + 395 - 1 = 9 + 789 * x' + 394 by omega, e3, bind_some', hm, bind_some', e5', wbs]
    exact Rj.ok b5 (((E1.tr E2).tr E4).tr E5)
theorem R_fall (h : RJ s a c A) (i : Iv A.1) (hl : A.2.2.1.length < 2 ^ 31 - 1) (x : Int32) : Rj s a (cd1 eIO) (F_X10_fall s a x) (aFal A x) := by
  obtain ⟨s1, M, e1, h1, k1, t1, E1, o⟩ := h.go1
  have hn := i.n5
  have hc2 := i.c
  unfold F_X10_fall aFal
  rw [chk_eq o, e1, bind_some', R_isSiteM h1 k1 i, bind_some', ifb0]
  cases hx : inR x (wC A.1 0) with
  | false => exact Rj.fl h1 k1 E1 cd1_1
  | true =>
    obtain ⟨x1, x2⟩ := inR_tN (by omega) hx
    generalize tN x = x' at x1 x2
    subst x1
    have hx5 : x' < 5 := by omega
    have i1 := Iv_stp i
    obtain ⟨s2, M2, e2, b2, E2⟩ := R_steps h1 k1 t1 i
    obtain ⟨s3, W3, e3, t3, r3, -⟩ := R_falls b2.rt b2.rw i1.j (x := x') hx5
    obtain ⟨b4, E4⟩ := b2.op Mz.rf t3 r3 (Iv_fal i1 hx5)
    obtain ⟨s5, M5, e5, b5, E5⟩ := R_notes b4 hl 7 x' (fb_ct (fun e => sHs (wL A.1 x') e && !sHs (wS A.1 x') e) (wC A.1 2))
    have e5' : F_X10_notes s3 a 7 (nI x') (nI (fb_ct (fun e => sHs (wL A.1 x') e && !sHs (wS A.1 x') e) (wC A.1 2))) = some (nI (fb_ct (fun e => sHs (wL A.1 x') e && !sHs (wS A.1 x') e) (wC A.1 2)), s5) := e5
    have hL : ∀ K : Int32 → Option (Int32 × Sto), F_X10_fall_L33 s2 a (nI (9 + 789 * x')) fu 0 0 K = K (nI (fb_ct (fun e => sHs (wL A.1 x') e && !sHs (wS A.1 x') e) (wC A.1 2))) := by
      intro K
      refine lup (fun f j => F_X10_fall_L33 s2 a (nI (9 + 789 * x')) f (nI (fb_ct (fun e => sHs (wL A.1 x') e && !sHs (wS A.1 x') e) j)) (nI j) K) (wC A.1 2) _ ?_ ?_ fu (by unfold fu; omega)
      · intro j f hj
        have hv : rb (M2.2.2 0) (9 + 789 * x' + 25) j = sHs (wL A.1 x') j := b2.rw.hs hx5 (by omega)
        have hv2 : rb (M2.2.2 0) (9 + 789 * x' + 394 + 25) j = sHs (wS A.1 x') j := by
          rw [show 9 + 789 * x' + 394 + 25 = 403 + 789 * x' + 25 by omega]
          exact (b2.rw.S hx5).2.1 j (by omega)
        have w2 : iald s2 (a + 1) 2 = some (nI (wC A.1 2)) := (b2.1.raw (j := 2) (by omega)).trans (by rw [b2.rw.c (by omega)]; rfl)
        rw [F_X10_fall_L33, b2.1.wd, bind_some', w2, bind_some', if_neg (by rw [nI_leI (by omega) (by omega)]; omega), l_25, nI_add, R_isOf b2.rt (by omega) (by omega), bind_some', hv, jn_eq, ifb0, l_395, nI_add, nI_k1 (by omega), show 9 + 789 * x' + 395 - 1 = 9 + 789 * x' + 394 by omega, nI_add, R_isOf b2.rt (by omega) (by omega), bind_some', hv2, ifb0, nI_add1 j, fb_ct_succ]
        cases sHs (wL A.1 x') j with
        | false => exact jfl0 _ (fun y => F_X10_fall_L33 s2 a (nI (9 + 789 * x')) f y (nI (j + 1)) K)
        | true =>
          cases sHs (wS A.1 x') j with
          | true => exact jfl0 _ (fun y => F_X10_fall_L33 s2 a (nI (9 + 789 * x')) f y (nI (j + 1)) K)
          | false => exact jfl1 _ (fun y => F_X10_fall_L33 s2 a (nI (9 + 789 * x')) f y (nI (j + 1)) K)
      · intro f
        have w2 : iald s2 (a + 1) 2 = some (nI (wC A.1 2)) := (b2.1.raw (j := 2) (by omega)).trans (by rw [b2.rw.c (by omega)]; rfl)
        rw [F_X10_fall_L33, b2.1.wd, bind_some', w2, bind_some', if_pos (Int32.le_refl _)]
    rw [if_pos rfl, if_pos rfl, e2, bind_some', R_stateOf, bind_some', hL, e3, bind_some', e5', wbs]
    exact Rj.ok b5 (((E1.tr E2).tr E4).tr E5)
theorem R_join (h : RJ s a c A) (i : Iv A.1) (hl : A.2.2.1.length < 2 ^ 31 - 1) (x y : Int32) : Rj s a (cd1 eIO) (F_X10_join s a x y) (aJoi A x y) := by
  obtain ⟨s1, M, e1, h1, k1, t1, E1, o⟩ := h.go1
  have hn := i.n5
  unfold F_X10_join aJoi
  rw [chk_eq o, e1, bind_some', R_areTwoM h1 k1 i, bind_some', ifb0]
  cases hx : two A.1 x y with
  | false => exact Rj.fl h1 k1 E1 cd1_1
  | true =>
    obtain ⟨⟨x1, x2⟩, ⟨y1, y2⟩, hne⟩ := two_tN hn hx
    generalize tN x = x' at x1 x2 hne
    generalize tN y = y' at y1 y2 hne
    subst x1
    subst y1
    have hx5 : x' < 5 := by omega
    have i1 := Iv_stp i
    have hK := Nat.le_trans (i.k hx5) i.c
    obtain ⟨s2, M2, e2, b2, E2⟩ := R_steps h1 k1 t1 i
    obtain ⟨s3, e3, W3, t3, r3, -⟩ := R_joins b2.rt b2.rw i1.j (x := x') hx5 (y := y') (by omega) hne hK
    have i3 := Iv_joi i1 x2 y2
    obtain ⟨b4, E4⟩ := b2.op (w := joi (stp A.1) x' y') Mz.rf t3 r3 i3
    have hm : F_X10_hasMany s3 a (nI x') = some (nI (fb_ct (sHs (wL (joi (stp A.1) x' y') x')) (wC A.1 2))) := R_hasMany b4.rt b4.rw i3.j hx5
    obtain ⟨s5, M5, e5, b5, E5⟩ := R_notes b4 hl 8 x' (fb_ct (sHs (wL (joi (stp A.1) x' y') x')) (wC A.1 2))
    have e5' : F_X10_notes s3 a 8 (nI x') (nI (fb_ct (sHs (wL (joi (stp A.1) x' y') x')) (wC A.1 2))) = some (nI (fb_ct (sHs (wL (joi (stp A.1) x' y') x')) (wC A.1 2)), s5) := e5
    rw [if_pos rfl, if_pos rfl, e2, bind_some', e3, bind_some', hm, bind_some', e5', wbs]
    exact Rj.ok b5 (((E1.tr E2).tr E4).tr E5)
theorem RW_lnk (r : RW W w) (i : Iv w) {x y v : Nat} (hv : ∀ q, q < 32 → v.testBit q = up (wX w) (lk x y) (!wX w (lk x y)) q) : RW (upN W 7 v) (lnk w x y) := by
  have hj : ∀ j, j ≠ 7 → upN W 7 v j = W j := fun j hj => upN_n hj
  exact ⟨fun k hk => by rw [hj k (by omega)]; exact r.c hk, fun q hq => by rw [upN_s]; exact hv q hq, fun x hx => ⟨by rw [hj _ (by omega)]; exact r.k hx, (r.L hx).cg (i.j.L hx).lg (fun j a b => hj j (by omega)), (r.S hx).cg (i.j.S hx) (fun j a b => hj j (by omega))⟩, fun e he => (r.e he).cg (fun j a b => hj j (by omega)), fun q hq => ⟨by rw [hj _ (by omega)]; exact r.t hq, fun k l hk => (r.l hq hk).cg (fun j a b => hj j (by omega))⟩⟩
theorem R_cut (h : RJ s a c A) (i : Iv A.1) (hl : A.2.2.1.length < 2 ^ 31 - 1) (x y z : Int32) : Rj s a (cd1 eIO) (F_X10_cut s a x y z) (aCut A x y z) := by
  obtain ⟨s1, s2, M, e1, e2, b, E, o⟩ := h.go2
  have hn := i.n5
  unfold F_X10_cut aCut
  rw [chk_eq o, e1, bind_some', e2, bind_some', R_areTwoM b.1 b.2.1 i, bind_some', ifb0]
  cases hx : two A.1 x y with
  | false => exact Rj.fl2 b.1 b.2.1 E cd1_1
  | true =>
    obtain ⟨⟨x1, x2⟩, ⟨y1, y2⟩, hne⟩ := two_tN hn hx
    generalize tN x = x' at x1 x2 hne
    generalize tN y = y' at y1 y2 hne
    subst x1
    subst y1
    have hx5 : x' < 5 := by omega
    have hy5 : y' < 5 := by omega
    have hlk := lk_lt hx5 hy5
    rw [if_pos rfl, if_pos rfl, R_isCut b.rt b.rw hx5 hy5, bind_some']
    by_cases hz : nI (b2 (wcut A.1 x' y')) = z
    · rw [if_pos hz, if_pos hz]; exact Rj.ok b E
    · rw [if_neg hz, if_neg hz]
      have i1 := Iv_stp i
      obtain ⟨s3, M3, e3, b3, E3⟩ := R_steps b.1 b.2.1 b.2.2.2 i
      obtain ⟨v, hv1, hv2⟩ := nI_bits (nI (M3.2.2 0 7) ^^^ ((1 : Int32) <<< (nI (lk x' y') &&& 31)))
      have hsh : ∀ q, q < 32 → bt ((1 : Int32) <<< (nI (lk x' y') &&& 31)) q = decide (q = lk x' y') := by
        intro q hq
        rw [b_shl (lk x' y') (by omega) _ hq, bt_1]
        by_cases h1 : q = lk x' y'
        · rw [h1]; simp
        · by_cases h2 : lk x' y' ≤ q
          · simp [h1, h2]; omega
          · simp [h1, h2]
      have hv : ∀ q, q < 32 → v.testBit q = up (wX (stp A.1)) (lk x' y') (!wX (stp A.1) (lk x' y')) q := by
        intro q hq
        rw [hv2 q hq, b_xor, bt_nI, hsh q hq, b3.rw.2.1 q hq]
        by_cases h1 : q = lk x' y'
        · subst h1
          rw [up_s, decide_eq_true rfl, decide_eq_true hq]
          simp
        · rw [up_n _ _ h1, decide_eq_false h1, decide_eq_true hq]
          simp
      obtain ⟨s4, e4, t4⟩ := b3.rt.wraw b3.b (j := 7) (v := v) (by omega)
      obtain ⟨b5, E5⟩ := b3.op Mz.rf t4 (RW_lnk b3.rw i1 hv) (Iv_lnk i1 x2 y2 hne)
      obtain ⟨s6, M6, e6, b6, E6⟩ := R_notes b5 hl 9 x' 1
      have e6' : F_X10_notes s4 a 9 (nI x') 1 = some (nI 1, s6) := e6
      have w7 : iald s3 (a + 1) 7 = some (nI (M3.2.2 0 7)) := b3.1.raw (j := 7) (by omega)
      have e4' : iast s3 (a + 1) 7 (nI v) = some s4 := e4
      rw [e3, bind_some', b3.1.wd, bind_some', w7, bind_some', R_linkOf hx5 hy5, bind_some', hv1, e4', bind_some', e6', wbs, if_pos (show nI 1 = (1 : Int32) from rfl)]
      exact Rj.ok b6 ((((E.tr E3).tr E5)).tr E6)
end RFN
