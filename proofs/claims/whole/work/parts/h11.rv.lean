/-! ===== PURE 81: the reference's publics: site, would, part, way ===== -/
theorem lk_aa {w : Wd} (i : Iv w) (a : Nat) : wcut w a a = false := by
  cases h : wcut w a a with
  | false => rfl
  | true =>
    have := i.2.2.2.2.2.2 (lk a a) h
    unfold lk at this
    rw [if_neg (Nat.lt_irrefl a)] at this
    omega
section RFV
variable {s s1 t σ : Sto} {a c : Nat} {M : Ms} {A : Ga} {w : Wd} {W W' : Nat → Nat}
theorem hba_log {w : Wd} (x : Nat) : fb_ct (fun e => al (fun y => sHs (wL w y) e) (wC w 0) && (!true || (sLg (wL w x)).contains e)) (wC w 2) = fb_ct (fun e => hba w e && (sLg (wL w x)).contains e) (wC w 2) := fb_ct_cong (fun _ _ => rfl)
theorem hba_all {w : Wd} (x : Nat) : fb_ct (fun e => al (fun y => sHs (wL w y) e) (wC w 0) && (!false || (sLg (wL w x)).contains e)) (wC w 2) = fb_ct (hba w) (wC w 2) := fb_ct_cong (fun e _ => by unfold hba; simp)
theorem R_site (h : RJ s a c A) (i : Iv A.1) (x k : Int32) : Rj s a (cd2 eIO eIA) (F_X10_site s a x k) (aSte A x k) := by
  obtain ⟨s1, s2, M, e1, e2, b, E, o⟩ := h.go2
  have hn := i.n5
  have hc2 := i.c
  unfold F_X10_site aSte
  rw [chk_eq o, e1, bind_some', e2, bind_some', R_isSiteM b.1 b.2.1 i, bind_some', ifb0]
  cases hx : inR x (wC A.1 0) with
  | false => exact Rj.fl b.1 b.2.1 E cd2_1
  | true =>
    obtain ⟨x1, x2⟩ := inR_tN (by omega) hx
    generalize tN x = x' at x1 x2
    subst x1
    have hx5 : x' < 5 := by omega
    rw [if_pos rfl, if_pos rfl, R_stateOf, bind_some', b.1.wd, bind_some', R_clockOf, bind_some', b.1.raw (by omega), bind_some', b.rw.k hx5, show (29 : Int32) = nI 29 from rfl, nI_add, R_bitsOf b.rt b.rw i.j (p := sVw (wL A.1 x')) (fun e he => b.rw.vw hx5 he) (by omega), bind_some', bind_some', show (33 : Int32) = nI 33 from rfl, nI_add, b.1.raw (by omega), bind_some', b.rw.ln hx5, R_hasMany b.rt b.rw i.j hx5, bind_some', R_overstatedOf b.rt b.rw i.j hx5, bind_some', show F_X10_commonOf s2 a (nI x') 0 = _ from R_commonOf b.rt b.rw i.j hx5 false, bind_some', show F_X10_commonOf s2 a (nI x') 1 = _ from R_commonOf b.rt b.rw i.j hx5 true, bind_some', hba_log, hba_all]
    cases hk : inR k 8 with
    | false =>
      have hne : ∀ j, j < 8 → ¬ k = nI j := fun j hj he => by
        rw [he, inR_nI (by omega) (by omega), decide_eq_true hj] at hk
        cases hk
      rw [if_neg (show ¬ k = (0 : Int32) from hne 0 (by omega)), if_neg (show ¬ k = (1 : Int32) from hne 1 (by omega)), if_neg (show ¬ k = (2 : Int32) from hne 2 (by omega)), if_neg (show ¬ k = (3 : Int32) from hne 3 (by omega)), if_neg (show ¬ k = (4 : Int32) from hne 4 (by omega)), if_neg (show ¬ k = (5 : Int32) from hne 5 (by omega)), if_neg (show ¬ k = (6 : Int32) from hne 6 (by omega)), if_neg (show ¬ k = (7 : Int32) from hne 7 (by omega))]
      exact Rj.fl b.1 b.2.1 E (cd2_2 n_IA_IO)
    | true =>
      obtain ⟨k1, k2⟩ := inR_tN (by omega) hk
      generalize tN k = k' at k1 k2
      subst k1
      rw [if_pos rfl]
      unfold stA
      rcases (show k' = 0 ∨ k' = 1 ∨ k' = 2 ∨ k' = 3 ∨ k' = 4 ∨ k' = 5 ∨ k' = 6 ∨ k' = 7 by omega) with rfl | rfl | rfl | rfl | rfl | rfl | rfl | rfl
      · rw [if_pos nI_0]; exact Rj.ok b E
      · rw [if_neg (show ¬ nI 1 = (0 : Int32) by decide), if_pos (show nI 1 = (1 : Int32) from rfl), ← fb_ext (f := sVw (wL A.1 x')) (n := wC A.1 2) (m := 128) (by omega) (fun e h1 h2 => by
          cases hh : sVw (wL A.1 x') e with
          | false => rfl
          | true => have := i.vw x' hx5 e hh; omega)]
        exact Rj.ok b E
      · rw [if_neg (show ¬ nI 2 = (0 : Int32) by decide), if_neg (show ¬ nI 2 = (1 : Int32) by decide), if_pos (show nI 2 = (2 : Int32) from rfl)]; exact Rj.ok b E
      · rw [if_neg (show ¬ nI 3 = (0 : Int32) by decide), if_neg (show ¬ nI 3 = (1 : Int32) by decide), if_neg (show ¬ nI 3 = (2 : Int32) by decide), if_pos (show nI 3 = (3 : Int32) from rfl), ← fb_ext (f := sHs (wL A.1 x')) (n := wC A.1 2) (m := 128) (by omega) (fun e h1 h2 => by
          cases hh : sHs (wL A.1 x') e with
          | false => rfl
          | true => have := i.hs x' hx5 e hh; omega)]
        exact Rj.ok b E
      · rw [if_neg (show ¬ nI 4 = (0 : Int32) by decide), if_neg (show ¬ nI 4 = (1 : Int32) by decide), if_neg (show ¬ nI 4 = (2 : Int32) by decide), if_neg (show ¬ nI 4 = (3 : Int32) by decide), if_pos (show nI 4 = (4 : Int32) from rfl), show ovS A.1 x' = fb_ct (ovC A.1 x') 25 from (ov_sum i).symm]
        exact Rj.ok b E
      · obtain ⟨u, M', e3, z3, t3⟩ := R_lostTo b.rt b.rw i.j i.t12 i.le hx5
        obtain ⟨b4, E4⟩ := b.op z3 t3 b.rw i
        rw [if_neg (show ¬ nI 5 = (0 : Int32) by decide), if_neg (show ¬ nI 5 = (1 : Int32) by decide), if_neg (show ¬ nI 5 = (2 : Int32) by decide), if_neg (show ¬ nI 5 = (3 : Int32) by decide), if_neg (show ¬ nI 5 = (4 : Int32) by decide), if_pos (show nI 5 = (5 : Int32) from rfl), e3, wbs]
        exact Rj.ok b4 (E.tr E4)
      · rw [if_neg (show ¬ nI 6 = (0 : Int32) by decide), if_neg (show ¬ nI 6 = (1 : Int32) by decide), if_neg (show ¬ nI 6 = (2 : Int32) by decide), if_neg (show ¬ nI 6 = (3 : Int32) by decide), if_neg (show ¬ nI 6 = (4 : Int32) by decide), if_neg (show ¬ nI 6 = (5 : Int32) by decide), if_pos (show nI 6 = (6 : Int32) from rfl)]; exact Rj.ok b E
      · rw [if_neg (show ¬ nI 7 = (0 : Int32) by decide), if_neg (show ¬ nI 7 = (1 : Int32) by decide), if_neg (show ¬ nI 7 = (2 : Int32) by decide), if_neg (show ¬ nI 7 = (3 : Int32) by decide), if_neg (show ¬ nI 7 = (4 : Int32) by decide), if_neg (show ¬ nI 7 = (5 : Int32) by decide), if_neg (show ¬ nI 7 = (6 : Int32) by decide), if_pos (show nI 7 = (7 : Int32) from rfl)]; exact Rj.ok b E
theorem R_isInHand (h : RT a σ M W s) {l : Lt} (hL : RLe W 49278 l) (hle : ∀ e ∈ lEv l, e < 2 ^ 31) {e : Nat} (he : e < 2 ^ 31) : F_X10_isInHand s a (nI e) = some (nI (b2 ((lEv l).contains e))) := by
  have hl := hL.2.2.1
  unfold F_X10_isInHand
  rw [chk_eq h.ok]
  have key := lex (fun f j => F_X10_isInHand_L2 s a (nI e) f (nI j) (some 0)) (fun j => decide ((lEv l)[j]? = some e)) (lEv l).length (some (0 : Int32)) (some (1 : Int32)) (by
    intro j f hj
    have hx : W (49280 + j) = (lEv l)[j] := hL.2.2.2.1 j _ (List.getElem?_eq_getElem hj)
    have hb := hle _ (List.getElem_mem hj)
    have hwL : W 49279 = (lEv l).length := hL.2.1
    rw [F_X10_isInHand_L2, show (49279 : Int32) = nI 49279 from rfl, R_of h (by omega), bind_some', hwL, if_neg (by rw [nI_leI (by omega) (by omega)]; omega), show (49280 : Int32) = nI 49280 from rfl, nI_add, R_of h (by omega), bind_some', hx, ifE (by omega) (by omega), nI_add1, List.getElem?_eq_getElem hj]
    by_cases hee : (lEv l)[j] = e
    · rw [if_pos hee, hee, decide_eq_true rfl]; rfl
    · rw [if_neg hee, decide_eq_false (by simpa using hee)]; rfl) (by
    intro f
    have hwL : W 49279 = (lEv l).length := hL.2.1
    rw [F_X10_isInHand_L2, show (49279 : Int32) = nI 49279 from rfl, R_of h (by omega), bind_some', hwL, if_pos (Int32.le_refl _)]) fu (by unfold fu; omega)
  refine key.trans ?_
  have : ex (fun j => decide ((lEv l)[j]? = some e)) (lEv l).length = (lEv l).contains e := by
    rw [Bool.eq_iff_iff, ex_iff, List.contains_iff_mem, List.mem_iff_getElem?]
    constructor
    · rintro ⟨j, h1, h2⟩
      exact ⟨j, of_decide_eq_true h2⟩
    · rintro ⟨j, h2⟩
      exact ⟨j, (List.getElem?_eq_some_iff.mp h2).1, decide_eq_true h2⟩
  rw [this]
  cases (lEv l).contains e <;> rfl
theorem R_would (h : RJ s a c A) (i : Iv A.1) (x y k : Int32) : Rj s a (cd2 eIO eIA) (F_X10_would s a x y k) (aWou A x y k) := by
  obtain ⟨s1, s2, M, e1, e2, b, E, o⟩ := h.go2
  have hn := i.n5
  have hc2 := i.c
  unfold F_X10_would aWou
  rw [chk_eq o, e1, bind_some', e2, bind_some', R_areTwoM b.1 b.2.1 i, bind_some', ifb0, isIn_2, bind_some', ifb0]
  cases hx : two A.1 x y with
  | false => exact Rj.fl b.1 b.2.1 E cd2_1
  | true =>
    obtain ⟨⟨x1, x2⟩, ⟨y1, y2⟩, hne⟩ := two_tN hn hx
    generalize tN x = x' at x1 x2 hne
    generalize tN y = y' at y1 y2 hne
    subst x1
    subst y1
    have hx5 : x' < 5 := by omega
    have hy5 : y' < 5 := by omega
    rw [if_pos rfl, if_pos rfl]
    cases hk : inR k 3 with
    | false => exact Rj.fl b.1 b.2.1 E (cd2_2 n_IA_IO)
    | true =>
      obtain ⟨k1, k2⟩ := inR_tN (by omega) hk
      generalize tN k = k' at k1 k2
      subst k1
      have hf : ∀ W', Ax 49278 (M.2.2 0) W' → RW W' A.1 := fun W' hA => b.rw.hand i.j i.t12 (fun j hj => hA j (Or.inl hj))
      obtain ⟨s3, W3, e3, t3, L3, A3⟩ := R_lays b.rt i.j (x := x') hx5 (o := y') (p := 49278) hy5 (by omega) (by omega) hf
      have r3 := hf W3 A3
      obtain ⟨b4, E4⟩ := b.op Mz.rf t3 r3 i
      have hIl : Il (wC A.1 0) (wC A.1 2) x' (wE A.1) (ltr (wE A.1) (wC A.1 1) (wL A.1 x') y') := Il_ltr (i.L hx5) i.m3
      have e3' : F_X10_lays s2 a 49278 (nI x') (nI y') = some (nI (lEv (ltr (wE A.1) (wC A.1 1) (wL A.1 x') y')).length, s3) := e3
      have hh : F_X10_hadOf s3 a 49278 (nI y') = some (nI ((lEv (ltr (wE A.1) (wC A.1 1) (wL A.1 x') y')).filter (sHs (wL A.1 y'))).length) := R_hadOf (o := 49278) t3 r3 L3 (fun e he => by have := (hIl.2.2.2 e he).1; omega) (by decide) hy5
      rw [if_pos rfl, if_pos rfl, e3', wbs, hh, bind_some']
      unfold wdA
      rcases (show k' = 0 ∨ k' = 1 ∨ k' = 2 by omega) with rfl | rfl | rfl
      · rw [if_neg (show ¬ (2 : Int32) ≤ nI 0 by decide), if_pos nI_0]; exact Rj.ok b4 (E.tr E4)
      · rw [if_neg (show ¬ (2 : Int32) ≤ nI 1 by decide), if_neg z_1]; exact Rj.ok b4 (E.tr E4)
      · have hL : F_X10_would_L81 s3 a (nI x') (nI y') fu 0 0 (fun x15 => some (x15, s3)) = some (nI (fb_ct (fun e => (sHs (wL A.1 x') e && !sHs (wL A.1 y') e) && !(lEv (ltr (wE A.1) (wC A.1 1) (wL A.1 x') y')).contains e) (wC A.1 2)), s3) := by
          refine lup (fun f j => F_X10_would_L81 s3 a (nI x') (nI y') f (nI (fb_ct (fun e => (sHs (wL A.1 x') e && !sHs (wL A.1 y') e) && !(lEv (ltr (wE A.1) (wC A.1 1) (wL A.1 x') y')).contains e) j)) (nI j) (fun x15 => some (x15, s3))) (wC A.1 2) _ ?_ ?_ fu (by unfold fu; omega)
          · intro j f hj
            have hi := R_isInHand t3 L3 (fun e he => by have := (hIl.2.2.2 e he).1; omega) (e := j) (by omega)
            rw [F_X10_would_L81, t3.w, bind_some', show iald s3 (a + 1) 2 = _ from t3.raw b.b (j := 2) (by omega), bind_some', r3.c (by omega), if_neg (by rw [nI_leI (by omega) (by omega)]; omega), show F_X10_doesHave s3 a (nI x') (nI j) 1 = _ from R_doesHave1 t3 r3 hx5 (by omega), bind_some', jn_eq, ifb0, show F_X10_doesHave s3 a (nI y') (nI j) 0 = _ from R_doesHave0 t3 r3 hy5 (by omega), bind_some', ifb0, hi, bind_some', ifb0, nI_add1, fb_ct_succ]
            cases sHs (wL A.1 x') j with
            | false => exact jfl0 _ (fun y => F_X10_would_L81 s3 a (nI x') (nI y') f y (nI (j + 1)) (fun x15 => some (x15, s3)))
            | true =>
              cases sHs (wL A.1 y') j with
              | true => exact jfl0 _ (fun y => F_X10_would_L81 s3 a (nI x') (nI y') f y (nI (j + 1)) (fun x15 => some (x15, s3)))
              | false =>
                cases (lEv (ltr (wE A.1) (wC A.1 1) (wL A.1 x') y')).contains j with
                | true => exact jfl0 _ (fun y => F_X10_would_L81 s3 a (nI x') (nI y') f y (nI (j + 1)) (fun x15 => some (x15, s3)))
                | false => exact jfl1 _ (fun y => F_X10_would_L81 s3 a (nI x') (nI y') f y (nI (j + 1)) (fun x15 => some (x15, s3)))
          · intro f
            rw [F_X10_would_L81, t3.w, bind_some', show iald s3 (a + 1) 2 = _ from t3.raw b.b (j := 2) (by omega), bind_some', r3.c (by omega), if_pos (Int32.le_refl _)]
        rw [if_pos (show (2 : Int32) ≤ nI 2 by decide), hL]
        exact Rj.ok b4 (E.tr E4)
end RFV
