/-! ===== PURE 89: the reference's ranks; heights of events ===== -/
theorem rv_cg {A : Nat → Nat → Bool} {P : Nat → Option Nat} {R R' : Nat → Nat} {H x : Nat} (hP : ∀ p, P x = some p → hgt A p + 1 = H) (hR : ∀ p, hgt A p + 1 = H → R p = R' p) : rv P R x = rv P R' x := by
  unfold rv
  cases hp : P x with
  | none => rfl
  | some p => exact hR p (hP p hp)
theorem bfr_cg {A : Nat → Nat → Bool} {P : Nat → Option Nat} {R R' : Nat → Nat} {H x y : Nat} (hx : ∀ p, P x = some p → hgt A p + 1 = H) (hy : ∀ p, P y = some p → hgt A p + 1 = H) (hR : ∀ p, hgt A p + 1 = H → R p = R' p) : bfr P R x y = bfr P R' x y := by
  unfold bfr
  rw [rv_cg hx hR, rv_cg hy hR]
section RGD
variable {s s1 t σ : Sto} {a c : Nat} {M : Ms} {A : Ga} {w : Wd} {W W' : Nat → Nat} {u : Sto} {P : Nat → Option Nat} {R : Nat → Nat} {e H : Nat}
def rkC (w : Wd) (P : Nat → Option Nat) (R : Nat → Nat) (H e : Nat) : Nat → Nat := fb_ct (fun x => decide (hgt (eA (wE w)) x = H) && bfr P R x e)
theorem R_rkCnt (h : HP a σ M W w P R u) (hb : M.1 3 = 0) (r : RW W w) (i : Jv w) (he : e < wC w 2) (hH : hgt (eA (wE w)) e = H) (hP : ∀ x, x < wC w 2 → hgt (eA (wE w)) x = H → ∀ p, P x = some p → p < wC w 2 ∧ hgt (eA (wE w)) p + 1 = H) (hR : ∀ x, x < wC w 2 → hgt (eA (wE w)) x + 1 = H → R x < 2 ^ 31) (h0 : R e = 0) (K : Sto → Option Sto) : ∃ u', F_X10_laysRanks_L143 a (nI H) (nI e) fu 0 u K = K u' ∧ HP a σ M W w P (up R e (rkC w P R H e (wC w 2))) u' := by
  have hc := i.c
  obtain ⟨u', q1, e1⟩ := lpS (fun f j u => F_X10_laysRanks_L143 a (nI H) (nI e) f (nI j) u K) K (fun j u => HP a σ M W w P (up R e (rkC w P R H e j)) u) (wC w 2) (by
    intro j f u hj hq
    have hjl := hgt_le (eA (wE w)) j
    have hel := hgt_le (eA (wE w)) e
    obtain ⟨g1, n2⟩ := hq.n2 hb r
    obtain ⟨g9, a5⟩ := hq.h5 i (e := j) hj
    obtain ⟨g11, a7⟩ := hq.h7 i (e := e) he
    rw [up_s] at a7
    have hst : rkC w P R H e (j + 1) = rkC w P R H e j + (if decide (hgt (eA (wE w)) j = H) && bfr P R j e then 1 else 0) := rfl
    obtain ⟨u0, e0, q0⟩ := hq.s7 i he (rkC w P R H e j)
    obtain ⟨u1, e1, q1⟩ := hq.s7 i he (rkC w P R H e j + 1)
    rw [up_up] at q0 q1
    have J0 : ((F_X10_flag (0 : Int32)).bind fun x38 => (iast u (a + 1 + 7) (nI e) (nI (rkC w P R H e j) + x38)).bind fun s39 => F_X10_laysRanks_L143 a (nI H) (nI e) f (nI (j + 1)) s39 K) = F_X10_laysRanks_L143 a (nI H) (nI e) f (nI (j + 1)) u0 K := by
      refine (jfl0 (rkC w P R H e j) (fun y => (iast u (a + 1 + 7) (nI e) y).bind fun s39 => F_X10_laysRanks_L143 a (nI H) (nI e) f (nI (j + 1)) s39 K)).trans ?_
      show (iast u (a + 1 + 7) (nI e) (nI (rkC w P R H e j))).bind _ = _
      rw [e0, bind_some']
    have J1 : ((F_X10_flag (1 : Int32)).bind fun x38 => (iast u (a + 1 + 7) (nI e) (nI (rkC w P R H e j) + x38)).bind fun s39 => F_X10_laysRanks_L143 a (nI H) (nI e) f (nI (j + 1)) s39 K) = F_X10_laysRanks_L143 a (nI H) (nI e) f (nI (j + 1)) u1 K := by
      refine (jfl1 (rkC w P R H e j) (fun y => (iast u (a + 1 + 7) (nI e) y).bind fun s39 => F_X10_laysRanks_L143 a (nI H) (nI e) f (nI (j + 1)) s39 K)).trans ?_
      show (iast u (a + 1 + 7) (nI e) (nI (rkC w P R H e j + 1))).bind _ = _
      rw [e1, bind_some']
    show ∃ s', _ ∧ F_X10_laysRanks_L143 _ _ _ _ _ _ _ = _
    rw [F_X10_laysRanks_L143, g1, bind_some', n2, bind_some', if_neg (by rw [nI_leI (by omega) (by omega)]; omega), g11, bind_some', a7, bind_some', g9, bind_some', a5, bind_some', jn_eq, ifE (by omega) (by omega), nI_add1 j, hst]
    by_cases hh : hgt (eA (wE w)) j = H
    · have hbf : F_X10_isBefore u a (nI j) (nI e) = some (nI (b2 (bfr P R j e))) := by
        have := R_isBefore hq i hj he (fun q hqq p hp => by
          have hqc : q < wC w 2 ∧ hgt (eA (wE w)) q = H := by
            rcases hqq with rfl | rfl
            · exact ⟨hj, hh⟩
            · exact ⟨he, hH⟩
          obtain ⟨p1, p2⟩ := hP q hqc.1 hqc.2 p hp
          refine ⟨p1, ?_⟩
          rw [up_n _ _ (fun y => by rw [y] at p2; omega)]
          exact hR p p1 p2)
        rw [this, bfr_cg (A := eA (wE w)) (H := H) (R' := R) (fun p hp => (hP j hj hh p hp).2) (fun p hp => (hP e he hH p hp).2) (fun p hp => up_n _ _ (fun y => by rw [y] at hp; omega))]
      rw [if_pos hh, hbf, bind_some', ifb0, decide_eq_true hh, Bool.true_and]
      cases bfr P R j e with
      | false => exact ⟨u0, q0, J0⟩
      | true => exact ⟨u1, q1, J1⟩
    · rw [if_neg hh, decide_eq_false hh, Bool.false_and]
      exact ⟨u0, q0, J0⟩) (by
    intro f u hq
    obtain ⟨g1, n2⟩ := hq.n2 hb r
    show F_X10_laysRanks_L143 _ _ _ _ _ _ _ = _
    rw [F_X10_laysRanks_L143, g1, bind_some', n2, bind_some', if_pos (Int32.le_refl _)]) fu u (by unfold fu; omega) (h.cg (fun _ _ => rfl) (fun x _ => by
      show up R e 0 x = R x
      unfold up
      by_cases hx : x = e
      · rw [if_pos hx, hx, h0]
      · rw [if_neg hx]))
  exact ⟨u', e1, q1⟩
theorem R_rkAll (h : HP a σ M W w P R u) (hb : M.1 3 = 0) (r : RW W w) (i : Jv w) (hH31 : H < 2 ^ 31) (hP : ∀ x, x < wC w 2 → hgt (eA (wE w)) x = H → ∀ p, P x = some p → p < wC w 2 ∧ hgt (eA (wE w)) p + 1 = H) (hR : ∀ x, x < wC w 2 → hgt (eA (wE w)) x + 1 = H → R x < 2 ^ 31) (K : Sto → Option Sto) : ∃ u', F_X10_laysRanks_L111 a (nI H) fu 0 u K = K u' ∧ HP a σ M W w P (fun x => if hgt (eA (wE w)) x = H then rkC w P R H x (wC w 2) else R x) u' := by
  have hc := i.c
  obtain ⟨u', q1, e1⟩ := lpS (fun f j u => F_X10_laysRanks_L111 a (nI H) f (nI j) u K) K (fun j u => HP a σ M W w P (fun x => if x < j ∧ hgt (eA (wE w)) x = H then rkC w P R H x (wC w 2) else R x) u) (wC w 2) (by
    intro j f u hj hq
    have hjl := hgt_le (eA (wE w)) j
    obtain ⟨g1, n2⟩ := hq.n2 hb r
    obtain ⟨g9, a5⟩ := hq.h5 i (e := j) hj
    show ∃ s', _ ∧ F_X10_laysRanks_L111 _ _ _ _ _ _ = _
    rw [F_X10_laysRanks_L111, g1, bind_some', n2, bind_some', if_neg (by rw [nI_leI (by omega) (by omega)]; omega), g9, bind_some', a5, bind_some', ifE (by omega) (by omega), nI_add1]
    by_cases hh : hgt (eA (wE w)) j = H
    · obtain ⟨u2, e2, q2⟩ := hq.s7 i hj 0
      obtain ⟨g11, -⟩ := hq.h7 i (e := j) hj
      have hlow : ∀ p, hgt (eA (wE w)) p + 1 = H → up (fun x => if x < j ∧ hgt (eA (wE w)) x = H then rkC w P R H x (wC w 2) else R x) j 0 p = R p := fun p hp => by
        rw [up_n _ _ (fun y => by rw [y] at hp; omega)]
        exact if_neg (fun y => by omega)
      obtain ⟨u3, e3, q3⟩ := R_rkCnt q2 hb r i hj hh hP (fun x hx hx2 => by rw [hlow x hx2]; exact hR x hx hx2) (up_s _ _ _) (fun s41 => F_X10_laysRanks_L111 a (nI H) f (nI (j + 1)) s41 K)
      rw [if_pos hh, g11, bind_some', show iast u (a + 1 + 7) (nI j) 0 = _ from e2, bind_some', e3]
      refine ⟨u3, q3.cg (fun _ _ => rfl) (fun x hx => ?_), rfl⟩
      show (if x < j + 1 ∧ hgt (eA (wE w)) x = H then _ else _) = _
      by_cases hxj : x = j
      · subst hxj
        rw [up_s, if_pos ⟨by omega, hh⟩]
        refine fb_ct_cong (fun y hy => ?_)
        by_cases hyH : hgt (eA (wE w)) y = H
        · rw [bfr_cg (A := eA (wE w)) (H := H) (fun p hp => (hP y hy hyH p hp).2) (fun p hp => (hP x hj hh p hp).2) (fun p hp => (hlow p hp).symm)]
        · rw [decide_eq_false hyH, Bool.false_and, Bool.false_and]
      · rw [up_n _ _ hxj, up_n _ _ hxj]
        show _ = if x < j ∧ hgt (eA (wE w)) x = H then _ else _
        by_cases hx2 : x < j ∧ hgt (eA (wE w)) x = H
        · rw [if_pos hx2, if_pos ⟨by omega, hx2.2⟩]
        · rw [if_neg hx2, if_neg (fun y => hx2 ⟨by omega, y.2⟩)]
    · rw [if_neg hh]
      refine ⟨u, hq.cg (fun _ _ => rfl) (fun x hx => ?_), rfl⟩
      show (if x < j + 1 ∧ hgt (eA (wE w)) x = H then _ else _) = if x < j ∧ hgt (eA (wE w)) x = H then _ else _
      by_cases hx2 : x < j ∧ hgt (eA (wE w)) x = H
      · rw [if_pos hx2, if_pos ⟨by omega, hx2.2⟩]
      · rw [if_neg hx2, if_neg (fun y => hx2 ⟨by
          have : x ≠ j := fun z => hh (by rw [← z]; exact y.2)
          omega, y.2⟩)]) (by
    intro f u hq
    obtain ⟨g1, n2⟩ := hq.n2 hb r
    show F_X10_laysRanks_L111 _ _ _ _ _ _ = _
    rw [F_X10_laysRanks_L111, g1, bind_some', n2, bind_some', if_pos (Int32.le_refl _)]) fu u (by unfold fu; omega) (h.cg (fun _ _ => rfl) (fun x _ => if_neg (fun y => by omega)))
  refine ⟨u', e1, q1.cg (fun _ _ => rfl) (fun x hx => ?_)⟩
  show (if hgt (eA (wE w)) x = H then _ else _) = if x < wC w 2 ∧ hgt (eA (wE w)) x = H then _ else _
  by_cases hh : hgt (eA (wE w)) x = H
  · rw [if_pos hh, if_pos ⟨hx, hh⟩]
  · rw [if_neg hh, if_neg (fun y => hh y.2)]
/-- one height more -/
theorem R_laysRanks (h : HP a σ M W w P R u) (hb : M.1 3 = 0) (r : RW W w) (i : Jv w) (hS : RkS (eA (wE w)) (wC w 2) (H - 1) P R) (hH : 1 ≤ H) (hH31 : H < 2 ^ 31) : ∃ u' P' R', F_X10_laysRanks u a (nI H) = some u' ∧ HP a σ M W w P' R' u' ∧ RkS (eA (wE w)) (wC w 2) H P' R' := by
  have hc := i.c
  have hRl : ∀ x, x < wC w 2 → hgt (eA (wE w)) x + 1 = H → R x < 2 ^ 31 := fun x hx hx2 => by
    rw [(hS x hx (by omega)).2]
    have := fb_ct_le (fun y => decide (hgt (eA (wE w)) y = hgt (eA (wE w)) x) && bfr P R y x) (wC w 2)
    omega
  obtain ⟨u1, e1, q1⟩ := R_rkRows h hb r i hRl hH31 (fun s23 => F_X10_laysRanks_L111 a (nI H) fu 0 s23 (fun s42 => some s42))
  have hP1 : ∀ x, x < wC w 2 → hgt (eA (wE w)) x = H → ∀ p, (fun x => if hgt (eA (wE w)) x = H then pvB (eA (wE w)) R x H x else P x) x = some p → p < wC w 2 ∧ hgt (eA (wE w)) p + 1 = H := fun x hx hx2 p hp => by
    have hp' : (if hgt (eA (wE w)) x = H then pvB (eA (wE w)) R x H x else P x) = some p := hp
    rw [if_pos hx2] at hp'
    have := pvB_some hp'
    exact ⟨by omega, this.2.1⟩
  obtain ⟨u2, e2, q2⟩ := R_rkAll q1 hb r i hH31 hP1 hRl (fun s42 => some s42)
  refine ⟨u2, _, _, ?_, q2, fun e he hle => ?_⟩
  · obtain ⟨M', z1, t1, -⟩ := h
    unfold F_X10_laysRanks
    rw [chk_eq t1.ok]
    exact e1.trans e2
  · show (if hgt (eA (wE w)) e = H then pvB (eA (wE w)) R e H e else P e) = _ ∧ (if hgt (eA (wE w)) e = H then _ else R e) = _
    by_cases hh : hgt (eA (wE w)) e = H
    · rw [if_pos hh, if_pos hh]
      have hRR : ∀ p, hgt (eA (wE w)) p + 1 = H → R p = (if hgt (eA (wE w)) p = H then rkC w (fun x => if hgt (eA (wE w)) x = H then pvB (eA (wE w)) R x H x else P x) R H p (wC w 2) else R p) := fun p hp => by rw [if_neg (by omega)]
      refine ⟨?_, ?_⟩
      · rw [hh]
        exact pvB_cg (fun i hi h1 => hRR i h1)
      · show fb_ct _ (wC w 2) = _
        refine fb_ct_cong (fun y hy => ?_)
        rw [hh]
        by_cases hyH : hgt (eA (wE w)) y = H
        · rw [bfr_cg (A := eA (wE w)) (H := H) (fun p hp => (hP1 y hy hyH p hp).2) (fun p hp => (hP1 e he hh p hp).2) hRR]
        · rw [decide_eq_false hyH, Bool.false_and, Bool.false_and]
    · rw [if_neg hh, if_neg hh]
      obtain ⟨s1, s2⟩ := hS e he (by omega)
      have hRR : ∀ p, hgt (eA (wE w)) p + 1 = hgt (eA (wE w)) e → R p = (if hgt (eA (wE w)) p = H then rkC w (fun x => if hgt (eA (wE w)) x = H then pvB (eA (wE w)) R x H x else P x) R H p (wC w 2) else R p) := fun p hp => by rw [if_neg (by omega)]
      have hpv : ∀ x, x < wC w 2 → hgt (eA (wE w)) x = hgt (eA (wE w)) e → ∀ p, P x = some p → hgt (eA (wE w)) p + 1 = hgt (eA (wE w)) e := fun x hx hxe p hp => by
        rw [(hS x hx (by omega)).1] at hp
        rw [← hxe]
        exact (pvB_some hp).2.1
      refine ⟨?_, ?_⟩
      · rw [s1]
        exact pvB_cg (fun i hi h1 => hRR i h1)
      · rw [s2]
        refine fb_ct_cong (fun y hy => ?_)
        by_cases hyH : hgt (eA (wE w)) y = hgt (eA (wE w)) e
        · rw [decide_eq_true hyH, Bool.true_and, Bool.true_and]
          have hPP : ∀ q, hgt (eA (wE w)) q = hgt (eA (wE w)) e → rv (fun x => if hgt (eA (wE w)) x = H then pvB (eA (wE w)) R x H x else P x) (fun x => if hgt (eA (wE w)) x = H then rkC w (fun x => if hgt (eA (wE w)) x = H then pvB (eA (wE w)) R x H x else P x) R H x (wC w 2) else R x) q = rv P (fun x => if hgt (eA (wE w)) x = H then rkC w (fun x => if hgt (eA (wE w)) x = H then pvB (eA (wE w)) R x H x else P x) R H x (wC w 2) else R x) q := fun q hq => by
            unfold rv
            dsimp only
            rw [if_neg (by omega)]
          rw [bfr_cg (A := eA (wE w)) (H := hgt (eA (wE w)) e) (fun p hp => hpv y hy hyH p hp) (fun p hp => hpv e he rfl p hp) hRR]
          unfold bfr
          rw [hPP y hyH, hPP e rfl]
        · rw [decide_eq_false hyH, Bool.false_and, Bool.false_and]
theorem R_laysHeights (b : RB s a M A) (i : Iv A.1) : ∃ t M' P R, F_X10_laysHeights s a = some t ∧ RB t a M' A ∧ Eo a s t ∧ HP a t M' (M'.2.2 0) A.1 P R t ∧ RkS (eA (wE A.1)) (wC A.1 2) (mxh (eA (wE A.1)) (wC A.1 2)) P R := by
  have hc := i.c
  obtain ⟨s1, e1, h1, E1⟩ := b.1.b0 0
  have b1 : RB s1 a (uS M 3 0) A := ⟨h1, b.2.1.b0 (Nat.zero_le _), rfl, b.2.2.2⟩
  have hmx := mxh_le (A := eA (wE A.1)) (wC A.1 2)
  obtain ⟨s2, M2, e2, z2, t2, c2⟩ := R_hOut b1.rt b1.b b1.rw i.j (fun x20 s21 => F_X10_laysHeights_L106 a x20 fu 1 s21 (fun s23 => some s23))
  obtain ⟨u9, ⟨P9, R9, q9, S9⟩, e9⟩ := lpG (fun f j u => F_X10_laysHeights_L106 a (nI (mxh (eA (wE A.1)) (wC A.1 2))) f (nI j) u (fun s23 => some s23)) (fun u => some u) (fun j u => ∃ P R, HP a s1 (uS M 3 0) ((uS M 3 0).2.2 0) A.1 P R u ∧ RkS (eA (wE A.1)) (wC A.1 2) (j - 1) P R) (mxh (eA (wE A.1)) (wC A.1 2) + 1) 1 (by omega) (by
    intro j f u hj1 hj ⟨P, R, q, S⟩
    obtain ⟨u', P', R', e3, q3, S3⟩ := R_laysRanks q b1.b b1.rw i.j S hj1 (by omega)
    refine ⟨u', ⟨P', R', q3, by rw [Nat.add_sub_cancel]; exact S3⟩, ?_⟩
    show F_X10_laysHeights_L106 _ _ _ _ _ _ = _
    rw [F_X10_laysHeights_L106, if_neg (by rw [nI_ltI (by omega) (by omega)]; omega), e3, bind_some', nI_add1]) (by
    intro f u _
    show F_X10_laysHeights_L106 _ _ _ _ _ _ = _
    rw [F_X10_laysHeights_L106, if_pos (by rw [nI_ltI (by omega) (by omega)]; omega)]) fu s2 (by unfold fu; omega) ⟨fun x => some (M2.2.2 6 x), M2.2.2 7, ⟨M2, z2, t2, c2, fun _ _ => rfl, fun _ _ => rfl⟩, fun e he h0 => by have := hgt_pos (eA (wE A.1)) e; omega⟩
  rw [Nat.add_sub_cancel] at S9
  obtain ⟨M9, z9, t9, c5, c6, c7⟩ := q9
  obtain ⟨b9, E9⟩ := b1.op z9 t9 b1.rw i
  refine ⟨u9, _, P9, R9, ?_, b9, E1.tr E9, ⟨_, Mz.rf, b9.rt, fun x hx => ?_, fun x hx => ?_, fun x hx => ?_⟩, S9⟩
  · unfold F_X10_laysHeights
    rw [chk_eq b.ok, show sV s a 10 3 (.int 0) = _ from e1, bind_some']
    exact e2.trans e9
  · rw [wM_k (by decide)]; exact c5 x hx
  · rw [wM_k (by decide)]; exact c6 x hx
  · rw [wM_k (by decide)]; exact c7 x hx
end RGD
