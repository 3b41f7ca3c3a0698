/-! ===== PURE 75: the reference's publics: sites, mode, keep, back ===== -/
section RFO
variable {s s1 t : Sto} {a c : Nat} {M : Ms} {A : Ga} {w : Wd} {W W' : Nat → Nat}
theorem uN00 {j v : Nat} : (uN M 0 j v).2.2 0 = upN (M.2.2 0) j v := uN_at
theorem uN0k {j v k : Nat} (hk : k ≠ 0) : (uN M 0 j v).2.2 k = M.2.2 k := uN_k hk
/-- all but the words is as it was -/
def Nz (M N : Ms) : Prop := N.1 = M.1 ∧ N.2.1 = M.2.1 ∧ ∀ k, k ≠ 0 → N.2.2 k = M.2.2 k
theorem Nz.rf : Nz M M := ⟨rfl, rfl, fun _ _ => rfl⟩
theorem Nz.up {N : Ms} {j v : Nat} (h : Nz M N) : Nz M (uN N 0 j v) := ⟨h.1, h.2.1, fun k hk => by rw [uN0k hk]; exact h.2.2 k hk⟩
theorem R_copies (h : RM s a M) {src dst : Nat} (h1 : src + 49425 ≤ 197700) (h2 : dst + 49425 ≤ 197700) (hd : src + 49425 ≤ dst ∨ dst + 49425 ≤ src) : ∃ t N, F_X10_copies s a (nI src) (nI dst) = some t ∧ RM t a N ∧ Nz M N ∧ (∀ j, j < 49425 → N.2.2 0 (dst + j) = M.2.2 0 (src + j)) ∧ (∀ j, (j < dst ∨ dst + 49425 ≤ j) → N.2.2 0 j = M.2.2 0 j) ∧ Eo a s t := by
  obtain ⟨s2, ⟨N, q1, q2, q3, q4, q5⟩, e2⟩ := lpS (fun f j s => F_X10_copies_L2 a (nI src) (nI dst) f (nI j) s (fun s5 => some s5)) (fun s => some s) (fun i u => ∃ N, RM u a N ∧ Nz M N ∧ (∀ j, j < i → N.2.2 0 (dst + j) = M.2.2 0 (src + j)) ∧ (∀ j, (j < dst ∨ dst + i ≤ j) → N.2.2 0 j = M.2.2 0 j) ∧ Eo a s u) 49425 (by
    intro i f u hi ⟨N, q1, q2, q3, q4, q5⟩
    obtain ⟨u2, e2, h2, E2⟩ := q1.iast (k := 0) (j := dst + i) (v := M.2.2 0 (src + i)) (by omega) rfl (show dst + i < 197700 by omega)
    refine ⟨u2, ⟨_, h2, q2.up, fun j hj => ?_, fun j hj => ?_, q5.tr E2⟩, ?_⟩
    · rw [uN00]
      by_cases hji : j = i
      · subst hji; rw [upN_s]
      · rw [upN_n (by omega)]; exact q3 j (by omega)
    · rw [uN00, upN_n (by omega)]; exact q4 j (by omega)
    · have e2' : iast u (a + 1) (nI (dst + i)) (nI (M.2.2 0 (src + i))) = some u2 := e2
      show F_X10_copies_L2 _ _ _ _ _ _ _ = _
      rw [F_X10_copies_L2, if_neg (by rw [l_49425, nI_leI (by omega) (by omega)]; omega), q1.wd, bind_some', bind_some', nI_add, q1.raw (by omega), q4 _ (by omega), bind_some', nI_add, e2', bind_some', nI_add1]) (by
    intro f u _
    show F_X10_copies_L2 _ _ _ _ _ _ _ = _
    rw [F_X10_copies_L2, if_pos (by rw [l_49425]; exact Int32.le_refl _)]) fu s (by unfold fu; omega) ⟨M, h, Nz.rf, fun j hj => absurd hj (Nat.not_lt_zero j), fun _ _ => rfl, Eo.rf⟩
  refine ⟨s2, N, ?_, q1, q2, q3, q4, q5⟩
  unfold F_X10_copies
  rw [chk_eq h.ok]
  exact e2
theorem RW_beg {n m : Nat} (h0 : W 0 = n) (h1 : W 1 = m) (hz : ∀ j, 2 ≤ j → j < 49425 → W j = 0) : RW W (wBeg n m) := by
  have hb : ∀ r e, e < 128 → 2 ≤ r → r + 4 ≤ 49425 → rb W r e = false := fun r e he hr hr2 => by
    unfold rb
    rw [hz _ (by omega) (by omega)]
    exact Nat.zero_testBit _
  have hs : ∀ q, 2 ≤ q → q + 394 ≤ 49425 → RS W q sBeg := fun q hq hq2 => ⟨fun i hi => hz _ (by omega) (by omega), fun e he => hb _ e he (by omega) (by omega), fun e he => hb _ e he (by omega) (by omega), hz _ (by omega) (by omega), fun i x hx => by simp [sBeg, sLg] at hx, fun e he => ⟨hz _ (by omega) (by omega), hz _ (by omega) (by omega)⟩⟩
  refine ⟨fun k hk => ?_, fun q hq => by rw [hz 7 (by omega) (by omega)]; exact Nat.zero_testBit _, fun x hx => ⟨hz _ (by omega) (by omega), hs _ (by omega) (by omega), hs _ (by omega) (by omega)⟩, fun e he => absurd he (Nat.not_lt_zero e), fun q hq => ⟨hz _ (by omega) (by omega), fun k l hl => by simp [wBeg, wT] at hl⟩⟩
  show W k = if k = 0 then n else if k = 1 then m else 0
  by_cases k0 : k = 0
  · subst k0; rw [if_pos rfl]; exact h0
  · rw [if_neg k0]
    by_cases k1 : k = 1
    · subst k1; rw [if_pos rfl]; exact h1
    · rw [if_neg k1]; exact hz k (by omega) (by omega)
theorem R_begins (h : RM s a M) (hn : c < 2 ^ 31) : ∃ t N, F_X10_begins s a (nI c) = some t ∧ RM t a N ∧ Nz (uS M 5 0) N ∧ N.2.2 0 0 = c ∧ N.2.2 0 1 = M.2.2 0 1 ∧ (∀ j, 2 ≤ j → j < 49425 → N.2.2 0 j = 0) ∧ (∀ j, 49425 ≤ j → N.2.2 0 j = M.2.2 0 j) ∧ Eo a s t := by
  obtain ⟨s2, ⟨N, q1, q2, q3, q4, q5⟩, e2⟩ := lpS (fun f j u => F_X10_begins_L9 a f (nI j) u (fun s5 => (gR s5 a 10 1).bind fun p6 => (iast s5 p6 (0 : Int32) (nI c)).bind fun s7 => (gR s7 a 10 1).bind fun p8 => (iast s7 p8 (1 : Int32) (nI (M.2.2 0 1))).bind fun s9 => (sV s9 a 10 5 (.int (0 : Int32))).bind fun s10 => some s10)) (fun s5 => (gR s5 a 10 1).bind fun p6 => (iast s5 p6 (0 : Int32) (nI c)).bind fun s7 => (gR s7 a 10 1).bind fun p8 => (iast s7 p8 (1 : Int32) (nI (M.2.2 0 1))).bind fun s9 => (sV s9 a 10 5 (.int (0 : Int32))).bind fun s10 => some s10) (fun i u => ∃ N, RM u a N ∧ Nz M N ∧ (∀ j, j < i → N.2.2 0 j = 0) ∧ (∀ j, i ≤ j → N.2.2 0 j = M.2.2 0 j) ∧ Eo a s u) 49425 (by
    intro i f u hi ⟨N, q1, q2, q3, q4, q5⟩
    obtain ⟨u2, e2, h2, E2⟩ := q1.iast (k := 0) (j := i) (v := 0) (by omega) rfl (show i < 197700 by omega)
    refine ⟨u2, ⟨_, h2, q2.up, fun j hj => ?_, fun j hj => ?_, q5.tr E2⟩, ?_⟩
    · rw [uN00]
      by_cases hji : j = i
      · subst hji; rw [upN_s]
      · rw [upN_n hji]; exact q3 j (by omega)
    · rw [uN00, upN_n (by omega)]; exact q4 j (by omega)
    · have e2' : iast u (a + 1) (nI i) 0 = some u2 := e2
      show F_X10_begins_L9 _ _ _ _ _ = _
      rw [F_X10_begins_L9, if_neg (by rw [l_49425, nI_leI (by omega) (by omega)]; omega), q1.wd, bind_some', e2', bind_some', nI_add1]) (by
    intro f u _
    show F_X10_begins_L9 _ _ _ _ _ = _
    rw [F_X10_begins_L9, if_pos (by rw [l_49425]; exact Int32.le_refl _)]) fu s (by unfold fu; omega) ⟨M, h, Nz.rf, fun j hj => absurd hj (Nat.not_lt_zero j), fun _ _ => rfl, Eo.rf⟩
  obtain ⟨s3, e3, h3, E3⟩ := q1.iast (k := 0) (j := 0) (v := c) (by omega) rfl (show 0 < 197700 by omega)
  obtain ⟨s4, e4, h4, E4⟩ := h3.iast (k := 0) (j := 1) (v := M.2.2 0 1) (by omega) rfl (show 1 < 197700 by omega)
  obtain ⟨s5, e5, h5, E5⟩ := h4.setS (k := 5) (v := 0) rfl (by omega)
  have v0 : (uS (uN (uN N 0 0 c) 0 1 (M.2.2 0 1)) 5 0).2.2 0 = upN (upN (N.2.2 0) 0 c) 1 (M.2.2 0 1) := by
    show (uN (uN N 0 0 c) 0 1 (M.2.2 0 1)).2.2 0 = _
    rw [uN00, uN00]
  refine ⟨s5, _, ?_, h5, ⟨?_, q2.2.1, fun k hk => ?_⟩, ?_, ?_, fun j h1 h2 => ?_, fun j hj => ?_, ((q5.tr E3).tr E4).tr E5⟩
  · have e3' : iast s2 (a + 1) 0 (nI c) = some s3 := e3
    have e4' : iast s3 (a + 1) 1 (nI (M.2.2 0 1)) = some s4 := e4
    have e5' : sV s4 a 10 5 (.int 0) = some s5 := e5
    unfold F_X10_begins
    rw [chk_eq h.ok, h.wd, bind_some', show iald s (a + 1) 1 = _ from h.raw (j := 1) (by omega), bind_some']
    refine e2.trans ?_
    rw [q1.wd, bind_some', e3', bind_some', h3.wd, bind_some', e4', bind_some', e5', bind_some']
  · show upN N.1 5 0 = upN M.1 5 0
    rw [q2.1]
  · show (uN (uN N 0 0 c) 0 1 (M.2.2 0 1)).2.2 k = M.2.2 k
    rw [uN0k hk, uN0k hk]; exact q2.2.2 k hk
  · rw [v0, upN_n (by omega), upN_s]
  · rw [v0, upN_s]
  · rw [v0, upN_n (by omega), upN_n (by omega)]; exact q3 j h2
  · rw [v0, upN_n (by omega), upN_n (by omega)]; exact q4 j hj
theorem R_sites (h : RJ s a c A) (x : Int32) : Rj s a (cd1 eIA) (F_X10_sites s a x) (aSit A x) := by
  obtain ⟨s1, M, e1, h1, k1, t1, E1, o⟩ := h.go1
  have hin := R_isIn x 2 5
  rw [show (2 : Int32).toInt64 = (2 : Int64) from by decide +kernel, show (5 : Int32).toInt64 = (5 : Int64) from by decide +kernel] at hin
  unfold F_X10_sites aSit
  rw [chk_eq o, e1, bind_some', hin, bind_some', ifb0, show nI 2 = (2 : Int32) from rfl, show nI 5 = (5 : Int32) from rfl]
  by_cases h2 : x < 2
  · rw [if_pos h2, decide_eq_false (fun y => Int32.not_lt.mpr y.1 h2), if_neg z_f]
    exact Rj.fl h1 k1 E1 cd1_1
  rw [if_neg h2]
  by_cases h5 : x ≤ 5
  · rw [if_pos h5, decide_eq_true ⟨Int32.not_lt.mp h2, h5⟩, if_pos rfl]
    have h2' : ¬ x.toInt < 2 := by
      rw [show (2 : Int32) = nI 2 from rfl, ltn_i' x (by omega)] at h2
      omega
    have h5' : x.toInt ≤ 5 := by
      rw [Int32.le_iff_toInt_le, show (5 : Int32).toInt = 5 from rfl] at h5
      exact h5
    have htN : tN x = x.toInt.toNat := rfl
    have hx : x = nI (tN x) := by
      apply Int32.toInt_inj.mp
      rw [nI_toInt (by omega), htN]
      omega
    obtain ⟨t, N, e2, h3, z3, n0, n1, n2, n4, E2⟩ := R_begins (c := tN x) h1 (by omega)
    rw [← hx] at e2
    rw [e2, bind_some']
    have hk : RK N (wBeg (tN x) (wC A.1 1), A.2.1, [], A.2.2.2) := by
      refine ⟨?_, RW_beg n0 (n1.trans (k1.2.1.c (by omega))) n2, fun q hq => ?_, ⟨?_, fun j u hj hu => (by cases hu)⟩, by rw [z3.2.1]; exact k1.2.2.2.2⟩
      · rw [z3.1]; exact k1.1
      · obtain ⟨q1, q2⟩ := k1.2.2.1 q hq
        refine ⟨by rw [z3.2.2 1 (by decide)]; exact q1, fun v hv => ?_⟩
        have hf : (fun j => N.2.2 0 (98850 + 49425 * q + j)) = fun j => M.2.2 0 (98850 + 49425 * q + j) := by
          funext j
          exact n4 _ (by omega)
        rw [hf]
        exact q2 v hv
      · rw [z3.1]; rfl
    exact Rj.ok1 h3 hk (by rw [z3.1]; exact t1) (E1.tr E2)
  · rw [if_neg h5, decide_eq_false (fun y => h5 y.2), if_neg z_f]
    exact Rj.fl h1 k1 E1 cd1_1
theorem R_mode (h : RJ s a c A) (i : Iv A.1) (x : Int32) : Rj s a (cd1 eIA) (F_X10_mode s a x) (aMod A x) := by
  obtain ⟨s1, M, e1, h1, k1, t1, E1, o⟩ := h.go1
  unfold F_X10_mode aMod
  rw [chk_eq o, e1, bind_some', isIn_2, bind_some', ifb0]
  cases hx : inR x 3 with
  | false => exact Rj.fl h1 k1 E1 cd1_1
  | true =>
    obtain ⟨x1, x2⟩ := inR_tN (by omega) hx
    generalize tN x = x' at x1 x2
    subst x1
    obtain ⟨s2, e2, h2, E2⟩ := h1.iast (k := 0) (j := 1) (v := x') (by omega) rfl (show 1 < 197700 by omega)
    have e2' : iast s1 (a + 1) 1 (nI x') = some s2 := e2
    have hk : RK (uN M 0 1 x') (wC' A.1 (up (wC A.1) 1 x'), A.2) := by
      refine ⟨k1.1, by rw [uN00]; exact RW_num k1.2.1 i (by omega) (by omega), fun q hq => ⟨by rw [uN0k (by decide)]; exact (k1.2.2.1 q hq).1, fun v hv => ?_⟩, ⟨k1.2.2.2.1.1, fun j u hj hu q hq => by rw [uN0k (by decide)]; exact k1.2.2.2.1.2 j u hj hu q hq⟩, k1.2.2.2.2⟩
      have hf : (fun j => (uN M 0 1 x').2.2 0 (98850 + 49425 * q + j)) = fun j => M.2.2 0 (98850 + 49425 * q + j) := by
        funext j
        rw [uN00, upN_n (by omega)]
      rw [hf]
      exact (k1.2.2.1 q hq).2 v hv
    rw [if_pos rfl, if_pos rfl, h1.wd, bind_some', show iald s1 (a + 1) 1 = _ from h1.raw (j := 1) (by omega), bind_some', bind_some', e2', bind_some', k1.2.1.c (by omega)]
    exact Rj.ok1 h2 hk t1 (E1.tr E2)
theorem R_keep (h : RJ s a c A) (i : Iv A.1) (hi : ∀ k v, A.2.1 k = some v → Iv v) (x : Int32) : Rj s a (cd1 eIA) (F_X10_keep s a x) (aKee A x) := by
  obtain ⟨s1, M, e1, h1, k1, t1, E1, o⟩ := h.go1
  unfold F_X10_keep aKee
  rw [chk_eq o, e1, bind_some', isIn_1, bind_some', ifb0]
  cases hx : inR x 2 with
  | false => exact Rj.fl h1 k1 E1 cd1_1
  | true =>
    obtain ⟨x1, x2⟩ := inR_tN (by omega) hx
    generalize tN x = x' at x1 x2
    subst x1
    obtain ⟨s2, N, e2, h2, z2, c2, d2, E2⟩ := R_copies h1 (src := 0) (dst := 98850 + 49425 * x') (by omega) (by omega) (by omega)
    obtain ⟨s3, e3, h3, E3⟩ := h2.zast (k := 1) (j := x') (v := 1) (by omega) rfl (show x' < 2 by omega) (Or.inr rfl)
    have e2' : F_X10_copies s1 a 0 (nI (98850 + 49425 * x')) = some s2 := e2
    have e3' : zast s2 (a + 2) (nI x') 1 = some s3 := e3
    have g2 : gR s2 a 10 2 = some (a + 2) := gR_cel h2.1 rfl
    have u0 : (uN N 1 x' 1).2.2 0 = N.2.2 0 := uN_k (by decide)
    have u1 : (uN N 1 x' 1).2.2 1 = upN (N.2.2 1) x' 1 := uN_at
    have u2 : (uN N 1 x' 1).2.2 2 = N.2.2 2 := uN_k (by decide)
    have hW : RW (N.2.2 0) A.1 := k1.2.1.low i.j i.t12 (fun j hj => d2 j (by omega))
    have hk : RK (uN N 1 x' 1) (A.1, up A.2.1 x' (some A.1), A.2.2) := by
      refine ⟨?_, by rw [u0]; exact hW, fun q hq => ?_, ⟨?_, fun j u hj hu q hq => ?_⟩, by show lN N.2.1 = _; rw [z2.2.1]; exact k1.2.2.2.2⟩
      · show N.1 3 ≤ 49425
        rw [z2.1]; exact k1.1
      · rw [u1, u0]
        show upN (N.2.2 1) x' 1 q = b2 (up A.2.1 x' (some A.1) q).isSome ∧ ∀ v, up A.2.1 x' (some A.1) q = some v → _
        by_cases hqx : q = x'
        · subst hqx
          rw [upN_s, up_s]
          refine ⟨rfl, fun v hv => ?_⟩
          cases hv
          refine k1.2.1.low i.j i.t12 (fun j hj => ?_)
          have := c2 j hj
          rw [Nat.zero_add] at this
          exact this
        · rw [upN_n hqx, up_n _ _ hqx, z2.2.2 1 (by decide)]
          refine ⟨(k1.2.2.1 q hq).1, fun v hv => ?_⟩
          exact ((k1.2.2.1 q hq).2 v hv).low (hi q v hv).j (hi q v hv).t12 (fun j hj => d2 _ (by omega))
      · show N.1 5 = _
        rw [z2.1]; exact k1.2.2.2.1.1
      · rw [u2, z2.2.2 2 (by decide)]
        exact k1.2.2.2.1.2 j u hj hu q hq
    rw [if_pos rfl, if_pos rfl, l_98850, l_49425, pk_mul, nI_add, e2', bind_some', g2, bind_some', e3', bind_some', h3.wd, bind_some', show iald s3 (a + 1) 2 = _ from h3.raw (j := 2) (by omega), bind_some', u0, hW.c (by omega)]
    exact Rj.ok1 h3 hk (by show N.1 0 = 0; rw [z2.1]; exact t1) ((E1.tr E2).tr E3)
theorem R_back (h : RJ s a c A) (hi : ∀ k v, A.2.1 k = some v → Iv v) (x : Int32) : Rj s a (cd2 eIA eNS) (F_X10_back s a x) (aBac A x) := by
  obtain ⟨s1, M, e1, h1, k1, t1, E1, o⟩ := h.go1
  unfold F_X10_back aBac
  rw [chk_eq o, e1, bind_some', isIn_1, bind_some', ifb0]
  cases hx : inR x 2 with
  | false => exact Rj.fl h1 k1 E1 cd2_1
  | true =>
    obtain ⟨x1, x2⟩ := inR_tN (by omega) hx
    generalize tN x = x' at x1 x2
    subst x1
    have g2 : gR s1 a 10 2 = some (a + 2) := gR_cel h1.1 rfl
    have w2 : zald s1 (a + 2) (nI x') = some (nI (b2 (A.2.1 x').isSome)) := (h1.zald (k := 1) (j := x') (by omega) rfl (show x' < 2 by omega)).trans (by rw [(k1.2.2.1 x' x2).1])
    rw [if_pos rfl, if_pos rfl, g2, bind_some', w2, bind_some', ifb0]
    cases hv : A.2.1 x' with
    | none => exact Rj.fl h1 k1 E1 (cd2_2 n_NS_IA)
    | some v =>
      have iv := hi x' v hv
      have hr := (k1.2.2.1 x' x2).2 v hv
      obtain ⟨s2, N, e2, h2, z2, c2, d2, E2⟩ := R_copies h1 (src := 98850 + 49425 * x') (dst := 0) (by omega) (by omega) (by omega)
      obtain ⟨s3, e3, h3, E3⟩ := h2.setS (k := 5) (v := 0) rfl (by omega)
      have e2' : F_X10_copies s1 a (nI (98850 + 49425 * x')) 0 = some s2 := e2
      have e3' : sV s2 a 10 5 (.int 0) = some s3 := e3
      have hW : RW (N.2.2 0) v := hr.low iv.j iv.t12 (fun j hj => by have := c2 j hj; rw [Nat.zero_add] at this; exact this)
      have hk : RK (uS N 5 0) (v, A.2.1, [], A.2.2.2) := by
        refine ⟨?_, hW, fun q hq => ⟨?_, fun u hu => ?_⟩, ⟨rfl, fun j u hj hu => (by cases hu)⟩, by show lN N.2.1 = _; rw [z2.2.1]; exact k1.2.2.2.2⟩
        · show N.1 3 ≤ 49425
          rw [z2.1]; exact k1.1
        · show N.2.2 1 q = _
          rw [z2.2.2 1 (by decide)]; exact (k1.2.2.1 q hq).1
        · exact ((k1.2.2.1 q hq).2 u hu).low (hi q u hu).j (hi q u hu).t12 (fun j hj => d2 _ (by omega))
      have w3 : iald s3 (a + 1) 2 = some (nI (wC v 2)) := (h3.raw (j := 2) (by omega)).trans (by rw [show (uS N 5 0).2.2 0 2 = N.2.2 0 2 from rfl, hW.c (by omega)])
      rw [show (some v).isSome = true from rfl, if_pos rfl, l_98850, l_49425, pk_mul, nI_add, e2', bind_some', e3', bind_some', h3.wd, bind_some', w3, bind_some']
      exact Rj.ok1 h3 hk (by show N.1 0 = 0; rw [z2.1]; exact t1) ((E1.tr E2).tr E3)
end RFO
