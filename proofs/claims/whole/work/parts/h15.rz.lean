/-! ===== PURE 85: the reference on paper: falling, joining, best ===== -/
section RFZ
variable {s s1 t σ : Sto} {a c : Nat} {M : Ms} {A : Ga} {w : Wd} {W W' : Nat → Nat}
def My (M M' : Ms) : Prop := (∀ k, k ≠ 12 → k ≠ 13 → M'.1 k = M.1 k) ∧ M'.2.1 = M.2.1 ∧ ∀ k, k < 3 → M'.2.2 k = M.2.2 k
theorem My.rf : My M M := ⟨fun _ _ _ => rfl, rfl, fun _ _ => rfl⟩
theorem My.tr {M1 M2 : Ms} (h : My M M1) (h2 : My M1 M2) : My M M2 := ⟨fun k a b => (h2.1 k a b).trans (h.1 k a b), h2.2.1.trans h.2.1, fun k hk => (h2.2.2 k hk).trans (h.2.2 k hk)⟩
theorem Mz.my {M' : Ms} (h : Mz M M') : My M M' := ⟨fun k _ _ => by rw [h.1], h.2.1, h.2.2⟩
/-- words on paper are no part of the state -/
theorem RK.pap {M' : Ms} (k : RK M A) (i : Iv A.1) (hi : ∀ k v, A.2.1 k = some v → Iv v) (hb : M.1 3 = 49425) (mz : My M M') : RK (wM M' W') A := by
  obtain ⟨k1, k2, k3, k4, k5⟩ := k
  obtain ⟨m1, m2, m3⟩ := mz
  have hb' : M'.1 3 = 49425 := by rw [m1 3 (by decide) (by decide)]; exact hb
  have e0 : M'.2.2 0 = M.2.2 0 := m3 0 (by omega)
  refine ⟨by show M'.1 3 ≤ _; omega, k2.low i.j i.t12 (fun j hj => ?_), fun q hq => ⟨?_, fun v hv => ?_⟩, ⟨?_, fun j t hj ht q hq => ?_⟩, by show lN M'.2.1 = _; rw [m2]; exact k5⟩
  · rw [wM_out (by omega), e0]
  · rw [wM_k (by decide), m3 1 (by omega)]; exact (k3 q hq).1
  · refine ((k3 q hq).2 v hv).low (hi q v hv).j (hi q v hv).t12 (fun j hj => ?_)
    rw [wM_out (by omega), e0]
  · show M'.1 5 = _
    rw [m1 5 (by decide) (by decide)]; exact k4.1
  · rw [wM_k (by decide), m3 2 (by omega)]
    exact k4.2 j t hj ht q hq
theorem R_onPaper (h : RM s a M) (k : RK M A) (i : Iv A.1) (hi : ∀ k v, A.2.1 k = some v → Iv v) : ∃ t N, F_X10_onPaper s a = some t ∧ RM t a N ∧ RK N A ∧ N.1 3 = 49425 ∧ N.1 0 = M.1 0 ∧ RW (Wb N) A.1 ∧ Eo a s t := by
  obtain ⟨t1, N, e1, h1, z1, c1, d1, E1⟩ := R_copies h (src := 0) (dst := 49425) (by omega) (by omega) (by omega)
  obtain ⟨t2, e2, h2, E2⟩ := h1.b0 49425
  have hd : ∀ j, (j < 49425 ∨ 98850 ≤ j) → N.2.2 0 j = M.2.2 0 j := fun j hj => d1 j (by omega)
  have hk : RK (uS N 3 49425) A := by
    obtain ⟨k1, k2, k3, k4, k5⟩ := k
    refine ⟨Nat.le_refl _, k2.low i.j i.t12 (fun j hj => hd j (Or.inl hj)), fun q hq => ⟨?_, fun v hv => ?_⟩, ⟨?_, fun j t hj ht q hq => ?_⟩, by show lN N.2.1 = _; rw [z1.2.1]; exact k5⟩
    · show N.2.2 1 q = _
      rw [z1.2.2 1 (by decide)]; exact (k3 q hq).1
    · exact ((k3 q hq).2 v hv).low (hi q v hv).j (hi q v hv).t12 (fun j hj => hd _ (by omega))
    · show N.1 5 = _
      rw [z1.1]; exact k4.1
    · show N.2.2 2 _ = _
      rw [z1.2.2 2 (by decide)]; exact k4.2 j t hj ht q hq
  refine ⟨t2, _, ?_, h2, hk, rfl, by show N.1 0 = _; rw [z1.1], k.2.1.low i.j i.t12 (fun j hj => ?_), E1.tr E2⟩
  · unfold F_X10_onPaper
    rw [chk_eq h.ok, show F_X10_copies s a 0 49425 = _ from e1, bind_some', show sV t1 a 10 3 (.int 49425) = _ from e2, bind_some']
  · have := c1 j hj
    rw [Nat.zero_add] at this
    exact this
/-- what is told on paper of a world w; then the base is back -/
theorem R_told {M0 : Ms} (h : RT a σ M W s) (r : RW W w) (iw : Iv w) (k : RK M0 A) (i : Iv A.1) (hi : ∀ k v, A.2.1 k = some v → Iv v) (mz : My M0 M) (hb : M0.1 3 = 49425) (h0 : M0.1 0 = 0) {x q : Nat} (hx : x < 5) (hq : q < 4) : ∃ t M', F_X10_toldOnPaper s a (nI x) (nI q) = some (nI (rkn w x q), t) ∧ RB t a M' A ∧ Eo a σ t := by
  have fin : ∀ (u : Sto) (M1 : Ms), RT a σ M1 W u → My M0 M1 → ∃ t M', sV u a 10 3 (.int (0 : Int32)) = some t ∧ RB t a M' A ∧ Eo a σ t := fun u M1 h1 m1 => by
    obtain ⟨t, e1, h2, E2⟩ := h1.2.1.b0 0
    have k1 := k.pap (W' := W) i hi hb m1
    exact ⟨t, _, e1, ⟨h2, k1.b0 (Nat.zero_le _), rfl, by show M1.1 0 = 0; rw [m1.1 0 (by decide) (by decide)]; exact h0⟩, h1.2.2.tr E2⟩
  obtain ⟨u, M1, e1, z1, t1⟩ := R_lostTo h r iw.j iw.t12 iw.le hx
  obtain ⟨t, M2, e2, b2, E2⟩ := fin s M h mz
  obtain ⟨t', M3, e3, b3, E3⟩ := fin u M1 t1 (mz.tr z1.my)
  unfold F_X10_toldOnPaper
  rw [chk_eq h.ok, jn_eq, R_hasMany h r iw.j hx, bind_some', e1, wbs, R_overstatedOf h r iw.j hx, bind_some', R_overstatedAll h r iw.j, bind_some']
  dsimp only
  rw [e2, bind_some', bind_some', bind_some', e3, bind_some']
  unfold rkn
  rcases (show q = 0 ∨ q = 1 ∨ q = 2 ∨ q = 3 by omega) with rfl | rfl | rfl | rfl
  · rw [if_pos nI_0]; exact ⟨t, M2, rfl, b2, E2⟩
  · rw [if_neg z_1, if_pos (show nI 1 = (1 : Int32) from rfl)]; exact ⟨t', M3, rfl, b3, E3⟩
  · rw [if_neg z_2, if_neg (show ¬ nI 2 = (1 : Int32) by decide), if_pos (show nI 2 = (2 : Int32) from rfl), show ovS w x = fb_ct (ovC w x) 25 from (ov_sum iw).symm]
    exact ⟨t, M2, rfl, b2, E2⟩
  · rw [if_neg z_3, if_neg (show ¬ nI 3 = (1 : Int32) by decide), if_neg (show ¬ nI 3 = (2 : Int32) by decide), sm_cg (fun y _ => show ovS w y = fb_ct (ovC w y) 25 from (ov_sum iw).symm)]
    exact ⟨t, M2, rfl, b2, E2⟩
theorem R_falling (h : RJ s a c A) (i : Iv A.1) (hi : ∀ k v, A.2.1 k = some v → Iv v) (x k : Int32) : Rj s a (cd2 eIO eIA) (F_X10_falling s a x k) (aFlg A x k) := by
  obtain ⟨s1, M, e1, h1, k1, t1, E1, o⟩ := h.go1
  have hn := i.n5
  unfold F_X10_falling aFlg
  rw [chk_eq o, e1, bind_some', R_isSiteM h1 k1 i, bind_some', ifb0, isIn_3, bind_some', ifb0]
  cases hx : inR x (wC A.1 0) with
  | false => exact Rj.fl h1 k1 E1 cd2_1
  | true =>
    obtain ⟨x1, x2⟩ := inR_tN (by omega) hx
    generalize tN x = x' at x1 x2
    subst x1
    have hx5 : x' < 5 := by omega
    rw [if_pos rfl, if_pos rfl]
    cases hk : inR k 4 with
    | false => exact Rj.fl h1 k1 E1 (cd2_2 n_IA_IO)
    | true =>
      obtain ⟨k1', k2⟩ := inR_tN (by omega) hk
      generalize tN k = k' at k1' k2
      subst k1'
      obtain ⟨s2, N, e2, h2, kN, bN, zN, rN, E2⟩ := R_onPaper h1 k1 i hi
      obtain ⟨s3, W3, e3, t3, r3, -⟩ := R_falls (RT.begin h2 (by omega)) rN i.j (x := x') hx5
      obtain ⟨s4, M4, e4, b4, E4⟩ := R_told t3 r3 (Iv_fal i hx5) kN i hi My.rf bN (zN.trans t1) hx5 k2
      rw [if_pos rfl, if_pos rfl, e2, bind_some', e3, bind_some', e4, wbs]
      exact Rj.ok b4 ((E1.tr E2).tr E4)
theorem R_joiningNow (h : RM s a M) (k1 : RK M A) (h0 : M.1 0 = 0) (i : Iv A.1) (hi : ∀ k v, A.2.1 k = some v → Iv v) {x y q : Nat} (hx : x < wC A.1 0) (hy : y < wC A.1 0) (hne : x ≠ y) (hq : q < 4) : ∃ t M', F_X10_joiningNow s a (nI x) (nI y) (nI q) = some (nI (rkn (joi A.1 x y) x q), t) ∧ RB t a M' A ∧ Eo a s t := by
  have hn := i.n5
  have hx5 : x < 5 := by omega
  obtain ⟨s2, N, e2, h2, kN, bN, zN, rN, E2⟩ := R_onPaper h k1 i hi
  obtain ⟨s3, e3, W3, t3, r3, -⟩ := R_joins (RT.begin h2 (by omega)) rN i.j (x := x) hx5 (y := y) (by omega) hne (Nat.le_trans (i.k hx5) i.c)
  obtain ⟨s4, M4, e4, b4, E4⟩ := R_told (w := joi A.1 x y) t3 r3 (Iv_joi i hx hy) kN i hi My.rf bN (zN.trans h0) hx5 hq
  refine ⟨s4, M4, ?_, b4, E2.tr E4⟩
  unfold F_X10_joiningNow
  rw [chk_eq h.ok, e2, bind_some', e3, bind_some', e4, wbs]
theorem R_joining (h : RJ s a c A) (i : Iv A.1) (hi : ∀ k v, A.2.1 k = some v → Iv v) (x y k : Int32) : Rj s a (cd2 eIO eIA) (F_X10_joining s a x y k) (aJng A x y k) := by
  obtain ⟨s1, M, e1, h1, k1, t1, E1, o⟩ := h.go1
  have hn := i.n5
  unfold F_X10_joining aJng
  rw [chk_eq o, e1, bind_some', R_areTwoM h1 k1 i, bind_some', ifb0, isIn_3, bind_some', ifb0]
  cases hx : two A.1 x y with
  | false => exact Rj.fl h1 k1 E1 cd2_1
  | true =>
    obtain ⟨⟨x1, x2⟩, ⟨y1, y2⟩, hne⟩ := two_tN hn hx
    generalize tN x = x' at x1 x2 hne
    generalize tN y = y' at y1 y2 hne
    subst x1
    subst y1
    rw [if_pos rfl, if_pos rfl]
    cases hk : inR k 4 with
    | false => exact Rj.fl h1 k1 E1 (cd2_2 n_IA_IO)
    | true =>
      obtain ⟨k1', k2⟩ := inR_tN (by omega) hk
      generalize tN k = k' at k1' k2
      subst k1'
      obtain ⟨s4, M4, e4, b4, E4⟩ := R_joiningNow h1 k1 t1 i hi x2 y2 hne k2
      rw [if_pos rfl, if_pos rfl, e4, wbs]
      exact Rj.ok b4 (E1.tr E4)
theorem R_best (h : RJ s a c A) (i : Iv A.1) (hi : ∀ k v, A.2.1 k = some v → Iv v) (x : Int32) : Rj s a (cd1 eIO) (F_X10_best s a x) (aBst A x) := by
  obtain ⟨s1, M, e1, h1, k1, t1, E1, o⟩ := h.go1
  have hn := i.n5
  have hc := i.c
  unfold F_X10_best aBst
  rw [chk_eq o, e1, bind_some', R_isSiteM h1 k1 i, bind_some', ifb0]
  cases hx : inR x (wC A.1 0) with
  | false => exact Rj.fl h1 k1 E1 cd1_1
  | true =>
    obtain ⟨x1, x2⟩ := inR_tN (by omega) hx
    generalize tN x = x' at x1 x2
    subst x1
    rw [if_pos rfl, if_pos rfl]
    obtain ⟨t9, ⟨M9, h9, k9, z9, E9⟩, e9⟩ := lpS (fun f j u => F_X10_best_L29 a (nI x') f (bjI (bj A.1 x' j)).1 (bjI (bj A.1 x' j)).2.1 (bjI (bj A.1 x' j)).2.2 (nI j) u (fun x9 s10 => some (x9, s10))) (fun u => some ((bjI (bj A.1 x' (wC A.1 0))).1, u)) (fun j u => ∃ M', RM u a M' ∧ RK M' A ∧ M'.1 0 = 0 ∧ Eo a s1 u) (wC A.1 0) (by
      intro j f u hj ⟨M', h', k', z', E'⟩
      have n0 : iald u (a + 1) 0 = some (nI (wC A.1 0)) := (h'.raw (j := 0) (by omega)).trans (by rw [k'.2.1.c (by omega)])
      show ∃ u', _ ∧ F_X10_best_L29 _ _ _ _ _ _ _ _ _ = _
      rw [F_X10_best_L29, h'.wd, bind_some', n0, bind_some', if_neg (by rw [nI_leI (by omega) (by omega)]; omega), ifE (by omega) (by omega), nI_add1]
      by_cases hjx : j = x'
      · rw [if_pos hjx, show bj A.1 x' (j + 1) = bj A.1 x' j from if_pos hjx]
        exact ⟨u, ⟨M', h', k', z', E'⟩, rfl⟩
      · obtain ⟨u1, M1, f1, b1, F1⟩ := R_joiningNow h' k' z' i hi x2 hj (fun y => hjx y.symm) (q := 1) (by omega)
        obtain ⟨u2, M2, f2, b2, F2⟩ := R_joiningNow b1.1 b1.2.1 b1.2.2.2 i hi x2 hj (fun y => hjx y.symm) (q := 0) (by omega)
        have g1 : rkn (joi A.1 x' j) x' 1 ≤ wC A.1 2 := rkn_le (by omega)
        have g0 : rkn (joi A.1 x' j) x' 0 ≤ wC A.1 2 := rkn_le (by omega)
        rw [if_neg hjx, show F_X10_joiningNow u a (nI x') (nI j) 1 = _ from f1, wbs, show F_X10_joiningNow u1 a (nI x') (nI j) 0 = _ from f2, wbs]
        refine ⟨u2, ⟨M2, b2.1, b2.2.1, b2.2.2.2, (E'.tr F1).tr F2⟩, ?_⟩
        have hbj : bj A.1 x' (j + 1) = match bj A.1 x' j with
          | none => some (j, rkn (joi A.1 x' j) x' 1, rkn (joi A.1 x' j) x' 0)
          | some q => if rkn (joi A.1 x' j) x' 1 < q.2.1 ∨ (rkn (joi A.1 x' j) x' 1 = q.2.1 ∧ q.2.2 < rkn (joi A.1 x' j) x' 0) then some (j, rkn (joi A.1 x' j) x' 1, rkn (joi A.1 x' j) x' 0) else some q := if_neg hjx
        rw [hbj]
        cases hq : bj A.1 x' j with
        | none =>
          show (if (-1 : Int32) = -1 then _ else _) = _
          rw [if_pos rfl]
          rfl
        | some q =>
          have hqb := bj_b hq
          show (if nI q.1 = (-1 : Int32) then _ else _) = _
          rw [if_neg (oI_n1 (by omega))]
          show (if nI q.2.1 < nI (rkn (joi A.1 x' j) x' 1) then _ else _) = _
          dsimp only
          by_cases c1 : rkn (joi A.1 x' j) x' 1 < q.2.1
          · rw [if_neg (by rw [nI_ltI (by omega) (by omega)]; omega)]
            show (if nI (rkn (joi A.1 x' j) x' 1) = nI q.2.1 then _ else _) = _
            rw [if_neg (by rw [nI_eq (by omega) (by omega)]; omega), if_pos (Or.inl c1)]; rfl
          · by_cases c2 : rkn (joi A.1 x' j) x' 1 = q.2.1
            · rw [if_neg (by rw [nI_ltI (by omega) (by omega)]; omega)]
              show (if nI (rkn (joi A.1 x' j) x' 1) = nI q.2.1 then _ else _) = _
              rw [if_pos (by rw [c2])]
              show (if nI q.2.2 < nI (rkn (joi A.1 x' j) x' 0) then _ else _) = _
              by_cases c3 : q.2.2 < rkn (joi A.1 x' j) x' 0
              · rw [if_pos (nI_lt c3 (by omega)), if_pos (Or.inr ⟨c2, c3⟩)]; rfl
              · rw [if_neg (by rw [nI_ltI (by omega) (by omega)]; exact c3), if_neg (by omega)]
            · rw [if_pos (nI_lt (by omega) (by omega)), if_neg (by omega)]) (by
      intro f u ⟨M', h', k', z', E'⟩
      have n0 : iald u (a + 1) 0 = some (nI (wC A.1 0)) := (h'.raw (j := 0) (by omega)).trans (by rw [k'.2.1.c (by omega)])
      show F_X10_best_L29 _ _ _ _ _ _ _ _ _ = _
      rw [F_X10_best_L29, h'.wd, bind_some', n0, bind_some', if_pos (Int32.le_refl _)]) fu s1 (by unfold fu; omega) ⟨M, h1, k1, t1, Eo.rf⟩
    exact (congrArg (fun f => Rj s a _ f _) e9).mpr (Rj.ok1 h9 k9 z9 (E1.tr E9))
end RFZ
