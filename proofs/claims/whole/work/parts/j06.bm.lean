/-! ===== PURE 106: the reference's search: its arrays ===== -/
theorem uN_o {M : Ms} {k j v q : Nat} (hq : q ≠ k) : (uN M k j v).2.2 q = M.2.2 q := by
  show upA M.2.2 k _ q = _
  unfold upA
  rw [if_neg hq]
section BFA
variable {s t : Sto} {a : Nat} {M : Ms} {A : Ga}
theorem RB.z8 (h : RB s a M A) {j v : Nat} (hj : j < 4096) (hv : v = 0 ∨ v = 1) : ∃ t, zast s (a + 9) (nI j) (nI v) = some t ∧ RB t a (uN M 8 j v) A ∧ Eo a s t := by
  obtain ⟨t, e1, h1, E1⟩ := h.1.zast (k := 8) (j := j) (v := v) (by omega) rfl hj hv
  exact ⟨t, e1, h.mz (Mz.uA (by omega)) h1, E1⟩
theorem RB.wa (h : RB s a M A) {k j v : Nat} (hk : 9 ≤ k) (hk2 : k < 13) (hj : j < 4096) : ∃ t, iast s (a + 1 + k) (nI j) (nI v) = some t ∧ RB t a (uN M k j v) A ∧ Eo a s t := by
  have e : mkd k = 0 ∧ mlen k = 4096 := by
    rcases (show k = 9 ∨ k = 10 ∨ k = 11 ∨ k = 12 by omega) with rfl | rfl | rfl | rfl <;> exact ⟨rfl, rfl⟩
  obtain ⟨t, e1, h1, E1⟩ := h.1.iast (k := k) (j := j) (v := v) (by omega) e.1 (by rw [e.2]; exact hj)
  exact ⟨t, e1, h.mz (Mz.uA (by omega)) h1, E1⟩
theorem RB.ra (h : RB s a M A) {k j : Nat} (hk : 9 ≤ k) (hk2 : k < 13) (hj : j < 4096) : iald s (a + 1 + k) (nI j) = some (nI (M.2.2 k j)) := by
  have e : mkd k = 0 ∧ mlen k = 4096 := by
    rcases (show k = 9 ∨ k = 10 ∨ k = 11 ∨ k = 12 by omega) with rfl | rfl | rfl | rfl <;> exact ⟨rfl, rfl⟩
  exact h.1.iald (k := k) (j := j) (by omega) e.1 (by rw [e.2]; exact hj)
theorem RB.r8 (h : RB s a M A) {j : Nat} (hj : j < 4096) : zald s (a + 9) (nI j) = some (nI (M.2.2 8 j)) := h.1.zald (k := 8) (j := j) (by omega) rfl hj
theorem RB.g14 (h : RB s a M A) : gR s a 10 14 = some (a + 9) := gR_cel h.1.1 rfl
theorem RB.g15 (h : RB s a M A) : gR s a 10 15 = some (a + 1 + 9) := gR_cel h.1.1 rfl
theorem RB.g16 (h : RB s a M A) : gR s a 10 16 = some (a + 1 + 10) := gR_cel h.1.1 rfl
theorem RB.g17 (h : RB s a M A) : gR s a 10 17 = some (a + 1 + 11) := gR_cel h.1.1 rfl
theorem RB.g18 (h : RB s a M A) : gR s a 10 18 = some (a + 1 + 12) := gR_cel h.1.1 rfl
/-- the arrays hold the row of words -/
def BM (M : Ms) (U : Nat → Pq) (N : Nat) : Prop :=
  (∀ x, x < 4096 → (M.2.2 8 x = 1 ∧ ∃ j, j < N ∧ wrd (U j) = x) ∨ (M.2.2 8 x = 0 ∧ ∀ j, j < N → wrd (U j) ≠ x)) ∧
  fb_ct (fun x => decide (M.2.2 8 x = 1)) 4096 = N ∧ (∀ j, j < N → M.2.2 11 j = wrd (U j)) ∧
  ∀ j, j < N → (U j = [] → M.2.2 9 (wrd (U j)) = 4294967295) ∧ ∀ p y, U j = p ++ [y] → M.2.2 9 (wrd (U j)) = wrd p ∧ M.2.2 10 (wrd (U j)) = 10 * y.1 + y.2
theorem BM.le {U : Nat → Pq} {N : Nat} (b : BM M U N) : N ≤ 4096 := by
  have := fb_ct_le (fun x => decide (M.2.2 8 x = 1)) 4096
  have := b.2.1
  omega
theorem BM.lt {U : Nat → Pq} {N x : Nat} (b : BM M U N) (hx : x < 4096) (h0 : M.2.2 8 x = 0) : N < 4096 := by
  have h1 := b.le
  have h2 := b.2.1
  by_cases hN : N = 4096
  · rw [hN] at h2
    have := of_decide_eq_true (fb_ct_all.mp h2 x hx)
    omega
  · omega
theorem BM.add {U : Nat → Pq} {N x v c : Nat} {p : Pq} {y : Nat × Nat} (b : BM M U N) (hx : x < 4096) (h0 : M.2.2 8 x = 0) (hw : wrd (p ++ [y]) = x) (hv : v = wrd p) (hc : c = 10 * y.1 + y.2) : BM (uN (uN (uN (uN M 8 x 1) 9 x v) 10 x c) 11 N x) (up U N (p ++ [y])) (N + 1) := by
  obtain ⟨b1, b2, b3, b4⟩ := b
  have e8 : (uN (uN (uN (uN M 8 x 1) 9 x v) 10 x c) 11 N x).2.2 8 = upN (M.2.2 8) x 1 := by
    rw [uN_o (by decide), uN_o (by decide), uN_o (by decide), uN_at]
  have e9 : (uN (uN (uN (uN M 8 x 1) 9 x v) 10 x c) 11 N x).2.2 9 = upN (M.2.2 9) x v := by
    rw [uN_o (by decide), uN_o (by decide), uN_at, uN_o (by decide)]
  have e10 : (uN (uN (uN (uN M 8 x 1) 9 x v) 10 x c) 11 N x).2.2 10 = upN (M.2.2 10) x c := by
    rw [uN_o (by decide), uN_at, uN_o (by decide), uN_o (by decide)]
  have e11 : (uN (uN (uN (uN M 8 x 1) 9 x v) 10 x c) 11 N x).2.2 11 = upN (M.2.2 11) N x := by
    rw [uN_at, uN_o (by decide), uN_o (by decide), uN_o (by decide)]
  have hno : ∀ j, j < N → wrd (U j) ≠ x := by
    rcases b1 x hx with ⟨h1, _⟩ | ⟨_, h1⟩
    · omega
    · exact h1
  have eu : ∀ j, j < N → up U N (p ++ [y]) j = U j := fun j hj => up_n _ _ (by omega)
  unfold BM
  rw [e8, e9, e10, e11]
  refine ⟨fun z hz => ?_, ?_, fun j hj => ?_, fun j hj => ?_⟩
  · by_cases hzx : z = x
    · refine Or.inl ⟨by rw [hzx]; exact upN_s, N, by omega, ?_⟩
      rw [up_s, hw, hzx]
    · rw [upN_n hzx]
      rcases b1 z hz with ⟨h1, j, h2, h3⟩ | ⟨h1, h2⟩
      · exact Or.inl ⟨h1, j, by omega, by rw [eu j h2]; exact h3⟩
      · refine Or.inr ⟨h1, fun j hj => ?_⟩
        by_cases hjN : j = N
        · rw [hjN, up_s, hw]; exact fun q => hzx q.symm
        · rw [eu j (by omega)]; exact h2 j (by omega)
  · have h := fb_ct_upd (fun x => decide (M.2.2 8 x = 1)) true hx
    have e : fb_ct (fun k => if k = x then true else decide (M.2.2 8 k = 1)) 4096 = fb_ct (fun z => decide (upN (M.2.2 8) x 1 z = 1)) 4096 := fb_ct_cong (fun k _ => by
      unfold upN
      by_cases hk : k = x
      · rw [if_pos hk, if_pos hk]; rfl
      · rw [if_neg hk, if_neg hk])
    rw [← e]
    rw [b2] at h
    have hd : decide (M.2.2 8 x = 1) = false := decide_eq_false (by omega)
    rw [hd, if_neg (by decide), if_pos rfl] at h
    omega
  · by_cases hjN : j = N
    · rw [hjN, up_s, upN_s, hw]
    · rw [upN_n hjN, eu j (by omega)]; exact b3 j (by omega)
  · by_cases hjN : j = N
    · rw [hjN, up_s, hw]
      refine ⟨fun h1 => absurd h1 (by simp), fun p' y' h1 => ?_⟩
      obtain ⟨g1, g2⟩ := List.append_inj' h1 rfl
      have g3 : y = y' := by simpa using g2
      rw [← g1, ← g3, upN_s, upN_s]
      exact ⟨hv, hc⟩
    · rw [eu j (by omega), upN_n (hno j (by omega)), upN_n (hno j (by omega))]
      exact b4 j (by omega)
/-- one step of the search over the couples -/
def SW (A : Ga) (a : Nat) (s : Sto) (W : Nat → Nat) (v h : Nat) (m : Nat) (q : Nat × Sto) : Prop := ∃ M U, RB q.2 a M A ∧ Eo a s q.2 ∧ M.2.2 0 = W ∧ BQ A.1 (wC A.1 0) (alkR W (wC A.1 0)) U q.1 h m ∧ BM M U q.1 ∧ h < q.1 ∧ wrd (U h) = v
theorem R_couples (i : Iv A.1) (hn : wC A.1 0 ≤ 4) {W : Nat → Nat} {v h N : Nat} (hv : v < 4096) (hI : SW A a s W v h 0 (N, t)) (k : Int32 → Sto → Option (Int32 × Sto)) : ∃ N' t', SW A a s W v h (5 * wC A.1 0) (N', t') ∧ F_X10_search_L72 a (nI v) fu (nI N) (nI 0) t k = k (nI N') t' := by
  have hn2 := i.n2
  obtain ⟨⟨N', t'⟩, h1, h2⟩ := lpS (fun f m (q : Nat × Sto) => F_X10_search_L72 a (nI v) f (nI q.1) (nI m) q.2 k) (fun q => k (nI q.1) q.2) (SW A a s W v h) (5 * wC A.1 0) (by
    intro m f ⟨N, u⟩ hm ⟨M, U, b, E, hW, bq, bm, hh, hwv⟩
    dsimp only at b E bq bm hh
    have ho : m % 5 < 5 := Nat.mod_lt _ (by omega)
    have hf : m / 5 < wC A.1 0 := by omega
    have hN := bm.le
    have pre : F_X10_search_L72 a (nI v) (f + 1) (nI N) (nI m) u k = if two A.1 (nI (m / 5)) (nI (m % 5)) = true then (if wcut A.1 (m / 5) (m % 5) = true then F_X10_search_L72 a (nI v) f (nI N) (nI (m + 1)) u k else (F_X10_maskIn (nI v) (nI (m / 5))).bind fun x17 =>
          (F_X10_maskIn (nI v) (nI (m % 5))).bind fun x18 =>
          (F_X10_withMask (nI v) (nI (m % 5)) (x17 ||| x18)).bind fun x19 =>
          (gR u a 10 14).bind fun p20 =>
          (zald u p20 x19).bind fun x21 =>
          if x21 = 0 then (
            (gR u a 10 14).bind fun p22 =>
            (zast u p22 x19 (1 : Int32)).bind fun s23 =>
            (gR s23 a 10 15).bind fun p24 =>
            (iast s23 p24 x19 (nI v)).bind fun s25 =>
            (gR s25 a 10 16).bind fun p26 =>
            (iast s25 p26 x19 (nI (10 * (m / 5) + m % 5))).bind fun s27 =>
            (gR s27 a 10 17).bind fun p28 =>
            (iast s27 p28 (nI N) x19).bind fun s29 =>
            F_X10_search_L72 a (nI v) f (nI (N + 1)) (nI (m + 1)) s29 k
          ) else F_X10_search_L72 a (nI v) f (nI N) (nI (m + 1)) u k) else F_X10_search_L72 a (nI v) f (nI N) (nI (m + 1)) u k := by
      rw [F_X10_search_L72, b.1.wd, bind_some', b.n0, bind_some', l_5, pk_mul, if_neg (by rw [nI_leI (by omega) (by omega)]; omega), pk_rem (by omega) (by omega) (by omega), pk_div (by omega) (by omega) (by omega), R_areTwoM b.1 b.2.1 i, bind_some', ifb0, R_isCut b.rt b.rw (by omega) ho, bind_some', ifb0, l_10, pk_mul, nI_add, nI_add1, nI_add1]
    have htwo : two A.1 (nI (m / 5)) (nI (m % 5)) = (decide (m % 5 < wC A.1 0) && !decide (m / 5 = m % 5)) := by
      unfold two
      rw [inR_nI (by omega) (by omega), inR_nI (by omega) (by omega), decide_eq_true hf, Bool.true_and]
      congr 2
      exact decide_eq_decide.mpr (nI_eq (by omega) (by omega))
    have skip : (¬ okY A.1 (wC A.1 0) (m / 5, m % 5)) → SW A a s W v h (m + 1) (N, u) := by
      intro hno
      refine ⟨M, U, b, E, hW, bq.skip hh (fun y hy hym => ?_), bm, hh, hwv⟩
      exfalso
      apply hno
      have y1 := hy.1
      have y2 := hy.2.1
      have e1 : m / 5 = y.1 := by omega
      have e2 : m % 5 = y.2 := by omega
      rw [e1, e2]
      exact hy
    show ∃ s', SW A a s W v h (m + 1) s' ∧ F_X10_search_L72 a (nI v) (f + 1) (nI N) (nI m) u k = F_X10_search_L72 a (nI v) f (nI s'.1) (nI (m + 1)) s'.2 k
    rw [pre, htwo]
    by_cases hok : okY A.1 (wC A.1 0) (m / 5, m % 5)
    · obtain ⟨y1, y2, y3⟩ := id hok
      dsimp only at y1 y2 y3
      unfold lgc at y3
      rw [Bool.and_eq_true] at y3
      have hc : wcut A.1 (m / 5) (m % 5) = false := by simpa using y3.2
      have hk1 := mk_f v (s := m / 5) (by omega)
      have hk2 := mk_f v (s := m % 5) (by omega)
      have hx : wm v (m % 5) (mk v (m / 5) ||| mk v (m % 5)) = wrd (U h ++ [(m / 5, m % 5)]) := by
        rw [wrd_sn, hwv]; rfl
      have hxl : wm v (m % 5) (mk v (m / 5) ||| mk v (m % 5)) < 4096 := wm_lt hv (by omega) (or_lt (k := 4) hk1.1 hk2.1)
      rw [decide_eq_true y2, y3.1, Bool.true_and, if_pos rfl, hc, if_neg (by decide), R_maskIn hv (by omega), bind_some', R_maskIn hv (by omega), bind_some', nI_or, R_withMask (by omega) (or_lt (k := 4) hk1.1 hk2.1), bind_some', b.g14, bind_some', b.r8 hxl, bind_some']
      rcases bm.1 _ hxl with ⟨z1, j, z2, z3⟩ | ⟨z1, z2⟩
      · rw [z1, if_neg (by decide)]
        exact ⟨(N, u), ⟨M, U, b, E, hW, bq.seen hn hh hok (by show 5 * (m / 5) + m % 5 = m; omega) z2 (z3.trans hx), bm, hh, hwv⟩, rfl⟩
      · have hNl := bm.lt hxl z1
        rw [z1, if_pos (show nI 0 = (0 : Int32) from rfl), bind_some']
        obtain ⟨u1, e1, r1, E1⟩ := b.z8 (v := 1) hxl (Or.inr rfl)
        obtain ⟨u2, e2, r2, E2⟩ := r1.wa (k := 9) (v := v) (by omega) (by omega) hxl
        obtain ⟨u3, e3, r3, E3⟩ := r2.wa (k := 10) (v := 10 * (m / 5) + m % 5) (by omega) (by omega) hxl
        obtain ⟨u4, e4, r4, E4⟩ := r3.wa (k := 11) (v := wm v (m % 5) (mk v (m / 5) ||| mk v (m % 5))) (by omega) (by omega) hNl
        rw [l_1, e1, bind_some', r1.g15, bind_some', e2, bind_some', r2.g16, bind_some', e3, bind_some', r3.g17, bind_some', e4, bind_some']
        refine ⟨(N + 1, u4), ⟨_, _, r4, E.tr (E1.tr (E2.tr (E3.tr E4))), ?_, bq.add hn hh hok (by show 5 * (m / 5) + m % 5 = m; omega) (fun j hj => by rw [← hx]; exact z2 j hj), bm.add hxl z1 hx.symm hwv.symm rfl, by show h < N + 1; omega, ?_⟩, rfl⟩
        · rw [uN_o (by decide), uN_o (by decide), uN_o (by decide), uN_o (by decide)]; exact hW
        · rw [up_n _ _ (by omega)]; exact hwv
    · have hs := skip hok
      refine ⟨(N, u), hs, ?_⟩
      by_cases c1 : (decide (m % 5 < wC A.1 0) && !decide (m / 5 = m % 5)) = true
      · rw [if_pos c1]
        have hc : wcut A.1 (m / 5) (m % 5) = true := by
          cases hc : wcut A.1 (m / 5) (m % 5) with
          | true => rfl
          | false =>
            exfalso
            apply hok
            rw [Bool.and_eq_true] at c1
            refine ⟨hf, of_decide_eq_true c1.1, ?_⟩
            unfold lgc
            dsimp only
            rw [c1.2, hc]
            rfl
        rw [if_pos hc]
      · rw [if_neg c1]) (by
    intro f ⟨N, u⟩ ⟨M, U, b, E, hW, bq, bm, hh, hwv⟩
    show F_X10_search_L72 a (nI v) (f + 1) (nI N) (nI (5 * wC A.1 0)) u k = k (nI N) u
    dsimp only at b
    rw [F_X10_search_L72, b.1.wd, bind_some', b.n0, bind_some', l_5, pk_mul, if_pos (Int32.le_refl _)]) fu (N, t) (by unfold fu; omega) hI
  exact ⟨N', t', h1, h2⟩
end BFA
