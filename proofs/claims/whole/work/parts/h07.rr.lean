/-! ===== PURE 77: the reference's publics: more readers ===== -/
section RFR
variable {s s1 t σ : Sto} {a c : Nat} {M : Ms} {A : Ga} {w : Wd} {W W' : Nat → Nat}
theorem RB.n2 (h : RB s a M A) : iald s (a + 1) 2 = some (nI (wC A.1 2)) := (h.1.raw (j := 2) (by omega)).trans (by rw [h.rw.c (by omega)])
theorem RB.n0 (h : RB s a M A) : iald s (a + 1) 0 = some (nI (wC A.1 0)) := (h.1.raw (j := 0) (by omega)).trans (by rw [h.rw.c (by omega)])
theorem Iv.vw {w : Wd} (i : Iv w) : ∀ x, x < 5 → ∀ e, sVw (wL w x) e = true → e < wC w 2 := fun x hx => (i.L hx).2.2.1
theorem view_cut {w : Wd} (i : Iv w) {x : Nat} (hx : x < 5) (k : Int32) : kthI (sVw (wL w x)) (wC w 2) k = kthI (sVw (wL w x)) 120 k := kthI_cut (fun _ _ => rfl) (fun e h1 h2 => by
  cases h : sVw (wL w x) e with
  | false => rfl
  | true => have := i.vw x hx e h; omega) i.c
theorem R_view (h : RJ s a c A) (i : Iv A.1) (x k q : Int32) : Rj s a (cd3 eIO eNS eIA) (F_X10_view s a x k q) (aVie A x k q) := by
  obtain ⟨s1, s2, M, e1, e2, b, E, o⟩ := h.go2
  have hn := i.n5
  have hc2 := i.c
  unfold F_X10_view aVie
  rw [chk_eq o, e1, bind_some', e2, bind_some', R_isSiteM b.1 b.2.1 i, bind_some', ifb0]
  cases hx : inR x (wC A.1 0) with
  | false => exact Rj.fl b.1 b.2.1 E cd3_1
  | true =>
    obtain ⟨x1, x2⟩ := inR_tN (by omega) hx
    generalize tN x = x' at x1 x2
    subst x1
    have hx5 : x' < 5 := by omega
    have key : ∀ J : Int32 → Option (Int32 × Sto), (if 0 ≤ k then (F_X10_stateOf (nI x')).bind fun x14 => (F_X10_kthOf s2 a (x14 + 29) k).bind fun x15 => J x15 else J (-1)) = J (oI (kthI (sVw (wL A.1 x')) 120 k)) := by
      intro J
      by_cases hk : 0 ≤ k
      · rw [if_pos hk, R_stateOf, bind_some', show (29 : Int32) = nI 29 from rfl, nI_add, R_kthOf b.rt b.rw i.j (p := sVw (wL A.1 x')) (fun e he => b.rw.vw hx5 he) (by omega), bind_some', view_cut i hx5]
      · rw [if_neg hk]
        unfold kthI
        rw [if_pos (Int32.not_le.mp hk)]
        rfl
    rw [if_pos rfl, if_pos rfl, jn_eq, key]
    cases hk : kthI (sVw (wL A.1 x')) 120 k with
    | none =>
      rw [show oI none = -1 from rfl, if_pos rfl]
      exact Rj.fl b.1 b.2.1 E (cd3_2 n_NS_IO)
    | some e =>
      obtain ⟨e1', e2'⟩ := kthI_lt hk
      have he : e < wC A.1 2 := i.vw x' hx5 e e2'
      rw [show oI (some e) = nI e from rfl, if_neg (oI_n1 (by omega)), isIn_1, bind_some', ifb0]
      dsimp only
      cases hq : inR q 2 with
      | false => exact Rj.fl b.1 b.2.1 E (cd3_3 n_IA_IO n_IA_NS)
      | true =>
        obtain ⟨q1, q2⟩ := inR_tN (by omega) hq
        generalize tN q = q' at q1 q2
        subst q1
        rw [if_pos rfl, if_pos rfl]
        rcases (show q' = 0 ∨ q' = 1 by omega) with rfl | rfl
        · rw [if_pos nI_0]; exact Rj.ok b E
        · rw [if_neg z_1, if_neg (show ¬ 1 = 0 by decide), b.1.wd, bind_some', R_eventOf, bind_some', show (4 : Int32) = nI 4 from rfl, nI_add, b.1.raw (by omega), bind_some', show M.2.2 0 (3953 + 10 * e + 4) = _ from (b.rw.e he).2.2.2.2.1]
          exact Rj.ok b E
theorem R_log (h : RJ s a c A) (i : Iv A.1) (x k : Int32) : Rj s a (cd2 eIO eNS) (F_X10_log s a x k) (aLog A x k) := by
  obtain ⟨s1, M, e1, h1, k1, t1, E1, o⟩ := h.go1
  have hn := i.n5
  unfold F_X10_log aLog
  rw [chk_eq o, e1, bind_some', R_isSiteM h1 k1 i, bind_some', ifb0]
  cases hx : inR x (wC A.1 0) with
  | false => exact Rj.fl h1 k1 E1 cd2_1
  | true =>
    obtain ⟨x1, x2⟩ := inR_tN (by omega) hx
    generalize tN x = x' at x1 x2
    subst x1
    have hx5 : x' < 5 := by omega
    have hlg := (i.j.L hx5).lg
    rw [if_pos rfl, if_pos rfl, h1.wd, bind_some', R_stateOf, bind_some', show (33 : Int32) = nI 33 from rfl, nI_add, h1.raw (by omega), bind_some', k1.2.1.ln hx5, show (1 : Int32) = nI 1 from rfl, isIn_inR k (by omega), bind_some', ifb0]
    cases hk : inR k (sLg (wL A.1 x')).length with
    | false => exact Rj.fl h1 k1 E1 (cd2_2 n_NS_IO)
    | true =>
      obtain ⟨k1', k2⟩ := inR_tN (by omega) hk
      generalize tN k = k' at k1' k2
      subst k1'
      rw [if_pos rfl, if_pos rfl, bind_some', bind_some', show (34 : Int32) = nI 34 from rfl, nI_add, nI_add, h1.raw (by omega), bind_some', k1.2.1.lg hx5 k2, List.getD_eq_getElem?_getD, List.getElem?_eq_getElem k2]
      exact Rj.ok1 h1 k1 t1 E1
theorem R_table (h : RJ s a c A) (i : Iv A.1) (x y z : Int32) : Rj s a (cd1 eIO) (F_X10_table s a x y z) (aTab A x y z) := by
  obtain ⟨s1, M, e1, h1, k1, t1, E1, o⟩ := h.go1
  have hn := i.n5
  unfold F_X10_table aTab
  rw [chk_eq o, e1, bind_some', R_isSiteM h1 k1 i, bind_some', ifb0, R_isSiteM h1 k1 i, bind_some', ifb0, R_isSiteM h1 k1 i, bind_some', ifb0]
  cases hx : inR x (wC A.1 0) with
  | false => exact Rj.fl h1 k1 E1 cd1_1
  | true =>
    obtain ⟨x1, x2⟩ := inR_tN (by omega) hx
    generalize tN x = x' at x1 x2
    subst x1
    rw [if_pos rfl, if_pos rfl]
    cases hy : inR y (wC A.1 0) with
    | false => exact Rj.fl h1 k1 E1 cd1_1
    | true =>
      obtain ⟨y1, y2⟩ := inR_tN (by omega) hy
      generalize tN y = y' at y1 y2
      subst y1
      rw [if_pos rfl, if_pos rfl]
      cases hz : inR z (wC A.1 0) with
      | false => exact Rj.fl h1 k1 E1 cd1_1
      | true =>
        obtain ⟨z1, z2⟩ := inR_tN (by omega) hz
        generalize tN z = z' at z1 z2
        subst z1
        rw [if_pos rfl, if_pos rfl, h1.wd, bind_some', R_cellOf, bind_some', h1.raw (by omega), bind_some', show 9 + 789 * x' + 5 * y' + z' = 9 + 789 * x' + (5 * y' + z') by omega, k1.2.1.tb (by omega) (by omega)]
        exact Rj.ok1 h1 k1 t1 E1
theorem ifbl2 {α : Type} (b : Bool) (x y : α) : (if nI (b2 b) = 0 ∨ nI (b2 b) = 1 then x else y) = x := ifbl b x y
theorem R_knows (h : RJ s a c A) (i : Iv A.1) (x y z : Int32) : Rj s a (cd1 eIO) (F_X10_knows s a x y z) (aKnw A x y z) := by
  obtain ⟨s1, s2, M, e1, e2, b, E, o⟩ := h.go2
  have hn := i.n5
  have hc2 := i.c
  unfold F_X10_knows aKnw
  rw [chk_eq o, e1, bind_some', e2, bind_some', R_isSiteM b.1 b.2.1 i, bind_some', ifb0, R_isSiteM b.1 b.2.1 i, bind_some', ifb0, R_isEventM b.1 b.2.1 i, bind_some', ifb0]
  cases hx : inR x (wC A.1 0) with
  | false => exact Rj.fl2 b.1 b.2.1 E cd1_1
  | true =>
    obtain ⟨x1, x2⟩ := inR_tN (by omega) hx
    generalize tN x = x' at x1 x2
    subst x1
    rw [if_pos rfl, if_pos rfl]
    cases hy : inR y (wC A.1 0) with
    | false => exact Rj.fl2 b.1 b.2.1 E cd1_1
    | true =>
      obtain ⟨y1, y2⟩ := inR_tN (by omega) hy
      generalize tN y = y' at y1 y2
      subst y1
      rw [if_pos rfl, if_pos rfl]
      cases hz : inR z (wC A.1 2) with
      | false => exact Rj.fl2 b.1 b.2.1 E cd1_1
      | true =>
        obtain ⟨z1, z2⟩ := inR_tN (by omega) hz
        generalize tN z = z' at z1 z2
        subst z1
        rw [if_pos rfl, if_pos rfl, R_isKnown b.rt b.rw i.j (by omega) (by omega) z2, bind_some', ifbl]
        exact Rj.ok b E
theorem R_has (h : RJ s a c A) (i : Iv A.1) (x z : Int32) : Rj s a (cd1 eIO) (F_X10_has s a x z) (aHas A x z) := by
  obtain ⟨s1, s2, M, e1, e2, b, E, o⟩ := h.go2
  have hn := i.n5
  have hc2 := i.c
  unfold F_X10_has aHas
  rw [chk_eq o, e1, bind_some', e2, bind_some', R_isSiteM b.1 b.2.1 i, bind_some', ifb0, R_isEventM b.1 b.2.1 i, bind_some', ifb0]
  cases hx : inR x (wC A.1 0) with
  | false => exact Rj.fl2 b.1 b.2.1 E cd1_1
  | true =>
    obtain ⟨x1, x2⟩ := inR_tN (by omega) hx
    generalize tN x = x' at x1 x2
    subst x1
    rw [if_pos rfl, if_pos rfl]
    cases hz : inR z (wC A.1 2) with
    | false => exact Rj.fl2 b.1 b.2.1 E cd1_1
    | true =>
      obtain ⟨z1, z2⟩ := inR_tN (by omega) hz
      generalize tN z = z' at z1 z2
      subst z1
      rw [if_pos rfl, if_pos rfl, show F_X10_doesHave s2 a (nI x') (nI z') 1 = _ from R_doesHave1 b.rt b.rw (by omega) (by omega), bind_some', ifbl]
      exact Rj.ok b E
theorem R_ahead (h : RJ s a c A) (i : Iv A.1) (x z : Int32) : Rj s a (cd1 eIO) (F_X10_ahead s a x z) (aAhd A x z) := by
  obtain ⟨s1, s2, M, e1, e2, b, E, o⟩ := h.go2
  have hc2 := i.c
  unfold F_X10_ahead aAhd
  rw [chk_eq o, e1, bind_some', e2, bind_some', R_isEventM b.1 b.2.1 i, bind_some', ifb0, R_isEventM b.1 b.2.1 i, bind_some', ifb0]
  cases hx : inR x (wC A.1 2) with
  | false => exact Rj.fl2 b.1 b.2.1 E cd1_1
  | true =>
    obtain ⟨x1, x2⟩ := inR_tN (by omega) hx
    generalize tN x = x' at x1 x2
    subst x1
    rw [if_pos rfl, if_pos rfl]
    cases hz : inR z (wC A.1 2) with
    | false => exact Rj.fl2 b.1 b.2.1 E cd1_1
    | true =>
      obtain ⟨z1, z2⟩ := inR_tN (by omega) hz
      generalize tN z = z' at z1 z2
      subst z1
      rw [if_pos rfl, if_pos rfl, R_isAhead b.rt b.rw i.j (by omega) z2, bind_some', ifbl]
      exact Rj.ok b E
theorem R_came (h : RJ s a c A) (i : Iv A.1) (x z q : Int32) : Rj s a (cd2 eIO eIA) (F_X10_came s a x z q) (aCam A x z q) := by
  obtain ⟨s1, s2, M, e1, e2, b, E, o⟩ := h.go2
  have hn := i.n5
  have hc2 := i.c
  unfold F_X10_came aCam
  rw [chk_eq o, e1, bind_some', e2, bind_some', R_isSiteM b.1 b.2.1 i, bind_some', ifb0, R_isEventM b.1 b.2.1 i, bind_some', ifb0, isIn_1, bind_some', ifb0]
  cases hx : inR x (wC A.1 0) with
  | false => exact Rj.fl b.1 b.2.1 E cd2_1
  | true =>
    obtain ⟨x1, x2⟩ := inR_tN (by omega) hx
    generalize tN x = x' at x1 x2
    subst x1
    have hx5 : x' < 5 := by omega
    rw [if_pos rfl, if_pos rfl]
    cases hz : inR z (wC A.1 2) with
    | false => exact Rj.fl b.1 b.2.1 E cd2_1
    | true =>
      obtain ⟨z1, z2⟩ := inR_tN (by omega) hz
      generalize tN z = z' at z1 z2
      subst z1
      rw [if_pos rfl, if_pos rfl]
      cases hq : inR q 2 with
      | false => exact Rj.fl b.1 b.2.1 E (cd2_2 n_IA_IO)
      | true =>
        obtain ⟨q1, q2⟩ := inR_tN (by omega) hq
        generalize tN q = q' at q1 q2
        subst q1
        have hW := (b.rw.L hx5).2.2.2.2.2 z' (by omega)
        rw [if_pos rfl, if_pos rfl, show F_X10_doesHave s2 a (nI x') (nI z') 0 = _ from R_doesHave0 b.rt b.rw hx5 (by omega), bind_some', ifb0, b.1.wd, bind_some', R_stateOf, bind_some', jn_eq]
        dsimp only
        rw [show (154 : Int32) = nI 154 from rfl, nI_add, nI_add, b.1.raw (by omega), bind_some', hW.1, show (274 : Int32) = nI 274 from rfl, nI_add, nI_add, b.1.raw (by omega), bind_some', hW.2]
        cases sHs (wL A.1 x') z' with
        | false => exact Rj.ok b E
        | true =>
          rw [show (!true) = false from rfl, if_neg z_f, if_pos rfl]
          rcases (show q' = 0 ∨ q' = 1 by omega) with rfl | rfl
          · rw [if_pos nI_0]; exact Rj.ok b E
          · rw [if_neg z_1]; exact Rj.ok b E
theorem fb_sub {f g : Nat → Bool} (n : Nat) : fb_ct f n = fb_ct (fun e => f e && g e) n + fb_ct (fun e => f e && !g e) n := by
  induction n with
  | zero => rfl
  | succ n ih =>
    rw [fb_ct_succ, fb_ct_succ, fb_ct_succ, ih]
    cases f n <;> cases g n <;> simp <;> omega
theorem fb_ext {f : Nat → Bool} {n m : Nat} (hnm : n ≤ m) (h : ∀ e, n ≤ e → e < m → f e = false) : fb_ct f m = fb_ct f n := by
  have h1 := fb_ct_split f n (m - n)
  rw [show n + (m - n) = m by omega] at h1
  rw [h1, fb_ct_zero.mpr (fun k hk => h (n + k) (by omega) (by omega)), Nat.add_zero]
theorem R_unlike (h : RJ s a c A) (i : Iv A.1) (x y : Int32) : Rj s a (cd1 eIO) (F_X10_unlike s a x y) (aUnl A x y) := by
  obtain ⟨s1, s2, M, e1, e2, b, E, o⟩ := h.go2
  have hn := i.n5
  have hc2 := i.c
  unfold F_X10_unlike aUnl
  rw [chk_eq o, e1, bind_some', e2, bind_some', R_areTwoM b.1 b.2.1 i, bind_some', ifb0]
  cases hx : two A.1 x y with
  | false => exact Rj.fl b.1 b.2.1 E cd1_1
  | true =>
    obtain ⟨⟨x1, x2⟩, ⟨y1, y2⟩, hne⟩ := two_tN hn hx
    generalize tN x = x' at x1 x2 hne
    generalize tN y = y' at y1 y2 hne
    subst x1
    subst y1
    have hx5 : x' < 5 := by omega
    have hy5 : y' < 5 := by omega
    have hL : F_X10_unlike_L30 s2 a (nI x') (nI y') fu 0 0 (fun x8 => some (x8, s2)) = some (nI (fb_ct (fun e => sVw (wL A.1 x') e && !sVw (wL A.1 y') e) (wC A.1 2)), s2) := by
      refine lup (fun f j => F_X10_unlike_L30 s2 a (nI x') (nI y') f (nI (fb_ct (fun e => sVw (wL A.1 x') e && !sVw (wL A.1 y') e) j)) (nI j) (fun x8 => some (x8, s2))) (wC A.1 2) _ ?_ ?_ fu (by unfold fu; omega)
      · intro j f hj
        rw [F_X10_unlike_L30, b.1.wd, bind_some', b.n2, bind_some', if_neg (by rw [nI_leI (by omega) (by omega)]; omega), R_isOnly b.rt b.rw hx5 hy5 (by omega), bind_some', R_flag, bind_some', nI_add, nI_add1, fb_ct_succ]
        cases (sVw (wL A.1 x') j && !sVw (wL A.1 y') j) <;> rfl
      · intro f
        rw [F_X10_unlike_L30, b.1.wd, bind_some', b.n2, bind_some', if_pos (Int32.le_refl _)]
    have hv : fb_ct (sVw (wL A.1 x')) 128 = fb_ct (fun e => sVw (wL A.1 x') e && sVw (wL A.1 y') e) 128 + fb_ct (fun e => sVw (wL A.1 x') e && !sVw (wL A.1 y') e) (wC A.1 2) := by
      rw [fb_sub (g := sVw (wL A.1 y')) 128]
      congr 1
      refine fb_ext (by omega) (fun e h1 h2 => ?_)
      cases hh : sVw (wL A.1 x') e with
      | false => rfl
      | true => have := i.vw x' hx5 e hh; omega
    rw [if_pos rfl, if_pos rfl, hL, hv, pk_sub (by omega), Nat.add_sub_cancel_left]
    exact Rj.ok b E
theorem R_between (h : RJ s a c A) (i : Iv A.1) (x y : Int32) : Rj s a (cd1 eIO) (F_X10_between s a x y) (aBet A x y) := by
  obtain ⟨s1, s2, M, e1, e2, b, E, o⟩ := h.go2
  have hc2 := i.c
  unfold F_X10_between aBet
  rw [chk_eq o, e1, bind_some', e2, bind_some', R_isEventM b.1 b.2.1 i, bind_some', ifb0, R_isEventM b.1 b.2.1 i, bind_some', ifb0]
  cases hx : inR x (wC A.1 2) with
  | false => exact Rj.fl b.1 b.2.1 E cd1_1
  | true =>
    obtain ⟨x1, x2⟩ := inR_tN (by omega) hx
    generalize tN x = x' at x1 x2
    subst x1
    rw [if_pos rfl, if_pos rfl]
    cases hz : inR y (wC A.1 2) with
    | false => exact Rj.fl b.1 b.2.1 E cd1_1
    | true =>
      obtain ⟨z1, z2⟩ := inR_tN (by omega) hz
      generalize tN y = y' at z1 z2
      subst z1
      have hL : F_X10_between_L37 s2 a (nI x') (nI y') fu 0 0 (fun x8 => some (x8, s2)) = some (nI (fb_ct (fun e => eA (wE A.1) e x' && eA (wE A.1) y' e) (wC A.1 2)), s2) := by
        refine lup (fun f j => F_X10_between_L37 s2 a (nI x') (nI y') f (nI (fb_ct (fun e => eA (wE A.1) e x' && eA (wE A.1) y' e) j)) (nI j) (fun x8 => some (x8, s2))) (wC A.1 2) _ ?_ ?_ fu (by unfold fu; omega)
        · intro j f hj
          rw [F_X10_between_L37, b.1.wd, bind_some', b.n2, bind_some', if_neg (by rw [nI_leI (by omega) (by omega)]; omega), R_isAhead b.rt b.rw i.j (by omega) hj, bind_some', jn_eq, ifb0, R_isAhead b.rt b.rw i.j (by omega) z2, bind_some', ifb0, nI_add1, fb_ct_succ]
          cases eA (wE A.1) j x' with
          | false => exact jfl0 _ (fun y => F_X10_between_L37 s2 a (nI x') (nI y') f y (nI (j + 1)) (fun x8 => some (x8, s2)))
          | true =>
            cases eA (wE A.1) y' j with
            | false => exact jfl0 _ (fun y => F_X10_between_L37 s2 a (nI x') (nI y') f y (nI (j + 1)) (fun x8 => some (x8, s2)))
            | true => exact jfl1 _ (fun y => F_X10_between_L37 s2 a (nI x') (nI y') f y (nI (j + 1)) (fun x8 => some (x8, s2)))
        · intro f
          rw [F_X10_between_L37, b.1.wd, bind_some', b.n2, bind_some', if_pos (Int32.le_refl _)]
      rw [if_pos rfl, if_pos rfl, hL]
      exact Rj.ok b E
theorem isIn_n (x : Int32) {n : Nat} (hn : n < 2 ^ 29) : F_X10_isIn x.toInt64 (0 : Int64) (nI n).toInt64 = some (nI (b2 (inR x (n + 1)))) := by
  have h := isIn_inR x (n := n + 1) (by omega)
  rw [pk_sub (by omega), Nat.add_sub_cancel] at h
  exact h
theorem R_sure (h : RJ s a c A) (i : Iv A.1) (x k : Int32) : Rj s a (cd2 eIO eIA) (F_X10_sure s a x k) (aSur A x k) := by
  obtain ⟨s1, s2, M, e1, e2, b, E, o⟩ := h.go2
  have hn := i.n5
  have hc2 := i.c
  unfold F_X10_sure aSur
  rw [chk_eq o, e1, bind_some', e2, bind_some', R_isSiteM b.1 b.2.1 i, bind_some', ifb0]
  cases hx : inR x (wC A.1 0) with
  | false => exact Rj.fl b.1 b.2.1 E cd2_1
  | true =>
    obtain ⟨x1, x2⟩ := inR_tN (by omega) hx
    generalize tN x = x' at x1 x2
    subst x1
    have hx5 : x' < 5 := by omega
    rw [if_pos rfl, if_pos rfl, b.1.wd, bind_some', b.n0, bind_some', isIn_n k (by omega), bind_some', ifb0]
    cases hk : inR k (wC A.1 0 + 1) with
    | false => exact Rj.fl b.1 b.2.1 E (cd2_2 n_IA_IO)
    | true =>
      obtain ⟨k1, k2⟩ := inR_tN (by omega) hk
      generalize tN k = k' at k1 k2
      subst k1
      have hL : F_X10_sure_L51 s2 a (nI x') (nI k') fu 0 0 (fun x8 => some (x8, s2)) = some (nI (fb_ct (fun e => sHs (wL A.1 x') e && !decide (fb_ct (fun o => knw (wE A.1) (wL A.1 x') o e) (wC A.1 0) < k')) (wC A.1 2)), s2) := by
        refine lup (fun f j => F_X10_sure_L51 s2 a (nI x') (nI k') f (nI (fb_ct (fun e => sHs (wL A.1 x') e && !decide (fb_ct (fun o => knw (wE A.1) (wL A.1 x') o e) (wC A.1 0) < k')) j)) (nI j) (fun x8 => some (x8, s2))) (wC A.1 2) _ ?_ ?_ fu (by unfold fu; omega)
        · intro j f hj
          have hct := fb_ct_le (fun o => knw (wE A.1) (wL A.1 x') o j) (wC A.1 0)
          rw [F_X10_sure_L51, b.1.wd, bind_some', b.n2, bind_some', if_neg (by rw [nI_leI (by omega) (by omega)]; omega), show F_X10_doesHave s2 a (nI x') (nI j) 1 = _ from R_doesHave1 b.rt b.rw hx5 (by omega), bind_some', jn_eq, ifb0, R_knownTo b.rt b.rw i.j b.b hx5 hj, bind_some', nI_add1, fb_ct_succ]
          cases sHs (wL A.1 x') j with
          | false => exact jfl0 _ (fun y => F_X10_sure_L51 s2 a (nI x') (nI k') f y (nI (j + 1)) (fun x8 => some (x8, s2)))
          | true =>
            rw [if_pos rfl]
            by_cases hlt : fb_ct (fun o => knw (wE A.1) (wL A.1 x') o j) (wC A.1 0) < k'
            · rw [if_pos (by rw [nI_ltI (by omega) (by omega)]; exact hlt), decide_eq_true hlt]
              exact jfl0 _ (fun y => F_X10_sure_L51 s2 a (nI x') (nI k') f y (nI (j + 1)) (fun x8 => some (x8, s2)))
            · rw [if_neg (by rw [nI_ltI (by omega) (by omega)]; exact hlt), decide_eq_false hlt]
              exact jfl1 _ (fun y => F_X10_sure_L51 s2 a (nI x') (nI k') f y (nI (j + 1)) (fun x8 => some (x8, s2)))
        · intro f
          rw [F_X10_sure_L51, b.1.wd, bind_some', b.n2, bind_some', if_pos (Int32.le_refl _)]
      rw [if_pos rfl, if_pos rfl, hL]
      exact Rj.ok b E
end RFR
