/-! ===== PURE 78: the reference's publics: trace, named, front, only, slowest ===== -/
section RFS
variable {s s1 t σ : Sto} {a c : Nat} {M : Ms} {A : Ga} {w : Wd} {W W' : Nat → Nat}
theorem R_trace (h : RJ s a c A) (hl : A.2.2.1.length < 2 ^ 31 - 1) (x q : Int32) : Rj s a (cd2 eNS eIA) (F_X10_trace s a x q) (aTra A x q) := by
  obtain ⟨s1, M, e1, h1, k1, t1, E1, o⟩ := h.go1
  obtain ⟨n1, n2⟩ := k1.2.2.2.1
  have g5 : gI s1 a 10 5 = some (nI A.2.2.1.length) := by
    have : gI s1 a 10 5 = some (nI (M.1 5)) := gI_cel h1.1 rfl
    rw [this, n1]
  have g4 : gR s1 a 10 4 = some (a + 1 + 2) := gR_cel h1.1 rfl
  have hlt : ∀ (B C : Option (Int32 × Sto)), (if inR x 32 = true then (if x < nI A.2.2.1.length then B else C) else C) = if inR x (min 32 A.2.2.1.length) = true then B else C := by
    intro B C
    cases hx : inR x 32 with
    | false =>
      have : inR x (min 32 A.2.2.1.length) = false := by
        cases hm : inR x (min 32 A.2.2.1.length) with
        | false => rfl
        | true =>
          obtain ⟨x1, x2⟩ := inR_tN (by omega) hm
          have : inR x 32 = true := by
            rw [x1, inR_nI (by omega) (by omega)]
            exact decide_eq_true (by omega)
          rw [hx] at this
          cases this
      rw [this]
      rfl
    | true =>
      obtain ⟨x1, x2⟩ := inR_tN (by omega) hx
      rw [if_pos rfl]
      generalize tN x = x' at x1 x2
      subst x1
      rw [inR_nI (by omega) (by omega)]
      by_cases hh : x' < A.2.2.1.length
      · rw [if_pos (by rw [nI_ltI (by omega) (by omega)]; exact hh), decide_eq_true (by omega), if_pos rfl]
      · rw [if_neg (by rw [nI_ltI (by omega) (by omega)]; exact hh), decide_eq_false (by omega), if_neg z_f]
  unfold F_X10_trace aTra
  rw [chk_eq o, e1, bind_some', isIn_31, bind_some', ifb0, g5, bind_some', hlt, isIn_3, bind_some', ifb0]
  cases hx : inR x (min 32 A.2.2.1.length) with
  | false => exact Rj.fl h1 k1 E1 cd2_1
  | true =>
    obtain ⟨x1, x2⟩ := inR_tN (by omega) hx
    generalize tN x = x' at x1 x2
    subst x1
    rw [if_pos rfl, if_pos rfl]
    cases hq : inR q 4 with
    | false => exact Rj.fl h1 k1 E1 (cd2_2 n_IA_NS)
    | true =>
      obtain ⟨q1, q2⟩ := inR_tN (by omega) hq
      generalize tN q = q' at q1 q2
      subst q1
      have hx3 : x' < A.2.2.1.length := by omega
      have hv := n2 x' _ (by omega) (List.getElem?_eq_getElem hx3) q' q2
      have hr : (A.2.2.1.length - 1 - x') % 32 < 32 := Nat.mod_lt _ (by decide)
      rw [if_pos rfl, if_pos rfl, g4, bind_some', bind_some', nI_k1 (by omega), pk_sub (by omega), show (32 : Int32) = nI 32 from rfl, pk_rem (by omega) (by omega) (by omega), show (4 : Int32) = nI 4 from rfl, pk_mul, nI_add, h1.iald (k := 2) (by omega) rfl (show _ < 128 by omega), bind_some', hv, List.getD_eq_getElem?_getD, List.getElem?_eq_getElem hx3]
      exact Rj.ok1 h1 k1 t1 E1
theorem R_named (h : RJ s a c A) (i : Iv A.1) (x m k : Int32) : Rj s a (cd2 eIO eIA) (F_X10_named s a x m k) (aNam A x m k) := by
  obtain ⟨s1, s2, M, e1, e2, b, E, o⟩ := h.go2
  have hn := i.n5
  have hc2 := i.c
  unfold F_X10_named aNam
  rw [chk_eq o, e1, bind_some', e2, bind_some', R_isSiteM b.1 b.2.1 i, bind_some', ifb0, isIn_99, bind_some', ifb0, isIn_2, bind_some', ifb0]
  cases hx : inR x (wC A.1 0) with
  | false => exact Rj.fl b.1 b.2.1 E cd2_1
  | true =>
    obtain ⟨x1, x2⟩ := inR_tN (by omega) hx
    generalize tN x = x' at x1 x2
    subst x1
    have hx5 : x' < 5 := by omega
    rw [if_pos rfl, if_pos rfl]
    cases hm : inR m 100 with
    | false => exact Rj.fl b.1 b.2.1 E (cd2_2 n_IA_IO)
    | true =>
      obtain ⟨m1, m2⟩ := inR_tN (by omega) hm
      generalize tN m = m' at m1 m2
      subst m1
      rw [if_pos rfl, if_pos rfl]
      cases hk : inR k 3 with
      | false => exact Rj.fl b.1 b.2.1 E (cd2_2 n_IA_IO)
      | true =>
        obtain ⟨k1, k2⟩ := inR_tN (by omega) hk
        generalize tN k = k' at k1 k2
        subst k1
        rw [if_pos rfl, if_pos rfl]
        have hL : ∀ K : Int32 → Int32 → Int32 → Option (Int32 × Sto), F_X10_named_L66 s2 a (nI x') (nI m') fu 0 (-1) (-1) 0 K = K (nI (fb_ct (nmP A.1 x' m') (wC A.1 2))) (oI (fiE (nmP A.1 x' m') (wC A.1 2))) (oI (laE (nmP A.1 x' m') (wC A.1 2))) := by
          intro K
          refine lup (fun f j => F_X10_named_L66 s2 a (nI x') (nI m') f (nI (fb_ct (nmP A.1 x' m') j)) (oI (fiE (nmP A.1 x' m') j)) (oI (laE (nmP A.1 x' m') j)) (nI j) K) (wC A.1 2) _ ?_ ?_ fu (by unfold fu; omega)
          · intro j f hj
            have hN := i.eNl j hj
            have hp : nmP A.1 x' m' j = (sVw (wL A.1 x') j && decide (eN (wE A.1) j = m')) := rfl
            rw [F_X10_named_L66, b.1.wd, bind_some', b.n2, bind_some', if_neg (by rw [nI_leI (by omega) (by omega)]; omega), R_stateOf, bind_some', show (29 : Int32) = nI 29 from rfl, nI_add, R_isOf b.rt (by omega) (by omega), bind_some', b.rw.vw hx5 (by omega), ifb0, bind_some', R_eventOf, bind_some', show (4 : Int32) = nI 4 from rfl, nI_add, b.1.raw (by omega), bind_some', show M.2.2 0 (3953 + 10 * j + 4) = _ from (b.rw.e hj).2.2.2.2.1, ifE (by omega) (by omega), nI_add1 j, nI_add1 (fb_ct (nmP A.1 x' m') j), fb_ct_succ, fiE, laE]
            cases hv : sVw (wL A.1 x') j with
            | false =>
              rw [hv, Bool.false_and] at hp
              rw [hp, if_neg (by decide)]
              cases fiE (nmP A.1 x' m') j with
              | none => rfl
              | some y => rfl
            | true =>
              rw [hv, Bool.true_and] at hp
              rw [if_pos rfl]
              by_cases he : eN (wE A.1) j = m'
              · rw [decide_eq_true he] at hp
                rw [if_pos he, hp]
                cases hf : fiE (nmP A.1 x' m') j with
                | none => rfl
                | some y =>
                  have hy := fiE_lt hf
                  rw [show oI (some y) = nI y from rfl, if_neg (oI_n1 (by omega))]
                  rfl
              · rw [decide_eq_false he] at hp
                rw [if_neg he, hp]
                cases fiE (nmP A.1 x' m') j with
                | none => rfl
                | some y => rfl
          · intro f
            rw [F_X10_named_L66, b.1.wd, bind_some', b.n2, bind_some', if_pos (Int32.le_refl _)]
        refine (congrArg (fun f => Rj s a _ f _) (hL _)).mpr ?_
        rcases (show k' = 0 ∨ k' = 1 ∨ k' = 2 by omega) with rfl | rfl | rfl
        · rw [if_pos nI_0]; exact Rj.ok b E
        · rw [if_neg z_1, if_pos (show nI 1 = (1 : Int32) from rfl)]; exact Rj.ok b E
        · rw [if_neg z_2, if_neg (show ¬ nI 2 = (1 : Int32) by decide)]; exact Rj.ok b E
theorem R_only (h : RJ s a c A) (i : Iv A.1) (x y k : Int32) : Rj s a (cd1 eIO) (F_X10_only s a x y k) (aOnl A x y k) := by
  obtain ⟨s1, s2, M, e1, e2, b, E, o⟩ := h.go2
  have hn := i.n5
  have hc2 := i.c
  unfold F_X10_only aOnl
  rw [chk_eq o, e1, bind_some', e2, bind_some', R_areTwoM b.1 b.2.1 i, bind_some', ifb0]
  cases hx : two A.1 x y with
  | false => exact Rj.fl b.1 b.2.1 E cd1_1
  | true =>
    obtain ⟨⟨x1, x2⟩, ⟨y1, y2⟩, hne⟩ := two_tN hn hx
    generalize tN x = x' at x1 x2 hne
    generalize tN y = y' at y1 y2 hne
    subst x1
    subst y1
    have hx5 : x' < 5 := by omega
    have hy5 : y' < 5 := by omega
    have hcut : kthI (fun e => sVw (wL A.1 x') e && !sVw (wL A.1 y') e) (wC A.1 2) k = kthI (fun e => sVw (wL A.1 x') e && !sVw (wL A.1 y') e) 120 k := kthI_cut (fun _ _ => rfl) (fun e h1 h2 => by
      cases hh : sVw (wL A.1 x') e with
      | false => rfl
      | true => have := i.vw x' hx5 e hh; omega) hc2
    rw [if_pos rfl, if_pos rfl, ← hcut, kthI_U _ (by omega) k]
    have hk := uN32_eq k
    have hk2 := uN32_lt k
    generalize uN32 k = u at hk hk2
    subst hk
    have key := kthU (fun F x e => F_X10_only_L31 s2 a (nI x') (nI y') F (nI x) (nI e) (some (-1, s2))) (fun e => sVw (wL A.1 x') e && !sVw (wL A.1 y') e) (wC A.1 2) (fun q => some (oI q, s2)) (by
      intro F x e he hf
      show F_X10_only_L31 _ _ _ _ _ _ _ _ = _
      rw [F_X10_only_L31, b.1.wd, bind_some', b.n2, bind_some', if_neg (by rw [nI_leI (by omega) (by omega)]; omega), R_isOnly b.rt b.rw hx5 hy5 (by omega), bind_some', show (sVw (wL A.1 x') e && !sVw (wL A.1 y') e) = false from hf, if_pos (by decide), nI_add1]) (by
      intro F e he hf
      show F_X10_only_L31 _ _ _ _ _ _ _ _ = _
      rw [F_X10_only_L31, b.1.wd, bind_some', b.n2, bind_some', if_neg (by rw [nI_leI (by omega) (by omega)]; omega), R_isOnly b.rt b.rw hx5 hy5 (by omega), bind_some', show (sVw (wL A.1 x') e && !sVw (wL A.1 y') e) = true from hf, if_neg (by decide), if_pos (by decide)]
      rfl) (by
      intro F k e he hf hk
      show F_X10_only_L31 _ _ _ _ _ _ _ _ = _
      rw [F_X10_only_L31, b.1.wd, bind_some', b.n2, bind_some', if_neg (by rw [nI_leI (by omega) (by omega)]; omega), R_isOnly b.rt b.rw hx5 hy5 (by omega), bind_some', show (sVw (wL A.1 x') e && !sVw (wL A.1 y') e) = true from hf, if_neg (by decide), if_neg (fun y => by have := (nI_z hk).mp y; omega), m1_add, nI_add1]) (by
      intro F x
      show F_X10_only_L31 _ _ _ _ _ _ _ _ = _
      rw [F_X10_only_L31, b.1.wd, bind_some', b.n2, bind_some', if_pos (Int32.le_refl _)]
      rfl) u hk2 fu (by unfold fu; omega)
    refine (congrArg (fun f => Rj s a _ f _) key).mpr ?_
    exact Rj.ok b E
theorem R_front (h : RJ s a c A) (i : Iv A.1) (x k : Int32) : Rj s a (cd1 eIO) (F_X10_front s a x k) (aFro A x k) := by
  obtain ⟨s1, s2, M, e1, e2, b, E, o⟩ := h.go2
  have hn := i.n5
  have hc2 := i.c
  unfold F_X10_front aFro
  rw [chk_eq o, e1, bind_some', e2, bind_some', R_isSiteM b.1 b.2.1 i, bind_some', ifb0]
  cases hx : inR x (wC A.1 0) with
  | false => exact Rj.fl b.1 b.2.1 E cd1_1
  | true =>
    obtain ⟨x1, x2⟩ := inR_tN (by omega) hx
    generalize tN x = x' at x1 x2
    subst x1
    have hx5 : x' < 5 := by omega
    have hfr : ∀ e, frt A.1 x' e = true → e < wC A.1 2 := fun e he => by
      unfold frt at he
      rw [Bool.and_eq_true] at he
      exact i.hs x' hx5 e he.1
    have hfb : ∀ n, wC A.1 2 ≤ n → fb_ct (frt A.1 x') n = fb_ct (frt A.1 x') (wC A.1 2) := fun n hn => fb_ext hn (fun e h1 h2 => by
      cases hh : frt A.1 x' e with
      | false => rfl
      | true => have := hfr e hh; omega)
    have hL : ∀ K : Int32 → Option (Int32 × Sto), F_X10_front_L36 s2 a (nI x') k fu 0 0 K = match (List.range (wC A.1 2)).findSome? (fun e => if (frt A.1 x' e && decide (nI (fb_ct (frt A.1 x') e) = k)) = true then some e else none) with
        | some e => some (nI e, s2)
        | none => K (nI (fb_ct (frt A.1 x') (wC A.1 2))) := by
      intro K
      refine lfind (fun f j => F_X10_front_L36 s2 a (nI x') k f (nI (fb_ct (frt A.1 x') j)) (nI j) K) (fun e => if (frt A.1 x' e && decide (nI (fb_ct (frt A.1 x') e) = k)) = true then some e else none) (wC A.1 2) (fun e => some (nI e, s2)) _ ?_ ?_ fu (by unfold fu; omega)
      · intro j f hj
        rw [F_X10_front_L36, b.1.wd, bind_some', b.n2, bind_some', if_neg (by rw [nI_leI (by omega) (by omega)]; omega), R_isFront b.rt b.rw i.j b.b hx5 hj, bind_some', ifb0, nI_add1, nI_add1, fb_ct_succ]
        have hp : (sHs (wL A.1 x') j && !ex (fun f => sHs (wL A.1 x') f && eA (wE A.1) f j) (wC A.1 2)) = frt A.1 x' j := rfl
        rw [hp]
        cases frt A.1 x' j with
        | false => rfl
        | true =>
          rw [if_pos rfl, Bool.true_and]
          by_cases hk : nI (fb_ct (frt A.1 x') j) = k
          · rw [if_pos hk, decide_eq_true hk]; rfl
          · rw [if_neg hk, decide_eq_false hk]; rfl
      · intro f
        rw [F_X10_front_L36, b.1.wd, bind_some', b.n2, bind_some', if_pos (Int32.le_refl _)]
    rw [if_pos rfl, if_pos rfl, hL, fs_find]
    have hle := fb_ct_le (frt A.1 x') (wC A.1 2)
    by_cases hk1 : k = -1
    · have hnone : (List.range (wC A.1 2)).find? (fun e => frt A.1 x' e && decide (nI (fb_ct (frt A.1 x') e) = k)) = none := by
        rw [List.find?_eq_none]
        intro e he
        have he2 := List.mem_range.mp he
        have := fb_ct_le (frt A.1 x') e
        rw [hk1, decide_eq_false (oI_n1 (by omega)), Bool.and_false]
        decide
      rw [hnone, if_pos hk1, if_pos (by rw [hk1]; decide), hfb 128 (by omega)]
      dsimp only
      rw [if_pos hk1]
      exact Rj.ok b E
    · rw [if_neg hk1]
      by_cases hkl : -1 ≤ k
      · rw [if_pos hkl]
        have hk0 : ¬ k < 0 := fun h0 => by
          rw [Int32.le_iff_toInt_le, show (-1 : Int32).toInt = -1 from rfl] at hkl
          rw [Int32.lt_iff_toInt_lt, show (0 : Int32).toInt = 0 from rfl] at h0
          exact hk1 (Int32.toInt_inj.mp (by rw [show (-1 : Int32).toInt = -1 from rfl]; omega))
        obtain ⟨k', kl, k2⟩ := nI_of hk0
        subst k2
        have hkk : (List.range (wC A.1 2)).find? (fun e => frt A.1 x' e && decide (nI (fb_ct (frt A.1 x') e) = nI k')) = kthI (frt A.1 x') 120 (nI k') := by
          rw [kthI_nI kl, ← kth_cut (f := frt A.1 x') (g := frt A.1 x') (n := wC A.1 2) (m := 120) (fun _ _ => rfl) (fun e h1 h2 => by
            cases hh : frt A.1 x' e with
            | false => rfl
            | true => have := hfr e hh; omega) hc2]
          unfold kth
          congr 1
          funext e
          by_cases hee : fb_ct (frt A.1 x') e < 2 ^ 31
          · rw [show decide (nI (fb_ct (frt A.1 x') e) = nI k') = (fb_ct (frt A.1 x') e == k') from by
              by_cases hq : fb_ct (frt A.1 x') e = k'
              · rw [decide_eq_true (by rw [hq]), hq]; simp
              · rw [decide_eq_false (by rw [nI_eq hee kl]; exact hq)]; simp [hq]]
          · exfalso
            have h1 := hfb (max e (wC A.1 2)) (by omega)
            have h2 := fb_ct_mono (frt A.1 x') (show e ≤ max e (wC A.1 2) by omega)
            omega
        rw [hkk]
        cases kthI (frt A.1 x') 120 (nI k') with
        | none =>
          dsimp only
          rw [if_neg hk1]
          exact Rj.ok b E
        | some e =>
          dsimp only
          rw [if_neg hk1]
          exact Rj.ok b E
      · rw [if_neg hkl]
        have hk0 : k < 0 := by
          rw [Int32.le_iff_toInt_le, show (-1 : Int32).toInt = -1 from rfl] at hkl
          rw [Int32.lt_iff_toInt_lt, show (0 : Int32).toInt = 0 from rfl]
          omega
        have : kthI (frt A.1 x') 120 k = none := by
          unfold kthI
          rw [if_pos hk0]
        rw [this, if_neg hk1]
        exact Rj.ok b E
theorem mxW_0 {w : Wd} {e p : Nat} : ∀ {n : Nat}, (∀ s, s < n → p ≤ sWh (wL w s) e) → 1 ≤ n → mxW w e 0 n = mxW w e p n
  | 0, _, h => by omega
  | 1, h, _ => by
    have := h 0 (by omega)
    show max 0 (sWh (wL w 0) e) = max p (sWh (wL w 0) e)
    omega
  | n + 2, h, _ => by
    have ih := mxW_0 (w := w) (e := e) (p := p) (n := n + 1) (fun s hs => h s (by omega)) (by omega)
    show max (mxW w e 0 (n + 1)) _ = max (mxW w e p (n + 1)) _
    rw [ih]
theorem mxW_b {w : Wd} {e p m : Nat} : ∀ {n : Nat}, (∀ s, s < n → sWh (wL w s) e ≤ m) → p ≤ m → mxW w e p n ≤ m ∧ p ≤ mxW w e p n
  | 0, _, h => ⟨h, Nat.le_refl _⟩
  | n + 1, h, hp => by
    have ih := mxW_b (w := w) (e := e) (p := p) (m := m) (n := n) (fun s hs => h s (by omega)) hp
    have := h n (by omega)
    show max _ _ ≤ m ∧ p ≤ max _ _
    omega
theorem R_slowest (h : RJ s a c A) (i : Iv A.1) (h6 : wC A.1 6 < 2 ^ 31) (k : Int32) : Rj s a (cd1 eIA) (F_X10_slowest s a k) (aSlo A k) := by
  obtain ⟨s1, s2, M, e1, e2, b, E, o⟩ := h.go2
  have hn := i.n5
  have hn2 := i.n2
  have hc2 := i.c
  unfold F_X10_slowest aSlo
  rw [chk_eq o, e1, bind_some', e2, bind_some', isIn_1, bind_some', ifb0]
  cases hk : inR k 2 with
  | false => exact Rj.fl b.1 b.2.1 E cd1_1
  | true =>
    obtain ⟨k1, k2⟩ := inR_tN (by omega) hk
    generalize tN k = k' at k1 k2
    subst k1
    rw [if_pos rfl, if_pos rfl]
    have hin : ∀ e, e < wC A.1 2 → al (fun s => sHs (wL A.1 s) e) (wC A.1 0) = true → ∀ K : Int32 → Option (Int32 × Sto), F_X10_slowest_L62 s2 a (nI e) fu 0 0 K = K (nI (mxW A.1 e (eP (wE A.1) e) (wC A.1 0))) ∧ mxW A.1 e (eP (wE A.1) e) (wC A.1 0) ≤ wC A.1 6 ∧ eP (wE A.1) e ≤ mxW A.1 e (eP (wE A.1) e) (wC A.1 0) := by
      intro e he hall K
      have ha := al_iff.mp hall
      have hw : ∀ s, s < wC A.1 0 → eP (wE A.1) e ≤ sWh (wL A.1 s) e ∧ sWh (wL A.1 s) e ≤ wC A.1 6 := fun s hs => i.wh (show s < 5 by omega) (ha s hs)
      have hb := mxW_b (w := A.1) (e := e) (p := eP (wE A.1) e) (m := wC A.1 6) (n := wC A.1 0) (fun s hs => (hw s hs).2) (i.ePl e he)
      refine ⟨?_, hb⟩
      rw [← mxW_0 (fun s hs => (hw s hs).1) (by omega)]
      refine lup (fun f j => F_X10_slowest_L62 s2 a (nI e) f (nI (mxW A.1 e 0 j)) (nI j) K) (wC A.1 0) _ ?_ ?_ fu (by unfold fu; omega)
      · intro j f hj
        have hj5 : j < 5 := by omega
        have hWj := ((b.rw.L hj5).2.2.2.2.2 e (by omega)).1
        have hm := mxW_b (w := A.1) (e := e) (p := 0) (m := wC A.1 6) (n := j) (fun s hs => (hw s (by omega)).2) (Nat.zero_le _)
        have hwj := hw j hj
        rw [F_X10_slowest_L62, b.1.wd, bind_some', b.n0, bind_some', if_neg (by rw [nI_leI (by omega) (by omega)]; omega), bind_some', R_stateOf, bind_some', show (154 : Int32) = nI 154 from rfl, nI_add, nI_add, b.1.raw (by omega), bind_some', hWj, bind_some', nI_add1]
        show _ = F_X10_slowest_L62 s2 a (nI e) f (nI (max (mxW A.1 e 0 j) (sWh (wL A.1 j) e))) (nI (j + 1)) K
        by_cases hle : sWh (wL A.1 j) e ≤ mxW A.1 e 0 j
        · rw [if_pos (by rw [nI_leI (by omega) (by omega)]; exact hle), Nat.max_eq_left hle]
        · rw [if_neg (by rw [nI_leI (by omega) (by omega)]; exact hle), Nat.max_eq_right (by omega), bind_some', nI_add, nI_add, b.1.raw (by omega), bind_some', hWj]
      · intro f
        rw [F_X10_slowest_L62, b.1.wd, bind_some', b.n0, bind_some', if_pos (Int32.le_refl _)]
    have hL : ∀ K : Int32 → Int32 → Option (Int32 × Sto), F_X10_slowest_L33 s2 a fu (-1) (-1) 0 K = K (oI (slw A.1)) (match slw A.1 with
        | none => -1
        | some e => nI (mxW A.1 e (eP (wE A.1) e) (wC A.1 0) - eP (wE A.1) e)) := by
      intro K
      refine lup (fun f j => F_X10_slowest_L33 s2 a f (oI (slE (fun e => al (fun s => sHs (wL A.1 s) e) (wC A.1 0)) (fun e => mxW A.1 e (eP (wE A.1) e) (wC A.1 0) - eP (wE A.1) e) j)) (match slE (fun e => al (fun s => sHs (wL A.1 s) e) (wC A.1 0)) (fun e => mxW A.1 e (eP (wE A.1) e) (wC A.1 0) - eP (wE A.1) e) j with
        | none => -1
        | some e => nI (mxW A.1 e (eP (wE A.1) e) (wC A.1 0) - eP (wE A.1) e)) (nI j) K) (wC A.1 2) _ ?_ ?_ fu (by unfold fu; omega)
      · intro j f hj
        rw [F_X10_slowest_L33, b.1.wd, bind_some', b.n2, bind_some', if_neg (by rw [nI_leI (by omega) (by omega)]; omega), R_allHave b.rt b.rw i.j (by omega), bind_some', ifb0, slE]
        cases hall : al (fun s => sHs (wL A.1 s) j) (wC A.1 0) with
        | false => rw [if_neg z_f, if_neg z_f, nI_add1]
        | true =>
          obtain ⟨-, g2, g3⟩ := hin j hj hall (fun _ => none)
          rw [if_pos rfl, if_pos rfl, (hin j hj hall _).1, bind_some', R_eventOf, bind_some', show (5 : Int32) = nI 5 from rfl, nI_add, b.1.raw (by omega), bind_some', show M.2.2 0 (3953 + 10 * j + 5) = _ from (b.rw.e hj).2.2.2.2.2.1, pk_sub g3, nI_add1]
          cases hs : slE (fun e => al (fun s => sHs (wL A.1 s) e) (wC A.1 0)) (fun e => mxW A.1 e (eP (wE A.1) e) (wC A.1 0) - eP (wE A.1) e) j with
          | none =>
            rw [show oI none = -1 from rfl, if_pos rfl]
            rfl
          | some e' =>
            obtain ⟨s3, s4⟩ := slE_lt hs
            obtain ⟨-, u2, u3⟩ := hin e' (by omega) s4 (fun _ => none)
            rw [show oI (some e') = nI e' from rfl, if_neg (oI_n1 (by omega))]
            dsimp only
            by_cases hlt : mxW A.1 e' (eP (wE A.1) e') (wC A.1 0) - eP (wE A.1) e' < mxW A.1 j (eP (wE A.1) j) (wC A.1 0) - eP (wE A.1) j
            · rw [if_pos (by rw [nI_ltI (by omega) (by omega)]; exact hlt), if_pos hlt]; rfl
            · rw [if_neg (by rw [nI_ltI (by omega) (by omega)]; exact hlt), if_neg hlt]; rfl
      · intro f
        rw [F_X10_slowest_L33, b.1.wd, bind_some', b.n2, bind_some', if_pos (Int32.le_refl _)]
        rfl
    rw [hL]
    cases hs : slw A.1 with
    | none =>
      rcases (show k' = 0 ∨ k' = 1 by omega) with rfl | rfl
      · rw [if_pos nI_0]; exact Rj.ok b E
      · rw [if_neg z_1]; exact Rj.ok b E
    | some e =>
      dsimp only
      rcases (show k' = 0 ∨ k' = 1 by omega) with rfl | rfl
      · rw [if_pos nI_0]; exact Rj.ok b E
      · rw [if_neg z_1]; exact Rj.ok b E
end RFS
