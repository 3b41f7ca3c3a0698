/-! ===== PURE 91: the reference's publics: event, wide, chain ===== -/
section RGE
variable {s s1 t σ : Sto} {a c : Nat} {M : Ms} {A : Ga} {w : Wd} {W W' : Nat → Nat}
theorem conc_row {w : Wd} (i : Iv w) {e : Nat} (he : e < wC w 2) : fb_ct (conc w e) (wC w 2) = (e - fb_ct (eA (wE w) e) e) + fb_ct (fun k => !eA (wE w) (e + 1 + k) e) (wC w 2 - (e + 1)) := by
  have h1 := fb_ct_split (conc w e) e (1 + (wC w 2 - (e + 1)))
  have h2 := fb_ct_split (fun k => conc w e (e + k)) 1 (wC w 2 - (e + 1))
  rw [show e + (1 + (wC w 2 - (e + 1))) = wC w 2 by omega] at h1
  have h3 : fb_ct (conc w e) e = fb_ct (fun k => !eA (wE w) e k) e := fb_ct_cong (fun k hk => by
    unfold conc
    have : eA (wE w) k e = false := by
      cases h : eA (wE w) k e with
      | false => rfl
      | true => have := i.eAl k (by omega) e h; omega
    rw [this, show (e == k) = false from by simp; omega]
    simp)
  have h4 := fb_ct_not (eA (wE w) e) e
  have h5 : fb_ct (fun k => conc w e (e + k)) 1 = 0 := fb_ct_zero.mpr (fun k hk => by
    have : k = 0 := by omega
    subst this
    unfold conc
    simp)
  have h6 : fb_ct (fun k => conc w e (e + (1 + k))) (wC w 2 - (e + 1)) = fb_ct (fun k => !eA (wE w) (e + 1 + k) e) (wC w 2 - (e + 1)) := fb_ct_cong (fun k hk => by
    unfold conc
    have : eA (wE w) e (e + (1 + k)) = false := by
      cases h : eA (wE w) e (e + (1 + k)) with
      | false => rfl
      | true => have := i.eAl e he _ h; omega
    rw [this, show (e == e + (1 + k)) = false from by simp, show e + (1 + k) = e + 1 + k by omega]
    simp)
  rw [h1, h2, h3, h5, h6]
  omega
/-- couples are counted twice -/
theorem conc_two {w : Wd} (i : Iv w) : sm (fun e => fb_ct (conc w e) (wC w 2)) (wC w 2) = 2 * sm (fun e => e - fb_ct (eA (wE w) e) e) (wC w 2) := by
  have hup : ∀ c, sm (fun e => fb_ct (fun k => !eA (wE w) (e + 1 + k) e) (c - (e + 1))) c = sm (fun e => fb_ct (fun k => !eA (wE w) e k) e) c := by
    intro c
    induction c with
    | zero => rfl
    | succ c ih =>
      show sm (fun e => fb_ct (fun k => !eA (wE w) (e + 1 + k) e) (c + 1 - (e + 1))) c + fb_ct (fun k => !eA (wE w) (c + 1 + k) c) (c + 1 - (c + 1)) = sm (fun e => fb_ct (fun k => !eA (wE w) e k) e) c + fb_ct (fun k => !eA (wE w) c k) c
      rw [Nat.sub_self, ← ih]
      have key : ∀ m, m ≤ c → sm (fun e => fb_ct (fun k => !eA (wE w) (e + 1 + k) e) (c + 1 - (e + 1))) m = sm (fun e => fb_ct (fun k => !eA (wE w) (e + 1 + k) e) (c - (e + 1))) m + fb_ct (fun k => !eA (wE w) c k) m := by
        intro m
        induction m with
        | zero => intro _; rfl
        | succ m ih2 =>
          intro hm
          show sm (fun e => fb_ct (fun k => !eA (wE w) (e + 1 + k) e) (c + 1 - (e + 1))) m + fb_ct (fun k => !eA (wE w) (m + 1 + k) m) (c + 1 - (m + 1)) = (sm (fun e => fb_ct (fun k => !eA (wE w) (e + 1 + k) e) (c - (e + 1))) m + fb_ct (fun k => !eA (wE w) (m + 1 + k) m) (c - (m + 1))) + fb_ct (fun k => !eA (wE w) c k) (m + 1)
          rw [ih2 (by omega), fb_ct_succ, show c + 1 - (m + 1) = (c - (m + 1)) + 1 by omega, fb_ct_succ, show m + 1 + (c - (m + 1)) = c by omega]
          omega
      rw [key c (Nat.le_refl _)]
      rfl
  have h1 : sm (fun e => fb_ct (conc w e) (wC w 2)) (wC w 2) = sm (fun e => (e - fb_ct (eA (wE w) e) e) + fb_ct (fun k => !eA (wE w) (e + 1 + k) e) (wC w 2 - (e + 1))) (wC w 2) := sm_cg (fun e he => conc_row i he)
  have hadd : ∀ (f g : Nat → Nat) (n : Nat), sm (fun e => f e + g e) n = sm f n + sm g n := by
    intro f g n
    induction n with
    | zero => rfl
    | succ n ih =>
      show sm (fun e => f e + g e) n + (f n + g n) = (sm f n + f n) + (sm g n + g n)
      rw [ih]
      omega
  have h2 : sm (fun e => fb_ct (fun k => !eA (wE w) e k) e) (wC w 2) = sm (fun e => e - fb_ct (eA (wE w) e) e) (wC w 2) := sm_cg (fun e _ => by
    have := fb_ct_not (eA (wE w) e) e
    omega)
  rw [h1, hadd, hup, h2]
  omega
theorem R_event (h : RJ s a c A) (i : Iv A.1) (x k : Int32) : Rj s a (cd2 eIO eIA) (F_X10_event s a x k) (aEve A x k) := by
  obtain ⟨s1, s2, M, e1, e2, b, E, o⟩ := h.go2
  have hn := i.n5
  have hc2 := i.c
  unfold F_X10_event aEve
  rw [chk_eq o, e1, bind_some', e2, bind_some', R_isEventM b.1 b.2.1 i, bind_some', ifb0, isIn_4, bind_some', ifb0]
  cases hx : inR x (wC A.1 2) with
  | false => exact Rj.fl b.1 b.2.1 E cd2_1
  | true =>
    obtain ⟨x1, x2⟩ := inR_tN (by omega) hx
    generalize tN x = x' at x1 x2
    subst x1
    have hE := b.rw.e x2
    have h5 : ∀ K : Int32 → Option (Int32 × Sto), F_X10_event_L83 s2 a (nI x') fu 0 0 K = K (nI (fb_ct (fun s => sHs (wL A.1 s) x') (wC A.1 0))) := by
      intro K
      refine lup (fun f j => F_X10_event_L83 s2 a (nI x') f (nI (fb_ct (fun s => sHs (wL A.1 s) x') j)) (nI j) K) (wC A.1 0) _ ?_ ?_ fu (by unfold fu; omega)
      · intro j f hj
        rw [F_X10_event_L83, b.1.wd, bind_some', b.n0, bind_some', if_neg (by rw [nI_leI (by omega) (by omega)]; omega), show F_X10_doesHave s2 a (nI j) (nI x') 1 = _ from R_doesHave1 b.rt b.rw (by omega) (by omega), bind_some', R_flag, bind_some', nI_add, nI_add1, fb_ct_succ]
        cases sHs (wL A.1 j) x' <;> rfl
      · intro f
        rw [F_X10_event_L83, b.1.wd, bind_some', b.n0, bind_some', if_pos (Int32.le_refl _)]
    have h6 : ∀ K : Int32 → Option (Int32 × Sto), F_X10_event_L119 s2 a (nI x') fu 0 0 K = K (nI (fb_ct (fun s => (sLg (wL A.1 s)).contains x') (wC A.1 0))) := by
      intro K
      refine lup (fun f j => F_X10_event_L119 s2 a (nI x') f (nI (fb_ct (fun s => (sLg (wL A.1 s)).contains x') j)) (nI j) K) (wC A.1 0) _ ?_ ?_ fu (by unfold fu; omega)
      · intro j f hj
        rw [F_X10_event_L119, b.1.wd, bind_some', b.n0, bind_some', if_neg (by rw [nI_leI (by omega) (by omega)]; omega), R_isLogged b.rt b.rw i.j (by omega) (by omega), bind_some', R_flag, bind_some', nI_add, nI_add1, fb_ct_succ]
        cases (sLg (wL A.1 j)).contains x' <;> rfl
      · intro f
        rw [F_X10_event_L119, b.1.wd, bind_some', b.n0, bind_some', if_pos (Int32.le_refl _)]
    obtain ⟨t7, M7, P7, R7, e7, b7, E7, q7, -⟩ := R_laysHeights b i
    have hh7 : F_X10_heightOf s2 a (nI x') = some (nI (hgt (eA (wE A.1)) x'), t7) := by
      obtain ⟨g9, a5⟩ := q7.h5 i.j x2
      unfold F_X10_heightOf
      rw [chk_eq b.ok, e7, bind_some', g9, bind_some', a5, bind_some']
    rw [if_pos rfl, if_pos rfl, h5, h6, hh7, wbs, R_concurrentOf b.rt b.rw i.j b.b x2, bind_some', b.1.wd, bind_some', R_eventOf, bind_some']
    cases hk : inR k 9 with
    | false =>
      have hne : ∀ j, j < 9 → ¬ k = nI j := fun j hj he => by
        rw [he, inR_nI (by omega) (by omega), decide_eq_true hj] at hk
        cases hk
      have h5' : inR k 5 = false := by
        cases hq : inR k 5 with
        | false => rfl
        | true =>
          obtain ⟨j, j1, j2⟩ := inR_ex (by omega) hq
          exact absurd j2 (hne j (by omega))
      rw [h5', if_neg z_f, if_neg (show ¬ k = (5 : Int32) from hne 5 (by omega)), if_neg (show ¬ k = (6 : Int32) from hne 6 (by omega)), if_neg (show ¬ k = (7 : Int32) from hne 7 (by omega)), if_neg (show ¬ k = (8 : Int32) from hne 8 (by omega))]
      exact Rj.fl b.1 b.2.1 E (cd2_2 n_IA_IO)
    | true =>
      obtain ⟨k1, k2⟩ := inR_tN (by omega) hk
      generalize tN k = k' at k1 k2
      subst k1
      rw [inR_nI (by omega) (by omega), nI_add]
      unfold evQ
      rcases (show k' = 0 ∨ k' = 1 ∨ k' = 2 ∨ k' = 3 ∨ k' = 4 ∨ k' = 5 ∨ k' = 6 ∨ k' = 7 ∨ k' = 8 by omega) with rfl | rfl | rfl | rfl | rfl | rfl | rfl | rfl | rfl
      · rw [if_pos (show decide (0 < 5) = true by decide), b.1.raw (by omega), bind_some', Nat.add_zero, hE.1]; exact Rj.ok b E
      · rw [if_pos (show decide (1 < 5) = true by decide), b.1.raw (by omega), bind_some', hE.2.1]; exact Rj.ok b E
      · rw [if_pos (show decide (2 < 5) = true by decide), b.1.raw (by omega), bind_some', hE.2.2.1]; exact Rj.ok b E
      · rw [if_pos (show decide (3 < 5) = true by decide), b.1.raw (by omega), bind_some', hE.2.2.2.1]; exact Rj.ok b E
      · rw [if_pos (show decide (4 < 5) = true by decide), b.1.raw (by omega), bind_some', hE.2.2.2.2.1]; exact Rj.ok b E
      · rw [if_neg (show ¬ decide (5 < 5) = true by decide), if_pos (show nI 5 = (5 : Int32) from rfl)]; exact Rj.ok b E
      · rw [if_neg (show ¬ decide (6 < 5) = true by decide), if_neg (show ¬ nI 6 = (5 : Int32) by decide), if_pos (show nI 6 = (6 : Int32) from rfl)]; exact Rj.ok b E
      · rw [if_neg (show ¬ decide (7 < 5) = true by decide), if_neg (show ¬ nI 7 = (5 : Int32) by decide), if_neg (show ¬ nI 7 = (6 : Int32) by decide), if_pos (show nI 7 = (7 : Int32) from rfl)]; exact Rj.ok b7 (E.tr E7)
      · rw [if_neg (show ¬ decide (8 < 5) = true by decide), if_neg (show ¬ nI 8 = (5 : Int32) by decide), if_neg (show ¬ nI 8 = (6 : Int32) by decide), if_neg (show ¬ nI 8 = (7 : Int32) by decide), if_pos (show nI 8 = (8 : Int32) from rfl), conc_row i x2]; exact Rj.ok b E
theorem R_wide (h : RJ s a c A) (i : Iv A.1) (k : Int32) : Rj s a (cd1 eIA) (F_X10_wide s a k) (aWid A k) := by
  obtain ⟨s1, M, e1, h1, k1, t1, E1, o⟩ := h.go1
  have hc2 := i.c
  unfold F_X10_wide aWid
  rw [chk_eq o, e1, bind_some', isIn_2, bind_some', ifb0]
  cases hk : inR k 3 with
  | false => exact Rj.fl h1 k1 E1 cd1_1
  | true =>
    obtain ⟨k1', k2⟩ := inR_tN (by omega) hk
    generalize tN k = k' at k1' k2
    subst k1'
    obtain ⟨s2, e2, h2, E2⟩ := h1.b0 0
    have b2 : RB s2 a (uS M 3 0) A := ⟨h2, k1.b0 (Nat.zero_le _), rfl, t1⟩
    -- the call sets the base itself: the same store
    obtain ⟨t7, M7, P7, R7, e7, b7, E7, q7, -⟩ := R_laysHeights b2 i
    have e7' : F_X10_laysHeights s1 a = some t7 := by
      have hb2 : sV s2 a 10 3 (.int (0 : Int32)) = some s2 := by
        obtain ⟨s3, e3, h3, E3⟩ := h2.b0 0
        have : s3 = s2 := by
          have x1 : sV s2 a 10 3 (.int (nI 0)) = some (stc s2 a (.inl (10, (mO a (uS M 3 0)).set 3 (.int (nI 0))))) := sV_cel h2.1 (Nat.le_of_ble_eq_true rfl)
          have x2 : sV s1 a 10 3 (.int (nI 0)) = some (stc s1 a (.inl (10, (mO a M).set 3 (.int (nI 0))))) := sV_cel h1.1 (Nat.le_of_ble_eq_true rfl)
          rw [e2] at x2
          rw [e3] at x1
          cases x1
          cases x2
          unfold stc
          rw [List.set_set]
          rfl
        rw [this] at e3
        exact e3
      unfold F_X10_laysHeights at e7 ⊢
      rw [chk_eq h2.ok, hb2, bind_some'] at e7
      rw [chk_eq h1.ok, show sV s1 a 10 3 (.int 0) = _ from e2, bind_some']
      exact e7
    have hle : ∀ e, fb_ct (conc A.1 e) (wC A.1 2) ≤ 120 := fun e => by
      have := fb_ct_le (conc A.1 e) (wC A.1 2)
      omega
    have hL : ∀ K : Int32 → Int32 → Option (Int32 × Sto), F_X10_wide_L34 t7 a fu 0 (-1) 0 K = K (nI (sm (fun e => fb_ct (conc A.1 e) (wC A.1 2)) (wC A.1 2))) (oI (hiE (hgt (eA (wE A.1))) (wC A.1 2))) := by
      intro K
      refine lup (fun f j => F_X10_wide_L34 t7 a f (nI (sm (fun e => fb_ct (conc A.1 e) (wC A.1 2)) j)) (oI (hiE (hgt (eA (wE A.1))) j)) (nI j) K) (wC A.1 2) _ ?_ ?_ fu (by unfold fu; omega)
      · intro j f hj
        obtain ⟨g9, a5⟩ := q7.h5 i.j hj
        have hjl := hgt_le (eA (wE A.1)) j
        rw [F_X10_wide_L34, b7.1.wd, bind_some', b7.n2, bind_some', if_neg (by rw [nI_leI (by omega) (by omega)]; omega), R_concurrentOf b7.rt b7.rw i.j b7.b hj, bind_some', nI_add, nI_add1, g9, bind_some', a5, bind_some', bind_some']
        show _ = F_X10_wide_L34 t7 a f (nI (sm (fun e => fb_ct (conc A.1 e) (wC A.1 2)) j + fb_ct (conc A.1 j) (wC A.1 2))) (oI (match hiE (hgt (eA (wE A.1))) j with
          | none => some j
          | some b => if hgt (eA (wE A.1)) b < hgt (eA (wE A.1)) j then some j else some b)) (nI (j + 1)) K
        cases hq : hiE (hgt (eA (wE A.1))) j with
        | none => rw [show oI none = -1 from rfl, if_pos rfl]; rfl
        | some q =>
          have hqj := hiE_lt hq
          have hql := hgt_le (eA (wE A.1)) q
          obtain ⟨-, a5q⟩ := q7.h5 i.j (show q < wC A.1 2 by omega)
          rw [show oI (some q) = nI q from rfl, if_neg (oI_n1 (by omega)), a5q, bind_some']
          dsimp only
          by_cases hlt : hgt (eA (wE A.1)) q < hgt (eA (wE A.1)) j
          · rw [if_neg (by rw [nI_leI (by omega) (by omega)]; omega), if_pos hlt]; rfl
          · rw [if_pos (by rw [nI_leI (by omega) (by omega)]; omega), if_neg hlt]; rfl
      · intro f
        rw [F_X10_wide_L34, b7.1.wd, bind_some', b7.n2, bind_some', if_pos (Int32.le_refl _)]
    have hsm : sm (fun e => e - fb_ct (eA (wE A.1) e) e) (wC A.1 2) ≤ 120 * wC A.1 2 := sm_le (fun e he => by omega)
    rw [if_pos rfl, if_pos rfl, e7', bind_some', hL, conc_two i, show (2 : Int32) = nI 2 from rfl, pk_div (by omega) (by omega) (by omega), show 2 * sm (fun e => e - fb_ct (eA (wE A.1) e) e) (wC A.1 2) / 2 = sm (fun e => e - fb_ct (eA (wE A.1) e) e) (wC A.1 2) by omega]
    have EE := (E1.tr E2).tr E7
    rcases (show k' = 0 ∨ k' = 2 ∨ k' = 1 by omega) with rfl | rfl | rfl
    · rw [if_pos nI_0]; exact Rj.ok b7 EE
    · rw [if_neg z_2, if_pos rfl]; exact Rj.ok b7 EE
    · rw [if_neg z_1, if_neg (show ¬ nI 1 = nI 2 by decide), if_neg (show ¬ 1 = 0 by decide), if_neg (show ¬ 1 = 2 by decide)]
      cases hq : hiE (hgt (eA (wE A.1))) (wC A.1 2) with
      | none => rw [show oI none = -1 from rfl, if_pos rfl]; exact Rj.ok b7 EE
      | some q =>
        have hqj := hiE_lt hq
        obtain ⟨g9, a5q⟩ := q7.h5 i.j hqj
        rw [show oI (some q) = nI q from rfl, if_neg (oI_n1 (by omega)), g9, bind_some', a5q, bind_some']
        exact Rj.ok b7 EE
theorem R_chain (h : RJ s a c A) (i : Iv A.1) (x k : Int32) : Rj s a (cd1 eIO) (F_X10_chain s a x k) (aChn A x k) := by
  obtain ⟨s1, s2, M, e1, e2, b, E, o⟩ := h.go2
  have hc2 := i.c
  unfold F_X10_chain aChn
  rw [chk_eq o, e1, bind_some', e2, bind_some', R_isEventM b.1 b.2.1 i, bind_some', ifb0]
  cases hx : inR x (wC A.1 2) with
  | false => exact Rj.fl b.1 b.2.1 E cd1_1
  | true =>
    obtain ⟨x1, x2⟩ := inR_tN (by omega) hx
    generalize tN x = x' at x1 x2
    subst x1
    obtain ⟨t7, M7, P7, R7, e7, b7, E7, q7, S7⟩ := R_laysHeights b i
    obtain ⟨g9, a5⟩ := q7.h5 i.j x2
    have hxl := hgt_le (eA (wE A.1)) x'
    rw [if_pos rfl, if_pos rfl, e7, bind_some', g9, bind_some', a5, bind_some', show (1 : Int32) = nI 1 from rfl, isIn_inR k (by omega), bind_some', ifb0]
    unfold lrA
    cases hk : inR k (hgt (eA (wE A.1)) x') with
    | false =>
      have hnone : (if k < 0 then none else if k < nI (hgt (eA (wE A.1)) x') then (lrT (eA (wE A.1)) (lrF (eA (wE A.1)) x') k.toNatClampNeg (x' + 1)).1 else none) = none := by
        rw [inR_if, hk, if_neg z_f]
      rw [hnone, if_neg z_f]
      exact Rj.ok b7 (E.tr E7)
    | true =>
      obtain ⟨k1, k2⟩ := inR_tN (by omega) hk
      have hkk : k.toNatClampNeg = tN k := rfl
      rw [inR_if, hk, if_pos rfl, if_pos rfl, hkk]
      generalize tN k = k' at k1 k2
      subst k1
      have hm : ∀ y, y < wC A.1 2 → hgt (eA (wE A.1)) y ≤ mxh (eA (wE A.1)) (wC A.1 2) := fun y hy => mxh_ge hy
      rw [lrT_eq S7 hm i.eAl x2 k2]
      have hL : ∀ d f, d + (k' + 1) ≤ hgt (eA (wE A.1)) x' → hgt (eA (wE A.1)) x' - (k' + 1) - d < f → F_X10_chain_L50 t7 a (nI k') f (nI (ddn P7 x' d)) (fun x12 => some (x12, t7)) = some (nI (ddn P7 x' (hgt (eA (wE A.1)) x' - (k' + 1))), t7) := by
        intro d f
        induction f generalizing d with
        | zero => intro _ h; omega
        | succ f ih =>
          intro hd hf
          obtain ⟨d1, d2, d3, d4⟩ := ddn_spec S7 hm i.eAl x2 d (by omega)
          obtain ⟨g9', a5'⟩ := q7.h5 i.j (show ddn P7 x' d < wC A.1 2 by omega)
          obtain ⟨g10, a6⟩ := q7.h6 i.j (show ddn P7 x' d < wC A.1 2 by omega)
          rw [F_X10_chain_L50, g9', bind_some', a5', bind_some', nI_add1]
          by_cases hlast : d + (k' + 1) = hgt (eA (wE A.1)) x'
          · rw [if_pos (by rw [nI_leI (by omega) (by omega)]; omega), show hgt (eA (wE A.1)) x' - (k' + 1) = d by omega]
          · rw [if_neg (by rw [nI_leI (by omega) (by omega)]; omega), g10, bind_some', a6, bind_some', (d4 (by omega)).1]
            exact ih (d + 1) (by omega) (by omega)
      have := hL 0 fu (by omega) (by unfold fu; omega)
      rw [show ddn P7 x' 0 = x' from rfl] at this
      rw [this]
      exact Rj.ok b7 (E.tr E7)
end RGE
