/-! ===== PURE 54: the class's publics: sites, take, cut ===== -/
theorem ltn_i' (x : Int32) {n : Nat} (hn : n < 2 ^ 31) : x < nI n ↔ x.toInt < n := by
  rw [Int32.lt_iff_toInt_lt, nI_toInt hn]
section PUC
variable {σ t : Sto} {g : Nat} {A : Ga} {z : Nat} {Q : Nat → Prop}
def aSit (A : Ga) (x : Int32) : Ra := if x < nI 2 then (.inr eIA, A) else if x ≤ nI 5 then (.inl x, (wBeg (tN x) (wC A.1 1), A.2.1, [], A.2.2.2)) else (.inr eIA, A)
theorem C_sites (h : GA σ g A z Q) (x : Int32) : Ans σ g z Q (F_X9_sites σ g x) (aSit A x) := by
  unfold F_X9_sites aSit
  rw [chk_eq h.ok, show (2 : Int32) = nI 2 from rfl, show (5 : Int32) = nI 5 from rfl]
  by_cases h2 : x < nI 2
  · rw [if_pos h2, if_pos h2]; exact Ans.thw h eIA
  rw [if_neg h2, if_neg h2]
  by_cases h5 : x ≤ nI 5
  · rw [if_pos h5, if_pos h5]
    have hx : x = nI (tN x) := by
      rw [ltn_i' x (by omega)] at h2
      apply Int32.toInt_inj.mp
      have hkb : x.toInt < 2 ^ 31 := Int32.toInt_lt x
      have : tN x = x.toInt.toNat := rfl
      rw [nI_toInt (by omega), this]
      omega
    obtain ⟨t1, z1, Q1, e1, h1, G1⟩ := h.act (X := (F_X8_begin σ (g + 1) x).map (fun s => ((), s))) (r := ()) (w2 := wBeg (tN x) (wC A.1 1)) (fun O sl c => by
      obtain ⟨t, e, c', F⟩ := C_begin c (n := tN x)
      rw [← hx] at e
      exact ⟨t, sl, by rw [e]; rfl, c', F, rfl⟩)
    have e1' : F_X8_begin σ (g + 1) x = some t1 := by
      cases hb : F_X8_begin σ (g + 1) x with
      | none => rw [hb] at e1; cases e1
      | some s => rw [hb] at e1; cases e1; rfl
    have hT : CT t1 (g + 256) A.2.2.1 := by
      obtain ⟨O, sl, bi, Oi, sli, k1, k2, k3, k4, -⟩ := h1
      exact k4
    obtain ⟨t2, e2, c2, F2⟩ := C_forget hT
    obtain ⟨h3, G3⟩ := h1.trc c2 F2
    refine ⟨t2, z1, Q1, ?_, h3, (G1.tr G3).mo (by omega) (by omega)⟩
    rw [h.r0, bind_some', e1', bind_some', h1.r2, bind_some', e2, bind_some']
  · rw [if_neg h5, if_neg h5]; exact Ans.thw h eIA
def aCut (A : Ga) (x y b : Int32) : Ra := if two A.1 x y = true then (if nI (b2 (wcut A.1 (tN x) (tN y))) = b then (.inl 0, A) else (.inl 1, dne A (lnk (stp A.1) (tN x) (tN y)) 9 (tN x) 1)) else (.inr eIO, A)
theorem C_cut (h : GA σ g A z Q) (i : Iv A.1) (x y : Int32) (b : Bool) : Ans σ g z Q (F_X9_cut σ g x y (nI (b2 b))) (aCut A x y (nI (b2 b))) := by
  have hn := i.j.n5
  unfold F_X9_cut aCut
  rw [chk_eq h.ok, C_needTwo h hn, Bool.and_assoc, show (inR x (wC A.1 0) && (inR y (wC A.1 0) && !decide (x = y))) = two A.1 x y from rfl, tbI]
  cases hx : two A.1 x y with
  | false => exact Ans.thw h eIO
  | true =>
    obtain ⟨⟨x1, x2⟩, ⟨y1, y2⟩, hne⟩ := two_tN hn hx
    generalize tN x = x' at x1 x2 hne
    generalize tN y = y' at y1 y2 hne
    subst x1
    subst y1
    obtain ⟨O, sl, c, o1, o2⟩ := GT.cm h
    rw [if_pos rfl, if_pos rfl, h.r0, bind_some', C_isCut c.1 (by omega) (by omega), bind_some', bind_some']
    by_cases hb : nI (b2 (wcut A.1 x' y')) = nI (b2 b)
    · rw [if_pos hb, if_pos hb]
      exact ⟨σ, z, Q, rfl, h, Gz.rf.mo (by omega) (by omega)⟩
    · rw [if_neg hb, if_neg hb]
      have hbb : b = !wcut A.1 x' y' := by
        cases hw : wcut A.1 x' y' <;> cases b <;> simp_all
      subst hbb
      obtain ⟨t1, z1, Q1, e1, h1, G1⟩ := h.act (X := (F_X8_setLink σ (g + 1) (nI x') (nI y') (nI (b2 (!wcut A.1 x' y')))).map (fun s => ((), s))) (r := ()) (w2 := lnk (stp A.1) x' y') (fun O sl c => by
        obtain ⟨t, e, c', F⟩ := C_setLink c (f := x') (o := y') (by omega) (by omega)
        exact ⟨t, sl, by rw [e]; rfl, c', F, rfl⟩)
      have e1' : F_X8_setLink σ (g + 1) (nI x') (nI y') (nI (b2 (!wcut A.1 x' y'))) = some t1 := by
        cases hb : F_X8_setLink σ (g + 1) (nI x') (nI y') (nI (b2 (!wcut A.1 x' y'))) with
        | none => rw [hb] at e1; cases e1
        | some s => rw [hb] at e1; cases e1; rfl
      obtain ⟨t2, e2, h2, G2⟩ := C_traced h1 9 x' 1
      refine ⟨t2, z1, Q1, ?_, h2, (G1.tr G2).mo (by omega) (by omega)⟩
      rw [e1', bind_some', show (9 : Int32) = nI 9 from rfl, l_1, e2, wbs]
def aTak (A : Ga) (x m : Int32) : Ra := if inR x (wC A.1 0) = true then (if inR m (wC A.1 2) = true then (if sVw (wL A.1 (tN x)) (tN m) = true then (if wC A.1 2 < 120 then (.inl (nI (wC A.1 2)), dne A (hap (stp A.1) (tN x) (tN m) (eN (wE A.1) (tN m))) 1 (tN x) (wC A.1 2)) else (.inr eIS, A)) else (.inr eNS, A)) else (.inr eNS, A)) else (.inr eIO, A)
theorem C_take (h : GA σ g A z Q) (i : Iv A.1) (i2 : Iv (stp A.1)) (x m : Int32) : Ans σ g z Q (F_X9_take σ g x m) (aTak A x m) := by
  have hn := i.j.n5
  have hc := i.j.c
  unfold F_X9_take aTak
  rw [chk_eq h.ok, C_needSite h hn, tbI]
  cases hx : inR x (wC A.1 0) with
  | false => exact Ans.thw h eIO
  | true =>
    obtain ⟨x1, x2⟩ := inR_tN (by omega) hx
    generalize tN x = x' at x1 x2
    subst x1
    obtain ⟨O, sl, c, o1, o2⟩ := GT.cm h
    rw [if_pos rfl, if_pos rfl, h.r0, bind_some', GT.r6 h, bind_some', C_contains c.1.ev i.j.bv m, bind_some', ifb0]
    cases hm : inR m (wC A.1 2) with
    | false => exact Ans.thw h eNS
    | true =>
      obtain ⟨m1, m2⟩ := inR_tN (by omega) hm
      generalize tN m = m' at m1 m2
      subst m1
      rw [if_pos rfl, if_pos rfl, bind_some', c.1.r7, bind_some', c.1.lv (by omega), bind_some', (c.1.SL (show x' < 5 by omega)).g0, bind_some', X_holds (c.1.SL (show x' < 5 by omega)).vw (by omega), bind_some', ifb0]
      cases hv : sVw (wL A.1 x') m' with
      | false => exact Ans.thw h eNS
      | true =>
        rw [if_pos rfl, if_pos rfl, C_needRoom h i.j]
        by_cases h12 : wC A.1 2 < 120
        · rw [if_pos h12, if_pos h12, tbL, h.r0, bind_some']
          exact Ans.trd (k := 1) (h.act (fun O sl c => by
            obtain ⟨t, e, c', F⟩ := C_takeOut c i2 x2 h12 m2
            exact ⟨t, sl, e, c', F, rfl⟩))
        · rw [if_neg h12, if_neg h12, tbR]
          exact Ans.thw h eIS
end PUC
