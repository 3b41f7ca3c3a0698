/-! ===== PURE 64: the class's publics: wide, slowest, between, sure, trace, named ===== -/
theorem nI_add1 (n : Nat) : nI n + (1 : Int32) = nI (n + 1) := by rw [l_1, nI_add]
section PUM
variable {σ t : Sto} {g : Nat} {A : Ga} {z : Nat} {Q : Nat → Prop}
def aWid (A : Ga) (k : Int32) : Ra := if inR k 3 = true then (.inl (if tN k = 0 then nI (sm (fun e => e - fb_ct (eA (wE A.1) e) e) (wC A.1 2)) else if tN k = 2 then oI (hiE (hgt (eA (wE A.1))) (wC A.1 2)) else match hiE (hgt (eA (wE A.1))) (wC A.1 2) with
  | none => 0
  | some e => nI (hgt (eA (wE A.1)) e)), A) else (.inr eIA, A)
theorem C_wide (h : GA σ g A z Q) (i : Iv A.1) (k : Int32) : Ans σ g z Q (F_X9_wide σ g k) (aWid A k) := by
  have hc := i.j.c
  unfold F_X9_wide aWid
  rw [chk_eq h.ok, show (3 : Int32) = nI 3 from rfl, C_needWhat h k (m := 3) (by omega), tbI]
  cases hk : inR k 3 with
  | false => exact Ans.thw h eIA
  | true =>
    obtain ⟨k1, k2⟩ := inR_tN (by omega) hk
    generalize tN k = k' at k1 k2
    subst k1
    obtain ⟨O, sl, c, o1, o2⟩ := h.cw
    have b := i.j.bv
    rw [if_pos rfl, if_pos rfl, h.r0, bind_some', c.1.r6, bind_some', C_concurrentCouples c.1.ev b i.eAl, bind_some', bind_some', c.1.r6, bind_some', C_highest c.1.ev b, bind_some']
    rcases (show k' = 0 ∨ k' = 2 ∨ k' = 1 by omega) with rfl | rfl | rfl
    · rw [if_pos nI_0, if_pos rfl]; exact Ans.rd h _
    · rw [if_neg (show ¬ nI 2 = (0 : Int32) by decide), if_pos (show nI 2 = (2 : Int32) from rfl)]; exact Ans.rd h _
    · rw [if_neg (show ¬ nI 1 = (0 : Int32) by decide), if_neg (show ¬ nI 1 = (2 : Int32) by decide), if_neg (show ¬ 1 = 0 by decide), if_neg (show ¬ 1 = 2 by decide)]
      cases hh : hiE (hgt (eA (wE A.1))) (wC A.1 2) with
      | none => exact Ans.rd h _
      | some e =>
        have he := hiE_lt hh
        rw [show oI (some e) = nI e from rfl, if_neg (oI_n1 (by omega)), bind_some', c.1.r6, bind_some', c.1.ev.g7, bind_some', c.1.ev.rH b he, bind_some']
        exact Ans.rd h _
/-- the slowest that has come to all -/
def slw (w : Wd) : Option Nat := slE (fun e => al (fun s => sHs (wL w s) e) (wC w 0)) (fun e => mxW w e (eP (wE w) e) (wC w 0) - eP (wE w) e) (wC w 2)
def aSlo (A : Ga) (k : Int32) : Ra := if inR k 2 = true then (.inl (match slw A.1 with
  | none => -1
  | some e => if tN k = 1 then nI e else nI (mxW A.1 e (eP (wE A.1) e) (wC A.1 0) - eP (wE A.1) e)), A) else (.inr eIA, A)
theorem C_slow (h : GA σ g A z Q) (i : Iv A.1) (h6 : wC A.1 6 < 2 ^ 31) (k : Int32) : Ans σ g z Q (F_X9_slowest σ g k) (aSlo A k) := by
  have hc := i.j.c
  have hn := i.j.n5
  unfold F_X9_slowest aSlo
  rw [chk_eq h.ok, show (2 : Int32) = nI 2 from rfl, C_needWhat h k (m := 2) (by omega), tbI]
  cases hk : inR k 2 with
  | false => exact Ans.thw h eIA
  | true =>
    obtain ⟨k1, k2⟩ := inR_tN (by omega) hk
    generalize tN k = k' at k1 k2
    subst k1
    obtain ⟨O, sl, c, o1, o2⟩ := h.cw
    have hp : ∀ e, e < wC A.1 2 → eP (wE A.1) e < 2 ^ 31 := fun e he => by have := i.ePl e he; omega
    have hw : ∀ e, e < wC A.1 2 → ∀ s, s < wC A.1 0 → sHs (wL A.1 s) e = true → sWh (wL A.1 s) e < 2 ^ 31 := fun e he s hs hh => by have := i.wh (show s < 5 by omega) hh; omega
    have hsl : F_X8_slowestEvent σ (g + 1) = some (oI (slw A.1)) := C_slowest c.1 i.j hw hp
    rw [if_pos rfl, if_pos rfl, h.r0, bind_some', hsl, bind_some']
    cases hh : slw A.1 with
    | none => exact Ans.rd h _
    | some e =>
      obtain ⟨he, ha⟩ := slE_lt hh
      have ha' := al_iff.mp ha
      rw [show oI (some e) = nI e from rfl, if_neg (oI_n1 (by omega))]
      dsimp only
      rcases (show k' = 1 ∨ k' = 0 by omega) with rfl | rfl
      · rw [if_pos (show nI 1 = (1 : Int32) from rfl)]; exact Ans.rd h _
      · rw [if_neg (show ¬ nI 0 = (1 : Int32) by decide), bind_some', C_stepsToAll c.1 i.j he (fun s hs => ⟨ha' s hs, hw e he s hs (ha' s hs)⟩) (hp e he), bind_some']
        exact Ans.rd h _
def aBet (A : Ga) (x y : Int32) : Ra := if inR x (wC A.1 2) = true then (if inR y (wC A.1 2) = true then (.inl (nI (fb_ct (fun e => eA (wE A.1) e (tN x) && eA (wE A.1) (tN y) e) (wC A.1 2))), A) else (.inr eIO, A)) else (.inr eIO, A)
theorem C_between (h : GA σ g A z Q) (i : Iv A.1) (x y : Int32) : Ans σ g z Q (F_X9_between σ g x y) (aBet A x y) := by
  have hc := i.j.c
  unfold F_X9_between aBet
  rw [chk_eq h.ok, C_needEvent h i.j, tbI]
  cases hx : inR x (wC A.1 2) with
  | false => exact Ans.thw h eIO
  | true =>
    obtain ⟨x1, x2⟩ := inR_tN (by omega) hx
    generalize tN x = x' at x1 x2
    subst x1
    rw [if_pos rfl, if_pos rfl, C_needEvent h i.j, tbI]
    cases hm : inR y (wC A.1 2) with
    | false => exact Ans.thw h eIO
    | true =>
      obtain ⟨m1, m2⟩ := inR_tN (by omega) hm
      generalize tN y = y' at m1 m2
      subst m1
      obtain ⟨O, sl, c, o1, o2⟩ := h.cw
      have b := i.j.bv
      rw [if_pos rfl, if_pos rfl]
      have hL : F_X9_between_L15 σ g (nI x') (nI y') fu 0 0 (fun x12 => some (.inl x12, σ)) = some (.inl (nI (fb_ct (fun e => eA (wE A.1) e x' && eA (wE A.1) y' e) (wC A.1 2))), σ) := by
        refine lup (fun f j => F_X9_between_L15 σ g (nI x') (nI y') f (nI (fb_ct (fun e => eA (wE A.1) e x' && eA (wE A.1) y' e) j)) (nI j) (fun x12 => some (.inl x12, σ))) (wC A.1 2) _ ?_ ?_ fu (by unfold fu; omega)
        · intro j f hj
          rw [F_X9_between_L15, h.r0, bind_some', c.1.r6, bind_some', c.1.ev.g0, bind_some', if_neg (by rw [nI_leI (by omega) (by omega)]; omega), bind_some', bind_some', c.1.r6, bind_some', C_isAhead c.1.ev b hj (by omega), bind_some', ifb0, bind_some', C_isAhead c.1.ev b m2 (by omega), bind_some', ifb0, nI_add1, nI_add1, fb_ct_succ]
          cases eA (wE A.1) j x' with
          | false => rfl
          | true =>
            cases eA (wE A.1) y' j with
            | false => rfl
            | true => rfl
        · intro f
          rw [F_X9_between_L15, h.r0, bind_some', c.1.r6, bind_some', c.1.ev.g0, bind_some', if_pos (Int32.le_refl _)]
      exact (congrArg (fun f => Ans σ g z Q f _) hL).mpr (Ans.rd h _)
def aSur (A : Ga) (x k : Int32) : Ra := if inR x (wC A.1 0) = true then (if inR k (wC A.1 0 + 1) = true then (.inl (nI (fb_ct (fun e => sHs (wL A.1 (tN x)) e && !decide (fb_ct (fun o => knw (wE A.1) (wL A.1 (tN x)) o e) (wC A.1 0) < tN k)) (wC A.1 2))), A) else (.inr eIA, A)) else (.inr eIO, A)
theorem C_sure (h : GA σ g A z Q) (i : Iv A.1) (x k : Int32) : Ans σ g z Q (F_X9_sure σ g x k) (aSur A x k) := by
  have hn := i.j.n5
  have hc := i.j.c
  unfold F_X9_sure aSur
  rw [chk_eq h.ok, C_needSite h hn, tbI]
  cases hx : inR x (wC A.1 0) with
  | false => exact Ans.thw h eIO
  | true =>
    obtain ⟨x1, x2⟩ := inR_tN (by omega) hx
    generalize tN x = x' at x1 x2
    subst x1
    have key : ∀ (B C : Option ((Int32 ⊕ String) × Sto)), (if k < 0 then B else if k ≤ nI (wC A.1 0) then C else B) = if inR k (wC A.1 0 + 1) = true then C else B := by
      intro B C
      rw [← inR_if]
      have hle : k ≤ nI (wC A.1 0) ↔ k < nI (wC A.1 0 + 1) := by
        rw [ltn_i' k (by omega), Int32.le_iff_toInt_le, nI_toInt (by omega)]
        omega
      by_cases h0 : k < 0
      · rw [if_pos h0, if_pos h0]
      · rw [if_neg h0, if_neg h0]
        by_cases h1 : k < nI (wC A.1 0 + 1)
        · rw [if_pos h1, if_pos (hle.mpr h1)]
        · rw [if_neg h1, if_neg (fun y => h1 (hle.mp y))]
    obtain ⟨O, sl, c, o1, o2⟩ := h.cw
    have b := i.j.bv
    have hS := c.1.SL (show x' < 5 by omega)
    rw [if_pos rfl, if_pos rfl, h.r0, bind_some', c.1.i0, bind_some', key]
    cases hk : inR k (wC A.1 0 + 1) with
    | false => exact Ans.thw h eIA
    | true =>
      obtain ⟨k1, k2⟩ := inR_tN (by omega) hk
      generalize tN k = k' at k1 k2
      subst k1
      rw [if_pos rfl, if_pos rfl]
      have hL : F_X9_sure_L36 σ g (nI x') (nI k') fu 0 0 (fun x12 => some (.inl x12, σ)) = some (.inl (nI (fb_ct (fun e => sHs (wL A.1 x') e && !decide (fb_ct (fun o => knw (wE A.1) (wL A.1 x') o e) (wC A.1 0) < k')) (wC A.1 2))), σ) := by
        refine lup (fun f j => F_X9_sure_L36 σ g (nI x') (nI k') f (nI (fb_ct (fun e => sHs (wL A.1 x') e && !decide (fb_ct (fun o => knw (wE A.1) (wL A.1 x') o e) (wC A.1 0) < k')) j)) (nI j) (fun x12 => some (.inl x12, σ))) (wC A.1 2) _ ?_ ?_ fu (by unfold fu; omega)
        · intro j f hj
          have hct := fb_ct_le (fun o => knw (wE A.1) (wL A.1 x') o j) (wC A.1 0)
          rw [F_X9_sure_L36, h.r0, bind_some', c.1.r6, bind_some', c.1.ev.g0, bind_some', if_neg (by rw [nI_leI (by omega) (by omega)]; omega), bind_some', c.1.r7, bind_some', c.1.lv (by omega), bind_some', hS.g1, bind_some', X_holds hS.hs (by omega), bind_some', ifb0, bind_some', c.1.r7, bind_some', c.1.lv (by omega), bind_some', bind_some', c.1.r6, bind_some', bind_some', c.1.i0, bind_some', C_sitesThatKnow hS c.1.ev b (fun q hq => (i.j.L (show x' < 5 by omega)).tb hq) hn hj, bind_some', nI_add1, nI_add1, fb_ct_succ]
          cases sHs (wL A.1 x') j with
          | false => rfl
          | true =>
            rw [if_pos rfl]
            by_cases hlt : fb_ct (fun o => knw (wE A.1) (wL A.1 x') o j) (wC A.1 0) < k'
            · rw [if_pos (by rw [nI_ltI (by omega) (by omega)]; exact hlt), decide_eq_true hlt]; rfl
            · rw [if_neg (by rw [nI_ltI (by omega) (by omega)]; exact hlt), decide_eq_false hlt]; rfl
        · intro f
          rw [F_X9_sure_L36, h.r0, bind_some', c.1.r6, bind_some', c.1.ev.g0, bind_some', if_pos (Int32.le_refl _)]
      exact (congrArg (fun f => Ans σ g z Q f _) hL).mpr (Ans.rd h _)
def aTra (A : Ga) (k q : Int32) : Ra := if inR k (min 32 A.2.2.1.length) = true then (if inR q 4 = true then (.inl (nI (trA (A.2.2.1.getD (tN k) (0, 0, 0, 0)) (tN q))), A) else (.inr eIA, A)) else (.inr eNS, A)
theorem C_trace (h : GA σ g A z Q) (k q : Int32) : Ans σ g z Q (F_X9_trace σ g k q) (aTra A k q) := by
  have hT : CT σ (g + 256) A.2.2.1 := by
    obtain ⟨O, sl, bi, Oi, sli, h1, h2, h3, h4, -⟩ := h
    exact h4
  unfold F_X9_trace aTra
  rw [chk_eq h.ok, h.r2, bind_some', hT.g0, bind_some']
  refine (congrArg (fun f => Ans σ g z Q f _) (inR_if _ k _ _)).mpr ?_
  cases hk : inR k (min 32 A.2.2.1.length) with
  | false => exact Ans.thw h eNS
  | true =>
    obtain ⟨k1, k2⟩ := inR_tN (by omega) hk
    generalize tN k = k' at k1 k2
    subst k1
    rw [if_pos rfl, if_pos rfl, l_4, C_needWhat h q (m := 4) (by omega), tbI]
    cases hq : inR q 4 with
    | false => exact Ans.thw h eIA
    | true =>
      obtain ⟨q1, q2⟩ := inR_tN (by omega) hq
      generalize tN q = q' at q1 q2
      subst q1
      have hk3 : k' < A.2.2.1.length := by omega
      rw [if_pos rfl, if_pos rfl, h.r2, bind_some', C_told hT (by omega) (List.getElem?_eq_getElem hk3) q2, bind_some', List.getD_eq_getElem?_getD, List.getElem?_eq_getElem hk3]
      exact Ans.rd h _
end PUM
