/-! ===== PURE 60: the class's publics: log, came, table, would ===== -/
section PUI
variable {σ t : Sto} {g : Nat} {A : Ga} {z : Nat} {Q : Nat → Prop}
def aLog (A : Ga) (x k : Int32) : Ra := if inR x (wC A.1 0) = true then (if inR k (sLg (wL A.1 (tN x))).length = true then (.inl (nI ((sLg (wL A.1 (tN x))).getD (tN k) 0)), A) else (.inr eNS, A)) else (.inr eIO, A)
theorem C_log (h : GA σ g A z Q) (i : Iv A.1) (x k : Int32) : Ans σ g z Q (F_X9_log σ g x k) (aLog A x k) := by
  have hn := i.j.n5
  unfold F_X9_log aLog
  rw [chk_eq h.ok, C_needSite h hn, tbI]
  cases hx : inR x (wC A.1 0) with
  | false => exact Ans.thw h eIO
  | true =>
    obtain ⟨x1, x2⟩ := inR_tN (by omega) hx
    generalize tN x = x' at x1 x2
    subst x1
    obtain ⟨O, sl, c, o1, o2⟩ := GT.cm h
    have hS := c.1.SL (show x' < 5 by omega)
    have hlg := (i.j.L (show x' < 5 by omega)).lg
    rw [if_pos rfl, if_pos rfl, h.r0, bind_some', c.1.r7, bind_some', c.1.lv (by omega), bind_some', hS.g3, bind_some']
    refine (congrArg (fun f => Ans σ g z Q f _) (inR_if _ k _ _)).mpr ?_
    cases hk : inR k (sLg (wL A.1 x')).length with
    | false => exact Ans.thw h eNS
    | true =>
      obtain ⟨k1, k2⟩ := inR_tN (by omega) hk
      generalize tN k = k' at k1 k2
      subst k1
      rw [if_pos rfl, if_pos rfl, bind_some', c.1.r7, bind_some', c.1.lv (by omega), bind_some', hS.g2, bind_some', hS.rl k2, bind_some', List.getD_eq_getElem?_getD, List.getElem?_eq_getElem k2]
      exact Ans.rd h _
def aCam (A : Ga) (x e k : Int32) : Ra := if inR x (wC A.1 0) = true then (if inR e (wC A.1 2) = true then (if inR k 2 = true then (.inl (if sHs (wL A.1 (tN x)) (tN e) = true then (if tN k = 0 then nI (sWh (wL A.1 (tN x)) (tN e)) else nI (sBy (wL A.1 (tN x)) (tN e))) else -1), A) else (.inr eIA, A)) else (.inr eIO, A)) else (.inr eIO, A)
theorem C_came (h : GA σ g A z Q) (i : Iv A.1) (x e k : Int32) : Ans σ g z Q (F_X9_came σ g x e k) (aCam A x e k) := by
  have hn := i.j.n5
  have hc := i.j.c
  unfold F_X9_came aCam
  rw [chk_eq h.ok, C_needSite h hn, tbI]
  cases hx : inR x (wC A.1 0) with
  | false => exact Ans.thw h eIO
  | true =>
    obtain ⟨x1, x2⟩ := inR_tN (by omega) hx
    generalize tN x = x' at x1 x2
    subst x1
    rw [if_pos rfl, if_pos rfl, C_needEvent h i.j, tbI]
    cases hm : inR e (wC A.1 2) with
    | false => exact Ans.thw h eIO
    | true =>
      obtain ⟨m1, m2⟩ := inR_tN (by omega) hm
      generalize tN e = m' at m1 m2
      subst m1
      rw [if_pos rfl, if_pos rfl, show (2 : Int32) = nI 2 from rfl, C_needWhat h k (m := 2) (by omega), tbI]
      cases hk : inR k 2 with
      | false => exact Ans.thw h eIA
      | true =>
        obtain ⟨k1, k2⟩ := inR_tN (by omega) hk
        generalize tN k = k' at k1 k2
        subst k1
        obtain ⟨O, sl, c, o1, o2⟩ := GT.cm h
        have hS := c.1.SL (show x' < 5 by omega)
        rw [if_pos rfl, if_pos rfl, h.r0, bind_some', c.1.r7, bind_some', c.1.lv (by omega), bind_some', hS.g1, bind_some', X_holds hS.hs (by omega), bind_some', ifb0]
        cases hh : sHs (wL A.1 x') m' with
        | false => exact Ans.rd h _
        | true =>
          rw [if_pos rfl, if_pos rfl, hS.g5, bind_some', hS.rw (by omega) hh, bind_some', hS.g6, bind_some', hS.rb (by omega) hh, bind_some', l_0, ifE (by omega) (by omega)]
          by_cases h0 : k' = 0
          · rw [if_pos h0, if_pos h0]; exact Ans.rd h _
          · rw [if_neg h0, if_neg h0]; exact Ans.rd h _
end PUI
