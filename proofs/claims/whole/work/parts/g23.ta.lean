/-! ===== PURE 61: the class's publics: table, would ===== -/
section PUJ
variable {σ t : Sto} {g : Nat} {A : Ga} {z : Nat} {Q : Nat → Prop}
def aTab (A : Ga) (x y e : Int32) : Ra := if inR x (wC A.1 0) = true then (if inR y (wC A.1 0) = true then (if inR e (wC A.1 0) = true then (.inl (nI (sTb (wL A.1 (tN x)) (5 * tN y + tN e))), A) else (.inr eIO, A)) else (.inr eIO, A)) else (.inr eIO, A)
theorem C_table (h : GA σ g A z Q) (i : Iv A.1) (x y e : Int32) : Ans σ g z Q (F_X9_table σ g x y e) (aTab A x y e) := by
  have hn := i.j.n5
  unfold F_X9_table aTab
  rw [chk_eq h.ok, C_needSite h hn, tbI]
  cases hx : inR x (wC A.1 0) with
  | false => exact Ans.thw h eIO
  | true =>
    obtain ⟨x1, x2⟩ := inR_tN (by omega) hx
    generalize tN x = x' at x1 x2
    subst x1
    rw [if_pos rfl, if_pos rfl, C_needSite h hn, tbI]
    cases hy : inR y (wC A.1 0) with
    | false => exact Ans.thw h eIO
    | true =>
      obtain ⟨y1, y2⟩ := inR_tN (by omega) hy
      generalize tN y = y' at y1 y2
      subst y1
      rw [if_pos rfl, if_pos rfl, C_needSite h hn, tbI]
      cases hm : inR e (wC A.1 0) with
      | false => exact Ans.thw h eIO
      | true =>
        obtain ⟨m1, m2⟩ := inR_tN (by omega) hm
        generalize tN e = m' at m1 m2
        subst m1
        obtain ⟨O, sl, c, o1, o2⟩ := GT.cm h
        have hS := c.1.SL (show x' < 5 by omega)
        rw [if_pos rfl, if_pos rfl, h.r0, bind_some', c.1.r7, bind_some', c.1.lv (by omega), bind_some', hS.g4, bind_some', C_cell, bind_some', hS.rt (by omega), bind_some']
        exact Ans.rd h _
end PUJ
