/-! ===== PURE 59: the class's publics: unlike, way ===== -/
section PUH
variable {σ t : Sto} {g : Nat} {A : Ga} {z : Nat} {Q : Nat → Prop}
def aWay (A : Ga) (x e k : Int32) : Ra := if inR x (wC A.1 0) = true then (if inR e (wC A.1 2) = true then (.inl (if sHs (wL A.1 (tN x)) (tN e) then atI (pth A.1 (tN e) (wC A.1 0) (tN x)) k else -1), A) else (.inr eIO, A)) else (.inr eIO, A)
theorem C_way (h : GA σ g A z Q) (i : Iv A.1) (hby : ∀ s, s < wC A.1 0 → ∀ e, sHs (wL A.1 s) e = true → sBy (wL A.1 s) e < wC A.1 0) (x e k : Int32) : Ans σ g z Q (F_X9_way σ g x e k) (aWay A x e k) := by
  have hn := i.j.n5
  have hc := i.j.c
  unfold F_X9_way aWay
  rw [chk_eq h.ok, C_needSite h hn, tbI]
  cases hx : inR x (wC A.1 0) with
  | false => exact Ans.thw h eIO
  | true =>
    obtain ⟨x1, x2⟩ := inR_tN (by omega) hx
    generalize tN x = x' at x1 x2
    subst x1
    rw [if_pos rfl, if_pos rfl, C_needEvent h i.j, tbI]
    cases hm : inR e (wC A.1 2) with
    | false => exact Ans.thw h eIO
    | true =>
      obtain ⟨m1, m2⟩ := inR_tN (by omega) hm
      generalize tN e = m' at m1 m2
      subst m1
      obtain ⟨O, sl, c, o1, o2⟩ := GT.cm h
      rw [if_pos rfl, if_pos rfl, h.r0, bind_some', C_wayOf c.1 i.j hby x2 m2 k, bind_some']
      exact Ans.rd h _
def aUnl (A : Ga) (x y : Int32) : Ra := if two A.1 x y = true then (.inl (nI (fb_ct (sVw (wL A.1 (tN x))) 128) - nI (fb_ct (fun e => sVw (wL A.1 (tN x)) e && sVw (wL A.1 (tN y)) e) 128)), A) else (.inr eIO, A)
theorem C_unlike (h : GA σ g A z Q) (i : Iv A.1) (x y : Int32) : Ans σ g z Q (F_X9_unlike σ g x y) (aUnl A x y) := by
  have hn := i.j.n5
  unfold F_X9_unlike aUnl
  rw [chk_eq h.ok, C_needTwo h hn, Bool.and_assoc, show (inR x (wC A.1 0) && (inR y (wC A.1 0) && !decide (x = y))) = two A.1 x y from rfl, tbI]
  cases hx : two A.1 x y with
  | false => exact Ans.thw h eIO
  | true =>
    obtain ⟨⟨x1, x2⟩, ⟨y1, y2⟩, hne⟩ := two_tN hn hx
    generalize tN x = x' at x1 x2 hne
    generalize tN y = y' at y1 y2 hne
    subst x1
    subst y1
    obtain ⟨O, sl, c, o1, o2⟩ := GT.cm h
    rw [if_pos rfl, if_pos rfl, h.r0, bind_some', c.1.r7, bind_some', c.1.lv (by omega), bind_some', (c.1.SL (show x' < 5 by omega)).g0, bind_some', X_size (c.1.SL (show x' < 5 by omega)).vw, bind_some', bind_some', c.1.r7, bind_some', c.1.lv (by omega), bind_some', (c.1.SL (show y' < 5 by omega)).g0, bind_some', X_shared (c.1.SL (show x' < 5 by omega)).vw (c.1.SL (show y' < 5 by omega)).vw, bind_some']
    exact Ans.rd h _
end PUH
