/-! ===== PURE 58: the class's publics: front, only, part ===== -/
section PUG
variable {σ t : Sto} {g : Nat} {A : Ga} {z : Nat} {Q : Nat → Prop}
def frt (w : Wd) (x : Nat) : Nat → Bool := fun e => sHs (wL w x) e && !ex (fun f => sHs (wL w x) f && eA (wE w) f e) (wC w 2)
def aFro (A : Ga) (x k : Int32) : Ra := if inR x (wC A.1 0) = true then (.inl (if k = -1 then nI (fb_ct (frt A.1 (tN x)) 128) else oI (kthI (frt A.1 (tN x)) 120 k)), A) else (.inr eIO, A)
theorem C_front (h : GA σ g A z Q) (i : Iv A.1) (x k : Int32) : Ans σ g z Q (F_X9_front σ g x k) (aFro A x k) := by
  have hn := i.j.n5
  unfold F_X9_front aFro
  rw [chk_eq h.ok, C_needSite h hn, tbI]
  cases hx : inR x (wC A.1 0) with
  | false => exact Ans.thw h eIO
  | true =>
    obtain ⟨x1, x2⟩ := inR_tN (by omega) hx
    generalize tN x = x' at x1 x2
    subst x1
    obtain ⟨O, sl, c, o1, o2⟩ := GT.cm h
    obtain ⟨p, ps, s⟩ := h.pb
    obtain ⟨t1, e1, p1, F1, s1⟩ := C_frontOf c.1 p i.j (fun j hj => by have := o1 j hj; omega) (x := x') (by omega)
    obtain ⟨h2, G2⟩ := GT.pap h p1 (fun q hq => (s q hq).cg (fun j a b => F1.at (by omega))) (F1.mo (by omega) (by omega))
    have s1' : ES t1 (g + 261 + 6) (frt A.1 x') := s1
    rw [if_pos rfl, if_pos rfl, h.r3, bind_some', e1, wbs, X_size s1', bind_some', X_nth s1', bind_some']
    by_cases hk : k = -1
    · rw [if_pos hk, if_pos hk]
      exact ⟨t1, z, Q, rfl, h2, G2.mo (by omega) (by omega)⟩
    · rw [if_neg hk, if_neg hk]
      exact ⟨t1, z, Q, rfl, h2, G2.mo (by omega) (by omega)⟩
def aOnl (A : Ga) (x y k : Int32) : Ra := if two A.1 x y = true then (.inl (oI (kthI (fun e => sVw (wL A.1 (tN x)) e && !sVw (wL A.1 (tN y)) e) 120 k)), A) else (.inr eIO, A)
theorem C_only (h : GA σ g A z Q) (i : Iv A.1) (x y k : Int32) : Ans σ g z Q (F_X9_only σ g x y k) (aOnl A x y k) := by
  have hn := i.j.n5
  unfold F_X9_only aOnl
  rw [chk_eq h.ok, C_needTwo h hn, Bool.and_assoc, show (inR x (wC A.1 0) && (inR y (wC A.1 0) && !decide (x = y))) = two A.1 x y from rfl, tbI]
  cases hx : two A.1 x y with
  | false => exact Ans.thw h eIO
  | true =>
    obtain ⟨⟨x1, x2⟩, ⟨y1, y2⟩, hne⟩ := two_tN hn hx
    generalize tN x = x' at x1 x2 hne
    generalize tN y = y' at y1 y2 hne
    subst x1
    subst y1
    obtain ⟨O, sl, c, o1, o2⟩ := GT.cm h
    obtain ⟨p, ps, s⟩ := h.pb
    obtain ⟨t1, e1, p1, F1, s1⟩ := C_onlyAt c.1 p (fun j hj => by have := o1 j hj; omega) (x := x') (y := y') (by omega) (by omega)
    obtain ⟨h2, G2⟩ := GT.pap h p1 (fun q hq => (s q hq).cg (fun j a b => F1.at (by omega))) (F1.mo (by omega) (by omega))
    rw [if_pos rfl, if_pos rfl, h.r3, bind_some', e1, wbs, X_nth s1, bind_some']
    exact ⟨t1, z, Q, rfl, h2, G2.mo (by omega) (by omega)⟩
def aPar (A : Ga) (x : Int32) : Ra := if x = -1 then (.inl (nI (fb_ct (fun s => decide (part A.1 (wC A.1 0) s &&& (2 ^ s - 1) = 0)) (wC A.1 0))), A) else if inR x (wC A.1 0) = true then (.inl (nI (part A.1 (wC A.1 0) (tN x))), A) else (.inr eIO, A)
theorem C_part (h : GA σ g A z Q) (i : Iv A.1) (x : Int32) : Ans σ g z Q (F_X9_part σ g x) (aPar A x) := by
  have hn := i.j.n5
  obtain ⟨O, sl, c, o1, o2⟩ := GT.cm h
  unfold F_X9_part aPar
  rw [chk_eq h.ok]
  by_cases hm : x = -1
  · rw [if_pos hm, if_pos hm, h.r0, bind_some', C_parts c.1 hn, bind_some']
    exact Ans.rd h _
  · rw [if_neg hm, if_neg hm, C_needSite h hn, tbI]
    cases hx : inR x (wC A.1 0) with
    | false => exact Ans.thw h eIO
    | true =>
      obtain ⟨x1, x2⟩ := inR_tN (by omega) hx
      generalize tN x = x' at x1 x2
      subst x1
      rw [if_pos rfl, if_pos rfl, h.r0, bind_some', C_partOf c.1 hn (by omega), bind_some']
      exact Ans.rd h _
end PUG
