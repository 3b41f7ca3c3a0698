/-! ===== PURE 56: the class's publics: plain readers ===== -/
section PUE
variable {σ t : Sto} {g : Nat} {A : Ga} {z : Nat} {Q : Nat → Prop}
theorem Ans.rd (h : GA σ g A z Q) (v : Int32) : Ans σ g z Q (some (.inl v, σ)) (.inl v, A) := ⟨σ, z, Q, rfl, h, Gz.rf.mo (by omega) (by omega)⟩
theorem ifbl {α : Type} (b : Bool) (x y : α) : (if nI (b2 b) = 0 ∨ nI (b2 b) = 1 then x else y) = x := by
  cases b
  · exact if_pos (Or.inl nI_0)
  · exact if_pos (Or.inr rfl)
def aWai (A : Ga) (x y : Int32) : Ra := if two A.1 x y = true then (.inl (nI (wT A.1 (5 * tN x + tN y)).length), A) else (.inr eIO, A)
theorem C_waiting (h : GA σ g A z Q) (i : Iv A.1) (x y : Int32) : Ans σ g z Q (F_X9_waiting σ g x y) (aWai A x y) := by
  have hn := i.j.n5
  unfold F_X9_waiting aWai
  rw [chk_eq h.ok, C_needTwo h hn, Bool.and_assoc, show (inR x (wC A.1 0) && (inR y (wC A.1 0) && !decide (x = y))) = two A.1 x y from rfl, tbI]
  cases hx : two A.1 x y with
  | false => exact Ans.thw h eIO
  | true =>
    obtain ⟨⟨x1, x2⟩, ⟨y1, y2⟩, hne⟩ := two_tN hn hx
    generalize tN x = x' at x1 x2 hne
    generalize tN y = y' at y1 y2 hne
    subst x1
    subst y1
    obtain ⟨O, sl, c, o1, o2⟩ := GT.cm h
    have hrow : gI σ (g + 1 + 204 + 2 * (5 * x' + y')) 4 0 = some (nI (wT A.1 (5 * x' + y')).length) := gI_cel (c.1.2.2.2.2.2.2.2.1 (5 * x' + y') (by omega)).1 rfl
    rw [if_pos rfl, if_pos rfl, h.r0, bind_some', C_row c.1 (by omega) (by omega), bind_some', hrow, bind_some']
    exact Ans.rd h _
def aHas (A : Ga) (x e : Int32) : Ra := if inR x (wC A.1 0) = true then (if inR e (wC A.1 2) = true then (.inl (nI (b2 (sHs (wL A.1 (tN x)) (tN e)))), A) else (.inr eIO, A)) else (.inr eIO, A)
theorem C_has (h : GA σ g A z Q) (i : Iv A.1) (x e : Int32) : Ans σ g z Q (F_X9_has σ g x e) (aHas A x e) := by
  have hn := i.j.n5
  have hc := i.j.c
  unfold F_X9_has aHas
  rw [chk_eq h.ok, C_needSite h hn, tbI]
  cases hx : inR x (wC A.1 0) with
  | false => exact Ans.thw h eIO
  | true =>
    obtain ⟨x1, x2⟩ := inR_tN (by omega) hx
    generalize tN x = x' at x1 x2
    subst x1
    rw [if_pos rfl, if_pos rfl, C_needEvent h i.j, tbI]
    cases hm : inR e (wC A.1 2) with
    | false => exact Ans.thw h eIO
    | true =>
      obtain ⟨m1, m2⟩ := inR_tN (by omega) hm
      generalize tN e = m' at m1 m2
      subst m1
      obtain ⟨O, sl, c, o1, o2⟩ := GT.cm h
      rw [if_pos rfl, if_pos rfl, h.r0, bind_some', c.1.r7, bind_some', c.1.lv (by omega), bind_some', (c.1.SL (show x' < 5 by omega)).g1, bind_some', X_holds (c.1.SL (show x' < 5 by omega)).hs (by omega), bind_some', ifbl]
      exact Ans.rd h _
def aAhd (A : Ga) (x e : Int32) : Ra := if inR x (wC A.1 2) = true then (if inR e (wC A.1 2) = true then (.inl (nI (b2 (eA (wE A.1) (tN e) (tN x)))), A) else (.inr eIO, A)) else (.inr eIO, A)
theorem C_ahead (h : GA σ g A z Q) (i : Iv A.1) (x e : Int32) : Ans σ g z Q (F_X9_ahead σ g x e) (aAhd A x e) := by
  have hc := i.j.c
  unfold F_X9_ahead aAhd
  rw [chk_eq h.ok, C_needEvent h i.j, tbI]
  cases hx : inR x (wC A.1 2) with
  | false => exact Ans.thw h eIO
  | true =>
    obtain ⟨x1, x2⟩ := inR_tN (by omega) hx
    generalize tN x = x' at x1 x2
    subst x1
    rw [if_pos rfl, if_pos rfl, C_needEvent h i.j, tbI]
    cases hm : inR e (wC A.1 2) with
    | false => exact Ans.thw h eIO
    | true =>
      obtain ⟨m1, m2⟩ := inR_tN (by omega) hm
      generalize tN e = m' at m1 m2
      subst m1
      obtain ⟨O, sl, c, o1, o2⟩ := GT.cm h
      rw [if_pos rfl, if_pos rfl, h.r0, bind_some', c.1.r6, bind_some', C_isAhead c.1.ev i.j.bv m2 (by omega), bind_some', ifbl]
      exact Ans.rd h _
def aChn (A : Ga) (x k : Int32) : Ra := if inR x (wC A.1 2) = true then (.inl (oI (lrA (eA (wE A.1)) (tN x) k)), A) else (.inr eIO, A)
/-- where a paper's call writes on the paper alone -/
theorem Ans.pp {X : Option (Int32 × Sto)} {v : Int32} (h : GA σ g A z Q) (hX : ∃ t ps, X = some (v, t) ∧ PB t (g + 261) (g + 1) ∧ PS t (g + 261) ps ∧ Fr (g + 261 + 2) 42 σ t) : Ans σ g z Q (wb X fun x4 s3 => some (.inl x4, s3)) (.inl v, A) := by
  obtain ⟨t1, ps, e1, p1, s1, F1⟩ := hX
  obtain ⟨h2, G2⟩ := GT.pap h p1 s1 F1
  refine ⟨t1, z, Q, ?_, h2, G2.mo (by omega) (by omega)⟩
  rw [e1, wbs]
theorem GA.pb (h : GA σ g A z Q) : PB σ (g + 261) (g + 1) ∧ ∃ ps, PS σ (g + 261) ps := by
  obtain ⟨O, sl, bi, Oi, sli, h1, h2, h3, h4, h5, -⟩ := h
  exact h5
theorem C_chain (h : GA σ g A z Q) (i : Iv A.1) (x k : Int32) : Ans σ g z Q (F_X9_chain σ g x k) (aChn A x k) := by
  have hc := i.j.c
  unfold F_X9_chain aChn
  rw [chk_eq h.ok, C_needEvent h i.j, tbI]
  cases hx : inR x (wC A.1 2) with
  | false => exact Ans.thw h eIO
  | true =>
    obtain ⟨x1, x2⟩ := inR_tN (by omega) hx
    generalize tN x = x' at x1 x2
    subst x1
    obtain ⟨O, sl, c, o1, o2⟩ := GT.cm h
    obtain ⟨p, ps, s⟩ := h.pb
    obtain ⟨t, e1, p1, F1⟩ := C_inLongestRow c.1 p i.j (fun j hj => by have := o1 j hj; omega) x2 k
    rw [if_pos rfl, if_pos rfl, h.r3, bind_some']
    exact Ans.pp h ⟨t, ps, e1, p1, fun q hq => (s q hq).cg (fun j a b => F1.at (by omega)), F1.mo (by omega) (by omega)⟩
end PUE
