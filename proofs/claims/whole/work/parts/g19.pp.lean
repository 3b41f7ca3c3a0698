/-! ===== PURE 57: the class's publics: on paper ===== -/
section PUF
variable {σ t : Sto} {g : Nat} {A : Ga} {z : Nat} {Q : Nat → Prop}
def aGos (A : Ga) (k : Int32) : Ra := if inR k 4 = true then (.inl (gAns A.1 (wL A.1, 0, 0) (tN k)), A) else (.inr eIA, A)
theorem C_gossip (h : GA σ g A z Q) (i : Iv A.1) (hv : Ie (wC A.1 0) (wC A.1 2) (wE A.1)) (k : Int32) : Ans σ g z Q (F_X9_gossip σ g k) (aGos A k) := by
  unfold F_X9_gossip aGos
  rw [chk_eq h.ok, l_4, C_needWhat h k (m := 4) (by omega), tbI]
  cases hk : inR k 4 with
  | false => exact Ans.thw h eIA
  | true =>
    obtain ⟨k1, k2⟩ := inR_tN (by omega) hk
    generalize tN k = k' at k1 k2
    subst k1
    obtain ⟨O, sl, c, o1, o2⟩ := GT.cm h
    obtain ⟨p, ps, s⟩ := h.pb
    rw [if_pos rfl, if_pos rfl, h.r3, bind_some']
    exact Ans.pp h (C_playGossip c.1 p s (fun j hj => by have := o1 j hj; omega) i hv k2)
def aFlg (A : Ga) (x k : Int32) : Ra := if inR x (wC A.1 0) = true then (if inR k 4 = true then (.inl (nI (rkn (fal A.1 (tN x)) (tN x) (tN k))), A) else (.inr eIA, A)) else (.inr eIO, A)
theorem C_falling (h : GA σ g A z Q) (i : Iv A.1) (x k : Int32) : Ans σ g z Q (F_X9_falling σ g x k) (aFlg A x k) := by
  have hn := i.j.n5
  unfold F_X9_falling aFlg
  rw [chk_eq h.ok, C_needSite h hn, tbI]
  cases hx : inR x (wC A.1 0) with
  | false => exact Ans.thw h eIO
  | true =>
    obtain ⟨x1, x2⟩ := inR_tN (by omega) hx
    generalize tN x = x' at x1 x2
    subst x1
    rw [if_pos rfl, if_pos rfl, l_4, C_needWhat h k (m := 4) (by omega), tbI]
    cases hk : inR k 4 with
    | false => exact Ans.thw h eIA
    | true =>
      obtain ⟨k1, k2⟩ := inR_tN (by omega) hk
      generalize tN k = k' at k1 k2
      subst k1
      obtain ⟨O, sl, c, o1, o2⟩ := GT.cm h
      obtain ⟨p, ps, s⟩ := h.pb
      rw [if_pos rfl, if_pos rfl, h.r3, bind_some']
      exact Ans.pp h (C_ifFallen c p s (fun j hj => by have := o1 j hj; omega) i (by omega) k2)
def aJng (A : Ga) (x y k : Int32) : Ra := if two A.1 x y = true then (if inR k 4 = true then (.inl (nI (rkn (joi A.1 (tN x) (tN y)) (tN x) (tN k))), A) else (.inr eIA, A)) else (.inr eIO, A)
theorem C_joining (h : GA σ g A z Q) (i : Iv A.1) (x y k : Int32) : Ans σ g z Q (F_X9_joining σ g x y k) (aJng A x y k) := by
  have hn := i.j.n5
  unfold F_X9_joining aJng
  rw [chk_eq h.ok, C_needTwo h hn, Bool.and_assoc, show (inR x (wC A.1 0) && (inR y (wC A.1 0) && !decide (x = y))) = two A.1 x y from rfl, tbI]
  cases hx : two A.1 x y with
  | false => exact Ans.thw h eIO
  | true =>
    obtain ⟨⟨x1, x2⟩, ⟨y1, y2⟩, hne⟩ := two_tN hn hx
    generalize tN x = x' at x1 x2 hne
    generalize tN y = y' at y1 y2 hne
    subst x1
    subst y1
    rw [if_pos rfl, if_pos rfl, l_4, C_needWhat h k (m := 4) (by omega), tbI]
    cases hk : inR k 4 with
    | false => exact Ans.thw h eIA
    | true =>
      obtain ⟨k1, k2⟩ := inR_tN (by omega) hk
      generalize tN k = k' at k1 k2
      subst k1
      obtain ⟨O, sl, c, o1, o2⟩ := GT.cm h
      obtain ⟨p, ps, s⟩ := h.pb
      rw [if_pos rfl, if_pos rfl, h.r3, bind_some']
      exact Ans.pp h (C_ifJoined c p s (fun j hj => by have := o1 j hj; omega) i (by omega) (by omega) k2)
def aBst (A : Ga) (x : Int32) : Ra := if inR x (wC A.1 0) = true then (.inl (bjI (bj A.1 (tN x) (wC A.1 0))).1, A) else (.inr eIO, A)
theorem C_best (h : GA σ g A z Q) (i : Iv A.1) (x : Int32) : Ans σ g z Q (F_X9_best σ g x) (aBst A x) := by
  have hn := i.j.n5
  unfold F_X9_best aBst
  rw [chk_eq h.ok, C_needSite h hn, tbI]
  cases hx : inR x (wC A.1 0) with
  | false => exact Ans.thw h eIO
  | true =>
    obtain ⟨x1, x2⟩ := inR_tN (by omega) hx
    generalize tN x = x' at x1 x2
    subst x1
    obtain ⟨O, sl, c, o1, o2⟩ := GT.cm h
    obtain ⟨p, ps, s⟩ := h.pb
    rw [if_pos rfl, if_pos rfl, h.r3, bind_some']
    exact Ans.pp h (C_bestToJoin c p s (fun j hj => by have := o1 j hj; omega) i (by omega))
def aKnw (A : Ga) (x y e : Int32) : Ra := if inR x (wC A.1 0) = true then (if inR y (wC A.1 0) = true then (if inR e (wC A.1 2) = true then (.inl (nI (b2 (knw (wE A.1) (wL A.1 (tN x)) (tN y) (tN e)))), A) else (.inr eIO, A)) else (.inr eIO, A)) else (.inr eIO, A)
theorem C_knows (h : GA σ g A z Q) (i : Iv A.1) (x y e : Int32) : Ans σ g z Q (F_X9_knows σ g x y e) (aKnw A x y e) := by
  have hn := i.j.n5
  have hc := i.j.c
  unfold F_X9_knows aKnw
  rw [chk_eq h.ok, C_needSite h hn, tbI]
  cases hx : inR x (wC A.1 0) with
  | false => exact Ans.thw h eIO
  | true =>
    obtain ⟨x1, x2⟩ := inR_tN (by omega) hx
    generalize tN x = x' at x1 x2
    subst x1
    rw [if_pos rfl, if_pos rfl, C_needSite h hn, tbI]
    cases hy : inR y (wC A.1 0) with
    | false => exact Ans.thw h eIO
    | true =>
      obtain ⟨y1, y2⟩ := inR_tN (by omega) hy
      generalize tN y = y' at y1 y2
      subst y1
      rw [if_pos rfl, if_pos rfl, C_needEvent h i.j, tbI]
      cases hm : inR e (wC A.1 2) with
      | false => exact Ans.thw h eIO
      | true =>
        obtain ⟨m1, m2⟩ := inR_tN (by omega) hm
        generalize tN e = m' at m1 m2
        subst m1
        obtain ⟨O, sl, c, o1, o2⟩ := GT.cm h
        rw [if_pos rfl, if_pos rfl, h.r0, bind_some', c.1.r7, bind_some', c.1.lv (by omega), bind_some', bind_some', c.1.r6, bind_some', C_isKnown (c.1.SL (show x' < 5 by omega)) c.1.ev i.j.bv (fun j hj => (i.j.L (show x' < 5 by omega)).tb hj) (by omega) m2, bind_some', ifbl]
        exact Ans.rd h _
end PUF
