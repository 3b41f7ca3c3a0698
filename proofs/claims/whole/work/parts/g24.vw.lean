/-! ===== PURE 62: the class's publics: letter, inLetter, view, site, would, event ===== -/
section PUK
variable {σ t : Sto} {g : Nat} {A : Ga} {z : Nat} {Q : Nat → Prop}
/-- where a paper's call writes on the paper, sites aside -/
theorem GA.p7 {t : Sto} (h : GA σ g A z Q) (p1 : PB t (g + 261) (g + 1)) (F1 : Fr (g + 261 + 2) 7 σ t) : GA t g A z Q ∧ Gz Q σ z Q t z 0 0 := by
  obtain ⟨p, ps, s⟩ := h.pb
  exact GT.pap h p1 (fun q hq => (s q hq).cg (fun j a b => F1.at (by omega))) (F1.mo (by omega) (by omega))
theorem Ans.p7 {X : Option (Int32 × Sto)} {v : Int32} (h : GA σ g A z Q) (hX : ∃ t, X = some (v, t) ∧ PB t (g + 261) (g + 1) ∧ Fr (g + 261 + 2) 7 σ t) : Ans σ g z Q (wb X fun x4 s3 => some (.inl x4, s3)) (.inl v, A) := by
  obtain ⟨t1, e1, p1, F1⟩ := hX
  obtain ⟨h2, G2⟩ := h.p7 p1 F1
  refine ⟨t1, z, Q, ?_, h2, G2.mo (by omega) (by omega)⟩
  rw [e1, wbs]
theorem GA.cw (h : GA σ g A z Q) : ∃ O sl, CM O σ (g + 1) A.1 sl ∧ Ap O (g + 261) ∧ Ac O (g + 305) := by
  obtain ⟨O, sl, c, o1, o2⟩ := GT.cm h
  exact ⟨O, sl, c, fun j hj => by have := o1 j hj; omega, fun j hj => by have := o1 j hj; omega⟩
def aLet (A : Ga) (x y k q : Int32) : Ra := if two A.1 x y = true then (if inR k (wT A.1 (5 * tN x + tN y)).length = true then (if inR q 3 = true then (.inl (nI (if tN q = 0 then (lEv (wlt A.1 (tN x) (tN y) (tN k))).length else if tN q = 1 then lMd (wlt A.1 (tN x) (tN y) (tN k)) else fb_ct (fun e => (lEv (wlt A.1 (tN x) (tN y) (tN k))).contains e && sHs (wL A.1 (tN y)) e) 128)), A) else (.inr eIA, A)) else (.inr eNS, A)) else (.inr eIO, A)
theorem wlt_get {w : Wd} {f o k : Nat} (hk : k < (wT w (5 * f + o)).length) : (wT w (5 * f + o))[k]? = some (wlt w f o k) := by
  unfold wlt
  rw [List.getD_eq_getElem?_getD, List.getElem?_eq_getElem hk]
  rfl
theorem C_letter (h : GA σ g A z Q) (i : Iv A.1) (x y k q : Int32) : Ans σ g z Q (F_X9_letter σ g x y k q) (aLet A x y k q) := by
  have hn := i.j.n5
  unfold F_X9_letter aLet
  rw [chk_eq h.ok, C_needTwo h hn, Bool.and_assoc, show (inR x (wC A.1 0) && (inR y (wC A.1 0) && !decide (x = y))) = two A.1 x y from rfl, tbI]
  cases hx : two A.1 x y with
  | false => exact Ans.thw h eIO
  | true =>
    obtain ⟨⟨x1, x2⟩, ⟨y1, y2⟩, hne⟩ := two_tN hn hx
    generalize tN x = x' at x1 x2 hne
    generalize tN y = y' at y1 y2 hne
    subst x1
    subst y1
    have hl := h.tl (c := 5 * x' + y') (by omega)
    rw [if_pos rfl, if_pos rfl, C_needLetter h i (by omega) (by omega), tbI]
    cases hk : inR k (wT A.1 (5 * x' + y')).length with
    | false => exact Ans.thw h eNS
    | true =>
      obtain ⟨k1, k2⟩ := inR_tN (by omega) hk
      generalize tN k = k' at k1 k2
      subst k1
      rw [if_pos rfl, if_pos rfl, show (3 : Int32) = nI 3 from rfl, C_needWhat h q (m := 3) (by omega), tbI]
      cases hq : inR q 3 with
      | false => exact Ans.thw h eIA
      | true =>
        obtain ⟨q1, q2⟩ := inR_tN (by omega) hq
        generalize tN q = q' at q1 q2
        subst q1
        obtain ⟨O, sl, c, o1, o2⟩ := GT.cm h
        obtain ⟨p, e1, s1, L1⟩ := C_at c.1 (show 5 * x' + y' < 25 by omega) (wlt_get k2)
        rw [if_pos rfl, if_pos rfl, h.r0, bind_some', C_row c.1 (by omega) (by omega), bind_some', e1, wbs]
        rcases (show q' = 0 ∨ q' = 1 ∨ q' = 2 by omega) with rfl | rfl | rfl
        · rw [if_pos nI_0, L1.g3, bind_some', if_pos rfl]; exact Ans.rd h _
        · rw [if_neg (show ¬ nI 1 = (0 : Int32) by decide), if_pos (show nI 1 = (1 : Int32) from rfl), L1.g2, bind_some']; exact Ans.rd h _
        · rw [if_neg (show ¬ nI 2 = (0 : Int32) by decide), if_neg (show ¬ nI 2 = (1 : Int32) by decide), L1.g5, bind_some', h.r0, bind_some', c.1.r7, bind_some', c.1.lv (by omega), bind_some', (c.1.SL (show y' < 5 by omega)).g1, bind_some', X_shared L1.es (c.1.SL (show y' < 5 by omega)).hs, bind_some']
          exact Ans.rd h _
def aInl (A : Ga) (x y k q : Int32) : Ra := if two A.1 x y = true then (if inR k (wT A.1 (5 * tN x + tN y)).length = true then (if inR q (lEv (wlt A.1 (tN x) (tN y) (tN k))).length = true then (.inl (nI ((lEv (wlt A.1 (tN x) (tN y) (tN k))).getD (tN q) 0)), A) else (.inr eNS, A)) else (.inr eNS, A)) else (.inr eIO, A)
theorem C_inLetter (h : GA σ g A z Q) (i : Iv A.1) (x y k q : Int32) : Ans σ g z Q (F_X9_inLetter σ g x y k q) (aInl A x y k q) := by
  have hn := i.j.n5
  unfold F_X9_inLetter aInl
  rw [chk_eq h.ok, C_needTwo h hn, Bool.and_assoc, show (inR x (wC A.1 0) && (inR y (wC A.1 0) && !decide (x = y))) = two A.1 x y from rfl, tbI]
  cases hx : two A.1 x y with
  | false => exact Ans.thw h eIO
  | true =>
    obtain ⟨⟨x1, x2⟩, ⟨y1, y2⟩, hne⟩ := two_tN hn hx
    generalize tN x = x' at x1 x2 hne
    generalize tN y = y' at y1 y2 hne
    subst x1
    subst y1
    have hl := h.tl (c := 5 * x' + y') (by omega)
    rw [if_pos rfl, if_pos rfl, C_needLetter h i (by omega) (by omega), tbI]
    cases hk : inR k (wT A.1 (5 * x' + y')).length with
    | false => exact Ans.thw h eNS
    | true =>
      obtain ⟨k1, k2⟩ := inR_tN (by omega) hk
      generalize tN k = k' at k1 k2
      subst k1
      obtain ⟨O, sl, c, o1, o2⟩ := GT.cm h
      obtain ⟨p, e1, s1, L1⟩ := C_at c.1 (show 5 * x' + y' < 25 by omega) (wlt_get k2)
      have hl2 := L1.ll
      rw [if_pos rfl, if_pos rfl, h.r0, bind_some', C_row c.1 (by omega) (by omega), bind_some', e1, wbs, L1.g3, bind_some']
      refine (congrArg (fun f => Ans σ g z Q f _) (inR_if _ q _ _)).mpr ?_
      cases hq : inR q (lEv (wlt A.1 x' y' k')).length with
      | false => exact Ans.thw h eNS
      | true =>
        obtain ⟨q1, q2⟩ := inR_tN (by omega) hq
        generalize tN q = q' at q1 q2
        subst q1
        rw [if_pos rfl, if_pos rfl, L1.g4, bind_some', L1.re q2, bind_some', List.getD_eq_getElem?_getD, List.getElem?_eq_getElem q2]
        exact Ans.rd h _
theorem kthI_lt {f : Nat → Bool} {n e : Nat} {k : Int32} (h : kthI f n k = some e) : e < n ∧ f e = true := by
  unfold kthI at h
  by_cases h0 : k < 0
  · rw [if_pos h0] at h; cases h
  · rw [if_neg h0] at h
    have := kth_some.mp h
    exact ⟨this.1, this.2.1⟩
def aVie (A : Ga) (x k q : Int32) : Ra := if inR x (wC A.1 0) = true then (match kthI (sVw (wL A.1 (tN x))) 120 k with
  | none => (.inr eNS, A)
  | some e => if inR q 2 = true then (.inl (nI (if tN q = 0 then e else eN (wE A.1) e)), A) else (.inr eIA, A)) else (.inr eIO, A)
theorem C_view (h : GA σ g A z Q) (i : Iv A.1) (x k q : Int32) : Ans σ g z Q (F_X9_view σ g x k q) (aVie A x k q) := by
  have hn := i.j.n5
  unfold F_X9_view aVie
  rw [chk_eq h.ok, C_needSite h hn, tbI]
  cases hx : inR x (wC A.1 0) with
  | false => exact Ans.thw h eIO
  | true =>
    obtain ⟨x1, x2⟩ := inR_tN (by omega) hx
    generalize tN x = x' at x1 x2
    subst x1
    obtain ⟨O, sl, c, o1, o2⟩ := GT.cm h
    have hS := c.1.SL (show x' < 5 by omega)
    rw [if_pos rfl, if_pos rfl, h.r0, bind_some', c.1.r7, bind_some', c.1.lv (by omega), bind_some', hS.g0, bind_some', X_nth hS.vw, bind_some']
    cases hk : kthI (sVw (wL A.1 x')) 120 k with
    | none =>
      rw [show oI none = -1 from rfl, if_pos rfl]
      exact Ans.thw h eNS
    | some e =>
      obtain ⟨e1, e2⟩ := kthI_lt hk
      have he : e < wC A.1 2 := (i.2.2.2.2.1 x' (by omega)).1.2.2.1 e e2
      rw [show oI (some e) = nI e from rfl, if_neg (oI_n1 (by omega)), show (2 : Int32) = nI 2 from rfl, C_needWhat h q (m := 2) (by omega), tbI]
      cases hq : inR q 2 with
      | false => exact Ans.thw h eIA
      | true =>
        obtain ⟨q1, q2⟩ := inR_tN (by omega) hq
        generalize tN q = q' at q1 q2
        subst q1
        rw [if_pos rfl]
        dsimp only
        rw [if_pos rfl]
        rcases (show q' = 0 ∨ q' = 1 by omega) with rfl | rfl
        · rw [if_pos nI_0, if_pos rfl]; exact Ans.rd h _
        · rw [if_neg (show ¬ nI 1 = (0 : Int32) by decide), h.r0, bind_some', c.1.r6, bind_some', c.1.ev.g5, bind_some', c.1.ev.rN i.j.bv he, bind_some']
          exact Ans.rd h _
end PUK
