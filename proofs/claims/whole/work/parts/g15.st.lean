/-! ===== PURE 53: the class's publics: steps ===== -/
section PUB
variable {σ t : Sto} {g : Nat} {A : Ga} {z : Nat} {Q : Nat → Prop}
/-- a step of the world alone -/
theorem GA.act {α : Type} {X : Option (α × Sto)} {r : α} {w2 : Wd} (h : GA σ g A z Q) (hop : ∀ O sl, CM O σ (g + 1) A.1 sl → ∃ t sl', X = some (r, t) ∧ CM O t (g + 1) w2 sl' ∧ Fr (g + 1) 254 σ t ∧ nz sl' = nz sl) : ∃ t z' Q', X = some (r, t) ∧ GT t g w2 A.2.1 A.2.2.1 A.2.2.2 z' Q' ∧ Gz Q σ z Q' t z' 0 0 := by
  obtain ⟨O, sl, c, o1, o2⟩ := GT.cm h
  obtain ⟨t1, sl1, e1, c1, F1, n1⟩ := hop O sl c
  obtain ⟨z2, Q2, h2, G2⟩ := GT.wfr (w2 := w2) h (fun O' sl' c' => by
    obtain ⟨t2, sl2, e2, c2, F2, n2⟩ := hop O' sl' c'
    rw [e1] at e2
    cases e2
    exact ⟨sl2, c2, n2⟩) F1
  exact ⟨t1, z2, Q2, e1, h2, G2⟩
theorem GA.actG {α : Type} {X : Option (α × Sto)} {r : α} {w2 : Wd} (h : GA σ g A z Q) (hop : ∀ O sl, CM O σ (g + 1) A.1 sl → (∀ i, O i → i < σ.1.length) → ∃ t O' sl', X = some (r, t) ∧ CM O' t (g + 1) w2 sl' ∧ Gw O σ (nz sl) O' t (nz sl')) : ∃ t z' Q', X = some (r, t) ∧ GT t g w2 A.2.1 A.2.2.1 A.2.2.2 z' Q' ∧ Gz Q σ z Q' t z' 0 0 := by
  obtain ⟨O, sl, c, o1, o2⟩ := GT.cm h
  obtain ⟨t1, O1, sl1, e1, c1, G1⟩ := hop O sl c o2
  obtain ⟨z2, Q2, h2, G2⟩ := GT.wld (t := t1) (w2 := w2) h (fun O' sl' c' oo => by
    obtain ⟨t2, O2, sl2, e2, c2, G2⟩ := hop O' sl' c' oo
    rw [e1] at e2
    cases e2
    exact ⟨O2, sl2, w2, c2, rfl, G2⟩)
  exact ⟨t1, z2, Q2, e1, h2, G2⟩
theorem Ans.trd {X : Option (Int32 × Sto)} {v k s : Nat} {w2 : Wd} (h : ∃ t z' Q', X = some (nI v, t) ∧ GT t g w2 A.2.1 A.2.2.1 A.2.2.2 z' Q' ∧ Gz Q σ z Q' t z' 0 0) : Ans σ g z Q (wb X fun x3 s2 => wb (F_X9_traced s2 g (nI k) (nI s) x3) fun x5 s4 => some (.inl x5, s4)) (.inl (nI v), dne A w2 k s v) := by
  obtain ⟨t1, z1, Q1, e1, h1, G1⟩ := h
  obtain ⟨t2, e2, h2, G2⟩ := C_traced h1 k s v
  refine ⟨t2, z1, Q1, ?_, h2, (G1.tr G2).mo (by omega) (by omega)⟩
  rw [e1, wbs, e2, wbs]
def aSav (A : Ga) (x : Int32) : Ra := if inR x (wC A.1 0) = true then (.inl (nI (fb_ct (sHs (wL A.1 (tN x))) (wC A.1 2))), dne A (sav (stp A.1) (tN x)) 6 (tN x) (fb_ct (sHs (wL A.1 (tN x))) (wC A.1 2))) else (.inr eIO, A)
theorem C_save (h : GA σ g A z Q) (i : Iv A.1) (x : Int32) : Ans σ g z Q (F_X9_save σ g x) (aSav A x) := by
  have hn := i.j.n5
  unfold F_X9_save aSav
  rw [chk_eq h.ok, C_needSite h hn, tbI]
  cases hx : inR x (wC A.1 0) with
  | false => exact Ans.thw h eIO
  | true =>
    obtain ⟨x1, x2⟩ := inR_tN (by omega) hx
    generalize tN x = y at x1 x2
    subst x1
    rw [if_pos rfl, if_pos rfl, h.r0, bind_some']
    exact Ans.trd (k := 6) (h.act (fun O sl c => by
      obtain ⟨t, e, c', F⟩ := C_store c i (x := y) (by omega)
      exact ⟨t, sl, e, c', F, rfl⟩))
def aFal (A : Ga) (x : Int32) : Ra := if inR x (wC A.1 0) = true then (.inl (nI (fb_ct (fun e => sHs (wL A.1 (tN x)) e && !sHs (wS A.1 (tN x)) e) (wC A.1 2))), dne A (fal (stp A.1) (tN x)) 7 (tN x) (fb_ct (fun e => sHs (wL A.1 (tN x)) e && !sHs (wS A.1 (tN x)) e) (wC A.1 2))) else (.inr eIO, A)
theorem C_fall (h : GA σ g A z Q) (i : Iv A.1) (x : Int32) : Ans σ g z Q (F_X9_fall σ g x) (aFal A x) := by
  have hn := i.j.n5
  unfold F_X9_fall aFal
  rw [chk_eq h.ok, C_needSite h hn, tbI]
  cases hx : inR x (wC A.1 0) with
  | false => exact Ans.thw h eIO
  | true =>
    obtain ⟨x1, x2⟩ := inR_tN (by omega) hx
    generalize tN x = y at x1 x2
    subst x1
    rw [if_pos rfl, if_pos rfl, h.r0, bind_some']
    exact Ans.trd (k := 7) (h.act (fun O sl c => by
      obtain ⟨t, e, c', F⟩ := C_restore c i (x := y) (by omega)
      exact ⟨t, sl, e, c', F, rfl⟩))
theorem two_tN {w : Wd} (hn : wC w 0 ≤ 5) {x y : Int32} (h : two w x y = true) : (x = nI (tN x) ∧ tN x < wC w 0) ∧ (y = nI (tN y) ∧ tN y < wC w 0) ∧ tN x ≠ tN y := by
  unfold two at h
  rw [Bool.and_eq_true, Bool.and_eq_true] at h
  obtain ⟨h1, h2, h3⟩ := h
  have a1 := inR_tN (by omega) h1
  have a2 := inR_tN (by omega) h2
  refine ⟨a1, a2, fun e => ?_⟩
  have : x = y := by rw [a1.1, a2.1, e]
  rw [decide_eq_true this] at h3
  cases h3
def aJoi (A : Ga) (x y : Int32) : Ra := if two A.1 x y = true then (.inl (nI (fb_ct (sHs (wL (joi (stp A.1) (tN x) (tN y)) (tN x))) (wC A.1 2))), dne A (joi (stp A.1) (tN x) (tN y)) 8 (tN x) (fb_ct (sHs (wL (joi (stp A.1) (tN x) (tN y)) (tN x))) (wC A.1 2))) else (.inr eIO, A)
theorem C_join (h : GA σ g A z Q) (i : Iv A.1) (x y : Int32) : Ans σ g z Q (F_X9_join σ g x y) (aJoi A x y) := by
  have hn := i.j.n5
  unfold F_X9_join aJoi
  rw [chk_eq h.ok, C_needTwo h hn, Bool.and_assoc, show (inR x (wC A.1 0) && (inR y (wC A.1 0) && !decide (x = y))) = two A.1 x y from rfl, tbI]
  cases hx : two A.1 x y with
  | false => exact Ans.thw h eIO
  | true =>
    obtain ⟨⟨x1, x2⟩, ⟨y1, y2⟩, hne⟩ := two_tN hn hx
    generalize tN x = x' at x1 x2 hne
    generalize tN y = y' at y1 y2 hne
    subst x1
    subst y1
    rw [if_pos rfl, if_pos rfl, h.r0, bind_some']
    exact Ans.trd (k := 8) (h.act (fun O sl c => by
      obtain ⟨t, e, c', F⟩ := C_adoptW c i (x := x') (by omega) (y := y') (by omega) hne
      exact ⟨t, sl, e, c', F, rfl⟩))
/-- which letters wait -/
theorem C_needLetter (h : GA σ g A z Q) (i : Iv A.1) {f o : Nat} (hf : f < 5) (ho : o < 5) (k : Int32) : F_X9_needLetter σ g (nI f) (nI o) k = if inR k (wT A.1 (5 * f + o)).length = true then some (.inl (), σ) else some (.inr eNS, thw σ) := by
  obtain ⟨O, sl, c, o1, o2⟩ := GT.cm h
  have hrow : gI σ (g + 1 + 204 + 2 * (5 * f + o)) 4 0 = some (nI (wT A.1 (5 * f + o)).length) := gI_cel (c.1.2.2.2.2.2.2.2.1 (5 * f + o) (by omega)).1 rfl
  unfold F_X9_needLetter
  rw [chk_eq h.ok, h.r0, bind_some', C_row c.1 hf ho, bind_some', hrow, bind_some']
  exact inR_if _ k _ _
def aLos (A : Ga) (x y k : Int32) : Ra := if two A.1 x y = true then (if inR k (wT A.1 (5 * tN x + tN y)).length = true then (.inl (nI ((wT A.1 (5 * tN x + tN y)).length - 1)), dne A (los (stp A.1) (tN x) (tN y) (tN k)) 4 (tN x) ((wT A.1 (5 * tN x + tN y)).length - 1)) else (.inr eNS, A)) else (.inr eIO, A)
theorem GA.t12 (h : GA σ g A z Q) {c k : Nat} {l : Lt} (hc : c < 25) (hl : (wT A.1 c)[k]? = some l) : k < 12 := by
  obtain ⟨O, sl, cm, o1, o2⟩ := GT.cm h
  exact (cm.1.2.2.2.2.2.2.2.2.2.1 c k l hc hl).1
theorem GA.tl (h : GA σ g A z Q) {c : Nat} (hc : c < 25) : (wT A.1 c).length ≤ 12 := by
  cases hl : (wT A.1 c).length with
  | zero => omega
  | succ m =>
    have hm : m < (wT A.1 c).length := by omega
    have := h.t12 hc (List.getElem?_eq_getElem hm)
    omega
theorem C_lose (h : GA σ g A z Q) (i : Iv A.1) (x y k : Int32) : Ans σ g z Q (F_X9_lose σ g x y k) (aLos A x y k) := by
  have hn := i.j.n5
  unfold F_X9_lose aLos
  rw [chk_eq h.ok, C_needTwo h hn, Bool.and_assoc, show (inR x (wC A.1 0) && (inR y (wC A.1 0) && !decide (x = y))) = two A.1 x y from rfl, tbI]
  cases hx : two A.1 x y with
  | false => exact Ans.thw h eIO
  | true =>
    obtain ⟨⟨x1, x2⟩, ⟨y1, y2⟩, hne⟩ := two_tN hn hx
    generalize tN x = x' at x1 x2 hne
    generalize tN y = y' at y1 y2 hne
    subst x1
    subst y1
    have hl := h.tl (c := 5 * x' + y') (by omega)
    rw [if_pos rfl, if_pos rfl, C_needLetter h i (by omega) (by omega), tbI]
    cases hk : inR k (wT A.1 (5 * x' + y')).length with
    | false => exact Ans.thw h eNS
    | true =>
      obtain ⟨k1, k2⟩ := inR_tN (by omega) hk
      generalize tN k = k' at k1 k2
      subst k1
      rw [if_pos rfl, if_pos rfl, h.r0, bind_some']
      exact Ans.trd (k := 4) (h.act (fun O sl c => by
        obtain ⟨t, sl', e, c', F, n⟩ := C_discard c hn (f := x') (o := y') (k := k') (by omega) (by omega) k2
        exact ⟨t, sl', e, c', F, n⟩))
def aTwi (A : Ga) (x y k : Int32) : Ra := if two A.1 x y = true then (if inR k (wT A.1 (5 * tN x + tN y)).length = true then (if (wT A.1 (5 * tN x + tN y)).length < 12 then (.inl (nI ((wT A.1 (5 * tN x + tN y)).length + 1)), dne A (twi (stp A.1) (tN x) (tN y) (tN k)) 5 (tN x) ((wT A.1 (5 * tN x + tN y)).length + 1)) else (.inr eIS, A)) else (.inr eNS, A)) else (.inr eIO, A)
theorem C_twice (h : GA σ g A z Q) (i : Iv A.1) (x y k : Int32) : Ans σ g z Q (F_X9_twice σ g x y k) (aTwi A x y k) := by
  have hn := i.j.n5
  unfold F_X9_twice aTwi
  rw [chk_eq h.ok, C_needTwo h hn, Bool.and_assoc, show (inR x (wC A.1 0) && (inR y (wC A.1 0) && !decide (x = y))) = two A.1 x y from rfl, tbI]
  cases hx : two A.1 x y with
  | false => exact Ans.thw h eIO
  | true =>
    obtain ⟨⟨x1, x2⟩, ⟨y1, y2⟩, hne⟩ := two_tN hn hx
    generalize tN x = x' at x1 x2 hne
    generalize tN y = y' at y1 y2 hne
    subst x1
    subst y1
    have hl := h.tl (c := 5 * x' + y') (by omega)
    rw [if_pos rfl, if_pos rfl, C_needLetter h i (by omega) (by omega), tbI]
    cases hk : inR k (wT A.1 (5 * x' + y')).length with
    | false => exact Ans.thw h eNS
    | true =>
      obtain ⟨k1, k2⟩ := inR_tN (by omega) hk
      generalize tN k = k' at k1 k2
      subst k1
      obtain ⟨O, sl, c, o1, o2⟩ := GT.cm h
      rw [if_pos rfl, if_pos rfl, h.r0, bind_some', C_row c.1 (by omega) (by omega), bind_some', C_isFullR c.1 (by omega), bind_some', ifb0, bind_some']
      by_cases h12 : (wT A.1 (5 * x' + y')).length < 12
      · rw [if_pos h12, decide_eq_false (show ¬ 12 ≤ (wT A.1 (5 * x' + y')).length by omega), if_neg (by decide)]
        exact Ans.trd (k := 5) (h.actG (fun O sl c oo => C_repeat c oo (f := x') (o := y') (k := k') (by omega) (by omega) k2 h12))
      · rw [if_neg h12, decide_eq_true (show 12 ≤ (wT A.1 (5 * x' + y')).length by omega), if_pos rfl]
        exact Ans.thw h eIS
def aWri (A : Ga) (x y : Int32) : Ra := if two A.1 x y = true then (if (decide ((wT A.1 (5 * tN x + tN y)).length < 12) && !wcut A.1 (tN x) (tN y)) = true then (.inl (nI (lEv (ltr (wE A.1) (wC A.1 1) (wL A.1 (tN x)) (tN y))).length), dne A (wri (stp A.1) (tN x) (tN y)) 2 (tN x) (lEv (ltr (wE A.1) (wC A.1 1) (wL A.1 (tN x)) (tN y))).length) else (.inr eIS, A)) else (.inr eIO, A)
theorem C_write (h : GA σ g A z Q) (i : Iv A.1) (x y : Int32) : Ans σ g z Q (F_X9_write σ g x y) (aWri A x y) := by
  have hn := i.j.n5
  unfold F_X9_write aWri
  rw [chk_eq h.ok, C_needTwo h hn, Bool.and_assoc, show (inR x (wC A.1 0) && (inR y (wC A.1 0) && !decide (x = y))) = two A.1 x y from rfl, tbI]
  cases hx : two A.1 x y with
  | false => exact Ans.thw h eIO
  | true =>
    obtain ⟨⟨x1, x2⟩, ⟨y1, y2⟩, hne⟩ := two_tN hn hx
    generalize tN x = x' at x1 x2 hne
    generalize tN y = y' at y1 y2 hne
    subst x1
    subst y1
    obtain ⟨O, sl, c, o1, o2⟩ := GT.cm h
    rw [if_pos rfl, if_pos rfl, h.r0, bind_some', C_canPost c.1 (by omega) (by omega), bind_some', ifb0, bind_some']
    cases hp : (decide ((wT A.1 (5 * x' + y')).length < 12) && !wcut A.1 x' y') with
    | false => exact Ans.thw h eIS
    | true =>
      rw [if_pos rfl, if_pos rfl]
      have h12 : (wT A.1 (5 * x' + y')).length < 12 := by
        rw [Bool.and_eq_true] at hp
        exact of_decide_eq_true hp.1
      exact Ans.trd (k := 2) (h.actG (fun O sl c oo => C_post c oo i (f := x') (o := y') x2 y2 h12))
end PUB
