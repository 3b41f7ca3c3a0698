/-! ===== PURE 6: the reference's readers ===== -/
theorem jn_eq {α φ : Type} (f : φ) (g : φ → Option α) : jn f g = g f := rfl
theorem R_flag0 : F_X10_flag (nI 0) = some (nI 0) := R_flag false
theorem R_flag1 : F_X10_flag (nI 1) = some (nI 1) := R_flag true
theorem b2_t : ¬ nI (b2 true) = nI 0 := by decide
theorem ifb {α : Type} (b : Bool) [Decidable (nI (b2 b) = nI 0)] (x y : α) : (if nI (b2 b) = nI 0 then x else y) = if b = true then y else x := by
  cases b
  · exact if_pos rfl
  · exact if_neg b2_t
theorem ifz (b : Bool) [Decidable (nI (b2 b) = nI 0 ∨ nI (b2 b) = nI 1)] : (if nI (b2 b) = nI 0 ∨ nI (b2 b) = nI 1 then some (nI (b2 b)) else none) = some (nI (b2 b)) := by
  cases b
  · exact if_pos (Or.inl rfl)
  · exact if_pos (Or.inr rfl)
theorem ifB (p : Prop) [Decidable p] : (if p then some (nI 1) else some (nI 0)) = some (nI (b2 (decide p))) := by
  by_cases h : p
  · rw [if_pos h, decide_eq_true h]; rfl
  · rw [if_neg h, decide_eq_false h]; rfl
theorem ifB' (p : Prop) [Decidable p] : (if p then some (nI 0) else some (nI 1)) = some (nI (b2 (!decide p))) := by
  by_cases h : p
  · rw [if_pos h, decide_eq_true h]; rfl
  · rw [if_neg h, decide_eq_false h]; rfl
theorem ndec (x y : Nat) : (!decide (x < y)) = decide (y ≤ x) := by
  by_cases h : x < y
  · rw [decide_eq_true h, decide_eq_false (by omega)]; rfl
  · rw [decide_eq_false h, decide_eq_true (by omega)]; rfl
theorem al_not (p : Nat → Bool) (N : Nat) : al (fun i => !p i) N = !ex p N := by
  rw [Bool.eq_iff_iff, al_iff]
  simp [ex]
theorem lall {ρ : Type} (L : Nat → Nat → ρ) (p : Nat → Bool) (N : Nat) (r0 r1 : ρ) (hs : ∀ i f, i < N → L (f + 1) i = if p i = true then L f (i + 1) else r0) (he : ∀ f, L (f + 1) N = r1) (F : Nat) (hF : N < F) : L F 0 = if al p N = true then r1 else r0 := by
  have h : ∀ d i f, i + d = N → d < f → (∀ j, j < i → p j = true) → L f i = if al p N = true then r1 else r0 := by
    intro d
    induction d with
    | zero =>
      intro i f h1 h2 h3
      cases f with
      | zero => omega
      | succ f =>
        have hi : i = N := by omega
        subst hi
        rw [he f, if_pos (al_iff.mpr h3)]
    | succ d ih =>
      intro i f h1 h2 h3
      cases f with
      | zero => omega
      | succ f =>
        rw [hs i f (by omega)]
        by_cases hp : p i = true
        · rw [if_pos hp]
          refine ih (i + 1) f (by omega) (by omega) (fun j hj => ?_)
          by_cases hji : j = i
          · subst hji; exact hp
          · exact h3 j (by omega)
        · rw [if_neg hp, if_neg (fun z => hp (al_iff.mp z i (by omega)))]
  exact h N 0 F (by omega) hF (fun j hj => absurd hj (Nat.not_lt_zero j))
theorem lex {ρ : Type} (L : Nat → Nat → ρ) (p : Nat → Bool) (N : Nat) (r0 r1 : ρ) (hs : ∀ i f, i < N → L (f + 1) i = if p i = true then r1 else L f (i + 1)) (he : ∀ f, L (f + 1) N = r0) (F : Nat) (hF : N < F) : L F 0 = if ex p N = true then r1 else r0 := by
  rw [lall L (fun i => !p i) N r1 r0 (fun i f hi => by rw [hs i f hi]; cases p i <;> rfl) he F hF]
  rw [al_not]
  cases ex p N <;> rfl
/-- what the readers need of a world: numbers are small -/
def Js (c : Nat) (s : St) : Prop := (∀ i, i < 25 → sTb s i ≤ 120) ∧ (sLg s).length ≤ 120 ∧ ∀ e ∈ sLg s, e < c
def Jv (w : Wd) : Prop := wC w 0 ≤ 5 ∧ wC w 2 ≤ 120 ∧ (∀ e, e < wC w 2 → eS (wE w) e < 5 ∧ eT (wE w) e ≤ 120 ∧ eM (wE w) e < 120) ∧ (∀ x, x < 5 → Js (wC w 2) (wL w x) ∧ (sLg (wS w x)).length ≤ 120)
section JV
variable {w : Wd}
theorem Jv.n5 (i : Jv w) : wC w 0 ≤ 5 := i.1
theorem Jv.c (i : Jv w) : wC w 2 ≤ 120 := i.2.1
theorem Jv.eS5 (i : Jv w) {e : Nat} (h : e < wC w 2) : eS (wE w) e < 5 := (i.2.2.1 e h).1
theorem Jv.eT (i : Jv w) {e : Nat} (h : e < wC w 2) : eT (wE w) e ≤ 120 := (i.2.2.1 e h).2.1
theorem Jv.eM (i : Jv w) {e : Nat} (h : e < wC w 2) : eM (wE w) e < 120 := (i.2.2.1 e h).2.2
theorem Jv.L (i : Jv w) {s : Nat} (h : s < 5) : Js (wC w 2) (wL w s) := (i.2.2.2 s h).1
theorem Jv.S (i : Jv w) {s : Nat} (h : s < 5) : (sLg (wS w s)).length ≤ 120 := (i.2.2.2 s h).2
theorem Js.tb {c : Nat} {s : St} (h : Js c s) {i : Nat} (hi : i < 25) : sTb s i ≤ 120 := h.1 i hi
theorem Js.lg {c : Nat} {s : St} (h : Js c s) : (sLg s).length ≤ 120 := h.2.1
theorem Js.lm {c : Nat} {s : St} (h : Js c s) {e : Nat} (he : e ∈ sLg s) : e < c := h.2.2 e he
theorem nodup_le {l : List Nat} {n : Nat} (h : l.Nodup) (hl : ∀ e ∈ l, e < n) : l.length ≤ n := by
  have := List.Nodup.length_le_of_subset h (l₂ := List.range n) (fun e he => List.mem_range.mpr (hl e he))
  simpa using this
theorem Is.lg {n c me : Nat} {v : Ev} {s : St} (h : Is n c me v s) : (sLg s).length ≤ c := nodup_le h.2.2.2.1 (fun e he => (h.2.2.2.2.1 e he).1)
theorem Is.js {n c me : Nat} {v : Ev} {s : St} (h : Is n c me v s) (hc : c ≤ 120) : Js c s := ⟨fun i hi => Nat.le_trans (h.1 i hi).1 hc, Nat.le_trans h.lg hc, fun e he => (h.2.2.2.2.1 e he).1⟩
theorem Il.lg {n c f : Nat} {v : Ev} {l : Lt} (h : Il n c f v l) : (lEv l).length ≤ c := nodup_le h.2.2.1 (fun e he => (h.2.2.2 e he).1)
theorem Iv.n2 (i : Iv w) : 2 ≤ wC w 0 := i.1.1
theorem Iv.n5 (i : Iv w) : wC w 0 ≤ 5 := i.1.2.1
theorem Iv.m3 (i : Iv w) : wC w 1 < 3 := i.1.2.2.1
theorem Iv.c (i : Iv w) : wC w 2 ≤ 120 := i.1.2.2.2
theorem Iv.k (i : Iv w) {s : Nat} (h : s < 5) : wK w s ≤ wC w 2 := i.2.1 s h
theorem Iv.L (i : Iv w) {s : Nat} (h : s < 5) : Is (wC w 0) (wC w 2) s (wE w) (wL w s) := (i.2.2.2.2.1 s h).1
theorem Iv.S (i : Iv w) {s : Nat} (h : s < 5) : Is (wC w 0) (wC w 2) s (wE w) (wS w s) := (i.2.2.2.2.1 s h).2.1
theorem Iv.lt (i : Iv w) {f o k : Nat} {l : Lt} (hf : f < 5) (ho : o < 5) (h : (wT w (5 * f + o))[k]? = some l) : Il (wC w 0) (wC w 2) f (wE w) l := (i.2.2.2.2.2.1 f hf o ho).2.1 l (List.mem_of_getElem? h)
theorem Iv.tl (i : Iv w) {f o : Nat} (hf : f < 5) (ho : o < 5) : (wT w (5 * f + o)).length ≤ 12 := (i.2.2.2.2.2.1 f hf o ho).1
theorem Iv.j (i : Iv w) : Jv w := ⟨i.n5, i.c, fun e he => by
  have h1 := i.2.2.1 e he
  have h2 := i.n5
  have h3 := i.k (s := eS (wE w) e) (by omega)
  have h4 := i.c
  refine ⟨by omega, by omega, by omega⟩, fun x hx => ⟨(i.L hx).js i.c, Nat.le_trans (i.S hx).lg i.c⟩⟩
end JV
section RD
variable {a : Nat} {σ s : Sto} {M : Ms} {W : Nat → Nat} {w : Wd}
theorem RW.c (r : RW W w) {k : Nat} (hk : k < 7) : W k = wC w k := r.1 k hk
theorem RW.k (r : RW W w) {x : Nat} (hx : x < 5) : W (8 + 789 * x) = wK w x := (r.2.2.1 x hx).1
theorem RW.L (r : RW W w) {x : Nat} (hx : x < 5) : RS W (9 + 789 * x) (wL w x) := (r.2.2.1 x hx).2.1
theorem RW.S (r : RW W w) {x : Nat} (hx : x < 5) : RS W (403 + 789 * x) (wS w x) := (r.2.2.1 x hx).2.2
theorem RW.e (r : RW W w) {e : Nat} (he : e < wC w 2) : RE W (wE w) e := r.2.2.2.1 e he
theorem RW.t (r : RW W w) {c : Nat} (hc : c < 25) : W (5153 + c) = (wT w c).length := (r.2.2.2.2 c hc).1
theorem RW.l (r : RW W w) {c k : Nat} {l : Lt} (hc : c < 25) (hl : (wT w c)[k]? = some l) : RLe W (5178 + 147 * (12 * c + k)) l := (r.2.2.2.2 c hc).2 k l hl
theorem RW.tb (r : RW W w) {x i : Nat} (hx : x < 5) (hi : i < 25) : W (9 + 789 * x + i) = sTb (wL w x) i := (r.L hx).1 i hi
theorem RW.hs (r : RW W w) {x e : Nat} (hx : x < 5) (he : e < 128) : rb W (9 + 789 * x + 25) e = sHs (wL w x) e := (r.L hx).2.1 e he
theorem RW.vw (r : RW W w) {x e : Nat} (hx : x < 5) (he : e < 128) : rb W (9 + 789 * x + 29) e = sVw (wL w x) e := (r.L hx).2.2.1 e he
theorem RW.ln (r : RW W w) {x : Nat} (hx : x < 5) : W (9 + 789 * x + 33) = (sLg (wL w x)).length := (r.L hx).2.2.2.1
theorem RW.lg (r : RW W w) {x i : Nat} (hx : x < 5) (hi : i < (sLg (wL w x)).length) : W (9 + 789 * x + 34 + i) = (sLg (wL w x))[i] := (r.L hx).2.2.2.2.1 i _ (List.getElem?_eq_getElem hi)
theorem R_siteOf (h : RT a σ M W s) (r : RW W w) (i : Jv w) {e : Nat} (he : e < wC w 2) : F_X10_siteOf s a (nI e) = some (nI (eS (wE w) e)) := by
  have := i.c
  unfold F_X10_siteOf
  rw [chk_eq h.ok]
  simp (disch := omega) only [l_0, l_1, l_2, l_3, l_4, l_5, l_6, l_7, l_8, l_9, l_10, l_12, l_25, l_29, l_33, l_34, l_120, l_122, l_147, l_154, l_274, l_394, l_395, l_789, l_3953, l_5153, l_5178, l_49278, l_49279, l_49280, bind_some', jn_eq, nI_add, pk_mul, nI_leI, nI_ltI, nI_eq, ifb, ifz, R_flag0, R_flag1, R_flag, R_eventOf, R_of h, Nat.add_zero, (r.e he).1]
theorem R_timeOf (h : RT a σ M W s) (r : RW W w) (i : Jv w) {e : Nat} (he : e < wC w 2) : F_X10_timeOf s a (nI e) = some (nI (eT (wE w) e)) := by
  have := i.c
  unfold F_X10_timeOf
  rw [chk_eq h.ok]
  simp (disch := omega) only [l_0, l_1, l_2, l_3, l_4, l_5, l_6, l_7, l_8, l_9, l_10, l_12, l_25, l_29, l_33, l_34, l_120, l_122, l_147, l_154, l_274, l_394, l_395, l_789, l_3953, l_5153, l_5178, l_49278, l_49279, l_49280, bind_some', jn_eq, nI_add, pk_mul, nI_leI, nI_ltI, nI_eq, ifb, ifz, R_flag0, R_flag1, R_flag, R_eventOf, R_of h, (r.e he).2.1]
theorem R_markOf (h : RT a σ M W s) (r : RW W w) (i : Jv w) {e : Nat} (he : e < wC w 2) : F_X10_markOf s a (nI e) = some (nI (eM (wE w) e)) := by
  have := i.c
  unfold F_X10_markOf
  rw [chk_eq h.ok]
  simp (disch := omega) only [l_0, l_1, l_2, l_3, l_4, l_5, l_6, l_7, l_8, l_9, l_10, l_12, l_25, l_29, l_33, l_34, l_120, l_122, l_147, l_154, l_274, l_394, l_395, l_789, l_3953, l_5153, l_5178, l_49278, l_49279, l_49280, bind_some', jn_eq, nI_add, pk_mul, nI_leI, nI_ltI, nI_eq, ifb, ifz, R_flag0, R_flag1, R_flag, R_eventOf, R_of h, (r.e he).2.2.2.1]
theorem R_isOut (h : RT a σ M W s) (r : RW W w) (i : Jv w) {e : Nat} (he : e < wC w 2) : F_X10_isOut s a (nI e) = some (nI (b2 (eO (wE w) e))) := by
  have := i.c
  unfold F_X10_isOut
  rw [chk_eq h.ok]
  simp (disch := omega) only [l_0, l_1, l_2, l_3, l_4, l_5, l_6, l_7, l_8, l_9, l_10, l_12, l_25, l_29, l_33, l_34, l_120, l_122, l_147, l_154, l_274, l_394, l_395, l_789, l_3953, l_5153, l_5178, l_49278, l_49279, l_49280, bind_some', jn_eq, nI_add, pk_mul, nI_leI, nI_ltI, nI_eq, ifb, ifz, R_flag0, R_flag1, R_flag, R_eventOf, R_of h, (r.e he).2.2.1]
  cases eO (wE w) e <;> rfl
theorem R_isKnown (h : RT a σ M W s) (r : RW W w) (i : Jv w) {x o e : Nat} (hx : x < 5) (ho : o < 5) (he : e < wC w 2) : F_X10_isKnown s a (nI x) (nI o) (nI e) = some (nI (b2 (knw (wE w) (wL w x) o e))) := by
  have h1 := i.c
  have h2 := i.eS5 he
  have h3 := i.eT he
  have h4 := (i.L hx).tb (i := 5 * o + eS (wE w) e) (by omega)
  unfold F_X10_isKnown
  rw [chk_eq h.ok, R_siteOf h r i he, bind_some', R_cellOf, bind_some', Nat.add_assoc (9 + 789 * x) (5 * o), R_of h (by omega), bind_some', R_timeOf h r i he, bind_some', r.tb hx (by omega), l_0, l_1, ifB']
  congr 3
  unfold knw
  rw [← ndec]
  congr 1
  exact decide_eq_decide.mpr (nI_ltI (by omega) (by omega))
theorem R_doesHave (h : RT a σ M W s) (r : RW W w) {x e : Nat} (hx : x < 5) (he : e < 128) (is : Bool) : F_X10_doesHave s a (nI x) (nI e) (nI (b2 is)) = some (nI (b2 (sHs (wL w x) e == is))) := by
  unfold F_X10_doesHave
  rw [chk_eq h.ok]
  simp (disch := omega) only [l_0, l_1, l_2, l_3, l_4, l_5, l_6, l_7, l_8, l_9, l_10, l_12, l_25, l_29, l_33, l_34, l_120, l_122, l_147, l_154, l_274, l_394, l_395, l_789, l_3953, l_5153, l_5178, l_49278, l_49279, l_49280, bind_some', jn_eq, nI_add, pk_mul, nI_leI, nI_ltI, nI_eq, ifb, ifz, R_flag0, R_flag1, R_flag, R_stateOf, R_isOf h, r.hs hx]
  cases sHs (wL w x) e <;> cases is <;> first | rfl | (rw [if_pos rfl]; rfl) | (rw [if_neg (by decide)]; rfl)
theorem R_doesHave1 (h : RT a σ M W s) (r : RW W w) {x e : Nat} (hx : x < 5) (he : e < 128) : F_X10_doesHave s a (nI x) (nI e) (nI 1) = some (nI (b2 (sHs (wL w x) e))) := by
  rw [show nI 1 = nI (b2 true) from rfl, R_doesHave h r hx he]
  cases sHs (wL w x) e <;> rfl
theorem R_doesHave0 (h : RT a σ M W s) (r : RW W w) {x e : Nat} (hx : x < 5) (he : e < 128) : F_X10_doesHave s a (nI x) (nI e) (nI 0) = some (nI (b2 (!sHs (wL w x) e))) := by
  rw [show nI 0 = nI (b2 false) from rfl, R_doesHave h r hx he]
  cases sHs (wL w x) e <;> rfl
theorem R_isKnownToAll (h : RT a σ M W s) (r : RW W w) (i : Jv w) {x e : Nat} (hx : x < 5) (he : e < wC w 2) : F_X10_isKnownToAll s a (nI x) (nI e) = some (nI (b2 (knA (wE w) (wC w 0) (wL w x) e))) := by
  have h1 := i.n5
  unfold F_X10_isKnownToAll
  rw [chk_eq h.ok]
  refine (lall (fun f o => F_X10_isKnownToAll_L2 s a (nI x) (nI e) f (nI o) (some 1)) (fun o => knw (wE w) (wL w x) o e) (wC w 0) (some (nI 0)) (some (nI 1)) ?_ ?_ fu (by unfold fu; omega)).trans ?_
  · intro o f ho
    show F_X10_isKnownToAll_L2 _ _ _ _ _ _ _ = _
    rw [F_X10_isKnownToAll_L2]
    simp (disch := omega) only [l_0, l_1, l_2, l_3, l_4, l_5, l_6, l_7, l_8, l_9, l_10, l_12, l_25, l_29, l_33, l_34, l_120, l_122, l_147, l_154, l_274, l_394, l_395, l_789, l_3953, l_5153, l_5178, l_49278, l_49279, l_49280, bind_some', jn_eq, nI_add, pk_mul, nI_leI, nI_ltI, nI_eq, ifb, ifz, R_flag0, R_flag1, R_flag, R_of h, r.c, R_isKnown h r i hx (show o < 5 by omega) he, if_neg]
  · intro f
    show F_X10_isKnownToAll_L2 _ _ _ _ _ _ _ = _
    rw [F_X10_isKnownToAll_L2]
    simp (disch := omega) only [l_0, l_1, l_2, l_3, l_4, l_5, l_6, l_7, l_8, l_9, l_10, l_12, l_25, l_29, l_33, l_34, l_120, l_122, l_147, l_154, l_274, l_394, l_395, l_789, l_3953, l_5153, l_5178, l_49278, l_49279, l_49280, bind_some', jn_eq, nI_add, pk_mul, nI_leI, nI_ltI, nI_eq, ifb, ifz, R_flag0, R_flag1, R_flag, R_of h, r.c, if_pos]
  · rw [ifB]; simp [knA]
end RD
