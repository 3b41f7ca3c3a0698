/-! ===== PURE 55: the class's publics: mode, come ===== -/
section PUD
variable {σ t : Sto} {g : Nat} {A : Ga} {z : Nat} {Q : Nat → Prop}
def aMod (A : Ga) (x : Int32) : Ra := if inR x 3 = true then (.inl (nI (wC A.1 1)), (wC' A.1 (up (wC A.1) 1 (tN x)), A.2)) else (.inr eIA, A)
theorem C_mode (h : GA σ g A z Q) (x : Int32) : Ans σ g z Q (F_X9_mode σ g x) (aMod A x) := by
  have key : ∀ (B C : Option ((Int32 ⊕ String) × Sto)), (if x < 0 then B else if x ≤ (2 : Int32) then C else B) = if inR x 3 = true then C else B := by
    intro B C
    rw [← inR_if]
    have hle : x ≤ (2 : Int32) ↔ x < nI 3 := by
      rw [ltn_i' x (by omega), Int32.le_iff_toInt_le, show (2 : Int32).toInt = 2 from rfl]
      omega
    by_cases h0 : x < 0
    · rw [if_pos h0, if_pos h0]
    · rw [if_neg h0, if_neg h0]
      by_cases h1 : x < nI 3
      · rw [if_pos h1, if_pos (hle.mpr h1)]
      · rw [if_neg h1, if_neg (fun y => h1 (hle.mp y))]
  unfold F_X9_mode aMod
  rw [chk_eq h.ok]
  obtain ⟨O, sl, c, o1, o2⟩ := GT.cm h
  rw [h.r0, bind_some', gI_cel c.1.1 rfl, bind_some', bind_some', key]
  cases hx : inR x 3 with
  | false => exact Ans.thw h eIA
  | true =>
    obtain ⟨x1, x2⟩ := inR_tN (by omega) hx
    generalize tN x = x' at x1 x2
    subst x1
    rw [if_pos rfl, if_pos rfl]
    obtain ⟨t1, z1, Q1, e1, h1, G1⟩ := h.act (X := (sV σ (g + 1) 8 1 (.int (nI x'))).map (fun s => ((), s))) (r := ()) (w2 := wC' A.1 (up (wC A.1) 1 x')) (fun O sl c => by
      obtain ⟨t, e, c', F⟩ := CM'.num c (k := 1) (j := 1) (v := x') (by omega) rfl (by omega)
      exact ⟨t, sl, by rw [e]; rfl, c', F, rfl⟩)
    have e1' : sV σ (g + 1) 8 1 (.int (nI x')) = some t1 := by
      cases hb : sV σ (g + 1) 8 1 (.int (nI x')) with
      | none => rw [hb] at e1; cases e1
      | some s => rw [hb] at e1; cases e1; rfl
    refine ⟨t1, z1, Q1, ?_, h1, G1.mo (by omega) (by omega)⟩
    rw [e1', bind_some']
def aCom (A : Ga) (x y k : Int32) : Ra := if two A.1 x y = true then (if inR k (wT A.1 (5 * tN x + tN y)).length = true then (if wcut A.1 (tN x) (tN y) = true then (.inr eIS, A) else (.inl (nI (frN A.1 (tN x) (tN y) (tN k))), dne A (com (stp A.1) (tN x) (tN y) (tN k)) 3 (tN x) (frN A.1 (tN x) (tN y) (tN k)))) else (.inr eNS, A)) else (.inr eIO, A)
theorem C_come (h : GA σ g A z Q) (i : Iv A.1) (hln : ∀ f o k, f < wC A.1 0 → o < wC A.1 0 → k < (wT A.1 (5 * f + o)).length → (sLg (wL A.1 o)).length + frN A.1 f o k ≤ 120) (x y k : Int32) : Ans σ g z Q (F_X9_come σ g x y k) (aCom A x y k) := by
  have hn := i.j.n5
  unfold F_X9_come aCom
  rw [chk_eq h.ok, C_needTwo h hn, Bool.and_assoc, show (inR x (wC A.1 0) && (inR y (wC A.1 0) && !decide (x = y))) = two A.1 x y from rfl, tbI]
  cases hx : two A.1 x y with
  | false => exact Ans.thw h eIO
  | true =>
    obtain ⟨⟨x1, x2⟩, ⟨y1, y2⟩, hne⟩ := two_tN hn hx
    generalize tN x = x' at x1 x2 hne
    generalize tN y = y' at y1 y2 hne
    subst x1
    subst y1
    have hl := h.tl (c := 5 * x' + y') (by omega)
    rw [if_pos rfl, if_pos rfl, C_needLetter h i (by omega) (by omega), tbI]
    cases hk : inR k (wT A.1 (5 * x' + y')).length with
    | false => exact Ans.thw h eNS
    | true =>
      obtain ⟨k1, k2⟩ := inR_tN (by omega) hk
      generalize tN k = k' at k1 k2
      subst k1
      obtain ⟨O, sl, c, o1, o2⟩ := GT.cm h
      rw [if_pos rfl, if_pos rfl, h.r0, bind_some', C_isCut c.1 (by omega) (by omega), bind_some', ifb0, bind_some']
      cases hw : wcut A.1 x' y' with
      | true => exact Ans.thw h eIS
      | false =>
        rw [if_neg (by decide), if_neg (by decide)]
        exact Ans.trd (k := 3) (h.act (fun O sl c => by
          obtain ⟨t, sl', e, c', F, n⟩ := C_deliver c i x2 y2 k2 (hln x' y' k' x2 y2 k2)
          exact ⟨t, sl', e, c', F, n⟩))
end PUD
