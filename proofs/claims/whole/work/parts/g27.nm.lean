/-! ===== PURE 65: the class's publics: named, fewest, count ===== -/
def fiE (p : Nat → Bool) : Nat → Option Nat
  | 0 => none
  | n + 1 => match fiE p n with
    | some x => some x
    | none => if p n then some n else none
def laE (p : Nat → Bool) : Nat → Option Nat
  | 0 => none
  | n + 1 => if p n then some n else laE p n
theorem fiE_lt {p : Nat → Bool} : ∀ {n x : Nat}, fiE p n = some x → x < n
  | 0, x, h => by cases h
  | n + 1, x, h => by
    unfold fiE at h
    cases hf : fiE p n with
    | some y =>
      rw [hf] at h
      cases h
      exact Nat.lt_succ_of_lt (fiE_lt hf)
    | none =>
      rw [hf] at h
      dsimp only at h
      split at h
      · cases h; omega
      · cases h
section PUN
variable {σ t : Sto} {g : Nat} {A : Ga} {z : Nat} {Q : Nat → Prop}
def nmP (w : Wd) (x m : Nat) (e : Nat) : Bool := sVw (wL w x) e && decide (eN (wE w) e = m)
def aNam (A : Ga) (x m k : Int32) : Ra := if inR x (wC A.1 0) = true then (if inR m 100 = true then (if inR k 3 = true then (.inl (if tN k = 0 then nI (fb_ct (nmP A.1 (tN x) (tN m)) (wC A.1 2)) else if tN k = 1 then oI (fiE (nmP A.1 (tN x) (tN m)) (wC A.1 2)) else oI (laE (nmP A.1 (tN x) (tN m)) (wC A.1 2))), A) else (.inr eIA, A)) else (.inr eIA, A)) else (.inr eIO, A)
theorem C_named (h : GA σ g A z Q) (i : Iv A.1) (x m k : Int32) : Ans σ g z Q (F_X9_named σ g x m k) (aNam A x m k) := by
  have hn := i.j.n5
  have hc := i.j.c
  unfold F_X9_named aNam
  rw [chk_eq h.ok, C_needSite h hn, tbI]
  cases hx : inR x (wC A.1 0) with
  | false => exact Ans.thw h eIO
  | true =>
    obtain ⟨x1, x2⟩ := inR_tN (by omega) hx
    generalize tN x = x' at x1 x2
    subst x1
    rw [if_pos rfl, if_pos rfl, C_needName h, tbI]
    cases hm : inR m 100 with
    | false => exact Ans.thw h eIA
    | true =>
      obtain ⟨m1, m2⟩ := inR_tN (by omega) hm
      generalize tN m = m' at m1 m2
      subst m1
      rw [if_pos rfl, if_pos rfl, show (3 : Int32) = nI 3 from rfl, C_needWhat h k (m := 3) (by omega), tbI]
      cases hk : inR k 3 with
      | false => exact Ans.thw h eIA
      | true =>
        obtain ⟨k1, k2⟩ := inR_tN (by omega) hk
        generalize tN k = k' at k1 k2
        subst k1
        obtain ⟨O, sl, c, o1, o2⟩ := h.cw
        have b := i.j.bv
        have hS := c.1.SL (show x' < 5 by omega)
        rw [if_pos rfl, if_pos rfl]
        have hL : ∀ K : Int32 → Int32 → Int32 → Option ((Int32 ⊕ String) × Sto), F_X9_named_L28 σ g (nI x') (nI m') fu 0 (-1) (-1) 0 K = K (nI (fb_ct (nmP A.1 x' m') (wC A.1 2))) (oI (fiE (nmP A.1 x' m') (wC A.1 2))) (oI (laE (nmP A.1 x' m') (wC A.1 2))) := by
          intro K
          refine lup (fun f j => F_X9_named_L28 σ g (nI x') (nI m') f (nI (fb_ct (nmP A.1 x' m') j)) (oI (fiE (nmP A.1 x' m') j)) (oI (laE (nmP A.1 x' m') j)) (nI j) K) (wC A.1 2) _ ?_ ?_ fu (by unfold fu; omega)
          · intro j f hj
            have hN := i.eNl j hj
            have hp : nmP A.1 x' m' j = (sVw (wL A.1 x') j && decide (eN (wE A.1) j = m')) := rfl
            rw [F_X9_named_L28, h.r0, bind_some', c.1.r6, bind_some', c.1.ev.g0, bind_some', if_neg (by rw [nI_leI (by omega) (by omega)]; omega), bind_some', c.1.r7, bind_some', c.1.lv (by omega), bind_some', hS.g0, bind_some', X_holds hS.vw (by omega), bind_some', ifb0, bind_some', c.1.r6, bind_some', c.1.ev.g5, bind_some', c.1.ev.rN b hj, bind_some', ifE (by omega) (by omega), jn_eq, nI_add1 j, nI_add1 (fb_ct (nmP A.1 x' m') j), fb_ct_succ, fiE, laE]
            cases hv : sVw (wL A.1 x') j with
            | false =>
              rw [hv, Bool.false_and] at hp
              rw [hp, if_neg (by decide)]
              cases fiE (nmP A.1 x' m') j with
              | none => rfl
              | some y => rfl
            | true =>
              rw [hv, Bool.true_and] at hp
              rw [if_pos rfl]
              by_cases he : eN (wE A.1) j = m'
              · rw [decide_eq_true he] at hp
                rw [if_pos he, hp]
                cases hf : fiE (nmP A.1 x' m') j with
                | none => rfl
                | some y =>
                  have hy := fiE_lt hf
                  rw [show oI (some y) = nI y from rfl, if_neg (oI_n1 (by omega))]
                  rfl
              · rw [decide_eq_false he] at hp
                rw [if_neg he, hp]
                cases fiE (nmP A.1 x' m') j with
                | none => rfl
                | some y => rfl
          · intro f
            rw [F_X9_named_L28, h.r0, bind_some', c.1.r6, bind_some', c.1.ev.g0, bind_some', if_pos (Int32.le_refl _)]
        refine (congrArg (fun f => Ans σ g z Q f _) (hL _)).mpr ?_
        rcases (show k' = 0 ∨ k' = 1 ∨ k' = 2 by omega) with rfl | rfl | rfl
        · rw [if_pos nI_0, if_pos rfl]; exact Ans.rd h _
        · rw [if_neg (show ¬ nI 1 = (0 : Int32) by decide), if_pos (show nI 1 = (1 : Int32) from rfl)]; exact Ans.rd h _
        · rw [if_neg (show ¬ nI 2 = (0 : Int32) by decide), if_neg (show ¬ nI 2 = (1 : Int32) by decide)]; exact Ans.rd h _
/-- an answer with no throw -/
def Anq (σ : Sto) (g z : Nat) (Q : Nat → Prop) (F : Option (Int32 × Sto)) (v : Int32) (A : Ga) : Prop := ∃ t, F = some (v, t) ∧ GA t g A z Q ∧ Gz Q σ z Q t z 0 0
theorem Anq.rd (h : GA σ g A z Q) (v : Int32) : Anq σ g z Q (some (v, σ)) v A := ⟨σ, rfl, h, Gz.rf⟩
theorem Anq.p7 {X : Option (Int32 × Sto)} {v : Int32} (h : GA σ g A z Q) (hX : ∃ t, X = some (v, t) ∧ PB t (g + 261) (g + 1) ∧ Fr (g + 261 + 2) 7 σ t) : Anq σ g z Q (wb X fun x4 s3 => some (x4, s3)) v A := by
  obtain ⟨t1, e1, p1, F1⟩ := hX
  obtain ⟨h2, G2⟩ := h.p7 p1 F1
  refine ⟨t1, ?_, h2, G2⟩
  rw [e1, wbs]
def aFew (A : Ga) (k : Int32) : Int32 := if k = -1 then pLn (fnd A.1) else match fnd A.1 with
  | none => -1
  | some p => if inR k p.length = true then nI (10 * (p.getD (tN k) (0, 0)).1 + (p.getD (tN k) (0, 0)).2) else -1
theorem C_fewest (h : GA σ g A z Q) (i : Iv A.1) (k : Int32) : Anq σ g z Q (F_X9_fewest σ g k) (aFew A k) A := by
  have hn2 := i.n2
  obtain ⟨O, sl, c, o1, o2⟩ := h.cw
  have hc : ∃ x a F S K, CP σ (g + 305) (g + 1) x a F S K := by
    obtain ⟨O, sl, bi, Oi, sli, h1, h2, h3, h4, h5, h6, -⟩ := h
    exact h6
  obtain ⟨x, a, F, S, K, hp⟩ := hc
  obtain ⟨t1, a', F', S', K', e1, p1, F1, r1⟩ := C_find c.1 hp i.j o2 (by omega)
  obtain ⟨h2, G2⟩ := GT.cpl h p1 F1
  have gi : gI t1 (g + 305) 0 0 = some (pLn (fnd A.1)) := gI_cel p1.1 rfl
  unfold F_X9_fewest aFew
  rw [chk_eq h.ok, h.r4, bind_some', e1, bind_some', h2.r4, bind_some', gi, bind_some', bind_some', gi, bind_some']
  by_cases hk : k = -1
  · rw [if_pos hk, if_pos hk]; exact ⟨t1, rfl, h2, G2⟩
  rw [if_neg hk, if_neg hk]
  cases hf : fnd A.1 with
  | none =>
    dsimp only
    by_cases h0 : k < 0
    · rw [if_pos h0]; exact ⟨t1, rfl, h2, G2⟩
    · rw [if_neg h0, if_neg (show ¬ k < pLn none from fun y => h0 (Int32.lt_trans y (by decide)))]; exact ⟨t1, rfl, h2, G2⟩
  | some p =>
    have hl := fnd_le (by omega) hf
    dsimp only
    rw [show pLn (some p) = nI p.length from rfl]
    refine (congrArg (fun f => Anq σ g z Q f _ A) (inR_if p.length k _ _)).mpr ?_
    cases hr : inR k p.length with
    | false => exact ⟨t1, rfl, h2, G2⟩
    | true =>
      obtain ⟨k1, k2⟩ := inR_tN (by omega) hr
      generalize tN k = k' at k1 k2
      subst k1
      obtain ⟨y1, y2⟩ := r1 p hf k' p[k'] (List.getElem?_eq_getElem k2)
      rw [if_pos rfl, if_pos rfl, bind_some', C_toldC p1 (by omega), bind_some', List.getD_eq_getElem?_getD, List.getElem?_eq_getElem k2, y1, y2]
      exact ⟨t1, rfl, h2, G2⟩
def aCnt (A : Ga) (k : Int32) : Int32 :=
  if k = 0 then nI (wC A.1 0) else if k = 1 then nI (wC A.1 1) else if k = 2 then nI (wC A.1 2) else if k = 3 then nI (sm (fun c => (wT A.1 c).length) 25) else if k = 4 then nI (wC A.1 3) else if k = 5 then nI (wC A.1 4) else if k = 6 then nI (wC A.1 5) else if k = 7 then nI (sm (fun x => fb_ct (ovC A.1 x) 25) (wC A.1 0)) else if k = 8 then oI (f3 (fun s r l => ovC A.1 s (5 * r + l)) (wC A.1 0)) else if k = 9 then nI (sm (lst A.1) (wC A.1 0)) else if k = 10 then nI (fb_ct (hba A.1) (wC A.1 2)) else if k = 11 then nI (b2 (al (fun k => al (fun e => sVw (wL A.1 (1 + k)) e == sVw (wL A.1 0) e) 128) (wC A.1 0 - 1))) else if k = 12 then nI (wC A.1 6) else if k = 13 then nI (sm (fun s => fb_ct (fun k => wcut A.1 s (s + 1 + k)) (wC A.1 0 - (s + 1))) (wC A.1 0)) else -1
theorem C_count (h : GA σ g A z Q) (i : Iv A.1) (k : Int32) : Anq σ g z Q (F_X9_count σ g k) (aCnt A k) A := by
  have hn := i.j.n5
  have hn2 := i.n2
  obtain ⟨O, sl, c, o1, o2⟩ := h.cw
  obtain ⟨p, -⟩ := h.pb
  unfold F_X9_count aCnt
  rw [chk_eq h.ok, h.r0, bind_some', c.1.i0, bind_some', bind_some', c.1.i1, bind_some', bind_some', c.1.r6, bind_some', c.1.ev.g0, bind_some', bind_some', C_lettersThatWait c.1, bind_some', bind_some', c.1.i3, bind_some', bind_some', c.1.i4, bind_some', bind_some', c.1.i5, bind_some', h.r3, bind_some', bind_some', bind_some', bind_some', bind_some', C_viewsAreAlike c.1 hn (by omega), bind_some', ifb0, bind_some', c.1.i2, bind_some', bind_some', C_cutLinks c.1 hn, bind_some']
  by_cases k0 : k = 0
  · rw [if_pos k0, if_pos k0]; exact Anq.rd h _
  rw [if_neg k0, if_neg k0]
  by_cases k1 : k = 1
  · rw [if_pos k1, if_pos k1]; exact Anq.rd h _
  rw [if_neg k1, if_neg k1]
  by_cases k2 : k = 2
  · rw [if_pos k2, if_pos k2]; exact Anq.rd h _
  rw [if_neg k2, if_neg k2]
  by_cases k3 : k = 3
  · rw [if_pos k3, if_pos k3]; exact Anq.rd h _
  rw [if_neg k3, if_neg k3]
  by_cases k4 : k = 4
  · rw [if_pos k4, if_pos k4]; exact Anq.rd h _
  rw [if_neg k4, if_neg k4]
  by_cases k5 : k = 5
  · rw [if_pos k5, if_pos k5]; exact Anq.rd h _
  rw [if_neg k5, if_neg k5]
  by_cases k6 : k = 6
  · rw [if_pos k6, if_pos k6]; exact Anq.rd h _
  rw [if_neg k6, if_neg k6]
  by_cases k7 : k = 7
  · rw [if_pos k7, if_pos k7]; exact Anq.p7 h (C_overstatedCells c.1 p i.j o1 i.t0)
  rw [if_neg k7, if_neg k7]
  by_cases k8 : k = 8
  · rw [if_pos k8, if_pos k8]; exact Anq.p7 h (C_firstOverstated c.1 p i.j o1 i.t0)
  rw [if_neg k8, if_neg k8]
  by_cases k9 : k = 9
  · rw [if_pos k9, if_pos k9]; exact Anq.p7 h (C_lostInAll c.1 p i.j o1 i.le i.hs)
  rw [if_neg k9, if_neg k9]
  by_cases k10 : k = 10
  · rw [if_pos k10, if_pos k10]
    obtain ⟨t, e1, p1, F1, -⟩ := C_heldByAll c.1 p i.j o1 (by omega) (i.hs 0 (by omega))
    exact Anq.p7 h ⟨t, e1, p1, F1⟩
  rw [if_neg k10, if_neg k10]
  by_cases k11 : k = 11
  · rw [if_pos k11, if_pos k11]
    cases al (fun k => al (fun e => sVw (wL A.1 (1 + k)) e == sVw (wL A.1 0) e) 128) (wC A.1 0 - 1) with
    | false => exact Anq.rd h _
    | true => exact Anq.rd h _
  rw [if_neg k11, if_neg k11]
  by_cases k12 : k = 12
  · rw [if_pos k12, if_pos k12]; exact Anq.rd h _
  rw [if_neg k12, if_neg k12]
  by_cases k13 : k = 13
  · rw [if_pos k13, if_pos k13]; exact Anq.rd h _
  rw [if_neg k13, if_neg k13]; exact Anq.rd h _
end PUN
