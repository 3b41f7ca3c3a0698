/-! ===== PURE 25: joining; a letter composed; events come ===== -/
section ADO
variable {σ : Sto} {p q r c e o x y n m : Nat} {K : Nat → Nat} {v : Ev} {s z : St} {l l2 : Lt}
theorem C_setH (h : SI σ p s) {t : Sto} {f : Nat → Bool} (hE : ES t (p + 2) f) (hF : Fr (p + 2) 1 σ t) (hf : ∀ e, e < 120 → f e = true → sHs s e = true) : SI t p (sTb s, f, sVw s, sLg s, sWh s, sBy s) ∧ Fr p 7 σ t := by
  obtain ⟨lf, tf, hf', bf, h1, h2, h3, h4, h5, h6, h7, h8, h9, h10, h11⟩ := h
  exact ⟨⟨lf, tf, hf', bf, (hF.at (by omega)).trans h1, h2.cg (hF.at (by omega)), hE, h4.cg (hF.at (by omega)), h5.cg (hF.at (by omega)), h6.cg (hF.at (by omega)), h7.cg (hF.at (by omega)), h8, h9, fun e he hh => h10 e he (hf e he hh), h11⟩, hF.mo (by omega) (by omega)⟩
theorem C_tcopy (h : SI σ p s) {g : Nat → Nat} {sp dp k N : Nat} (hg : IA σ q N g) (hN : N < 2 ^ 31) (h1 : sp + k ≤ N) (h2 : dp + k ≤ 25) (hq : q < p ∨ p + 7 ≤ q) : ∃ t, acp σ q (nI sp) (p + 4) (nI dp) (nI k) = some t ∧ SI t p (sTb' s (fun i => if dp ≤ i ∧ i < dp + k then g (sp + (i - dp)) else sTb s i)) ∧ Fr p 7 σ t := by
  obtain ⟨lf, tf, hf', bf, a1, a2, a3, a4, a5, a6, a7, a8, a9, a10, a11⟩ := h
  obtain ⟨t, e1, i1, f1⟩ := hg.cp a5 h1 h2 hN (by decide)
  refine ⟨t, e1, ⟨lf, _, hf', bf, (f1.at (by omega)).trans a1, a2.cg (f1.at (by omega)), a3.cg (f1.at (by omega)), a4.cg (f1.at (by omega)), i1, a6.cg (f1.at (by omega)), a7.cg (f1.at (by omega)), a8, fun i hi => ?_, a10, a11⟩, f1.mo (by omega) (by omega)⟩
  show cpN g tf sp dp k i = if dp ≤ i ∧ i < dp + k then g (sp + (i - dp)) else sTb s i
  unfold cpN
  split
  · rfl
  · exact a9 i hi
theorem jfold_cut (z : St) (h : Hw) (P y : Nat) {came : Nat} (hz : ∀ e, sHs z e = true → e < came) : ∀ k, (List.range (came + k)).foldl (fun h e => if sHs z e then gn h e P y else h) h = (List.range came).foldl (fun h e => if sHs z e then gn h e P y else h) h := by
  intro k
  induction k with
  | zero => rfl
  | succ k ih =>
    rw [← Nat.add_assoc, List.range_succ, List.foldl_append, ih]
    show (if sHs z (came + k) = true then _ else _) = _
    rw [if_neg (fun h => by have := hz _ h; omega)]
theorem gn_mono (h : Hw) (e P y x : Nat) (hx : h.1 x = true) : (gn h e P y).1 x = true := by
  unfold gn
  split
  · exact hx
  · show up h.1 e true x = true
    unfold up
    split
    · rfl
    · exact hx
theorem gn_has (h : Hw) (e P y : Nat) : (gn h e P y).1 e = true := by
  unfold gn
  by_cases hb : h.1 e = true
  · rw [if_pos hb]; exact hb
  · rw [if_neg hb]; exact up_s _ _ _
theorem jfold_has (z : St) (P y : Nat) : ∀ (n : Nat) (h : Hw) (e : Nat), e < n → sHs z e = true → ((List.range n).foldl (fun h e => if sHs z e then gn h e P y else h) h).1 e = true := by
  intro n
  induction n with
  | zero => intro h e he; omega
  | succ n ih =>
    intro h e he hz
    rw [List.range_succ, List.foldl_append]
    show (if sHs z n = true then gn _ n P y else _).1 e = true
    by_cases hen : e = n
    · subst hen
      rw [if_pos hz]; exact gn_has _ _ _ _
    · have := ih h e (by omega) hz
      split
      · exact gn_mono _ _ _ _ _ this
      · exact this
theorem C_adopt (h : SI σ p s) (hz : SI σ q z) (hpq : p + 7 ≤ q ∨ q + 7 ≤ p) {me fr clk stp' came : Nat} (hme : me < 5) (hfr : fr < 5) (hzc : ∀ e, sHs z e = true → e < came) (hc : came ≤ 120) (hz0 : ∀ i, i < 25 → n ≤ i % 5 → sTb z i = 0) : ∃ t, F_X6_adopt σ p q (nI me) (nI fr) (nI clk) (nI stp') = some t ∧ SI t p (jst me fr n stp' clk came s z) ∧ Fr p 7 σ t := by
  obtain ⟨t1, e1, i1, f1⟩ := X_copyOf h.vw hz.vw (by omega)
  obtain ⟨h1, f1'⟩ := C_setV h i1 f1
  have z1 := hz.fr f1' (by omega)
  obtain ⟨t2, e2, h2, f2⟩ := C_copyLog h1 z1 hpq
  have z2 := z1.fr f2 (by omega)
  obtain ⟨t3, e3, -, h3, f3⟩ := SI.each (p := p) (σ := t2) (fun f j t => F_X6_adopt_L19 p q (nI fr) (nI stp') f (nI j) t (fun s8 =>
      (gR s8 p 6 1).bind fun p9 =>
      (gR s8 q 6 1).bind fun p10 =>
      (F_X1_copyOf s8 p9 p10).bind fun s11 =>
      (gR s11 q 6 4).bind fun p12 =>
      (gR s11 p 6 4).bind fun p13 =>
      (acp s11 p12 (0 : Int32) p13 (0 : Int32) (25 : Int32)).bind fun s14 =>
      (gR s14 q 6 4).bind fun p15 =>
      (F_X9_cell (nI fr) (0 : Int32)).bind fun x16 =>
      (gR s14 p 6 4).bind fun p17 =>
      (F_X9_cell (nI me) (0 : Int32)).bind fun x18 =>
      (acp s14 p15 x16 p17 x18 (5 : Int32)).bind fun s19 =>
      (gR s19 p 6 4).bind fun p20 =>
      (F_X9_cell (nI me) (nI me)).bind fun x21 =>
      (iast s19 p20 x21 (nI clk)).bind fun s22 =>
      some s22)) (fun s8 =>
      (gR s8 p 6 1).bind fun p9 =>
      (gR s8 q 6 1).bind fun p10 =>
      (F_X1_copyOf s8 p9 p10).bind fun s11 =>
      (gR s11 q 6 4).bind fun p12 =>
      (gR s11 p 6 4).bind fun p13 =>
      (acp s11 p12 (0 : Int32) p13 (0 : Int32) (25 : Int32)).bind fun s14 =>
      (gR s14 q 6 4).bind fun p15 =>
      (F_X9_cell (nI fr) (0 : Int32)).bind fun x16 =>
      (gR s14 p 6 4).bind fun p17 =>
      (F_X9_cell (nI me) (0 : Int32)).bind fun x18 =>
      (acp s14 p15 x16 p17 x18 (5 : Int32)).bind fun s19 =>
      (gR s19 p 6 4).bind fun p20 =>
      (F_X9_cell (nI me) (nI me)).bind fun x21 =>
      (iast s19 p20 x21 (nI clk)).bind fun s22 =>
      some s22) (fun st e => if sHs z e then hwS st (gn (sHw st) e stp' fr) else st) (List.range 120) 0 (fun _ _ => True) (by unfold fu; rw [List.length_range]; omega) (by
    intro j f t st hj _ hS hF
    rw [List.length_range] at hj
    rw [List.getElem_range, Nat.zero_add]
    have z3 := z2.fr hF (by omega)
    have hh := X_holds z3.hs (show j < 128 by omega)
    by_cases hb : sHs z j = true
    · obtain ⟨t4, e4, i4, f4⟩ := C_gain (x := stp') (y := fr) hS hj
      refine ⟨t4, trivial, ?_, f4, ?_⟩
      · rw [if_pos hb]; exact i4
      · rw [F_X6_adopt_L19]
        simp (disch := omega) only [l_0, l_1, l_2, l_3, l_4, l_5, l_6, l_7, l_8, l_9, l_10, l_12, l_25, l_29, l_33, l_34, l_120, l_122, l_147, l_154, l_274, l_394, l_395, l_789, l_3953, l_5153, l_5178, l_49278, l_49279, l_49280, bind_some', jn_eq, nI_add, pk_mul, nI_leI, nI_ltI, nI_eq, ifb, ifz, R_flag0, R_flag1, R_flag, if_true, if_false, if_neg, z3.g1, hh, hb, e4]
    · have hb2 : sHs z j = false := by simpa using hb
      refine ⟨t, trivial, ?_, Fr.rf, ?_⟩
      · rw [if_neg hb]; exact hS
      · rw [F_X6_adopt_L19]
        simp (disch := omega) only [l_0, l_1, l_2, l_3, l_4, l_5, l_6, l_7, l_8, l_9, l_10, l_12, l_25, l_29, l_33, l_34, l_120, l_122, l_147, l_154, l_274, l_394, l_395, l_789, l_3953, l_5153, l_5178, l_49278, l_49279, l_49280, bind_some', jn_eq, nI_add, pk_mul, nI_leI, nI_ltI, nI_eq, ifb, ifz, R_flag0, R_flag1, R_flag, if_true, if_false, if_neg, z3.g1, hh, hb2]
        rfl) (by
    intro f t st _ _ _
    rw [F_X6_adopt_L19, List.length_range, Nat.zero_add, l_120, if_pos (nI_le (Nat.le_refl _) (by omega))]) trivial h2
  have k3 : ∀ (Q : List Nat) (st : St), Q.foldl (fun st e => if sHs z e then hwS st (gn (sHw st) e stp' fr) else st) st = hwS st (Q.foldl (fun h e => if sHs z e then gn h e stp' fr else h) (sHw st)) := by
    intro Q; induction Q with
    | nil => intro st; rfl
    | cons e Q ih =>
      intro st
      rw [List.foldl_cons, ih, List.foldl_cons]
      by_cases hb : sHs z e = true
      · rw [if_pos hb, if_pos hb]; rfl
      · rw [if_neg hb, if_neg hb]
  have hcut := jfold_cut z (sHw s) stp' fr hzc (120 - came)
  rw [show came + (120 - came) = 120 by omega] at hcut
  rw [k3, show sHw (sLg' (sVw' s (sVw z)) (sLg z)) = sHw s from rfl, hcut] at h3
  generalize hH : (List.range came).foldl (fun h e => if sHs z e then gn h e stp' fr else h) (sHw s) = H at h3
  have hHh : ∀ e, e < 120 → sHs z e = true → H.1 e = true := fun e _ he => by rw [← hH]; exact jfold_has z _ _ _ _ _ (hzc e he) he
  have z3 := z2.fr f3 (by omega)
  obtain ⟨t4, e4, i4, f4⟩ := X_copyOf h3.hs z3.hs (by omega)
  obtain ⟨h4, f4'⟩ := C_setH h3 i4 f4 hHh
  have z4 := z3.fr f4' (by omega)
  obtain ⟨lf', tf', hf', bf', w1, w2, w3, w4, w5, w6, w7, w8, w9, w10, w11⟩ := id z4
  obtain ⟨t5, e5, h5, f5⟩ := C_tcopy h4 (sp := 0) (dp := 0) (k := 25) w5 (by decide) (by omega) (by omega) (by omega)
  have z5 := z4.fr f5 (by omega)
  have w5' : IA t5 (q + 4) 25 tf' := w5.cg (f5.at (by omega))
  obtain ⟨t6, e6, h6, f6⟩ := C_tcopy h5 (sp := 5 * fr) (dp := 5 * me) (k := 5) w5' (by decide) (by omega) (by omega) (by omega)
  obtain ⟨t7, e7, h7, f7⟩ := C_tset h6 (i := 5 * me + me) clk (by omega)
  refine ⟨t7, ?_, ?_, f1'.tr (f2.tr (f3.tr (f4'.tr (f5.tr (f6.tr f7)))))⟩
  · unfold F_X6_adopt
    rw [chk_eq h.ok, h.g0, bind_some', hz.g0, bind_some', e1, bind_some', e2, bind_some', l_0]
    rw [l_0] at e3
    rw [e3]
    have cell0 : ∀ a, F_X9_cell (nI a) (nI 0) = some (nI (5 * a)) := fun a => by unfold F_X9_cell; rw [l_5, pk_mul, nI_add, Nat.add_zero, Nat.mul_comm]
    have cellm : F_X9_cell (nI me) (nI me) = some (nI (5 * me + me)) := by unfold F_X9_cell; rw [l_5, pk_mul, nI_add, Nat.mul_comm]
    rw [h3.g1, bind_some', z3.g1, bind_some', e4, bind_some', z4.g4, bind_some', h4.g4, bind_some', l_25, e5, bind_some', z5.g4, bind_some', cell0, bind_some', h5.g4, bind_some', cell0, bind_some', l_5, e6, bind_some', h6.g4, bind_some', cellm, bind_some', e7]
    rfl
  · unfold jst
    dsimp only
    rw [hH]
    refine h7.tbc (fun i hi => ?_)
    show up _ (5 * me + me) clk i = up (fun i => if 5 * me ≤ i ∧ i < 5 * me + 5 then tf' (5 * fr + (i - 5 * me)) else if 0 ≤ i ∧ i < 0 + 25 then tf' (0 + (i - 0)) else _) (5 * me + me) clk i
    unfold up
    by_cases h1 : i = 5 * me + me
    · rw [if_pos h1, if_pos h1]
    · rw [if_neg h1, if_neg h1]
      dsimp only
      by_cases h2 : i / 5 = me
      · rw [if_pos (show 5 * me ≤ i ∧ i < 5 * me + 5 by omega), w9 _ (by omega), show 5 * fr + (i - 5 * me) = 5 * fr + i % 5 by omega]
        by_cases h3 : i % 5 < n
        · rw [if_pos (show i / 5 = me ∧ i % 5 < n from ⟨h2, h3⟩)]
        · rw [if_neg (show ¬ (i / 5 = me ∧ i % 5 < n) from fun z => h3 z.2), hz0 i hi (by omega), hz0 (5 * fr + i % 5) (by omega) (by omega)]
      · rw [if_neg (show ¬ (i / 5 = me ∧ i % 5 < n) from fun z => h2 z.1), if_neg (show ¬ (5 * me ≤ i ∧ i < 5 * me + 5) by omega), if_pos (show 0 ≤ i ∧ i < 0 + 25 by omega), Nat.zero_add, Nat.sub_zero, w9 i hi]
theorem C_sitesThatKnow (h : SI σ p s) (g : EE σ q c K v) (b : Bv v c) (hj : ∀ i, i < 25 → sTb s i ≤ 120) (hn : n ≤ 5) (he : e < c) : F_X6_sitesThatKnow σ p q (nI e) (nI n) = some (nI (fb_ct (fun o => knw v s o e) n)) := by
  unfold F_X6_sitesThatKnow
  rw [chk_eq h.ok]
  refine lup (fun f j => F_X6_sitesThatKnow_L6 σ p q (nI e) (nI n) f (nI (fb_ct (fun o => knw v s o e) j)) (nI j) (fun x => some x)) n _ ?_ ?_ fu (by unfold fu; omega)
  · intro j f hjn
    rw [F_X6_sitesThatKnow_L6]
    simp (disch := omega) only [l_0, l_1, l_2, l_3, l_4, l_5, l_6, l_7, l_8, l_9, l_10, l_12, l_25, l_29, l_33, l_34, l_120, l_122, l_147, l_154, l_274, l_394, l_395, l_789, l_3953, l_5153, l_5178, l_49278, l_49279, l_49280, bind_some', jn_eq, nI_add, pk_mul, nI_leI, nI_ltI, nI_eq, ifb, ifz, R_flag0, R_flag1, R_flag, if_true, if_false, if_neg, C_isKnown h g b hj (show j < 5 by omega) he]
    rw [fb_ct_succ]
    cases knw v s j e <;> rfl
  · intro f
    rw [F_X6_sitesThatKnow_L6, if_pos (nI_le (Nat.le_refl _) (by omega))]
theorem C_logHolds (h : SI σ p s) (hm : ∀ e ∈ sLg s, e < 120) (he : e < 120) : F_X6_logHolds σ p (nI e) = some (nI (b2 ((sLg s).contains e))) := by
  have hll := h.ll
  unfold F_X6_logHolds
  rw [chk_eq h.ok]
  refine (lex (fun f k => F_X6_logHolds_L2 σ p (nI e) f (nI k) (some (nI 0))) (fun k => (sLg s)[k]? == some e) (sLg s).length (some (nI 0)) (some (nI 1)) ?_ ?_ fu (by unfold fu; omega)).trans ?_
  · intro k f hk
    have h3 := hm _ (List.getElem_mem hk)
    rw [F_X6_logHolds_L2]
    simp (disch := omega) only [l_0, l_1, l_2, l_3, l_4, l_5, l_6, l_7, l_8, l_9, l_10, l_12, l_25, l_29, l_33, l_34, l_120, l_122, l_147, l_154, l_274, l_394, l_395, l_789, l_3953, l_5153, l_5178, l_49278, l_49279, l_49280, bind_some', jn_eq, nI_add, pk_mul, nI_leI, nI_ltI, nI_eq, ifb, ifz, R_flag0, R_flag1, R_flag, if_true, if_false, h.g3, if_neg, h.g2, h.rl hk]
    rw [List.getElem?_eq_getElem hk]
    by_cases h4 : (sLg s)[k] = e
    · simp [h4]
    · simp [h4]
  · intro f
    rw [F_X6_logHolds_L2, h.g3, bind_some', if_pos (nI_le (Nat.le_refl _) (by omega))]
  · rw [ifT]
    congr 3
    rw [Bool.eq_iff_iff, ex_iff, List.contains_iff_mem, List.mem_iff_getElem?]
    constructor
    · rintro ⟨k, _, h4⟩; exact ⟨k, by simpa using h4⟩
    · rintro ⟨k, h4⟩; exact ⟨k, (List.getElem?_eq_some_iff.mp h4).1, by simp [h4]⟩
/-- a site's own event -/
theorem C_ownEvent (h : SI σ p s) (g : EE σ q c K v) (b : Bv v c) (he : e < c) (hl : (sLg s).length < 120) (hpq : p + 7 ≤ q ∨ q + 129 ≤ p) : ∃ t, F_X6_ownEvent σ p q (nI e) = some t ∧ SI t p (sLg' (hwS (sTb' s (up (sTb s) (5 * eS v e + eS v e) (eT v e))) (gn (sHw s) e (eP v e) (eS v e))) (sLg s ++ [e])) ∧ Fr p 7 σ t := by
  have hc := b.1
  have h5 := (b.2 e he).1
  obtain ⟨t1, e1, h1, f1⟩ := C_tset h (i := 5 * eS v e + eS v e) (eT v e) (by omega)
  have g1 := g.fr f1 (by omega)
  obtain ⟨t2, e2, h2, f2⟩ := C_gain (x := eP v e) (y := eS v e) h1 (show e < 120 by omega)
  obtain ⟨t3, e3, h3, f3⟩ := C_appendToLog (e := e) h2 hl
  refine ⟨t3, ?_, h3, f1.tr (f2.tr f3)⟩
  have cellm : F_X9_cell (nI (eS v e)) (nI (eS v e)) = some (nI (5 * eS v e + eS v e)) := by unfold F_X9_cell; rw [l_5, pk_mul, nI_add, Nat.mul_comm]
  unfold F_X6_ownEvent
  rw [chk_eq h.ok, g.g2, bind_some', g.rS b he, bind_some', h.g4, bind_some', cellm, bind_some', g.g3, bind_some', g.rT b he, bind_some', e1, bind_some', g1.g6, bind_some', g1.rP b he, bind_some', e2, bind_some', e3]
  rfl
/-! letters -/
theorem contains_app (L : List Nat) (e x : Nat) : (L ++ [e]).contains x = up (fun x => L.contains x) e true x := by
  unfold up
  by_cases hx : x = e
  · subst hx; rw [if_pos rfl]; simp
  · rw [if_neg hx]
    simp [hx]
theorem C_ladd (h : LE σ r x o l) (he : e < 120) (hl : (lEv l).length < 120) : ∃ t1 t2 t3, iast σ (r + 2) (nI (lEv l).length) (nI e) = some t1 ∧ gI t1 r 3 3 = some (nI (lEv l).length) ∧ sV t1 r 3 3 (.int (nI ((lEv l).length + 1))) = some t2 ∧ gR t2 r 3 5 = some (r + 1) ∧ F_X1_insert t2 (r + 1) (nI e) = some t3 ∧ LE t3 r x o (lMd l, lEv l ++ [e], lTb l) ∧ Fr r 4 σ t1 ∧ Fr r 4 σ t2 ∧ Fr r 4 σ t3 := by
  obtain ⟨ef, tf, h1, h2, h3, h4, h5, h6, h7⟩ := id h
  obtain ⟨t1, e1, i1, f1⟩ := h2.wr (j := (lEv l).length) (v := e) hl (by decide)
  have o1 : cel t1 r = some (.inl (3, lO3 r x o (lMd l) (lEv l).length)) := (f1.at (by omega)).trans h1
  have o2 : cel (stc t1 r (.inl (3, lO3 r x o (lMd l) ((lEv l).length + 1)))) r = some (.inl (3, lO3 r x o (lMd l) ((lEv l).length + 1))) := cel_stc_s o1
  have n2 : ∀ i, i ≠ r → cel (stc t1 r (.inl (3, lO3 r x o (lMd l) ((lEv l).length + 1)))) i = cel t1 i := fun i hi => cel_stc_n o1 hi
  have s2 : ES (stc t1 r (.inl (3, lO3 r x o (lMd l) ((lEv l).length + 1)))) (r + 1) (fun e => (lEv l).contains e) := (h3.cg (f1.at (by omega))).cg (n2 _ (by omega))
  obtain ⟨t3, e3, i3, f3⟩ := X_insert s2 (show e < 128 by omega)
  have f2 : Fr r 4 σ (stc t1 r (.inl (3, lO3 r x o (lMd l) ((lEv l).length + 1)))) := (f1.mo (by omega) (by omega)).tr (Fr.st o1 (by omega) (by omega))
  refine ⟨t1, _, t3, e1, gI_cel o1 rfl, sV_cel o1 (Nat.le_of_ble_eq_true rfl), gR_cel o2 rfl, e3, ⟨upN ef (lEv l).length e, tf, ?_, ?_, ?_, ?_, fun i x hx => ?_, h6, ?_⟩, f1.mo (by omega) (by omega), f2, f2.tr (f3.mo (by omega) (by omega))⟩
  · rw [f3.at (by omega), o2]
    show _ = some (Sum.inl (3, lO3 r x o (lMd l) (lEv l ++ [e]).length))
    rw [List.length_append]; rfl
  · exact (i1.cg (n2 _ (by omega))).cg (f3.at (by omega))
  · refine i3.ex (fun z _ => ?_)
    show (lEv l ++ [e]).contains z = _
    exact contains_app _ _ _
  · exact ((h4.cg (f1.at (by omega))).cg (n2 _ (by omega))).cg (f3.at (by omega))
  · have hx' : (lEv l ++ [e])[i]? = some x := hx
    rw [List.getElem?_append] at hx'
    by_cases hi : i < (lEv l).length
    · rw [if_pos hi] at hx'
      rw [upN_n (by omega)]; exact h5 i x hx'
    · rw [if_neg hi] at hx'
      have h12 := (List.getElem?_eq_some_iff.mp hx').1
      have h13 : i = (lEv l).length := by simp at h12; omega
      subst h13
      rw [upN_s]
      simpa using hx'
  · show (lEv l ++ [e]).length ≤ 120
    rw [List.length_append]; show _ + 1 ≤ 120; omega
theorem C_compose {x0 o0 : Nat} (h : LE σ r x0 o0 l) (hs : SI σ p s) (g : EE σ q c K v) (b : Bv v c) (hj : Js c s) (ho : o < 5) (hrp : r + 4 ≤ p ∨ p + 7 ≤ r) (hrq : r + 4 ≤ q ∨ q + 129 ≤ r) : ∃ t, F_X3_compose σ r p q (nI x) (nI o) (nI m) = some t ∧ LE t r x o (ltr v m s o) ∧ Fr r 4 σ t := by
  have hc := b.1
  have hlg := hj.lg
  obtain ⟨ef, tf, h1, h2, h3, h4, h5, h6, h7⟩ := id h
  have q1 : cel (stc σ r (.inl (3, lO3 r x o0 (lMd l) (lEv l).length))) r = some (.inl (3, lO3 r x o0 (lMd l) (lEv l).length)) := cel_stc_s h1
  have q2 : cel (stc (stc σ r (.inl (3, lO3 r x o0 (lMd l) (lEv l).length))) r (.inl (3, lO3 r x o (lMd l) (lEv l).length))) r = some (.inl (3, lO3 r x o (lMd l) (lEv l).length)) := cel_stc_s q1
  have q3 : cel (stc (stc (stc σ r (.inl (3, lO3 r x o0 (lMd l) (lEv l).length))) r (.inl (3, lO3 r x o (lMd l) (lEv l).length))) r (.inl (3, lO3 r x o m (lEv l).length))) r = some (.inl (3, lO3 r x o m (lEv l).length)) := cel_stc_s q2
  generalize hS4 : stc (stc (stc (stc σ r (.inl (3, lO3 r x o0 (lMd l) (lEv l).length))) r (.inl (3, lO3 r x o (lMd l) (lEv l).length))) r (.inl (3, lO3 r x o m (lEv l).length))) r (.inl (3, lO3 r x o m 0)) = S4
  have q4 : cel S4 r = some (.inl (3, lO3 r x o m 0)) := by rw [← hS4]; exact cel_stc_s q3
  have n4 : ∀ i, i ≠ r → cel S4 i = cel σ i := fun i hi => by
    rw [← hS4, cel_stc_n q3 hi, cel_stc_n q2 hi, cel_stc_n q1 hi, cel_stc_n h1 hi]
  have F4 : Fr r 4 σ S4 := by
    rw [← hS4]
    exact (((Fr.st h1 (by omega) (by omega)).tr (Fr.st q1 (by omega) (by omega))).tr (Fr.st q2 (by omega) (by omega))).tr (Fr.st q3 (by omega) (by omega))
  obtain ⟨t5, e5, i5, f5⟩ := X_clear (h3.cg (n4 (r + 1) (by omega)))
  have L5 : LE t5 r x o (m, [], lTb l) := by
    refine ⟨ef, tf, (f5.at (by omega)).trans q4, (h2.cg (n4 _ (by omega))).cg (f5.at (by omega)), ?_, (h4.cg (n4 _ (by omega))).cg (f5.at (by omega)), fun i x hx => ?_, h6, ?_⟩
    · exact i5.ex (fun e _ => rfl)
    · have hx' : ([] : List Nat)[i]? = some x := hx
      simp at hx'
    · show ([] : List Nat).length ≤ 120
      decide
  have F5 : Fr r 4 σ t5 := F4.tr (f5.mo (by omega) (by omega))
  obtain ⟨t6, ⟨L6, F6⟩, e6⟩ := lpS (fun f j t => F_X3_compose_L32 r p q (nI o) f (nI j) t (fun s22 =>
      (gR s22 p 6 4).bind fun p23 =>
      (gR s22 r 3 6).bind fun p24 =>
      (acp s22 p23 (0 : Int32) p24 (0 : Int32) (25 : Int32)).bind fun s25 =>
      some s25)) (fun s22 =>
      (gR s22 p 6 4).bind fun p23 =>
      (gR s22 r 3 6).bind fun p24 =>
      (acp s22 p23 (0 : Int32) p24 (0 : Int32) (25 : Int32)).bind fun s25 =>
      some s25) (fun j t => LE t r x o (m, ((sLg s).take j).filter (fun e => !knw v s o e), lTb l) ∧ Fr r 4 σ t) (sLg s).length (by
    intro j f t hjn ⟨hL, hF⟩
    have s1 := hs.fr hF (by omega)
    have g1 := g.fr hF (by omega)
    have hec := hj.lm (List.getElem_mem hjn)
    have hk := C_isKnown s1 g1 b (fun i hi => hj.tb hi) ho hec
    have hfl := filt_len (fun e => !knw v s o e) (sLg s) j
    by_cases hb : knw v s o (sLg s)[j] = true
    · refine ⟨t, ⟨?_, hF⟩, ?_⟩
      · rw [tk_filt _ hjn, if_neg (by rw [hb]; decide), List.append_nil]; exact hL
      · rw [F_X3_compose_L32]
        simp (disch := omega) only [l_0, l_1, l_2, l_3, l_4, l_5, l_6, l_7, l_8, l_9, l_10, l_12, l_25, l_29, l_33, l_34, l_120, l_122, l_147, l_154, l_274, l_394, l_395, l_789, l_3953, l_5153, l_5178, l_49278, l_49279, l_49280, bind_some', jn_eq, nI_add, pk_mul, nI_leI, nI_ltI, nI_eq, ifb, ifz, R_flag0, R_flag1, R_flag, if_true, if_false, s1.g3, if_neg, s1.g2, s1.rl hjn, hk, hb]
    · have hb2 : knw v s o (sLg s)[j] = false := by simpa using hb
      obtain ⟨u1, u2, u3, a1, a2, a3, a4, a5, a6, a7, a8, a9⟩ := C_ladd (e := (sLg s)[j]) hL (by omega) (by
        show (((sLg s).take j).filter (fun e => !knw v s o e)).length < 120
        omega)
      have s2 := hs.fr (hF.tr a8) (by omega)
      have hg3 := hL.g3
      rw [show lEv (m, ((sLg s).take j).filter (fun e => !knw v s o e), lTb l) = ((sLg s).take j).filter (fun e => !knw v s o e) from rfl] at a1 a2 a3 hg3
      refine ⟨u3, ⟨?_, hF.tr a9⟩, ?_⟩
      · rw [tk_filt _ hjn, if_pos (by rw [hb2]; rfl)]; exact a6
      · rw [F_X3_compose_L32]
        simp (disch := omega) only [l_0, l_1, l_2, l_3, l_4, l_5, l_6, l_7, l_8, l_9, l_10, l_12, l_25, l_29, l_33, l_34, l_120, l_122, l_147, l_154, l_274, l_394, l_395, l_789, l_3953, l_5153, l_5178, l_49278, l_49279, l_49280, bind_some', jn_eq, nI_add, pk_mul, nI_leI, nI_ltI, nI_eq, ifb, ifz, R_flag0, R_flag1, R_flag, if_true, if_false, s1.g3, if_neg, s1.g2, s1.rl hjn, hk, hb2, hL.g4, hg3, a1, a2, a3, a4, s2.g2, s2.rl hjn, a5]
        rfl) (by
    intro f t ⟨hL, hF⟩
    have s1 := hs.fr hF (by omega)
    rw [F_X3_compose_L32, s1.g3, bind_some', if_pos (nI_le (Nat.le_refl _) (by omega))]) fu t5 (by unfold fu; omega) ⟨by rw [List.take_zero]; exact L5, F5⟩
  rw [List.take_length] at L6
  have s6 := hs.fr F6 (by omega)
  obtain ⟨lf', tf', hf', bf', w1, w2, w3, w4, w5, w6, w7, w8, w9, w10, w11⟩ := id s6
  obtain ⟨ef6, tf6, b1, b2', b3, b4, b5, b6, b7⟩ := id L6
  obtain ⟨t7, e7, i7, f7⟩ := w5.cp b4 (sp := 0) (dp := 0) (k := 25) (by omega) (by omega) (by decide) (by decide)
  refine ⟨t7, ?_, ⟨ef6, _, (f7.at (by omega)).trans b1, b2'.cg (f7.at (by omega)), b3.cg (f7.at (by omega)), i7, b5, fun i hi => ?_, b7⟩, F6.tr (f7.mo (by omega) (by omega))⟩
  · unfold F_X3_compose
    rw [chk_eq h.ok, sV_cel h1 (Nat.le_of_ble_eq_true rfl), bind_some', show (lO3 r x0 o0 (lMd l) (lEv l).length).set 0 (.int (nI x)) = lO3 r x o0 (lMd l) (lEv l).length from rfl, sV_cel q1 (Nat.le_of_ble_eq_true rfl), bind_some', show (lO3 r x o0 (lMd l) (lEv l).length).set 1 (.int (nI o)) = lO3 r x o (lMd l) (lEv l).length from rfl, sV_cel q2 (Nat.le_of_ble_eq_true rfl), bind_some', show (lO3 r x o (lMd l) (lEv l).length).set 2 (.int (nI m)) = lO3 r x o m (lEv l).length from rfl, l_0, sV_cel q3 (Nat.le_of_ble_eq_true rfl), bind_some', show (lO3 r x o m (lEv l).length).set 3 (.int (nI 0)) = lO3 r x o m 0 from rfl, hS4, gR_cel q4 rfl, bind_some', e5, bind_some']
    rw [l_0] at e6
    rw [e6, s6.g4, bind_some', L6.g6, bind_some', l_25, e7]
    rfl
  · show cpN tf' tf6 0 0 25 i = sTb s i
    unfold cpN
    rw [if_pos (by omega), Nat.zero_add, Nat.sub_zero]
    exact w9 i hi
theorem C_letterCopy {x0 o0 : Nat} (h : LE σ r x0 o0 l) (h2 : LE σ q x o l2) (hrq : r + 4 ≤ q ∨ q + 4 ≤ r) : ∃ t, F_X3_copyOf σ r q = some t ∧ LE t r x o l2 ∧ Fr r 4 σ t := by
  obtain ⟨ef, tf, a1, a2, a3, a4, a5, a6, a7⟩ := id h
  obtain ⟨ef2, tf2, b1, b2', b3, b4, b5, b6, b7⟩ := id h2
  have q1 : cel (stc σ r (.inl (3, lO3 r x o0 (lMd l) (lEv l).length))) r = some (.inl (3, lO3 r x o0 (lMd l) (lEv l).length)) := cel_stc_s a1
  have q2 : cel (stc (stc σ r (.inl (3, lO3 r x o0 (lMd l) (lEv l).length))) r (.inl (3, lO3 r x o (lMd l) (lEv l).length))) r = some (.inl (3, lO3 r x o (lMd l) (lEv l).length)) := cel_stc_s q1
  have q3 : cel (stc (stc (stc σ r (.inl (3, lO3 r x o0 (lMd l) (lEv l).length))) r (.inl (3, lO3 r x o (lMd l) (lEv l).length))) r (.inl (3, lO3 r x o (lMd l2) (lEv l).length))) r = some (.inl (3, lO3 r x o (lMd l2) (lEv l).length)) := cel_stc_s q2
  have c1 : cel (stc σ r (.inl (3, lO3 r x o0 (lMd l) (lEv l).length))) q = some (.inl (3, lO3 q x o (lMd l2) (lEv l2).length)) := (cel_stc_n a1 (by omega)).trans b1
  have c2 : cel (stc (stc σ r (.inl (3, lO3 r x o0 (lMd l) (lEv l).length))) r (.inl (3, lO3 r x o (lMd l) (lEv l).length))) q = some (.inl (3, lO3 q x o (lMd l2) (lEv l2).length)) := (cel_stc_n q1 (by omega)).trans c1
  have c3 : cel (stc (stc (stc σ r (.inl (3, lO3 r x o0 (lMd l) (lEv l).length))) r (.inl (3, lO3 r x o (lMd l) (lEv l).length))) r (.inl (3, lO3 r x o (lMd l2) (lEv l).length))) q = some (.inl (3, lO3 q x o (lMd l2) (lEv l2).length)) := (cel_stc_n q2 (by omega)).trans c2
  generalize hS4 : stc (stc (stc (stc σ r (.inl (3, lO3 r x o0 (lMd l) (lEv l).length))) r (.inl (3, lO3 r x o (lMd l) (lEv l).length))) r (.inl (3, lO3 r x o (lMd l2) (lEv l).length))) r (.inl (3, lO3 r x o (lMd l2) (lEv l2).length)) = S4
  have q4 : cel S4 r = some (.inl (3, lO3 r x o (lMd l2) (lEv l2).length)) := by rw [← hS4]; exact cel_stc_s q3
  have n4 : ∀ i, i ≠ r → cel S4 i = cel σ i := fun i hi => by
    rw [← hS4, cel_stc_n q3 hi, cel_stc_n q2 hi, cel_stc_n q1 hi, cel_stc_n a1 hi]
  have F4 : Fr r 4 σ S4 := by
    rw [← hS4]
    exact (((Fr.st a1 (by omega) (by omega)).tr (Fr.st q1 (by omega) (by omega))).tr (Fr.st q2 (by omega) (by omega))).tr (Fr.st q3 (by omega) (by omega))
  have h2' := h2.fr F4 (by omega)
  have hh4 : LE S4 r x o (lMd l2, lEv l2, lTb l) ∨ True := Or.inr trivial
  obtain ⟨t5, e5, i5, f5⟩ := (b2'.cg (n4 _ (by omega))).cp (a2.cg (n4 _ (by omega))) (sp := 0) (dp := 0) (k := (lEv l2).length) (by omega) (by omega) (by decide) (by decide)
  have es5 : ES t5 (r + 1) (fun e => (lEv l).contains e) := (a3.cg (n4 _ (by omega))).cg (f5.at (by omega))
  have h25 := h2'.fr f5 (by omega)
  obtain ⟨t6, e6, i6, f6⟩ := X_copyOf es5 h25.es (by omega)
  have h26 := h25.fr f6 (by omega)
  have tb6 : IA t6 (r + 3) 25 tf := ((a4.cg (n4 _ (by omega))).cg (f5.at (by omega))).cg (f6.at (by omega))
  have tb62 : IA t6 (q + 3) 25 tf2 := ((b4.cg (n4 _ (by omega))).cg (f5.at (by omega))).cg (f6.at (by omega))
  obtain ⟨t7, e7, i7, f7⟩ := tb62.cp tb6 (sp := 0) (dp := 0) (k := 25) (by omega) (by omega) (by decide) (by decide)
  have r5 : cel t5 r = some (.inl (3, lO3 r x o (lMd l2) (lEv l2).length)) := (f5.at (by omega)).trans q4
  have r6 : cel t6 r = some (.inl (3, lO3 r x o (lMd l2) (lEv l2).length)) := (f6.at (by omega)).trans r5
  refine ⟨t7, ?_, ⟨_, _, (f7.at (by omega)).trans r6, (i5.cg (f6.at (by omega))).cg (f7.at (by omega)), i6.cg (f7.at (by omega)), i7, fun i x hx => ?_, fun i hi => ?_, b7⟩, F4.tr ((f5.mo (by omega) (by omega)).tr ((f6.mo (by omega) (by omega)).tr (f7.mo (by omega) (by omega))))⟩
  · unfold F_X3_copyOf
    rw [chk_eq h.ok, h2.g0, bind_some', sV_cel a1 (Nat.le_of_ble_eq_true rfl), bind_some', show (lO3 r x0 o0 (lMd l) (lEv l).length).set 0 (.int (nI x)) = lO3 r x o0 (lMd l) (lEv l).length from rfl, gI_cel c1 rfl, bind_some', sV_cel q1 (Nat.le_of_ble_eq_true rfl), bind_some', show (lO3 r x o0 (lMd l) (lEv l).length).set 1 (.int (nI o)) = lO3 r x o (lMd l) (lEv l).length from rfl, gI_cel c2 rfl, bind_some', sV_cel q2 (Nat.le_of_ble_eq_true rfl), bind_some', show (lO3 r x o (lMd l) (lEv l).length).set 2 (.int (nI (lMd l2))) = lO3 r x o (lMd l2) (lEv l).length from rfl, gI_cel c3 rfl, bind_some', sV_cel q3 (Nat.le_of_ble_eq_true rfl), bind_some', show (lO3 r x o (lMd l2) (lEv l).length).set 3 (.int (nI (lEv l2).length)) = lO3 r x o (lMd l2) (lEv l2).length from rfl, hS4, h2'.g4, bind_some', gR_cel q4 rfl, bind_some', gI_cel q4 rfl, bind_some', l_0, e5, bind_some', gR_cel r5 rfl, bind_some', h25.g5, bind_some', e6, bind_some', h26.g6, bind_some', gR_cel r6 rfl, bind_some', l_25, e7]
    rfl
  · have := (List.getElem?_eq_some_iff.mp hx).1
    show cpN ef2 ef 0 0 (lEv l2).length i = x
    unfold cpN
    rw [if_pos (by omega), Nat.zero_add, Nat.sub_zero]
    exact b5 i x hx
  · show cpN tf2 tf 0 0 25 i = _
    unfold cpN
    rw [if_pos (by omega), Nat.zero_add, Nat.sub_zero]
    exact b6 i hi
end ADO
