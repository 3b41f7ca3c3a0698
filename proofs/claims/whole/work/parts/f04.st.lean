/-! ===== PURE 24: a letter comes to a site; joining; copies ===== -/
section REC
variable {σ : Sto} {p q r c e o x y n : Nat} {K : Nat → Nat} {v : Ev} {s : St} {l : Lt}
theorem C_changeView (h : SI σ p s) (g : EE σ q c K v) (b : Bv v c) (hj : Js c s) {A B : List Nat} (hl : sLg s = A ++ B) (hpq : p + 7 ≤ q ∨ q + 129 ≤ p) : ∃ t, F_X6_changeView σ p q (nI A.length) = some t ∧ SI t p (sVw' s (vOuts v B (vIns v B (sVw s)))) ∧ Fr p 7 σ t := by
  have hlg := hj.lg
  have hc := b.1
  have hll : A.length + B.length ≤ 120 := by rw [hl, List.length_append] at hlg; exact hlg
  have hget : ∀ j (hj : j < B.length), (A ++ B)[A.length + j]? = some B[j] := fun j hj => by
    rw [List.getElem?_append_right (by omega), Nat.add_sub_cancel_left, List.getElem?_eq_getElem hj]
  have rd : ∀ {t : Sto} {st : St} {j : Nat} (hjB : j < B.length), SI t p st → sLg st = sLg s → iald t (p + 3) (nI (A.length + j)) = some (nI B[j]) := by
    intro t st j hjB hS hls
    have h1 : A.length + j < (sLg st).length := by rw [hls, hl, List.length_append]; omega
    rw [hS.rl h1]
    have h2 := hget j hjB
    rw [← hl, ← hls, List.getElem?_eq_getElem h1] at h2
    rw [Option.some.inj h2]
  have hlen : (sLg s).length = A.length + B.length := by rw [hl, List.length_append]
  have hBm : ∀ j (hj : j < B.length), B[j] < c := fun j hjB => hj.lm (by rw [hl]; exact List.mem_append_right _ (List.getElem_mem hjB))
  unfold F_X6_changeView
  rw [chk_eq h.ok]
  obtain ⟨t1, e1, p1, i1, f1⟩ := SI.each (p := p) (σ := σ) (fun f j t => F_X6_changeView_L2 p q f (nI j) t (fun s9 => F_X6_changeView_L44 p q fu (nI A.length) s9 (fun s20 => some s20))) (fun t => F_X6_changeView_L44 p q fu (nI A.length) t (fun s20 => some s20)) (fun st e => if eO v e then st else sVw' st (up (sVw st) e true)) B A.length (fun _ st => sLg st = sLg s) (by unfold fu; omega) (by
    intro j f t st hjn hP hS hF
    have g1 := g.fr hF (by omega)
    have hec := hBm j hjn
    have ho := C_isOut g1 b hec
    have hg3 := hS.g3
    rw [hP, hlen] at hg3
    by_cases hb : eO v B[j] = true
    · refine ⟨t, ?_, ?_, Fr.rf, ?_⟩
      · rw [if_pos hb]; exact hP
      · rw [if_pos hb]; exact hS
      · rw [F_X6_changeView_L2]
        simp (disch := omega) only [l_0, l_1, l_2, l_3, l_4, l_5, l_6, l_7, l_8, l_9, l_10, l_12, l_25, l_29, l_33, l_34, l_120, l_122, l_147, l_154, l_274, l_394, l_395, l_789, l_3953, l_5153, l_5178, l_49278, l_49279, l_49280, bind_some', jn_eq, nI_add, pk_mul, nI_leI, nI_ltI, nI_eq, ifb, ifz, R_flag0, R_flag1, R_flag, if_true, if_false, hg3, if_neg, hS.g2, rd hjn hS hP, ho, hb]
    · have hb2 : eO v B[j] = false := by simpa using hb
      obtain ⟨t2, e2, i2, f2⟩ := X_insert hS.vw (show B[j] < 128 by omega)
      obtain ⟨i3, f3⟩ := C_setV hS i2 f2
      refine ⟨t2, ?_, ?_, f3, ?_⟩
      · rw [if_neg hb]; exact hP
      · rw [if_neg hb]; exact i3
      · rw [F_X6_changeView_L2]
        simp (disch := omega) only [l_0, l_1, l_2, l_3, l_4, l_5, l_6, l_7, l_8, l_9, l_10, l_12, l_25, l_29, l_33, l_34, l_120, l_122, l_147, l_154, l_274, l_394, l_395, l_789, l_3953, l_5153, l_5178, l_49278, l_49279, l_49280, bind_some', jn_eq, nI_add, pk_mul, nI_leI, nI_ltI, nI_eq, ifb, ifz, R_flag0, R_flag1, R_flag, if_true, if_false, hg3, if_neg, hS.g2, rd hjn hS hP, ho, hb2, hS.g0, e2]
        rfl) (by
    intro f t st hP hS hF
    have hg3 := hS.g3
    rw [hP, hlen] at hg3
    rw [F_X6_changeView_L2, hg3, bind_some', if_pos (nI_le (Nat.le_refl _) (by omega))]) rfl h
  rw [e1]
  have g1 := g.fr f1 (by omega)
  obtain ⟨t2, e2, p2, i2, f2⟩ := SI.each (p := p) (σ := t1) (fun f j t => F_X6_changeView_L44 p q f (nI j) t (fun s20 => some s20)) (fun t => some t) (fun st e => if eO v e then sVw' st (up (sVw st) (eM v e) false) else st) B A.length (fun _ st => sLg st = sLg s) (by unfold fu; omega) (by
    intro j f t st hjn hP hS hF
    have g2 := g1.fr hF (by omega)
    have hec := hBm j hjn
    have ho := C_isOut g2 b hec
    have hg3 := hS.g3
    have hm := (b.2 _ hec).2.2
    rw [hP, hlen] at hg3
    by_cases hb : eO v B[j] = true
    · obtain ⟨t2, e2, i2, f2⟩ := X_remove hS.vw (show eM v B[j] < 128 by omega)
      obtain ⟨i3, f3⟩ := C_setV hS i2 f2
      refine ⟨t2, ?_, ?_, f3, ?_⟩
      · rw [if_pos hb]; exact hP
      · rw [if_pos hb]; exact i3
      · rw [F_X6_changeView_L44]
        simp (disch := omega) only [l_0, l_1, l_2, l_3, l_4, l_5, l_6, l_7, l_8, l_9, l_10, l_12, l_25, l_29, l_33, l_34, l_120, l_122, l_147, l_154, l_274, l_394, l_395, l_789, l_3953, l_5153, l_5178, l_49278, l_49279, l_49280, bind_some', jn_eq, nI_add, pk_mul, nI_leI, nI_ltI, nI_eq, ifb, ifz, R_flag0, R_flag1, R_flag, if_true, if_false, hg3, if_neg, hS.g2, rd hjn hS hP, ho, hb, hS.g0, g2.g4, g2.rM b hec, e2]
    · have hb2 : eO v B[j] = false := by simpa using hb
      refine ⟨t, ?_, ?_, Fr.rf, ?_⟩
      · rw [if_neg hb]; exact hP
      · rw [if_neg hb]; exact hS
      · rw [F_X6_changeView_L44]
        simp (disch := omega) only [l_0, l_1, l_2, l_3, l_4, l_5, l_6, l_7, l_8, l_9, l_10, l_12, l_25, l_29, l_33, l_34, l_120, l_122, l_147, l_154, l_274, l_394, l_395, l_789, l_3953, l_5153, l_5178, l_49278, l_49279, l_49280, bind_some', jn_eq, nI_add, pk_mul, nI_leI, nI_ltI, nI_eq, ifb, ifz, R_flag0, R_flag1, R_flag, if_true, if_false, hg3, if_neg, hS.g2, rd hjn hS hP, ho, hb2]
        rfl) (by
    intro f t st hP hS hF
    have hg3 := hS.g3
    rw [hP, hlen] at hg3
    rw [F_X6_changeView_L44, hg3, bind_some', if_pos (nI_le (Nat.le_refl _) (by omega))]) p1 i1
  refine ⟨t2, e2, ?_, f1.tr f2⟩
  have k1 : ∀ (Q : List Nat) (st : St), Q.foldl (fun st e => if eO v e then st else sVw' st (up (sVw st) e true)) st = sVw' st (vIns v Q (sVw st)) := by
    intro Q; induction Q with
    | nil => intro st; rfl
    | cons e Q ih =>
      intro st
      rw [List.foldl_cons, ih]
      unfold vIns
      rw [List.foldl_cons]
      by_cases hb : eO v e = true
      · rw [if_pos hb, if_pos hb]
      · rw [if_neg hb, if_neg hb]; rfl
  have k2 : ∀ (Q : List Nat) (st : St), Q.foldl (fun st e => if eO v e then sVw' st (up (sVw st) (eM v e) false) else st) st = sVw' st (vOuts v Q (sVw st)) := by
    intro Q; induction Q with
    | nil => intro st; rfl
    | cons e Q ih =>
      intro st
      rw [List.foldl_cons, ih]
      unfold vOuts
      rw [List.foldl_cons]
      by_cases hb : eO v e = true
      · rw [if_pos hb, if_pos hb]; rfl
      · rw [if_neg hb, if_neg hb]
  rw [k2, k1] at i2
  exact i2
theorem C_receive (h : SI σ p s) (g : EE σ q c K v) (b : Bv v c) (hl : LE σ r x o l) (hj : Js c s) (hu : ∀ i, i < 25 → lTb l i ≤ 120) (hle : ∀ e ∈ lEv l, e < c) (hm : lMd l < 3) (hx : x < 5) (ho : o < 5) (hn : n ≤ 5) (hpq : p + 7 ≤ q ∨ q + 129 ≤ p) (hpr : p + 7 ≤ r ∨ r + 4 ≤ p) (hln : (sLg s).length + (frs v l s o).length ≤ 120) :
    ∃ t, F_X6_receive σ p r q (nI n) (nI y) = some (nI (frs v l s o).length, t) ∧ SI t p (rcv v n y l x o s) ∧ Fr p 7 σ t := by
  have hll := hl.ll
  have hc := b.1
  have hfm : ∀ e ∈ frs v l s o, e < c := fun e he => hle e (List.mem_filter.mp he).1
  unfold F_X6_receive
  rw [chk_eq h.ok, h.g3, bind_some', l_0]
  obtain ⟨t1, ⟨i1, f1⟩, e1⟩ := lpS (fun f j t => F_X6_receive_L9 p r q f (nI j) t (fun s10 =>
      (gI s10 p 6 3).bind fun x11 =>
      F_X6_receive_L67 p r (nI y) fu (nI (sLg s).length) s10
        (fun s17 =>
          (F_X6_changeView s17 p q (nI (sLg s).length)).bind fun s18 =>
          (F_X6_learn s18 p r q).bind fun s19 =>
          (F_X6_dropKnownToAll s19 p q (nI n)).bind fun s20 =>
          some ((x11 - (nI (sLg s).length)), s20)))) (fun s10 =>
      (gI s10 p 6 3).bind fun x11 =>
      F_X6_receive_L67 p r (nI y) fu (nI (sLg s).length) s10
        (fun s17 =>
          (F_X6_changeView s17 p q (nI (sLg s).length)).bind fun s18 =>
          (F_X6_learn s18 p r q).bind fun s19 =>
          (F_X6_dropKnownToAll s19 p q (nI n)).bind fun s20 =>
          some ((x11 - (nI (sLg s).length)), s20))) (fun j t => SI t p (sLg' s (sLg s ++ ((lEv l).take j).filter (fun e => !knw v s o e))) ∧ Fr p 7 σ t) (lEv l).length (by
    intro j f t hjn ⟨hS, hF⟩
    have g1 := g.fr hF (by omega)
    have l1 := hl.fr hF (by omega)
    have hec := hle _ (List.getElem_mem hjn)
    have hk := C_isKnown hS g1 b (fun i hi => hj.tb hi) ho hec
    rw [show knw v (sLg' s (sLg s ++ ((lEv l).take j).filter (fun e => !knw v s o e))) o (lEv l)[j] = knw v s o (lEv l)[j] from rfl] at hk
    by_cases hb : knw v s o (lEv l)[j] = true
    · refine ⟨t, ⟨?_, hF⟩, ?_⟩
      · rw [tk_filt _ hjn, if_neg (by rw [hb]; decide), List.append_nil]; exact hS
      · rw [F_X6_receive_L9]
        simp (disch := omega) only [l_0, l_1, l_2, l_3, l_4, l_5, l_6, l_7, l_8, l_9, l_10, l_12, l_25, l_29, l_33, l_34, l_120, l_122, l_147, l_154, l_274, l_394, l_395, l_789, l_3953, l_5153, l_5178, l_49278, l_49279, l_49280, bind_some', jn_eq, nI_add, pk_mul, nI_leI, nI_ltI, nI_eq, ifb, ifz, R_flag0, R_flag1, R_flag, if_true, if_false, l1.g3, if_neg, l1.g1, l1.g4, l1.re hjn, hk, hb]
    · have hb2 : knw v s o (lEv l)[j] = false := by simpa using hb
      have hlt : (sLg (sLg' s (sLg s ++ ((lEv l).take j).filter (fun e => !knw v s o e)))).length < 120 := by
        show (sLg s ++ ((lEv l).take j).filter (fun e => !knw v s o e)).length < 120
        have h1 : ((lEv l).take (j + 1)).filter (fun e => !knw v s o e) = ((lEv l).take j).filter (fun e => !knw v s o e) ++ [(lEv l)[j]] := by
          rw [tk_filt _ hjn, if_pos (by rw [hb2]; rfl)]
        have h2 : (((lEv l).take (j + 1)).filter (fun e => !knw v s o e)).length ≤ (frs v l s o).length := by
          have : List.Sublist (((lEv l).take (j + 1)).filter (fun e => !knw v s o e)) (frs v l s o) := (List.take_sublist _ _).filter _
          exact this.length_le
        rw [h1, List.length_append] at h2
        rw [List.length_append]
        have h3 : ([(lEv l)[j]] : List Nat).length = 1 := rfl
        omega
      obtain ⟨t2, e2, i2, f2⟩ := C_appendToLog (e := (lEv l)[j]) hS hlt
      refine ⟨t2, ⟨?_, hF.tr f2⟩, ?_⟩
      · rw [tk_filt _ hjn, if_pos (by rw [hb2]; rfl), ← List.append_assoc]; exact i2
      · rw [F_X6_receive_L9]
        simp (disch := omega) only [l_0, l_1, l_2, l_3, l_4, l_5, l_6, l_7, l_8, l_9, l_10, l_12, l_25, l_29, l_33, l_34, l_120, l_122, l_147, l_154, l_274, l_394, l_395, l_789, l_3953, l_5153, l_5178, l_49278, l_49279, l_49280, bind_some', jn_eq, nI_add, pk_mul, nI_leI, nI_ltI, nI_eq, ifb, ifz, R_flag0, R_flag1, R_flag, if_true, if_false, l1.g3, if_neg, l1.g1, l1.g4, l1.re hjn, hk, hb2, e2]
        rfl) (by
    intro f t ⟨hS, hF⟩
    have l1 := hl.fr hF (by omega)
    rw [F_X6_receive_L9, l1.g3, bind_some', if_pos (nI_le (Nat.le_refl _) (by omega))]) fu σ (by unfold fu; omega) ⟨by rw [List.take_zero, List.filter_nil, List.append_nil]; exact h, Fr.rf⟩
  rw [e1]
  rw [List.take_length] at i1
  have i1' : SI t1 p (sLg' s (sLg s ++ frs v l s o)) := i1
  clear i1 e1
  generalize hQ : frs v l s o = Q at *
  have hlQ : (sLg s ++ Q).length = (sLg s).length + Q.length := List.length_append
  have hx11 := i1'.g3
  rw [show sLg (sLg' s (sLg s ++ Q)) = sLg s ++ Q from rfl, hlQ] at hx11
  rw [hx11, bind_some']
  have hget : ∀ j (hj : j < Q.length), (sLg s ++ Q)[(sLg s).length + j]? = some Q[j] := fun j hj => by
    rw [List.getElem?_append_right (by omega), Nat.add_sub_cancel_left, List.getElem?_eq_getElem hj]
  obtain ⟨t2, e2, p2, i2, f2⟩ := SI.each (p := p) (σ := t1) (fun f j t => F_X6_receive_L67 p r (nI y) f (nI j) t (fun s17 =>
          (F_X6_changeView s17 p q (nI (sLg s).length)).bind fun s18 =>
          (F_X6_learn s18 p r q).bind fun s19 =>
          (F_X6_dropKnownToAll s19 p q (nI n)).bind fun s20 =>
          some ((nI ((sLg s).length + Q.length) - (nI (sLg s).length)), s20))) (fun s17 =>
          (F_X6_changeView s17 p q (nI (sLg s).length)).bind fun s18 =>
          (F_X6_learn s18 p r q).bind fun s19 =>
          (F_X6_dropKnownToAll s19 p q (nI n)).bind fun s20 =>
          some ((nI ((sLg s).length + Q.length) - (nI (sLg s).length)), s20)) (fun st e => hwS st (gn (sHw st) e y x)) Q (sLg s).length (fun _ st => sLg st = sLg s ++ Q) (by unfold fu; omega) (by
    intro j f t st hjn hP hS hF
    have l1 := (hl.fr f1 (by omega)).fr hF (by omega)
    have hec := hfm _ (List.getElem_mem hjn)
    have hg3 := hS.g3
    rw [hP, hlQ] at hg3
    have h1 : (sLg s).length + j < (sLg st).length := by rw [hP, hlQ]; omega
    have hrl := hS.rl h1
    have h2 := hget j hjn
    rw [← hP, List.getElem?_eq_getElem h1] at h2
    rw [Option.some.inj h2] at hrl
    obtain ⟨t2, e2, i2, f2⟩ := C_gain (x := y) (y := x) hS (show Q[j] < 120 by omega)
    refine ⟨t2, hP, i2, f2, ?_⟩
    rw [F_X6_receive_L67]
    simp (disch := omega) only [l_0, l_1, l_2, l_3, l_4, l_5, l_6, l_7, l_8, l_9, l_10, l_12, l_25, l_29, l_33, l_34, l_120, l_122, l_147, l_154, l_274, l_394, l_395, l_789, l_3953, l_5153, l_5178, l_49278, l_49279, l_49280, bind_some', jn_eq, nI_add, pk_mul, nI_leI, nI_ltI, nI_eq, ifb, ifz, R_flag0, R_flag1, R_flag, if_true, if_false, hg3, if_neg, hS.g2, hrl, l1.g0, e2]) (by
    intro f t st hP hS hF
    have hg3 := hS.g3
    rw [hP, hlQ] at hg3
    rw [F_X6_receive_L67, hg3, bind_some', if_pos (nI_le (Nat.le_refl _) (by omega))]) rfl i1'
  rw [e2]
  have k3 : ∀ (Q : List Nat) (st : St), Q.foldl (fun st e => hwS st (gn (sHw st) e y x)) st = hwS st (Q.foldl (fun h e => gn h e y x) (sHw st)) := by
    intro Q; induction Q with
    | nil => intro st; rfl
    | cons e Q ih => intro st; rw [List.foldl_cons, ih]; rfl
  rw [k3] at i2
  have g2 := (g.fr f1 (by omega)).fr f2 (by omega)
  have l2 := (hl.fr f1 (by omega)).fr f2 (by omega)
  have hmem : ∀ e ∈ sLg s ++ Q, e < c := fun e he => by
    rcases List.mem_append.mp he with he | he
    · exact hj.lm he
    · exact hfm e he
  have j2 : Js c (hwS (sLg' s (sLg s ++ Q)) (Q.foldl (fun h e => gn h e y x) (sHw (sLg' s (sLg s ++ Q))))) := ⟨hj.1, by show (sLg s ++ Q).length ≤ 120; omega, hmem⟩
  obtain ⟨t3, e3, i3, f3⟩ := C_changeView i2 g2 b j2 (A := sLg s) (B := Q) rfl hpq
  rw [e3, bind_some']
  obtain ⟨t4, e4, i4, f4⟩ := C_learn i3 (g2.fr f3 (by omega)) b (l2.fr f3 (by omega)) (fun i hi => j2.tb hi) hu hle hm hx ho hpq hpr
  rw [e4, bind_some']
  have j4 : Js c (sTb' (sVw' (hwS (sLg' s (sLg s ++ Q)) (Q.foldl (fun h e => gn h e y x) (sHw (sLg' s (sLg s ++ Q))))) (vOuts v Q (vIns v Q (sVw s)))) (lrn v l x o (sTb s))) := ⟨lrn_le (fun i hi => hj.tb hi) hu (fun e he => (b.2 e (hle e he)).2.1) hx, j2.2.1, j2.2.2⟩
  obtain ⟨t5, e5, i5, f5⟩ := C_drop i4 ((g2.fr f3 (by omega)).fr f4 (by omega)) b j4 hn hpq
  refine ⟨t5, ?_, ?_, f1.tr (f2.tr (f3.tr (f4.tr f5)))⟩
  · rw [e5, bind_some', pk_sub (by omega), Nat.add_sub_cancel_left]
  · unfold rcv
    dsimp only
    rw [hQ]
    exact i5
/-- the log of another site -/
theorem C_copyLog {z : St} (h : SI σ p s) (hz : SI σ q z) (hpq : p + 7 ≤ q ∨ q + 7 ≤ p) : ∃ t, F_X6_copyLog σ p q = some t ∧ SI t p (sLg' s (sLg z)) ∧ Fr p 7 σ t := by
  obtain ⟨lf, tf, hf, bf, h1, h2, h3, h4, h5, h6, h7, h8, h9, h10, h11⟩ := id h
  obtain ⟨lf', tf', hf', bf', z1, z2, z3, z4, z5, z6, z7, z8, z9, z10, z11⟩ := id hz
  have o1 : cel (stc σ p (.inl (6, sO6 p (sLg z).length))) p = some (.inl (6, sO6 p (sLg z).length)) := cel_stc_s h1
  have n1 : ∀ i, i ≠ p → cel (stc σ p (.inl (6, sO6 p (sLg z).length))) i = cel σ i := fun i hi => cel_stc_n h1 hi
  have l1 : IA (stc σ p (.inl (6, sO6 p (sLg z).length))) (p + 3) 120 lf := h4.cg (n1 _ (by omega))
  have l2 : IA (stc σ p (.inl (6, sO6 p (sLg z).length))) (q + 3) 120 lf' := z4.cg (n1 _ (by omega))
  obtain ⟨t, e1, i1, f1⟩ := l2.cp l1 (sp := 0) (dp := 0) (k := (sLg z).length) (by omega) (by omega) (by decide) (by decide)
  have n2 : ∀ i, i ≠ p → i ≠ p + 3 → cel t i = cel σ i := fun i h1 h2 => (f1.at (by omega)).trans (n1 i h1)
  refine ⟨t, ?_, ⟨cpN lf' lf 0 0 (sLg z).length, tf, hf, bf, (f1.at (by omega)).trans o1, h2.cg (n2 _ (by omega) (by omega)), h3.cg (n2 _ (by omega) (by omega)), i1, h5.cg (n2 _ (by omega) (by omega)), h6.cg (n2 _ (by omega) (by omega)), h7.cg (n2 _ (by omega) (by omega)), fun i x hx => ?_, h9, h10, z11⟩, ?_⟩
  · have zq : cel (stc σ p (.inl (6, sO6 p (sLg z).length))) q = some (.inl (6, sO6 q (sLg z).length)) := (n1 q (by omega)).trans z1
    unfold F_X6_copyLog
    rw [chk_eq h.ok, hz.g3, bind_some', sV_cel h1 (Nat.le_of_ble_eq_true rfl), bind_some', show (sO6 p (sLg s).length).set 3 (.int (nI (sLg z).length)) = sO6 p (sLg z).length from rfl, gR_cel zq rfl, bind_some', gR_cel o1 rfl, bind_some', gI_cel o1 rfl, bind_some', l_0, e1]
    rfl
  · have hx' : (sLg z)[i]? = some x := hx
    have := (List.getElem?_eq_some_iff.mp hx').1
    show cpN lf' lf 0 0 (sLg z).length i = x
    unfold cpN
    rw [if_pos (by omega), Nat.zero_add, Nat.sub_zero]
    exact z8 i x hx'
  · exact (Fr.st h1 (by omega) (by omega)).tr (f1.mo (by omega) (by omega))
theorem C_siteCopy {z : St} (h : SI σ p s) (hz : SI σ q z) (hpq : p + 7 ≤ q ∨ q + 7 ≤ p) : ∃ t, F_X6_copyOf σ p q = some t ∧ SI t p z ∧ Fr p 7 σ t := by
  obtain ⟨t1, e1, i1, f1⟩ := X_copyOf h.vw hz.vw (by omega)
  obtain ⟨h1, f1'⟩ := C_setV h i1 f1
  have z1 := hz.fr f1' (by omega)
  obtain ⟨t2, e2, i2, f2⟩ := X_copyOf h1.hs z1.hs (by omega)
  obtain ⟨lf, tf, hf, bf, q1, q2, q3, q4, q5, q6, q7, q8, q9, q10, q11⟩ := id h1
  have f2' : Fr p 7 t1 t2 := f2.mo (by omega) (by omega)
  have z2 := z1.fr f2' (by omega)
  -- when and by are copied below: for now the site has nothing
  have h2 : SI t2 p (sTb s, fun _ => false, sVw z, sLg s, sWh s, sBy s) ∨ True := Or.inr trivial
  have o2 : cel t2 p = some (.inl (6, sO6 p (sLg s).length)) := (f2.at (by omega)).trans q1
  obtain ⟨lf', tf', hf', bf', w1, w2, w3, w4, w5, w6, w7, w8, w9, w10, w11⟩ := id z2
  have o3 : cel (stc t2 p (.inl (6, sO6 p (sLg z).length))) p = some (.inl (6, sO6 p (sLg z).length)) := cel_stc_s o2
  have n3 : ∀ i, i ≠ p → cel (stc t2 p (.inl (6, sO6 p (sLg z).length))) i = cel t2 i := fun i hi => cel_stc_n o2 hi
  have a3 : IA (stc t2 p (.inl (6, sO6 p (sLg z).length))) (p + 3) 120 lf := (q4.cg (f2.at (by omega))).cg (n3 _ (by omega))
  have b3 : IA (stc t2 p (.inl (6, sO6 p (sLg z).length))) (q + 3) 120 lf' := w4.cg (n3 _ (by omega))
  obtain ⟨t4, e4, i4, f4⟩ := b3.cp a3 (sp := 0) (dp := 0) (k := (sLg z).length) (by omega) (by omega) (by decide) (by decide)
  have n4 : ∀ i, i ≠ p → i ≠ p + 3 → cel t4 i = cel t2 i := fun i x1 x2 => (f4.at (by omega)).trans (n3 i x1)
  have a5 : IA t4 (p + 4) 25 tf := (q5.cg (f2.at (by omega))).cg (n4 _ (by omega) (by omega))
  have b5 : IA t4 (q + 4) 25 tf' := w5.cg (n4 _ (by omega) (by omega))
  obtain ⟨t5, e5, i5, f5⟩ := b5.cp a5 (sp := 0) (dp := 0) (k := 25) (by omega) (by omega) (by decide) (by decide)
  have a6 : IA t5 (p + 5) 120 hf := ((q6.cg (f2.at (by omega))).cg (n4 _ (by omega) (by omega))).cg (f5.at (by omega))
  have b6 : IA t5 (q + 5) 120 hf' := (w6.cg (n4 _ (by omega) (by omega))).cg (f5.at (by omega))
  obtain ⟨t6, e6, i6, f6⟩ := b6.cp a6 (sp := 0) (dp := 0) (k := 120) (by omega) (by omega) (by decide) (by decide)
  have a7 : IA t6 (p + 6) 120 bf := (((q7.cg (f2.at (by omega))).cg (n4 _ (by omega) (by omega))).cg (f5.at (by omega))).cg (f6.at (by omega))
  have b7 : IA t6 (q + 6) 120 bf' := ((w7.cg (n4 _ (by omega) (by omega))).cg (f5.at (by omega))).cg (f6.at (by omega))
  obtain ⟨t7, e7, i7, f7⟩ := b7.cp a7 (sp := 0) (dp := 0) (k := 120) (by omega) (by omega) (by decide) (by decide)
  have zq2 : cel t2 q = some (.inl (6, sO6 q (sLg z).length)) := w1
  have zq3 : cel (stc t2 p (.inl (6, sO6 p (sLg z).length))) q = some (.inl (6, sO6 q (sLg z).length)) := (n3 q (by omega)).trans w1
  have zq4 : cel t4 q = some (.inl (6, sO6 q (sLg z).length)) := (f4.at (by omega)).trans zq3
  have zq5 : cel t5 q = some (.inl (6, sO6 q (sLg z).length)) := (f5.at (by omega)).trans zq4
  have zq6 : cel t6 q = some (.inl (6, sO6 q (sLg z).length)) := (f6.at (by omega)).trans zq5
  have p4 : cel t4 p = some (.inl (6, sO6 p (sLg z).length)) := (f4.at (by omega)).trans o3
  have p5 : cel t5 p = some (.inl (6, sO6 p (sLg z).length)) := (f5.at (by omega)).trans p4
  have p6 : cel t6 p = some (.inl (6, sO6 p (sLg z).length)) := (f6.at (by omega)).trans p5
  have p7 : cel t7 p = some (.inl (6, sO6 p (sLg z).length)) := (f7.at (by omega)).trans p6
  refine ⟨t7, ?_, ⟨cpN lf' lf 0 0 (sLg z).length, cpN tf' tf 0 0 25, cpN hf' hf 0 0 120, cpN bf' bf 0 0 120, p7, ?_, ?_, ?_, ?_, ?_, i7, fun i x hx => ?_, fun i hi => ?_, fun e he hh => ?_, w11⟩, ?_⟩
  · unfold F_X6_copyOf F_X6_copyLog
    rw [chk_eq h.ok, h.g0, bind_some', hz.g0, bind_some', e1, bind_some', h1.g1, bind_some', z1.g1, bind_some', e2, bind_some', chk_eq (gOs_cel o2), gI_cel zq2 rfl, bind_some', sV_cel o2 (Nat.le_of_ble_eq_true rfl), bind_some', show (sO6 p (sLg s).length).set 3 (.int (nI (sLg z).length)) = sO6 p (sLg z).length from rfl, gR_cel zq3 rfl, bind_some', gR_cel o3 rfl, bind_some', gI_cel o3 rfl, bind_some', l_0, e4, bind_some', bind_some', gR_cel zq4 rfl, bind_some', gR_cel p4 rfl, bind_some', l_25, e5, bind_some', gR_cel zq5 rfl, bind_some', gR_cel p5 rfl, bind_some', l_120, e6, bind_some', gR_cel zq6 rfl, bind_some', gR_cel p6 rfl, bind_some', e7]
    rfl
  · exact ((((h1.vw.cg (f2.at (by omega))).cg (n4 _ (by omega) (by omega))).cg (f5.at (by omega))).cg (f6.at (by omega))).cg (f7.at (by omega))
  · exact (((i2.cg (n4 _ (by omega) (by omega))).cg (f5.at (by omega))).cg (f6.at (by omega))).cg (f7.at (by omega))
  · exact ((i4.cg (f5.at (by omega))).cg (f6.at (by omega))).cg (f7.at (by omega))
  · exact (i5.cg (f6.at (by omega))).cg (f7.at (by omega))
  · exact i6.cg (f7.at (by omega))
  · have := (List.getElem?_eq_some_iff.mp hx).1
    show cpN lf' lf 0 0 (sLg z).length i = x
    unfold cpN
    rw [if_pos (by omega), Nat.zero_add, Nat.sub_zero]
    exact w8 i x hx
  · show cpN tf' tf 0 0 25 i = _
    unfold cpN
    rw [if_pos (by omega), Nat.zero_add, Nat.sub_zero]
    exact w9 i hi
  · show cpN hf' hf 0 0 120 e = _ ∧ cpN bf' bf 0 0 120 e = _
    unfold cpN
    rw [if_pos (by omega), if_pos (by omega), Nat.zero_add, Nat.sub_zero]
    exact w10 e he hh
  · exact f1'.tr (f2'.tr ((Fr.st o2 (by omega) (by omega)).tr ((f4.mo (by omega) (by omega)).tr ((f5.mo (by omega) (by omega)).tr ((f6.mo (by omega) (by omega)).tr (f7.mo (by omega) (by omega)))))))
theorem C_siteClear (h : SI σ p s) : ∃ t, F_X6_clear σ p = some t ∧ SI t p (fun _ => 0, fun _ => false, fun _ => false, [], sWh s, sBy s) ∧ Fr p 7 σ t := by
  obtain ⟨t1, e1, i1, f1⟩ := X_clear h.vw
  obtain ⟨h1, f1'⟩ := C_setV h i1 f1
  obtain ⟨t2, e2, i2, f2⟩ := X_clear h1.hs
  obtain ⟨lf, tf, hf, bf, q1, q2, q3, q4, q5, q6, q7, q8, q9, q10, q11⟩ := id h1
  have o2 : cel t2 p = some (.inl (6, sO6 p (sLg s).length)) := (f2.at (by omega)).trans q1
  have n3 : ∀ i, i ≠ p → cel (stc t2 p (.inl (6, sO6 p 0))) i = cel t2 i := fun i hi => cel_stc_n o2 hi
  have h3 : SI (stc t2 p (.inl (6, sO6 p 0))) p (sTb s, fun _ => false, fun _ => false, [], sWh s, sBy s) := by
    refine ⟨lf, tf, hf, bf, cel_stc_s o2, (q2.cg (f2.at (by omega))).cg (n3 _ (by omega)), i2.cg (n3 _ (by omega)), (q4.cg (f2.at (by omega))).cg (n3 _ (by omega)), (q5.cg (f2.at (by omega))).cg (n3 _ (by omega)), (q6.cg (f2.at (by omega))).cg (n3 _ (by omega)), (q7.cg (f2.at (by omega))).cg (n3 _ (by omega)), fun i x hx => ?_, q9, fun e _ hh => ?_, ?_⟩
    · have hx' : ([] : List Nat)[i]? = some x := hx
      simp at hx'
    · cases hh
    · show ([] : List Nat).length ≤ 120
      decide
  have f3 : Fr p 7 σ (stc t2 p (.inl (6, sO6 p 0))) := f1'.tr ((f2.mo (by omega) (by omega)).tr (Fr.st o2 (by omega) (by omega)))
  obtain ⟨t4, ⟨i4, f4⟩, e4⟩ := lpS (fun f j t => F_X6_clear_L21 p f (nI j) t (fun s8 => some s8)) (fun t => some t) (fun j t => SI t p (fun i => if i < j then 0 else sTb s i, fun _ => false, fun _ => false, [], sWh s, sBy s) ∧ Fr p 7 σ t) 25 (by
    intro j f t hj ⟨hS, hF⟩
    obtain ⟨t5, e5, i5, f5⟩ := C_tset hS (i := j) 0 hj
    refine ⟨t5, ⟨?_, hF.tr f5⟩, ?_⟩
    · have : up (sTb (fun i => if i < j then 0 else sTb s i, fun _ => false, fun _ => false, [], sWh s, sBy s)) j 0 = fun i => if i < j + 1 then 0 else sTb s i := by
        funext i
        show (if i = j then 0 else if i < j then 0 else sTb s i) = _
        by_cases h1 : i = j
        · rw [if_pos h1, if_pos (by omega)]
        · rw [if_neg h1]
          by_cases h2 : i < j
          · rw [if_pos h2, if_pos (by omega)]
          · rw [if_neg h2, if_neg (by omega)]
      have i5' : SI t5 p (up (sTb (fun i => if i < j then 0 else sTb s i, fun _ => false, fun _ => false, [], sWh s, sBy s)) j 0, fun _ => false, fun _ => false, [], sWh s, sBy s) := i5
      rw [this] at i5'
      exact i5'
    · rw [F_X6_clear_L21]
      simp (disch := omega) only [l_0, l_1, l_2, l_3, l_4, l_5, l_6, l_7, l_8, l_9, l_10, l_12, l_25, l_29, l_33, l_34, l_120, l_122, l_147, l_154, l_274, l_394, l_395, l_789, l_3953, l_5153, l_5178, l_49278, l_49279, l_49280, bind_some', jn_eq, nI_add, pk_mul, nI_leI, nI_ltI, nI_eq, ifb, ifz, R_flag0, R_flag1, R_flag, if_true, if_false, if_neg, hS.g4, e5]) (by
    intro f t _
    rw [F_X6_clear_L21, l_25, if_pos (nI_le (Nat.le_refl _) (by omega))]) fu _ (by unfold fu; omega) ⟨by
      have : (fun i => if i < 0 then 0 else sTb s i) = sTb s := by funext i; rw [if_neg (by omega)]
      rw [this]; exact h3, f3⟩
  refine ⟨t4, ?_, i4.tbc (t := fun _ => 0) (fun i hi => ?_), f4⟩
  · unfold F_X6_clear
    rw [chk_eq h.ok, h.g0, bind_some', e1, bind_some', h1.g1, bind_some', e2, bind_some', l_0, sV_cel o2 (Nat.le_of_ble_eq_true rfl)]
    exact e4
  · show 0 = if i < 25 then 0 else sTb s i
    rw [if_pos hi]
end REC
