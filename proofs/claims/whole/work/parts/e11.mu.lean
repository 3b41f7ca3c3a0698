/-! ===== PURE 13: the reference: copies of words, letters gone, states saved, joining ===== -/
section CPY
variable {a : Nat} {σ s : Sto} {M : Ms} {W W' : Nat → Nat} {w : Wd} {x : Nat} {st : St}
theorem R_set_i (h : RT a σ M W s) {x : Nat} {v : Int32} : F_X10_set s a (nI x) v = (iast s (a + 1) (nI (M.1 3 + x)) v).bind fun s => some s := by
  unfold F_X10_set
  rw [chk_eq h.ok, h.w, bind_some', h.base, bind_some', nI_add]
theorem R_cpy {ρ : Type} (L : Nat → Nat → Sto → ρ) (K : Sto → ρ) (N src dst : Nat) (hN : N < fu) (h1 : src + N ≤ 49425) (h2 : dst + N ≤ 49425) (hd : src + N ≤ dst ∨ dst + N ≤ src)
    (hs : ∀ j f s s' W', j < N → RT a σ M W' s → iast s (a + 1) (nI (M.1 3 + (dst + j))) (nI (W' (src + j))) = some s' → L (f + 1) j s = L f (j + 1) s') (he : ∀ f s, L (f + 1) N s = K s) (h : RT a σ M W s) :
    ∃ s' W', L fu 0 s = K s' ∧ RT a σ M W' s' ∧ (∀ j, j < N → W' (dst + j) = W (src + j)) ∧ ∀ j, (j < dst ∨ dst + N ≤ j) → W' j = W j := by
  obtain ⟨s', ⟨W1, q1, q2, q3⟩, q4⟩ := lpS L K (fun n s => ∃ W', RT a σ M W' s ∧ (∀ j, j < n → W' (dst + j) = W (src + j)) ∧ ∀ j, (j < dst ∨ dst + n ≤ j) → W' j = W j) N (by
    intro n f s hn ⟨W1, q1, q2, q3⟩
    obtain ⟨s', e1, t1⟩ := q1.wr (j := dst + n) (v := W1 (src + n)) (by omega)
    refine ⟨s', ⟨_, t1, fun j hj => ?_, fun j hj => ?_⟩, hs n f s s' W1 hn q1 e1⟩
    · by_cases hjn : j = n
      · subst hjn; rw [upN_s, q3 _ (by omega)]
      · rw [upN_n (by omega)]; exact q2 j (by omega)
    · rw [upN_n (by omega)]; exact q3 j (by omega)) (fun f s _ => he f s) fu s hN ⟨W, h, fun j hj => absurd hj (Nat.not_lt_zero j), fun _ _ => rfl⟩
  exact ⟨s', W1, q4, q1, q2, q3⟩
theorem R_waits (h : RT a σ M W s) (r : RW W w) (hb : M.1 3 = 0) {f o : Nat} (hf : f < 5) (ho : o < 5) : F_X10_waits s a (nI f) (nI o) = some (nI (wT w (5 * f + o)).length) := by
  unfold F_X10_waits
  rw [chk_eq h.ok, h.w, bind_some', R_couple, bind_some', l_5153, nI_add, h.raw hb (by omega), bind_some', r.t (by omega)]
theorem R_linkOf {f o : Nat} (hf : f < 5) (ho : o < 5) : F_X10_linkOf (nI f) (nI o) = some (nI (lk f o)) := by
  unfold F_X10_linkOf lk
  rw [R_couple, R_couple, bind_some', bind_some']
  by_cases h : f < o
  · rw [if_neg (by rw [nI_leI (by omega) (by omega)]; omega), if_pos h]
  · rw [if_pos (by rw [nI_leI (by omega) (by omega)]; omega), if_neg h]
theorem lk_lt {f o : Nat} (hf : f < 5) (ho : o < 5) : lk f o < 25 := by unfold lk; split <;> omega
theorem R_isCut (h : RT a σ M W s) (r : RW W w) {f o : Nat} (hf : f < 5) (ho : o < 5) : F_X10_isCut s a (nI f) (nI o) = some (nI (b2 (wcut w f o))) := by
  have hk := lk_lt hf ho
  unfold F_X10_isCut
  rw [chk_eq h.ok, l_7, R_of h (by omega), bind_some', R_linkOf hf ho, bind_some']
  have h1 : bt (nI (W 7) >>> (nI (lk f o) &&& 31)) 0 = wcut w f o := by
    rw [b_sshr (lk f o) (by omega) _ (by omega), if_pos (by omega), bt_nI, Nat.add_zero, r.2.1 _ (by omega)]
    simp [wcut]
    omega
  by_cases hb : wcut w f o = true
  · rw [if_pos ((and1 _).mpr (by rw [h1]; exact hb)), hb]; rfl
  · rw [if_neg (fun z => hb (by rw [← h1]; exact (and1 _).mp z)), Bool.eq_false_iff.mpr hb]; rfl
theorem RW.low (r : RW W w) (i : Jv w) (hl : ∀ c, c < 25 → (wT w c).length ≤ 12) (ho : ∀ j, j < 49425 → W' j = W j) : RW W' w := r.hand i hl (fun j hj => ho j (by omega))
/-- a letter that waits is gone -/
theorem R_isGone (h : RT a σ M W s) (r : RW W w) (i : Iv w) (hb : M.1 3 = 0) {f o k : Nat} (hf : f < 5) (ho : o < 5) (hk : k < (wT w (5 * f + o)).length) : ∃ s' W', F_X10_isGone s a (nI f) (nI o) (nI k) = some s' ∧ RT a σ M W' s' ∧ RW W' (los w f o k) ∧ ∀ j, 49278 ≤ j → W' j = W j := by
  have htl := i.tl hf ho
  have hc25 : 5 * f + o < 25 := by omega
  obtain ⟨s1, e1, t1⟩ := h.wraw hb (j := 5153 + (5 * f + o)) (v := (wT w (5 * f + o)).length - 1) (by omega)
  have hB : 5178 + 147 * (12 * (5 * f + o) + ((wT w (5 * f + o)).length - 1)) = 5178 + 147 * (12 * (5 * f + o) + k) + 147 * ((wT w (5 * f + o)).length - 1 - k) := by
    have : (wT w (5 * f + o)).length - 1 = k + ((wT w (5 * f + o)).length - 1 - k) := by omega
    generalize (wT w (5 * f + o)).length - 1 - k = d at this ⊢
    rw [this]
    omega
  obtain ⟨s2, ⟨W2, q1, q2, q3⟩, q4⟩ := lpG (fun f2 j (s : Sto) => F_X10_isGone_L34 a (nI f) (nI o) (nI ((wT w (5 * f + o)).length - 1)) f2 (nI j) s (fun s11 => some s11)) (fun s => some s) (fun n s => ∃ W', RT a σ M W' s ∧ (∀ j, 5178 + 147 * (12 * (5 * f + o) + k) ≤ j → j < n → W' j = W (j + 147)) ∧ ∀ j, (j < 5178 + 147 * (12 * (5 * f + o) + k) ∨ n ≤ j) → W' j = (upN W (5153 + (5 * f + o)) ((wT w (5 * f + o)).length - 1)) j) (5178 + 147 * (12 * (5 * f + o) + ((wT w (5 * f + o)).length - 1))) (5178 + 147 * (12 * (5 * f + o) + k)) (by omega) (by
    intro n f2 s hn1 hn2 ⟨W2, q1, q2, q3⟩
    have hv : W2 (n + 147) = W (n + 147) := by rw [q3 _ (by omega), upN_n (by omega)]
    obtain ⟨s3, e3, t3⟩ := q1.wraw hb (j := n) (v := W (n + 147)) (by omega)
    refine ⟨s3, ⟨_, t3, fun j h1 h2 => ?_, fun j hj => ?_⟩, ?_⟩
    · by_cases hjn : j = n
      · subst hjn; rw [upN_s]
      · rw [upN_n (by omega)]; exact q2 j h1 (by omega)
    · rw [upN_n (by omega)]; exact q3 j (by omega)
    · rw [F_X10_isGone_L34]
      simp (disch := omega) only [l_0, l_1, l_2, l_3, l_4, l_5, l_6, l_7, l_8, l_9, l_10, l_12, l_25, l_29, l_33, l_34, l_120, l_122, l_147, l_154, l_274, l_394, l_395, l_789, l_3953, l_5153, l_5178, l_49278, l_49279, l_49280, bind_some', jn_eq, nI_add, pk_mul, nI_leI, nI_ltI, nI_eq, ifb, ifz, R_flag0, R_flag1, R_flag, if_true, if_false, R_letterOf, if_neg, q1.w, q1.raw hb, hv, e3]) (by
    intro f2 s _
    rw [F_X10_isGone_L34, R_letterOf, bind_some', if_pos (nI_le (Nat.le_refl _) (by omega))]) fu s1 (by unfold fu; omega) ⟨_, t1, fun j h1 h2 => absurd h2 (by omega), fun _ _ => rfl⟩
  refine ⟨s2, W2, ?_, q1, ?_, fun j hj => ?_⟩
  · unfold F_X10_isGone
    rw [chk_eq h.ok, R_waits h r hb hf ho, bind_some', h.w, bind_some', R_couple, bind_some', l_5153, nI_add, l_1, pk_sub (by omega), e1, bind_some', R_letterOf, bind_some']
    exact q4
  · have oth : ∀ j, j ≠ 5153 + (5 * f + o) → (j < 5178 + 147 * (12 * (5 * f + o) + k) ∨ 5178 + 147 * (12 * (5 * f + o) + ((wT w (5 * f + o)).length - 1)) ≤ j) → W2 j = W j := by
      intro j h1 h2
      rw [q3 j h2, upN_n h1]
    have hc := i.c
    refine ⟨fun k2 hk2 => ?_, fun c hc2 => ?_, fun y hy => ⟨?_, ?_, ?_⟩, fun e he => ?_, fun c hc2 => ⟨?_, fun k2 l hl2 => ?_⟩⟩
    · rw [oth _ (by omega) (by omega)]; exact r.1 k2 hk2
    · rw [oth 7 (by omega) (by omega)]; exact r.2.1 c hc2
    · rw [oth _ (by omega) (by omega)]; exact r.k hy
    · exact (r.L hy).cg (i.j.L hy).lg (fun j h1 h2 => oth j (by omega) (by omega))
    · exact (r.S hy).cg (i.j.S hy) (fun j h1 h2 => oth j (by omega) (by omega))
    · have he2 : e < wC w 2 := he
      exact (r.e he2).cg (fun j h1 h2 => oth j (by omega) (by omega))
    · show _ = (up (wT w) (5 * f + o) ((wT w (5 * f + o)).eraseIdx k) c).length
      by_cases hcc : c = 5 * f + o
      · subst hcc
        rw [up_s, List.length_eraseIdx, if_pos hk, q3 _ (by omega), upN_s]
      · rw [up_n _ _ hcc, oth _ (by omega) (by omega)]; exact r.t hc2
    · have hl3 : (up (wT w) (5 * f + o) ((wT w (5 * f + o)).eraseIdx k) c)[k2]? = some l := hl2
      by_cases hcc : c = 5 * f + o
      · subst hcc
        rw [up_s, List.getElem?_eraseIdx] at hl3
        by_cases hkk : k2 < k
        · rw [if_pos hkk] at hl3
          exact (r.l hc2 hl3).cg (fun j h1 h2 => oth j (by omega) (by omega))
        · rw [if_neg hkk] at hl3
          have h3 := (List.getElem?_eq_some_iff.mp hl3).1
          refine (r.l hc2 hl3).mv (fun j hj => ?_)
          rw [q2 _ (by omega) (by omega)]
          congr 1
          omega
      · rw [up_n _ _ hcc] at hl3
        have h3 := (List.getElem?_eq_some_iff.mp hl3).1
        have h4 : (wT w c).length ≤ 12 := by
          have := i.tl (f := c / 5) (o := c % 5) (by omega) (by omega)
          rwa [show 5 * (c / 5) + c % 5 = c by omega] at this
        refine (r.l hc2 hl3).cg (fun j h1 h2 => oth j (by omega) ?_)
        rcases Nat.lt_or_gt_of_ne hcc with hlt | hgt
        · left; omega
        · right; omega
  · rw [q3 j (by omega), upN_n (by omega)]
theorem R_copiesState (h : RT a σ M W s) {src dst : Nat} (h1 : src + 394 ≤ 49425) (h2 : dst + 394 ≤ 49425) (hd : src + 394 ≤ dst ∨ dst + 394 ≤ src) : ∃ s' W', F_X10_copiesState s a (nI src) (nI dst) = some s' ∧ RT a σ M W' s' ∧ (∀ j, j < 394 → W' (dst + j) = W (src + j)) ∧ ∀ j, (j < dst ∨ dst + 394 ≤ j) → W' j = W j := by
  unfold F_X10_copiesState
  rw [chk_eq h.ok, l_0]
  obtain ⟨s', W', q1, q2, q3, q4⟩ := R_cpy (fun f j s => F_X10_copiesState_L2 a (nI src) (nI dst) f (nI j) s (fun s3 => some s3)) (fun s => some s) 394 src dst (by unfold fu; omega) h1 h2 hd (by
    intro j f s s' W' hj hR hi
    rw [F_X10_copiesState_L2]
    simp (disch := omega) only [l_0, l_1, l_2, l_3, l_4, l_5, l_6, l_7, l_8, l_9, l_10, l_12, l_25, l_29, l_33, l_34, l_120, l_122, l_147, l_154, l_274, l_394, l_395, l_789, l_3953, l_5153, l_5178, l_49278, l_49279, l_49280, bind_some', jn_eq, nI_add, pk_mul, nI_leI, nI_ltI, nI_eq, ifb, ifz, R_flag0, R_flag1, R_flag, if_true, if_false, if_neg, R_of hR]
    rw [R_set_i hR, hi]
    rfl) (by
    intro f s
    rw [F_X10_copiesState_L2, l_394, if_pos (nI_le (Nat.le_refl _) (by omega))]) h
  exact ⟨s', W', q1, q2, q3, q4⟩
theorem R_saves (h : RT a σ M W s) (r : RW W w) (i : Iv w) (hx : x < 5) : ∃ s' W', F_X10_copiesState s a (nI (9 + 789 * x)) (nI (9 + 789 * x + 394)) = some s' ∧ RT a σ M W' s' ∧ RW W' (sav w x) := by
  obtain ⟨s', W', q1, q2, q3, q4⟩ := R_copiesState h (src := 9 + 789 * x) (dst := 9 + 789 * x + 394) (by omega) (by omega) (by omega)
  refine ⟨s', W', q1, q2, ?_⟩
  have hc := i.c
  refine ⟨fun k2 hk2 => ?_, fun c hc2 => ?_, fun y hy => ⟨?_, ?_, ?_⟩, fun e he => ?_, fun c hc2 => ⟨?_, fun k2 l hl2 => ?_⟩⟩
  · rw [q4 _ (by omega)]; exact r.1 k2 hk2
  · rw [q4 7 (by omega)]; exact r.2.1 c hc2
  · rw [q4 _ (by omega)]; exact r.k hy
  · exact (r.L hy).cg (i.j.L hy).lg (fun j h1 h2 => q4 j (by omega))
  · show RS W' _ (up (wS w) x (wL w x) y)
    by_cases hyx : y = x
    · subst hyx
      rw [up_s]
      refine (r.L hy).mv (i.j.L hy).lg (fun j hj => ?_)
      rw [show 403 + 789 * y + j = 9 + 789 * y + 394 + j by omega, q3 j hj]
    · rw [up_n _ _ hyx]
      exact (r.S hy).cg (i.j.S hy) (fun j h1 h2 => q4 j (by omega))
  · have he2 : e < wC w 2 := he
    exact (r.e he2).cg (fun j h1 h2 => q4 j (by omega))
  · rw [q4 _ (by omega)]; exact r.t hc2
  · exact (r.l hc2 hl2).cg (fun j h1 h2 => q4 j (by omega))
theorem R_falls (h : RT a σ M W s) (r : RW W w) (i : Jv w) (hx : x < 5) : ∃ s' W', F_X10_falls s a (nI x) = some s' ∧ RT a σ M W' s' ∧ RW W' (fal w x) ∧ Ag x W W' := by
  obtain ⟨s', W', q1, q2, q3, q4⟩ := R_copiesState h (src := 9 + 789 * x + 394) (dst := 9 + 789 * x) (by omega) (by omega) (by omega)
  refine ⟨s', W', ?_, q2, ?_, q4⟩
  · unfold F_X10_falls
    rw [chk_eq h.ok, R_stateOf, bind_some', bind_some', l_395, l_1, nI_add, pk_sub (by omega), show 9 + 789 * x + 395 - 1 = 9 + 789 * x + 394 by omega, q1]
    rfl
  · exact r.site i hx q4 ((r.S hx).mv (i.S hx) (fun j hj => by rw [q3 j hj, show 9 + 789 * x + 394 + j = 403 + 789 * x + j by omega]))
/-- joining: x by y -/
theorem R_joins (h : RT a σ M W s) (r : RW W w) (i : Jv w) (hx : x < 5) {y : Nat} (hy : y < 5) (hxy : x ≠ y) (hk : wK w x ≤ 120) : ∃ s', F_X10_joins s a (nI x) (nI y) = some s' ∧ SX a σ M W w x (jst x y (wC w 0) (wC w 6) (wK w x) (wC w 2) (wL w x) (wL w y)) s' := by
  have h5 := i.n5
  have hc := i.c
  unfold F_X10_joins
  rw [chk_eq h.ok, R_stateOf, bind_some', R_stateOf, bind_some', l_0]
  obtain ⟨s2, e2, p2, S2⟩ := SX.each (M := M) (fun f j s (K : Sto → Option Sto) => F_X10_joins_L14 a (nI x) (nI y) (nI (9 + 789 * y)) f (nI j) s K) (fun s K => K s) (fun st e => if sHs (wL w y) e then hwS st (gn (sHw st) e (wC w 6) y) else st) (List.range (wC w 2)) (fun _ st => Js (wC w 2) st) (by unfold fu; rw [List.length_range]; omega) (by
    intro j f s st hj hJ hS
    rw [List.length_range] at hj
    rw [List.getElem_range]
    obtain ⟨W2, h2, r2, hA2⟩ := id hS
    have hh := r2.hs hy (show j < 128 by omega)
    rw [wL_L, up_n _ _ (Ne.symm hxy)] at hh
    have hc2 : W2 2 = wC w 2 := r2.c (k := 2) (by omega)
    by_cases hb : sHs (wL w y) j = true
    · obtain ⟨s3, h3, h4⟩ := R_cth hS i hJ hx (e := j) (y := y) (by omega)
      refine ⟨s3, ?_, ?_, ?_⟩
      · rw [if_pos hb]; exact hJ
      · rw [if_pos hb]; exact h4
      · funext K; rw [F_X10_joins_L14]
        simp (disch := omega) only [l_0, l_1, l_2, l_3, l_4, l_5, l_6, l_7, l_8, l_9, l_10, l_12, l_25, l_29, l_33, l_34, l_120, l_122, l_147, l_154, l_274, l_394, l_395, l_789, l_3953, l_5153, l_5178, l_49278, l_49279, l_49280, bind_some', jn_eq, nI_add, pk_mul, nI_leI, nI_ltI, nI_eq, ifb, ifz, R_flag0, R_flag1, R_flag, if_true, if_false, if_neg, R_of h2, hc2, R_isOf h2, hh, hb, h3]
    · have hb2 : sHs (wL w y) j = false := by simpa using hb
      refine ⟨s, ?_, ?_, ?_⟩
      · rw [if_neg hb]; exact hJ
      · rw [if_neg hb]; exact hS
      · funext K; rw [F_X10_joins_L14]
        simp (disch := omega) only [l_0, l_1, l_2, l_3, l_4, l_5, l_6, l_7, l_8, l_9, l_10, l_12, l_25, l_29, l_33, l_34, l_120, l_122, l_147, l_154, l_274, l_394, l_395, l_789, l_3953, l_5153, l_5178, l_49278, l_49279, l_49280, bind_some', jn_eq, nI_add, pk_mul, nI_leI, nI_ltI, nI_eq, ifb, ifz, R_flag0, R_flag1, R_flag, if_true, if_false, if_neg, R_of h2, hc2, R_isOf h2, hh, hb2]
        rfl) (by
    intro f s st _ hS
    obtain ⟨W2, h2, r2, hA2⟩ := id hS
    have hc2 : W2 2 = wC w 2 := r2.c (k := 2) (by omega)
    funext K; rw [F_X10_joins_L14, List.length_range, l_2, R_of h2 (by omega), bind_some', hc2, if_pos (nI_le (Nat.le_refl _) (by omega))]) (i.L hx) (SX.rf h r)
  have e2' : ∀ K, F_X10_joins_L14 a (nI x) (nI y) (nI (9 + 789 * y)) fu (nI 0) s K = K s2 := fun K => congrFun e2 K
  rw [e2']
  have k3 : ∀ (Q : List Nat) (st : St), Q.foldl (fun st e => if sHs (wL w y) e then hwS st (gn (sHw st) e (wC w 6) y) else st) st = hwS st (Q.foldl (fun h e => if sHs (wL w y) e then gn h e (wC w 6) y else h) (sHw st)) := by
    intro Q; induction Q with
    | nil => intro st; rfl
    | cons e Q ih =>
      intro st
      rw [List.foldl_cons, ih, List.foldl_cons]
      by_cases hb : sHs (wL w y) e = true
      · rw [if_pos hb, if_pos hb]; rfl
      · rw [if_neg hb, if_neg hb]
  rw [k3] at p2 S2
  generalize hH : (List.range (wC w 2)).foldl (fun h e => if sHs (wL w y) e then gn h e (wC w 6) y else h) (sHw (wL w x)) = H at p2 S2
  obtain ⟨W2, h2, r2, hA2⟩ := id S2
  have ry : RS W2 (9 + 789 * y) (wL w y) := by
    have := r2.L hy
    rwa [wL_L, up_n _ _ (Ne.symm hxy)] at this
  have rx : RS W2 (9 + 789 * x) (hwS (wL w x) H) := by
    have := r2.L hx
    rwa [wL_up] at this
  obtain ⟨s3, W3, e3, t3, c3, o3⟩ := R_cpy (fun f j s (K : Sto → Option Sto) => F_X10_joins_L55 a (nI (9 + 789 * x)) (nI (9 + 789 * y)) f (nI j) s K) (fun s K => K s) 154 (9 + 789 * y) (9 + 789 * x) (by unfold fu; omega) (by omega) (by omega) (by omega) (by
    intro j f s s' W' hj hR hi
    funext K; rw [F_X10_joins_L55]
    simp (disch := omega) only [l_0, l_1, l_2, l_3, l_4, l_5, l_6, l_7, l_8, l_9, l_10, l_12, l_25, l_29, l_33, l_34, l_120, l_122, l_147, l_154, l_274, l_394, l_395, l_789, l_3953, l_5153, l_5178, l_49278, l_49279, l_49280, bind_some', jn_eq, nI_add, pk_mul, nI_leI, nI_ltI, nI_eq, ifb, ifz, R_flag0, R_flag1, R_flag, if_true, if_false, if_neg, R_of hR]
    rw [R_set_i hR, hi]
    rfl) (by
    intro f s
    funext K; rw [F_X10_joins_L55, l_154, if_pos (nI_le (Nat.le_refl _) (by omega))]) h2
  have e3' : ∀ K, F_X10_joins_L55 a (nI (9 + 789 * x)) (nI (9 + 789 * y)) fu (nI 0) s2 K = K s3 := fun K => congrFun e3 K
  rw [e3']
  have hly := (i.L hy).lg
  have S3 : SX a σ M W w x (sTb (wL w y), sHs (wL w y), sVw (wL w y), sLg (wL w y), H.2.1, H.2.2) s3 := by
    refine SX.of i hx p2 r2 hA2 t3 (fun j hj => o3 j (by omega)) ⟨fun k hk => ?_, fun z hz => ?_, fun z hz => ?_, ?_, fun k z hz => ?_, fun z hz => ?_⟩
    · rw [c3 k (by omega)]; exact ry.1 k hk
    · have : rb W3 (9 + 789 * x + 25) z = rb W2 (9 + 789 * y + 25) z := by
        unfold rb
        rw [Nat.add_assoc, c3 _ (by omega), ← Nat.add_assoc]
      rw [this]; exact ry.2.1 z hz
    · have : rb W3 (9 + 789 * x + 29) z = rb W2 (9 + 789 * y + 29) z := by
        unfold rb
        rw [Nat.add_assoc, c3 _ (by omega), ← Nat.add_assoc]
      rw [this]; exact ry.2.2.1 z hz
    · rw [c3 33 (by omega)]; exact ry.2.2.2.1
    · have hz' : (sLg (wL w y))[k]? = some z := hz
      have := (List.getElem?_eq_some_iff.mp hz').1
      rw [Nat.add_assoc, c3 _ (by omega), ← Nat.add_assoc]; exact ry.2.2.2.2.1 k z hz'
    · rw [o3 _ (by omega), o3 _ (by omega)]
      exact rx.2.2.2.2.2 z hz
  have p3 : Js (wC w 2) (sTb (wL w y), sHs (wL w y), sVw (wL w y), sLg (wL w y), H.2.1, H.2.2) := ⟨(i.L hy).1, (i.L hy).2.1, (i.L hy).2.2⟩
  generalize hz : ((sTb (wL w y), sHs (wL w y), sVw (wL w y), sLg (wL w y), H.2.1, H.2.2) : St) = Z at S3 p3
  have hZt : sTb Z = sTb (wL w y) := by rw [← hz]; rfl
  have tle : ∀ j, ∀ k, k < 25 → (if k / 5 = x ∧ k % 5 < j then sTb (wL w y) (5 * y + k % 5) else sTb (wL w y) k) ≤ 120 := by
    intro j k hk
    have e1 := (i.L hy).tb hk
    have e2 := (i.L hy).tb (i := 5 * y + k % 5) (by omega)
    split <;> omega
  obtain ⟨s4, ⟨S4, e4⟩⟩ := lpS (fun f j (s : Sto) => F_X10_joins_L89 a (nI x) (nI y) f (nI j) s (fun s15 =>
              (F_X10_cellOf (nI x) (nI x) (nI x)).bind fun x16 =>
              (F_X10_clockOf (nI x)).bind fun x17 =>
              (F_X10_of s15 a x17).bind fun x18 =>
              (F_X10_set s15 a x16 x18).bind fun s19 =>
              some s19)) (fun s15 =>
              (F_X10_cellOf (nI x) (nI x) (nI x)).bind fun x16 =>
              (F_X10_clockOf (nI x)).bind fun x17 =>
              (F_X10_of s15 a x17).bind fun x18 =>
              (F_X10_set s15 a x16 x18).bind fun s19 =>
              some s19) (fun j s => SX a σ M W w x (sTb' Z (fun k => if k / 5 = x ∧ k % 5 < j then sTb (wL w y) (5 * y + k % 5) else sTb (wL w y) k)) s) (wC w 0) (by
    intro j f s hj hS
    obtain ⟨W4, h4, r4, hA4⟩ := id hS
    have hpj : Js (wC w 2) (sTb' Z (fun k => if k / 5 = x ∧ k % 5 < j then sTb (wL w y) (5 * y + k % 5) else sTb (wL w y) k)) := p3.tbS (tle j)
    have hc0 : W4 0 = wC w 0 := r4.c (k := 0) (by omega)
    have hv : W4 (9 + 789 * y + 5 * y + j) = sTb (wL w y) (5 * y + j) := by
      have := r4.tb hy (i := 5 * y + j) (by omega)
      rw [wL_L, up_n _ _ (Ne.symm hxy)] at this
      rw [Nat.add_assoc (9 + 789 * y)]; exact this
    obtain ⟨s5, e5, S5⟩ := R_tset hS i hpj hx (k := 5 * x + j) (v := sTb (wL w y) (5 * y + j)) (c := 9 + 789 * x + 5 * x + j) (by omega) (by omega)
    refine ⟨s5, ?_, ?_⟩
    · have : up (sTb (sTb' Z (fun k => if k / 5 = x ∧ k % 5 < j then sTb (wL w y) (5 * y + k % 5) else sTb (wL w y) k))) (5 * x + j) (sTb (wL w y) (5 * y + j)) = (fun k => if k / 5 = x ∧ k % 5 < j + 1 then sTb (wL w y) (5 * y + k % 5) else sTb (wL w y) k) := by
        funext k
        rw [sTb_']
        unfold up
        by_cases hkj : k = 5 * x + j
        · subst hkj
          rw [if_pos rfl, if_pos (by omega), show (5 * x + j) % 5 = j by omega]
        · rw [if_neg hkj]
          dsimp only
          by_cases hk2 : k / 5 = x ∧ k % 5 < j
          · rw [if_pos hk2, if_pos (by omega)]
          · rw [if_neg hk2, if_neg (by omega)]
      rw [this] at S5
      exact S5
    · rw [F_X10_joins_L89, l_0, R_of h4 (by omega), bind_some', hc0, if_neg (by rw [nI_leI (by omega) (by omega)]; omega), R_cellOf, bind_some', R_cellOf, bind_some', R_of h4 (by omega), bind_some', hv, e5, bind_some', l_1, nI_add]) (by
    intro f s hS
    obtain ⟨W4, h4, r4, hA4⟩ := id hS
    have hc0 : W4 0 = wC w 0 := r4.c (k := 0) (by omega)
    rw [F_X10_joins_L89, l_0, R_of h4 (by omega), bind_some', hc0, if_pos (nI_le (Nat.le_refl _) (by omega))]) fu s3 (by unfold fu; omega) (by
    have : sTb' Z (fun k => if k / 5 = x ∧ k % 5 < 0 then sTb (wL w y) (5 * y + k % 5) else sTb (wL w y) k) = Z := by
      have : (fun k => if k / 5 = x ∧ k % 5 < 0 then sTb (wL w y) (5 * y + k % 5) else sTb (wL w y) k) = sTb Z := by
        rw [hZt]
        funext k
        rw [if_neg (by omega)]
      rw [this]; rfl
    rw [this]; exact S3)
  rw [e4]
  obtain ⟨W4, h4, r4, hA4⟩ := id S4
  have hkx : W4 (8 + 789 * x) = wK w x := r4.k hx
  obtain ⟨s5, e5, S5⟩ := R_tset S4 i (p3.tbS (tle _)) hx (k := 5 * x + x) (v := wK w x) (c := 9 + 789 * x + 5 * x + x) (by omega) (by omega)
  refine ⟨s5, ?_, ?_⟩
  · rw [R_cellOf, bind_some', R_clockOf, bind_some', R_of h4 (by omega), bind_some', hkx, e5]
    rfl
  · have : sTb' (sTb' Z (fun k => if k / 5 = x ∧ k % 5 < wC w 0 then sTb (wL w y) (5 * y + k % 5) else sTb (wL w y) k)) (up (sTb (sTb' Z (fun k => if k / 5 = x ∧ k % 5 < wC w 0 then sTb (wL w y) (5 * y + k % 5) else sTb (wL w y) k))) (5 * x + x) (wK w x)) = jst x y (wC w 0) (wC w 6) (wK w x) (wC w 2) (wL w x) (wL w y) := by
      unfold jst
      dsimp only
      rw [hH, ← hz]
      rfl
    rw [this] at S5
    exact S5
end CPY
