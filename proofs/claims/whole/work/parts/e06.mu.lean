/-! ===== PURE 8: the reference changes a site ===== -/
theorem tk {α : Type} {l : List α} {j : Nat} (h : j < l.length) : l.take (j + 1) = l.take j ++ [l[j]] := (List.take_append_getElem h).symm
theorem tk_fold {α β : Type} (f : β → α → β) (b : β) {l : List α} {j : Nat} (h : j < l.length) : (l.take (j + 1)).foldl f b = f ((l.take j).foldl f b) l[j] := by
  rw [tk h, List.foldl_append]; rfl
theorem tk_filt {α : Type} (p : α → Bool) {l : List α} {j : Nat} (h : j < l.length) : (l.take (j + 1)).filter p = (l.take j).filter p ++ (if p l[j] = true then [l[j]] else []) := by
  rw [tk h, List.filter_append]
  congr 1
  by_cases hp : p l[j] = true
  · rw [if_pos hp, List.filter_cons_of_pos hp]; rfl
  · rw [if_neg hp, List.filter_cons_of_neg hp]; rfl
def sTb' (s : St) (t : Nat → Nat) : St := (t, s.2)
def sVw' (s : St) (v : Nat → Bool) : St := (s.1, s.2.1, v, s.2.2.2)
def sLg' (s : St) (l : List Nat) : St := (s.1, s.2.1, s.2.2.1, l, s.2.2.2.2)
def hwS (s : St) (h : Hw) : St := (s.1, h.1, s.2.2.1, s.2.2.2.1, h.2.1, h.2.2)
def Ag (x : Nat) (W W' : Nat → Nat) : Prop := ∀ j, (j < 9 + 789 * x ∨ 9 + 789 * x + 394 ≤ j) → W' j = W j
section MU
variable {a : Nat} {σ s : Sto} {M : Ms} {W W' : Nat → Nat} {w : Wd} {x : Nat} {st : St}
theorem RW.site (r : RW W w) (i : Jv w) (hx : x < 5) (ho : Ag x W W') (hs : RS W' (9 + 789 * x) st) : RW W' (wL' w (up (wL w) x st)) := by
  have hc := i.c
  refine ⟨fun k hk => ?_, fun c hc2 => ?_, fun y hy => ⟨?_, ?_, ?_⟩, fun e he => ?_, fun c hc2 => ⟨?_, fun k l hl => ?_⟩⟩
  · rw [ho k (by omega)]; exact r.1 k hk
  · rw [ho 7 (by omega)]; exact r.2.1 c hc2
  · rw [ho _ (by omega)]; exact r.k hy
  · by_cases hyx : y = x
    · subst hyx
      show RS W' _ (up (wL w) y st y)
      rw [up_s]; exact hs
    · show RS W' _ (up (wL w) x st y)
      rw [up_n _ _ hyx]
      exact (r.L hy).cg (i.L hy).lg (fun j h1 h2 => ho j (by omega))
  · exact (r.S hy).cg (i.S hy) (fun j h1 h2 => ho j (by omega))
  · have he2 : e < wC w 2 := he
    exact (r.e he2).cg (fun j h1 h2 => ho j (by omega))
  · rw [ho _ (by omega)]; exact r.t hc2
  · exact (r.l hc2 hl).cg (fun j h1 h2 => ho j (by omega))
theorem RW.hand (r : RW W w) (i : Jv w) (hl : ∀ c, c < 25 → (wT w c).length ≤ 12) (ho : ∀ j, j < 49278 → W' j = W j) : RW W' w := by
  have hc := i.c
  refine ⟨fun k hk => ?_, fun c hc2 => ?_, fun y hy => ⟨?_, ?_, ?_⟩, fun e he => ?_, fun c hc2 => ⟨?_, fun k l hl2 => ?_⟩⟩
  · rw [ho k (by omega)]; exact r.1 k hk
  · rw [ho 7 (by omega)]; exact r.2.1 c hc2
  · rw [ho _ (by omega)]; exact r.k hy
  · exact (r.L hy).cg (i.L hy).lg (fun j h1 h2 => ho j (by omega))
  · exact (r.S hy).cg (i.S hy) (fun j h1 h2 => ho j (by omega))
  · exact (r.e he).cg (fun j h1 h2 => ho j (by omega))
  · rw [ho _ (by omega)]; exact r.t hc2
  · have h3 := (List.getElem?_eq_some_iff.mp hl2).1
    have h4 := hl c hc2
    exact (r.l hc2 hl2).cg (fun j h1 h2 => ho j (by omega))
theorem Jv_up (i : Jv w) (hj : Js (wC w 2) st) : Jv (wL' w (up (wL w) x st)) := by
  refine ⟨i.1, i.2.1, i.2.2.1, fun y hy => ⟨?_, i.S hy⟩⟩
  show Js (wC w 2) (up (wL w) x st y)
  by_cases hyx : y = x
  · subst hyx; rw [up_s]; exact hj
  · rw [up_n _ _ hyx]; exact i.L hy
def Jv.up (i : Jv w) (hj : Js (wC w 2) st) := Jv_up (x := x) i hj
theorem wL_up : wL (wL' w (up (wL w) x st)) x = st := up_s _ _ _
theorem wL_id : wL' w (up (wL w) x (wL w x)) = w := by
  have : up (wL w) x (wL w x) = wL w := by
    funext j
    by_cases hj : j = x
    · subst hj; rw [up_s]
    · rw [up_n _ _ hj]
  rw [this]
  rfl
/-- the reference holds w, but that site x is st; its words elsewhere are as in W -/
def SX (a : Nat) (σ : Sto) (M : Ms) (W : Nat → Nat) (w : Wd) (x : Nat) (st : St) (s : Sto) : Prop := ∃ W', RT a σ M W' s ∧ RW W' (wL' w (up (wL w) x st)) ∧ Ag x W W'
theorem SX.rf (h : RT a σ M W s) (r : RW W w) : SX a σ M W w x (wL w x) s := ⟨W, h, by rw [wL_id]; exact r, fun _ _ => rfl⟩
theorem Ag.tr {W2 : Nat → Nat} (h : Ag x W W') (h2 : Ag x W' W2) : Ag x W W2 := fun j hj => (h2 j hj).trans (h j hj)
/-- a change within the block -/
theorem SX.of (i : Jv w) (hx : x < 5) {s' : Sto} {W2 : Nat → Nat} {st2 : St} (hj : Js (wC w 2) st) (r : RW W' (wL' w (up (wL w) x st))) (hA : Ag x W W') (h2 : RT a σ M W2 s') (hB : Ag x W' W2) (hs : RS W2 (9 + 789 * x) st2) : SX a σ M W w x st2 s' := by
  refine ⟨W2, h2, ?_, hA.tr hB⟩
  have h3 := r.site (Jv_up (x := x) i hj) hx hB hs
  have h4 : wL' (wL' w (up (wL w) x st)) (up (wL (wL' w (up (wL w) x st))) x st2) = wL' w (up (wL w) x st2) := by
    have : up (wL (wL' w (up (wL w) x st))) x st2 = up (wL w) x st2 := by
      funext j
      by_cases hj : j = x
      · subst hj; rw [up_s, up_s]
      · rw [up_n _ _ hj, up_n _ _ hj]
        exact up_n _ _ hj
    rw [this]
    rfl
  rw [h4] at h3
  exact h3
theorem R_cth (h : SX a σ M W w x st s) (i : Jv w) (hj : Js (wC w 2) st) (hx : x < 5) {e y : Nat} (he : e < 120) : ∃ s', F_X10_comesToHave s a (nI x) (nI e) (nI y) = some s' ∧ SX a σ M W w x (hwS st (gn (sHw st) e (wC w 6) y)) s' := by
  obtain ⟨W1, h1, r1, hA⟩ := h
  have hh := r1.hs hx (show e < 128 by omega)
  rw [wL_up] at hh
  unfold F_X10_comesToHave
  rw [chk_eq h1.ok]
  simp (disch := omega) only [l_0, l_1, l_2, l_3, l_4, l_5, l_6, l_7, l_8, l_9, l_10, l_12, l_25, l_29, l_33, l_34, l_120, l_122, l_147, l_154, l_274, l_394, l_395, l_789, l_3953, l_5153, l_5178, l_49278, l_49279, l_49280, bind_some', jn_eq, nI_add, pk_mul, nI_leI, nI_ltI, nI_eq, ifb, ifz, R_flag0, R_flag1, R_flag, if_true, if_false, R_stateOf, R_isOf h1, hh]
  cases hb : sHs st e with
  | true =>
    refine ⟨s, rfl, W1, h1, ?_, hA⟩
    have : hwS st (gn (sHw st) e (wC w 6) y) = st := by
      have h0 : (sHw st).1 e = true := hb
      unfold gn
      rw [if_pos h0]
      rfl
    rw [this]; exact r1
  | false =>
    obtain ⟨s2, W2, h2, h3, h4, h5⟩ := R_sets h1 (r := 9 + 789 * x + 25) (e := e) (by omega) (by omega) true
    rw [show nI (b2 true) = nI 1 from rfl] at h2
    obtain ⟨s3, h6, h7⟩ := R_set h3 (x := 9 + 789 * x + 154 + e) (wC w 6) (by omega)
    obtain ⟨s4, h8, h9⟩ := R_set h7 (x := 9 + 789 * x + 274 + e) y (by omega)
    have h6c : W2 6 = wC w 6 := by rw [h5 6 (by omega)]; exact r1.1 6 (by omega)
    refine ⟨s4, ?_, ?_⟩
    · simp (disch := omega) only [l_0, l_1, l_2, l_3, l_4, l_5, l_6, l_7, l_8, l_9, l_10, l_12, l_25, l_29, l_33, l_34, l_120, l_122, l_147, l_154, l_274, l_394, l_395, l_789, l_3953, l_5153, l_5178, l_49278, l_49279, l_49280, bind_some', jn_eq, nI_add, pk_mul, nI_leI, nI_ltI, nI_eq, ifb, ifz, R_flag0, R_flag1, R_flag, if_true, if_false, h2, R_of h3, h6c, h6, h8]
      rfl
    · have hg : gn (sHw st) e (wC w 6) y = (up (sHs st) e true, up (sWh st) e (wC w 6), up (sBy st) e y) := by
        have h0 : (sHw st).1 e = false := hb
        unfold gn
        rw [h0]
        rfl
      rw [hg]
      have rs : RS W1 (9 + 789 * x) st := by
        have := r1.L hx
        rwa [wL_up] at this
      obtain ⟨q1, q2, q3, q4, q5, q6⟩ := rs
      have hlg := hj.lg
      refine SX.of i hx hj r1 hA h9 (fun j hj2 => ?_) ⟨fun k hk => ?_, fun z hz => ?_, fun z hz => ?_, ?_, fun k z hz => ?_, fun z hz => ?_⟩
      · rw [upN_n (by omega), upN_n (by omega), h5 j (by omega)]
      · rw [upN_n (by omega), upN_n (by omega), h5 _ (by omega)]; exact q1 k hk
      · show _ = up (sHs st) e true z
        have h10 : rb (upN (upN W2 (9 + 789 * x + 154 + e) (wC w 6)) (9 + 789 * x + 274 + e) y) (9 + 789 * x + 25) z = rb W2 (9 + 789 * x + 25) z := rb_cg (o := 9 + 789 * x + 25) (n := 4) hz (by omega) (by omega) (fun j _ _ => by rw [upN_n (by omega), upN_n (by omega)])
        rw [h10, h4 z hz]
        unfold up
        rw [q2 z hz]
      · show _ = sVw st z
        have h10 : rb (upN (upN W2 (9 + 789 * x + 154 + e) (wC w 6)) (9 + 789 * x + 274 + e) y) (9 + 789 * x + 29) z = rb W1 (9 + 789 * x + 29) z := rb_cg (o := 9 + 789 * x + 29) (n := 4) hz (by omega) (by omega) (fun j _ _ => by rw [upN_n (by omega), upN_n (by omega), h5 _ (by omega)])
        rw [h10, q3 z hz]
      · rw [upN_n (by omega), upN_n (by omega), h5 _ (by omega)]; exact q4
      · have hz' : (sLg st)[k]? = some z := hz
        have := (List.getElem?_eq_some_iff.mp hz').1
        rw [upN_n (by omega), upN_n (by omega), h5 _ (by omega)]; exact q5 k z hz'
      · show _ = up (sWh st) e (wC w 6) z ∧ _ = up (sBy st) e y z
        unfold up
        by_cases hze : z = e
        · subst hze
          rw [upN_n (by omega), upN_s, upN_s, if_pos rfl, if_pos rfl]
          exact ⟨rfl, rfl⟩
        · rw [if_neg hze, if_neg hze, upN_n (by omega), upN_n (by omega), h5 _ (by omega), upN_n (by omega), upN_n (by omega), h5 _ (by omega)]
          exact q6 z hz
theorem R_setV (h : SX a σ M W w x st s) (i : Jv w) (hj : Js (wC w 2) st) (hx : x < 5) {e : Nat} (he : e < 128) (b : Bool) : ∃ s', F_X10_sets s a (nI (9 + 789 * x + 29)) (nI e) (nI (b2 b)) = some s' ∧ SX a σ M W w x (sVw' st (up (sVw st) e b)) s' := by
  obtain ⟨W1, h1, r1, hA⟩ := h
  obtain ⟨s2, W2, h2, h3, h4, h5⟩ := R_sets h1 (r := 9 + 789 * x + 29) (e := e) (by omega) (by omega) b
  refine ⟨s2, h2, ?_⟩
  have rs : RS W1 (9 + 789 * x) st := by
    have := r1.L hx
    rwa [wL_up] at this
  obtain ⟨q1, q2, q3, q4, q5, q6⟩ := rs
  have hlg := hj.lg
  refine SX.of i hx hj r1 hA h3 (fun j hj2 => h5 j (by omega)) ⟨fun k hk => ?_, fun z hz => ?_, fun z hz => ?_, ?_, fun k z hz => ?_, fun z hz => ?_⟩
  · rw [h5 _ (by omega)]; exact q1 k hk
  · rw [rb_cg (o := 9 + 789 * x + 25) (n := 4) (W := W1) hz (by omega) (by omega) (fun j _ _ => h5 _ (by omega))]; exact q2 z hz
  · show _ = up (sVw st) e b z
    rw [h4 z hz]
    unfold up
    rw [q3 z hz]
  · rw [h5 _ (by omega)]; exact q4
  · have hz' : (sLg st)[k]? = some z := hz
    have := (List.getElem?_eq_some_iff.mp hz').1
    rw [h5 _ (by omega)]; exact q5 k z hz'
  · rw [h5 _ (by omega), h5 _ (by omega)]; exact q6 z hz
theorem R_logs (h : SX a σ M W w x st s) (i : Jv w) (hj : Js (wC w 2) st) (hx : x < 5) {e : Nat} (hl : (sLg st).length < 120) : ∃ s', F_X10_logs s a (nI x) (nI e) = some s' ∧ SX a σ M W w x (sLg' st (sLg st ++ [e])) s' := by
  obtain ⟨W1, h1, r1, hA⟩ := h
  have rs : RS W1 (9 + 789 * x) st := by
    have := r1.L hx
    rwa [wL_up] at this
  obtain ⟨q1, q2, q3, q4, q5, q6⟩ := rs
  obtain ⟨s2, h2, h3⟩ := R_set h1 (x := 9 + 789 * x + 34 + (sLg st).length) e (by omega)
  obtain ⟨s3, h4, h5⟩ := R_more h3 (x := 9 + 789 * x + 33) 1 (by omega)
  refine ⟨s3, ?_, ?_⟩
  · unfold F_X10_logs
    rw [chk_eq h1.ok]
    simp (disch := omega) only [l_0, l_1, l_2, l_3, l_4, l_5, l_6, l_7, l_8, l_9, l_10, l_12, l_25, l_29, l_33, l_34, l_120, l_122, l_147, l_154, l_274, l_394, l_395, l_789, l_3953, l_5153, l_5178, l_49278, l_49279, l_49280, bind_some', jn_eq, nI_add, pk_mul, nI_leI, nI_ltI, nI_eq, ifb, ifz, R_flag0, R_flag1, R_flag, if_true, if_false, R_stateOf, R_of h1, q4, h2, h4]
  · refine SX.of i hx hj r1 hA h5 (fun j hj2 => ?_) ⟨fun k hk => ?_, fun z hz => ?_, fun z hz => ?_, ?_, fun k z hz => ?_, fun z hz => ?_⟩
    · rw [upN_n (by omega), upN_n (by omega)]
    · rw [upN_n (by omega), upN_n (by omega)]; exact q1 k hk
    · rw [rb_cg (o := 9 + 789 * x + 25) (n := 4) (W := W1) hz (by omega) (by omega) (fun j _ _ => by rw [upN_n (by omega), upN_n (by omega)])]; exact q2 z hz
    · rw [rb_cg (o := 9 + 789 * x + 29) (n := 4) (W := W1) hz (by omega) (by omega) (fun j _ _ => by rw [upN_n (by omega), upN_n (by omega)])]; exact q3 z hz
    · rw [upN_s, upN_n (by omega), q4]
      show _ = (sLg st ++ [e]).length
      rw [List.length_append]; rfl
    · have hz' : (sLg st ++ [e])[k]? = some z := hz
      rw [List.getElem?_append] at hz'
      by_cases hk : k < (sLg st).length
      · rw [if_pos hk] at hz'
        rw [upN_n (by omega), upN_n (by omega)]; exact q5 k z hz'
      · rw [if_neg hk] at hz'
        have h6 := (List.getElem?_eq_some_iff.mp hz').1
        have h7 : k = (sLg st).length := by simp at h6; omega
        subst h7
        rw [upN_n (by omega), upN_s]
        simpa using hz'
    · rw [upN_n (by omega), upN_n (by omega), upN_n (by omega), upN_n (by omega)]; exact q6 z hz
theorem R_great (h : SX a σ M W w x st s) (i : Jv w) (hj : Js (wC w 2) st) (hx : x < 5) {k v c : Nat} (hk : k < 25) (hv : v ≤ 120) (hc : c = 9 + 789 * x + k) : ∃ s', F_X10_greater s a (nI c) (nI v) = some s' ∧ SX a σ M W w x (sTb' st (rOne (sTb st) k v)) s' := by
  subst hc
  obtain ⟨W1, h1, r1, hA⟩ := h
  have rs : RS W1 (9 + 789 * x) st := by
    have := r1.L hx
    rwa [wL_up] at this
  obtain ⟨q1, q2, q3, q4, q5, q6⟩ := rs
  have hq := q1 k hk
  have ht := hj.tb hk
  have hlg := hj.lg
  unfold F_X10_greater
  rw [chk_eq h1.ok]
  by_cases hle : v ≤ sTb st k
  · refine ⟨s, ?_, W1, h1, ?_, hA⟩
    · simp (disch := omega) only [l_0, l_1, l_2, l_3, l_4, l_5, l_6, l_7, l_8, l_9, l_10, l_12, l_25, l_29, l_33, l_34, l_120, l_122, l_147, l_154, l_274, l_394, l_395, l_789, l_3953, l_5153, l_5178, l_49278, l_49279, l_49280, bind_some', jn_eq, nI_add, pk_mul, nI_leI, nI_ltI, nI_eq, ifb, ifz, R_flag0, R_flag1, R_flag, if_true, if_false, R_of h1, hq, if_pos]
    · have : sTb' st (rOne (sTb st) k v) = st := by
        have h0 : rOne (sTb st) k v = sTb st := by
          funext j
          unfold rOne up
          by_cases hjk : j = k
          · subst hjk; rw [if_pos rfl]; omega
          · rw [if_neg hjk]
        rw [h0]; rfl
      rw [this]; exact r1
  · obtain ⟨s2, h2, h3⟩ := R_set h1 (x := 9 + 789 * x + k) v (by omega)
    refine ⟨s2, ?_, ?_⟩
    · simp (disch := omega) only [l_0, l_1, l_2, l_3, l_4, l_5, l_6, l_7, l_8, l_9, l_10, l_12, l_25, l_29, l_33, l_34, l_120, l_122, l_147, l_154, l_274, l_394, l_395, l_789, l_3953, l_5153, l_5178, l_49278, l_49279, l_49280, bind_some', jn_eq, nI_add, pk_mul, nI_leI, nI_ltI, nI_eq, ifb, ifz, R_flag0, R_flag1, R_flag, if_true, if_false, R_of h1, hq, if_neg, h2]
    · refine SX.of i hx hj r1 hA h3 (fun j hj2 => upN_n (by omega)) ⟨fun j hj2 => ?_, fun z hz => ?_, fun z hz => ?_, ?_, fun j z hz => ?_, fun z hz => ?_⟩
      · show _ = rOne (sTb st) k v j
        unfold rOne up upN
        by_cases hjk : j = k
        · subst hjk; rw [if_pos rfl, if_pos rfl]; omega
        · rw [if_neg (by omega), if_neg hjk]; exact q1 j hj2
      · rw [rb_cg (o := 9 + 789 * x + 25) (n := 4) (W := W1) hz (by omega) (by omega) (fun j _ _ => upN_n (by omega))]; exact q2 z hz
      · rw [rb_cg (o := 9 + 789 * x + 29) (n := 4) (W := W1) hz (by omega) (by omega) (fun j _ _ => upN_n (by omega))]; exact q3 z hz
      · rw [upN_n (by omega)]; exact q4
      · have hz' : (sLg st)[j]? = some z := hz
        have := (List.getElem?_eq_some_iff.mp hz').1
        rw [upN_n (by omega)]; exact q5 j z hz'
      · rw [upN_n (by omega), upN_n (by omega)]; exact q6 z hz
end MU
