/-! ===== PURE 12: the reference: an event, letters gone, states copied, joining ===== -/
section HAP
variable {a : Nat} {σ s : Sto} {M : Ms} {W W' : Nat → Nat} {w : Wd} {x : Nat} {st : St}
theorem R_tset (h : SX a σ M W w x st s) (i : Jv w) (hj : Js (wC w 2) st) (hx : x < 5) {k v c : Nat} (hk : k < 25) (hc : c = 9 + 789 * x + k) : ∃ s', F_X10_set s a (nI c) (nI v) = some s' ∧ SX a σ M W w x (sTb' st (up (sTb st) k v)) s' := by
  subst hc
  have hlg := hj.lg
  obtain ⟨W1, h1, r1, hA⟩ := h
  have rs : RS W1 (9 + 789 * x) st := by
    have := r1.L hx
    rwa [wL_up] at this
  obtain ⟨q1, q2, q3, q4, q5, q6⟩ := rs
  obtain ⟨s2, h2, h3⟩ := R_set h1 (x := 9 + 789 * x + k) v (by omega)
  refine ⟨s2, h2, ?_⟩
  refine SX.of i hx hj r1 hA h3 (fun j hj2 => upN_n (by omega)) ⟨fun j hj2 => ?_, fun z hz => ?_, fun z hz => ?_, ?_, fun j z hz => ?_, fun z hz => ?_⟩
  · show _ = up (sTb st) k v j
    unfold up upN
    by_cases hjk : j = k
    · subst hjk; rw [if_pos rfl, if_pos rfl]
    · rw [if_neg (by omega), if_neg hjk]; exact q1 j hj2
  · rw [rb_cg (o := 9 + 789 * x + 25) (n := 4) (W := W1) hz (by omega) (by omega) (fun j _ _ => upN_n (by omega))]; exact q2 z hz
  · rw [rb_cg (o := 9 + 789 * x + 29) (n := 4) (W := W1) hz (by omega) (by omega) (fun j _ _ => upN_n (by omega))]; exact q3 z hz
  · rw [upN_n (by omega)]; exact q4
  · have hz' : (sLg st)[j]? = some z := hz
    have := (List.getElem?_eq_some_iff.mp hz').1
    rw [upN_n (by omega)]; exact q5 j z hz'
  · rw [upN_n (by omega), upN_n (by omega)]; exact q6 z hz
/-- the world with the event, but the site as it was -/
def hap1 (w : Wd) (s m nm : Nat) : Wd := (up (wC w) 2 (wC w 2 + 1), wX w, up (wK w) s (wK w s + 1), evn w s m nm, wL w, wS w, wT w)
theorem jv_hap1 (i : Iv w) (hx : x < wC w 0) {m nm : Nat} (hc : wC w 2 < 120) (hm : m ≤ wC w 2) : Jv (hap1 w x m nm) := by
  have h5 := i.n5
  have hk := i.k (s := x) (by omega)
  refine ⟨?_, ?_, fun e he => ?_, fun y hy => ⟨⟨fun j hj => ?_, ?_, fun e he => ?_⟩, ?_⟩⟩
  · exact h5
  · show wC w 2 + 1 ≤ 120
    omega
  · have he' : e < wC w 2 + 1 := he
    by_cases h1 : e = wC w 2
    · subst h1
      refine ⟨?_, ?_, ?_⟩
      · show up (eS (wE w)) (wC w 2) x (wC w 2) < 5
        rw [up_s]; omega
      · show up (eT (wE w)) (wC w 2) (wK w x + 1) (wC w 2) ≤ 120
        rw [up_s]; omega
      · show up (eM (wE w)) (wC w 2) m (wC w 2) < 120
        rw [up_s]; omega
    · have h2 := i.j.2.2.1 e (by omega)
      refine ⟨?_, ?_, ?_⟩
      · show up (eS (wE w)) (wC w 2) x e < 5
        rw [up_n _ _ h1]; exact h2.1
      · show up (eT (wE w)) (wC w 2) (wK w x + 1) e ≤ 120
        rw [up_n _ _ h1]; exact h2.2.1
      · show up (eM (wE w)) (wC w 2) m e < 120
        rw [up_n _ _ h1]; exact h2.2.2
  · exact (i.j.L hy).tb hj
  · exact (i.j.L hy).lg
  · have := (i.j.L hy).lm he
    show e < wC w 2 + 1
    omega
  · exact i.j.S hy
theorem R_happens (h : RT a σ M W s) (r : RW W w) (i : Iv w) (hx : x < wC w 0) {m nm : Nat} (hc : wC w 2 < 120) (hm : m ≤ wC w 2) (z : Int32) (hz : m < wC w 2 → z = nI m) : ∃ s' W', F_X10_happens s a (nI x) (nI (b2 (decide (m < wC w 2)))) z (nI nm) = some (nI (wC w 2), s') ∧ RT a σ M W' s' ∧ RW W' (hap w x m nm) := by
  have h5 := i.n5
  have hx5 : x < 5 := by omega
  have j1 := jv_hap1 i hx hc hm (nm := nm)
  have hlgx := (i.L hx5).lg
  obtain ⟨s1, e1, t1⟩ := R_more h (x := 8 + 789 * x) 1 (by omega)
  rw [r.k hx5] at t1
  obtain ⟨s2, e2, t2⟩ := R_set t1 (x := 3953 + 10 * wC w 2) x (by omega)
  obtain ⟨s3, e3, t3⟩ := R_set t2 (x := 3953 + 10 * wC w 2 + 1) (wK w x + 1) (by omega)
  obtain ⟨s4, e4, t4⟩ := R_set t3 (x := 3953 + 10 * wC w 2 + 2) (b2 (decide (m < wC w 2))) (by omega)
  obtain ⟨s5, e5, t5⟩ := R_set t4 (x := 3953 + 10 * wC w 2 + 3) m (by omega)
  obtain ⟨s6, e6, t6⟩ := R_set t5 (x := 3953 + 10 * wC w 2 + 4) nm (by omega)
  obtain ⟨s7, e7, t7⟩ := R_set t6 (x := 3953 + 10 * wC w 2 + 5) (wC w 6) (by omega)
  have w2 : W 2 = wC w 2 := r.c (by omega)
  have w6 : W 6 = wC w 6 := r.c (by omega)
  generalize hW7 : upN (upN (upN (upN (upN (upN (upN W (8 + 789 * x) (wK w x + 1)) (3953 + 10 * wC w 2) x) (3953 + 10 * wC w 2 + 1) (wK w x + 1)) (3953 + 10 * wC w 2 + 2) (b2 (decide (m < wC w 2)))) (3953 + 10 * wC w 2 + 3) m) (3953 + 10 * wC w 2 + 4) nm) (3953 + 10 * wC w 2 + 5) (wC w 6) = W7 at t7
  have o7 : ∀ j, j ≠ 8 + 789 * x → (j < 3953 + 10 * wC w 2 ∨ 3953 + 10 * wC w 2 + 6 ≤ j) → W7 j = W j := by
    intro j h1 h2
    rw [← hW7, upN_n (by omega), upN_n (by omega), upN_n (by omega), upN_n (by omega), upN_n (by omega), upN_n (by omega), upN_n (by omega)]
  have v0 : W7 (3953 + 10 * wC w 2) = x := by
    rw [← hW7, upN_n (by omega), upN_n (by omega), upN_n (by omega), upN_n (by omega), upN_n (by omega), upN_s]
  have v1 : W7 (3953 + 10 * wC w 2 + 1) = wK w x + 1 := by
    rw [← hW7, upN_n (by omega), upN_n (by omega), upN_n (by omega), upN_n (by omega), upN_s]
  have v2 : W7 (3953 + 10 * wC w 2 + 2) = b2 (decide (m < wC w 2)) := by
    rw [← hW7, upN_n (by omega), upN_n (by omega), upN_n (by omega), upN_s]
  have v3 : W7 (3953 + 10 * wC w 2 + 3) = m := by
    rw [← hW7, upN_n (by omega), upN_n (by omega), upN_s]
  have v4 : W7 (3953 + 10 * wC w 2 + 4) = nm := by
    rw [← hW7, upN_n (by omega), upN_s]
  have v5 : W7 (3953 + 10 * wC w 2 + 5) = wC w 6 := by
    rw [← hW7, upN_s]
  have vk : W7 (8 + 789 * x) = wK w x + 1 := by
    rw [← hW7, upN_n (by omega), upN_n (by omega), upN_n (by omega), upN_n (by omega), upN_n (by omega), upN_n (by omega), upN_s]
  clear hW7
  have big : ∀ (K : Sto → Option (Int32 × Sto)), ∃ s8 W8, F_X10_happens_L111 a (nI (3953 + 10 * wC w 2)) (nI (9 + 789 * x)) fu (nI 0) s7 K = K s8 ∧ RT a σ M W8 s8 ∧ (∀ j, (j < 3953 + 10 * wC w 2 + 6 ∨ 3953 + 10 * wC w 2 + 10 ≤ j) → W8 j = W7 j) ∧ ∀ j, j < 4 → W8 (3953 + 10 * wC w 2 + 6 + j) = W (9 + 789 * x + 25 + j) := by
    intro K
    obtain ⟨s8, ⟨W8, q1, q2, q3⟩, q4⟩ := lpS (fun f j (s : Sto) => F_X10_happens_L111 a (nI (3953 + 10 * wC w 2)) (nI (9 + 789 * x)) f (nI j) s K) K (fun n s => ∃ W8, RT a σ M W8 s ∧ (∀ j, (j < 3953 + 10 * wC w 2 + 6 ∨ 3953 + 10 * wC w 2 + 10 ≤ j) → W8 j = W7 j) ∧ ∀ j, j < n → W8 (3953 + 10 * wC w 2 + 6 + j) = W (9 + 789 * x + 25 + j)) 4 (by
      intro n f s hn ⟨W8, q1, q2, q3⟩
      obtain ⟨s9, q4, q5⟩ := R_set q1 (x := 3953 + 10 * wC w 2 + 6 + n) (W (9 + 789 * x + 25 + n)) (by omega)
      refine ⟨s9, ⟨_, q5, fun j hj => by rw [upN_n (by omega)]; exact q2 j hj, fun j hj => ?_⟩, ?_⟩
      · by_cases hjn : j = n
        · subst hjn; rw [upN_s]
        · rw [upN_n (by omega)]; exact q3 j (by omega)
      · rw [F_X10_happens_L111]
        have : W8 (9 + 789 * x + 25 + n) = W (9 + 789 * x + 25 + n) := by rw [q2 _ (by omega), o7 _ (by omega) (by omega)]
        simp (disch := omega) only [l_0, l_1, l_2, l_3, l_4, l_5, l_6, l_7, l_8, l_9, l_10, l_12, l_25, l_29, l_33, l_34, l_120, l_122, l_147, l_154, l_274, l_394, l_395, l_789, l_3953, l_5153, l_5178, l_49278, l_49279, l_49280, bind_some', jn_eq, nI_add, pk_mul, nI_leI, nI_ltI, nI_eq, ifb, ifz, R_flag0, R_flag1, R_flag, if_true, if_false, if_neg, R_of q1, this, q4]) (by
      intro f s _
      rw [F_X10_happens_L111, l_4, if_pos (nI_le (Nat.le_refl _) (by omega))]) fu s7 (by unfold fu; omega) ⟨W7, t7, fun _ _ => rfl, fun j hj => absurd hj (Nat.not_lt_zero j)⟩
    exact ⟨s8, W8, q4, q1, q2, q3⟩
  have rest : ∀ (s8 : Sto) (W8 : Nat → Nat), RT a σ M W8 s8 → (∀ j, (j < 3953 + 10 * wC w 2 + 6 ∨ 3953 + 10 * wC w 2 + 10 ≤ j) → W8 j = W7 j) → (∀ j, j < 4 → W8 (3953 + 10 * wC w 2 + 6 + j) = W (9 + 789 * x + 25 + j)) → ∃ s9 s10 s11 s12 s13, F_X10_more s8 a (nI 2) (nI 1) = some s9 ∧ F_X10_of s9 a (nI (8 + 789 * x)) = some (nI (wK w x + 1)) ∧ F_X10_set s9 a (nI (9 + 789 * x + 5 * x + x)) (nI (wK w x + 1)) = some s10 ∧ F_X10_logs s10 a (nI x) (nI (wC w 2)) = some s11 ∧ F_X10_comesToHave s11 a (nI x) (nI (wC w 2)) (nI x) = some s12 ∧ F_X10_sets s12 a (nI (9 + 789 * x + 29)) (nI m) (nI (b2 (!decide (m < wC w 2)))) = some s13 ∧ ∃ W', RT a σ M W' s13 ∧ RW W' (hap w x m nm) := by
    intro s8 W8 t8 o8 v8
    obtain ⟨s9, e9, t9⟩ := R_more t8 (x := 2) 1 (by omega)
    rw [o8 2 (by omega), o7 2 (by omega) (by omega), w2] at t9
    have r9 : RW (upN W8 2 (wC w 2 + 1)) (hap1 w x m nm) := by
      have o9 : ∀ j, j ≠ 2 → j ≠ 8 + 789 * x → (j < 3953 + 10 * wC w 2 ∨ 3953 + 10 * wC w 2 + 10 ≤ j) → upN W8 2 (wC w 2 + 1) j = W j := by
        intro j h1 h2 h3
        rw [upN_n h1, o8 j (by omega), o7 j h2 (by omega)]
      refine ⟨fun k hk => ?_, fun c hc2 => ?_, fun y hy => ⟨?_, ?_, ?_⟩, fun e he => ?_, fun c hc2 => ⟨?_, fun k l hl2 => ?_⟩⟩
      · show _ = up (wC w) 2 (wC w 2 + 1) k
        by_cases hk2 : k = 2
        · subst hk2; rw [upN_s, up_s]
        · rw [up_n _ _ hk2, o9 k hk2 (by omega) (by omega)]; exact r.1 k hk
      · rw [o9 7 (by omega) (by omega) (by omega)]; exact r.2.1 c hc2
      · show _ = up (wK w) x (wK w x + 1) y
        by_cases hyx : y = x
        · subst hyx; rw [upN_n (by omega), up_s, o8 _ (by omega)]; exact vk
        · rw [up_n _ _ hyx, o9 _ (by omega) (by omega) (by omega)]; exact r.k hy
      · exact (r.L hy).cg (i.j.L hy).lg (fun j h1 h2 => o9 j (by omega) (by omega) (by omega))
      · exact (r.S hy).cg (i.j.S hy) (fun j h1 h2 => o9 j (by omega) (by omega) (by omega))
      · have he' : e < wC w 2 + 1 := he
        by_cases h1 : e = wC w 2
        · subst h1
          refine ⟨?_, ?_, ?_, ?_, ?_, ?_, fun z hz => ?_⟩
          · rw [upN_n (by omega), o8 _ (by omega), v0]; exact (up_s _ _ _).symm
          · rw [upN_n (by omega), o8 _ (by omega), v1]; exact (up_s _ _ _).symm
          · rw [upN_n (by omega), o8 _ (by omega), v2]
            have : eO (evn w x m nm) (wC w 2) = decide (m < wC w 2) := by
              show (!(up (eM (wE w)) (wC w 2) m (wC w 2) == wC w 2)) = _
              rw [up_s]
              by_cases h3 : m = wC w 2
              · subst h3; simp
              · have : m < wC w 2 := by omega
                simp [h3, this]
            rw [← this]; rfl
          · rw [upN_n (by omega), o8 _ (by omega), v3]; exact (up_s _ _ _).symm
          · rw [upN_n (by omega), o8 _ (by omega), v4]; exact (up_s _ _ _).symm
          · rw [upN_n (by omega), o8 _ (by omega), v5]; exact (up_s _ _ _).symm
          · show _ = up (eA (wE w)) (wC w 2) (sHs (wL w x)) (wC w 2) z
            rw [up_s, ← r.hs hx5 hz]
            unfold rb
            rw [upN_n (by omega), v8 _ (by omega)]
        · have h2 := (r.e (show e < wC w 2 by omega)).cg (W' := upN W8 2 (wC w 2 + 1)) (fun j h1 h2 => o9 j (by omega) (by omega) (by omega))
          obtain ⟨g1, g2, g3, g4, g5, g6, g7⟩ := h2
          refine ⟨?_, ?_, ?_, ?_, ?_, ?_, fun z hz => ?_⟩
          · rw [g1]; exact (up_n _ _ h1).symm
          · rw [g2]; exact (up_n _ _ h1).symm
          · rw [g3]
            show _ = b2 (!(up (eM (wE w)) (wC w 2) m e == e))
            rw [up_n _ _ h1]; rfl
          · rw [g4]; exact (up_n _ _ h1).symm
          · rw [g5]; exact (up_n _ _ h1).symm
          · rw [g6]; exact (up_n _ _ h1).symm
          · rw [g7 z hz]
            show _ = up (eA (wE w)) (wC w 2) (sHs (wL w x)) e z
            rw [up_n _ _ h1]
      · rw [o9 _ (by omega) (by omega) (by omega)]; exact r.t hc2
      · have h3 := (List.getElem?_eq_some_iff.mp hl2).1
        exact (r.l hc2 hl2).cg (fun j h1 h2 => o9 j (by omega) (by omega) (by omega))
    have hk9 : F_X10_of s9 a (nI (8 + 789 * x)) = some (nI (wK w x + 1)) := by
      rw [R_of t9 (by omega), r9.k hx5]
      show some (nI (up (wK w) x (wK w x + 1) x)) = _
      rw [up_s]
    have S9 : SX a σ M (upN W8 2 (wC w 2 + 1)) (hap1 w x m nm) x (wL w x) s9 := SX.rf t9 r9
    have hkc := i.k hx5
    have p9 : Js (wC (hap1 w x m nm) 2) (wL w x) := j1.L hx5
    obtain ⟨s10, e10, S10⟩ := R_tset S9 j1 p9 hx5 (k := 5 * x + x) (v := wK w x + 1) (c := 9 + 789 * x + 5 * x + x) (by omega) (by omega)
    have p10 : Js (wC (hap1 w x m nm) 2) (sTb' (wL w x) (up (sTb (wL w x)) (5 * x + x) (wK w x + 1))) := p9.tbS (fun k hk => by
      have := p9.tb hk
      unfold up
      split <;> omega)
    obtain ⟨s11, e11, S11⟩ := R_logs S10 j1 p10 hx5 (e := wC w 2) (by show (sLg (wL w x)).length < 120; omega)
    have p11 : Js (wC (hap1 w x m nm) 2) (sLg' (sTb' (wL w x) (up (sTb (wL w x)) (5 * x + x) (wK w x + 1))) (sLg (wL w x) ++ [wC w 2])) := ⟨p10.1, by show (sLg (wL w x) ++ [wC w 2]).length ≤ 120; rw [List.length_append]; show _ + 1 ≤ 120; omega, fun e he => by
      rcases List.mem_append.mp he with he | he
      · exact p9.lm he
      · rw [List.mem_singleton.mp he]; show wC w 2 < wC w 2 + 1; omega⟩
    obtain ⟨s12, e12, S12⟩ := R_cth S11 j1 p11 hx5 (e := wC w 2) (y := x) (by omega)
    obtain ⟨s13, e13, S13⟩ := R_setV S12 j1 p11 hx5 (e := m) (by omega) (!decide (m < wC w 2))
    refine ⟨s9, s10, s11, s12, s13, e9, hk9, e10, e11, e12, e13, ?_⟩
    obtain ⟨W', t13, r13, -⟩ := S13
    refine ⟨W', t13, ?_⟩
    have hfin : wL' (hap1 w x m nm) (up (wL (hap1 w x m nm)) x (sVw' (hwS (sLg' (sTb' (wL w x) (up (sTb (wL w x)) (5 * x + x) (wK w x + 1))) (sLg (wL w x) ++ [wC w 2])) (gn (sHw (sLg' (sTb' (wL w x) (up (sTb (wL w x)) (5 * x + x) (wK w x + 1))) (sLg (wL w x) ++ [wC w 2]))) (wC w 2) (wC (hap1 w x m nm) 6) x)) (up (sVw (wL w x)) m (!decide (m < wC w 2))))) = hap w x m nm := by
      unfold hap
      dsimp only
      have hv : up (sVw (wL w x)) m (!decide (m < wC w 2)) = if m = wC w 2 then up (sVw (wL w x)) (wC w 2) true else up (sVw (wL w x)) m false := by
        by_cases h3 : m = wC w 2
        · subst h3; rw [if_pos rfl]; simp
        · have : m < wC w 2 := by omega
          rw [if_neg h3]; simp [this]
      rw [hv]
      rfl
    rw [← hfin]
    exact r13
  obtain ⟨s8, W8, big1, t8, o8, v8⟩ := big (fun s20 =>
        (F_X10_more s20 a (nI 2) (nI 1)).bind fun s21 =>
        (F_X10_cellOf (nI x) (nI x) (nI x)).bind fun x22 =>
        (F_X10_clockOf (nI x)).bind fun x23 =>
        (F_X10_of s21 a x23).bind fun x24 =>
        (F_X10_set s21 a x22 x24).bind fun s25 =>
        (F_X10_logs s25 a (nI x) (nI (wC w 2))).bind fun s26 =>
        (F_X10_comesToHave s26 a (nI x) (nI (wC w 2)) (nI x)).bind fun s27 =>
        (F_X10_sets s27 a (nI (9 + 789 * x) + nI 29) (nI m) (nI (b2 (!decide (m < wC w 2))))).bind fun s31 =>
            some (nI (wC w 2), s31))
  obtain ⟨s9, s10, s11, s12, s13, e9, hk9, e10, e11, e12, e13, W', t13, r13⟩ := rest s8 W8 t8 o8 v8
  refine ⟨s13, W', ?_, t13, r13⟩
  have hk2 : (upN (upN W (8 + 789 * x) (wK w x + 1)) (3953 + 10 * wC w 2) x) (8 + 789 * x) = wK w x + 1 := by rw [upN_n (by omega), upN_s]
  have hs6 : (upN (upN (upN (upN (upN (upN W (8 + 789 * x) (wK w x + 1)) (3953 + 10 * wC w 2) x) (3953 + 10 * wC w 2 + 1) (wK w x + 1)) (3953 + 10 * wC w 2 + 2) (b2 (decide (m < wC w 2)))) (3953 + 10 * wC w 2 + 3) m) (3953 + 10 * wC w 2 + 4) nm) 6 = wC w 6 := by
    rw [upN_n (by omega), upN_n (by omega), upN_n (by omega), upN_n (by omega), upN_n (by omega), upN_n (by omega), w6]
  unfold F_X10_happens
  rw [chk_eq h.ok]
  have fin : (F_X10_happens_L111 a (nI (3953 + 10 * wC w 2)) (nI (9 + 789 * x)) fu (nI 0) s7 (fun s20 =>
        (F_X10_more s20 a (nI 2) (nI 1)).bind fun s21 =>
        (F_X10_cellOf (nI x) (nI x) (nI x)).bind fun x22 =>
        (F_X10_clockOf (nI x)).bind fun x23 =>
        (F_X10_of s21 a x23).bind fun x24 =>
        (F_X10_set s21 a x22 x24).bind fun s25 =>
        (F_X10_logs s25 a (nI x) (nI (wC w 2))).bind fun s26 =>
        (F_X10_comesToHave s26 a (nI x) (nI (wC w 2)) (nI x)).bind fun s27 =>
        (F_X10_sets s27 a (nI (9 + 789 * x) + nI 29) (nI m) (nI (b2 (!decide (m < wC w 2))))).bind fun s31 =>
            some (nI (wC w 2), s31))) = some (nI (wC w 2), s13) := by
    rw [big1]
    simp only [e9, bind_some', R_cellOf, R_clockOf, hk9, e10, e11, e12, nI_add, e13]
  have tail : ∀ (K : Sto → Option (Int32 × Sto)), K s7 = some (nI (wC w 2), s13) → ((F_X10_set s4 a (nI (3953 + 10 * wC w 2) + nI 3) (nI m)).bind fun s14 => (F_X10_set s14 a (nI (3953 + 10 * wC w 2) + nI 4) (nI nm)).bind fun s15 => (F_X10_of s15 a (nI 6)).bind fun x16 => (F_X10_set s15 a (nI (3953 + 10 * wC w 2) + nI 5) x16).bind K) = some (nI (wC w 2), s13) := by
    intro K hK
    rw [nI_add, e5, bind_some', nI_add, e6, bind_some', R_of t6 (by omega), hs6, bind_some', nI_add, e7, bind_some', hK]
  have h10 : ¬ nI 1 = nI 0 := by decide
  have fl1 : F_X10_flag (nI (b2 (decide (m < wC w 2)))) = some (nI (b2 (decide (m < wC w 2)))) := R_flag _
  rw [l_2, R_of h (by omega), w2, bind_some', R_eventOf, bind_some', R_stateOf, bind_some', R_clockOf, bind_some', l_1, e1, bind_some', l_0, nI_add, Nat.add_zero, e2, bind_some', bind_some', R_of t2 (by omega), hk2, bind_some', nI_add, e3, bind_some', fl1, bind_some', nI_add, e4, bind_some']
  rw [R_clockOf] at fin
  by_cases hmc : m < wC w 2
  · have hz1 := hz hmc
    subst hz1
    rw [decide_eq_true hmc] at fin ⊢
    rw [show nI (b2 true) = nI 1 from rfl, jn_eq, if_neg h10, l_3, l_4, l_5, l_6]
    refine tail _ ?_
    refine Eq.trans ?_ fin
    rw [show nI (b2 (!true)) = nI 0 from rfl, l_29]
    simp only [jn_eq, h10, if_false]
  · have hmc2 : m = wC w 2 := by omega
    subst hmc2
    rw [decide_eq_false hmc] at fin ⊢
    rw [show nI (b2 false) = nI 0 from rfl, jn_eq, if_pos rfl, l_3, l_4, l_5, l_6]
    refine tail _ ?_
    refine Eq.trans ?_ fin
    rw [show nI (b2 (!false)) = nI 1 from rfl, l_29]
    simp only [jn_eq, if_true]
end HAP
