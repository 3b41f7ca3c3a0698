/-! ===== PURE 11: the reference lays a letter; a letter comes ===== -/
section LAY
variable {a : Nat} {σ s : Sto} {M : Ms} {W W' : Nat → Nat} {w : Wd} {x : Nat} {st : St}
/-- the words agree but for one letter's place -/
def Ax (p : Nat) (W W' : Nat → Nat) : Prop := ∀ j, (j < p ∨ p + 147 ≤ j) → W' j = W j
theorem Ax.rf {p : Nat} : Ax p W W := fun _ _ => rfl
theorem Ax.wr {p j v : Nat} (h : Ax p W W') (h1 : p ≤ j) (h2 : j < p + 147) : Ax p W (upN W' j v) := fun k hk => by rw [upN_n (by omega)]; exact h k hk
theorem R_lays (h : RT a σ M W s) (i : Jv w) (hx : x < 5) {o p : Nat} (ho : o < 5) (hp : 5153 ≤ p) (hp2 : p + 147 ≤ 49425) (hf : ∀ W', Ax p W W' → RW W' w) : ∃ s' W', F_X10_lays s a (nI p) (nI x) (nI o) = some (nI (lEv (ltr (wE w) (wC w 1) (wL w x) o)).length, s') ∧ RT a σ M W' s' ∧ RLe W' p (ltr (wE w) (wC w 1) (wL w x) o) ∧ Ax p W W' := by
  have hlg := (i.L hx).lg
  unfold F_X10_lays
  rw [chk_eq h.ok, R_stateOf, bind_some', l_0]
  have hfl : ∀ j, ((sLg (wL w x)).take j |>.filter (fun e => !knw (wE w) (wL w x) o e)).length ≤ 120 := fun j => Nat.le_trans (List.length_filter_le ..) (by rw [List.length_take]; omega)
  obtain ⟨q, hq, hE⟩ := lpS (fun f j (q : Nat × Sto) => F_X10_lays_L12 a (nI p) (nI x) (nI o) (nI (9 + 789 * x)) f (nI q.1) (nI j) q.2 (fun x6 s7 => (F_X10_of s7 a (1 : Int32)).bind fun x8 => (F_X10_set s7 a (nI p + (nI 0)) x8).bind fun s9 => (F_X10_set s9 a (nI p + (1 : Int32)) x6).bind fun s10 => F_X10_lays_L99 a (nI p) (nI (9 + 789 * x)) fu (nI 0) s10 (fun s13 => some (x6, s13)))) (fun q => (F_X10_of q.2 a (1 : Int32)).bind fun x8 => (F_X10_set q.2 a (nI p + (nI 0)) x8).bind fun s9 => (F_X10_set s9 a (nI p + (1 : Int32)) (nI q.1)).bind fun s10 => F_X10_lays_L99 a (nI p) (nI (9 + 789 * x)) fu (nI 0) s10 (fun s13 => some (nI q.1, s13))) (fun j q => q.1 = ((sLg (wL w x)).take j |>.filter (fun e => !knw (wE w) (wL w x) o e)).length ∧ ∃ W', RT a σ M W' q.2 ∧ Ax p W W' ∧ ∀ i z, ((sLg (wL w x)).take j |>.filter (fun e => !knw (wE w) (wL w x) o e))[i]? = some z → W' (p + 2 + i) = z) (sLg (wL w x)).length (by
    intro j f q hjn hI
    obtain ⟨hq1, W2, h2, hA2, hev⟩ := hI
    have r2 := hf W2 hA2
    have hn := r2.ln hx
    have he := r2.lg hx hjn
    have hec := (i.L hx).lm (List.getElem_mem hjn)
    have hk := R_isKnown h2 r2 i hx ho hec
    have hfj := filt_len (fun e => !knw (wE w) (wL w x) o e) (sLg (wL w x)) j
    by_cases hb : knw (wE w) (wL w x) o (sLg (wL w x))[j] = true
    · refine ⟨q, ⟨?_, W2, h2, hA2, ?_⟩, ?_⟩
      · rw [tk_filt _ hjn, if_neg (by rw [hb]; decide), List.append_nil]; exact hq1
      · rw [tk_filt _ hjn, if_neg (by rw [hb]; decide), List.append_nil]; exact hev
      · show F_X10_lays_L12 _ _ _ _ _ _ _ _ _ _ = F_X10_lays_L12 _ _ _ _ _ _ _ _ _ _
        rw [F_X10_lays_L12]
        simp (disch := omega) only [l_0, l_1, l_2, l_3, l_4, l_5, l_6, l_7, l_8, l_9, l_10, l_12, l_25, l_29, l_33, l_34, l_120, l_122, l_147, l_154, l_274, l_394, l_395, l_789, l_3953, l_5153, l_5178, l_49278, l_49279, l_49280, bind_some', jn_eq, nI_add, pk_mul, nI_leI, nI_ltI, nI_eq, ifb, ifz, R_flag0, R_flag1, R_flag, if_true, if_false, R_of h2, hn, if_neg, he, hk, hb]
    · have hb2 : knw (wE w) (wL w x) o (sLg (wL w x))[j] = false := by simpa using hb
      obtain ⟨s3, h3, h4⟩ := R_set h2 (x := p + 2 + q.1) (sLg (wL w x))[j] (by omega)
      refine ⟨(q.1 + 1, s3), ⟨?_, _, h4, hA2.wr (by omega) (by omega), ?_⟩, ?_⟩
      · rw [tk_filt _ hjn, if_pos (by rw [hb2]; rfl), List.length_append, ← hq1]; rfl
      · rw [tk_filt _ hjn, if_pos (by rw [hb2]; rfl)]
        intro i z hz
        rw [List.getElem?_append] at hz
        by_cases hi : i < ((sLg (wL w x)).take j |>.filter (fun e => !knw (wE w) (wL w x) o e)).length
        · rw [if_pos hi] at hz
          rw [upN_n (by omega)]; exact hev i z hz
        · rw [if_neg hi] at hz
          have h6 := (List.getElem?_eq_some_iff.mp hz).1
          have h7 : i = ((sLg (wL w x)).take j |>.filter (fun e => !knw (wE w) (wL w x) o e)).length := by simp at h6; omega
          rw [h7, ← hq1, upN_s]
          rw [h7, Nat.sub_self] at hz
          exact Option.some.inj hz
      · show F_X10_lays_L12 _ _ _ _ _ _ _ _ _ _ = F_X10_lays_L12 _ _ _ _ _ _ _ _ _ _
        rw [F_X10_lays_L12]
        simp (disch := omega) only [l_0, l_1, l_2, l_3, l_4, l_5, l_6, l_7, l_8, l_9, l_10, l_12, l_25, l_29, l_33, l_34, l_120, l_122, l_147, l_154, l_274, l_394, l_395, l_789, l_3953, l_5153, l_5178, l_49278, l_49279, l_49280, bind_some', jn_eq, nI_add, pk_mul, nI_leI, nI_ltI, nI_eq, ifb, ifz, R_flag0, R_flag1, R_flag, if_true, if_false, R_of h2, hn, if_neg, he, hk, hb2, h3]
        rfl) (by
    intro f q hI
    obtain ⟨hq1, W2, h2, hA2, hev⟩ := hI
    have r2 := hf W2 hA2
    rw [F_X10_lays_L12, l_33, nI_add, R_of h2 (by omega), bind_some', r2.ln hx, if_pos (nI_le (Nat.le_refl _) (by omega))]) fu (0, s) (by unfold fu; omega) ⟨rfl, W, h, Ax.rf, fun i z hz => by simp at hz⟩
  rw [hE]
  obtain ⟨hq1, W2, h2, hA2, hev⟩ := hq
  rw [List.take_length] at hq1 hev
  have r2 := hf W2 hA2
  obtain ⟨s3, h3, h4⟩ := R_set h2 (x := p) (wC w 1) (by omega)
  obtain ⟨s4, h5, h6⟩ := R_set h4 (x := p + 1) q.1 (by omega)
  have hq120 := hfl (sLg (wL w x)).length
  rw [List.take_length] at hq120
  obtain ⟨s5, ⟨W5, h7, hA5, hk5, ht5⟩, hE2⟩ := lpS (fun f j (s : Sto) => F_X10_lays_L99 a (nI p) (nI (9 + 789 * x)) f (nI j) s (fun s13 => some (nI q.1, s13))) (fun s => some (nI q.1, s)) (fun j s => ∃ W', RT a σ M W' s ∧ Ax p W W' ∧ (∀ i, i < 122 → W' (p + i) = (upN (upN W2 p (wC w 1)) (p + 1) q.1) (p + i)) ∧ ∀ i, i < j → W' (p + 122 + i) = sTb (wL w x) i) 25 (by
    intro j f s hjn ⟨W3, h7, hA3, hk3, ht3⟩
    have r3 := hf W3 hA3
    have htb := r3.tb hx hjn
    obtain ⟨s6, h8, h9⟩ := R_set h7 (x := p + 122 + j) (sTb (wL w x) j) (by omega)
    refine ⟨s6, ⟨_, h9, hA3.wr (by omega) (by omega), fun i hi => by rw [upN_n (by omega)]; exact hk3 i hi, fun i hi => ?_⟩, ?_⟩
    · by_cases hij : i = j
      · subst hij; rw [upN_s]
      · rw [upN_n (by omega)]; exact ht3 i (by omega)
    · rw [F_X10_lays_L99]
      simp (disch := omega) only [l_0, l_1, l_2, l_3, l_4, l_5, l_6, l_7, l_8, l_9, l_10, l_12, l_25, l_29, l_33, l_34, l_120, l_122, l_147, l_154, l_274, l_394, l_395, l_789, l_3953, l_5153, l_5178, l_49278, l_49279, l_49280, bind_some', jn_eq, nI_add, pk_mul, nI_leI, nI_ltI, nI_eq, ifb, ifz, R_flag0, R_flag1, R_flag, if_true, if_false, R_of h7, htb, if_neg, h8]) (by
    intro f s _
    rw [F_X10_lays_L99, l_25, if_pos (nI_le (Nat.le_refl _) (by omega))]) fu s4 (by unfold fu; omega) ⟨_, h6, (hA2.wr (by omega) (by omega)).wr (by omega) (by omega), fun i hi => rfl, fun i hi => absurd hi (Nat.not_lt_zero i)⟩
  refine ⟨s5, W5, ?_, h7, ⟨?_, ?_, ?_, fun i z hz => ?_, fun i hi => ht5 i hi⟩, hA5⟩
  · rw [l_1, R_of h2 (by omega), bind_some', nI_add, Nat.add_zero, r2.c (k := 1) (by omega), h3, bind_some', nI_add, h5, bind_some', hE2, hq1]
    rfl
  · have := hk5 0 (by omega)
    rw [Nat.add_zero] at this
    rw [this, upN_n (by omega), upN_s]; rfl
  · rw [hk5 1 (by omega), upN_s, hq1]; rfl
  · exact hq120
  · have hz' := hz
    have h8 := (List.getElem?_eq_some_iff.mp hz).1
    have h9 : i < 120 := Nat.lt_of_lt_of_le h8 hq120
    rw [Nat.add_assoc, hk5 (2 + i) (by omega), upN_n (by omega), upN_n (by omega), ← Nat.add_assoc]
    exact hev i z hz
/-- a site changed by each of a list -/
theorem SX.each {ρ : Type} (L : Nat → Nat → Sto → ρ) (K : Sto → ρ) (g : St → Nat → St) (q : List Nat) (P : Nat → St → Prop) (hq : q.length < fu)
    (hs : ∀ j f s st (hj : j < q.length), P j st → SX a σ M W w x st s → ∃ s', P (j + 1) (g st q[j]) ∧ SX a σ M W w x (g st q[j]) s' ∧ L (f + 1) j s = L f (j + 1) s')
    (he : ∀ f s st, P q.length st → SX a σ M W w x st s → L (f + 1) q.length s = K s) {st : St} (h0 : P 0 st) (h : SX a σ M W w x st s) : ∃ s', L fu 0 s = K s' ∧ P q.length (q.foldl g st) ∧ SX a σ M W w x (q.foldl g st) s' := by
  obtain ⟨s', ⟨h1, h2⟩, h3⟩ := lpS L K (fun j s => P j ((q.take j).foldl g st) ∧ SX a σ M W w x ((q.take j).foldl g st) s) q.length (by
    intro j f s hj hI
    obtain ⟨s', h1, h2, h3⟩ := hs j f s _ hj hI.1 hI.2
    refine ⟨s', ?_, h3⟩
    rw [tk_fold _ _ hj]
    exact ⟨h1, h2⟩) (by
    intro f s hI
    exact he f s _ hI.1 hI.2) fu s hq (by rw [List.take_zero]; exact ⟨h0, h⟩)
  rw [List.take_length] at h1 h2
  exact ⟨s', h3, h1, h2⟩
theorem lrn_le {v : Ev} {l : Lt} {f o c : Nat} {t : Nat → Nat} (ht : ∀ i, i < 25 → t i ≤ c) (hu : ∀ i, i < 25 → lTb l i ≤ c) (he : ∀ e ∈ lEv l, eT v e ≤ c) (hf : f < 5) : ∀ i, i < 25 → lrn v l f o t i ≤ c := by
  intro i hi
  unfold lrn
  have r1 : ∀ (t : Nat → Nat) (r : Nat), (∀ i, i < 25 → t i ≤ c) → ∀ i, i < 25 → rRow t r (lTb l) f i ≤ c := by
    intro t r ht i hi
    have h1 := ht i hi
    have h2 := hu (5 * f + i % 5) (by omega)
    unfold rRow
    split <;> omega
  split
  · exact lrn2_le ht _ he i hi
  · split
    · exact r1 _ _ (r1 _ _ ht) i hi
    · have h1 := r1 _ o ht i hi
      have h2 := hu i hi
      show max _ _ ≤ c
      omega
theorem R_comes (h : RT a σ M W s) (r : RW W w) (i : Jv w) (hx : x < 5) {o y : Nat} {l : Lt} (hy : y < 5) (hl : RLe W o l) (ho : 5153 ≤ o) (ho2 : o + 147 ≤ 49425) (hu : ∀ i, i < 25 → lTb l i ≤ 120) (hz : ∀ i, i < 25 → (wC w 0 ≤ i / 5 ∨ wC w 0 ≤ i % 5) → lTb l i = 0) (hle : ∀ e ∈ lEv l, e < wC w 2) (hm : lMd l < 3) (hln : (sLg (wL w x)).length + (frs (wE w) l (wL w x) x).length ≤ 120) :
    ∃ s' M', F_X10_comes s a (nI o) (nI y) (nI x) = some (nI (frs (wE w) l (wL w x) x).length, s') ∧ Mz M M' ∧ SX a σ M' W w x (rcv (wE w) (wC w 0) (wC w 6) l y x (wL w x)) s' := by
  have hc := i.c
  have hlen := hl.2.2.1
  have hlm : ∀ e ∈ frs (wE w) l (wL w x) x, e < wC w 2 := fun e he => hle e (List.mem_filter.mp he).1
  have hfl : ∀ j, ((lEv l).take j |>.filter (fun e => !knw (wE w) (wL w x) x e)).length ≤ 120 := fun j => Nat.le_trans (List.length_filter_le ..) (by rw [List.length_take]; omega)
  unfold F_X10_comes
  rw [chk_eq h.ok, l_0]
  obtain ⟨q, ⟨hq1, M1, hM1, h1, hfr⟩, hE⟩ := lpS (fun f j (q : Nat × Sto) => F_X10_comes_L6 a (nI o) (nI x) f (nI q.1) (nI j) q.2 (fun x6 s7 =>
      (F_X10_stateOf (nI x)).bind fun x8 =>
      F_X10_comes_L74 a x6 (x8 + (29 : Int32)) fu (nI 0) s7
        (fun s15 =>
          F_X10_comes_L118 a x6 (x8 + (29 : Int32)) fu (nI 0) s15
            (fun s23 =>
              F_X10_comes_L166 a (nI y) (nI x) x6 fu (nI 0) s23
                (fun s27 =>
                  (F_X10_tables s27 a (nI o) (nI y) (nI x)).bind fun s28 =>
                  F_X10_comes_L202 a (nI x) x6 fu (nI 0) s28
                    (fun s32 =>
                      (F_X10_drops s32 a (nI x)).bind fun s33 =>
                      some (x6, s33)))))))
    (fun q => (F_X10_stateOf (nI x)).bind fun x8 =>
      F_X10_comes_L74 a (nI q.1) (x8 + (29 : Int32)) fu (nI 0) q.2
        (fun s15 =>
          F_X10_comes_L118 a (nI q.1) (x8 + (29 : Int32)) fu (nI 0) s15
            (fun s23 =>
              F_X10_comes_L166 a (nI y) (nI x) (nI q.1) fu (nI 0) s23
                (fun s27 =>
                  (F_X10_tables s27 a (nI o) (nI y) (nI x)).bind fun s28 =>
                  F_X10_comes_L202 a (nI x) (nI q.1) fu (nI 0) s28
                    (fun s32 =>
                      (F_X10_drops s32 a (nI x)).bind fun s33 =>
                      some (nI q.1, s33))))))
    (fun j q => q.1 = ((lEv l).take j |>.filter (fun e => !knw (wE w) (wL w x) x e)).length ∧ ∃ M', Mz M M' ∧ RT a σ M' W q.2 ∧ ∀ i z, ((lEv l).take j |>.filter (fun e => !knw (wE w) (wL w x) x e))[i]? = some z → M'.2.2 3 i = z) (lEv l).length (by
    intro j f q hjn hI
    obtain ⟨hq1, M2, hM2, h2, hev⟩ := hI
    have he := hl.2.2.2.1 j _ (List.getElem?_eq_getElem hjn)
    have hn := hl.2.1
    have hec := hle _ (List.getElem_mem hjn)
    have hk := R_isKnown h2 r i hx hx hec
    have hfj := filt_len (fun e => !knw (wE w) (wL w x) x e) (lEv l) j
    by_cases hb : knw (wE w) (wL w x) x (lEv l)[j] = true
    · refine ⟨q, ⟨?_, M2, hM2, h2, ?_⟩, ?_⟩
      · rw [tk_filt _ hjn, if_neg (by rw [hb]; decide), List.append_nil]; exact hq1
      · rw [tk_filt _ hjn, if_neg (by rw [hb]; decide), List.append_nil]; exact hev
      · show F_X10_comes_L6 _ _ _ _ _ _ _ _ = F_X10_comes_L6 _ _ _ _ _ _ _ _
        rw [F_X10_comes_L6]
        simp (disch := omega) only [l_0, l_1, l_2, l_3, l_4, l_5, l_6, l_7, l_8, l_9, l_10, l_12, l_25, l_29, l_33, l_34, l_120, l_122, l_147, l_154, l_274, l_394, l_395, l_789, l_3953, l_5153, l_5178, l_49278, l_49279, l_49280, bind_some', jn_eq, nI_add, pk_mul, nI_leI, nI_ltI, nI_eq, ifb, ifz, R_flag0, R_flag1, R_flag, if_true, if_false, R_of h2, hn, if_neg, he, hk, hb]
    · have hb2 : knw (wE w) (wL w x) x (lEv l)[j] = false := by simpa using hb
      obtain ⟨s3, h3, h4⟩ := h2.as (k := 3) (j := q.1) (lEv l)[j] (by omega) (by omega) rfl (by show q.1 < 120; omega)
      refine ⟨(q.1 + 1, s3), ⟨?_, _, hM2.tr (Mz.uA (by omega)), h4, ?_⟩, ?_⟩
      · rw [tk_filt _ hjn, if_pos (by rw [hb2]; rfl), List.length_append, ← hq1]; rfl
      · rw [tk_filt _ hjn, if_pos (by rw [hb2]; rfl)]
        intro i z hz
        show upN (M2.2.2 3) q.1 (lEv l)[j] i = z
        rw [List.getElem?_append] at hz
        by_cases hi : i < ((lEv l).take j |>.filter (fun e => !knw (wE w) (wL w x) x e)).length
        · rw [if_pos hi] at hz
          rw [upN_n (by omega)]; exact hev i z hz
        · rw [if_neg hi] at hz
          have h6 := (List.getElem?_eq_some_iff.mp hz).1
          have h7 : i = ((lEv l).take j |>.filter (fun e => !knw (wE w) (wL w x) x e)).length := by simp at h6; omega
          rw [h7, ← hq1, upN_s]
          rw [h7, Nat.sub_self] at hz
          exact Option.some.inj hz
      · show F_X10_comes_L6 _ _ _ _ _ _ _ _ = F_X10_comes_L6 _ _ _ _ _ _ _ _
        rw [F_X10_comes_L6]
        simp (disch := omega) only [l_0, l_1, l_2, l_3, l_4, l_5, l_6, l_7, l_8, l_9, l_10, l_12, l_25, l_29, l_33, l_34, l_120, l_122, l_147, l_154, l_274, l_394, l_395, l_789, l_3953, l_5153, l_5178, l_49278, l_49279, l_49280, bind_some', jn_eq, nI_add, pk_mul, nI_leI, nI_ltI, nI_eq, ifb, ifz, R_flag0, R_flag1, R_flag, if_true, if_false, R_of h2, hn, if_neg, he, hk, hb2, h2.g6, h3]
        rfl) (by
    intro f q hI
    obtain ⟨hq1, M2, hM2, h2, hev⟩ := hI
    rw [F_X10_comes_L6, l_1, nI_add, R_of h2 (by omega), bind_some', hl.2.1, if_pos (nI_le (Nat.le_refl _) (by omega))]) fu (0, s) (by unfold fu; omega) ⟨rfl, M, Mz.rf, h, fun i z hz => by simp at hz⟩
  rw [hE]
  rw [List.take_length] at hq1 hfr
  have hq2 : q.1 = (frs (wE w) l (wL w x) x).length := hq1
  have hfr2 : ∀ j (hj : j < (frs (wE w) l (wL w x) x).length), M1.2.2 3 j = (frs (wE w) l (wL w x) x)[j] := fun j hj => hfr j _ (List.getElem?_eq_getElem hj)
  have hq120 : (frs (wE w) l (wL w x) x).length ≤ 120 := by omega
  rw [hq2, R_stateOf, bind_some', l_29, nI_add]
  clear hE hq1 hq2 hfr
  generalize hqq : frs (wE w) l (wL w x) x = Q at *
  have rdf : ∀ {s : Sto} {W : Nat → Nat} {j : Nat} (hj : j < Q.length), RT a σ M1 W s → iald s (a + 1 + 3) (nI j) = some (nI Q[j]) := fun hj h => by
    rw [h.ar (by omega) (by omega) rfl (by show _ < 120; omega), hfr2 _ hj]
  -- the views
  obtain ⟨s2, e2, p2, S2⟩ := SX.each (M := M1) (fun f j s (K : Sto → Option (Int32 × Sto)) => F_X10_comes_L74 a (nI Q.length) (nI (9 + 789 * x + 29)) f (nI j) s K) (fun s K => K s) (fun st e => if eO (wE w) e then st else sVw' st (up (sVw st) e true)) Q (fun _ st => Js (wC w 2) st) (by unfold fu; omega) (by
    intro j f s st hj hJ hS
    obtain ⟨W2, h2, r2, hA2⟩ := id hS
    have hec := hlm _ (List.getElem_mem hj)
    have ho' := R_isOut h2 r2 (i.up hJ) hec
    rw [wE_L] at ho'
    by_cases hb : eO (wE w) Q[j] = true
    · refine ⟨s, ?_, ?_, ?_⟩
      · rw [if_pos hb]; exact hJ
      · rw [if_pos hb]; exact hS
      · funext K; rw [F_X10_comes_L74]
        simp (disch := omega) only [l_0, l_1, l_2, l_3, l_4, l_5, l_6, l_7, l_8, l_9, l_10, l_12, l_25, l_29, l_33, l_34, l_120, l_122, l_147, l_154, l_274, l_394, l_395, l_789, l_3953, l_5153, l_5178, l_49278, l_49279, l_49280, bind_some', jn_eq, nI_add, pk_mul, nI_leI, nI_ltI, nI_eq, ifb, ifz, R_flag0, R_flag1, R_flag, if_true, if_false, if_neg, h2.g6, rdf hj h2, ho', hb]
    · have hb2 : eO (wE w) Q[j] = false := by simpa using hb
      obtain ⟨s3, h3, h4⟩ := R_setV hS i hJ hx (e := Q[j]) (by omega) true
      rw [show nI (b2 true) = nI 1 from rfl] at h3
      refine ⟨s3, ?_, ?_, ?_⟩
      · rw [if_neg hb]; exact hJ
      · rw [if_neg hb]; exact h4
      · funext K; rw [F_X10_comes_L74]
        simp (disch := omega) only [l_0, l_1, l_2, l_3, l_4, l_5, l_6, l_7, l_8, l_9, l_10, l_12, l_25, l_29, l_33, l_34, l_120, l_122, l_147, l_154, l_274, l_394, l_395, l_789, l_3953, l_5153, l_5178, l_49278, l_49279, l_49280, bind_some', jn_eq, nI_add, pk_mul, nI_leI, nI_ltI, nI_eq, ifb, ifz, R_flag0, R_flag1, R_flag, if_true, if_false, if_neg, h2.g6, rdf hj h2, ho', hb2, h3]
        rfl) (by
    intro f s st _ _
    funext K; rw [F_X10_comes_L74, if_pos (nI_le (Nat.le_refl _) (by omega))]) (i.L hx) (SX.rf h1 r)
  have e2' : ∀ K, F_X10_comes_L74 a (nI Q.length) (nI (9 + 789 * x + 29)) fu (nI 0) q.2 K = K s2 := fun K => congrFun e2 K
  rw [e2']
  obtain ⟨s3, e3, p3, S3⟩ := SX.each (M := M1) (fun f j s (K : Sto → Option (Int32 × Sto)) => F_X10_comes_L118 a (nI Q.length) (nI (9 + 789 * x + 29)) f (nI j) s K) (fun s K => K s) (fun st e => if eO (wE w) e then sVw' st (up (sVw st) (eM (wE w) e) false) else st) Q (fun _ st => Js (wC w 2) st) (by unfold fu; omega) (by
    intro j f s st hj hJ hS
    obtain ⟨W2, h2, r2, hA2⟩ := id hS
    have hec := hlm _ (List.getElem_mem hj)
    have ho' := R_isOut h2 r2 (i.up hJ) hec
    rw [wE_L] at ho'
    have hmk := R_markOf h2 r2 (i.up hJ) hec
    rw [wE_L] at hmk
    have hm120 := i.eM hec
    by_cases hb : eO (wE w) Q[j] = true
    · obtain ⟨s3, h3, h4⟩ := R_setV hS i hJ hx (e := eM (wE w) Q[j]) (by omega) false
      rw [show nI (b2 false) = nI 0 from rfl] at h3
      refine ⟨s3, ?_, ?_, ?_⟩
      · rw [if_pos hb]; exact hJ
      · rw [if_pos hb]; exact h4
      · funext K; rw [F_X10_comes_L118]
        simp (disch := omega) only [l_0, l_1, l_2, l_3, l_4, l_5, l_6, l_7, l_8, l_9, l_10, l_12, l_25, l_29, l_33, l_34, l_120, l_122, l_147, l_154, l_274, l_394, l_395, l_789, l_3953, l_5153, l_5178, l_49278, l_49279, l_49280, bind_some', jn_eq, nI_add, pk_mul, nI_leI, nI_ltI, nI_eq, ifb, ifz, R_flag0, R_flag1, R_flag, if_true, if_false, if_neg, h2.g6, rdf hj h2, ho', hb, hmk, h3]
    · have hb2 : eO (wE w) Q[j] = false := by simpa using hb
      refine ⟨s, ?_, ?_, ?_⟩
      · rw [if_neg hb]; exact hJ
      · rw [if_neg hb]; exact hS
      · funext K; rw [F_X10_comes_L118]
        simp (disch := omega) only [l_0, l_1, l_2, l_3, l_4, l_5, l_6, l_7, l_8, l_9, l_10, l_12, l_25, l_29, l_33, l_34, l_120, l_122, l_147, l_154, l_274, l_394, l_395, l_789, l_3953, l_5153, l_5178, l_49278, l_49279, l_49280, bind_some', jn_eq, nI_add, pk_mul, nI_leI, nI_ltI, nI_eq, ifb, ifz, R_flag0, R_flag1, R_flag, if_true, if_false, if_neg, h2.g6, rdf hj h2, ho', hb2]
        rfl) (by
    intro f s st _ _
    funext K; rw [F_X10_comes_L118, if_pos (nI_le (Nat.le_refl _) (by omega))]) p2 S2
  have e3' : ∀ K, F_X10_comes_L118 a (nI Q.length) (nI (9 + 789 * x + 29)) fu (nI 0) s2 K = K s3 := fun K => congrFun e3 K
  rw [e3']
  obtain ⟨s4, e4, p4, S4⟩ := SX.each (M := M1) (fun f j s (K : Sto → Option (Int32 × Sto)) => F_X10_comes_L166 a (nI y) (nI x) (nI Q.length) f (nI j) s K) (fun s K => K s) (fun st e => hwS st (gn (sHw st) e (wC w 6) y)) Q (fun _ st => Js (wC w 2) st) (by unfold fu; omega) (by
    intro j f s st hj hJ hS
    obtain ⟨W2, h2, r2, hA2⟩ := id hS
    have hec := hlm _ (List.getElem_mem hj)
    obtain ⟨s3, h3, h4⟩ := R_cth hS i hJ hx (e := Q[j]) (y := y) (by omega)
    refine ⟨s3, hJ, h4, ?_⟩
    funext K; rw [F_X10_comes_L166]
    simp (disch := omega) only [l_0, l_1, l_2, l_3, l_4, l_5, l_6, l_7, l_8, l_9, l_10, l_12, l_25, l_29, l_33, l_34, l_120, l_122, l_147, l_154, l_274, l_394, l_395, l_789, l_3953, l_5153, l_5178, l_49278, l_49279, l_49280, bind_some', jn_eq, nI_add, pk_mul, nI_leI, nI_ltI, nI_eq, ifb, ifz, R_flag0, R_flag1, R_flag, if_true, if_false, if_neg, h2.g6, rdf hj h2, h3]) (by
    intro f s st _ _
    funext K; rw [F_X10_comes_L166, if_pos (nI_le (Nat.le_refl _) (by omega))]) p3 S3
  have e4' : ∀ K, F_X10_comes_L166 a (nI y) (nI x) (nI Q.length) fu (nI 0) s3 K = K s4 := fun K => congrFun e4 K
  rw [e4']
  obtain ⟨s5, e5, S5⟩ := R_tables S4 i p4 hx hy hl ho ho2 hu hz hle hm
  rw [e5, bind_some']
  have p5 : Js (wC w 2) _ := p4.tbS (lrn_le (v := wE w) (o := x) (fun i hi => p4.tb hi) hu (fun e he => i.eT (hle e he)) hy)
  obtain ⟨s6, e6, p6, S6⟩ := SX.each (M := M1) (fun f j s (K : Sto → Option (Int32 × Sto)) => F_X10_comes_L202 a (nI x) (nI Q.length) f (nI j) s K) (fun s K => K s) (fun st e => sLg' st (sLg st ++ [e])) Q (fun j st => Js (wC w 2) st ∧ (sLg st).length = (sLg (wL w x)).length + j) (by unfold fu; omega) (by
    intro j f s st hj hJ hS
    obtain ⟨W2, h2, r2, hA2⟩ := id hS
    have hec := hlm _ (List.getElem_mem hj)
    obtain ⟨hJ, hJl⟩ := hJ
    obtain ⟨s3, h3, h4⟩ := R_logs hS i hJ hx (e := Q[j]) (by omega)
    have hl9 : (sLg st ++ [Q[j]]).length = (sLg (wL w x)).length + (j + 1) := by rw [List.length_append, hJl]; rfl
    refine ⟨s3, ⟨⟨hJ.1, ?_, ?_⟩, hl9⟩, h4, ?_⟩
    · show (sLg st ++ [Q[j]]).length ≤ 120
      omega
    · intro e he
      rcases List.mem_append.mp he with he | he
      · exact hJ.lm he
      · rw [List.mem_singleton.mp he]; exact hec
    · funext K; rw [F_X10_comes_L202]
      simp (disch := omega) only [l_0, l_1, l_2, l_3, l_4, l_5, l_6, l_7, l_8, l_9, l_10, l_12, l_25, l_29, l_33, l_34, l_120, l_122, l_147, l_154, l_274, l_394, l_395, l_789, l_3953, l_5153, l_5178, l_49278, l_49279, l_49280, bind_some', jn_eq, nI_add, pk_mul, nI_leI, nI_ltI, nI_eq, ifb, ifz, R_flag0, R_flag1, R_flag, if_true, if_false, if_neg, h2.g6, rdf hj h2, h3]) (by
    intro f s st _ _
    funext K; rw [F_X10_comes_L202, if_pos (nI_le (Nat.le_refl _) (by omega))]) ⟨p5, by
      have k1 : ∀ (Q : List Nat) (st : St), sLg (Q.foldl (fun st e => if eO (wE w) e then st else sVw' st (up (sVw st) e true)) st) = sLg st := by
        intro Q; induction Q with
        | nil => intro st; rfl
        | cons e Q ih => intro st; rw [List.foldl_cons, ih]; split <;> rfl
      have k2 : ∀ (Q : List Nat) (st : St), sLg (Q.foldl (fun st e => if eO (wE w) e then sVw' st (up (sVw st) (eM (wE w) e) false) else st) st) = sLg st := by
        intro Q; induction Q with
        | nil => intro st; rfl
        | cons e Q ih => intro st; rw [List.foldl_cons, ih]; split <;> rfl
      have k3 : ∀ (Q : List Nat) (st : St), sLg (Q.foldl (fun st e => hwS st (gn (sHw st) e (wC w 6) y)) st) = sLg st := by
        intro Q; induction Q with
        | nil => intro st; rfl
        | cons e Q ih => intro st; rw [List.foldl_cons, ih]; rfl
      show (sLg (Q.foldl _ _)).length = _ + 0
      rw [k3, k2, k1]; rfl⟩ S5
  have e6' : ∀ K, F_X10_comes_L202 a (nI x) (nI Q.length) fu (nI 0) s5 K = K s6 := fun K => congrFun e6 K
  rw [e6']
  obtain ⟨s7, e7, S7⟩ := R_drops S6 i p6.1 hx
  refine ⟨s7, M1, ?_, hM1, ?_⟩
  · rw [e7]; rfl
  · have k1 : ∀ (Q : List Nat) (st : St), Q.foldl (fun st e => if eO (wE w) e then st else sVw' st (up (sVw st) e true)) st = sVw' st (vIns (wE w) Q (sVw st)) := by
      intro Q; induction Q with
      | nil => intro st; rfl
      | cons e Q ih =>
        intro st
        rw [List.foldl_cons, ih]
        unfold vIns
        rw [List.foldl_cons]
        by_cases hb : eO (wE w) e = true
        · rw [if_pos hb, if_pos hb]
        · rw [if_neg hb, if_neg hb]; rfl
    have k2 : ∀ (Q : List Nat) (st : St), Q.foldl (fun st e => if eO (wE w) e then sVw' st (up (sVw st) (eM (wE w) e) false) else st) st = sVw' st (vOuts (wE w) Q (sVw st)) := by
      intro Q; induction Q with
      | nil => intro st; rfl
      | cons e Q ih =>
        intro st
        rw [List.foldl_cons, ih]
        unfold vOuts
        rw [List.foldl_cons]
        by_cases hb : eO (wE w) e = true
        · rw [if_pos hb, if_pos hb]; rfl
        · rw [if_neg hb, if_neg hb]
    have k3 : ∀ (Q : List Nat) (st : St), Q.foldl (fun st e => hwS st (gn (sHw st) e (wC w 6) y)) st = hwS st (Q.foldl (fun h e => gn h e (wC w 6) y) (sHw st)) := by
      intro Q; induction Q with
      | nil => intro st; rfl
      | cons e Q ih => intro st; rw [List.foldl_cons, ih]; rfl
    have k4 : ∀ (Q : List Nat) (st : St), Q.foldl (fun st e => sLg' st (sLg st ++ [e])) st = sLg' st (sLg st ++ Q) := by
      intro Q; induction Q with
      | nil => intro st; rw [List.append_nil]; rfl
      | cons e Q ih => intro st; rw [List.foldl_cons, ih, show sLg (sLg' st (sLg st ++ [e])) = sLg st ++ [e] from rfl, List.append_assoc]; rfl
    rw [k4, k3, k2, k1] at S7
    unfold rcv
    dsimp only
    rw [hqq]
    exact S7
end LAY
