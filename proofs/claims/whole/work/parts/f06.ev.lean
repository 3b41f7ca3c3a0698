/-! ===== PURE 26: the class's events: one more, copies, what is told of them ===== -/
/-- the events' block, as it stands -/
def EX (σ : Sto) (q c : Nat) (A : Nat → Nat → Nat) (B : Nat → Nat → Bool) : Prop := cel σ q = some (.inl (2, eO2 q c)) ∧ (∀ k, 0 < k → k < 8 → IA σ (q + k) (alen k) (A k)) ∧ cel σ (q + 8) = some (.inr (3, (120, .inr (.inr (.inr (.inr (fun e => if e < 120 then some (q + 9 + e) else none))))))) ∧ ∀ e, e < 120 → ES σ (q + 9 + e) (B e)
section EXS
variable {σ σ1 : Sto} {q c e o x : Nat} {K : Nat → Nat} {v : Ev} {A : Nat → Nat → Nat} {B : Nat → Nat → Bool}
theorem EE.ux (h : EE σ q c K v) : ∃ A B, EX σ q c A B ∧ (∀ x, x < 5 → A 1 x = K x) ∧ ∀ e, e < c → A 2 e = eS v e ∧ A 3 e = eT v e ∧ A 4 e = eM v e ∧ A 5 e = eN v e ∧ A 6 e = eP v e ∧ A 7 e = hgt (eA v) e ∧ (e < 120 → B e = eA v e) := by
  obtain ⟨A, h1, h2, h3, h4, h5, h6⟩ := h
  refine ⟨A, fun e => if he : e < 120 then (h4 e he).choose else fun _ => false, ⟨h1, h2, h3, fun e he => ?_⟩, h5, fun e he => ?_⟩
  · dsimp only; rw [dif_pos he]; exact (h4 e he).choose_spec.1
  · obtain ⟨a1, a2, a3, a4, a5, a6⟩ := h6 e he
    refine ⟨a1, a2, a3, a4, a5, a6, fun h120 => ?_⟩
    dsimp only; rw [dif_pos h120]; exact (h4 e h120).choose_spec.2 he
theorem EX.ee (h : EX σ q c A B) (h1 : ∀ x, x < 5 → A 1 x = K x) (h2 : ∀ e, e < c → A 2 e = eS v e ∧ A 3 e = eT v e ∧ A 4 e = eM v e ∧ A 5 e = eN v e ∧ A 6 e = eP v e ∧ A 7 e = hgt (eA v) e) (h3 : ∀ e, e < c → e < 120 → ∀ i, i < 128 → B e i = eA v e i) : EE σ q c K v := by
  obtain ⟨a1, a2, a3, a4⟩ := h
  refine ⟨A, a1, a2, a3, fun e he => ?_, h1, h2⟩
  by_cases hc : e < c
  · exact ⟨eA v e, (a4 e he).ex (fun i hi => (h3 e hc he i hi).symm), fun _ => rfl⟩
  · exact ⟨B e, a4 e he, fun h => absurd h hc⟩
theorem EX.cg (h : EX σ q c A B) (hc : ∀ i, q ≤ i → i < q + 129 → cel σ1 i = cel σ i) : EX σ1 q c A B := by
  obtain ⟨h1, h2, h3, h4⟩ := h
  exact ⟨(hc q (by omega) (by omega)).trans h1, fun k hk1 hk2 => (h2 k hk1 hk2).cg (hc _ (by omega) (by omega)), (hc _ (by omega) (by omega)).trans h3, fun e he => (h4 e he).cg (hc _ (by omega) (by omega))⟩
theorem EX.fr {p n : Nat} (h : EX σ q c A B) (hF : Fr p n σ σ1) (hd : p + n ≤ q ∨ q + 129 ≤ p) : EX σ1 q c A B := h.cg (fun i h1 h2 => hF.at (by omega))
theorem EX.ok (h : EX σ q c A B) : (gO σ q 2).isSome = true := gOs_cel h.1
theorem EX.g0 (h : EX σ q c A B) : gI σ q 2 0 = some (nI c) := gI_cel h.1 rfl
theorem EX.g1 (h : EX σ q c A B) : gR σ q 2 1 = some (q + 1) := gR_cel h.1 rfl
theorem EX.g2 (h : EX σ q c A B) : gR σ q 2 2 = some (q + 2) := gR_cel h.1 rfl
theorem EX.g3 (h : EX σ q c A B) : gR σ q 2 3 = some (q + 3) := gR_cel h.1 rfl
theorem EX.g4 (h : EX σ q c A B) : gR σ q 2 4 = some (q + 4) := gR_cel h.1 rfl
theorem EX.g5 (h : EX σ q c A B) : gR σ q 2 5 = some (q + 5) := gR_cel h.1 rfl
theorem EX.g6 (h : EX σ q c A B) : gR σ q 2 6 = some (q + 6) := gR_cel h.1 rfl
theorem EX.g7 (h : EX σ q c A B) : gR σ q 2 7 = some (q + 7) := gR_cel h.1 rfl
theorem EX.g8 (h : EX σ q c A B) : gR σ q 2 8 = some (q + 8) := gR_cel h.1 rfl
theorem EX.rb (h : EX σ q c A B) (he : e < 120) : aaldR σ (q + 8) 3 (nI e) = some (q + 9 + e) := aaldR_cel h.2.2.1 he (by decide) (if_pos he)
theorem EX.rd (h : EX σ q c A B) {k j : Nat} (h0 : 0 < k) (hk : k < 8) (hj : j < alen k) : iald σ (q + k) (nI j) = some (nI (A k j)) := (h.2.1 k h0 hk).rd hj (alen_le k)
theorem EX.wr (h : EX σ q c A B) {k j : Nat} (v : Nat) (h0 : 0 < k) (hk : k < 8) (hj : j < alen k) : ∃ t, iast σ (q + k) (nI j) (nI v) = some t ∧ EX t q c (upA A k (upN (A k) j v)) B ∧ Fr q 129 σ t := by
  obtain ⟨a1, a2, a3, a4⟩ := h
  obtain ⟨t, e1, i1, f1⟩ := (a2 k h0 hk).wr (j := j) (v := v) hj (alen_le k)
  refine ⟨t, e1, ⟨(f1.at (by omega)).trans a1, fun i hi1 hi2 => ?_, (f1.at (by omega)).trans a3, fun e he => (a4 e he).cg (f1.at (by omega))⟩, f1.mo (by omega) (by omega)⟩
  unfold upA
  by_cases hik : i = k
  · subst hik; rw [if_pos rfl]; exact i1
  · rw [if_neg hik]; exact (a2 i hi1 hi2).cg (f1.at (by omega))
theorem EX.sz (h : EX σ q c A B) (n : Nat) : ∃ t, sV σ q 2 0 (.int (nI n)) = some t ∧ EX t q n A B ∧ Fr q 129 σ t := by
  obtain ⟨a1, a2, a3, a4⟩ := h
  refine ⟨_, sV_cel a1 (Nat.le_of_ble_eq_true rfl), ⟨cel_stc_s a1, fun k h1 h2 => (a2 k h1 h2).cg (cel_stc_n a1 (by omega)), (cel_stc_n a1 (by omega)).trans a3, fun e he => (a4 e he).cg (cel_stc_n a1 (by omega))⟩, Fr.st a1 (by omega) (by omega)⟩
theorem EX.bs (h : EX σ q c A B) {f : Nat → Bool} {t : Sto} (he : e < 120) (hE : ES t (q + 9 + e) f) (hF : Fr (q + 9 + e) 1 σ t) : EX t q c A (up B e f) ∧ Fr q 129 σ t := by
  obtain ⟨a1, a2, a3, a4⟩ := h
  refine ⟨⟨(hF.at (by omega)).trans a1, fun k h1 h2 => (a2 k h1 h2).cg (hF.at (by omega)), (hF.at (by omega)).trans a3, fun i hi => ?_⟩, hF.mo (by omega) (by omega)⟩
  by_cases hie : i = e
  · subst hie; rw [up_s]; exact hE
  · rw [up_n _ _ hie]; exact (a4 i hi).cg (hF.at (by omega))
theorem upA_s (A : Nat → Nat → Nat) (k : Nat) (f : Nat → Nat) : upA A k f k = f := if_pos rfl
theorem upA_n (A : Nat → Nat → Nat) {k i : Nat} (f : Nat → Nat) (h : i ≠ k) : upA A k f i = A i := if_neg h
/-- one event more -/
def evA (v : Ev) (c x t m nm st : Nat) (f : Nat → Bool) : Ev := (up (eS v) c x, up (eT v) c t, up (eM v) c m, up (eN v) c nm, up (eP v) c st, up (eA v) c f)
theorem C_append {m nm st h : Nat} {f : Nat → Bool} (g : EE σ q c K v) (b : Bv v c) (hx : x < 5) (hc : c < 120) (hf : ES σ h f) (hh : h < q ∨ q + 129 ≤ h) : ∃ t, F_X2_append σ q (nI x) (nI m) (nI nm) (nI st) h = some (nI c, t) ∧ EE t q (c + 1) (up K x (K x + 1)) (evA v c x (K x + 1) m nm st f) ∧ Fr q 129 σ t := by
  obtain ⟨A, B, g0, gK, gE⟩ := g.ux
  obtain ⟨t1, e1, g1, f1⟩ := g0.sz (c + 1)
  obtain ⟨t2, e2, g2, f2⟩ := g1.wr (k := 1) (j := x) (A 1 x + 1) (by omega) (by omega) hx
  obtain ⟨t3, e3, g3, f3⟩ := g2.wr (k := 2) (j := c) x (by omega) (by omega) hc
  obtain ⟨t4, e4, g4, f4⟩ := g3.wr (k := 3) (j := c) (A 1 x + 1) (by omega) (by omega) hc
  obtain ⟨t5, e5, g5, f5⟩ := g4.wr (k := 4) (j := c) m (by omega) (by omega) hc
  obtain ⟨t6, e6, g6, f6⟩ := g5.wr (k := 5) (j := c) nm (by omega) (by omega) hc
  obtain ⟨t7, e7, g7, f7⟩ := g6.wr (k := 6) (j := c) st (by omega) (by omega) hc
  have F7 : Fr q 129 σ t7 := f1.tr (f2.tr (f3.tr (f4.tr (f5.tr (f6.tr f7)))))
  have hf7 : ES t7 h f := hf.cg (F7.at hh)
  obtain ⟨t8, e8, i8, f8⟩ := X_copyOf (g7.2.2.2 c hc) hf7 (by omega)
  obtain ⟨g8, f8'⟩ := g7.bs hc i8 f8
  obtain ⟨t9, e9, g9, f9⟩ := g8.wr (k := 7) (j := c) 1 (by omega) (by omega) hc
  have F9 : Fr q 129 σ t9 := F7.tr (f8'.tr f9)
  simp (disch := omega) only [upA_s, upA_n] at g2 g3 g4 g5 g6 g7 g8 g9 e2 e3 e4 e5 e6 e7 e9
  have hA7 : ∀ i, i < c → A 7 i = hgt (eA v) i := fun i hi => (gE i hi).2.2.2.2.2.1
  generalize hA9 : upA (upA (upA (upA (upA (upA (upA A 1 (upN (A 1) x (A 1 x + 1))) 2 (upN (A 2) c x)) 3 (upN (A 3) c (A 1 x + 1))) 4 (upN (A 4) c m)) 5 (upN (A 5) c nm)) 6 (upN (A 6) c st)) 7 (upN (A 7) c 1) = A9 at g9
  have q7 : A9 7 = upN (A 7) c 1 := by rw [← hA9, upA_s]
  have q6 : A9 6 = upN (A 6) c st := by rw [← hA9]; simp (disch := omega) only [upA_s, upA_n]
  have q5 : A9 5 = upN (A 5) c nm := by rw [← hA9]; simp (disch := omega) only [upA_s, upA_n]
  have q4 : A9 4 = upN (A 4) c m := by rw [← hA9]; simp (disch := omega) only [upA_s, upA_n]
  have q3 : A9 3 = upN (A 3) c (A 1 x + 1) := by rw [← hA9]; simp (disch := omega) only [upA_s, upA_n]
  have q2 : A9 2 = upN (A 2) c x := by rw [← hA9]; simp (disch := omega) only [upA_s, upA_n]
  have q1 : A9 1 = upN (A 1) x (A 1 x + 1) := by rw [← hA9]; simp (disch := omega) only [upA_s, upA_n]
  clear hA9
  obtain ⟨t10, ⟨H, g10, F10, hH1, hH2⟩, e10⟩ := lpS (fun fl j t => F_X2_append_L95 q h (nI c) fl (nI j) t (fun s33 => some (nI c, s33))) (fun t => some (nI c, t)) (fun j t => ∃ H : Nat → Nat, EX t q (c + 1) (upA A9 7 H) (up B c f) ∧ Fr q 129 σ t ∧ H c = hg1 f (hgt (eA v)) j ∧ ∀ i, i ≠ c → H i = A 7 i) c (by
    intro j fl t hj ⟨H, g10, F10, hH1, hH2⟩
    have hfh := X_holds (hf.cg (F10.at hh)) (show j < 128 by omega)
    have hrj := g10.rd (k := 7) (j := j) (by omega) (by omega) (show j < 120 by omega)
    have hrc := g10.rd (k := 7) (j := c) (by omega) (by omega) (show c < 120 by omega)
    rw [upA_s] at hrj hrc
    rw [hH1] at hrc
    rw [hH2 j (by omega), hA7 j hj] at hrj
    have b1 := hgt_le (eA v) j
    have b2 : hg1 f (hgt (eA v)) j ≤ 121 := hg1_le (fun i hi => Nat.le_trans (hgt_le (eA v) i) (by omega))
    by_cases hlt : hgt (eA v) j < hg1 f (hgt (eA v)) j
    · refine ⟨t, ⟨H, g10, F10, ?_, hH2⟩, ?_⟩
      · rw [hH1]
        show _ = if _ then _ else _
        rw [if_neg (by simp; intro _; omega)]
      · rw [F_X2_append_L95]
        simp (disch := omega) only [l_0, l_1, l_2, l_3, l_4, l_5, l_6, l_7, l_8, l_9, l_10, l_12, l_25, l_29, l_33, l_34, l_120, l_122, l_147, l_154, l_274, l_394, l_395, l_789, l_3953, l_5153, l_5178, l_49278, l_49279, l_49280, bind_some', jn_eq, nI_add, pk_mul, nI_leI, nI_ltI, nI_eq, ifb, ifz, R_flag0, R_flag1, R_flag, if_true, if_false, if_neg, g10.g7, hrj, hrc, if_pos hlt]
    · by_cases hb : f j = true
      · obtain ⟨t11, e11, g11, f11⟩ := g10.wr (k := 7) (j := c) (hgt (eA v) j + 1) (by omega) (by omega) hc
        rw [upA_s] at g11
        refine ⟨t11, ⟨upN H c (hgt (eA v) j + 1), ?_, F10.tr f11, ?_, fun i hi => ?_⟩, ?_⟩
        · have : upA (upA A9 7 H) 7 (upN H c (hgt (eA v) j + 1)) = upA A9 7 (upN H c (hgt (eA v) j + 1)) := by
            funext i
            by_cases hi : i = 7
            · subst hi; rw [upA_s, upA_s]
            · rw [upA_n _ _ hi, upA_n _ _ hi, upA_n _ _ hi]
          rw [this] at g11; exact g11
        · rw [upN_s]
          show _ = if _ then _ else _
          rw [if_pos (by simp [hb]; omega)]
        · rw [upN_n hi]; exact hH2 i hi
        · rw [F_X2_append_L95]
          simp (disch := omega) only [l_0, l_1, l_2, l_3, l_4, l_5, l_6, l_7, l_8, l_9, l_10, l_12, l_25, l_29, l_33, l_34, l_120, l_122, l_147, l_154, l_274, l_394, l_395, l_789, l_3953, l_5153, l_5178, l_49278, l_49279, l_49280, bind_some', jn_eq, nI_add, pk_mul, nI_leI, nI_ltI, nI_eq, ifb, ifz, R_flag0, R_flag1, R_flag, if_true, if_false, if_neg, g10.g7, hrj, hrc, hlt, hfh, hb, e11]
      · have hb2 : f j = false := by simpa using hb
        refine ⟨t, ⟨H, g10, F10, ?_, hH2⟩, ?_⟩
        · rw [hH1]
          show _ = if _ then _ else _
          rw [if_neg (by simp [hb2])]
        · rw [F_X2_append_L95]
          simp (disch := omega) only [l_0, l_1, l_2, l_3, l_4, l_5, l_6, l_7, l_8, l_9, l_10, l_12, l_25, l_29, l_33, l_34, l_120, l_122, l_147, l_154, l_274, l_394, l_395, l_789, l_3953, l_5153, l_5178, l_49278, l_49279, l_49280, bind_some', jn_eq, nI_add, pk_mul, nI_leI, nI_ltI, nI_eq, ifb, ifz, R_flag0, R_flag1, R_flag, if_true, if_false, if_neg, g10.g7, hrj, hrc, hlt, hfh, hb2]
          rfl) (by
    intro fl t _
    rw [F_X2_append_L95, if_pos (nI_le (Nat.le_refl _) (by omega))]) fu t9 (by unfold fu; omega) ⟨upN (A 7) c 1, by
      have : upA A9 7 (upN (A 7) c 1) = A9 := by
        funext i
        by_cases hi : i = 7
        · subst hi; rw [upA_s, q7]
        · rw [upA_n _ _ hi]
      rw [this]; exact g9, F9, by rw [upN_s]; rfl, fun i hi => upN_n hi⟩
  refine ⟨t10, ?_, ?_, F10⟩
  · have r1 := g0.g0
    have r2 := g1.rd (k := 1) (j := x) (by omega) (by omega) hx
    have r4 := g3.rd (k := 1) (j := x) (by omega) (by omega) hx
    simp (disch := omega) only [upA_s, upA_n, upN_s] at r4
    unfold F_X2_append
    rw [chk_eq g0.ok, r1, bind_some', bind_some', l_1, nI_add, e1, bind_some', g1.g1, bind_some', r2, bind_some', nI_add, e2, bind_some', g2.g2, bind_some', e3, bind_some', g3.g3, bind_some', g3.g1, bind_some', r4, bind_some', e4, bind_some', g4.g4, bind_some', e5, bind_some', g5.g5, bind_some', e6, bind_some', g6.g6, bind_some', e7, bind_some', g7.g8, bind_some', g7.rb hc, bind_some', e8, bind_some', g8.g7, bind_some', e9, bind_some']
    exact e10
  · refine g10.ee (fun y hy => ?_) (fun e he => ?_) (fun e he h120 i _ => ?_)
    · rw [upA_n _ _ (by omega), q1]
      unfold upN up
      by_cases hyx : y = x
      · rw [if_pos hyx, if_pos hyx, gK x hx]
      · rw [if_neg hyx, if_neg hyx]; exact gK y hy
    · have hgtold : ∀ e, e < c → hgt (eA (evA v c x (K x + 1) m nm st f)) e = hgt (eA v) e := fun e he => hgt_cg (fun i hi j hj => by
        show up (eA v) c f i j = _
        rw [up_n _ _ (by omega)])
      by_cases hec : e = c
      · subst hec
        rw [upA_n _ _ (by omega), upA_n _ _ (by omega), upA_n _ _ (by omega), upA_n _ _ (by omega), upA_n _ _ (by omega), upA_s, q2, q3, q4, q5, q6, upN_s, upN_s, upN_s, upN_s, upN_s, gK x hx, hH1]
        refine ⟨(up_s _ _ _).symm, (up_s _ _ _).symm, (up_s _ _ _).symm, (up_s _ _ _).symm, (up_s _ _ _).symm, ?_⟩
        rw [hgt_eq]
        refine hg1_cg (fun i hi => ⟨?_, (hgtold i hi).symm⟩)
        show _ = up (eA v) e f e i
        rw [up_s]
      · obtain ⟨a1, a2, a3, a4, a5, a6, a7⟩ := gE e (by omega)
        rw [upA_n _ _ (by omega), upA_n _ _ (by omega), upA_n _ _ (by omega), upA_n _ _ (by omega), upA_n _ _ (by omega), upA_s, q2, q3, q4, q5, q6, upN_n hec, upN_n hec, upN_n hec, upN_n hec, upN_n hec, hH2 e hec, a1, a2, a3, a4, a5, a6, hgtold e (by omega)]
        exact ⟨(up_n _ _ hec).symm, (up_n _ _ hec).symm, (up_n _ _ hec).symm, (up_n _ _ hec).symm, (up_n _ _ hec).symm, rfl⟩
    · show up B c f e i = up (eA v) c f e i
      by_cases hec : e = c
      · subst hec; rw [up_s, up_s]
      · rw [up_n _ _ hec, up_n _ _ hec, (gE e (by omega)).2.2.2.2.2.2 h120]
theorem C_evClear (g : EE σ q c K v) : ∃ t, F_X2_clear σ q = some t ∧ EE t q 0 (fun _ => 0) eBeg ∧ Fr q 129 σ t := by
  obtain ⟨A, B, g0, gK, gE⟩ := g.ux
  obtain ⟨t1, e1, g1, f1⟩ := g0.sz 0
  obtain ⟨t2, ⟨H, g2, F2, hH⟩, e2⟩ := lpS (fun fl j t => F_X2_clear_L7 q fl (nI j) t (fun s4 => some s4)) (fun t => some t) (fun j t => ∃ H, EX t q 0 (upA A 1 H) B ∧ Fr q 129 σ t ∧ ∀ i, i < j → H i = 0) 5 (by
    intro j fl t hj ⟨H, g2, F2, hH⟩
    obtain ⟨t3, e3, g3, f3⟩ := g2.wr (k := 1) (j := j) 0 (by omega) (by omega) hj
    refine ⟨t3, ⟨upN H j 0, ?_, F2.tr f3, fun i hi => ?_⟩, ?_⟩
    · have : upA (upA A 1 H) 1 (upN (upA A 1 H 1) j 0) = upA A 1 (upN H j 0) := by
        rw [upA_s]
        funext i
        by_cases hi : i = 1
        · subst hi; rw [upA_s, upA_s]
        · rw [upA_n _ _ hi, upA_n _ _ hi, upA_n _ _ hi]
      rw [this] at g3; exact g3
    · by_cases hij : i = j
      · subst hij; rw [upN_s]
      · rw [upN_n hij]; exact hH i (by omega)
    · rw [F_X2_clear_L7]
      simp (disch := omega) only [l_0, l_1, l_2, l_3, l_4, l_5, l_6, l_7, l_8, l_9, l_10, l_12, l_25, l_29, l_33, l_34, l_120, l_122, l_147, l_154, l_274, l_394, l_395, l_789, l_3953, l_5153, l_5178, l_49278, l_49279, l_49280, bind_some', jn_eq, nI_add, pk_mul, nI_leI, nI_ltI, nI_eq, ifb, ifz, R_flag0, R_flag1, R_flag, if_true, if_false, if_neg, g2.g1, e3]) (by
    intro fl t _
    rw [F_X2_clear_L7, l_5, if_pos (nI_le (Nat.le_refl _) (by omega))]) fu t1 (by unfold fu; omega) ⟨A 1, by
      have : upA A 1 (A 1) = A := by
        funext i
        by_cases hi : i = 1
        · subst hi; rw [upA_s]
        · rw [upA_n _ _ hi]
      rw [this]; exact g1, f1, fun i hi => absurd hi (Nat.not_lt_zero i)⟩
  refine ⟨t2, ?_, ?_, F2⟩
  · unfold F_X2_clear
    rw [chk_eq g0.ok, l_0, e1, bind_some']
    exact e2
  · exact g2.ee (fun x hx => by rw [upA_s]; exact hH x hx) (fun e he => absurd he (Nat.not_lt_zero e)) (fun e he => absurd he (Nat.not_lt_zero e))
end EXS
