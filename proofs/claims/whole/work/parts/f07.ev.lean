/-! ===== PURE 27: the class's events: copies; concurrent ones; the highest ===== -/
def sm (f : Nat → Nat) : Nat → Nat
  | 0 => 0
  | n + 1 => sm f n + f n
theorem sm_le {f : Nat → Nat} {m : Nat} : ∀ {n : Nat}, (∀ i, i < n → f i ≤ m) → sm f n ≤ m * n
  | 0, _ => by simp [sm]
  | n + 1, h => by
    have h1 := sm_le (f := f) (m := m) (n := n) (fun i hi => h i (by omega))
    have h2 := h n (by omega)
    show sm f n + f n ≤ m * (n + 1)
    rw [Nat.mul_succ]; omega
theorem sm_cg {f g : Nat → Nat} : ∀ {n : Nat}, (∀ i, i < n → f i = g i) → sm f n = sm g n
  | 0, _ => rfl
  | n + 1, h => by
    show sm f n + f n = sm g n + g n
    rw [sm_cg (fun i hi => h i (by omega)), h n (by omega)]
/-- the first of the greatest -/
def hiE (h : Nat → Nat) : Nat → Option Nat
  | 0 => none
  | n + 1 => match hiE h n with
    | none => some n
    | some b => if h b < h n then some n else some b
theorem hiE_lt {h : Nat → Nat} : ∀ {n b : Nat}, hiE h n = some b → b < n
  | 0, _, hb => by cases hb
  | n + 1, b, hb => by
    unfold hiE at hb
    cases hq : hiE h n with
    | none => rw [hq] at hb; cases hb; omega
    | some b0 =>
      rw [hq] at hb
      have := hiE_lt hq
      dsimp only at hb
      split at hb <;> cases hb <;> omega
theorem hiE_none {h : Nat → Nat} {n : Nat} : hiE h n = none ↔ n = 0 := by
  cases n with
  | zero => exact ⟨fun _ => rfl, fun _ => rfl⟩
  | succ n =>
    refine ⟨fun hb => ?_, fun hb => by omega⟩
    unfold hiE at hb
    cases hq : hiE h n with
    | none => rw [hq] at hb; cases hb
    | some b0 => rw [hq] at hb; dsimp only at hb; split at hb <;> cases hb
section EVC
variable {σ : Sto} {q r c c2 e o x : Nat} {K K2 : Nat → Nat} {v v2 : Ev}
theorem EX.cp {A A2 : Nat → Nat → Nat} {B B2 : Nat → Nat → Bool} (h : EX σ q c A B) (h2 : EX σ r c2 A2 B2) (hd : q + 129 ≤ r ∨ r + 129 ≤ q) {k n : Nat} (h0 : 0 < k) (hk : k < 8) (hn : n ≤ alen k) : ∃ t, acp σ (r + k) (nI 0) (q + k) (nI 0) (nI n) = some t ∧ EX t q c (upA A k (cpN (A2 k) (A k) 0 0 n)) B ∧ Fr q 129 σ t := by
  obtain ⟨a1, a2, a3, a4⟩ := h
  have al := alen_lt k
  obtain ⟨t, e1, i1, f1⟩ := (h2.2.1 k h0 hk).cp (a2 k h0 hk) (sp := 0) (dp := 0) (k := n) (by omega) (by omega) al al
  refine ⟨t, e1, ⟨(f1.at (by omega)).trans a1, fun i hi1 hi2 => ?_, (f1.at (by omega)).trans a3, fun e he => (a4 e he).cg (f1.at (by omega))⟩, f1.mo (by omega) (by omega)⟩
  unfold upA
  by_cases hik : i = k
  · subst hik; rw [if_pos rfl]; exact i1
  · rw [if_neg hik]; exact (a2 i hi1 hi2).cg (f1.at (by omega))
theorem cpN_in {f g : Nat → Nat} {k j : Nat} (h : j < k) : cpN f g 0 0 k j = f j := by
  unfold cpN; rw [if_pos (by omega), Nat.zero_add, Nat.sub_zero]
theorem C_evCopy (g : EE σ q c K v) (g2 : EE σ r c2 K2 v2) (hc : c2 ≤ 120) (hd : q + 129 ≤ r ∨ r + 129 ≤ q) : ∃ t, F_X2_copyOf σ q r = some t ∧ EE t q c2 K2 v2 ∧ Fr q 129 σ t := by
  obtain ⟨A, B, g0, gK, gE⟩ := g.ux
  obtain ⟨A2, B2, k0, kK, kE⟩ := g2.ux
  obtain ⟨t1, e1, g1, f1⟩ := g0.sz c2
  have k1 := k0.fr f1 (by omega)
  obtain ⟨t2, e2, g2', f2⟩ := g1.cp k1 hd (k := 1) (n := 5) (by omega) (by omega) (by decide)
  have k2 := k1.fr f2 (by omega)
  obtain ⟨t3, e3, g3, f3⟩ := g2'.cp k2 hd (k := 2) (n := c2) (by omega) (by omega) hc
  have k3 := k2.fr f3 (by omega)
  obtain ⟨t4, e4, g4, f4⟩ := g3.cp k3 hd (k := 3) (n := c2) (by omega) (by omega) hc
  have k4 := k3.fr f4 (by omega)
  obtain ⟨t5, e5, g5, f5⟩ := g4.cp k4 hd (k := 4) (n := c2) (by omega) (by omega) hc
  have k5 := k4.fr f5 (by omega)
  obtain ⟨t6, e6, g6, f6⟩ := g5.cp k5 hd (k := 5) (n := c2) (by omega) (by omega) hc
  have k6 := k5.fr f6 (by omega)
  obtain ⟨t7, e7, g7, f7⟩ := g6.cp k6 hd (k := 6) (n := c2) (by omega) (by omega) hc
  have k7 := k6.fr f7 (by omega)
  obtain ⟨t8, e8, g8, f8⟩ := g7.cp k7 hd (k := 7) (n := c2) (by omega) (by omega) hc
  have k8 := k7.fr f8 (by omega)
  have F8 : Fr q 129 σ t8 := f1.tr (f2.tr (f3.tr (f4.tr (f5.tr (f6.tr (f7.tr f8))))))
  generalize hA9 : upA _ 7 _ = A9 at g8
  have q7 : ∀ j, j < c2 → A9 7 j = A2 7 j := fun j hj => by rw [← hA9, upA_s, cpN_in hj]
  have q6 : ∀ j, j < c2 → A9 6 j = A2 6 j := fun j hj => by rw [← hA9]; simp (disch := omega) only [upA_s, upA_n]; rw [cpN_in hj]
  have q5 : ∀ j, j < c2 → A9 5 j = A2 5 j := fun j hj => by rw [← hA9]; simp (disch := omega) only [upA_s, upA_n]; rw [cpN_in hj]
  have q4 : ∀ j, j < c2 → A9 4 j = A2 4 j := fun j hj => by rw [← hA9]; simp (disch := omega) only [upA_s, upA_n]; rw [cpN_in hj]
  have q3 : ∀ j, j < c2 → A9 3 j = A2 3 j := fun j hj => by rw [← hA9]; simp (disch := omega) only [upA_s, upA_n]; rw [cpN_in hj]
  have q2 : ∀ j, j < c2 → A9 2 j = A2 2 j := fun j hj => by rw [← hA9]; simp (disch := omega) only [upA_s, upA_n]; rw [cpN_in hj]
  have q1 : ∀ j, j < 5 → A9 1 j = A2 1 j := fun j hj => by rw [← hA9]; simp (disch := omega) only [upA_s, upA_n]; rw [cpN_in hj]
  clear hA9
  obtain ⟨t9, ⟨B9, g9, F9, hB⟩, e9⟩ := lpS (fun fl j t => F_X2_copyOf_L126 q r fl (nI j) t (fun s36 => some s36)) (fun t => some t) (fun j t => ∃ B9, EX t q c2 A9 B9 ∧ Fr q 129 σ t ∧ ∀ i, i < j → B9 i = B2 i) c2 (by
    intro j fl t hj ⟨B9, g9, F9, hB⟩
    have k9 := k0.fr F9 (by omega)
    obtain ⟨t10, e10, i10, f10⟩ := X_copyOf (g9.2.2.2 j (by omega)) (k9.2.2.2 j (by omega)) (by omega)
    obtain ⟨g10, f10'⟩ := g9.bs (show j < 120 by omega) i10 f10
    refine ⟨t10, ⟨_, g10, F9.tr f10', fun i hi => ?_⟩, ?_⟩
    · by_cases hij : i = j
      · subst hij; rw [up_s]
      · rw [up_n _ _ hij]; exact hB i (by omega)
    · rw [F_X2_copyOf_L126]
      simp (disch := omega) only [l_0, l_1, l_2, l_3, l_4, l_5, l_6, l_7, l_8, l_9, l_10, l_12, l_25, l_29, l_33, l_34, l_120, l_122, l_147, l_154, l_274, l_394, l_395, l_789, l_3953, l_5153, l_5178, l_49278, l_49279, l_49280, bind_some', jn_eq, nI_add, pk_mul, nI_leI, nI_ltI, nI_eq, ifb, ifz, R_flag0, R_flag1, R_flag, if_true, if_false, g9.g0, if_neg, g9.g8, g9.rb (show j < 120 by omega), k9.g8, k9.rb (show j < 120 by omega), e10]) (by
    intro fl t ⟨B9, g9, F9, hB⟩
    rw [F_X2_copyOf_L126, g9.g0, bind_some', if_pos (nI_le (Nat.le_refl _) (by omega))]) fu t8 (by unfold fu; omega) ⟨B, g8, F8, fun i hi => absurd hi (Nat.not_lt_zero i)⟩
  refine ⟨t9, ?_, ?_, F9⟩
  · unfold F_X2_copyOf
    rw [chk_eq g0.ok, k0.g0, bind_some', e1, bind_some', k1.g1, bind_some', g1.g1, bind_some', l_0, l_5, e2, bind_some', k2.g2, bind_some', g2'.g2, bind_some', g2'.g0, bind_some', e3, bind_some', k3.g3, bind_some', g3.g3, bind_some', g3.g0, bind_some', e4, bind_some', k4.g4, bind_some', g4.g4, bind_some', g4.g0, bind_some', e5, bind_some', k5.g5, bind_some', g5.g5, bind_some', g5.g0, bind_some', e6, bind_some', k6.g6, bind_some', g6.g6, bind_some', g6.g0, bind_some', e7, bind_some', k7.g7, bind_some', g7.g7, bind_some', g7.g0, bind_some', e8, bind_some']
    exact e9
  · refine g9.ee (fun x hx => (q1 x hx).trans (kK x hx)) (fun e he => ?_) (fun e he h120 i _ => ?_)
    · obtain ⟨a1, a2, a3, a4, a5, a6, a7⟩ := kE e he
      exact ⟨(q2 e he).trans a1, (q3 e he).trans a2, (q4 e he).trans a3, (q5 e he).trans a4, (q6 e he).trans a5, (q7 e he).trans a6⟩
    · rw [hB e he, (kE e he).2.2.2.2.2.2 h120]
theorem C_concurrentWith (g : EE σ q c K v) (b : Bv v c) (he : e < c) (hA : ∀ x, eA v e x = true → x < e) : F_X2_concurrentWith σ q (nI e) = some (nI (e - fb_ct (eA v e) e + fb_ct (fun k => !eA v (e + 1 + k) e) (c - (e + 1)))) := by
  have hc := b.1
  have hs := X_size (g.es b he)
  rw [fb_128 (c := e) (by omega) hA] at hs
  have hle := fb_ct_le (eA v e) e
  unfold F_X2_concurrentWith
  rw [chk_eq g.ok, g.g8, bind_some', g.rB (by omega), bind_some', hs, bind_some', pk_sub hle, l_1, nI_add]
  refine lup (fun f j => F_X2_concurrentWith_L16 σ q (nI e) f (nI (e - fb_ct (eA v e) e + fb_ct (fun k => !eA v (e + 1 + k) e) j)) (nI (e + 1 + j)) (fun x => some x)) (c - (e + 1)) _ ?_ ?_ fu (by unfold fu; omega)
  · intro j f hj
    have hh := X_holds (g.es b (show e + 1 + j < c by omega)) (show e < 128 by omega)
    rw [F_X2_concurrentWith_L16]
    simp (disch := omega) only [l_0, l_1, l_2, l_3, l_4, l_5, l_6, l_7, l_8, l_9, l_10, l_12, l_25, l_29, l_33, l_34, l_120, l_122, l_147, l_154, l_274, l_394, l_395, l_789, l_3953, l_5153, l_5178, l_49278, l_49279, l_49280, bind_some', jn_eq, nI_add, pk_mul, nI_leI, nI_ltI, nI_eq, ifb, ifz, R_flag0, R_flag1, R_flag, if_true, if_false, g.g0, if_neg, g.g8, g.rB (show e + 1 + j < 120 by omega), hh]
    rw [fb_ct_succ]
    cases eA v (e + 1 + j) e <;> rfl
  · intro f
    rw [F_X2_concurrentWith_L16, g.g0, bind_some', if_pos (nI_le (by omega) (by omega))]
theorem C_concurrentCouples (g : EE σ q c K v) (b : Bv v c) (hA : ∀ e, e < c → ∀ x, eA v e x = true → x < e) : F_X2_concurrentCouples σ q = some (nI (sm (fun e => e - fb_ct (eA v e) e) c)) := by
  have hc := b.1
  unfold F_X2_concurrentCouples
  rw [chk_eq g.ok]
  refine lup (fun f j => F_X2_concurrentCouples_L4 σ q f (nI (sm (fun e => e - fb_ct (eA v e) e) j)) (nI j) (fun x => some x)) c _ ?_ ?_ fu (by unfold fu; omega)
  · intro j f hj
    have hs := X_size (g.es b hj)
    rw [fb_128 (c := j) (by omega) (hA j hj)] at hs
    have hle := fb_ct_le (eA v j) j
    rw [F_X2_concurrentCouples_L4, g.g0, bind_some', if_neg (by rw [nI_leI (by omega) (by omega)]; omega), g.g8, bind_some', g.rB (by omega), bind_some', hs, bind_some', pk_sub hle, nI_add, l_1, nI_add]
    rfl
  · intro f
    rw [F_X2_concurrentCouples_L4, g.g0, bind_some', if_pos (nI_le (Nat.le_refl _) (by omega))]
theorem oI_n1 {e : Nat} (he : e < 2 ^ 31) : ¬ (nI e = -1) := by
  intro h
  have := congrArg Int32.toInt h
  rw [nI_toInt he] at this
  simp at this
theorem C_highest (g : EE σ q c K v) (b : Bv v c) : F_X2_highest σ q = some (oI (hiE (hgt (eA v)) c)) := by
  have hc := b.1
  unfold F_X2_highest
  rw [chk_eq g.ok]
  refine lup (fun f j => F_X2_highest_L4 σ q f (oI (hiE (hgt (eA v)) j)) (nI j) (fun x => some x)) c _ ?_ ?_ fu (by unfold fu; omega)
  · intro j f hj
    have hb1 := hgt_le (eA v) j
    rw [F_X2_highest_L4, g.g0, bind_some', if_neg (by rw [nI_leI (by omega) (by omega)]; omega)]
    show _ = F_X2_highest_L4 σ q f (oI (match hiE (hgt (eA v)) j with | none => some j | some b => if hgt (eA v) b < hgt (eA v) j then some j else some b)) (nI (j + 1)) (fun x => some x)
    cases hq : hiE (hgt (eA v)) j with
    | none =>
      show (if (-1 : Int32) = -1 then _ else _) = _
      rw [if_pos rfl, l_1, nI_add]
      rfl
    | some d =>
      have hd := hiE_lt hq
      have hb2 := hgt_le (eA v) d
      show (if nI d = (-1 : Int32) then _ else _) = _
      rw [if_neg (oI_n1 (by omega)), g.g7, bind_some', g.rH b hj, bind_some', bind_some', show oI (some d) = nI d from rfl, g.rH b (by omega), bind_some', l_1, nI_add]
      by_cases hlt : hgt (eA v) d < hgt (eA v) j
      · rw [if_neg (by rw [nI_leI (by omega) (by omega)]; omega)]
        dsimp only
        rw [if_pos hlt]; rfl
      · rw [if_pos (nI_le (by omega) (by omega))]
        dsimp only
        rw [if_neg hlt]; rfl
  · intro f
    rw [F_X2_highest_L4, g.g0, bind_some', if_pos (nI_le (Nat.le_refl _) (by omega))]
end EVC
