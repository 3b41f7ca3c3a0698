/-! ===== PURE 9: the reference lays a letter; a letter comes ===== -/
theorem wE_L (w : Wd) (L : Nat → St) : wE (wL' w L) = wE w := rfl
theorem wC_L (w : Wd) (L : Nat → St) : wC (wL' w L) = wC w := rfl
theorem wL_L (w : Wd) (L : Nat → St) : wL (wL' w L) = L := rfl
section MV
variable {a : Nat} {σ s : Sto} {M : Ms} {W W' : Nat → Nat} {w : Wd} {x : Nat} {st : St}
theorem SX.tbc (h : SX a σ M W w x st s) (i : Jv w) (hj : Js (wC w 2) st) (hx : x < 5) {t : Nat → Nat} (ht : ∀ k, k < 25 → t k = sTb st k) : SX a σ M W w x (sTb' st t) s := by
  obtain ⟨W1, h1, r1, hA⟩ := h
  have rs : RS W1 (9 + 789 * x) st := by
    have := r1.L hx
    rwa [wL_up] at this
  obtain ⟨q1, q2, q3, q4, q5, q6⟩ := rs
  exact SX.of i hx hj r1 hA h1 (fun _ _ => rfl) ⟨fun k hk => (q1 k hk).trans (ht k hk).symm, q2, q3, q4, q5, q6⟩
def rRowN (n : Nat) (t : Nat → Nat) (row : Nat) (u : Nat → Nat) (y : Nat) : Nat → Nat := fun i => if i / 5 = row ∧ i % 5 < n then max (t i) (u (5 * y + i % 5)) else t i
theorem rRowN_s (n : Nat) (t : Nat → Nat) (row : Nat) (u : Nat → Nat) (y : Nat) (hn : n < 5) : rOne (rRowN n t row u y) (5 * row + n) (u (5 * y + n)) = rRowN (n + 1) t row u y := by
  funext i
  unfold rOne up rRowN
  by_cases hi : i = 5 * row + n
  · subst hi
    rw [if_pos rfl, if_neg (by omega), if_pos (by omega), show (5 * row + n) % 5 = n by omega]
  · rw [if_neg hi]
    by_cases h1 : i / 5 = row ∧ i % 5 < n
    · rw [if_pos h1, if_pos (by omega)]
    · rw [if_neg h1, if_neg (by omega)]
theorem rRowN_0 (t : Nat → Nat) (row : Nat) (u : Nat → Nat) (y : Nat) : rRowN 0 t row u y = t := by
  funext i
  unfold rRowN
  rw [if_neg (by omega)]
theorem rRowN_le {n : Nat} {t : Nat → Nat} {row : Nat} {u : Nat → Nat} {y c : Nat} (ht : ∀ i, i < 25 → t i ≤ c) (hu : ∀ i, i < 25 → u i ≤ c) (hy : y < 5) : ∀ i, i < 25 → rRowN n t row u y i ≤ c := by
  intro i hi
  have h1 := ht i hi
  have h2 := hu (5 * y + i % 5) (by omega)
  unfold rRowN
  split <;> omega
theorem Js.tbS {c : Nat} (hj : Js c st) {t : Nat → Nat} (ht : ∀ i, i < 25 → t i ≤ 120) : Js c (sTb' st t) := ⟨ht, hj.2.1, hj.2.2⟩
/-- a letter at a place outside the block -/
theorem RLe.ag {o : Nat} {l : Lt} (h : RLe W o l) (hA : Ag x W W') (hx : x < 5) (ho : 5153 ≤ o) : RLe W' o l := h.cg (fun j h1 h2 => hA j (by omega))
theorem R_raises (h : SX a σ M W w x st s) (i : Jv w) (hj : Js (wC w 2) st) (hx : x < 5) {row y o : Nat} {l : Lt} (hr : row < 5) (hy : y < 5) (hl : RLe W o l) (ho : 5153 ≤ o) (ho2 : o + 147 ≤ 49425) (hu : ∀ i, i < 25 → lTb l i ≤ 120) : ∃ s', F_X10_raises s a (nI x) (nI row) (nI o) (nI y) = some s' ∧ SX a σ M W w x (sTb' st (rRowN (wC w 0) (sTb st) row (lTb l) y)) s' := by
  have h5 := i.n5
  obtain ⟨W1, h1, -, -⟩ := id h
  unfold F_X10_raises
  rw [chk_eq h1.ok, l_0]
  obtain ⟨s2, h2, h3⟩ := lpS (fun f j (s : Sto) => F_X10_raises_L3 a (nI x) (nI row) (nI o) (nI y) f (nI j) s (fun s5 => some s5)) (fun s => some s) (fun j s => SX a σ M W w x (sTb' st (rRowN j (sTb st) row (lTb l) y)) s) (wC w 0) (by
    intro j f s hjn hI
    obtain ⟨W2, h2, r2, hA⟩ := id hI
    have hjs : Js (wC w 2) (sTb' st (rRowN j (sTb st) row (lTb l) y)) := hj.tbS (rRowN_le (fun i hi => hj.tb hi) hu hy)
    have hlv := (hl.ag hA hx ho).2.2.2.2 (5 * y + j) (by omega)
    obtain ⟨s3, h3, h4⟩ := R_great hI i hjs hx (k := 5 * row + j) (v := lTb l (5 * y + j)) (c := 9 + 789 * x + 5 * row + j) (by omega) (hu _ (by omega)) (by omega)
    refine ⟨s3, ?_, ?_⟩
    · have : sTb' (sTb' st (rRowN j (sTb st) row (lTb l) y)) (rOne (sTb (sTb' st (rRowN j (sTb st) row (lTb l) y))) (5 * row + j) (lTb l (5 * y + j))) = sTb' st (rRowN (j + 1) (sTb st) row (lTb l) y) := by
        rw [← rRowN_s j _ _ _ _ (by omega)]
        rfl
      rw [this] at h4
      exact h4
    · rw [F_X10_raises_L3]
      have hc0 : W2 0 = wC w 0 := r2.c (k := 0) (by omega)
      simp (disch := omega) only [l_0, l_1, l_2, l_3, l_4, l_5, l_6, l_7, l_8, l_9, l_10, l_12, l_25, l_29, l_33, l_34, l_120, l_122, l_147, l_154, l_274, l_394, l_395, l_789, l_3953, l_5153, l_5178, l_49278, l_49279, l_49280, bind_some', jn_eq, nI_add, pk_mul, nI_leI, nI_ltI, nI_eq, ifb, ifz, R_flag0, R_flag1, R_flag, if_true, if_false, R_of h2, hc0, R_cellOf, if_neg]
      rw [show o + 122 + 5 * y + j = o + 122 + (5 * y + j) by omega]
      simp (disch := omega) only [l_0, l_1, l_2, l_3, l_4, l_5, l_6, l_7, l_8, l_9, l_10, l_12, l_25, l_29, l_33, l_34, l_120, l_122, l_147, l_154, l_274, l_394, l_395, l_789, l_3953, l_5153, l_5178, l_49278, l_49279, l_49280, bind_some', jn_eq, nI_add, pk_mul, nI_leI, nI_ltI, nI_eq, ifb, ifz, R_flag0, R_flag1, R_flag, if_true, if_false, hlv, h3]) (by
    intro f s hI
    obtain ⟨W2, h2, r2, hA⟩ := id hI
    rw [F_X10_raises_L3]
    have hc0 : W2 0 = wC w 0 := r2.c (k := 0) (by omega)
    simp (disch := omega) only [l_0, l_1, l_2, l_3, l_4, l_5, l_6, l_7, l_8, l_9, l_10, l_12, l_25, l_29, l_33, l_34, l_120, l_122, l_147, l_154, l_274, l_394, l_395, l_789, l_3953, l_5153, l_5178, l_49278, l_49279, l_49280, bind_some', jn_eq, nI_add, pk_mul, nI_leI, nI_ltI, nI_eq, ifb, ifz, R_flag0, R_flag1, R_flag, if_true, if_false, R_of h2, hc0, if_pos (Nat.le_refl _)]) fu s (by unfold fu; omega) (by rw [rRowN_0]; exact h)
  exact ⟨s2, h3, h2⟩
theorem R_tables0 (h : SX a σ M W w x st s) (i : Jv w) (hj : Js (wC w 2) st) (hx : x < 5) {o : Nat} {l : Lt} (hl : RLe W o l) (ho : 5153 ≤ o) (ho2 : o + 147 ≤ 49425) (hu : ∀ i, i < 25 → lTb l i ≤ 120) (K : Sto → Option Sto) : ∃ s', F_X10_tables_L40 a (nI o) (nI x) (nI 0) fu (nI 0) s K = K s' ∧ SX a σ M W w x (sTb' st (fun i => if i / 5 < wC w 0 ∧ i % 5 < wC w 0 then max (sTb st i) (lTb l i) else sTb st i)) s' := by
  have h5 := i.n5
  obtain ⟨s2, h2, h3⟩ := lpS (fun f j (s : Sto) => F_X10_tables_L40 a (nI o) (nI x) (nI 0) f (nI j) s K) K (fun j s => SX a σ M W w x (sTb' st (fun i => if i / 5 < j ∧ i % 5 < wC w 0 then max (sTb st i) (lTb l i) else sTb st i)) s) (wC w 0) (by
    intro j f s hjn hI
    obtain ⟨W2, h2, r2, hA⟩ := id hI
    have hjs : Js (wC w 2) (sTb' st (fun i => if i / 5 < j ∧ i % 5 < wC w 0 then max (sTb st i) (lTb l i) else sTb st i)) := hj.tbS (fun i hi => by
      have h1 := hj.tb hi
      have h2 := hu i hi
      split <;> omega)
    obtain ⟨s3, h3, h4⟩ := R_raises hI i hjs hx (row := j) (y := j) (by omega) (by omega) hl ho ho2 hu
    refine ⟨s3, ?_, ?_⟩
    · have : sTb' (sTb' st (fun i => if i / 5 < j ∧ i % 5 < wC w 0 then max (sTb st i) (lTb l i) else sTb st i)) (rRowN (wC w 0) (sTb (sTb' st (fun i => if i / 5 < j ∧ i % 5 < wC w 0 then max (sTb st i) (lTb l i) else sTb st i))) j (lTb l) j) = sTb' st (fun i => if i / 5 < j + 1 ∧ i % 5 < wC w 0 then max (sTb st i) (lTb l i) else sTb st i) := by
        have : rRowN (wC w 0) (sTb (sTb' st (fun i => if i / 5 < j ∧ i % 5 < wC w 0 then max (sTb st i) (lTb l i) else sTb st i))) j (lTb l) j = (fun i => if i / 5 < j + 1 ∧ i % 5 < wC w 0 then max (sTb st i) (lTb l i) else sTb st i) := by
          funext k
          unfold rRowN
          by_cases hk : k / 5 = j ∧ k % 5 < wC w 0
          · rw [if_pos hk, if_pos (by omega)]
            show max (if k / 5 < j ∧ k % 5 < wC w 0 then max (sTb st k) (lTb l k) else sTb st k) _ = _
            rw [if_neg (by omega), show 5 * j + k % 5 = k by omega]
          · rw [if_neg hk]
            show (if k / 5 < j ∧ k % 5 < wC w 0 then max (sTb st k) (lTb l k) else sTb st k) = _
            by_cases hk2 : k / 5 < j ∧ k % 5 < wC w 0
            · rw [if_pos hk2, if_pos (by omega)]
            · rw [if_neg hk2, if_neg (by omega)]
        rw [this]
        rfl
      rw [this] at h4
      exact h4
    · rw [F_X10_tables_L40]
      have hc0 : W2 0 = wC w 0 := r2.c (k := 0) (by omega)
      simp (disch := omega) only [l_0, l_1, l_2, l_3, l_4, l_5, l_6, l_7, l_8, l_9, l_10, l_12, l_25, l_29, l_33, l_34, l_120, l_122, l_147, l_154, l_274, l_394, l_395, l_789, l_3953, l_5153, l_5178, l_49278, l_49279, l_49280, bind_some', jn_eq, nI_add, pk_mul, nI_leI, nI_ltI, nI_eq, ifb, ifz, R_flag0, R_flag1, R_flag, if_true, if_false, R_of h2, hc0, if_neg, h3]) (by
    intro f s hI
    obtain ⟨W2, h2, r2, hA⟩ := id hI
    rw [F_X10_tables_L40]
    have hc0 : W2 0 = wC w 0 := r2.c (k := 0) (by omega)
    simp (disch := omega) only [l_0, l_1, l_2, l_3, l_4, l_5, l_6, l_7, l_8, l_9, l_10, l_12, l_25, l_29, l_33, l_34, l_120, l_122, l_147, l_154, l_274, l_394, l_395, l_789, l_3953, l_5153, l_5178, l_49278, l_49279, l_49280, bind_some', jn_eq, nI_add, pk_mul, nI_leI, nI_ltI, nI_eq, ifb, ifz, R_flag0, R_flag1, R_flag, if_true, if_false, R_of h2, hc0, if_pos (Nat.le_refl _)]) fu s (by unfold fu; omega) (h.tbc i hj hx (fun k hk => if_neg (by omega)))
  exact ⟨s2, h3, h2⟩
def lrn2 (v : Ev) (f o : Nat) (t : Nat → Nat) (e : Nat) : Nat → Nat := rOne (rOne t (5 * o + eS v e) (eT v e)) (5 * f + eS v e) (eT v e)
theorem rOne_le {t : Nat → Nat} {k v c : Nat} (ht : ∀ i, i < 25 → t i ≤ c) (hv : v ≤ c) : ∀ i, i < 25 → rOne t k v i ≤ c := by
  intro i hi
  have h1 := ht i hi
  unfold rOne up
  split
  · subst_vars; omega
  · exact h1
theorem lrn2_le {v : Ev} {f o c : Nat} {t : Nat → Nat} (ht : ∀ i, i < 25 → t i ≤ c) : ∀ (q : List Nat) (_ : ∀ e ∈ q, eT v e ≤ c), ∀ i, i < 25 → q.foldl (lrn2 v f o) t i ≤ c := by
  intro q
  induction q generalizing t with
  | nil => intro _; exact ht
  | cons e q ih =>
    intro hq
    exact ih (rOne_le (rOne_le ht (hq e List.mem_cons_self)) (hq e List.mem_cons_self)) (fun e' he' => hq e' (List.mem_cons_of_mem _ he'))
theorem R_tables2 (h : SX a σ M W w x st s) (i : Jv w) (hj : Js (wC w 2) st) (hx : x < 5) {o y : Nat} {l : Lt} (hy : y < 5) (hl : RLe W o l) (ho : 5153 ≤ o) (ho2 : o + 147 ≤ 49425) (hle : ∀ e ∈ lEv l, e < wC w 2) (K : Sto → Option Sto) : ∃ s', F_X10_tables_L74 a (nI o) (nI y) (nI x) (nI 2) fu (nI 0) s K = K s' ∧ SX a σ M W w x (sTb' st ((lEv l).foldl (lrn2 (wE w) y x) (sTb st))) s' := by
  have hle2 := hl.2.2.1
  have hc := i.c
  have hb : ∀ j, Js (wC w 2) (sTb' st (((lEv l).take j).foldl (lrn2 (wE w) y x) (sTb st))) := fun j => hj.tbS (lrn2_le (fun i hi => hj.tb hi) _ (fun e he => i.eT (hle e (List.mem_of_mem_take he))))
  obtain ⟨s2, h2, h3⟩ := lpS (fun f j (s : Sto) => F_X10_tables_L74 a (nI o) (nI y) (nI x) (nI 2) f (nI j) s K) K (fun j s => SX a σ M W w x (sTb' st (((lEv l).take j).foldl (lrn2 (wE w) y x) (sTb st))) s) (lEv l).length (by
    intro j f s hjn hI
    obtain ⟨W2, h2, r2, hA⟩ := id hI
    have hlW := hl.ag hA hx ho
    have hev := hlW.2.2.2.1 j _ (List.getElem?_eq_getElem hjn)
    have hec := hle _ (List.getElem_mem hjn)
    have i2 : Jv (wL' w (up (wL w) x (sTb' st (((lEv l).take j).foldl (lrn2 (wE w) y x) (sTb st))))) := Jv_up i (hb j)
    have hs5 := i.eS5 hec
    have ht5 := i.eT hec
    obtain ⟨s3, h3, h4⟩ := R_great hI i (hb j) hx (k := 5 * x + eS (wE w) (lEv l)[j]) (v := eT (wE w) (lEv l)[j]) (c := 9 + 789 * x + 5 * x + eS (wE w) (lEv l)[j]) (by omega) ht5 (by omega)
    obtain ⟨W3, h5, r3, hA3⟩ := id h4
    have hj3 : Js (wC w 2) (sTb' (sTb' st (((lEv l).take j).foldl (lrn2 (wE w) y x) (sTb st))) (rOne (sTb (sTb' st (((lEv l).take j).foldl (lrn2 (wE w) y x) (sTb st)))) (5 * x + eS (wE w) (lEv l)[j]) (eT (wE w) (lEv l)[j]))) := (hb j).tbS (rOne_le (fun i hi => (hb j).tb hi) ht5)
    obtain ⟨s4, h6, h7⟩ := R_great h4 i hj3 hx (k := 5 * y + eS (wE w) (lEv l)[j]) (v := eT (wE w) (lEv l)[j]) (c := 9 + 789 * x + 5 * y + eS (wE w) (lEv l)[j]) (by omega) ht5 (by omega)
    refine ⟨s4, ?_, ?_⟩
    · rw [tk_fold _ _ hjn]
      exact h7
    · rw [F_X10_tables_L74]
      have e1 := R_siteOf h2 r2 i2 hec
      rw [wE_L] at e1
      have e2 := R_timeOf h2 r2 i2 hec
      rw [wE_L] at e2
      have e3 := R_siteOf h5 r3 (i.up hj3) hec
      rw [wE_L] at e3
      have e4 := R_timeOf h5 r3 (i.up hj3) hec
      rw [wE_L] at e4
      rw [l_1, nI_add o 1, R_of h2 (by omega), bind_some', hlW.2.1, if_neg (by rw [nI_leI (by omega) (by omega)]; omega), l_2, if_pos rfl, nI_add o 2, nI_add (o + 2) j, R_of h2 (by omega), bind_some', hev, e1, bind_some', R_cellOf, bind_some', e2, bind_some', h3, bind_some', e3, bind_some', R_cellOf, bind_some', e4, bind_some', h6, bind_some', nI_add j 1]) (by
    intro f s hI
    obtain ⟨W2, h2, r2, hA⟩ := id hI
    have hlW := hl.ag hA hx ho
    rw [F_X10_tables_L74]
    rw [l_1, nI_add, R_of h2 (by omega), bind_some', hlW.2.1, if_pos (nI_le (Nat.le_refl _) (by omega))]) fu s (by unfold fu; omega) (by
    have h0 : sTb' st (((lEv l).take 0).foldl (lrn2 (wE w) y x) (sTb st)) = st := by rw [List.take_zero]; rfl
    rw [h0]; exact h)
  rw [List.take_length] at h2
  exact ⟨s2, h3, h2⟩
end MV
