/-! ===== PURE 10: the reference: tables, drops, a letter laid, a letter comes ===== -/
/-- the numbers in fields, the long and the first three arrays are the same -/
def Mz (M M' : Ms) : Prop := M'.1 = M.1 ∧ M'.2.1 = M.2.1 ∧ ∀ k, k < 3 → M'.2.2 k = M.2.2 k
theorem Mz.rf {M : Ms} : Mz M M := ⟨rfl, rfl, fun _ _ => rfl⟩
theorem Mz.tr {M M1 M2 : Ms} (h : Mz M M1) (h2 : Mz M1 M2) : Mz M M2 := ⟨h2.1.trans h.1, h2.2.1.trans h.2.1, fun k hk => (h2.2.2 k hk).trans (h.2.2 k hk)⟩
theorem Mz.uA {M : Ms} {k : Nat} {f : Nat → Nat} (hk : 3 ≤ k) : Mz M (uA M k f) := ⟨rfl, rfl, fun j hj => by show upA M.2.2 k f j = _; unfold upA; rw [if_neg (by omega)]⟩
theorem wM_uA {M : Ms} {W : Nat → Nat} {k : Nat} {f : Nat → Nat} (hk : k ≠ 0) : wM (uA M k f) W = uA (wM M W) k f := by
  have h0 : upA M.2.2 k f 0 = M.2.2 0 := if_neg (Ne.symm hk)
  unfold wM uA
  refine Prod.ext rfl (Prod.ext rfl ?_)
  funext j
  show upA (upA M.2.2 k f) 0 (fun j => if M.1 3 ≤ j ∧ j < M.1 3 + 49425 then W (j - M.1 3) else upA M.2.2 k f 0 j) j = upA (upA M.2.2 0 (fun j => if M.1 3 ≤ j ∧ j < M.1 3 + 49425 then W (j - M.1 3) else M.2.2 0 j)) k f j
  rw [h0]
  by_cases hj : j = 0
  · subst hj
    rw [show upA (upA M.2.2 0 (fun j => if M.1 3 ≤ j ∧ j < M.1 3 + 49425 then W (j - M.1 3) else M.2.2 0 j)) k f 0 = upA M.2.2 0 (fun j => if M.1 3 ≤ j ∧ j < M.1 3 + 49425 then W (j - M.1 3) else M.2.2 0 j) 0 from if_neg (Ne.symm hk)]
    rfl
  · rw [show ∀ F g, upA F 0 g j = F j from fun F g => if_neg hj]
    by_cases h2 : j = k
    · subst h2
      rw [show ∀ F, upA F j f j = f from fun F => if_pos rfl, show ∀ F, upA F j f j = f from fun F => if_pos rfl]
    · rw [show ∀ F, upA F k f j = F j from fun F => if_neg h2, show ∀ F, upA F k f j = F j from fun F => if_neg h2, show ∀ F g, upA F 0 g j = F j from fun F g => if_neg hj]
section ARR
variable {a : Nat} {σ s : Sto} {M : Ms} {W : Nat → Nat}
theorem RT.ar (h : RT a σ M W s) {k j : Nat} (hk : k < 13) (h0 : k ≠ 0) (hd : mkd k = 0) (hj : j < mlen k) : iald s (a + 1 + k) (nI j) = some (nI (M.2.2 k j)) := by
  have h1 := h.2.1.iald (k := k) (j := j) hk hd hj
  rw [wM_k h0] at h1
  exact h1
theorem RT.az (h : RT a σ M W s) {k j : Nat} (hk : k < 13) (h0 : k ≠ 0) (hd : mkd k = 2) (hj : j < mlen k) : zald s (a + 1 + k) (nI j) = some (nI (M.2.2 k j)) := by
  have h1 := h.2.1.zald (k := k) (j := j) hk hd hj
  rw [wM_k h0] at h1
  exact h1
theorem RT.as (h : RT a σ M W s) {k j : Nat} (v : Nat) (hk : k < 13) (h0 : k ≠ 0) (hd : mkd k = 0) (hj : j < mlen k) : ∃ s', iast s (a + 1 + k) (nI j) (nI v) = some s' ∧ RT a σ (uN M k j v) W s' := by
  obtain ⟨s', h1, h2, h3⟩ := h.2.1.iast (k := k) (j := j) (v := v) hk hd hj
  refine ⟨s', h1, h.1, ?_, h.2.2.tr h3⟩
  have : uN (wM M W) k j v = wM (uN M k j v) W := by
    unfold uN
    rw [wM_uA h0, wM_k h0]
  rw [this] at h2
  exact h2
theorem RT.zs (h : RT a σ M W s) {k j : Nat} (v : Nat) (hk : k < 13) (h0 : k ≠ 0) (hd : mkd k = 2) (hj : j < mlen k) (hv : v = 0 ∨ v = 1) : ∃ s', zast s (a + 1 + k) (nI j) (nI v) = some s' ∧ RT a σ (uN M k j v) W s' := by
  obtain ⟨s', h1, h2, h3⟩ := h.2.1.zast (k := k) (j := j) (v := v) hk hd hj hv
  refine ⟨s', h1, h.1, ?_, h.2.2.tr h3⟩
  have : uN (wM M W) k j v = wM (uN M k j v) W := by
    unfold uN
    rw [wM_uA h0, wM_k h0]
  rw [this] at h2
  exact h2
theorem uN_at {k j v : Nat} : (uN M k j v).2.2 k = upN (M.2.2 k) j v := by
  show upA M.2.2 k _ k = _
  unfold upA; rw [if_pos rfl]
theorem uN_k {k j v i : Nat} (h : i ≠ k) : (uN M k j v).2.2 i = M.2.2 i := by
  show upA M.2.2 k _ i = _
  unfold upA; rw [if_neg h]
theorem RT.g2 (h : RT a σ M W s) : gR s a 10 2 = some (a + 1 + 1) := gR_cel h.2.1.1 rfl
theorem RT.g4 (h : RT a σ M W s) : gR s a 10 4 = some (a + 1 + 2) := gR_cel h.2.1.1 rfl
theorem RT.g6 (h : RT a σ M W s) : gR s a 10 6 = some (a + 1 + 3) := gR_cel h.2.1.1 rfl
theorem RT.g8 (h : RT a σ M W s) : gR s a 10 8 = some (a + 1 + 4) := gR_cel h.2.1.1 rfl
theorem RT.g9 (h : RT a σ M W s) : gR s a 10 9 = some (a + 1 + 5) := gR_cel h.2.1.1 rfl
theorem RT.g10 (h : RT a σ M W s) : gR s a 10 10 = some (a + 1 + 6) := gR_cel h.2.1.1 rfl
theorem RT.g11 (h : RT a σ M W s) : gR s a 10 11 = some (a + 1 + 7) := gR_cel h.2.1.1 rfl
theorem RT.g14 (h : RT a σ M W s) : gR s a 10 14 = some (a + 1 + 8) := gR_cel h.2.1.1 rfl
theorem RT.g15 (h : RT a σ M W s) : gR s a 10 15 = some (a + 1 + 9) := gR_cel h.2.1.1 rfl
theorem RT.g16 (h : RT a σ M W s) : gR s a 10 16 = some (a + 1 + 10) := gR_cel h.2.1.1 rfl
theorem RT.g17 (h : RT a σ M W s) : gR s a 10 17 = some (a + 1 + 11) := gR_cel h.2.1.1 rfl
theorem RT.g18 (h : RT a σ M W s) : gR s a 10 18 = some (a + 1 + 12) := gR_cel h.2.1.1 rfl
theorem RT.i0 (h : RT a σ M W s) : gI s a 10 0 = some (nI (M.1 0)) := gI_cel h.2.1.1 rfl
theorem RT.i5 (h : RT a σ M W s) : gI s a 10 5 = some (nI (M.1 5)) := gI_cel h.2.1.1 rfl
theorem RT.i12 (h : RT a σ M W s) : gI s a 10 12 = some (nI (M.1 12)) := gI_cel h.2.1.1 rfl
theorem RT.i13 (h : RT a σ M W s) : gI s a 10 13 = some (nI (M.1 13)) := gI_cel h.2.1.1 rfl
theorem RT.l7 (h : RT a σ M W s) : gL s a 10 7 = some (lN M.2.1) := gL_cel h.2.1.1 rfl
end ARR
/-- a loop from i0 on -/
theorem lpG {ρ S : Type} (L : Nat → Nat → S → ρ) (K : S → ρ) (Inv : Nat → S → Prop) (N i0 : Nat) (hi : i0 ≤ N) (hs : ∀ i f s, i0 ≤ i → i < N → Inv i s → ∃ s', Inv (i + 1) s' ∧ L (f + 1) i s = L f (i + 1) s') (he : ∀ f s, Inv N s → L (f + 1) N s = K s) (F : Nat) (s : S) (hF : N < F) (h0 : Inv i0 s) : ∃ s', Inv N s' ∧ L F i0 s = K s' := by
  have h := lpS (fun f j s => L f (i0 + j) s) K (fun j s => Inv (i0 + j) s) (N - i0) (fun i f s h1 h2 => by
    obtain ⟨s', h3, h4⟩ := hs (i0 + i) f s (by omega) (by omega) h2
    exact ⟨s', h3, h4⟩) (fun f s h1 => by
    have e : i0 + (N - i0) = N := by omega
    show L (f + 1) (i0 + (N - i0)) s = K s
    rw [e]
    have h1' : Inv (i0 + (N - i0)) s := h1
    rw [e] at h1'
    exact he f s h1') F s (by omega) h0
  obtain ⟨s', h1, h2⟩ := h
  have e : i0 + (N - i0) = N := by omega
  have h1' : Inv (i0 + (N - i0)) s' := h1
  rw [e] at h1'
  exact ⟨s', h1', h2⟩
section MW
variable {a : Nat} {σ s : Sto} {M : Ms} {W W' : Nat → Nat} {w : Wd} {x : Nat} {st : St}
theorem lrn_eq {v : Ev} {l : Lt} {f o n : Nat} {t : Nat → Nat} (hz : ∀ i, i < 25 → (n ≤ i / 5 ∨ n ≤ i % 5) → lTb l i = 0) (hf : f < 5) : (lMd l = 1 → ∀ i, i < 25 → lrn v l f o t i = rRowN n (rRowN n t o (lTb l) f) f (lTb l) f i) ∧ (lMd l = 0 → ∀ i, i < 25 → lrn v l f o t i = if i / 5 < n ∧ i % 5 < n then max (rRowN n t o (lTb l) f i) (lTb l i) else rRowN n t o (lTb l) f i) := by
  have key : ∀ (t : Nat → Nat) (r i : Nat), i < 25 → rRow t r (lTb l) f i = rRowN n t r (lTb l) f i := by
    intro t r i hi
    unfold rRow rRowN
    by_cases h1 : i / 5 = r
    · rw [if_pos h1]
      by_cases h2 : i % 5 < n
      · rw [if_pos ⟨h1, h2⟩]
      · rw [if_neg (fun h => h2 h.2), hz (5 * f + i % 5) (by omega) (by omega)]
        omega
    · rw [if_neg h1, if_neg (fun h => h1 h.1)]
  constructor
  · intro hm i hi
    unfold lrn
    rw [if_neg (by omega), if_pos hm, key _ _ _ hi]
    unfold rRowN
    by_cases h1 : i / 5 = f ∧ i % 5 < n
    · rw [if_pos h1, if_pos h1]
      have := key t o i hi
      unfold rRowN at this
      rw [this]
    · rw [if_neg h1, if_neg h1]
      have := key t o i hi
      unfold rRowN at this
      exact this
  · intro hm i hi
    unfold lrn
    rw [if_neg (by omega), if_neg (by omega), key _ _ _ hi]
    by_cases h1 : i / 5 < n ∧ i % 5 < n
    · rw [if_pos h1]
    · rw [if_neg h1, hz i hi (by omega)]
      omega
theorem sTb'' (s : St) (t u : Nat → Nat) : sTb' (sTb' s t) u = sTb' s u := rfl
theorem sTb_' (s : St) (t : Nat → Nat) : sTb (sTb' s t) = t := rfl
theorem SX.tbe {t1 : Nat → Nat} (h : SX a σ M W w x (sTb' st t1) s) (i : Jv w) (hj : Js (wC w 2) (sTb' st t1)) (hx : x < 5) {t : Nat → Nat} (ht : ∀ k, k < 25 → t k = t1 k) : SX a σ M W w x (sTb' st t) s := h.tbc i hj hx ht
theorem R_tables (h : SX a σ M W w x st s) (i : Jv w) (hj : Js (wC w 2) st) (hx : x < 5) {o y : Nat} {l : Lt} (hy : y < 5) (hl : RLe W o l) (ho : 5153 ≤ o) (ho2 : o + 147 ≤ 49425) (hu : ∀ i, i < 25 → lTb l i ≤ 120) (hz : ∀ i, i < 25 → (wC w 0 ≤ i / 5 ∨ wC w 0 ≤ i % 5) → lTb l i = 0) (hle : ∀ e ∈ lEv l, e < wC w 2) (hm : lMd l < 3) : ∃ s', F_X10_tables s a (nI o) (nI y) (nI x) = some s' ∧ SX a σ M W w x (sTb' st (lrn (wE w) l y x (sTb st))) s' := by
  have h5 := i.n5
  obtain ⟨W1, h1, r1, hA⟩ := id h
  have hl1 := hl.ag hA hx ho
  have hmd := hl1.1
  have hE := lrn_eq (v := wE w) (l := l) (f := y) (o := x) (n := wC w 0) (t := sTb st) hz hy
  have skip40 : ∀ (m : Nat) (s : Sto) (K : Sto → Option Sto), m ≠ 0 → m < 3 → (gO s a 10).isSome = true → (∃ v, F_X10_of s a (nI 0) = some v) → F_X10_tables_L40 a (nI o) (nI x) (nI m) fu (nI 0) s K = K s := by
    intro m s K hm0 hm3 _ ⟨v, hv⟩
    show F_X10_tables_L40 a (nI o) (nI x) (nI m) (59999 + 1) (nI 0) s K = K s
    rw [F_X10_tables_L40, l_0, hv, bind_some']
    split
    · rfl
    · rw [if_neg (by rw [nI_eq (by omega) (by omega)]; exact hm0)]
  have skip74 : ∀ (m : Nat) (s : Sto) (K : Sto → Option Sto), m ≠ 2 → m < 3 → (∃ v, F_X10_of s a (nI (o + 1)) = some v) → F_X10_tables_L74 a (nI o) (nI y) (nI x) (nI m) fu (nI 0) s K = K s := by
    intro m s K hm0 hm3 ⟨v, hv⟩
    show F_X10_tables_L74 a (nI o) (nI y) (nI x) (nI m) (59999 + 1) (nI 0) s K = K s
    rw [F_X10_tables_L74, l_1, nI_add, hv, bind_some']
    split
    · rfl
    · rw [l_2, if_neg (by rw [nI_eq (by omega) (by omega)]; exact hm0)]
  unfold F_X10_tables
  rw [chk_eq h1.ok, l_0, nI_add, Nat.add_zero, R_of h1 (by omega), bind_some', hmd]
  dsimp only [jn_eq]
  have cases3 : lMd l = 0 ∨ lMd l = 1 ∨ lMd l = 2 := by omega
  rcases cases3 with hc | hc | hc
  · rw [hc, l_2, if_neg (by rw [nI_leI (by omega) (by omega)]; omega)]
    obtain ⟨s2, q1, q2⟩ := R_raises h i hj hx (row := x) (y := y) hx hy hl ho ho2 hu
    have hj2 : Js (wC w 2) (sTb' st (rRowN (wC w 0) (sTb st) x (lTb l) y)) := hj.tbS (rRowN_le (fun i hi => hj.tb hi) hu hy)
    rw [q1, bind_some', l_1, if_neg (by rw [nI_eq (by omega) (by omega)]; omega)]
    obtain ⟨s3, q3, q4⟩ := R_tables0 q2 i hj2 hx hl ho ho2 hu (fun s8 => F_X10_tables_L74 a (nI o) (nI y) (nI x) (nI 0) fu (nI 0) s8 (fun s19 => some s19))
    obtain ⟨W3, h3, -, -⟩ := id q4
    refine ⟨s3, ?_, ?_⟩
    · rw [q3, skip74 0 s3 _ (by omega) (by omega) ⟨_, R_of h3 (by omega)⟩]
    · rw [sTb'', sTb_'] at q4
      refine q4.tbe i ?_ hx (fun k hk => ?_)
      · refine hj.tbS (fun k hk => ?_)
        have e1 := hj2.tb hk
        have e2 := hu k hk
        have e3 : rRowN (wC w 0) (sTb st) x (lTb l) y k ≤ 120 := e1
        split <;> omega
      · rw [hE.2 hc k hk]
  · rw [hc, l_2, if_neg (by rw [nI_leI (by omega) (by omega)]; omega)]
    obtain ⟨s2, q1, q2⟩ := R_raises h i hj hx (row := x) (y := y) hx hy hl ho ho2 hu
    have hj2 : Js (wC w 2) (sTb' st (rRowN (wC w 0) (sTb st) x (lTb l) y)) := hj.tbS (rRowN_le (fun i hi => hj.tb hi) hu hy)
    obtain ⟨s3, q3, q4⟩ := R_raises q2 i hj2 hx (row := y) (y := y) hy hy hl ho ho2 hu
    obtain ⟨W3, h3, -, -⟩ := id q4
    rw [q1, bind_some', l_1, if_pos rfl, q3, bind_some']
    refine ⟨s3, ?_, ?_⟩
    · rw [skip40 1 s3 _ (by omega) (by omega) h3.ok ⟨_, R_of h3 (by omega)⟩, skip74 1 s3 _ (by omega) (by omega) ⟨_, R_of h3 (by omega)⟩]
    · rw [sTb'', sTb_'] at q4
      refine q4.tbe i ?_ hx (fun k hk => hE.1 hc k hk)
      exact hj.tbS (rRowN_le (fun i hi => hj2.tb hi) hu hy)
  · rw [hc, l_2, if_pos (nI_le (by omega) (by omega)), l_1, if_neg (by rw [nI_eq (by omega) (by omega)]; omega)]
    obtain ⟨s3, q3, q4⟩ := R_tables2 h i hj hx hy hl ho ho2 hle (fun s19 => some s19)
    refine ⟨s3, ?_, ?_⟩
    · rw [skip40 2 s _ (by omega) (by omega) h1.ok ⟨_, R_of h1 (by omega)⟩, q3]
    · have : lrn (wE w) l y x (sTb st) = (lEv l).foldl (lrn2 (wE w) y x) (sTb st) := by
        unfold lrn
        rw [if_pos hc]
        rfl
      rw [this]; exact q4
/-- a place of the log -/
theorem R_lset (h : SX a σ M W w x st s) (i : Jv w) (hj : Js (wC w 2) st) (hx : x < 5) {k e : Nat} (hk : k < (sLg st).length) : ∃ s', F_X10_set s a (nI (9 + 789 * x + 34 + k)) (nI e) = some s' ∧ SX a σ M W w x (sLg' st ((sLg st).set k e)) s' := by
  have hlg := hj.lg
  obtain ⟨W1, h1, r1, hA⟩ := h
  have rs : RS W1 (9 + 789 * x) st := by
    have := r1.L hx
    rwa [wL_up] at this
  obtain ⟨q1, q2, q3, q4, q5, q6⟩ := rs
  obtain ⟨s2, h2, h3⟩ := R_set h1 (x := 9 + 789 * x + 34 + k) e (by omega)
  refine ⟨s2, h2, ?_⟩
  refine SX.of i hx hj r1 hA h3 (fun j hj2 => upN_n (by omega)) ⟨fun j hj2 => ?_, fun z hz => ?_, fun z hz => ?_, ?_, fun j z hz => ?_, fun z hz => ?_⟩
  · rw [upN_n (by omega)]; exact q1 j hj2
  · rw [rb_cg (o := 9 + 789 * x + 25) (n := 4) (W := W1) hz (by omega) (by omega) (fun j _ _ => upN_n (by omega))]; exact q2 z hz
  · rw [rb_cg (o := 9 + 789 * x + 29) (n := 4) (W := W1) hz (by omega) (by omega) (fun j _ _ => upN_n (by omega))]; exact q3 z hz
  · rw [upN_n (by omega), q4]
    show _ = ((sLg st).set k e).length
    rw [List.length_set]
  · have hz' : ((sLg st).set k e)[j]? = some z := hz
    by_cases hjk : j = k
    · subst hjk
      rw [List.getElem?_set_self hk] at hz'
      rw [upN_s]
      exact Option.some.inj hz'
    · rw [List.getElem?_set_ne (Ne.symm hjk)] at hz'
      rw [upN_n (by omega)]; exact q5 j z hz'
  · rw [upN_n (by omega), upN_n (by omega)]; exact q6 z hz
theorem R_lcut (h : SX a σ M W w x st s) (i : Jv w) (hj : Js (wC w 2) st) (hx : x < 5) {k : Nat} (hk : k ≤ (sLg st).length) : ∃ s', F_X10_set s a (nI (9 + 789 * x + 33)) (nI k) = some s' ∧ SX a σ M W w x (sLg' st ((sLg st).take k)) s' := by
  have hlg := hj.lg
  obtain ⟨W1, h1, r1, hA⟩ := h
  have rs : RS W1 (9 + 789 * x) st := by
    have := r1.L hx
    rwa [wL_up] at this
  obtain ⟨q1, q2, q3, q4, q5, q6⟩ := rs
  obtain ⟨s2, h2, h3⟩ := R_set h1 (x := 9 + 789 * x + 33) k (by omega)
  refine ⟨s2, h2, ?_⟩
  refine SX.of i hx hj r1 hA h3 (fun j hj2 => upN_n (by omega)) ⟨fun j hj2 => ?_, fun z hz => ?_, fun z hz => ?_, ?_, fun j z hz => ?_, fun z hz => ?_⟩
  · rw [upN_n (by omega)]; exact q1 j hj2
  · rw [rb_cg (o := 9 + 789 * x + 25) (n := 4) (W := W1) hz (by omega) (by omega) (fun j _ _ => upN_n (by omega))]; exact q2 z hz
  · rw [rb_cg (o := 9 + 789 * x + 29) (n := 4) (W := W1) hz (by omega) (by omega) (fun j _ _ => upN_n (by omega))]; exact q3 z hz
  · rw [upN_s]
    show _ = ((sLg st).take k).length
    rw [List.length_take]; omega
  · have hz' : ((sLg st).take k)[j]? = some z := hz
    rw [List.getElem?_take] at hz'
    by_cases hjk : j < k
    · rw [if_pos hjk] at hz'
      rw [upN_n (by omega)]; exact q5 j z hz'
    · rw [if_neg hjk] at hz'; cases hz'
  · rw [upN_n (by omega), upN_n (by omega)]; exact q6 z hz
theorem filt_len {α : Type} (p : α → Bool) (l : List α) (j : Nat) : ((l.take j).filter p).length ≤ j := Nat.le_trans (List.length_filter_le ..) (by rw [List.length_take]; omega)
/-- a log while it is sifted -/
def sift (p : Nat → Bool) (l : List Nat) (j : Nat) : List Nat := (l.take j).filter p ++ l.drop ((l.take j).filter p).length
theorem sift_len (p : Nat → Bool) (l : List Nat) (j : Nat) (hj : j ≤ l.length) : (sift p l j).length = l.length := by
  have := filt_len p l j
  unfold sift
  rw [List.length_append, List.length_drop]
  omega
theorem sift_get (p : Nat → Bool) (l : List Nat) (j : Nat) (hj : j < l.length) : (sift p l j)[j]? = l[j]? := by
  have := filt_len p l j
  unfold sift
  rw [List.getElem?_append_right this, List.getElem?_drop]
  congr 1
  omega
theorem sift_mem (p : Nat → Bool) (l : List Nat) (j : Nat) {e : Nat} (h : e ∈ sift p l j) : e ∈ l := by
  unfold sift at h
  rcases List.mem_append.mp h with h | h
  · exact List.mem_of_mem_take (List.mem_filter.mp h).1
  · exact List.mem_of_mem_drop h
theorem sift_s (p : Nat → Bool) (l : List Nat) (j : Nat) (hj : j < l.length) (hp : p l[j] = true) : (sift p l j).set ((l.take j).filter p).length l[j] = sift p l (j + 1) := by
  have h1 := filt_len p l j
  unfold sift
  rw [tk_filt p hj, if_pos hp, List.set_append_right _ _ (Nat.le_refl _), Nat.sub_self, List.length_append, List.append_assoc]
  congr 1
  rw [List.drop_eq_getElem_cons (show ((l.take j).filter p).length < l.length by omega)]
  rfl
theorem sift_n (p : Nat → Bool) (l : List Nat) (j : Nat) (hj : j < l.length) (hp : ¬ p l[j] = true) : sift p l (j + 1) = sift p l j := by
  unfold sift
  rw [tk_filt p hj, if_neg hp, List.append_nil]
theorem R_drops (h : SX a σ M W w x st s) (i : Jv w) (hj : Js (wC w 2) st) (hx : x < 5) : ∃ s', F_X10_drops s a (nI x) = some s' ∧ SX a σ M W w x (sLg' st ((sLg st).filter (fun e => !knA (wE w) (wC w 0) st e))) s' := by
  have hlg := hj.lg
  obtain ⟨W1, h1, r1, hA⟩ := id h
  have hjs : ∀ j, j ≤ (sLg st).length → Js (wC w 2) (sLg' st (sift (fun e => !knA (wE w) (wC w 0) st e) (sLg st) j)) := fun j hj2 => ⟨hj.1, by show (sift _ (sLg st) j).length ≤ 120; rw [sift_len _ _ _ hj2]; exact hlg, fun e he => hj.lm (sift_mem _ _ _ he)⟩
  unfold F_X10_drops
  rw [chk_eq h1.ok, R_stateOf, bind_some', l_0]
  obtain ⟨q, hq, hE⟩ := lpS (fun f j (q : Nat × Sto) => F_X10_drops_L10 a (nI x) (nI (9 + 789 * x)) f (nI q.1) (nI j) q.2 (fun x6 s7 => (F_X10_set s7 a (nI (9 + 789 * x) + 33) x6).bind fun s8 => some s8)) (fun q => (F_X10_set q.2 a (nI (9 + 789 * x) + 33) (nI q.1)).bind fun s8 => some s8) (fun j q => q.1 = ((sLg st).take j |>.filter (fun e => !knA (wE w) (wC w 0) st e)).length ∧ SX a σ M W w x (sLg' st (sift (fun e => !knA (wE w) (wC w 0) st e) (sLg st) j)) q.2) (sLg st).length (by
    intro j f q hjn hI
    obtain ⟨hq1, hS⟩ := hI
    obtain ⟨W2, h2, r2, hA2⟩ := id hS
    have h10 := r2.ln hx
    have hjl := hjs j (by omega)
    have hn : W2 (9 + 789 * x + 33) = (sLg st).length := by
      rw [h10, wL_up]
      exact sift_len _ _ _ (by omega)
    have he : W2 (9 + 789 * x + 34 + j) = (sLg st)[j] := by
      have h11 := (r2.L hx).2.2.2.2.1 j ((sLg st)[j])
      rw [wL_up] at h11
      exact h11 ((sift_get _ _ _ hjn).trans (List.getElem?_eq_getElem hjn))
    have hec := hj.lm (List.getElem_mem hjn)
    have hk := R_isKnownToAll h2 r2 (i.up hjl) hx hec
    rw [wL_up, wE_L, wC_L] at hk
    have hk2 : knA (wE w) (wC w 0) (sLg' st (sift (fun e => !knA (wE w) (wC w 0) st e) (sLg st) j)) (sLg st)[j] = knA (wE w) (wC w 0) st (sLg st)[j] := rfl
    rw [hk2] at hk
    have hfl := filt_len (fun e => !knA (wE w) (wC w 0) st e) (sLg st) j
    by_cases hp : knA (wE w) (wC w 0) st (sLg st)[j] = true
    · refine ⟨q, ⟨?_, ?_⟩, ?_⟩
      · rw [tk_filt _ hjn, if_neg (by rw [hp]; decide), List.append_nil]; exact hq1
      · rw [sift_n _ _ _ hjn (by rw [hp]; decide)]; exact hS
      · show F_X10_drops_L10 _ _ _ _ _ _ _ _ = F_X10_drops_L10 _ _ _ _ _ _ _ _
        rw [F_X10_drops_L10]
        simp (disch := omega) only [l_0, l_1, l_2, l_3, l_4, l_5, l_6, l_7, l_8, l_9, l_10, l_12, l_25, l_29, l_33, l_34, l_120, l_122, l_147, l_154, l_274, l_394, l_395, l_789, l_3953, l_5153, l_5178, l_49278, l_49279, l_49280, bind_some', jn_eq, nI_add, pk_mul, nI_leI, nI_ltI, nI_eq, ifb, ifz, R_flag0, R_flag1, R_flag, if_true, if_false, R_of h2, hn, if_neg, he, hk, hp]
    · have hp2 : knA (wE w) (wC w 0) st (sLg st)[j] = false := by simpa using hp
      obtain ⟨s3, h3, h4⟩ := R_lset hS i hjl hx (k := q.1) (e := (sLg st)[j]) (by
        show q.1 < (sift _ (sLg st) j).length
        rw [sift_len _ _ _ (by omega)]; omega)
      refine ⟨(q.1 + 1, s3), ⟨?_, ?_⟩, ?_⟩
      · rw [tk_filt _ hjn, if_pos (by rw [hp2]; rfl), List.length_append, ← hq1]; rfl
      · have e1 : (sift (fun e => !knA (wE w) (wC w 0) st e) (sLg st) j).set q.1 (sLg st)[j] = sift (fun e => !knA (wE w) (wC w 0) st e) (sLg st) (j + 1) := by
          rw [hq1]; exact sift_s _ _ _ hjn (by rw [hp2]; rfl)
        rw [← e1]; exact h4
      · show F_X10_drops_L10 _ _ _ _ _ _ _ _ = F_X10_drops_L10 _ _ _ _ _ _ _ _
        rw [F_X10_drops_L10]
        simp (disch := omega) only [l_0, l_1, l_2, l_3, l_4, l_5, l_6, l_7, l_8, l_9, l_10, l_12, l_25, l_29, l_33, l_34, l_120, l_122, l_147, l_154, l_274, l_394, l_395, l_789, l_3953, l_5153, l_5178, l_49278, l_49279, l_49280, bind_some', jn_eq, nI_add, pk_mul, nI_leI, nI_ltI, nI_eq, ifb, ifz, R_flag0, R_flag1, R_flag, if_true, if_false, R_of h2, hn, if_neg, he, hk, hp2, h3]
        rfl) (by
    intro f q hI
    obtain ⟨hq1, hS⟩ := hI
    obtain ⟨W2, h2, r2, hA2⟩ := id hS
    have hn : W2 (9 + 789 * x + 33) = (sLg st).length := by
      rw [r2.ln hx, wL_up]
      exact sift_len _ _ _ (Nat.le_refl _)
    rw [F_X10_drops_L10, l_33, nI_add, R_of h2 (by omega), bind_some', hn, if_pos (nI_le (Nat.le_refl _) (by omega))]) fu (0, s) (by unfold fu; omega) ⟨rfl, by
      have e0 : sift (fun e => !knA (wE w) (wC w 0) st e) (sLg st) 0 = sLg st := by unfold sift; simp
      rw [e0]; exact h⟩
  rw [hE]
  obtain ⟨hq1, hS⟩ := hq
  have hjl := hjs (sLg st).length (Nat.le_refl _)
  rw [List.take_length] at hq1
  have hfl : ((sLg st).filter (fun e => !knA (wE w) (wC w 0) st e)).length ≤ (sLg st).length := List.length_filter_le ..
  obtain ⟨s3, h3, h4⟩ := R_lcut hS i hjl hx (k := q.1) (by
    show q.1 ≤ (sift _ (sLg st) _).length
    rw [sift_len _ _ _ (Nat.le_refl _)]; omega)
  refine ⟨s3, ?_, ?_⟩
  · rw [l_33, nI_add, h3]; rfl
  · have e1 : (sift (fun e => !knA (wE w) (wC w 0) st e) (sLg st) (sLg st).length).take q.1 = (sLg st).filter (fun e => !knA (wE w) (wC w 0) st e) := by
      unfold sift
      rw [List.take_length, hq1, List.take_append_of_le_length (Nat.le_refl _), List.take_length]
    rw [← e1]; exact h4
end MW
