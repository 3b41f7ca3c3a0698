/-! ===== PURE 70: the reference's state ===== -/
def RTr (M : Ms) (tr : List Tr) : Prop := M.1 5 = tr.length ∧ ∀ j t, j < 32 → tr[j]? = some t → ∀ k, k < 4 → M.2.2 2 (4 * ((tr.length - 1 - j) % 32) + k) = trA t k
/-- the reference's numbers hold the state -/
def RK (M : Ms) (A : Ga) : Prop := M.1 3 ≤ 49425 ∧ RW (M.2.2 0) A.1 ∧ (∀ k, k < 2 → M.2.2 1 k = b2 (A.2.1 k).isSome ∧ ∀ v, A.2.1 k = some v → RW (fun j => M.2.2 0 (98850 + 49425 * k + j)) v) ∧ RTr M A.2.2.1 ∧ lN M.2.1 = A.2.2.2
/-- what was thrown, the state -/
def RJ (s : Sto) (a c : Nat) (A : Ga) : Prop := ∃ M, RM s a M ∧ RK M A ∧ M.1 0 = c
/-- with the base at 0, nothing thrown -/
def RB (s : Sto) (a : Nat) (M : Ms) (A : Ga) : Prop := RM s a M ∧ RK M A ∧ M.1 3 = 0 ∧ M.1 0 = 0
def Rj (s : Sto) (a : Nat) (cd : String → Nat) (F : Option (Int32 × Sto)) (R : Ra) : Prop := ∃ v t, F = some (v, t) ∧ Eo a s t ∧ RJ t a (match R.1 with
  | .inl _ => 0
  | .inr e => cd e) R.2 ∧ ∀ x, R.1 = .inl x → v = x
section RFJ
variable {s s1 t : Sto} {a c : Nat} {M : Ms} {A : Ga} {w : Wd} {cd : String → Nat} {e : String}
theorem RM.t0 (h : RM s a M) (v : Nat) : ∃ t, sV s a 10 0 (.int (nI v)) = some t ∧ RM t a (uS M 0 v) ∧ Eo a s t := h.setS rfl (by omega)
theorem RM.b0 (h : RM s a M) (v : Nat) : ∃ t, sV s a 10 3 (.int (nI v)) = some t ∧ RM t a (uS M 3 v) ∧ Eo a s t := h.setS rfl (by omega)
theorem RK.t0 (k : RK M A) (v : Nat) : RK (uS M 0 v) A := k
theorem RK.b0 (k : RK M A) {v : Nat} (hv : v ≤ 49425) : RK (uS M 3 v) A := ⟨hv, k.2⟩
theorem RJ.go1 (h : RJ s a c A) : ∃ s1 M, sV s a 10 0 (.int (0 : Int32)) = some s1 ∧ RM s1 a M ∧ RK M A ∧ M.1 0 = 0 ∧ Eo a s s1 ∧ (gO s a 10).isSome = true := by
  obtain ⟨M, h1, h2, h3⟩ := h
  obtain ⟨t, e1, h4, E4⟩ := h1.t0 0
  exact ⟨t, _, e1, h4, h2.t0 0, rfl, E4, h1.ok⟩
theorem RJ.go2 (h : RJ s a c A) : ∃ s1 s2 M, sV s a 10 0 (.int (0 : Int32)) = some s1 ∧ sV s1 a 10 3 (.int (0 : Int32)) = some s2 ∧ RB s2 a M A ∧ Eo a s s2 ∧ (gO s a 10).isSome = true := by
  obtain ⟨s1, M, e1, h1, k1, t1, E1, o⟩ := h.go1
  obtain ⟨s2, e2, h2, E2⟩ := h1.b0 0
  exact ⟨s1, s2, _, e1, e2, ⟨h2, k1.b0 (Nat.zero_le _), rfl, t1⟩, E1.tr E2, o⟩
theorem RB.rt (h : RB s a M A) : RT a s M (M.2.2 0) s := by
  have h1 := RT.begin h.1 h.2.1.1
  have h2 : Wb M = M.2.2 0 := by
    funext j
    show M.2.2 0 (M.1 3 + j) = _
    rw [h.2.2.1, Nat.zero_add]
  rw [h2] at h1
  exact h1
theorem RB.rw (h : RB s a M A) : RW (M.2.2 0) A.1 := h.2.1.2.1
theorem RB.b (h : RB s a M A) : M.1 3 = 0 := h.2.2.1
theorem RB.rj (h : RB s a M A) : RJ s a 0 A := ⟨M, h.1, h.2.1, h.2.2.2⟩
theorem RB.ok (h : RB s a M A) : (gO s a 10).isSome = true := h.1.ok
theorem Iv.t12 {w : Wd} (i : Iv w) : ∀ c, c < 25 → (wT w c).length ≤ 12 := fun c hc => by
  have h := (i.2.2.2.2.2.1 (c / 5) (by omega) (c % 5) (by omega)).1
  rw [show 5 * (c / 5) + c % 5 = c by omega] at h
  exact h
/-- the words at the base are changed -/
theorem RK.upd {M' : Ms} {W' : Nat → Nat} (k : RK M A) (mz : Mz M M') (hb : M.1 3 = 0) (r : RW W' w) (i : Iv w) : RK (wM M' W') (w, A.2) := by
  obtain ⟨k1, k2, k3, k4, k5⟩ := k
  obtain ⟨m1, m2, m3⟩ := mz
  have hb' : M'.1 3 = 0 := by rw [m1]; exact hb
  have e0 : M'.2.2 0 = M.2.2 0 := m3 0 (by omega)
  refine ⟨by show M'.1 3 ≤ _; omega, r.low i.j i.t12 (fun j hj => ?_), fun q hq => ?_, ?_, by show lN M'.2.1 = _; rw [m2]; exact k5⟩
  · have h := wM_at (M := M') (W := W') hj
    rw [hb', Nat.zero_add] at h
    exact h
  · obtain ⟨q1, q2⟩ := k3 q hq
    refine ⟨by rw [wM_k (by decide), m3 1 (by omega)]; exact q1, fun v hv => ?_⟩
    have hf : (fun j => (wM M' W').2.2 0 (98850 + 49425 * q + j)) = fun j => M.2.2 0 (98850 + 49425 * q + j) := by
      funext j
      rw [wM_out (by omega), e0]
    rw [hf]
    exact q2 v hv
  · obtain ⟨t1, t2⟩ := k4
    refine ⟨by show M'.1 5 = _; rw [m1]; exact t1, fun j t hj ht q hq => ?_⟩
    rw [wM_k (by decide), m3 2 (by omega)]
    exact t2 j t hj ht q hq
theorem RB.op {M' : Ms} {W' : Nat → Nat} (h : RB s a M A) (mz : Mz M M') (t : RT a s M' W' s1) (r : RW W' w) (i : Iv w) : RB s1 a (wM M' W') (w, A.2) ∧ Eo a s s1 := ⟨⟨t.2.1, h.2.1.upd mz h.2.2.1 r i, by show M'.1 3 = 0; rw [mz.1]; exact h.2.2.1, by show M'.1 0 = 0; rw [mz.1]; exact h.2.2.2⟩, t.2.2⟩
/-- arrays behind the third are changed -/
theorem RB.mz {M' : Ms} (h : RB s a M A) (mz : Mz M M') (h1 : RM s1 a M') : RB s1 a M' A := by
  obtain ⟨k1, k2, k3, k4, k5⟩ := h.2.1
  obtain ⟨m1, m2, m3⟩ := mz
  refine ⟨h1, ⟨by rw [m1]; exact k1, by rw [m3 0 (by omega)]; exact k2, fun q hq => ⟨by rw [m3 1 (by omega)]; exact (k3 q hq).1, fun v hv => by rw [m3 0 (by omega)]; exact (k3 q hq).2 v hv⟩, ⟨by rw [m1]; exact k4.1, fun j t hj ht q hq => by rw [m3 2 (by omega)]; exact k4.2 j t hj ht q hq⟩, by rw [m2]; exact k5⟩, by rw [m1]; exact h.2.2.1, by rw [m1]; exact h.2.2.2⟩
theorem RW_num {W : Nat → Nat} (r : RW W w) (i : Iv w) {k v : Nat} (hk : k < 7) (h2 : k ≠ 2) : RW (upN W k v) (wC' w (up (wC w) k v)) := by
  have hj : ∀ j, 7 ≤ j → upN W k v j = W j := fun j hj => upN_n (by omega)
  have e2 : wC (wC' w (up (wC w) k v)) 2 = wC w 2 := up_n _ _ (fun y => h2 y.symm)
  refine ⟨fun j hj => ?_, fun q hq => by rw [hj 7 (by omega)]; exact r.2.1 q hq, fun x hx => ⟨by rw [hj _ (by omega)]; exact r.k hx, (r.L hx).cg (i.j.L hx).lg (fun j a b => hj j (by omega)), (r.S hx).cg (i.j.S hx) (fun j a b => hj j (by omega))⟩, fun e he => ?_, fun q hq => ⟨by rw [hj _ (by omega)]; exact r.t hq, fun k l hl => (r.l hq hl).cg (fun j a b => hj j (by omega))⟩⟩
  · show upN W k v j = up (wC w) k v j
    unfold upN up
    by_cases hjk : j = k
    · rw [if_pos hjk, if_pos hjk]
    · rw [if_neg hjk, if_neg hjk]; exact r.c hj
  · rw [e2] at he
    exact (r.e he).cg (fun j a b => hj j (by omega))
theorem R_fails (h : RM s a M) (c : Nat) : ∃ t, F_X10_fails s a (nI c) = some (0, t) ∧ RM t a (uS M 0 c) ∧ Eo a s t := by
  obtain ⟨t, e1, h1, E1⟩ := h.t0 c
  refine ⟨t, ?_, h1, E1⟩
  unfold F_X10_fails
  rw [chk_eq h.ok, e1, bind_some']
theorem Rj.fl (h : RM s1 a M) (k : RK M A) (E : Eo a s s1) {x : Int32} (hx : x = nI (cd e)) : Rj s a cd (wb (F_X10_fails s1 a x) fun x2 s2 => some (x2, s2)) (.inr e, A) := by
  obtain ⟨t, e1, h1, E1⟩ := R_fails h (cd e)
  refine ⟨0, t, by rw [hx, e1, wbs], E.tr E1, ⟨_, h1, k.t0 _, rfl⟩, fun x hx => (by cases hx)⟩
theorem Rj.fl2 (h : RM s1 a M) (k : RK M A) (E : Eo a s s1) {x : Int32} (hx : x = nI (cd e)) : Rj s a cd (wb (F_X10_fails s1 a x) fun x2 s2 => if x2 = 0 then some ((0 : Int32), s2) else some ((1 : Int32), s2)) (.inr e, A) := by
  obtain ⟨t, e1, h1, E1⟩ := R_fails h (cd e)
  refine ⟨0, t, by rw [hx, e1, wbs, if_pos rfl], E.tr E1, ⟨_, h1, k.t0 _, rfl⟩, fun x hx => (by cases hx)⟩
theorem Rj.ok {v : Int32} {s2 : Sto} (h : RB s2 a M A) (E : Eo a s s2) : Rj s a cd (some (v, s2)) (.inl v, A) := ⟨v, s2, rfl, E, h.rj, fun x hx => (by cases hx; rfl)⟩
theorem Rj.ok1 {v : Int32} {s2 : Sto} (h : RM s2 a M) (k : RK M A) (h0 : M.1 0 = 0) (E : Eo a s s2) : Rj s a cd (some (v, s2)) (.inl v, A) := ⟨v, s2, rfl, E, ⟨M, h, k, h0⟩, fun x hx => (by cases hx; rfl)⟩
theorem RM.wd (h : RM s a M) : gR s a 10 1 = some (a + 1) := gR_cel h.1 rfl
theorem rm_raw (h : RM s a M) {j : Nat} (hj : j < 197700) : iald s (a + 1) (nI j) = some (nI (M.2.2 0 j)) := h.iald (k := 0) (by omega) rfl hj
def RM.raw (h : RM s a M) {j : Nat} (hj : j < 197700) := rm_raw h hj
theorem R_isSiteM (h : RM s a M) (k : RK M A) (i : Iv A.1) (x : Int32) : F_X10_isSite s a x = some (nI (b2 (inR x (wC A.1 0)))) := by
  have h1 := i.n5
  unfold F_X10_isSite
  rw [chk_eq h.ok, h.wd, bind_some', l_0, h.raw (by omega), bind_some', k.2.1.c (by omega), show (1 : Int32) = nI 1 from rfl, isIn_inR x (by omega), bind_some', ifz]
theorem R_isEventM (h : RM s a M) (k : RK M A) (i : Iv A.1) (x : Int32) : F_X10_isEvent s a x = some (nI (b2 (inR x (wC A.1 2)))) := by
  have h1 := i.c
  unfold F_X10_isEvent
  rw [chk_eq h.ok, h.wd, bind_some', l_2, h.raw (by omega), bind_some', k.2.1.c (by omega), show (1 : Int32) = nI 1 from rfl, isIn_inR x (by omega), bind_some', l_0, ifz]
theorem R_areTwoM (h : RM s a M) (k : RK M A) (i : Iv A.1) (x y : Int32) : F_X10_areTwo s a x y = some (nI (b2 (two A.1 x y))) := by
  unfold F_X10_areTwo two
  rw [chk_eq h.ok, R_isSiteM h k i, bind_some', R_isSiteM h k i, bind_some', ifb0, ifb0]
  cases inR x (wC A.1 0) <;> cases inR y (wC A.1 0) <;> by_cases hxy : x = y <;> simp [hxy, b2] <;> rfl
theorem R_waitsM (h : RM s a M) (k : RK M A) {f o : Nat} (hf : f < 5) (ho : o < 5) : F_X10_waits s a (nI f) (nI o) = some (nI (wT A.1 (5 * f + o)).length) := by
  unfold F_X10_waits
  rw [chk_eq h.ok, h.wd, bind_some', R_couple, bind_some', l_5153, nI_add, h.raw (by omega), bind_some', k.2.1.t (by omega)]
theorem R_steps (h : RM s a M) (k : RK M A) (h0 : M.1 0 = 0) (i : Iv A.1) : ∃ t M', F_X10_steps s a = some t ∧ RB t a M' (stp A.1, A.2) ∧ Eo a s t := by
  obtain ⟨s1, e1, h1, E1⟩ := h.b0 0
  have b1 : RB s1 a (uS M 3 0) A := ⟨h1, k.b0 (Nat.zero_le _), rfl, h0⟩
  obtain ⟨s2, e2, t2⟩ := b1.rt.wraw b1.b (j := 6) (v := wC A.1 6 + 1) (by omega)
  obtain ⟨b3, E3⟩ := b1.op Mz.rf t2 (RW_num b1.rw i (k := 6) (v := wC A.1 6 + 1) (by omega) (by omega)) (Iv_stp i)
  refine ⟨s2, _, ?_, b3, E1.tr E3⟩
  unfold F_X10_steps
  rw [chk_eq h.ok, l_0, e1, bind_some', h1.wd, bind_some', l_6, b1.rt.raw b1.b (by omega), bind_some', b1.rw.c (by omega), nI_add1, e2, bind_some']
theorem uN_0 {j v k : Nat} (hk : k ≠ 2) : (uN M 2 j v).2.2 k = M.2.2 k := by
  show upA M.2.2 2 _ k = _
  unfold upA
  rw [if_neg hk]
theorem uN_2 {j v : Nat} : (uN M 2 j v).2.2 2 = upN (M.2.2 2) j v := uN_at
theorem R_notes (h : RB s a M A) (hl : A.2.2.1.length < 2 ^ 31 - 1) (k x v : Nat) : ∃ t M', F_X10_notes s a (nI k) (nI x) (nI v) = some (nI v, t) ∧ RB t a M' (dne A A.1 k x v) ∧ Eo a s t := by
  obtain ⟨n1, n2⟩ := h.2.1.2.2.2.1
  have hr : A.2.2.1.length % 32 < 32 := Nat.mod_lt _ (by decide)
  obtain ⟨s1, e1, h1, E1⟩ := h.1.iast (k := 2) (j := 4 * (A.2.2.1.length % 32)) (v := wC A.1 6) (by omega) rfl (show _ < 128 by omega)
  obtain ⟨s2, e2, h2, E2⟩ := h1.iast (k := 2) (j := 4 * (A.2.2.1.length % 32) + 1) (v := k) (by omega) rfl (show _ < 128 by omega)
  obtain ⟨s3, e3, h3, E3⟩ := h2.iast (k := 2) (j := 4 * (A.2.2.1.length % 32) + 2) (v := x) (by omega) rfl (show _ < 128 by omega)
  obtain ⟨s4, e4, h4, E4⟩ := h3.iast (k := 2) (j := 4 * (A.2.2.1.length % 32) + 3) (v := v) (by omega) rfl (show _ < 128 by omega)
  obtain ⟨s5, e5, h5, E5⟩ := h4.setS (k := 5) (v := A.2.2.1.length + 1) rfl (by omega)
  have q0 : ∀ j, j ≠ 2 → (uS (uN (uN (uN (uN M 2 (4 * (A.2.2.1.length % 32)) (wC A.1 6)) 2 (4 * (A.2.2.1.length % 32) + 1) k) 2 (4 * (A.2.2.1.length % 32) + 2) x) 2 (4 * (A.2.2.1.length % 32) + 3) v) 5 (A.2.2.1.length + 1)).2.2 j = M.2.2 j := fun j hj => by
    show (uN (uN (uN (uN M 2 _ _) 2 _ _) 2 _ _) 2 _ _).2.2 j = _
    rw [uN_0 hj, uN_0 hj, uN_0 hj, uN_0 hj]
  have q2 : (uS (uN (uN (uN (uN M 2 (4 * (A.2.2.1.length % 32)) (wC A.1 6)) 2 (4 * (A.2.2.1.length % 32) + 1) k) 2 (4 * (A.2.2.1.length % 32) + 2) x) 2 (4 * (A.2.2.1.length % 32) + 3) v) 5 (A.2.2.1.length + 1)).2.2 2 = upN (upN (upN (upN (M.2.2 2) (4 * (A.2.2.1.length % 32)) (wC A.1 6)) (4 * (A.2.2.1.length % 32) + 1) k) (4 * (A.2.2.1.length % 32) + 2) x) (4 * (A.2.2.1.length % 32) + 3) v := by
    show (uN (uN (uN (uN M 2 _ _) 2 _ _) 2 _ _) 2 _ _).2.2 2 = _
    rw [uN_2, uN_2, uN_2, uN_2]
  have g5 : gI s a 10 5 = some (nI A.2.2.1.length) := by rw [h.rt.i5, n1]
  have g5' : gI s4 a 10 5 = some (nI A.2.2.1.length) := by
    have : gI s4 a 10 5 = some (nI (M.1 5)) := gI_cel h4.1 rfl
    rw [this, n1]
  have hg : ∀ {u : Sto} {N : Ms}, RM u a N → gR u a 10 4 = some (a + 1 + 2) := fun hu => gR_cel hu.1 rfl
  refine ⟨s5, _, ?_, ⟨h5, ⟨h.2.1.1, by rw [q0 0 (by decide)]; exact h.2.1.2.1, fun q hq => ⟨by rw [q0 1 (by decide)]; exact (h.2.1.2.2.1 q hq).1, fun u hu => by rw [q0 0 (by decide)]; exact (h.2.1.2.2.1 q hq).2 u hu⟩, ⟨rfl, fun j t hj ht q hq => ?_⟩, h.2.1.2.2.2.2⟩, h.2.2.1, h.2.2.2⟩, (((E1.tr E2).tr E3).tr E4).tr E5⟩
  · unfold F_X10_notes
    rw [chk_eq h.ok, g5, bind_some', hg h.1, bind_some', h.1.wd, bind_some', l_6, h.1.raw (by omega), bind_some', h.rw.c (by omega), l_32, pk_rem (by omega) (by omega) (by omega), l_4, pk_mul, e1, bind_some', hg h1, bind_some', l_1, nI_add, e2, bind_some', hg h2, bind_some', l_2, nI_add, e3, bind_some', hg h3, bind_some', l_3, nI_add, e4, bind_some', g5', bind_some', nI_add, e5, bind_some']
  · rw [q2]
    cases j with
    | zero =>
      have ht' : t = (wC A.1 6, k, x, v) := by
        have : some (wC A.1 6, k, x, v) = some t := ht
        cases this
        rfl
      rw [ht']
      show upN _ _ v (4 * ((A.2.2.1.length + 1 - 1 - 0) % 32) + q) = _
      rw [show A.2.2.1.length + 1 - 1 - 0 = A.2.2.1.length by omega]
      rcases (show q = 0 ∨ q = 1 ∨ q = 2 ∨ q = 3 by omega) with rfl | rfl | rfl | rfl
      · rw [upN_n (by omega), upN_n (by omega), upN_n (by omega)]; exact upN_s
      · rw [upN_n (by omega), upN_n (by omega), upN_s]; rfl
      · rw [upN_n (by omega), upN_s]; rfl
      · rw [upN_s]; rfl
    | succ j =>
      have ht' : A.2.2.1[j]? = some t := ht
      have hjl := (List.getElem?_eq_some_iff.mp ht').1
      show upN _ _ v (4 * ((A.2.2.1.length + 1 - 1 - (j + 1)) % 32) + q) = _
      rw [show A.2.2.1.length + 1 - 1 - (j + 1) = A.2.2.1.length - 1 - j by omega, upN_n (by omega), upN_n (by omega), upN_n (by omega), upN_n (by omega)]
      exact n2 j t (by omega) ht' q hq
end RFJ
