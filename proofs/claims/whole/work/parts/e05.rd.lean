/-! ===== PURE 7: the reference's readers, on ===== -/
theorem ifT (b : Bool) : (if b = true then some (nI 1) else some (nI 0)) = some (nI (b2 b)) := by cases b <;> rfl
theorem if2 {α : Type} (b : Bool) (f : Int32 → α) : (if b = true then f (nI 1) else f (nI 0)) = f (nI (b2 b)) := by cases b <;> rfl
theorem if2' {α : Type} (b : Bool) (f : Int32 → α) : (if b = true then f (nI 0) else f (nI 1)) = f (nI (b2 (!b))) := by cases b <;> rfl
theorem if01 {α : Type} (b c : Bool) (f : Int32 → α) : (if b = true then (if c = true then f (nI 1) else f (nI 0)) else f (nI 0)) = f (nI (b2 (b && c))) := by cases b <;> cases c <;> rfl
/-- an index -/
def inR (x : Int32) (n : Nat) : Bool := decide (0 ≤ x ∧ x < nI n)
theorem inR_ex {x : Int32} {n : Nat} (hn : n < 2 ^ 30) (h : inR x n = true) : ∃ j, j < n ∧ x = nI j := by
  have h1 := of_decide_eq_true h
  obtain ⟨j, h2, h3⟩ := nI_of (x := x) (by rw [Int32.not_lt]; exact h1.1)
  subst h3
  exact ⟨j, (nI_ltI h2 (by omega)).mp h1.2, rfl⟩
theorem inR_nI {j n : Nat} (hj : j < 2 ^ 30) (hn : n < 2 ^ 30) : inR (nI j) n = decide (j < n) := by
  unfold inR
  refine decide_eq_decide.mpr ⟨fun h => (nI_ltI (by omega) (by omega)).mp h.2, fun h => ⟨?_, (nI_ltI (by omega) (by omega)).mpr h⟩⟩
  exact nI_pos' (by omega)
theorem isIn_inR (x : Int32) {n : Nat} (hn : n < 2 ^ 30) : F_X10_isIn x.toInt64 (0 : Int64) (nI n - nI 1).toInt64 = some (nI (b2 (inR x n))) := by
  have h := R_isIn x 0 (nI n - nI 1)
  rw [show (0 : Int32).toInt64 = 0 from rfl] at h
  rw [h]
  unfold inR
  congr 3
  refine decide_eq_decide.mpr (and_congr_right fun _ => ?_)
  rw [Int32.le_iff_toInt_le, Int32.lt_iff_toInt_lt, pk_sub_toInt hn (by omega), nI_toInt (by omega)]
  omega
section RD
variable {a : Nat} {σ s : Sto} {M : Ms} {W : Nat → Nat} {w : Wd}
theorem R_isSite (h : RT a σ M W s) (r : RW W w) (i : Jv w) (hb : M.1 3 = 0) (x : Int32) : F_X10_isSite s a x = some (nI (b2 (inR x (wC w 0)))) := by
  have h1 := i.n5
  unfold F_X10_isSite
  rw [chk_eq h.ok]
  simp (disch := omega) only [l_0, l_1, l_2, l_3, l_4, l_5, l_6, l_7, l_8, l_9, l_10, l_12, l_25, l_29, l_33, l_34, l_120, l_122, l_147, l_154, l_274, l_394, l_395, l_789, l_3953, l_5153, l_5178, l_49278, l_49279, l_49280, bind_some', jn_eq, nI_add, pk_mul, nI_leI, nI_ltI, nI_eq, ifb, ifz, R_flag0, R_flag1, R_flag, h.w, h.raw hb, r.c, isIn_inR]
theorem R_isEvent (h : RT a σ M W s) (r : RW W w) (i : Jv w) (hb : M.1 3 = 0) (x : Int32) : F_X10_isEvent s a x = some (nI (b2 (inR x (wC w 2)))) := by
  have h1 := i.c
  unfold F_X10_isEvent
  rw [chk_eq h.ok]
  simp (disch := omega) only [l_0, l_1, l_2, l_3, l_4, l_5, l_6, l_7, l_8, l_9, l_10, l_12, l_25, l_29, l_33, l_34, l_120, l_122, l_147, l_154, l_274, l_394, l_395, l_789, l_3953, l_5153, l_5178, l_49278, l_49279, l_49280, bind_some', jn_eq, nI_add, pk_mul, nI_leI, nI_ltI, nI_eq, ifb, ifz, R_flag0, R_flag1, R_flag, h.w, h.raw hb, r.c, isIn_inR]
def two (w : Wd) (x y : Int32) : Bool := inR x (wC w 0) && (inR y (wC w 0) && !decide (x = y))
theorem R_areTwo (h : RT a σ M W s) (r : RW W w) (i : Jv w) (hb : M.1 3 = 0) (x y : Int32) : F_X10_areTwo s a x y = some (nI (b2 (two w x y))) := by
  unfold F_X10_areTwo two
  rw [chk_eq h.ok]
  simp (disch := omega) only [l_0, l_1, l_2, l_3, l_4, l_5, l_6, l_7, l_8, l_9, l_10, l_12, l_25, l_29, l_33, l_34, l_120, l_122, l_147, l_154, l_274, l_394, l_395, l_789, l_3953, l_5153, l_5178, l_49278, l_49279, l_49280, bind_some', jn_eq, nI_add, pk_mul, nI_leI, nI_ltI, nI_eq, ifb, ifz, R_flag0, R_flag1, R_flag, R_isSite h r i hb]
  cases inR x (wC w 0) <;> cases inR y (wC w 0) <;> by_cases hxy : x = y <;> simp [hxy, b2]
theorem R_bitsOf (h : RT a σ M W s) (r : RW W w) (i : Jv w) {o : Nat} {p : Nat → Bool} (hp : ∀ e, e < 128 → rb W o e = p e) (ho : o + 4 < 49425) : F_X10_bitsOf s a (nI o) = some (nI (fb_ct p (wC w 2))) := by
  have h1 := i.c
  unfold F_X10_bitsOf
  rw [chk_eq h.ok]
  refine lup (fun f j => F_X10_bitsOf_L4 s a (nI o) f (nI (fb_ct (p) j)) (nI j) (fun x => some x)) (wC w 2) (some (nI (fb_ct (p) (wC w 2)))) ?_ ?_ fu (by unfold fu; omega)
  · intro j f hj
    rw [F_X10_bitsOf_L4]
    simp (disch := omega) only [l_0, l_1, l_2, l_3, l_4, l_5, l_6, l_7, l_8, l_9, l_10, l_12, l_25, l_29, l_33, l_34, l_120, l_122, l_147, l_154, l_274, l_394, l_395, l_789, l_3953, l_5153, l_5178, l_49278, l_49279, l_49280, bind_some', jn_eq, nI_add, pk_mul, nI_leI, nI_ltI, nI_eq, ifb, ifz, R_flag0, R_flag1, R_flag, R_of h, r.c, R_isOf h, hp, R_flag, if_neg]
    rfl
  · intro f
    rw [F_X10_bitsOf_L4]
    simp (disch := omega) only [l_0, l_1, l_2, l_3, l_4, l_5, l_6, l_7, l_8, l_9, l_10, l_12, l_25, l_29, l_33, l_34, l_120, l_122, l_147, l_154, l_274, l_394, l_395, l_789, l_3953, l_5153, l_5178, l_49278, l_49279, l_49280, bind_some', jn_eq, nI_add, pk_mul, nI_leI, nI_ltI, nI_eq, ifb, ifz, R_flag0, R_flag1, R_flag, R_of h, r.c, R_isOf h, hp, R_flag, if_pos (Nat.le_refl _)]
theorem R_hasMany (h : RT a σ M W s) (r : RW W w) (i : Jv w) {x : Nat} (hx : x < 5) : F_X10_hasMany s a (nI x) = some (nI (fb_ct (sHs (wL w x)) (wC w 2))) := by
  unfold F_X10_hasMany
  rw [chk_eq h.ok]
  simp (disch := omega) only [l_0, l_1, l_2, l_3, l_4, l_5, l_6, l_7, l_8, l_9, l_10, l_12, l_25, l_29, l_33, l_34, l_120, l_122, l_147, l_154, l_274, l_394, l_395, l_789, l_3953, l_5153, l_5178, l_49278, l_49279, l_49280, bind_some', jn_eq, nI_add, pk_mul, nI_leI, nI_ltI, nI_eq, ifb, ifz, R_flag0, R_flag1, R_flag, R_stateOf, R_bitsOf h r i (fun e he => r.hs hx he)]
theorem R_isAhead (h : RT a σ M W s) (r : RW W w) (i : Jv w) {e f : Nat} (he : e < 128) (hf : f < wC w 2) : F_X10_isAhead s a (nI e) (nI f) = some (nI (b2 (eA (wE w) f e))) := by
  have h1 := i.c
  unfold F_X10_isAhead
  rw [chk_eq h.ok]
  simp (disch := omega) only [l_0, l_1, l_2, l_3, l_4, l_5, l_6, l_7, l_8, l_9, l_10, l_12, l_25, l_29, l_33, l_34, l_120, l_122, l_147, l_154, l_274, l_394, l_395, l_789, l_3953, l_5153, l_5178, l_49278, l_49279, l_49280, bind_some', jn_eq, nI_add, pk_mul, nI_leI, nI_ltI, nI_eq, ifb, ifz, R_flag0, R_flag1, R_flag, R_eventOf, R_isOf h, (r.e hf).2.2.2.2.2.2]
theorem R_isLogged (h : RT a σ M W s) (r : RW W w) (i : Jv w) {x e : Nat} (hx : x < 5) (he : e < 2 ^ 31) : F_X10_isLogged s a (nI x) (nI e) = some (nI (b2 ((sLg (wL w x)).contains e))) := by
  have h1 := i.c
  have h2 := (i.L hx).lg
  unfold F_X10_isLogged
  rw [chk_eq h.ok]
  simp (disch := omega) only [l_0, l_1, l_2, l_3, l_4, l_5, l_6, l_7, l_8, l_9, l_10, l_12, l_25, l_29, l_33, l_34, l_120, l_122, l_147, l_154, l_274, l_394, l_395, l_789, l_3953, l_5153, l_5178, l_49278, l_49279, l_49280, bind_some', jn_eq, nI_add, pk_mul, nI_leI, nI_ltI, nI_eq, ifb, ifz, R_flag0, R_flag1, R_flag, R_stateOf]
  refine (lex (fun f k => F_X10_isLogged_L8 s a (nI e) (nI (9 + 789 * x)) f (nI k) (some (nI 0))) (fun k => (sLg (wL w x))[k]? == some e) (sLg (wL w x)).length (some (nI 0)) (some (nI 1)) ?_ ?_ fu (by unfold fu; omega)).trans ?_
  · intro k f hk
    rw [F_X10_isLogged_L8]
    have h3 := (i.L hx).lm (List.getElem_mem hk)
    simp (disch := omega) only [l_0, l_1, l_2, l_3, l_4, l_5, l_6, l_7, l_8, l_9, l_10, l_12, l_25, l_29, l_33, l_34, l_120, l_122, l_147, l_154, l_274, l_394, l_395, l_789, l_3953, l_5153, l_5178, l_49278, l_49279, l_49280, bind_some', jn_eq, nI_add, pk_mul, nI_leI, nI_ltI, nI_eq, ifb, ifz, R_flag0, R_flag1, R_flag, R_of h, r.ln hx, r.lg hx hk, if_neg]
    rw [List.getElem?_eq_getElem hk]
    by_cases h4 : (sLg (wL w x))[k] = e
    · simp [h4]
    · simp [h4]
  · intro f
    rw [F_X10_isLogged_L8]
    simp (disch := omega) only [l_0, l_1, l_2, l_3, l_4, l_5, l_6, l_7, l_8, l_9, l_10, l_12, l_25, l_29, l_33, l_34, l_120, l_122, l_147, l_154, l_274, l_394, l_395, l_789, l_3953, l_5153, l_5178, l_49278, l_49279, l_49280, bind_some', jn_eq, nI_add, pk_mul, nI_leI, nI_ltI, nI_eq, ifb, ifz, R_flag0, R_flag1, R_flag, R_of h, r.ln hx, if_pos (Nat.le_refl _)]
  · rw [ifT]
    congr 3
    rw [Bool.eq_iff_iff, ex_iff, List.contains_iff_mem, List.mem_iff_getElem?]
    constructor
    · rintro ⟨k, _, h4⟩; exact ⟨k, by simpa using h4⟩
    · rintro ⟨k, h4⟩; exact ⟨k, (List.getElem?_eq_some_iff.mp h4).1, by simp [h4]⟩
theorem R_allHave (h : RT a σ M W s) (r : RW W w) (i : Jv w) {e : Nat} (he : e < 128) : F_X10_allHave s a (nI e) = some (nI (b2 (al (fun x => sHs (wL w x) e) (wC w 0)))) := by
  have h1 := i.n5
  unfold F_X10_allHave
  rw [chk_eq h.ok]
  refine (lall (fun f x => F_X10_allHave_L2 s a (nI e) f (nI x) (some (nI 1))) (fun x => sHs (wL w x) e) (wC w 0) (some (nI 0)) (some (nI 1)) ?_ ?_ fu (by unfold fu; omega)).trans (ifT _)
  · intro x f hx
    rw [F_X10_allHave_L2]
    simp (disch := omega) only [l_0, l_1, l_2, l_3, l_4, l_5, l_6, l_7, l_8, l_9, l_10, l_12, l_25, l_29, l_33, l_34, l_120, l_122, l_147, l_154, l_274, l_394, l_395, l_789, l_3953, l_5153, l_5178, l_49278, l_49279, l_49280, bind_some', jn_eq, nI_add, pk_mul, nI_leI, nI_ltI, nI_eq, ifb, ifz, R_flag0, R_flag1, R_flag, R_of h, r.c, R_doesHave0 h r (show x < 5 by omega) he, if_neg]
    cases sHs (wL w x) e <;> rfl
  · intro f
    rw [F_X10_allHave_L2]
    simp (disch := omega) only [l_0, l_1, l_2, l_3, l_4, l_5, l_6, l_7, l_8, l_9, l_10, l_12, l_25, l_29, l_33, l_34, l_120, l_122, l_147, l_154, l_274, l_394, l_395, l_789, l_3953, l_5153, l_5178, l_49278, l_49279, l_49280, bind_some', jn_eq, nI_add, pk_mul, nI_leI, nI_ltI, nI_eq, ifb, ifz, R_flag0, R_flag1, R_flag, R_of h, r.c, if_pos (Nat.le_refl _)]
theorem R_commonOf (h : RT a σ M W s) (r : RW W w) (i : Jv w) {x : Nat} (hx : x < 5) (b : Bool) : F_X10_commonOf s a (nI x) (nI (b2 b)) = some (nI (fb_ct (fun e => al (fun y => sHs (wL w y) e) (wC w 0) && (!b || (sLg (wL w x)).contains e)) (wC w 2))) := by
  have h1 := i.c
  unfold F_X10_commonOf
  rw [chk_eq h.ok]
  refine lup (fun f e => F_X10_commonOf_L5 s a (nI x) (nI (b2 b)) f (nI (fb_ct (fun e => al (fun y => sHs (wL w y) e) (wC w 0) && (!b || (sLg (wL w x)).contains e)) e)) (nI e) (fun x => some x)) (wC w 2) _ ?_ ?_ fu (by unfold fu; omega)
  · intro e f he
    rw [F_X10_commonOf_L5]
    simp (disch := omega) only [l_0, l_1, l_2, l_3, l_4, l_5, l_6, l_7, l_8, l_9, l_10, l_12, l_25, l_29, l_33, l_34, l_120, l_122, l_147, l_154, l_274, l_394, l_395, l_789, l_3953, l_5153, l_5178, l_49278, l_49279, l_49280, bind_some', jn_eq, nI_add, pk_mul, nI_leI, nI_ltI, nI_eq, ifb, ifz, R_flag0, R_flag1, R_flag, R_of h, r.c, R_allHave h r i, if_neg, R_isLogged h r i hx]
    rw [fb_ct_succ]
    cases al (fun y => sHs (wL w y) e) (wC w 0) <;> cases b <;> cases (sLg (wL w x)).contains e <;> rfl
  · intro f
    rw [F_X10_commonOf_L5]
    simp (disch := omega) only [l_0, l_1, l_2, l_3, l_4, l_5, l_6, l_7, l_8, l_9, l_10, l_12, l_25, l_29, l_33, l_34, l_120, l_122, l_147, l_154, l_274, l_394, l_395, l_789, l_3953, l_5153, l_5178, l_49278, l_49279, l_49280, bind_some', jn_eq, nI_add, pk_mul, nI_leI, nI_ltI, nI_eq, ifb, ifz, R_flag0, R_flag1, R_flag, R_of h, r.c, if_pos (Nat.le_refl _)]
theorem R_isOnly (h : RT a σ M W s) (r : RW W w) {x y e : Nat} (hx : x < 5) (hy : y < 5) (he : e < 128) : F_X10_isOnly s a (nI x) (nI y) (nI e) = some (nI (b2 (sVw (wL w x) e && !sVw (wL w y) e))) := by
  unfold F_X10_isOnly
  rw [chk_eq h.ok]
  simp (disch := omega) only [l_0, l_1, l_2, l_3, l_4, l_5, l_6, l_7, l_8, l_9, l_10, l_12, l_25, l_29, l_33, l_34, l_120, l_122, l_147, l_154, l_274, l_394, l_395, l_789, l_3953, l_5153, l_5178, l_49278, l_49279, l_49280, bind_some', jn_eq, nI_add, pk_mul, nI_leI, nI_ltI, nI_eq, ifb, ifz, R_flag0, R_flag1, R_flag, R_stateOf, R_isOf h, r.vw hx, r.vw hy]
  cases sVw (wL w x) e <;> cases sVw (wL w y) e <;> rfl
def conc (w : Wd) (e f : Nat) : Bool := !(e == f) && (!eA (wE w) f e && !eA (wE w) e f)
theorem R_isConcurrent (h : RT a σ M W s) (r : RW W w) (i : Jv w) {e f : Nat} (he : e < wC w 2) (hf : f < wC w 2) : F_X10_isConcurrent s a (nI e) (nI f) = some (nI (b2 (conc w e f))) := by
  have h1 := i.c
  unfold F_X10_isConcurrent conc
  rw [chk_eq h.ok]
  simp (disch := omega) only [l_0, l_1, l_2, l_3, l_4, l_5, l_6, l_7, l_8, l_9, l_10, l_12, l_25, l_29, l_33, l_34, l_120, l_122, l_147, l_154, l_274, l_394, l_395, l_789, l_3953, l_5153, l_5178, l_49278, l_49279, l_49280, bind_some', jn_eq, nI_add, pk_mul, nI_leI, nI_ltI, nI_eq, ifb, ifz, R_flag0, R_flag1, R_flag, R_isAhead h r i]
  by_cases hef : e = f
  · simp [hef, b2]
  · rw [if_neg hef]
    cases eA (wE w) f e <;> cases eA (wE w) e f <;> simp [hef, b2]
theorem R_concurrentOf (h : RT a σ M W s) (r : RW W w) (i : Jv w) (hb : M.1 3 = 0) {e : Nat} (he : e < wC w 2) : F_X10_concurrentOf s a (nI e) = some (nI (fb_ct (conc w e) (wC w 2))) := by
  have h1 := i.c
  unfold F_X10_concurrentOf
  rw [chk_eq h.ok]
  refine lup (fun f j => F_X10_concurrentOf_L4 s a (nI e) f (nI (fb_ct (conc w e) j)) (nI j) (fun x => some x)) (wC w 2) (some (nI (fb_ct (conc w e) (wC w 2)))) ?_ ?_ fu (by unfold fu; omega)
  · intro j f hj
    rw [F_X10_concurrentOf_L4]
    simp (disch := omega) only [l_0, l_1, l_2, l_3, l_4, l_5, l_6, l_7, l_8, l_9, l_10, l_12, l_25, l_29, l_33, l_34, l_120, l_122, l_147, l_154, l_274, l_394, l_395, l_789, l_3953, l_5153, l_5178, l_49278, l_49279, l_49280, bind_some', jn_eq, nI_add, pk_mul, nI_leI, nI_ltI, nI_eq, ifb, ifz, R_flag0, R_flag1, R_flag, h.w, h.raw hb, r.c, R_isConcurrent h r i he, R_flag, if_neg]
    rfl
  · intro f
    rw [F_X10_concurrentOf_L4]
    simp (disch := omega) only [l_0, l_1, l_2, l_3, l_4, l_5, l_6, l_7, l_8, l_9, l_10, l_12, l_25, l_29, l_33, l_34, l_120, l_122, l_147, l_154, l_274, l_394, l_395, l_789, l_3953, l_5153, l_5178, l_49278, l_49279, l_49280, bind_some', jn_eq, nI_add, pk_mul, nI_leI, nI_ltI, nI_eq, ifb, ifz, R_flag0, R_flag1, R_flag, h.w, h.raw hb, r.c, R_isConcurrent h r i he, R_flag, if_pos (Nat.le_refl _)]
theorem R_knownTo (h : RT a σ M W s) (r : RW W w) (i : Jv w) (hb : M.1 3 = 0) {x e : Nat} (hx : x < 5) (he : e < wC w 2) : F_X10_knownTo s a (nI x) (nI e) = some (nI (fb_ct (fun o => knw (wE w) (wL w x) o e) (wC w 0))) := by
  have h1 := i.n5
  unfold F_X10_knownTo
  rw [chk_eq h.ok]
  refine lup (fun f o => F_X10_knownTo_L5 s a (nI x) (nI e) f (nI (fb_ct (fun o => knw (wE w) (wL w x) o e) o)) (nI o) (fun x => some x)) (wC w 0) _ ?_ ?_ fu (by unfold fu; omega)
  · intro o f ho
    rw [F_X10_knownTo_L5]
    simp (disch := omega) only [l_0, l_1, l_2, l_3, l_4, l_5, l_6, l_7, l_8, l_9, l_10, l_12, l_25, l_29, l_33, l_34, l_120, l_122, l_147, l_154, l_274, l_394, l_395, l_789, l_3953, l_5153, l_5178, l_49278, l_49279, l_49280, bind_some', jn_eq, nI_add, pk_mul, nI_leI, nI_ltI, nI_eq, ifb, ifz, R_flag0, R_flag1, R_flag, h.w, h.raw hb, r.c, R_isKnown h r i hx (show o < 5 by omega) he, R_flag, if_neg]
    rfl
  · intro f
    rw [F_X10_knownTo_L5]
    simp (disch := omega) only [l_0, l_1, l_2, l_3, l_4, l_5, l_6, l_7, l_8, l_9, l_10, l_12, l_25, l_29, l_33, l_34, l_120, l_122, l_147, l_154, l_274, l_394, l_395, l_789, l_3953, l_5153, l_5178, l_49278, l_49279, l_49280, bind_some', jn_eq, nI_add, pk_mul, nI_leI, nI_ltI, nI_eq, ifb, ifz, R_flag0, R_flag1, R_flag, h.w, h.raw hb, r.c, if_pos (Nat.le_refl _)]
theorem R_isFront (h : RT a σ M W s) (r : RW W w) (i : Jv w) (hb : M.1 3 = 0) {x e : Nat} (hx : x < 5) (he : e < wC w 2) : F_X10_isFront s a (nI x) (nI e) = some (nI (b2 (sHs (wL w x) e && !ex (fun f => sHs (wL w x) f && eA (wE w) f e) (wC w 2)))) := by
  have h1 := i.c
  unfold F_X10_isFront
  rw [chk_eq h.ok]
  simp (disch := omega) only [l_0, l_1, l_2, l_3, l_4, l_5, l_6, l_7, l_8, l_9, l_10, l_12, l_25, l_29, l_33, l_34, l_120, l_122, l_147, l_154, l_274, l_394, l_395, l_789, l_3953, l_5153, l_5178, l_49278, l_49279, l_49280, bind_some', jn_eq, nI_add, pk_mul, nI_leI, nI_ltI, nI_eq, ifb, ifz, R_flag0, R_flag1, R_flag, R_doesHave0 h r hx]
  cases sHs (wL w x) e with
  | false => rfl
  | true =>
    simp only [Bool.not_true, Bool.true_and, Bool.false_eq_true, if_false]
    refine (lex (fun f k => F_X10_isFront_L14 s a (nI x) (nI e) f (nI k) (some (nI 1))) (fun f => sHs (wL w x) f && eA (wE w) f e) (wC w 2) (some (nI 1)) (some (nI 0)) ?_ ?_ fu (by unfold fu; omega)).trans ?_
    · intro k f hk
      rw [F_X10_isFront_L14]
      simp (disch := omega) only [l_0, l_1, l_2, l_3, l_4, l_5, l_6, l_7, l_8, l_9, l_10, l_12, l_25, l_29, l_33, l_34, l_120, l_122, l_147, l_154, l_274, l_394, l_395, l_789, l_3953, l_5153, l_5178, l_49278, l_49279, l_49280, bind_some', jn_eq, nI_add, pk_mul, nI_leI, nI_ltI, nI_eq, ifb, ifz, R_flag0, R_flag1, R_flag, h.w, h.raw hb, r.c, R_doesHave1 h r hx, R_isAhead h r i, if_neg]
      cases sHs (wL w x) k <;> cases eA (wE w) k e <;> rfl
    · intro f
      rw [F_X10_isFront_L14]
      simp (disch := omega) only [l_0, l_1, l_2, l_3, l_4, l_5, l_6, l_7, l_8, l_9, l_10, l_12, l_25, l_29, l_33, l_34, l_120, l_122, l_147, l_154, l_274, l_394, l_395, l_789, l_3953, l_5153, l_5178, l_49278, l_49279, l_49280, bind_some', jn_eq, nI_add, pk_mul, nI_leI, nI_ltI, nI_eq, ifb, ifz, R_flag0, R_flag1, R_flag, h.w, h.raw hb, r.c, if_pos (Nat.le_refl _)]
    · cases ex (fun f => sHs (wL w x) f && eA (wE w) f e) (wC w 2) <;> rfl
/-- a table's cell says more than is so -/
def ovr (w : Wd) (x y z : Nat) : Bool := ex (fun e => decide (eS (wE w) e = z) && (decide (eT (wE w) e ≤ sTb (wL w x) (5 * y + z)) && !sHs (wL w y) e)) (wC w 2)
theorem R_isOverstated (h : RT a σ M W s) (r : RW W w) (i : Jv w) {x y z : Nat} (hx : x < 5) (hy : y < 5) (hz : z < 5) : F_X10_isOverstated s a (nI x) (nI y) (nI z) = some (nI (b2 (ovr w x y z))) := by
  have h1 := i.c
  have h2 := (i.L hx).tb (i := 5 * y + z) (by omega)
  unfold F_X10_isOverstated
  rw [chk_eq h.ok]
  simp (disch := omega) only [l_0, l_1, l_2, l_3, l_4, l_5, l_6, l_7, l_8, l_9, l_10, l_12, l_25, l_29, l_33, l_34, l_120, l_122, l_147, l_154, l_274, l_394, l_395, l_789, l_3953, l_5153, l_5178, l_49278, l_49279, l_49280, bind_some', jn_eq, nI_add, pk_mul, nI_leI, nI_ltI, nI_eq, ifb, ifz, R_flag0, R_flag1, R_flag, R_cellOf, R_of h, Nat.add_assoc (9 + 789 * x) (5 * y), r.tb hx]
  refine (lex (fun f k => F_X10_isOverstated_L15 s a (nI y) (nI z) (nI (sTb (wL w x) (5 * y + z))) f (nI k) (some (nI 0))) (fun e => decide (eS (wE w) e = z) && (decide (eT (wE w) e ≤ sTb (wL w x) (5 * y + z)) && !sHs (wL w y) e)) (wC w 2) (some (nI 0)) (some (nI 1)) ?_ ?_ fu (by unfold fu; omega)).trans (ifT _)
  · intro k f hk
    have h3 := i.eT hk
    have h4 := i.eS5 hk
    rw [F_X10_isOverstated_L15]
    simp (disch := omega) only [l_0, l_1, l_2, l_3, l_4, l_5, l_6, l_7, l_8, l_9, l_10, l_12, l_25, l_29, l_33, l_34, l_120, l_122, l_147, l_154, l_274, l_394, l_395, l_789, l_3953, l_5153, l_5178, l_49278, l_49279, l_49280, bind_some', jn_eq, nI_add, pk_mul, nI_leI, nI_ltI, nI_eq, ifb, ifz, R_flag0, R_flag1, R_flag, R_of h, r.c, R_siteOf h r i hk, R_timeOf h r i hk, R_doesHave0 h r hy, if_neg]
    by_cases h5 : eS (wE w) k = z
    · rw [if_pos h5]
      by_cases h6 : sTb (wL w x) (5 * y + z) < eT (wE w) k
      · rw [if_pos h6]; simp [h5, Nat.not_le.mpr h6]
      · rw [if_neg h6]
        cases sHs (wL w y) k <;> simp [h5, Nat.not_lt.mp h6]
    · rw [if_neg h5]; simp [h5]
  · intro f
    rw [F_X10_isOverstated_L15]
    simp (disch := omega) only [l_0, l_1, l_2, l_3, l_4, l_5, l_6, l_7, l_8, l_9, l_10, l_12, l_25, l_29, l_33, l_34, l_120, l_122, l_147, l_154, l_274, l_394, l_395, l_789, l_3953, l_5153, l_5178, l_49278, l_49279, l_49280, bind_some', jn_eq, nI_add, pk_mul, nI_leI, nI_ltI, nI_eq, ifb, ifz, R_flag0, R_flag1, R_flag, R_of h, r.c, if_pos (Nat.le_refl _)]
end RD
