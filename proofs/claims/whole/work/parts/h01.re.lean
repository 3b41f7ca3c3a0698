/-! ===== PURE 71: the reference's publics: events ===== -/
def cd1 (x : String) : String → Nat := fun e => if e = x then 1 else 0
def cd2 (x y : String) : String → Nat := fun e => if e = x then 1 else if e = y then 2 else 0
def cd3 (x y z : String) : String → Nat := fun e => if e = x then 1 else if e = y then 2 else if e = z then 3 else 0
theorem cd1_1 {x : String} : (1 : Int32) = nI (cd1 x x) := by unfold cd1; rw [if_pos rfl]; rfl
theorem cd2_1 {x y : String} : (1 : Int32) = nI (cd2 x y x) := by unfold cd2; rw [if_pos rfl]; rfl
theorem cd2_2 {x y : String} (h : y ≠ x) : (2 : Int32) = nI (cd2 x y y) := by unfold cd2; rw [if_neg h, if_pos rfl]; rfl
theorem cd3_1 {x y z : String} : (1 : Int32) = nI (cd3 x y z x) := by unfold cd3; rw [if_pos rfl]; rfl
theorem cd3_2 {x y z : String} (h : y ≠ x) : (2 : Int32) = nI (cd3 x y z y) := by unfold cd3; rw [if_neg h, if_pos rfl]; rfl
theorem cd3_3 {x y z : String} (h : z ≠ x) (h2 : z ≠ y) : (3 : Int32) = nI (cd3 x y z z) := by unfold cd3; rw [if_neg h, if_neg h2, if_pos rfl]; rfl
theorem n_IS_IO : eIS ≠ eIO := by decide
theorem n_IA_IO : eIA ≠ eIO := by decide
theorem n_NS_IO : eNS ≠ eIO := by decide
theorem n_IA_IS : eIA ≠ eIS := by decide
theorem n_IS_NS : eIS ≠ eNS := by decide
theorem n_IA_NS : eIA ≠ eNS := by decide
theorem n_NS_IA : eNS ≠ eIA := by decide
theorem isIn_1 (x : Int32) : F_X10_isIn x.toInt64 (0 : Int64) (1 : Int64) = some (nI (b2 (inR x 2))) := by
  have := isIn_inR x (n := 2) (by omega)
  rwa [show (nI 2 - nI 1).toInt64 = (1 : Int64) from by decide +kernel] at this
theorem isIn_2 (x : Int32) : F_X10_isIn x.toInt64 (0 : Int64) (2 : Int64) = some (nI (b2 (inR x 3))) := by
  have := isIn_inR x (n := 3) (by omega)
  rwa [show (nI 3 - nI 1).toInt64 = (2 : Int64) from by decide +kernel] at this
theorem isIn_3 (x : Int32) : F_X10_isIn x.toInt64 (0 : Int64) (3 : Int64) = some (nI (b2 (inR x 4))) := by
  have := isIn_inR x (n := 4) (by omega)
  rwa [show (nI 4 - nI 1).toInt64 = (3 : Int64) from by decide +kernel] at this
theorem isIn_4 (x : Int32) : F_X10_isIn x.toInt64 (0 : Int64) (4 : Int64) = some (nI (b2 (inR x 5))) := by
  have := isIn_inR x (n := 5) (by omega)
  rwa [show (nI 5 - nI 1).toInt64 = (4 : Int64) from by decide +kernel] at this
theorem isIn_31 (x : Int32) : F_X10_isIn x.toInt64 (0 : Int64) (31 : Int64) = some (nI (b2 (inR x 32))) := by
  have := isIn_inR x (n := 32) (by omega)
  rwa [show (nI 32 - nI 1).toInt64 = (31 : Int64) from by decide +kernel] at this
theorem isIn_60 (x : Int32) : F_X10_isIn x.toInt64 (0 : Int64) (60 : Int64) = some (nI (b2 (inR x 61))) := by
  have := isIn_inR x (n := 61) (by omega)
  rwa [show (nI 61 - nI 1).toInt64 = (60 : Int64) from by decide +kernel] at this
theorem isIn_99 (x : Int32) : F_X10_isIn x.toInt64 (0 : Int64) (99 : Int64) = some (nI (b2 (inR x 100))) := by
  have := isIn_inR x (n := 100) (by omega)
  rwa [show (nI 100 - nI 1).toInt64 = (99 : Int64) from by decide +kernel] at this
section RFP
variable {s s1 t : Sto} {a c : Nat} {M : Ms} {A : Ga}
theorem R_adds (h : RM s a M) (k : RK M A) (h0 : M.1 0 = 0) (i : Iv A.1) (hl : A.2.2.1.length < 2 ^ 31 - 1) {x nm : Nat} (hx : x < wC A.1 0) (hc : wC A.1 2 < 120) (hn : nm < 100) : ∃ t M', F_X10_adds s a (nI x) (nI nm) = some (nI (wC A.1 2), t) ∧ RB t a M' (dne A (hap (stp A.1) x (wC A.1 2) nm) 0 x (wC A.1 2)) ∧ Eo a s t := by
  obtain ⟨s1, M1, e1, b1, E1⟩ := R_steps h k h0 i
  have i1 := Iv_stp i
  obtain ⟨s2, W2, e2, t2, r2⟩ := R_happens b1.rt b1.rw i1 (x := x) hx (m := wC A.1 2) (nm := nm) hc (Nat.le_refl _) (-1) (fun h => absurd h (Nat.lt_irrefl _))
  obtain ⟨bq, E2⟩ := b1.op Mz.rf t2 r2 (Iv_hap i1 hc hx (Nat.le_refl _) hn)
  obtain ⟨s3, M3, e3, b3, E3⟩ := R_notes bq hl 0 x (wC A.1 2)
  refine ⟨s3, M3, ?_, b3, (E1.tr E2).tr E3⟩
  have e2' : F_X10_happens s1 a (nI x) (nI (b2 (decide (wC A.1 2 < wC A.1 2)))) (-1) (nI nm) = some (nI (wC A.1 2), s2) := e2
  rw [decide_eq_false (Nat.lt_irrefl _)] at e2'
  have e2'' : F_X10_happens s1 a (nI x) 0 (-1) (nI nm) = some (nI (wC A.1 2), s2) := e2'
  have e3' : F_X10_notes s2 a 0 (nI x) (nI (wC A.1 2)) = some (nI (wC A.1 2), s3) := e3
  unfold F_X10_adds
  rw [chk_eq h.ok, e1, bind_some', e2'', wbs, e3', wbs]
theorem R_takes (h : RM s a M) (k : RK M A) (h0 : M.1 0 = 0) (i : Iv A.1) (hl : A.2.2.1.length < 2 ^ 31 - 1) {x m : Nat} (hx : x < wC A.1 0) (hc : wC A.1 2 < 120) (hm : m < wC A.1 2) : ∃ t M', F_X10_takes s a (nI x) (nI m) = some (nI (wC A.1 2), t) ∧ RB t a M' (dne A (hap (stp A.1) x m (eN (wE A.1) m)) 1 x (wC A.1 2)) ∧ Eo a s t := by
  obtain ⟨s1, M1, e1, b1, E1⟩ := R_steps h k h0 i
  have i1 := Iv_stp i
  obtain ⟨s2, W2, e2, t2, r2⟩ := R_happens b1.rt b1.rw i1 (x := x) hx (m := m) (nm := eN (wE A.1) m) hc (Nat.le_of_lt hm) (nI m) (fun _ => rfl)
  obtain ⟨bq, E2⟩ := b1.op Mz.rf t2 r2 (Iv_hap i1 hc hx (Nat.le_of_lt hm) (i.eNl m hm))
  obtain ⟨s3, M3, e3, b3, E3⟩ := R_notes bq hl 1 x (wC A.1 2)
  refine ⟨s3, M3, ?_, b3, (E1.tr E2).tr E3⟩
  have hN : M1.2.2 0 (3953 + 10 * m + 4) = eN (wE A.1) m := (b1.rw.e (show m < wC (stp A.1) 2 from hm)).2.2.2.2.1
  have e2' : F_X10_happens s1 a (nI x) (nI (b2 (decide (m < wC A.1 2)))) (nI m) (nI (eN (wE A.1) m)) = some (nI (wC A.1 2), s2) := e2
  rw [decide_eq_true hm] at e2'
  have e2'' : F_X10_happens s1 a (nI x) 1 (nI m) (nI (eN (wE A.1) m)) = some (nI (wC A.1 2), s2) := e2'
  have e3' : F_X10_notes s2 a 1 (nI x) (nI (wC A.1 2)) = some (nI (wC A.1 2), s3) := e3
  have hc2 := i.c
  unfold F_X10_takes
  rw [chk_eq h.ok, e1, bind_some', b1.1.wd, bind_some', R_eventOf, bind_some', l_4, nI_add, b1.1.raw (by omega), bind_some', hN, e2'', wbs, e3', wbs]
theorem R_add (h : RJ s a c A) (i : Iv A.1) (hl : A.2.2.1.length < 2 ^ 31 - 1) (x nm : Int32) : Rj s a (cd3 eIO eIS eIA) (F_X10_add s a x nm) (aAdd A x nm) := by
  obtain ⟨s1, M, e1, h1, k1, t1, E1, o⟩ := h.go1
  have hn := i.n5
  have hc2 := i.c
  unfold F_X10_add aAdd
  rw [chk_eq o, e1, bind_some', R_isSiteM h1 k1 i, bind_some', ifb0]
  cases hx : inR x (wC A.1 0) with
  | false => exact Rj.fl h1 k1 E1 cd3_1
  | true =>
    obtain ⟨x1, x2⟩ := inR_tN (by omega) hx
    generalize tN x = x' at x1 x2
    subst x1
    rw [if_pos rfl, if_pos rfl, h1.wd, bind_some', show iald s1 (a + 1) 2 = _ from h1.raw (j := 2) (by omega), bind_some', k1.2.1.c (by omega), l_120, ifE (by omega) (by omega)]
    by_cases hc : wC A.1 2 < 120
    · rw [if_pos hc, if_neg (by omega), isIn_99, bind_some', ifb0]
      cases hm : inR nm 100 with
      | false => exact Rj.fl h1 k1 E1 (cd3_3 n_IA_IO n_IA_IS)
      | true =>
        obtain ⟨y1, y2⟩ := inR_tN (by omega) hm
        generalize tN nm = y' at y1 y2
        subst y1
        obtain ⟨t, M', e2, b2, E2⟩ := R_adds h1 k1 t1 i hl x2 hc y2
        rw [if_pos rfl, if_pos rfl, e2, wbs]
        exact Rj.ok b2 (E1.tr E2)
    · rw [if_neg hc, if_pos (by omega)]
      exact Rj.fl h1 k1 E1 (cd3_2 n_IS_IO)
theorem R_take (h : RJ s a c A) (i : Iv A.1) (hl : A.2.2.1.length < 2 ^ 31 - 1) (x m : Int32) : Rj s a (cd3 eIO eNS eIS) (F_X10_take s a x m) (aTak A x m) := by
  obtain ⟨s1, s2, M, e1, e2, b, E, o⟩ := h.go2
  have hn := i.n5
  have hc2 := i.c
  unfold F_X10_take aTak
  rw [chk_eq o, e1, bind_some', e2, bind_some', R_isSiteM b.1 b.2.1 i, bind_some', ifb0, R_isEventM b.1 b.2.1 i, bind_some', ifb0]
  cases hx : inR x (wC A.1 0) with
  | false => exact Rj.fl b.1 b.2.1 E cd3_1
  | true =>
    obtain ⟨x1, x2⟩ := inR_tN (by omega) hx
    generalize tN x = x' at x1 x2
    subst x1
    rw [if_pos rfl, if_pos rfl]
    cases hm : inR m (wC A.1 2) with
    | false => exact Rj.fl b.1 b.2.1 E (cd3_2 n_NS_IO)
    | true =>
      obtain ⟨m1, m2⟩ := inR_tN (by omega) hm
      generalize tN m = m' at m1 m2
      subst m1
      rw [if_pos rfl, if_pos rfl, R_stateOf, bind_some', l_29, nI_add, R_isOf b.rt (by omega) (by omega), bind_some', b.rw.vw (by omega) (by omega), ifb0]
      cases hv : sVw (wL A.1 x') m' with
      | false => exact Rj.fl b.1 b.2.1 E (cd3_2 n_NS_IO)
      | true =>
        rw [if_pos rfl, if_pos rfl, b.1.wd, bind_some', show iald s2 (a + 1) 2 = _ from b.1.raw (j := 2) (by omega), bind_some', b.rw.c (by omega), l_120, ifE (by omega) (by omega)]
        by_cases hc : wC A.1 2 < 120
        · obtain ⟨t, M', e3, b3, E3⟩ := R_takes b.1 b.2.1 b.2.2.2 i hl x2 hc m2
          rw [if_pos hc, if_neg (by omega), e3, wbs]
          exact Rj.ok b3 (E.tr E3)
        · rw [if_neg hc, if_pos (by omega)]
          exact Rj.fl b.1 b.2.1 E (cd3_3 n_IS_IO n_IS_NS)
end RFP
