/-! ===== PURE 82: the reference's publics: part, way ===== -/
/-- the first k links of a -/
def lnkN (w : Wd) (a : Nat) (k : Nat) : Nat := (List.range k).foldl (fun x o => if wcut w a o then x else x ||| 2 ^ o) 0
theorem lnkN_succ (w : Wd) (a k : Nat) : lnkN w a (k + 1) = if wcut w a k then lnkN w a k else lnkN w a k ||| 2 ^ k := by
  unfold lnkN
  rw [rng_fold]
theorem or_bit {x a : Nat} (h : x.testBit a = true) : x ||| 2 ^ a = x := by
  apply Nat.eq_of_testBit_eq
  intro i
  rw [Nat.testBit_or, Nat.testBit_two_pow]
  by_cases hi : a = i
  · subst hi; rw [h]; rfl
  · rw [decide_eq_false hi, Bool.or_false]
theorem pow_32 {k : Nat} (hk : k < 5) : 2 ^ k < 32 := Nat.pow_lt_pow_right (m := k) (n := 5) (by omega) hk
section RFW
variable {s s1 t σ : Sto} {a c : Nat} {M : Ms} {A : Ga} {w : Wd} {W W' : Nat → Nat}
theorem R_partRow (b : RB s a M A) (i : Iv A.1) {q x : Nat} (hq : q < wC A.1 0) (K : Int32 → Option Int32) : F_X10_partOf_L33 s a (nI q) fu (nI x) 0 K = K (nI (pOne A.1 (wC A.1 0) x q)) := by
  have hn := i.n5
  have hp : ∀ k, (if x.testBit q = true then x ||| lnkN A.1 q k else x).testBit q = x.testBit q := fun k => by
    cases hx : x.testBit q with
    | false => rw [if_neg z_f]; exact hx
    | true => rw [if_pos rfl, Nat.testBit_or, hx, Bool.true_or]
  have key := lup (fun f k => F_X10_partOf_L33 s a (nI q) f (nI (if x.testBit q = true then x ||| lnkN A.1 q k else x)) (nI k) K) (wC A.1 0) (K (nI (pOne A.1 (wC A.1 0) x q))) (by
    intro k f hk
    rw [F_X10_partOf_L33, b.1.wd, bind_some', b.n0, bind_some', if_neg (by rw [nI_leI (by omega) (by omega)]; omega), ifE (by omega) (by omega), nI_bit (show q < 32 by omega), hp k, R_isCut b.rt b.rw (by omega) (by omega), bind_some', ifb0, nI_shl1 (show k < 32 by omega), nI_or, nI_add1, lnkN_succ]
    cases hx : x.testBit q with
    | false =>
      rw [if_neg z_f, if_neg z_f, if_neg (show ¬ nI (b2 false) = (1 : Int32) by decide)]
      by_cases hqk : q = k
      · rw [if_pos hqk]
      · rw [if_neg hqk]
    | true =>
      rw [if_pos rfl, if_pos rfl, if_pos (show nI (b2 true) = (1 : Int32) from rfl)]
      by_cases hqk : q = k
      · subst hqk
        rw [if_pos rfl, lk_aa i, if_neg z_f, ← Nat.or_assoc, or_bit (by rw [Nat.testBit_or, hx, Bool.true_or])]
      · rw [if_neg hqk]
        cases wcut A.1 q k with
        | true => rw [if_pos rfl, if_pos rfl]
        | false => rw [if_neg z_f, if_neg z_f, Nat.or_assoc]) (by
    intro f
    rw [F_X10_partOf_L33, b.1.wd, bind_some', b.n0, bind_some', if_pos (Int32.le_refl _)]
    rfl) fu (by unfold fu; omega)
  have h0 : (if x.testBit q = true then x ||| lnkN A.1 q 0 else x) = x := by
    show (if x.testBit q = true then x ||| 0 else x) = x
    rw [Nat.or_zero]
    split <;> rfl
  rw [h0] at key
  exact key
theorem R_partPass (b : RB s a M A) (i : Iv A.1) {x : Nat} (K : Int32 → Option Int32) : F_X10_partOf_L19 s a fu (nI x) 0 K = K (nI (pPass A.1 (wC A.1 0) x)) := by
  have hn := i.n5
  refine lup (fun f k => F_X10_partOf_L19 s a f (nI ((List.range k).foldl (pOne A.1 (wC A.1 0)) x)) (nI k) K) (wC A.1 0) (K (nI (pPass A.1 (wC A.1 0) x))) ?_ ?_ fu (by unfold fu; omega)
  · intro k f hk
    rw [F_X10_partOf_L19, b.1.wd, bind_some', b.n0, bind_some', if_neg (by rw [nI_leI (by omega) (by omega)]; omega), R_partRow b i hk, nI_add1, rng_fold]
  · intro f
    rw [F_X10_partOf_L19, b.1.wd, bind_some', b.n0, bind_some', if_pos (Int32.le_refl _)]
    rfl
theorem R_partOf (b : RB s a M A) (i : Iv A.1) {x : Nat} (hx : x < 5) : F_X10_partOf s a (nI x) = some (nI (part A.1 (wC A.1 0) x)) := by
  have hn := i.n5
  unfold F_X10_partOf
  rw [chk_eq b.ok, nI_shl1 (show x < 32 by omega)]
  refine lup (fun f k => F_X10_partOf_L6 s a f (nI (pIt A.1 (wC A.1 0) k (2 ^ x))) (nI k) (fun x10 => some x10)) (wC A.1 0) _ ?_ ?_ fu (by unfold fu; omega)
  · intro k f hk
    rw [F_X10_partOf_L6, b.1.wd, bind_some', b.n0, bind_some', if_neg (by rw [nI_leI (by omega) (by omega)]; omega), R_partPass b i, nI_add1]
    rfl
  · intro f
    rw [F_X10_partOf_L6, b.1.wd, bind_some', b.n0, bind_some', if_pos (Int32.le_refl _)]
    rfl
theorem R_part (h : RJ s a c A) (i : Iv A.1) (x : Int32) : Rj s a (cd1 eIO) (F_X10_part s a x) (aPar A x) := by
  obtain ⟨s1, s2, M, e1, e2, b, E, o⟩ := h.go2
  have hn := i.n5
  unfold F_X10_part aPar
  rw [chk_eq o, e1, bind_some', e2, bind_some']
  by_cases hm : x = -1
  · have hL : F_X10_part_L44 s2 a fu 0 0 (fun x9 => some (x9, s2)) = some (nI (fb_ct (fun s => decide (part A.1 (wC A.1 0) s &&& (2 ^ s - 1) = 0)) (wC A.1 0)), s2) := by
      refine lup (fun f j => F_X10_part_L44 s2 a f (nI (fb_ct (fun s => decide (part A.1 (wC A.1 0) s &&& (2 ^ s - 1) = 0)) j)) (nI j) (fun x9 => some (x9, s2))) (wC A.1 0) _ ?_ ?_ fu (by unfold fu; omega)
      · intro j f hj
        have hp := part_lt A.1 (s := j) hn (by omega)
        have hj2 := pow_32 (show j < 5 by omega)
        have hpos : 0 < 2 ^ j := Nat.two_pow_pos j
        have hand : part A.1 (wC A.1 0) j &&& (2 ^ j - 1) ≤ part A.1 (wC A.1 0) j := Nat.and_le_left
        rw [F_X10_part_L44, b.1.wd, bind_some', b.n0, bind_some', if_neg (by rw [nI_leI (by omega) (by omega)]; omega), R_partOf b i (by omega), bind_some', jn_eq, nI_shl1 (show j < 32 by omega), nI_k1 (by omega), nI_and, nI_add1, fb_ct_succ]
        by_cases hz : part A.1 (wC A.1 0) j &&& (2 ^ j - 1) = 0
        · rw [decide_eq_true hz, if_pos (by rw [hz]; rfl)]
          exact jfl1 _ (fun y => F_X10_part_L44 s2 a f y (nI (j + 1)) (fun x9 => some (x9, s2)))
        · rw [decide_eq_false hz, if_neg (fun y => hz ((nI_z (by omega)).mp y))]
          exact jfl0 _ (fun y => F_X10_part_L44 s2 a f y (nI (j + 1)) (fun x9 => some (x9, s2)))
      · intro f
        rw [F_X10_part_L44, b.1.wd, bind_some', b.n0, bind_some', if_pos (Int32.le_refl _)]
    rw [if_pos hm, if_pos hm, if_pos hm, hL]
    exact Rj.ok b E
  · rw [if_neg hm, if_neg hm, if_neg hm, R_isSiteM b.1 b.2.1 i, bind_some', ifb0]
    cases hx : inR x (wC A.1 0) with
    | false => exact Rj.fl b.1 b.2.1 E cd1_1
    | true =>
      obtain ⟨x1, x2⟩ := inR_tN (by omega) hx
      generalize tN x = x' at x1 x2
      subst x1
      rw [if_pos rfl, if_pos rfl, R_partOf b i (by omega), bind_some']
      exact Rj.ok b E
/-- the way, from where count i stands -/
theorem R_wayL (b : RB s a M A) (i : Iv A.1) {e : Nat} (he : e < wC A.1 2) (k : Int32) (K : Int32 → Option (Int32 × Sto)) : ∀ (d q j f : Nat), j + d = wC A.1 0 → 0 < d → d + 1 < f → q < wC A.1 0 → F_X10_way_L58 s a (nI e) k f (nI q) (nI j) 1 K = match (List.range (pth A.1 e d q).length).find? (fun p => decide (nI (j + p) = k)) with
    | some p => some (nI ((pth A.1 e d q).getD p 0), s)
    | none => K (nI (j + (pth A.1 e d q).length)) := by
  have hn := i.n5
  have hc := i.c
  intro d
  induction d with
  | zero => intro q j f h1 h2; omega
  | succ d ih =>
    intro q j f h1 h2 h3 hq
    cases f with
    | zero => omega
    | succ f =>
      have hB := ((b.rw.L (show q < 5 by omega)).2.2.2.2.2 e (by omega)).2
      rw [F_X10_way_L58, if_neg (show ¬ (1 : Int32) = 0 by decide), b.1.wd, bind_some', R_stateOf, bind_some', show (274 : Int32) = nI 274 from rfl, nI_add, nI_add, b.1.raw (by omega), bind_some', hB, show F_X10_doesHave s a (nI q) (nI e) 1 = _ from R_doesHave1 b.rt b.rw (by omega) (by omega), bind_some', ifb0, bind_some', b.n0, bind_some', nI_add1 j]
      have hlen : (List.range ((pth A.1 e (d + 1) q).length)).find? (fun p => decide (nI (j + p) = k)) = if nI j = k then some 0 else ((List.range ((pth A.1 e (d + 1) q).length - 1)).find? (fun p => decide (nI (j + 1 + p) = k))).map (· + 1) := by
        have hl : (pth A.1 e (d + 1) q).length = (pth A.1 e (d + 1) q).length - 1 + 1 := by
          have : 0 < (pth A.1 e (d + 1) q).length := by
            show 0 < (q :: _).length
            rw [List.length_cons]; omega
          omega
        rw [hl, List.range_succ_eq_map, List.find?_cons, Nat.add_sub_cancel]
        by_cases hk : nI j = k
        · rw [if_pos hk, Nat.add_zero, decide_eq_true hk]
        · rw [if_neg hk, Nat.add_zero, decide_eq_false hk, List.find?_map]
          have hfe : ((fun p => decide (nI (j + p) = k)) ∘ Nat.succ) = fun p => decide (nI (j + 1 + p) = k) := by
            funext p
            show decide (nI (j + (p + 1)) = k) = decide (nI (j + 1 + p) = k)
            rw [show j + (p + 1) = j + 1 + p by omega]
          rw [hfe]
      rw [hlen]
      by_cases hk : nI j = k
      · rw [if_pos hk, if_pos hk]; rfl
      · rw [if_neg hk, if_neg hk]
        have stop : ∀ (y : Int32) (m : Nat), F_X10_way_L58 s a (nI e) k f y (nI m) 0 K = K (nI m) := fun y m => by
          cases f with
          | zero => omega
          | succ f => rw [F_X10_way_L58, if_pos rfl]
        have hp : pth A.1 e (d + 1) q = q :: (if sHs (wL A.1 q) e && !decide (sBy (wL A.1 q) e = q) then pth A.1 e d (sBy (wL A.1 q) e) else []) := rfl
        cases hh : sHs (wL A.1 q) e with
        | false =>
          rw [hh, Bool.false_and, if_neg z_f] at hp
          rw [if_neg z_f, stop, hp]
          rfl
        | true =>
          have hby := (i.L (show q < 5 by omega)).2.2.2.2.2 e hh
          rw [hh, Bool.true_and] at hp
          rw [if_pos rfl, ifE (by omega) (by omega)]
          by_cases hs : sBy (wL A.1 q) e = q
          · rw [decide_eq_true hs, if_neg (by decide)] at hp
            rw [if_pos hs, stop, hp]
            rfl
          · rw [decide_eq_false hs, if_pos (by decide)] at hp
            rw [if_neg hs]
            by_cases hd : d = 0
            · subst hd
              rw [if_pos (by rw [nI_leI (by omega) (by omega)]; omega), stop, hp]
              rfl
            · rw [if_neg (by rw [nI_leI (by omega) (by omega)]; omega), ih (sBy (wL A.1 q) e) (j + 1) f (by omega) (by omega) (by omega) hby, hp, List.length_cons, Nat.add_sub_cancel]
              cases (List.range (pth A.1 e d (sBy (wL A.1 q) e)).length).find? (fun p => decide (nI (j + 1 + p) = k)) with
              | none =>
                show K _ = K _
                rw [show j + 1 + (pth A.1 e d (sBy (wL A.1 q) e)).length = j + ((pth A.1 e d (sBy (wL A.1 q) e)).length + 1) by omega]
              | some p => rfl
theorem R_way (h : RJ s a c A) (i : Iv A.1) (x z k : Int32) : Rj s a (cd1 eIO) (F_X10_way s a x z k) (aWay A x z k) := by
  obtain ⟨s1, s2, M, e1, e2, b, E, o⟩ := h.go2
  have hn := i.n5
  have hn2 := i.n2
  have hc2 := i.c
  unfold F_X10_way aWay
  rw [chk_eq o, e1, bind_some', e2, bind_some', R_isSiteM b.1 b.2.1 i, bind_some', ifb0, R_isEventM b.1 b.2.1 i, bind_some', ifb0]
  cases hx : inR x (wC A.1 0) with
  | false => exact Rj.fl b.1 b.2.1 E cd1_1
  | true =>
    obtain ⟨x1, x2⟩ := inR_tN (by omega) hx
    generalize tN x = x' at x1 x2
    subst x1
    rw [if_pos rfl, if_pos rfl]
    cases hz : inR z (wC A.1 2) with
    | false => exact Rj.fl b.1 b.2.1 E cd1_1
    | true =>
      obtain ⟨z1, z2⟩ := inR_tN (by omega) hz
      generalize tN z = z' at z1 z2
      subst z1
      rw [if_pos rfl, if_pos rfl, show F_X10_doesHave s2 a (nI x') (nI z') 0 = _ from R_doesHave0 b.rt b.rw (by omega) (by omega), bind_some', ifb0]
      cases hh : sHs (wL A.1 x') z' with
      | false => exact Rj.ok b E
      | true =>
        have hpl := pth_len A.1 z' (wC A.1 0) x'
        rw [show (!true) = false from rfl, if_neg z_f, if_pos rfl]
        have hL := R_wayL b i z2 k (fun x14 => if k = (-1 : Int32) then some (x14, s2) else some ((-1 : Int32), s2)) (wC A.1 0) x' 0 fu (by omega) (by omega) (by unfold fu; omega) x2
        have hL' : F_X10_way_L58 s2 a (nI z') k fu (nI x') 0 1 (fun x14 => if k = (-1 : Int32) then some (x14, s2) else some ((-1 : Int32), s2)) = _ := hL
        rw [hL']
        unfold atI
        by_cases hk1 : k = -1
        · have hnone : (List.range (pth A.1 z' (wC A.1 0) x').length).find? (fun p => decide (nI (0 + p) = k)) = none := by
            rw [List.find?_eq_none]
            intro p hp
            have := List.mem_range.mp hp
            rw [hk1, decide_eq_false (oI_n1 (by omega))]
            decide
          rw [hnone, if_pos (show (-1 : Int32) ≤ k by rw [hk1]; decide), if_pos hk1]
          dsimp only
          rw [if_pos hk1, Nat.zero_add]
          exact Rj.ok b E
        · rw [if_neg hk1]
          by_cases hkl : -1 ≤ k
          · have hk0 : ¬ k < 0 := fun h0 => by
              rw [Int32.le_iff_toInt_le, show (-1 : Int32).toInt = -1 from rfl] at hkl
              rw [Int32.lt_iff_toInt_lt, show (0 : Int32).toInt = 0 from rfl] at h0
              exact hk1 (Int32.toInt_inj.mp (by rw [show (-1 : Int32).toInt = -1 from rfl]; omega))
            obtain ⟨k', kl, k2⟩ := nI_of hk0
            subst k2
            rw [if_pos hkl, if_neg hk0, nI_clamp kl]
            by_cases hkp : k' < (pth A.1 z' (wC A.1 0) x').length
            · have hsome : (List.range (pth A.1 z' (wC A.1 0) x').length).find? (fun p => decide (nI (0 + p) = nI k')) = some k' := by
                rw [List.find?_range_eq_some]
                refine ⟨by rw [Nat.zero_add]; exact decide_eq_true rfl, List.mem_range.mpr hkp, fun j hj => ?_⟩
                rw [Nat.zero_add, decide_eq_false (by rw [nI_eq (by omega) (by omega)]; omega)]
                rfl
              rw [hsome, List.getElem?_eq_getElem hkp]
              dsimp only
              rw [List.getD_eq_getElem?_getD, List.getElem?_eq_getElem hkp, if_neg hk1]
              exact Rj.ok b E
            · have hnone : (List.range (pth A.1 z' (wC A.1 0) x').length).find? (fun p => decide (nI (0 + p) = nI k')) = none := by
                rw [List.find?_eq_none]
                intro p hp
                have := List.mem_range.mp hp
                rw [Nat.zero_add, decide_eq_false (by rw [nI_eq (by omega) (by omega)]; omega)]
                decide
              rw [hnone, List.getElem?_eq_none (by omega)]
              dsimp only
              rw [if_neg hk1]
              exact Rj.ok b E
          · have hk0 : k < 0 := by
              rw [Int32.le_iff_toInt_le, show (-1 : Int32).toInt = -1 from rfl] at hkl
              rw [Int32.lt_iff_toInt_lt, show (0 : Int32).toInt = 0 from rfl]
              omega
            rw [if_neg hkl, if_pos hk0, if_neg hk1]
            exact Rj.ok b E
end RFW
