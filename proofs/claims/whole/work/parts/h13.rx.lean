/-! ===== PURE 83: the reference's publics: count ===== -/
section RFX
variable {s s1 t σ : Sto} {a c : Nat} {M : Ms} {A : Ga} {w : Wd} {W W' : Nat → Nat}
theorem cut_row {w : Wd} (i : Iv w) {q : Nat} (hq : q < 5) : fb_ct (fun z => wX w (5 * q + z)) 5 = fb_ct (fun k => wcut w q (q + 1 + k)) (wC w 0 - (q + 1)) := by
  have hn := i.n5
  have hx : ∀ z, z < 5 → wX w (5 * q + z) = true → q < z ∧ z < wC w 0 := fun z hz h => by
    have := i.2.2.2.2.2.2 (5 * q + z) h
    omega
  have h1 := fb_ct_split (fun z => wX w (5 * q + z)) (q + 1) (5 - (q + 1))
  rw [show q + 1 + (5 - (q + 1)) = 5 by omega] at h1
  rw [h1, fb_ct_zero.mpr (fun z hz => ?_), Nat.zero_add]
  · rw [fb_ext (f := fun k => wX w (5 * q + (q + 1 + k))) (n := wC w 0 - (q + 1)) (m := 5 - (q + 1)) (by omega) (fun z h1 h2 => ?_)]
    · refine fb_ct_cong (fun k hk => ?_)
      unfold wcut lk
      rw [if_pos (by omega)]
    · cases h : wX w (5 * q + (q + 1 + z)) with
      | false => rfl
      | true => have := hx (q + 1 + z) (by omega) h; omega
  · cases h : wX w (5 * q + z) with
    | false => rfl
    | true => have := hx z (by omega) h; omega
theorem cut_sum {w : Wd} (i : Iv w) : fb_ct (wX w) 25 = sm (fun s => fb_ct (fun k => wcut w s (s + 1 + k)) (wC w 0 - (s + 1))) (wC w 0) := by
  have hn := i.n5
  have h := fb_grid (wX w) 5
  rw [show 5 * 5 = 25 from rfl] at h
  rw [h, sm_ext hn (fun y h1 h2 => ?_)]
  · exact sm_cg (fun y hy => cut_row i (by omega))
  · rw [cut_row i (by omega), show wC w 0 - (y + 1) = 0 by omega]
    rfl
theorem R_cutMany (b : RB s a M A) : F_X10_cutMany s a = some (nI (fb_ct (wX A.1) 25)) := by
  unfold F_X10_cutMany
  rw [chk_eq b.ok]
  refine lup (fun f j => F_X10_cutMany_L4 s a f (nI (fb_ct (wX A.1) j)) (nI j) (fun x3 => some x3)) 25 _ ?_ ?_ fu (by unfold fu; omega)
  · intro j f hj
    rw [F_X10_cutMany_L4, if_neg (by rw [l_25, nI_leI (by omega) (by omega)]; omega), b.1.wd, bind_some', show iald s (a + 1) 7 = _ from b.1.raw (j := 7) (by omega), bind_some', nI_bit (show j < 32 by omega), b.rw.2.1 j (by omega), nI_add, nI_add1, fb_ct_succ]
    cases wX A.1 j <;> rfl
  · intro f
    rw [F_X10_cutMany_L4, if_pos (by rw [l_25]; exact Int32.le_refl _)]
theorem R_waitingAll (b : RB s a M A) : F_X10_waitingAll s a = some (nI (sm (fun c => (wT A.1 c).length) 25)) := by
  unfold F_X10_waitingAll
  rw [chk_eq b.ok]
  refine lup (fun f j => F_X10_waitingAll_L4 s a f (nI (sm (fun c => (wT A.1 c).length) j)) (nI j) (fun x3 => some x3)) 25 _ ?_ ?_ fu (by unfold fu; omega)
  · intro j f hj
    rw [F_X10_waitingAll_L4, if_neg (by rw [l_25, nI_leI (by omega) (by omega)]; omega), b.1.wd, bind_some', show (5153 : Int32) = nI 5153 from rfl, nI_add, b.1.raw (by omega), bind_some', b.rw.t hj, nI_add, nI_add1]
    rfl
  · intro f
    rw [F_X10_waitingAll_L4, if_pos (by rw [l_25]; exact Int32.le_refl _)]
theorem R_firstOver (b : RB s a M A) (i : Iv A.1) : F_X10_firstOverstated s a = some (oI (f3 (ovr A.1) (wC A.1 0))) := by
  have hn := i.n5
  have i3 : ∀ x y, x < wC A.1 0 → y < wC A.1 0 → ∀ K : Option Int32, F_X10_firstOverstated_L26 s a (nI x) (nI y) fu 0 K = match (List.range (wC A.1 0)).findSome? (fun l => if ovr A.1 x y l then some (100 * x + 10 * y + l) else none) with
      | some v => some (nI v)
      | none => K := by
    intro x y hx hy K
    refine lfind (fun f j => F_X10_firstOverstated_L26 s a (nI x) (nI y) f (nI j) K) (fun l => if ovr A.1 x y l then some (100 * x + 10 * y + l) else none) (wC A.1 0) (fun v => some (nI v)) K ?_ ?_ fu (by unfold fu; omega)
    · intro j f hj
      rw [F_X10_firstOverstated_L26, b.1.wd, bind_some', b.n0, bind_some', if_neg (by rw [nI_leI (by omega) (by omega)]; omega), R_isOverstated b.rt b.rw i.j (by omega) (by omega) (by omega), bind_some', ifb0, show (100 : Int32) = nI 100 from rfl, pk_mul, show (10 : Int32) = nI 10 from rfl, pk_mul, nI_add, nI_add, nI_add1]
      cases ovr A.1 x y j <;> rfl
    · intro f
      rw [F_X10_firstOverstated_L26, b.1.wd, bind_some', b.n0, bind_some', if_pos (Int32.le_refl _)]
  have i2 : ∀ x, x < wC A.1 0 → ∀ K : Option Int32, F_X10_firstOverstated_L14 s a (nI x) fu 0 K = match (List.range (wC A.1 0)).findSome? (fun y => (List.range (wC A.1 0)).findSome? (fun l => if ovr A.1 x y l then some (100 * x + 10 * y + l) else none)) with
      | some v => some (nI v)
      | none => K := by
    intro x hx K
    refine lfind (fun f j => F_X10_firstOverstated_L14 s a (nI x) f (nI j) K) (fun y => (List.range (wC A.1 0)).findSome? (fun l => if ovr A.1 x y l then some (100 * x + 10 * y + l) else none)) (wC A.1 0) (fun v => some (nI v)) K ?_ ?_ fu (by unfold fu; omega)
    · intro j f hj
      rw [F_X10_firstOverstated_L14, b.1.wd, bind_some', b.n0, bind_some', if_neg (by rw [nI_leI (by omega) (by omega)]; omega), i3 x j hx hj, nI_add1]
      rfl
    · intro f
      rw [F_X10_firstOverstated_L14, b.1.wd, bind_some', b.n0, bind_some', if_pos (Int32.le_refl _)]
  unfold F_X10_firstOverstated
  rw [chk_eq b.ok]
  refine (lfind (fun f j => F_X10_firstOverstated_L2 s a f (nI j) (some (-1))) (fun x => (List.range (wC A.1 0)).findSome? (fun y => (List.range (wC A.1 0)).findSome? (fun l => if ovr A.1 x y l then some (100 * x + 10 * y + l) else none))) (wC A.1 0) (fun v => some (nI v)) (some (-1)) ?_ ?_ fu (by unfold fu; omega)).trans ?_
  · intro j f hj
    rw [F_X10_firstOverstated_L2, b.1.wd, bind_some', b.n0, bind_some', if_neg (by rw [nI_leI (by omega) (by omega)]; omega), i2 j hj, nI_add1]
    rfl
  · intro f
    rw [F_X10_firstOverstated_L2, b.1.wd, bind_some', b.n0, bind_some', if_pos (Int32.le_refl _)]
  · show _ = some (oI ((List.range (wC A.1 0)).findSome? _))
    cases (List.range (wC A.1 0)).findSome? (fun x => (List.range (wC A.1 0)).findSome? (fun y => (List.range (wC A.1 0)).findSome? (fun l => if ovr A.1 x y l then some (100 * x + 10 * y + l) else none))) <;> rfl
theorem R_lostAll (b : RB s a M A) (i : Iv A.1) : ∃ t M', F_X10_lostAll s a = some (nI (sm (lst A.1) (wC A.1 0)), t) ∧ RB t a M' A ∧ Eo a s t := by
  have hn := i.n5
  obtain ⟨t, ⟨M', b', E'⟩, e1⟩ := lpS (fun f j u => F_X10_lostAll_L4 a f (nI (sm (lst A.1) j)) (nI j) u (fun x5 s6 => some (x5, s6))) (fun u => some (nI (sm (lst A.1) (wC A.1 0)), u)) (fun j u => ∃ M', RB u a M' A ∧ Eo a s u) (wC A.1 0) (by
    intro j f u hj ⟨M', b', E'⟩
    obtain ⟨u2, M2, e2, z2, t2⟩ := R_lostTo b'.rt b'.rw i.j i.t12 i.le (x := j) (by omega)
    obtain ⟨b3, E3⟩ := b'.op z2 t2 b'.rw i
    refine ⟨u2, ⟨_, b3, E'.tr E3⟩, ?_⟩
    show F_X10_lostAll_L4 _ _ _ _ _ _ = _
    rw [F_X10_lostAll_L4, b'.1.wd, bind_some', b'.n0, bind_some', if_neg (by rw [nI_leI (by omega) (by omega)]; omega), e2, wbs, nI_add, nI_add1]
    rfl) (by
    intro f u ⟨M', b', E'⟩
    show F_X10_lostAll_L4 _ _ _ _ _ _ = _
    rw [F_X10_lostAll_L4, b'.1.wd, bind_some', b'.n0, bind_some', if_pos (Int32.le_refl _)]) fu s (by unfold fu; omega) ⟨M, b, Eo.rf⟩
  refine ⟨t, M', ?_, b', E'⟩
  unfold F_X10_lostAll
  rw [chk_eq b.ok]
  exact e1
theorem R_viewsLike (b : RB s a M A) (i : Iv A.1) : F_X10_areViewsLike s a = some (nI (b2 (al (fun k => al (fun e => sVw (wL A.1 (1 + k)) e == sVw (wL A.1 0) e) 128) (wC A.1 0 - 1)))) := by
  have hn := i.n5
  have hn2 := i.n2
  have inner : ∀ x, x < wC A.1 0 → ∀ K : Option Int32, F_X10_areViewsLike_L14 s a (nI x) fu 0 K = if al (fun e => sVw (wL A.1 x) e == sVw (wL A.1 0) e) 128 = true then K else some 0 := by
    intro x hx K
    have key := lall (fun f j => F_X10_areViewsLike_L14 s a (nI x) f (nI j) K) (fun j => decide (nI (M.2.2 0 (9 + 789 * x + 29 + j)) = nI (M.2.2 0 (9 + 789 * 0 + 29 + j)))) 4 (some 0) K (by
      intro j f hj
      rw [F_X10_areViewsLike_L14, if_neg (by rw [l_4, nI_leI (by omega) (by omega)]; omega), b.1.wd, bind_some', R_stateOf, bind_some', show (29 : Int32) = nI 29 from rfl, nI_add, nI_add, b.1.raw (by omega), bind_some', bind_some', show F_X10_stateOf 0 = _ from R_stateOf 0, bind_some', nI_add, nI_add, b.1.raw (by omega), bind_some', nI_add1]
      by_cases hq : nI (M.2.2 0 (9 + 789 * x + 29 + j)) = nI (M.2.2 0 (9 + 789 * 0 + 29 + j))
      · rw [if_pos hq, decide_eq_true hq]; rfl
      · rw [if_neg hq, decide_eq_false hq]; rfl) (by
      intro f
      rw [F_X10_areViewsLike_L14, if_pos (by rw [l_4]; exact Int32.le_refl _)]) fu (by unfold fu; omega)
    refine key.trans ?_
    have hq : al (fun j => decide (nI (M.2.2 0 (9 + 789 * x + 29 + j)) = nI (M.2.2 0 (9 + 789 * 0 + 29 + j)))) 4 = al (fun e => sVw (wL A.1 x) e == sVw (wL A.1 0) e) 128 := by
      have hv : ∀ y, y < 5 → ∀ e, e < 128 → (M.2.2 0 (9 + 789 * y + 29 + e / 32)).testBit (e % 32) = sVw (wL A.1 y) e := fun y hy e he => b.rw.vw hy he
      rw [Bool.eq_iff_iff, al_iff, al_iff]
      constructor
      · intro h e he
        have h1 := nI_ext.mp (of_decide_eq_true (h (e / 32) (by omega))) (e % 32) (by omega)
        rw [hv x (by omega) e he, hv 0 (by omega) e he] at h1
        rw [h1]
        exact beq_self_eq_true _
      · intro h j hj
        refine decide_eq_true (nI_ext.mpr (fun q hq => ?_))
        have h1 := h (32 * j + q) (by omega)
        have h2 := hv x (by omega) (32 * j + q) (by omega)
        have h3 := hv 0 (by omega) (32 * j + q) (by omega)
        rw [show (32 * j + q) / 32 = j by omega, show (32 * j + q) % 32 = q by omega] at h2 h3
        rw [h2, h3]
        exact beq_iff_eq.mp h1
    rw [hq]
  unfold F_X10_areViewsLike
  rw [chk_eq b.ok]
  have key := lallG (fun f j => F_X10_areViewsLike_L2 s a f (nI j) (some 1)) (fun x => al (fun e => sVw (wL A.1 x) e == sVw (wL A.1 0) e) 128) (wC A.1 0) 1 (some 0) (some 1) (by omega) (by
    intro j f h1 hj
    rw [F_X10_areViewsLike_L2, b.1.wd, bind_some', b.n0, bind_some', if_neg (by rw [nI_leI (by omega) (by omega)]; omega), inner j hj, nI_add1]) (by
    intro f
    rw [F_X10_areViewsLike_L2, b.1.wd, bind_some', b.n0, bind_some', if_pos (Int32.le_refl _)]) fu (by unfold fu; omega)
  refine key.trans ?_
  cases al (fun k => al (fun e => sVw (wL A.1 (1 + k)) e == sVw (wL A.1 0) e) 128) (wC A.1 0 - 1) <;> rfl
/-- an answer without a code -/
def Rq (s : Sto) (a : Nat) (F : Option (Int32 × Sto)) (v : Int32) (A : Ga) : Prop := ∃ t, F = some (v, t) ∧ Eo a s t ∧ RJ t a 0 A
theorem Rq.ok {v : Int32} {s2 : Sto} (h : RB s2 a M A) (E : Eo a s s2) : Rq s a (some (v, s2)) v A := ⟨s2, rfl, E, h.rj⟩
theorem R_count (h : RJ s a c A) (i : Iv A.1) (k : Int32) : Rq s a (F_X10_count s a k) (aCnt A k) A := by
  obtain ⟨s1, s2, M, e1, e2, b, E, o⟩ := h.go2
  have hn := i.n5
  have hn2 := i.n2
  have h46 := R_isIn k 4 6
  rw [show (4 : Int32).toInt64 = (4 : Int64) from by decide +kernel, show (6 : Int32).toInt64 = (6 : Int64) from by decide +kernel] at h46
  obtain ⟨u9, M9, e9, b9, E9⟩ := R_lostAll b i
  unfold F_X10_count aCnt
  rw [chk_eq o, e1, bind_some', e2, bind_some', isIn_2, bind_some', ifb0, h46, bind_some', ifb0, R_waitingAll b, bind_some', R_overstatedAll b.rt b.rw i.j, bind_some', R_firstOver b i, bind_some', e9, wbs, show F_X10_commonOf s2 a 0 0 = _ from R_commonOf b.rt b.rw i.j (x := 0) (by omega) false, bind_some', hba_all, R_viewsLike b i, bind_some', R_flag, bind_some', b.1.wd, bind_some', bind_some', bind_some', show iald s2 (a + 1) 6 = _ from b.1.raw (j := 6) (by omega), bind_some', b.rw.c (by omega), R_cutMany b, bind_some', cut_sum i]
  have raw : ∀ j, j < 7 → iald s2 (a + 1) (nI j) = some (nI (wC A.1 j)) := fun j hj => by rw [b.1.raw (by omega), b.rw.c hj]
  by_cases k0 : k = 0
  · subst k0
    rw [if_pos (show inR 0 3 = true by decide), show iald s2 (a + 1) 0 = _ from raw 0 (by omega), bind_some', if_pos rfl]; exact Rq.ok b E
  rw [if_neg k0]
  by_cases k1 : k = 1
  · subst k1
    rw [if_pos (show inR 1 3 = true by decide), show iald s2 (a + 1) 1 = _ from raw 1 (by omega), bind_some', if_pos rfl]; exact Rq.ok b E
  rw [if_neg k1]
  by_cases k2 : k = 2
  · subst k2
    rw [if_pos (show inR 2 3 = true by decide), show iald s2 (a + 1) 2 = _ from raw 2 (by omega), bind_some', if_pos rfl]; exact Rq.ok b E
  rw [if_neg k2]
  have h3 : inR k 3 = false := by
    cases hk : inR k 3 with
    | false => rfl
    | true =>
      obtain ⟨j, hj, hjk⟩ := inR_ex (by omega) hk
      rcases (show j = 0 ∨ j = 1 ∨ j = 2 by omega) with rfl | rfl | rfl
      · exact absurd hjk k0
      · exact absurd hjk k1
      · exact absurd hjk k2
  rw [h3, if_neg z_f]
  by_cases k3 : k = 3
  · subst k3
    rw [if_neg (by decide), if_pos rfl, if_pos rfl]; exact Rq.ok b E
  rw [if_neg k3]
  by_cases k4 : k = 4
  · subst k4
    rw [if_pos (by decide), show ((3 : Int32) + 4) - 4 = nI 3 from by decide, raw 3 (by omega), bind_some', if_pos rfl]; exact Rq.ok b E
  rw [if_neg k4]
  by_cases k5 : k = 5
  · subst k5
    rw [if_pos (by decide), show ((3 : Int32) + 5) - 4 = nI 4 from by decide, raw 4 (by omega), bind_some', if_pos rfl]; exact Rq.ok b E
  rw [if_neg k5]
  by_cases k6 : k = 6
  · subst k6
    rw [if_pos (by decide), show ((3 : Int32) + 6) - 4 = nI 5 from by decide, raw 5 (by omega), bind_some', if_pos rfl]; exact Rq.ok b E
  rw [if_neg k6]
  have h46' : decide (4 ≤ k ∧ k ≤ 6) = false := decide_eq_false (fun y => by
    have y1 := Int32.le_iff_toInt_le.mp y.1
    have y2 := Int32.le_iff_toInt_le.mp y.2
    rw [show (4 : Int32).toInt = 4 from rfl] at y1
    rw [show (6 : Int32).toInt = 6 from rfl] at y2
    rcases (show k.toInt = 4 ∨ k.toInt = 5 ∨ k.toInt = 6 by omega) with z | z | z
    · exact k4 (Int32.toInt_inj.mp z)
    · exact k5 (Int32.toInt_inj.mp z)
    · exact k6 (Int32.toInt_inj.mp z))
  rw [h46', if_neg z_f, if_neg k3, if_neg k4, if_neg k5, if_neg k6]
  by_cases k7 : k = 7
  · rw [if_pos k7, if_pos k7, sm_cg (fun x _ => show ovS A.1 x = fb_ct (ovC A.1 x) 25 from (ov_sum i).symm)]; exact Rq.ok b E
  rw [if_neg k7, if_neg k7]
  by_cases k8 : k = 8
  · rw [if_pos k8, if_pos k8, f3_cg (fun x y z hx hy hz => (ovC_eq (x := x) i hy (show z < 5 by omega)).symm)]; exact Rq.ok b E
  rw [if_neg k8, if_neg k8]
  by_cases k9 : k = 9
  · rw [if_pos k9, if_pos k9]; exact Rq.ok b9 (E.tr E9)
  rw [if_neg k9, if_neg k9]
  by_cases k10 : k = 10
  · rw [if_pos k10, if_pos k10]; exact Rq.ok b E
  rw [if_neg k10, if_neg k10]
  by_cases k11 : k = 11
  · rw [if_pos k11, if_pos k11]; exact Rq.ok b E
  rw [if_neg k11, if_neg k11]
  by_cases k12 : k = 12
  · rw [if_pos k12, if_pos k12]; exact Rq.ok b E
  rw [if_neg k12, if_neg k12]
  by_cases k13 : k = 13
  · rw [if_pos k13, if_pos k13]; exact Rq.ok b E
  rw [if_neg k13, if_neg k13]; exact Rq.ok b E
end RFX
