/-! ===== PURE 107: the reference's fewest couples ===== -/
section BFS
variable {s t : Sto} {a : Nat} {M : Ms} {A : Ga}
theorem R_wipe (b : RB s a M A) (k : Sto → Option (Int32 × Sto)) : ∃ t M', F_X10_search_L2 a fu (nI 0) s k = k t ∧ RB t a M' A ∧ Eo a s t ∧ M'.2.2 0 = M.2.2 0 ∧ ∀ x, x < 4096 → M'.2.2 8 x = 0 := by
  obtain ⟨t1, ⟨M1, b1, E1, w1, z1⟩, e1⟩ := lpS (fun fl j t => F_X10_search_L2 a fl (nI j) t k) k (fun j t => ∃ M', RB t a M' A ∧ Eo a s t ∧ M'.2.2 0 = M.2.2 0 ∧ ∀ x, x < j → M'.2.2 8 x = 0) 4096 (by
    intro j fl t hj ⟨M1, b1, E1, w1, z1⟩
    obtain ⟨t2, e2, b2, E2⟩ := b1.z8 (v := 0) hj (Or.inl rfl)
    refine ⟨t2, ⟨_, b2, E1.tr E2, by rw [uN_o (by decide)]; exact w1, fun x hx => ?_⟩, ?_⟩
    · rw [uN_at]
      by_cases hxj : x = j
      · rw [hxj, upN_s]
      · rw [upN_n hxj]; exact z1 x (by omega)
    · show F_X10_search_L2 a (fl + 1) (nI j) t k = F_X10_search_L2 a fl (nI (j + 1)) t2 k
      rw [F_X10_search_L2, l_4096, if_neg (by rw [nI_leI (by omega) (by omega)]; omega), b1.g14, bind_some', l_0, e2, bind_some', nI_add1]) (by
    intro fl t _
    show F_X10_search_L2 a (fl + 1) (nI 4096) t k = k t
    rw [F_X10_search_L2, l_4096, if_pos (Int32.le_refl _)]) fu s (by unfold fu; omega) ⟨M, b, Eo.rf, rfl, fun x hx => by omega⟩
  exact ⟨t1, M1, e1, b1, E1, w1, z1⟩
/-- the search's answer -/
def SO (A : Ga) (a : Nat) (s : Sto) (W : Nat → Nat) (res : Option (Int32 × Sto)) : Prop := (∃ t M U N h, res = some (nI (wrd (U h)), t) ∧ h < N ∧ RB t a M A ∧ Eo a s t ∧ BQ A.1 (wC A.1 0) (alkR W (wC A.1 0)) U N h 0 ∧ BM M U N ∧ alkR W (wC A.1 0) (wrd (U h)) = true) ∨ ∃ t M U N, res = some ((-1 : Int32), t) ∧ RB t a M A ∧ Eo a s t ∧ BQ A.1 (wC A.1 0) (alkR W (wC A.1 0)) U N N 0
theorem R_layers (i : Iv A.1) (hn : wC A.1 0 ≤ 4) {W : Nat → Nat} : ∀ (d f h N : Nat) (t : Sto) (M : Ms) (U : Nat → Pq), h + d = 4096 → d < f → RB t a M A → Eo a s t → M.2.2 0 = W → BQ A.1 (wC A.1 0) (alkR W (wC A.1 0)) U N h 0 → BM M U N → SO A a s W (F_X10_search_L47 a f (nI N) (nI h) t (fun s32 => some ((-1 : Int32), s32))) := by
  have hn2 := i.n2
  intro d
  induction d with
  | zero =>
    intro f h N t M U hd hf b E hW bq bm
    cases f with
    | zero => omega
    | succ f =>
      have h1 := bm.le
      have h2 := bq.2.1.2.2
      have hNh : h = N := by omega
      rw [hNh] at bq
      rw [hNh, F_X10_search_L47, if_pos (Int32.le_refl _)]
      exact Or.inr ⟨t, M, U, N, rfl, b, E, bq⟩
  | succ d ih =>
    intro f h N t M U hd hf b E hW bq bm
    cases f with
    | zero => omega
    | succ f =>
      have h1 := bm.le
      have h2 := bq.2.1.2.2
      by_cases hNh : h = N
      · rw [hNh] at bq
        rw [hNh, F_X10_search_L47, if_pos (Int32.le_refl _)]
        exact Or.inr ⟨t, M, U, N, rfl, b, E, bq⟩
      · have hh : h < N := by omega
        have hwl := wrd_lt hn (bq.1 h hh)
        rw [F_X10_search_L47, if_neg (by rw [nI_leI (by omega) (by omega)]; omega), b.g17, bind_some', b.ra (by omega) (by omega) (by omega), bind_some', bm.2.2.1 h hh, R_isAlike b hn hn2 hwl, bind_some', ifb0, hW]
        cases hg : alkR W (wC A.1 0) (wrd (U h)) with
        | true =>
          rw [if_pos rfl]
          exact Or.inl ⟨t, M, U, N, h, rfl, hh, b, E, bq, bm, hg⟩
        | false =>
          rw [if_neg (by decide), nI_add1]
          obtain ⟨N', t', ⟨M', U', b', E', hW', bq', bm', hh', hwv'⟩, e'⟩ := R_couples i hn hwl (W := W) (s := s) (t := t) (N := N) (h := h) (v := wrd (U h)) ⟨M, U, b, E, hW, bq, bm, hh, rfl⟩ (fun x30 s31 => F_X10_search_L47 a f x30 (nI (h + 1)) s31 (fun s32 => some ((-1 : Int32), s32)))
          dsimp only at b' E' bq' bm' hh'
          rw [show F_X10_search_L72 a (nI (wrd (U h))) fu (nI N) 0 t (fun x30 s31 => F_X10_search_L47 a f x30 (nI (h + 1)) s31 (fun s32 => some ((-1 : Int32), s32))) = _ from e']
          exact ih f (h + 1) N' t' M' U' (by omega) (by omega) b' E' hW' (bq'.next hh' (by rw [hwv']; exact hg) rfl hn) bm'
theorem R_search (b : RB s a M A) (i : Iv A.1) (hn : wC A.1 0 ≤ 4) : SO A a s (M.2.2 0) (F_X10_search s a) := by
  unfold F_X10_search
  obtain ⟨t1, M1, e1, b1, E1, w1, z1⟩ := R_wipe b (fun s3 =>
      (gR s3 a 10 14).bind fun p4 =>
      (zast s3 p4 (0 : Int32) (1 : Int32)).bind fun s5 =>
      (gR s5 a 10 15).bind fun p6 =>
      (iast s5 p6 (0 : Int32) (-1 : Int32)).bind fun s7 =>
      (gR s7 a 10 17).bind fun p8 =>
      (iast s7 p8 (0 : Int32) (0 : Int32)).bind fun s9 =>
      F_X10_search_L47 a fu (1 : Int32) (0 : Int32) s9
        (fun s32 =>
          some ((-1 : Int32), s32)
        ))
  obtain ⟨t2, e2, b2, E2⟩ := b1.z8 (j := 0) (v := 1) (by omega) (Or.inr rfl)
  obtain ⟨t3, e3, b3, E3⟩ := b2.wa (k := 9) (j := 0) (v := 4294967295) (by omega) (by omega) (by omega)
  obtain ⟨t4, e4, b4, E4⟩ := b3.wa (k := 11) (j := 0) (v := 0) (by omega) (by omega) (by omega)
  rw [chk_eq b.ok, show F_X10_search_L2 a fu 0 s _ = _ from e1]
  rw [b1.g14, bind_some', show zast t1 (a + 9) 0 1 = some t2 from e2, bind_some', b2.g15, bind_some', l_m1, show iast t2 (a + 1 + 9) 0 (nI 4294967295) = some t3 from e3, bind_some', b3.g17, bind_some', show iast t3 (a + 1 + 11) 0 0 = some t4 from e4, bind_some', ← l_m1]
  refine R_layers i hn 4096 fu 0 1 t4 _ (fun _ => []) (by omega) (by unfold fu; omega) b4 (E1.tr (E2.tr (E3.tr E4))) ?_ BQ.start ?_
  · rw [uN_o (by decide), uN_o (by decide), uN_o (by decide)]; exact w1
  · have e8 : (uN (uN (uN M1 8 0 1) 9 0 4294967295) 11 0 0).2.2 8 = upN (M1.2.2 8) 0 1 := by
      rw [uN_o (by decide), uN_o (by decide), uN_at]
    have e9 : (uN (uN (uN M1 8 0 1) 9 0 4294967295) 11 0 0).2.2 9 = upN (M1.2.2 9) 0 4294967295 := by
      rw [uN_o (by decide), uN_at, uN_o (by decide)]
    have e11 : (uN (uN (uN M1 8 0 1) 9 0 4294967295) 11 0 0).2.2 11 = upN (M1.2.2 11) 0 0 := by
      rw [uN_at, uN_o (by decide), uN_o (by decide)]
    have hw0 : wrd [] = 0 := rfl
    unfold BM
    rw [e8, e9, e11]
    refine ⟨fun x hx => ?_, ?_, fun j hj => ?_, fun j hj => ⟨fun _ => ?_, fun p y hp => absurd hp (by simp)⟩⟩
    · by_cases hx0 : x = 0
      · rw [hx0, upN_s]
        exact Or.inl ⟨rfl, 0, by omega, hw0⟩
      · rw [upN_n hx0]
        exact Or.inr ⟨z1 x hx, fun j _ => by rw [hw0]; omega⟩
    · have h := fb_ct_upd (fun x => decide (M1.2.2 8 x = 1)) true (show 0 < 4096 by omega)
      have e : fb_ct (fun k => if k = 0 then true else decide (M1.2.2 8 k = 1)) 4096 = fb_ct (fun z => decide (upN (M1.2.2 8) 0 1 z = 1)) 4096 := fb_ct_cong (fun k _ => by
        unfold upN
        by_cases hk : k = 0
        · rw [if_pos hk, if_pos hk]; rfl
        · rw [if_neg hk, if_neg hk])
      have e0 : fb_ct (fun x => decide (M1.2.2 8 x = 1)) 4096 = 0 := fb_ct_zero.mpr (fun x hx => decide_eq_false (by rw [z1 x hx]; omega))
      rw [← e]
      have hd : decide (M1.2.2 8 0 = 1) = false := decide_eq_false (by rw [z1 0 (by omega)]; omega)
      rw [hd, e0, if_neg (by decide), if_pos rfl] at h
      omega
    · rw [show j = 0 by omega, upN_s, hw0]
    · rw [hw0, upN_s]
/-- the couples are written down from the last to the first -/
theorem R_walk (hn : wC A.1 0 ≤ 4) {G : Nat → Bool} {M0 : Ms} {U : Nat → Pq} {N h m : Nat} (bq : BQ A.1 (wC A.1 0) G U N h m) (bm : BM M0 U N) (kk : Int32 → Sto → Option (Int32 × Sto)) : ∀ (d : Nat) (p : Pq) (c f : Nat) (t : Sto) (M1 : Ms) (j : Nat), p.length = d → j < N → U j = p → c + d < 4096 → d < f → RB t a M1 A → M1.2.2 9 = M0.2.2 9 → M1.2.2 10 = M0.2.2 10 → ∃ t' M2, F_X10_fewest_L44 a f (nI c) (nI (wrd p)) t kk = kk (nI (c + d)) t' ∧ RB t' a M2 A ∧ Eo a t t' ∧ (∀ x, x < c → M2.2.2 12 x = M1.2.2 12 x) ∧ ∀ x y, p[x]? = some y → M2.2.2 12 (c + d - 1 - x) = 10 * y.1 + y.2 := by
  intro d
  induction d with
  | zero =>
    intro p c f t M1 j hd hj hU hc hf b m9 m10
    cases f with
    | zero => omega
    | succ f =>
      have hp0 : p = [] := List.length_eq_zero_iff.mp hd
      have hwl := wrd_lt hn (bq.1 j hj)
      rw [hU] at hwl
      have h9 := (bm.2.2.2 j hj).1 (hU.trans hp0)
      rw [hU, ← m9] at h9
      refine ⟨t, M1, ?_, b, Eo.rf, fun _ _ => rfl, fun x y hx => ?_⟩
      · rw [F_X10_fewest_L44, b.g15, bind_some', b.ra (by omega) (by omega) hwl, bind_some', h9, ← l_m1, if_pos rfl]
        rfl
      · rw [hp0] at hx; simp at hx
  | succ d ih =>
    intro p c f t M1 j hd hj hU hc hf b m9 m10
    cases f with
    | zero => omega
    | succ f =>
      rcases sn_ex p with hp0 | ⟨p', y, hp'⟩
      · rw [hp0] at hd; cases hd
      have hwl := wrd_lt hn (bq.1 j hj)
      rw [hU] at hwl
      have h9 := (bm.2.2.2 j hj).2 p' y (hU.trans hp')
      rw [hU, ← m9, ← m10] at h9
      have hok := bq.1 j hj
      rw [hU, hp'] at hok
      have hwl' := wrd_lt hn (okP_sn.mp hok).1
      have hl : p'.length = d := by rw [hp', List.length_append] at hd; simpa using hd
      obtain ⟨j', hj', hU'⟩ : ∃ j', j' < N ∧ U j' = p' := by
        rcases bq.2.2.2.2.2.2 j hj with h0 | ⟨i, z, h1, h2⟩
        · rw [h0, bq.2.1.2.1] at hU
          rw [← hU] at hd
          cases hd
        · refine ⟨i, by omega, ?_⟩
          rw [hU, hp'] at h2
          exact (List.append_inj' h2 rfl).1.symm
      obtain ⟨t1, e1, b1, E1⟩ := b.wa (k := 12) (j := c) (v := 10 * y.1 + y.2) (by omega) (by omega) (by omega)
      have n9 : (uN M1 12 c (10 * y.1 + y.2)).2.2 9 = M1.2.2 9 := uN_o (by decide)
      have n10 : (uN M1 12 c (10 * y.1 + y.2)).2.2 10 = M1.2.2 10 := uN_o (by decide)
      obtain ⟨t2, M2, e2, b2, E2, r1, r2⟩ := ih p' (c + 1) f t1 _ j' hl hj' hU' (by omega) (by omega) b1 (n9.trans m9) (n10.trans m10)
      refine ⟨t2, M2, ?_, b2, E1.tr E2, fun x hx => ?_, fun x z hx => ?_⟩
      · rw [F_X10_fewest_L44, b.g15, bind_some', b.ra (by omega) (by omega) hwl, bind_some', h9.1, if_neg (oI_n1 (by omega)), b.g18, bind_some', b.g16, bind_some', b.ra (by omega) (by omega) hwl, bind_some', h9.2, e1, bind_some', b1.g15, bind_some', b1.ra (by omega) (by omega) hwl, bind_some', n9, h9.1, nI_add1, e2, show c + 1 + d = c + (d + 1) by omega]
      · rw [r1 x (by omega), uN_at, upN_n (by omega)]
      · rw [hp'] at hx
        by_cases hxl : x < p'.length
        · rw [List.getElem?_append_left hxl] at hx
          have := r2 x z hx
          rw [show c + 1 + d - 1 - x = c + (d + 1) - 1 - x by omega] at this
          exact this
        · have hxe : x = p'.length := by
            have := (List.getElem?_eq_some_iff.mp hx).1
            rw [List.length_append] at this
            have h1 : [y].length = 1 := rfl
            omega
          rw [hxe, List.getElem?_append_right (Nat.le_refl _), Nat.sub_self] at hx
          have hz : y = z := by simpa using hx
          rw [hxe, hl, show c + (d + 1) - 1 - d = c by omega, r1 c (by omega), uN_at, upN_s, hz]
end BFS
theorem few_ok : FewOK := by
  intro s a c A k h i
  obtain ⟨s1, s2, M, e1, e2, b, E, o⟩ := h.go2
  have hn5 := i.n5
  have hn2 := i.n2
  unfold F_X10_fewest aFew
  rw [chk_eq o, e1, bind_some', e2, bind_some', b.1.wd, bind_some', b.n0, bind_some', l_5, ifE (by omega) (by omega)]
  by_cases h5 : wC A.1 0 = 5
  · rw [if_pos h5]
    have hf : fnd A.1 = none := by unfold fnd; rw [if_neg (by omega)]
    rw [hf]
    refine ⟨s2, ?_, E, b.rj⟩
    by_cases hk : k = -1
    · rw [if_pos hk]; rfl
    · rw [if_neg hk]
  rw [if_neg h5]
  have hn : wC A.1 0 ≤ 4 := by omega
  have m1 : (-1 : Int32).toInt = -1 := by decide
  have z0 : (0 : Int32).toInt = 0 := by decide
  by_cases hk1 : (-1 : Int32) ≤ k
  · rw [if_pos hk1]
    rcases R_search b i hn with ⟨t, M', U, N, j, r1, hj, b', E', bq, bm, hg⟩ | ⟨t, M', U, N, r1, b', E', bq⟩
    · have hok := bq.1 j hj
      have hwl := wrd_lt hn hok
      have hgl := (alk_lea b.rw i hn hok).mp hg
      have hf : fnd A.1 = some (U j) := by
        rcases fnd_spec i hn with ⟨p, f1, f2, f3, f4⟩ | ⟨f1, f2⟩
        · have c1 := f4 _ hok hgl
          have c2 := bq.found hj f2 ((alk_lea b.rw i hn f2).mpr f3)
          rw [f1, cdc_inj hn p.length p (U j) rfl f2 hok (by omega)]
        · exact absurd hgl (f2 _ hok)
      have hl := fnd_le (by omega) hf
      obtain ⟨t2, M2, e3, b3, E3, q1, q2⟩ := R_walk hn bq bm (fun x15 s16 =>
            if k = (-1 : Int32) then (
              some (x15, s16)
            ) else (
              if x15 ≤ k then (
                some ((-1 : Int32), s16)
              ) else (
                (gR s16 a 10 18).bind fun p17 =>
                (iald s16 p17 ((x15 - (1 : Int32)) - k)).bind fun x18 =>
                some (x18, s16)
              )
            )) (U j).length (U j) 0 fu t M' j rfl hj rfl (by omega) (by unfold fu; omega) b' rfl rfl
      rw [r1, wbs, if_neg (oI_n1 (by omega)), show F_X10_fewest_L44 a fu 0 (nI (wrd (U j))) t _ = _ from e3, hf, Nat.zero_add]
      rw [Nat.zero_add] at q2
      have EE' := E.tr (E'.tr E3)
      by_cases hk : k = -1
      · rw [if_pos hk, if_pos hk]
        exact ⟨t2, rfl, EE', b3.rj⟩
      rw [if_neg hk, if_neg hk]
      dsimp only
      by_cases hle : nI (U j).length ≤ k
      · rw [if_pos hle, if_neg (by
          intro z
          have := (of_decide_eq_true z).2
          exact Int32.not_lt.mpr hle this)]
        exact ⟨t2, rfl, EE', b3.rj⟩
      · have hin : inR k (U j).length = true := decide_eq_true ⟨by
          rw [Int32.le_iff_toInt_le] at hk1 ⊢
          have : k.toInt ≠ -1 := fun z => hk (Int32.toInt_inj.mp (z.trans m1.symm))
          omega, Int32.not_le.mp hle⟩
        obtain ⟨k1, k2⟩ := inR_tN (by omega) hin
        rw [if_neg hle, if_pos hin, b3.g18, bind_some', nI_k1 (by omega)]
        have hg2 : (U j)[tN k]? = some ((U j).getD (tN k) (0, 0)) := by
          rw [List.getD_eq_getElem?_getD, List.getElem?_eq_getElem k2]
          rfl
        have q3 := q2 _ _ hg2
        have hr : iald t2 (a + 1 + 12) (nI ((U j).length - 1) - k) = some (nI (10 * ((U j).getD (tN k) (0, 0)).1 + ((U j).getD (tN k) (0, 0)).2)) := by
          rw [show nI ((U j).length - 1) - k = nI ((U j).length - 1 - tN k) from (congrArg (fun z => nI ((U j).length - 1) - z) k1).trans (pk_sub (by omega)), b3.ra (by omega) (by omega) (by omega), q3]
        rw [hr, bind_some']
        exact ⟨t2, rfl, EE', b3.rj⟩
    · have hf : fnd A.1 = none := by
        rcases fnd_spec i hn with ⟨p, f1, f2, f3, f4⟩ | ⟨f1, f2⟩
        · have := bq.empty f2
          rw [(alk_lea b.rw i hn f2).mpr f3] at this
          cases this
        · exact f1
      rw [r1, wbs, if_pos rfl, hf]
      refine ⟨t, ?_, E.tr E', b'.rj⟩
      by_cases hk : k = -1
      · rw [if_pos hk]; rfl
      · rw [if_neg hk]
  · rw [if_neg hk1]
    have hk : k ≠ -1 := fun z => hk1 (by rw [z]; exact Int32.le_refl _)
    rw [if_neg hk]
    refine ⟨s2, ?_, E, b.rj⟩
    cases fnd A.1 with
    | none => rfl
    | some p =>
      dsimp only
      rw [if_neg (by
        intro z
        have := (of_decide_eq_true z).1
        apply hk1
        rw [Int32.le_iff_toInt_le] at this ⊢
        omega)]
