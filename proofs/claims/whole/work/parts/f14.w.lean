/-! ===== PURE 34: the class copies a world ===== -/
theorem wbs {α ρ : Type} (x : α) (s : Sto) (k : α → Sto → Option ρ) : wb (some (x, s)) k = k x s := rfl
section CPW
variable {R R' R2 : (Nat → Nat) → Prop} {O O2 : Nat → Prop} {L2 : Nat → Nat} {σ t : Sto} {a b c : Nat} {w w' w2 : Wd} {sl sl2 : Nat → Nat → Option Nat}
theorem CM'.ext (h : CM' R O σ b w sl) (h0 : wO8 b w' = wO8 b w) (h1 : wC w' 2 = wC w 2) (h2 : wK w' = wK w) (h3 : wE w' = wE w) (h4 : ∀ s, s < 5 → wL w' s = wL w s ∧ wS w' s = wS w s) (h5 : ∀ c, c < 25 → wT w' c = wT w c) (hR : ∀ cf, R cf → R' cf) : CM' R' O σ b w' sl := by
  obtain ⟨⟨a1, a2, a3, a4, a5, ⟨cf, a6, a6'⟩, a7, a8, a9, a10, a11, a12, a13⟩, hD⟩ := h
  refine ⟨⟨by rw [h0]; exact a1, by rw [h1, h2, h3]; exact a2, a3, a4, a5, ⟨cf, a6, hR cf a6'⟩, fun s hs => ?_, fun c hc => ?_, a9, fun c k l hc hl => ?_, a11, a12, a13⟩, hD⟩
  · rw [(h4 s hs).1, (h4 s hs).2]; exact a7 s hs
  · rw [h5 c hc]; exact a8 c hc
  · rw [h5 c hc] at hl; exact a10 c k l hc hl
theorem CM'.emp (h : CM' R O σ b w sl) (hc : c < 25) : ∃ t, sV σ (b + 204 + 2 * c) 4 0 (.int (nI 0)) = some t ∧ CM' R O t b (wT' w (up (wT w) c [])) sl ∧ Fr b 254 σ t := by
  have ho := h.1.ro hc
  have hF : Fr (b + 204 + 2 * c) 1 σ (stc σ (b + 204 + 2 * c) (.inl (4, [.int (nI 0), .ref (b + 205 + 2 * c)]))) := Fr.st ho (by omega) (by omega)
  obtain ⟨cf, c1, c2⟩ := h.1.2.2.2.2.2.1
  refine ⟨_, sV_cel ho (Nat.le_of_ble_eq_true rfl), ?_, hF.mo (by omega) (by omega)⟩
  show CM' R O (stc σ (b + 204 + 2 * c) (.inl (4, [.int (nI 0), .ref (b + 205 + 2 * c)]))) b _ sl
  refine ⟨⟨(hF.at (by omega)).trans h.1.1, h.1.ev.fr hF (by omega), (hF.at (by omega)).trans h.1.2.2.1, (hF.at (by omega)).trans h.1.2.2.2.1, (hF.at (by omega)).trans h.1.2.2.2.2.1, ⟨cf, (hF.at (by omega)).trans c1, c2⟩, fun s hs => ⟨?_, (h.1.SS hs).fr hF (by omega)⟩, fun c' hc' => ?_, fun c' k p hc' hk hp => ?_, fun c' k l hc' hl => ?_, h.1.o1, h.1.o2, h.1.o3⟩, h.2⟩
  · have : Ls b s = b + 134 + 14 * s := rfl
    exact (h.1.SL hs).fr hF (by omega)
  · show cel _ _ = some (.inl (4, [.int (nI (up (wT w) c [] c').length), .ref _])) ∧ _
    by_cases hcc : c' = c
    · subst hcc
      rw [up_s]
      exact ⟨cel_stc_s ho, (hF.at (by omega)).trans (h.1.rs hc')⟩
    · rw [up_n _ _ hcc]
      exact ⟨(hF.at (by omega)).trans (h.1.ro hc'), (hF.at (by omega)).trans (h.1.rs hc')⟩
  · obtain ⟨f, o, l, q⟩ := h.1.gb hc' hk hp
    have := h.2.1 c' k p hc' hk hp
    exact ⟨f, o, l, q.fr hF (by omega)⟩
  · have hl2 : (up (wT w) c [] c')[k]? = some l := hl
    by_cases hcc : c' = c
    · subst hcc
      rw [up_s] at hl2
      simp at hl2
    · rw [up_n _ _ hcc] at hl2
      obtain ⟨q0, p, q1, q2⟩ := h.1.lt hc' hl2
      have := h.2.1 c' k p hc' q0 q1
      exact ⟨q0, p, q1, q2.fr hF (by omega)⟩
theorem up_up {α : Type} (f : Nat → α) (k : Nat) (x y : α) : up (up f k x) k y = up f k y := by
  funext j
  unfold up
  split <;> rfl
/-- a row of letters copied from another world -/
theorem C_rowCopy (h : CM' R O σ b w sl) (hs : ∀ i, O i → i < σ.1.length) (h2 : CW' R2 O2 L2 σ a w2 sl2) (hs2 : ∀ i, O2 i → i < σ.1.length) (hd : ∀ i, O i → ¬ O2 i) (hc : c < 25) : ∃ t O' sl', F_X4_copyOf σ (b + 204 + 2 * c) (a + 204 + 2 * c) = some t ∧ CM' R O' t b (wT' w (up (wT w) c (wT w2 c))) sl' ∧ Gw O σ (nz sl) O' t (nz sl') := by
  have hl12 := h2.tl hc
  obtain ⟨t1, e1, h1, f1⟩ := h.emp hc
  have g1 : Gw O σ (nz sl) O t1 (nz sl) := Gw.fr f1 h.blk
  have keep : ∀ {O' : Nat → Prop} {t : Sto} {z z' : Nat}, Gw O σ z O' t z' → CW' R2 O2 L2 t a w2 sl2 := fun hG => h2.cg (fun i hi => hG.2.2.1 i (hs2 i hi) (fun z => hd i z hi))
  obtain ⟨t2, ⟨O', sl', h2', g2⟩, e2⟩ := lpS (fun fl j t => F_X4_copyOf_L7 (b + 204 + 2 * c) (a + 204 + 2 * c) fl (nI j) t (fun s8 => some s8)) (fun t => some t) (fun j t => ∃ O' sl', CM' R O' t b (wT' w (up (wT w) c ((wT w2 c).take j))) sl' ∧ Gw O σ (nz sl) O' t (nz sl')) (wT w2 c).length (by
    intro j fl t hj ⟨O', sl', h3, g3⟩
    have k3 := keep g3
    have hs3 := g3.sub hs
    have hlen : (wT (wT' w (up (wT w) c ((wT w2 c).take j))) c).length = j := by
      show (up (wT w) c ((wT w2 c).take j) c).length = j
      rw [up_s, List.length_take]; omega
    obtain ⟨p, t4, sl4, e4, a1, a2, a3, a4, ⟨x0, o0, l0, a5⟩, a6, a7⟩ := C_rowAppend h3 hc (by omega)
    have hlk : (wT w2 c)[j]? = some (wT w2 c)[j] := List.getElem?_eq_getElem hj
    obtain ⟨j12, pk, b1, b2'⟩ := k3.lt hc hlk
    have hpk : ∀ i, pk ≤ i → i < pk + 4 → O2 i := k3.o3 c j pk hc j12 b1
    have hpkO : ∀ i, pk ≤ i → i < pk + 4 → ¬ O' i ∧ i < t.1.length := fun i q1 q2 => by
      have q3 := hpk i q1 q2
      have q4 := hs2 i q3
      have q5 := g3.len
      refine ⟨fun z => ?_, by omega⟩
      rcases g3.2.1 i z with z | z
      · exact hd i z q3
      · omega
    have hblk : ∀ i, pk ≤ i → i < pk + 4 → i ≠ b + 204 + 2 * c ∧ i ≠ b + 205 + 2 * c := fun i q1 q2 => ⟨fun z => (hpkO i q1 q2).1 (h3.blk i (by omega) (by omega)), fun z => (hpkO i q1 q2).1 (h3.blk i (by omega) (by omega))⟩
    have hpp : p + 4 ≤ pk ∨ pk + 4 ≤ p := by
      rcases a7 with ⟨a8, -⟩ | ⟨-, a8, -⟩
      · refine Classical.byContradiction fun hx => ?_
        have hq : ∀ i, p ≤ i → i < p + 4 → O' i := h3.1.o3 c _ p hc (by omega) a8
        by_cases hle : p ≤ pk
        · exact (hpkO pk (by omega) (by omega)).1 (hq pk (by omega) (by omega))
        · exact (hpkO p (by omega) (by omega)).1 (hq p (by omega) (by omega))
      · right
        have := (hpkO (pk + 3) (by omega) (by omega)).2
        omega
    have same : ∀ i, O2 i → cel t4 i = cel t i := fun i hi => by
      have q4 := hs2 i hi
      have q5 := g3.len
      have nO : ¬ O' i := fun z => by
        rcases g3.2.1 i z with z | z
        · exact hd i z hi
        · omega
      exact a6 i (by omega) (fun z => nO (h3.blk i (by omega) (by omega))) (fun z => nO (h3.blk i (by omega) (by omega)))
    have k4 := k3.cg same
    obtain ⟨pk2, e5, b3, L4⟩ := C_at k4 hc hlk
    have hpe : pk2 = pk := by rw [b1] at b3; exact (Option.some.inj b3).symm
    subst hpe
    obtain ⟨t5, e6, L5, f5⟩ := C_letterCopy a5 L4 hpp
    obtain ⟨O5, h5, g5⟩ := h3.fill hs3 hc (by omega) a1 a2 a3 a4 a6 a7 L5 f5
    refine ⟨t5, ⟨O5, sl4, ?_, g3.tr g5⟩, ?_⟩
    · have : wT' (wT' w (up (wT w) c ((wT w2 c).take j))) (up (wT (wT' w (up (wT w) c ((wT w2 c).take j)))) c (wT (wT' w (up (wT w) c ((wT w2 c).take j))) c ++ [(wT w2 c)[j]])) = wT' w (up (wT w) c ((wT w2 c).take (j + 1))) := by
        show wT' w (up (up (wT w) c ((wT w2 c).take j)) c (up (wT w) c ((wT w2 c).take j) c ++ [(wT w2 c)[j]])) = _
        rw [up_up, up_s, tk hj]
      rw [this] at h5
      exact h5
    · rw [F_X4_copyOf_L7]
      rw [C_rowN k3 hc, bind_some', if_neg (by rw [nI_leI (by omega) (by omega)]; omega), e4, wbs, e5, wbs, e6, bind_some', l_1, nI_add]) (by
    intro fl t ⟨O', sl', h3, g3⟩
    have k3 := keep g3
    rw [F_X4_copyOf_L7, C_rowN k3 hc, bind_some', if_pos (nI_le (Nat.le_refl _) (by omega))]) fu t1 (by unfold fu; omega) ⟨O, sl, by rw [List.take_zero]; exact h1, g1⟩
  rw [List.take_length] at h2'
  refine ⟨t2, O', sl', ?_, h2', g2⟩
  unfold F_X4_copyOf
  rw [chk_eq (gOs_cel (h.1.ro hc)), l_0, e1, bind_some']
  exact e2
/-- a world copied -/
theorem C_worldCopy (h : CM O σ b w sl) (hs : ∀ i, O i → i < σ.1.length) (h2 : CM O2 σ a w2 sl2) (hs2 : ∀ i, O2 i → i < σ.1.length) (hd : ∀ i, O i → ¬ O2 i) (hc120 : wC w2 2 ≤ 120) : ∃ t O' sl', F_X8_copyOf σ b a = some t ∧ CM O' t b w2 sl' ∧ Gw O σ (nz sl) O' t (nz sl') := by
  have hab : a + 254 ≤ b ∨ b + 254 ≤ a := by
    refine Classical.byContradiction fun hx => ?_
    by_cases hle : a ≤ b
    · exact hd b (h.blk b (by omega) (by omega)) (h2.blk b (by omega) (by omega))
    · exact hd a (h.blk a (by omega) (by omega)) (h2.blk a (by omega) (by omega))
  have keepF : ∀ {t : Sto}, Fr b 254 σ t → CM O2 t a w2 sl2 := fun hF => h2.cg (fun i hi => hF.at (by
    refine Classical.byContradiction fun hx => hd i (h.blk i (by omega) (by omega)) hi))
  have keep : ∀ {O' : Nat → Prop} {t : Sto} {z z' : Nat}, Gw O σ z O' t z' → CM O2 t a w2 sl2 := fun hG => h2.cg (fun i hi => hG.2.2.1 i (hs2 i hi) (fun z => hd i z hi))
  obtain ⟨t1, e1, h1, f1⟩ := CM'.num h (k := 0) (j := 0) (v := wC w2 0) (by omega) rfl (by omega)
  obtain ⟨t2, e2, h2', f2⟩ := h1.num (k := 1) (j := 1) (v := wC w2 1) (by omega) rfl (by omega)
  obtain ⟨t3, e3, h3, f3⟩ := h2'.num (k := 2) (j := 6) (v := wC w2 6) (by omega) rfl (by omega)
  obtain ⟨t4, e4, h4, f4⟩ := h3.num (k := 3) (j := 3) (v := wC w2 3) (by omega) rfl (by omega)
  obtain ⟨t5, e5, h5, f5⟩ := h4.num (k := 4) (j := 4) (v := wC w2 4) (by omega) rfl (by omega)
  obtain ⟨t6, e6, h6, f6⟩ := h5.num (k := 5) (j := 5) (v := wC w2 5) (by omega) rfl (by omega)
  have k1 := keepF f1
  have k2 := keepF (f1.tr f2)
  have k3 := keepF (f1.tr (f2.tr f3))
  have k4 := keepF (f1.tr (f2.tr (f3.tr f4)))
  have k5 := keepF (f1.tr (f2.tr (f3.tr (f4.tr f5))))
  have F6 : Fr b 254 σ t6 := f1.tr (f2.tr (f3.tr (f4.tr (f5.tr f6))))
  have k6 := keepF F6
  obtain ⟨t7, e7, g7, f7⟩ := C_evCopy h6.1.ev k6.1.ev hc120 (by omega)
  obtain ⟨h7, f7'⟩ := h6.evs g7 f7
  have F7 := F6.tr f7'
  generalize hw7 : (up (wC (wC' (wC' (wC' (wC' (wC' (wC' w _) _) _) _) _) _)) 2 _, wX (wC' (wC' (wC' (wC' (wC' (wC' w _) _) _) _) _) _), wK w2, wE w2, wL (wC' (wC' (wC' (wC' (wC' (wC' w _) _) _) _) _) _), wS (wC' (wC' (wC' (wC' (wC' (wC' w _) _) _) _) _) _), wT (wC' (wC' (wC' (wC' (wC' (wC' w _) _) _) _) _) _)) = w7 at h7
  have wO7 : wO8 b w7 = wO8 b w2 := by rw [← hw7]; rfl
  have wC7 : wC w7 2 = wC w2 2 := by rw [← hw7]; rfl
  have wK7 : wK w7 = wK w2 := by rw [← hw7]; rfl
  have wE7 : wE w7 = wE w2 := by rw [← hw7]; rfl
  clear hw7
  obtain ⟨t8, ⟨Lf, Sf, h8, F8, q8⟩, e8⟩ := lpS (fun fl j t => F_X8_copyOf_L61 b a fl (nI j) t (fun s26 => F_X8_copyOf_L104 b a fu (0 : Int32) s26 (fun s36 => some s36))) (fun s26 => F_X8_copyOf_L104 b a fu (0 : Int32) s26 (fun s36 => some s36)) (fun j t => ∃ Lf Sf, CM' (RX w) O t b (wS' (wL' w7 Lf) Sf) sl ∧ Fr b 254 σ t ∧ ∀ s, s < j → Lf s = wL w2 s ∧ Sf s = wS w2 s) 5 (by
    intro j fl t hj ⟨Lf, Sf, h8, F8, q8⟩
    have hLj : Ls b j = b + 134 + 14 * j := rfl
    have hLa : Ls a j = a + 134 + 14 * j := rfl
    have k8 := keepF F8
    obtain ⟨u1, a1, a2, a3⟩ := C_siteCopy (h8.1.SL hj) (k8.1.SL hj) (by omega)
    obtain ⟨h9, f9⟩ := h8.site hj a2 a3
    have k9 := keepF (F8.tr f9)
    obtain ⟨u2, b1, b2', b3⟩ := C_siteCopy (h9.1.SS hj) (k9.1.SS hj) (by omega)
    obtain ⟨h10, f10⟩ := h9.saved hj b2' b3
    refine ⟨u2, ⟨up Lf j (wL w2 j), up Sf j (wS w2 j), h10, F8.tr (f9.tr f10), fun s hs => ?_⟩, ?_⟩
    · by_cases hsj : s = j
      · subst hsj; rw [up_s, up_s]; exact ⟨rfl, rfl⟩
      · rw [up_n _ _ hsj, up_n _ _ hsj]; exact q8 s (by omega)
    · rw [F_X8_copyOf_L61]
      simp (disch := omega) only [l_0, l_1, l_2, l_3, l_4, l_5, l_6, l_7, l_8, l_9, l_10, l_12, l_25, l_29, l_33, l_34, l_120, l_122, l_147, l_154, l_274, l_394, l_395, l_789, l_3953, l_5153, l_5178, l_49278, l_49279, l_49280, bind_some', jn_eq, nI_add, pk_mul, nI_leI, nI_ltI, nI_eq, ifb, ifz, R_flag0, R_flag1, R_flag, if_true, if_false, if_neg, h8.1.r7, h8.1.lv hj, k8.1.r7, k8.1.lv hj, a1, h9.1.r8, h9.1.sd hj, k9.1.r8, k9.1.sd hj, b1]) (by
    intro fl t _
    rw [F_X8_copyOf_L61, l_5, if_pos (nI_le (Nat.le_refl _) (by omega))]) fu t7 (by unfold fu; omega) ⟨wL w7, wS w7, h7, F7, fun s hs => absurd hs (Nat.not_lt_zero s)⟩
  generalize hw8 : wS' (wL' w7 Lf) Sf = w8 at h8
  have wO8' : wO8 b w8 = wO8 b w2 := by rw [← hw8]; exact wO7
  have wC8 : wC w8 2 = wC w2 2 := by rw [← hw8]; exact wC7
  have wK8 : wK w8 = wK w2 := by rw [← hw8]; exact wK7
  have wE8 : wE w8 = wE w2 := by rw [← hw8]; exact wE7
  have wLS8 : ∀ s, s < 5 → wL w8 s = wL w2 s ∧ wS w8 s = wS w2 s := fun s hs => by rw [← hw8]; exact q8 s hs
  clear hw8
  obtain ⟨cf2, z2, r2⟩ := h2.1.2.2.2.2.2.1
  have c01 : ∀ i, i < 25 → cf2 i = 0 ∨ cf2 i = 1 := fun i hi => by
    have := r2 (i / 5) (i % 5) (by omega) (by omega)
    rw [show 5 * (i / 5) + i % 5 = i by omega] at this
    rw [this]; exact b2_01 _
  have g8 : Gw O σ (nz sl) O t8 (nz sl) := Gw.fr F8 h.blk
  obtain ⟨t9, ⟨O', sl', Tf, h9, g9, q9⟩, e9⟩ := lpS (fun fl j t => F_X8_copyOf_L104 b a fl (nI j) t (fun s36 => some s36)) (fun t => some t) (fun j t => ∃ O' sl' Tf, CM' (fun cf => ∀ i, i < j → cf i = cf2 i) O' t b (wT' w8 Tf) sl' ∧ Gw O σ (nz sl) O' t (nz sl') ∧ ∀ c, c < j → Tf c = wT w2 c) 25 (by
    intro j fl t hj ⟨O', sl', Tf, h9, g9, q9⟩
    have k9 := keep g9
    have hs9 := g9.sub hs
    have hd9 : ∀ i, O' i → ¬ O2 i := fun i z1 z2 => by
      rcases g9.2.1 i z1 with z | z
      · exact hd i z z2
      · have := hs2 i z2; omega
    obtain ⟨u1, O1, sl1, a1, a2, a3⟩ := C_rowCopy h9 hs9 k9.1 (fun i hi => by have := hs2 i hi; have := g9.len; omega) hd9 hj
    have g10 := g9.tr a3
    have k10 := keep g10
    obtain ⟨cf, c1, c2⟩ := a2.1.2.2.2.2.2.1
    obtain ⟨cfa, d1, d2⟩ := k10.1.2.2.2.2.2.1
    have hcfa : cfa j = cf2 j := by
      have x1 := d2 (j / 5) (j % 5) (by omega) (by omega)
      have x2 := r2 (j / 5) (j % 5) (by omega) (by omega)
      rw [show 5 * (j / 5) + j % 5 = j by omega] at x1 x2
      rw [x1, x2]
    obtain ⟨u2, b1, b2', b3⟩ := c1.wr (j := j) (v := cf2 j) hj (by decide) (c01 j hj)
    have b4 : Fr b 254 u1 u2 := b3.mo (by omega) (by omega)
    have hz : zald u1 (a + 133) (nI j) = some (nI (cf2 j)) := by rw [zald_cel d1 hj (by decide), hcfa]
    refine ⟨u2, ⟨O1, sl1, up Tf j (wT w2 j), ?_, g10.tr (Gw.fr b4 a2.blk), fun c hc => ?_⟩, ?_⟩
    · refine a2.upd b4 rfl ((b3.at (by omega)).trans a2.1.1) (a2.1.ev.fr b3 (by omega)) ((b3.at (by omega)).trans a2.1.2.2.1) ((b3.at (by omega)).trans a2.1.2.2.2.1) ((b3.at (by omega)).trans a2.1.2.2.2.2.1) ⟨_, b2', fun i hi => ?_⟩ (fun s hs => ⟨?_, (a2.1.SS hs).fr b3 (by omega)⟩) (fun c hc => ⟨(b3.at (by omega)).trans (a2.1.ro hc), (b3.at (by omega)).trans (a2.1.rs hc)⟩)
      · by_cases hij : i = j
        · subst hij; rw [upN_s]
        · rw [upN_n hij]; exact c2 i (by omega)
      · have : Ls b s = b + 134 + 14 * s := rfl
        exact (a2.1.SL hs).fr b3 (by omega)
    · by_cases hcj : c = j
      · subst hcj; rw [up_s]
      · rw [up_n _ _ hcj]; exact q9 c (by omega)
    · rw [F_X8_copyOf_L104]
      rw [l_25, if_neg (by rw [nI_leI (by omega) (by omega)]; omega), h9.1.r9, bind_some', h9.1.rw hj, bind_some', k9.1.r9, bind_some', k9.1.rw hj, bind_some', a1, bind_some', a2.1.r10, bind_some', k10.1.r10, bind_some', hz, bind_some', b1, bind_some', l_1, nI_add]) (by
    intro fl t _
    rw [F_X8_copyOf_L104, l_25, if_pos (nI_le (Nat.le_refl _) (by omega))]) fu t8 (by unfold fu; omega) ⟨O, sl, wT w8, h8.ext rfl rfl rfl rfl (fun _ _ => ⟨rfl, rfl⟩) (fun _ _ => rfl) (fun _ _ i hi => absurd hi (Nat.not_lt_zero i)), g8, fun c hc => absurd hc (Nat.not_lt_zero c)⟩
  refine ⟨t9, O', sl', ?_, ?_, g9⟩
  · have x1 := k1.1.i1
    have x2 := k2.1.i2
    have x3 := k3.1.i3
    have x4 := k4.1.i4
    have x5 := k5.1.i5
    unfold F_X8_copyOf
    rw [l_0] at e8
    rw [chk_eq h.1.ok, h2.1.i0, bind_some', e1, bind_some', x1, bind_some', e2, bind_some', x2, bind_some', e3, bind_some', x3, bind_some', e4, bind_some', x4, bind_some', e5, bind_some', x5, bind_some', e6, bind_some', h6.1.r6, bind_some', k6.1.r6, bind_some', e7, bind_some', l_0, e8]
    exact e9
  · refine h9.ext wO8'.symm wC8.symm wK8.symm wE8.symm (fun s hs => ⟨(wLS8 s hs).1.symm, (wLS8 s hs).2.symm⟩) (fun c hc => (q9 c hc).symm) (fun cf hcf f o hf ho => ?_)
    rw [hcf _ (by omega)]
    exact r2 f o hf ho
end CPW
