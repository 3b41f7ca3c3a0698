/-! ===== PURE 33: the class's world begins anew; a world copied ===== -/
section BEG
variable {R R' : (Nat → Nat) → Prop} {O : Nat → Prop} {σ t : Sto} {b : Nat} {w w' : Wd} {sl : Nat → Nat → Option Nat}
/-- the rows of letters are emptied -/
theorem CM'.reset (h : CM' R O σ b w sl) (hF : Fr b 254 σ t) (hT : ∀ c, c < 25 → wT w' c = []) (h1 : cel t b = some (.inl (8, wO8 b w'))) (h2 : EE t (b + 1) (wC w' 2) (wK w') (wE w')) (h3 : RA t (b + 130) 4 5 (rfN 5 (Ls b))) (h4 : RA t (b + 131) 4 5 (rfN 5 (fun s => b + 141 + 14 * s))) (h5 : RA t (b + 132) 5 25 (rfN 25 (fun c => b + 204 + 2 * c)))
    (h6 : ∃ cf, ZA t (b + 133) 25 cf ∧ R' cf) (h7 : ∀ s, s < 5 → SI t (Ls b s) (wL w' s) ∧ SI t (b + 141 + 14 * s) (wS w' s))
    (h8 : ∀ c, c < 25 → cel t (b + 204 + 2 * c) = some (.inl (4, [.int (nI 0), .ref (b + 205 + 2 * c)])) ∧ RA t (b + 205 + 2 * c) 6 12 (sl c)) : CM' R' O t b w' sl := by
  obtain ⟨h, hD⟩ := h
  refine ⟨⟨h1, h2, h3, h4, h5, h6, h7, fun c hc => ?_, fun c k p hc hk hp => ?_, fun c k l hc hl => ?_, h.o1, h.o2, h.o3⟩, hD⟩
  · rw [hT c hc]; exact h8 c hc
  · obtain ⟨f, o, l, a⟩ := h.gb hc hk hp
    have := hD.1 c k p hc hk hp
    exact ⟨f, o, l, a.fr hF (by omega)⟩
  · rw [hT c hc] at hl
    simp at hl
theorem SI.beg {p : Nat} {x y : Nat → Nat} (h : SI σ p (fun _ => 0, fun _ => false, fun _ => false, [], x, y)) : SI σ p sBeg := by
  obtain ⟨lf, tf, hf, bf, a1, a2, a3, a4, a5, a6, a7, a8, a9, a10, a11⟩ := h
  exact ⟨lf, tf, hf, bf, a1, a2, a3, a4, a5, a6, a7, a8, a9, fun e _ hh => absurd hh (by show ¬ (false = true); decide), a11⟩
theorem C_begin (h : CM O σ b w sl) {n : Nat} : ∃ t, F_X8_begin σ b (nI n) = some t ∧ CM O t b (wBeg n (wC w 1)) sl ∧ Fr b 254 σ t := by
  obtain ⟨t1, e1, h1, f1⟩ := CM'.num h (k := 0) (j := 0) (v := n) (by omega) rfl (by omega)
  obtain ⟨t2, e2, h2, f2⟩ := h1.num (k := 2) (j := 6) (v := 0) (by omega) rfl (by omega)
  obtain ⟨t3, e3, h3, f3⟩ := h2.num (k := 3) (j := 3) (v := 0) (by omega) rfl (by omega)
  obtain ⟨t4, e4, h4, f4⟩ := h3.num (k := 4) (j := 4) (v := 0) (by omega) rfl (by omega)
  obtain ⟨t5, e5, h5, f5⟩ := h4.num (k := 5) (j := 5) (v := 0) (by omega) rfl (by omega)
  obtain ⟨t6, e6, g6, f6⟩ := C_evClear h5.1.ev
  obtain ⟨h6, f6'⟩ := h5.evs g6 f6
  have F6 : Fr b 254 σ t6 := f1.tr (f2.tr (f3.tr (f4.tr (f5.tr f6'))))
  generalize hw6 : (up (wC (wC' (wC' (wC' (wC' (wC' w _) _) _) _) _)) 2 0, wX (wC' (wC' (wC' (wC' (wC' w _) _) _) _) _), _, _, wL (wC' (wC' (wC' (wC' (wC' w _) _) _) _) _), wS (wC' (wC' (wC' (wC' (wC' w _) _) _) _) _), wT (wC' (wC' (wC' (wC' (wC' w _) _) _) _) _)) = w6 at h6
  have wO6 : wO8 b w6 = wO8 b (wBeg n (wC w 1)) := by rw [← hw6]; rfl
  have wC6 : wC w6 2 = 0 := by rw [← hw6]; rfl
  have wK6 : wK w6 = fun _ => 0 := by rw [← hw6]; rfl
  have wE6 : wE w6 = eBeg := by rw [← hw6]; rfl
  obtain ⟨t7, ⟨Lf, Sf, h7, F7, q7⟩, e7⟩ := lpS (fun fl j t => F_X8_begin_L34 b fl (nI j) t (fun s14 => F_X8_begin_L65 b fu (0 : Int32) s14 (fun s20 => some s20))) (fun s14 => F_X8_begin_L65 b fu (0 : Int32) s14 (fun s20 => some s20)) (fun j t => ∃ Lf Sf, CM' (RX w) O t b (wS' (wL' w6 Lf) Sf) sl ∧ Fr b 254 σ t ∧ ∀ s, s < j → Lf s = sBeg ∧ Sf s = sBeg) 5 (by
    intro j fl t hj ⟨Lf, Sf, h7, F7, q7⟩
    have hLj : Ls b j = b + 134 + 14 * j := rfl
    obtain ⟨u1, a1, a2, a3⟩ := C_siteClear (h7.1.SL hj)
    obtain ⟨h8, f8⟩ := h7.site hj a2.beg a3
    obtain ⟨u2, b1, b2', b3⟩ := C_siteClear (h8.1.SS hj)
    obtain ⟨h9, f9⟩ := h8.saved hj b2'.beg b3
    refine ⟨u2, ⟨up Lf j sBeg, up Sf j sBeg, h9, F7.tr (f8.tr f9), fun s hs => ?_⟩, ?_⟩
    · by_cases hsj : s = j
      · subst hsj; rw [up_s, up_s]; exact ⟨rfl, rfl⟩
      · rw [up_n _ _ hsj, up_n _ _ hsj]; exact q7 s (by omega)
    · rw [F_X8_begin_L34]
      simp (disch := omega) only [l_0, l_1, l_2, l_3, l_4, l_5, l_6, l_7, l_8, l_9, l_10, l_12, l_25, l_29, l_33, l_34, l_120, l_122, l_147, l_154, l_274, l_394, l_395, l_789, l_3953, l_5153, l_5178, l_49278, l_49279, l_49280, bind_some', jn_eq, nI_add, pk_mul, nI_leI, nI_ltI, nI_eq, ifb, ifz, R_flag0, R_flag1, R_flag, if_true, if_false, if_neg, h7.1.r7, h7.1.lv hj, a1, h8.1.r8, h8.1.sd hj, b1]) (by
    intro fl t _
    rw [F_X8_begin_L34, l_5, if_pos (nI_le (Nat.le_refl _) (by omega))]) fu t6 (by unfold fu; omega) ⟨wL w6, wS w6, h6, F6, fun s hs => absurd hs (Nat.not_lt_zero s)⟩
  -- rows and links
  have wo : ∀ Lf Sf, wO8 b (wS' (wL' w6 Lf) Sf) = wO8 b (wBeg n (wC w 1)) := fun _ _ => wO6
  obtain ⟨t8, ⟨cf, z8, F8, k8, r8, zc8⟩, e8⟩ := lpS (fun fl j t => F_X8_begin_L65 b fl (nI j) t (fun s20 => some s20)) (fun t => some t) (fun j t => ∃ cf, ZA t (b + 133) 25 cf ∧ Fr b 254 t7 t ∧ (∀ i, i ≠ b + 133 → (i < b + 204 ∨ b + 254 ≤ i) → cel t i = cel t7 i) ∧ (∀ c, c < 25 → cel t (b + 204 + 2 * c) = (if c < j then some (.inl (4, [.int (nI 0), .ref (b + 205 + 2 * c)])) else cel t7 (b + 204 + 2 * c)) ∧ cel t (b + 205 + 2 * c) = cel t7 (b + 205 + 2 * c)) ∧ ∀ i, i < j → cf i = 0) 25 (by
    intro j fl t hj ⟨cf, z8, F8, k8, r8, zc8⟩
    have w8 : cel t b = some (.inl (8, wO8 b (wS' (wL' w6 Lf) Sf))) := (k8 b (by omega) (by omega)).trans h7.1.1
    have rr : aaldR t (b + 132) 5 (nI j) = some (b + 204 + 2 * j) := aaldR_cel ((k8 (b + 132) (by omega) (by omega)).trans h7.1.2.2.2.2.1) hj (by decide) (if_pos hj)
    have o8 : cel t (b + 204 + 2 * j) = some (.inl (4, [.int (nI (wT (wS' (wL' w6 Lf) Sf) j).length), .ref (b + 205 + 2 * j)])) := by
      rw [(r8 j hj).1, if_neg (by omega)]; exact h7.1.ro hj
    have c9 := cel_stc_s (e := .inl (4, [.int (nI 0), .ref (b + 205 + 2 * j)])) o8
    have n9 : ∀ i, i ≠ b + 204 + 2 * j → cel (stc t (b + 204 + 2 * j) (.inl (4, [.int (nI 0), .ref (b + 205 + 2 * j)]))) i = cel t i := fun i hi => cel_stc_n o8 hi
    have z9 : ZA (stc t (b + 204 + 2 * j) (.inl (4, [.int (nI 0), .ref (b + 205 + 2 * j)]))) (b + 133) 25 cf := (n9 _ (by omega)).trans z8
    obtain ⟨u, e9, z10, f10⟩ := z9.wr (j := j) (v := 0) hj (by decide) (Or.inl rfl)
    have w9 : cel (stc t (b + 204 + 2 * j) (.inl (4, [.int (nI 0), .ref (b + 205 + 2 * j)]))) b = some (.inl (8, wO8 b (wS' (wL' w6 Lf) Sf))) := (n9 b (by omega)).trans w8
    refine ⟨u, ⟨_, z10, (F8.tr (Fr.st o8 (by omega) (by omega))).tr (f10.mo (by omega) (by omega)), fun i a1 a2 => ?_, fun c hc => ⟨?_, ?_⟩, fun i hi => ?_⟩, ?_⟩
    · rw [f10.at (by omega), n9 i (by omega)]; exact k8 i a1 a2
    · rw [f10.at (by omega)]
      by_cases hcj : c = j
      · subst hcj; rw [c9, if_pos (by omega)]
      · rw [n9 _ (by omega), (r8 c hc).1]
        by_cases h1 : c < j
        · rw [if_pos h1, if_pos (by omega)]
        · rw [if_neg h1, if_neg (by omega)]
    · rw [f10.at (by omega), n9 _ (by omega)]; exact (r8 c hc).2
    · by_cases hij : i = j
      · subst hij; rw [upN_s]
      · rw [upN_n hij]; exact zc8 i (by omega)
    · rw [F_X8_begin_L65, l_25, if_neg (by rw [nI_leI (by omega) (by omega)]; omega), gR_cel w8 rfl, bind_some', rr, bind_some', l_0, sV_cel o8 (Nat.le_of_ble_eq_true rfl), bind_some', show ([.int (nI (wT (wS' (wL' w6 Lf) Sf) j).length), .ref (b + 205 + 2 * j)] : List Value).set 0 (.int (nI 0)) = [.int (nI 0), .ref (b + 205 + 2 * j)] from rfl, gR_cel w9 rfl, bind_some', e9, bind_some', l_1, nI_add]) (by
    intro fl t _
    rw [F_X8_begin_L65, l_25, if_pos (nI_le (Nat.le_refl _) (by omega))]) fu t7 (by unfold fu; omega) (by
      obtain ⟨cf, c1, -⟩ := h7.1.2.2.2.2.2.1
      exact ⟨cf, c1, Fr.rf, fun _ _ _ => rfl, fun c _ => ⟨by rw [if_neg (by omega)], rfl⟩, fun i hi => absurd hi (Nat.not_lt_zero i)⟩)
  refine ⟨t8, ?_, ?_, F7.tr F8⟩
  · unfold F_X8_begin
    rw [l_0] at e7
    rw [chk_eq h.1.ok, e1, bind_some', l_0, e2, bind_some', e3, bind_some', e4, bind_some', e5, bind_some', h5.1.r6, bind_some', e6, bind_some', e7]
    exact e8
  · refine CM'.reset h7 F8 (fun _ _ => rfl) ?_ ?_ ((k8 _ (by omega) (by omega)).trans h7.1.2.2.1) ((k8 _ (by omega) (by omega)).trans h7.1.2.2.2.1) ((k8 _ (by omega) (by omega)).trans h7.1.2.2.2.2.1) ⟨cf, z8, fun f o hf ho => ?_⟩ (fun s hs => ⟨?_, ?_⟩) (fun c hc => ⟨?_, ?_⟩)
    · rw [k8 b (by omega) (by omega), h7.1.1, wo]
    · have := h7.1.ev.cg (σ1 := t8) (fun i a1 a2 => k8 i (by omega) (by omega))
      rw [show wC (wS' (wL' w6 Lf) Sf) 2 = 0 from wC6, show wK (wS' (wL' w6 Lf) Sf) = fun _ => 0 from wK6, show wE (wS' (wL' w6 Lf) Sf) = eBeg from wE6] at this
      exact this
    · rw [zc8 _ (by omega)]; rfl
    · have hLs : Ls b s = b + 134 + 14 * s := rfl
      have := (h7.1.SL hs).cg (σ1 := t8) (fun i a1 a2 => k8 i (by omega) (by omega))
      rw [show wL (wS' (wL' w6 Lf) Sf) s = sBeg from (q7 s hs).1] at this
      exact this
    · have := (h7.1.SS hs).cg (σ1 := t8) (fun i a1 a2 => k8 i (by omega) (by omega))
      rw [show wS (wS' (wL' w6 Lf) Sf) s = sBeg from (q7 s hs).2] at this
      exact this
    · rw [(r8 c hc).1, if_pos hc]
    · exact (r8 c hc).2.trans (h7.1.rs hc)
end BEG
