/-! ===== PURE 35: the class's paper: what is overstated ===== -/
def pO5 (P b : Nat) : List Value := [.ref b, .ref (P + 1), .ref (P + 2), .ref (P + 6), .ref (P + 7), .ref (P + 8)]
/-- the paper: a letter, two sets, a row of numbers, all of any content -/
def PB (σ : Sto) (P b : Nat) : Prop := cel σ P = some (.inl (5, pO5 P b)) ∧ RA σ (P + 1) 4 5 (rfN 5 (fun s => P + 9 + 7 * s)) ∧ (∃ x o l, LE σ (P + 2) x o l) ∧ (∃ f, ES σ (P + 6) f) ∧ (∃ f, ES σ (P + 7) f) ∧ ∃ f, IA σ (P + 8) 25 f
section PAP
variable {O : Nat → Prop} {L : Nat → Nat} {σ t : Sto} {b P : Nat} {w : Wd} {sl : Nat → Nat → Option Nat}
theorem PB.ok (h : PB σ P b) : (gO σ P 5).isSome = true := gOs_cel h.1
theorem PB.r0 (h : PB σ P b) : gR σ P 5 0 = some b := gR_cel h.1 rfl
theorem PB.r1 (h : PB σ P b) : gR σ P 5 1 = some (P + 1) := gR_cel h.1 rfl
theorem PB.r2 (h : PB σ P b) : gR σ P 5 2 = some (P + 2) := gR_cel h.1 rfl
theorem PB.r3 (h : PB σ P b) : gR σ P 5 3 = some (P + 6) := gR_cel h.1 rfl
theorem PB.r4 (h : PB σ P b) : gR σ P 5 4 = some (P + 7) := gR_cel h.1 rfl
theorem PB.r5 (h : PB σ P b) : gR σ P 5 5 = some (P + 8) := gR_cel h.1 rfl
theorem PB.sa (h : PB σ P b) {s : Nat} (hs : s < 5) : aaldR σ (P + 1) 4 (nI s) = some (P + 9 + 7 * s) := aaldR_cel h.2.1 hs (by decide) (if_pos hs)
theorem PB.cg (h : PB σ P b) (hc : ∀ i, P ≤ i → i < P + 9 → cel t i = cel σ i) : PB t P b := by
  obtain ⟨h1, h2, ⟨x, o, l, h3⟩, ⟨f, h4⟩, ⟨g, h5⟩, ⟨k, h6⟩⟩ := h
  exact ⟨(hc _ (by omega) (by omega)).trans h1, (hc _ (by omega) (by omega)).trans h2, ⟨x, o, l, h3.cg (fun i a1 a2 => hc i (by omega) (by omega))⟩, ⟨f, h4.cg (hc _ (by omega) (by omega))⟩, ⟨g, h5.cg (hc _ (by omega) (by omega))⟩, ⟨k, h6.cg (hc _ (by omega) (by omega))⟩⟩
/-- the set found is changed -/
theorem PB.f6 (h : PB σ P b) {f : Nat → Bool} (hE : ES t (P + 6) f) (hF : Fr (P + 6) 1 σ t) : PB t P b ∧ Fr (P + 2) 7 σ t := by
  obtain ⟨h1, h2, ⟨x, o, l, h3⟩, -, ⟨g, h5⟩, ⟨k, h6⟩⟩ := h
  exact ⟨⟨(hF.at (by omega)).trans h1, (hF.at (by omega)).trans h2, ⟨x, o, l, h3.fr hF (by omega)⟩, ⟨f, hE⟩, ⟨g, h5.cg (hF.at (by omega))⟩, ⟨k, h6.cg (hF.at (by omega))⟩⟩, hF.mo (by omega) (by omega)⟩
theorem PB.f7 (h : PB σ P b) {f : Nat → Bool} (hE : ES t (P + 7) f) (hF : Fr (P + 7) 1 σ t) : PB t P b ∧ Fr (P + 2) 7 σ t := by
  obtain ⟨h1, h2, ⟨x, o, l, h3⟩, ⟨g, h5⟩, -, ⟨k, h6⟩⟩ := h
  exact ⟨⟨(hF.at (by omega)).trans h1, (hF.at (by omega)).trans h2, ⟨x, o, l, h3.fr hF (by omega)⟩, ⟨g, h5.cg (hF.at (by omega))⟩, ⟨f, hE⟩, ⟨k, h6.cg (hF.at (by omega))⟩⟩, hF.mo (by omega) (by omega)⟩
theorem PB.f8 (h : PB σ P b) {f : Nat → Nat} (hE : IA t (P + 8) 25 f) (hF : Fr (P + 8) 1 σ t) : PB t P b ∧ Fr (P + 2) 7 σ t := by
  obtain ⟨h1, h2, ⟨x, o, l, h3⟩, ⟨g, h5⟩, ⟨k, h6⟩, -⟩ := h
  exact ⟨⟨(hF.at (by omega)).trans h1, (hF.at (by omega)).trans h2, ⟨x, o, l, h3.fr hF (by omega)⟩, ⟨g, h5.cg (hF.at (by omega))⟩, ⟨k, h6.cg (hF.at (by omega))⟩, ⟨f, hE⟩⟩, hF.mo (by omega) (by omega)⟩
theorem PB.f2 (h : PB σ P b) {x o : Nat} {l : Lt} (hE : LE t (P + 2) x o l) (hF : Fr (P + 2) 4 σ t) : PB t P b ∧ Fr (P + 2) 7 σ t := by
  obtain ⟨h1, h2, -, ⟨g, h5⟩, ⟨k, h6⟩, ⟨f, h7⟩⟩ := h
  exact ⟨⟨(hF.at (by omega)).trans h1, (hF.at (by omega)).trans h2, ⟨x, o, l, hE⟩, ⟨g, h5.cg (hF.at (by omega))⟩, ⟨k, h6.cg (hF.at (by omega))⟩, ⟨f, h7.cg (hF.at (by omega))⟩⟩, hF.mo (by omega) (by omega)⟩
/-- the world is apart from what the paper writes -/
def Ap (O : Nat → Prop) (P : Nat) : Prop := ∀ i, O i → i < P + 2 ∨ P + 9 ≤ i
theorem CW'.ap {R : (Nat → Nat) → Prop} (h : CW' R O L σ b w sl) (hO : Ap O P) (hF : Fr (P + 2) 7 σ t) : CW' R O L t b w sl := h.cg (fun i hi => hF.at (by have := hO i hi; omega))
/-- of events of a site o that s has not, the time of the first; 0: none; among the first c -/
def msT (w : Wd) (s o : Nat) : Nat → Nat
  | 0 => 0
  | c + 1 => if msT w s o c = 0 ∧ eS (wE w) c = o ∧ sHs (wL w s) c = false then eT (wE w) c else msT w s o c
theorem msT_le (w : Wd) (s o : Nat) {m : Nat} : ∀ {c : Nat}, (∀ e, e < c → eT (wE w) e ≤ m) → msT w s o c ≤ m
  | 0, _ => Nat.zero_le _
  | c + 1, h => by
    show (if msT w s o c = 0 ∧ eS (wE w) c = o ∧ sHs (wL w s) c = false then eT (wE w) c else msT w s o c) ≤ m
    have h1 := msT_le w s o (m := m) (c := c) (fun e he => h e (by omega))
    have h2 := h c (by omega)
    split <;> omega
theorem C_findMissing (h : CW O L σ b w sl) (hp : PB σ P b) (i : Jv w) (hO : Ap O P) (ht0 : ∀ e, e < wC w 2 → 0 < eT (wE w) e) : ∃ t mf, F_X5_findMissing σ P = some t ∧ PB t P b ∧ Fr (P + 2) 7 σ t ∧ IA t (P + 8) 25 mf ∧ ∀ s o, s < 5 → o < 5 → mf (5 * s + o) = if s < wC w 0 then msT w s o (wC w 2) else 0 := by
  have hn := i.n5
  have hc := i.c
  obtain ⟨t1, ⟨m1, p1, F1, i1, z1⟩, e1⟩ := lpS (fun fl j t => F_X5_findMissing_L2 P fl (nI j) t (fun s3 => F_X5_findMissing_L23 P fu (0 : Int32) s3 (fun s28 => some s28))) (fun s3 => F_X5_findMissing_L23 P fu (0 : Int32) s3 (fun s28 => some s28)) (fun j t => ∃ mf, PB t P b ∧ Fr (P + 2) 7 σ t ∧ IA t (P + 8) 25 mf ∧ ∀ i, i < j → mf i = 0) 25 (by
    intro j fl t hj ⟨mf, p1, F1, i1, z1⟩
    obtain ⟨u, e2, i2, f2⟩ := i1.wr (j := j) (v := 0) hj (by decide)
    obtain ⟨p2, F2⟩ := p1.f8 i2 f2
    refine ⟨u, ⟨_, p2, F1.tr F2, i2, fun i hi => ?_⟩, ?_⟩
    · by_cases hij : i = j
      · subst hij; rw [upN_s]
      · rw [upN_n hij]; exact z1 i (by omega)
    · rw [F_X5_findMissing_L2]
      simp (disch := omega) only [l_0, l_1, l_2, l_3, l_4, l_5, l_6, l_7, l_8, l_9, l_10, l_12, l_25, l_29, l_33, l_34, l_120, l_122, l_147, l_154, l_274, l_394, l_395, l_789, l_3953, l_5153, l_5178, l_49278, l_49279, l_49280, bind_some', jn_eq, nI_add, pk_mul, nI_leI, nI_ltI, nI_eq, ifb, ifz, R_flag0, R_flag1, R_flag, if_true, if_false, if_neg, p1.r5, e2]) (by
    intro fl t _
    rw [F_X5_findMissing_L2, l_25, if_pos (nI_le (Nat.le_refl _) (by omega))]) fu σ (by unfold fu; omega) (by
      obtain ⟨-, -, -, -, -, mf, h6⟩ := id hp
      exact ⟨mf, hp, Fr.rf, h6, fun i hi => absurd hi (Nat.not_lt_zero i)⟩)
  have inner : ∀ (s : Nat), s < wC w 0 → ∀ (t : Sto) (mf : Nat → Nat), PB t P b → Fr (P + 2) 7 σ t → IA t (P + 8) 25 mf → (∀ o, o < 5 → mf (5 * s + o) = 0) → ∃ u mg, (∀ K, F_X5_findMissing_L36 P (nI s) fu (nI 0) t K = K u) ∧ PB u P b ∧ Fr (P + 2) 7 σ u ∧ IA u (P + 8) 25 mg ∧ (∀ o, o < 5 → mg (5 * s + o) = msT w s o (wC w 2)) ∧ ∀ i, i / 5 ≠ s → mg i = mf i := by
    intro s hs t mf p1 F1 i1 z1
    have hs5 : s < 5 := by omega
    obtain ⟨u, ⟨mg, p2, F2, i2, q2, k2⟩, e2⟩ := lpS (fun fl j t (K : Sto → Option Sto) => F_X5_findMissing_L36 P (nI s) fl (nI j) t K) (fun t K => K t) (fun j t => ∃ mg, PB t P b ∧ Fr (P + 2) 7 σ t ∧ IA t (P + 8) 25 mg ∧ (∀ o, o < 5 → mg (5 * s + o) = msT w s o j) ∧ ∀ i, i / 5 ≠ s → mg i = mf i) (wC w 2) (by
      intro j fl t hj ⟨mg, p2, F2, i2, q2, k2⟩
      have h2 := h.ap hO F2
      have hes := i.eS5 hj
      have het := i.eT hj
      have hrd := i2.rd (j := 5 * s + eS (wE w) j) (by omega) (by decide)
      rw [q2 _ hes] at hrd
      have hmb : msT w s (eS (wE w) j) j ≤ 120 := msT_le w s _ (fun e he => i.eT (by omega))
      have hh := X_holds (h2.SL hs5).hs (show j < 128 by omega)
      by_cases h0 : msT w s (eS (wE w) j) j = 0
      · by_cases hb : sHs (wL w s) j = true
        · refine ⟨t, ⟨mg, p2, F2, i2, fun o ho => ?_, k2⟩, ?_⟩
          · rw [q2 o ho]
            show _ = if _ then _ else _
            rw [if_neg (by rw [hb]; intro z; exact absurd z.2.2 (by decide))]
          · funext K
            rw [F_X5_findMissing_L36, p2.r0, bind_some', h2.r6, bind_some', h2.ev.g0, bind_some', if_neg (by rw [nI_leI (by omega) (by omega)]; omega), bind_some', h2.r6, bind_some', h2.ev.g2, bind_some', h2.ev.rS i.bv hj, bind_some', C_cell, bind_some', p2.r5, bind_some', hrd, bind_some', if_pos (by rw [h0, nI_0]), bind_some', h2.r7, bind_some', h2.lv hs5, bind_some', (h2.SL hs5).g1, bind_some', hh, bind_some', ifb0, if_pos hb, l_1, nI_add]
        · have hb2 : sHs (wL w s) j = false := by simpa using hb
          obtain ⟨u, e3, i3, f3⟩ := i2.wr (j := 5 * s + eS (wE w) j) (v := eT (wE w) j) (by omega) (by decide)
          obtain ⟨p3, F3⟩ := p2.f8 i3 f3
          refine ⟨u, ⟨_, p3, F2.tr F3, i3, fun o ho => ?_, fun i hi => by rw [upN_n (by omega)]; exact k2 i hi⟩, ?_⟩
          · show _ = if _ then _ else _
            by_cases hoe : eS (wE w) j = o
            · subst hoe
              rw [upN_s, if_pos ⟨h0, rfl, hb2⟩]
            · rw [upN_n (by omega), if_neg (fun z => hoe z.2.1)]; exact q2 o ho
          · funext K
            rw [F_X5_findMissing_L36, p2.r0, bind_some', h2.r6, bind_some', h2.ev.g0, bind_some', if_neg (by rw [nI_leI (by omega) (by omega)]; omega), bind_some', h2.r6, bind_some', h2.ev.g2, bind_some', h2.ev.rS i.bv hj, bind_some', C_cell, bind_some', p2.r5, bind_some', hrd, bind_some', if_pos (by rw [h0, nI_0]), bind_some', h2.r7, bind_some', h2.lv hs5, bind_some', (h2.SL hs5).g1, bind_some', hh, bind_some', ifb0, if_neg hb, bind_some', bind_some', h2.r6, bind_some', h2.ev.g3, bind_some', h2.ev.rT i.bv hj, bind_some', e3, bind_some', l_1, nI_add]
      · refine ⟨t, ⟨mg, p2, F2, i2, fun o ho => ?_, k2⟩, ?_⟩
        · rw [q2 o ho]
          show _ = if _ then _ else _
          by_cases hoe : eS (wE w) j = o
          · subst hoe; rw [if_neg (fun z => h0 z.1)]
          · rw [if_neg (fun z => hoe z.2.1)]
        · funext K
          rw [F_X5_findMissing_L36, p2.r0, bind_some', h2.r6, bind_some', h2.ev.g0, bind_some', if_neg (by rw [nI_leI (by omega) (by omega)]; omega), bind_some', h2.r6, bind_some', h2.ev.g2, bind_some', h2.ev.rS i.bv hj, bind_some', C_cell, bind_some', p2.r5, bind_some', hrd, bind_some', if_neg (nI_ne0 (by omega) (by omega)), l_1, nI_add]) (by
      intro fl t ⟨mg, p2, F2, i2, q2, k2⟩
      have h2 := h.ap hO F2
      funext K
      rw [F_X5_findMissing_L36, p2.r0, bind_some', h2.r6, bind_some', h2.ev.g0, bind_some', if_pos (nI_le (Nat.le_refl _) (by omega))]) fu t (by unfold fu; omega) ⟨mf, p1, F1, i1, z1, fun _ _ => rfl⟩
    exact ⟨u, mg, fun K => congrFun e2 K, p2, F2, i2, q2, k2⟩
  obtain ⟨t2, ⟨m2, p2, F2, i2, q2⟩, e2⟩ := lpS (fun fl j t => F_X5_findMissing_L23 P fl (nI j) t (fun s28 => some s28)) (fun t => some t) (fun j t => ∃ mf, PB t P b ∧ Fr (P + 2) 7 σ t ∧ IA t (P + 8) 25 mf ∧ ∀ s o, s < 5 → o < 5 → mf (5 * s + o) = if s < j then msT w s o (wC w 2) else 0) (wC w 0) (by
    intro j fl t hj ⟨mf, p2, F2, i2, q2⟩
    have h2 := h.ap hO F2
    obtain ⟨u, mg, e3, p3, F3, i3, q3, k3⟩ := inner j hj t mf p2 F2 i2 (fun o ho => by rw [q2 j o (by omega) ho, if_neg (by omega)])
    refine ⟨u, ⟨mg, p3, F3, i3, fun s o hs ho => ?_⟩, ?_⟩
    · by_cases hsj : s = j
      · subst hsj; rw [q3 o ho, if_pos (by omega)]
      · rw [k3 _ (by omega), q2 s o hs ho]
        by_cases h1 : s < j
        · rw [if_pos h1, if_pos (by omega)]
        · rw [if_neg h1, if_neg (by omega)]
    · rw [F_X5_findMissing_L23, p2.r0, bind_some', h2.i0, bind_some', if_neg (by rw [nI_leI (by omega) (by omega)]; omega), l_0, e3, l_1, nI_add]) (by
    intro fl t ⟨mf, p2, F2, i2, q2⟩
    have h2 := h.ap hO F2
    rw [F_X5_findMissing_L23, p2.r0, bind_some', h2.i0, bind_some', if_pos (nI_le (Nat.le_refl _) (by omega))]) fu t1 (by unfold fu; omega) ⟨m1, p1, F1, i1, fun s o hs ho => by rw [z1 _ (by omega), if_neg (by omega)]⟩
  refine ⟨t2, m2, ?_, p2, F2, i2, q2⟩
  unfold F_X5_findMissing
  rw [l_0] at e1
  rw [chk_eq hp.ok, l_0, e1]
  exact e2
/-- of the cells of a site's table: is this one overstated, as the class reckons it -/
def ovC (w : Wd) (x i : Nat) : Bool := decide (i / 5 < wC w 0) && (decide (0 < msT w (i / 5) (i % 5) (wC w 2)) && decide (msT w (i / 5) (i % 5) (wC w 2) ≤ sTb (wL w x) i))
theorem C_isOverstated (h : CW O L σ b w sl) (hp : PB σ P b) (i : Jv w) {mf : Nat → Nat} (hm : IA σ (P + 8) 25 mf) (hq : ∀ s o, s < 5 → o < 5 → mf (5 * s + o) = if s < wC w 0 then msT w s o (wC w 2) else 0) {x k : Nat} (hx : x < 5) (hk : k < 25) : F_X5_isOverstated σ P (nI x) (nI k) = some (nI (b2 (ovC w x k))) := by
  have hmk := hq (k / 5) (k % 5) (by omega) (by omega)
  rw [show 5 * (k / 5) + k % 5 = k by omega] at hmk
  have hmb : msT w (k / 5) (k % 5) (wC w 2) ≤ 120 := msT_le w _ _ (fun e he => i.eT he)
  have htb := (i.L hx).tb hk
  have hrd := hm.rd hk (by decide)
  unfold F_X5_isOverstated
  rw [chk_eq hp.ok, hp.r5, bind_some', hrd, bind_some', hmk]
  unfold ovC
  by_cases h1 : k / 5 < wC w 0
  · rw [if_pos h1, decide_eq_true h1, Bool.true_and]
    by_cases h2 : 0 < msT w (k / 5) (k % 5) (wC w 2)
    · rw [if_neg (nI_nle h2 (by omega)), hp.r0, bind_some', h.r7, bind_some', h.lv hx, bind_some', (h.SL hx).g4, bind_some', (h.SL hx).rt hk, bind_some', bind_some', hrd, bind_some', hmk, if_pos h1, decide_eq_true h2, Bool.true_and, l_0, l_1, ifB', ← ndec]
      congr 4
      exact decide_eq_decide.mpr (nI_ltI (by omega) (by omega))
    · rw [if_pos (by rw [show msT w (k / 5) (k % 5) (wC w 2) = 0 by omega, nI_0]; exact Int32.le_refl _), decide_eq_false h2]
      rfl
  · rw [if_neg h1, decide_eq_false h1, nI_0, if_pos (Int32.le_refl _)]
    rfl
theorem C_countOverstated (h : CW O L σ b w sl) (hp : PB σ P b) (i : Jv w) {mf : Nat → Nat} (hm : IA σ (P + 8) 25 mf) (hq : ∀ s o, s < 5 → o < 5 → mf (5 * s + o) = if s < wC w 0 then msT w s o (wC w 2) else 0) {x : Nat} (hx : x < 5) : F_X5_countOverstated σ P (nI x) = some (nI (fb_ct (ovC w x) 25)) := by
  unfold F_X5_countOverstated
  rw [chk_eq hp.ok]
  refine lup (fun f j => F_X5_countOverstated_L4 σ P (nI x) f (nI (fb_ct (ovC w x) j)) (nI j) (fun x => some x)) 25 _ ?_ ?_ fu (by unfold fu; omega)
  · intro j f hj
    rw [F_X5_countOverstated_L4, l_25, if_neg (by rw [nI_leI (by omega) (by omega)]; omega), C_isOverstated h hp i hm hq hx hj, bind_some', ifb0, l_1, nI_add, nI_add, fb_ct_succ]
    cases ovC w x j <;> rfl
  · intro f
    rw [F_X5_countOverstated_L4, l_25, if_pos (nI_le (Nat.le_refl _) (by omega))]
theorem C_overstatedAt (h : CW O L σ b w sl) (hp : PB σ P b) (i : Jv w) (hO : Ap O P) (ht0 : ∀ e, e < wC w 2 → 0 < eT (wE w) e) {x : Nat} (hx : x < 5) : ∃ t, F_X5_overstatedAt σ P (nI x) = some (nI (fb_ct (ovC w x) 25), t) ∧ PB t P b ∧ Fr (P + 2) 7 σ t := by
  obtain ⟨t, mf, e1, p1, F1, i1, q1⟩ := C_findMissing h hp i hO ht0
  refine ⟨t, ?_, p1, F1⟩
  unfold F_X5_overstatedAt
  rw [chk_eq hp.ok, e1, bind_some', C_countOverstated (h.ap hO F1) p1 i i1 q1 hx]
  rfl
theorem C_overstatedCells (h : CW O L σ b w sl) (hp : PB σ P b) (i : Jv w) (hO : Ap O P) (ht0 : ∀ e, e < wC w 2 → 0 < eT (wE w) e) : ∃ t, F_X5_overstatedCells σ P = some (nI (sm (fun x => fb_ct (ovC w x) 25) (wC w 0)), t) ∧ PB t P b ∧ Fr (P + 2) 7 σ t := by
  have hn := i.n5
  obtain ⟨t, mf, e1, p1, F1, i1, q1⟩ := C_findMissing h hp i hO ht0
  have h1 := h.ap hO F1
  refine ⟨t, ?_, p1, F1⟩
  unfold F_X5_overstatedCells
  rw [chk_eq hp.ok, e1, bind_some']
  refine lup (fun f j => F_X5_overstatedCells_L8 t P f (nI (sm (fun x => fb_ct (ovC w x) 25) j)) (nI j) (fun x5 => some (x5, t))) (wC w 0) _ ?_ ?_ fu (by unfold fu; omega)
  · intro j f hj
    rw [F_X5_overstatedCells_L8, p1.r0, bind_some', h1.i0, bind_some', if_neg (by rw [nI_leI (by omega) (by omega)]; omega), C_countOverstated h1 p1 i i1 q1 (by omega), bind_some', nI_add, l_1, nI_add]
    rfl
  · intro f
    rw [F_X5_overstatedCells_L8, p1.r0, bind_some', h1.i0, bind_some', if_pos (nI_le (Nat.le_refl _) (by omega))]
/-- the first of three numbers below n -/
def fst3 (p : Nat → Nat → Nat → Bool) (n : Nat) : Int32 := match (List.range n).findSome? (fun s => (List.range n).findSome? (fun r => ((List.range n).find? (fun l => p s r l)).map (fun l => 100 * s + 10 * r + l))) with
  | none => -1
  | some k => nI k
end PAP
