/-! ===== PURE 30: the class's world changes within its block ===== -/
def Ls (b : Nat) : Nat → Nat := fun s => b + 134 + 14 * s
/-- letters' places are apart from the block and from each other -/
def CD (b : Nat) (sl : Nat → Nat → Option Nat) : Prop := (∀ c k p, c < 25 → k < 12 → sl c k = some p → p + 4 ≤ b ∨ b + 254 ≤ p) ∧ ∀ c k p c' k' p', c < 25 → k < 12 → c' < 25 → k' < 12 → sl c k = some p → sl c' k' = some p' → ¬ (c = c' ∧ k = k') → p + 4 ≤ p' ∨ p' + 4 ≤ p
def CM' (R : (Nat → Nat) → Prop) (O : Nat → Prop) (σ : Sto) (b : Nat) (w : Wd) (sl : Nat → Nat → Option Nat) : Prop := CW' R O (Ls b) σ b w sl ∧ CD b sl
abbrev CM (O : Nat → Prop) (σ : Sto) (b : Nat) (w : Wd) (sl : Nat → Nat → Option Nat) : Prop := CM' (RX w) O σ b w sl
section CMS
variable {R R' : (Nat → Nat) → Prop} {O : Nat → Prop} {σ t : Sto} {b x : Nat} {w w' : Wd} {sl : Nat → Nat → Option Nat} {st : St}
theorem CM'.cg (h : CM' R O σ b w sl) (hc : ∀ i, O i → cel t i = cel σ i) : CM' R O t b w sl := ⟨h.1.cg hc, h.2⟩
theorem CM'.upd (h : CM' R O σ b w sl) (hF : Fr b 254 σ t) (hT : wT w' = wT w) (h1 : cel t b = some (.inl (8, wO8 b w'))) (h2 : EE t (b + 1) (wC w' 2) (wK w') (wE w')) (h3 : RA t (b + 130) 4 5 (rfN 5 (Ls b))) (h4 : RA t (b + 131) 4 5 (rfN 5 (fun s => b + 141 + 14 * s))) (h5 : RA t (b + 132) 5 25 (rfN 25 (fun c => b + 204 + 2 * c)))
    (h6 : ∃ cf, ZA t (b + 133) 25 cf ∧ R' cf) (h7 : ∀ s, s < 5 → SI t (Ls b s) (wL w' s) ∧ SI t (b + 141 + 14 * s) (wS w' s))
    (h8 : ∀ c, c < 25 → cel t (b + 204 + 2 * c) = some (.inl (4, [.int (nI (wT w c).length), .ref (b + 205 + 2 * c)])) ∧ RA t (b + 205 + 2 * c) 6 12 (sl c)) : CM' R' O t b w' sl := by
  obtain ⟨h, hD⟩ := h
  refine ⟨⟨h1, h2, h3, h4, h5, h6, h7, ?_, fun c k p hc hk hp => ?_, fun c k l hc hl => ?_, h.o1, h.o2, h.o3⟩, hD⟩
  · rw [hT]; exact h8
  · obtain ⟨f, o, l, a⟩ := h.gb hc hk hp
    have := hD.1 c k p hc hk hp
    exact ⟨f, o, l, a.fr hF (by omega)⟩
  · rw [hT] at hl
    obtain ⟨hk, p, a1, a2⟩ := h.lt hc hl
    have := hD.1 c k p hc hk a1
    exact ⟨hk, p, a1, a2.fr hF (by omega)⟩
theorem CM'.site (h : CM' R O σ b w sl) (hx : x < 5) (hS : SI t (Ls b x) st) (hF : Fr (Ls b x) 7 σ t) : CM' R O t b (wL' w (up (wL w) x st)) sl ∧ Fr b 254 σ t := by
  have hLx : Ls b x = b + 134 + 14 * x := rfl
  have hF' : Fr b 254 σ t := hF.mo (by omega) (by omega)
  obtain ⟨cf, c1, c2⟩ := h.1.2.2.2.2.2.1
  refine ⟨h.upd hF' rfl ((hF.at (by omega)).trans h.1.1) (h.1.ev.fr hF (by omega)) ((hF.at (by omega)).trans h.1.2.2.1) ((hF.at (by omega)).trans h.1.2.2.2.1) ((hF.at (by omega)).trans h.1.2.2.2.2.1) ⟨cf, (hF.at (by omega)).trans c1, c2⟩ (fun s hs => ⟨?_, (h.1.SS hs).fr hF (by omega)⟩) (fun c hc => ⟨(hF.at (by omega)).trans (h.1.ro hc), (hF.at (by omega)).trans (h.1.rs hc)⟩), hF'⟩
  show SI t (Ls b s) (up (wL w) x st s)
  by_cases hsx : s = x
  · subst hsx; rw [up_s]; exact hS
  · rw [up_n _ _ hsx]
    have : Ls b s = b + 134 + 14 * s := rfl
    exact (h.1.SL hs).fr hF (by omega)
theorem CM'.saved (h : CM' R O σ b w sl) (hx : x < 5) (hS : SI t (b + 141 + 14 * x) st) (hF : Fr (b + 141 + 14 * x) 7 σ t) : CM' R O t b (wS' w (up (wS w) x st)) sl ∧ Fr b 254 σ t := by
  have hF' : Fr b 254 σ t := hF.mo (by omega) (by omega)
  obtain ⟨cf, c1, c2⟩ := h.1.2.2.2.2.2.1
  refine ⟨h.upd hF' rfl ((hF.at (by omega)).trans h.1.1) (h.1.ev.fr hF (by omega)) ((hF.at (by omega)).trans h.1.2.2.1) ((hF.at (by omega)).trans h.1.2.2.2.1) ((hF.at (by omega)).trans h.1.2.2.2.2.1) ⟨cf, (hF.at (by omega)).trans c1, c2⟩ (fun s hs => ⟨?_, ?_⟩) (fun c hc => ⟨(hF.at (by omega)).trans (h.1.ro hc), (hF.at (by omega)).trans (h.1.rs hc)⟩), hF'⟩
  · have : Ls b s = b + 134 + 14 * s := rfl
    exact (h.1.SL hs).fr hF (by omega)
  · show SI t _ (up (wS w) x st s)
    by_cases hsx : s = x
    · subst hsx; rw [up_s]; exact hS
    · rw [up_n _ _ hsx]
      exact (h.1.SS hs).fr hF (by omega)
/-- the numbers in the world's fields -/
theorem CM'.num (h : CM' R O σ b w sl) {k j v : Nat} (hj : j ≠ 2) (hk : (wO8 b w).set k (.int (nI v)) = wO8 b (wC' w (up (wC w) j v))) (hl : k < 11) : ∃ t, sV σ b 8 k (.int (nI v)) = some t ∧ CM' R O t b (wC' w (up (wC w) j v)) sl ∧ Fr b 254 σ t := by
  have hn : ∀ i, i ≠ b → cel (stc σ b (.inl (8, (wO8 b w).set k (.int (nI v))))) i = cel σ i := fun i hi => cel_stc_n h.1.1 hi
  have hF : Fr b 1 σ (stc σ b (.inl (8, (wO8 b w).set k (.int (nI v))))) := Fr.st h.1.1 (by omega) (by omega)
  refine ⟨_, sV_cel h.1.1 hl, ?_, hF.mo (by omega) (by omega)⟩
  obtain ⟨cf, c1, c2⟩ := h.1.2.2.2.2.2.1
  refine h.upd (hF.mo (by omega) (by omega)) rfl ?_ ?_ ((hn _ (by omega)).trans h.1.2.2.1) ((hn _ (by omega)).trans h.1.2.2.2.1) ((hn _ (by omega)).trans h.1.2.2.2.2.1) ⟨cf, (hn _ (by omega)).trans c1, c2⟩ (fun s hs => ⟨?_, (h.1.SS hs).fr hF (by omega)⟩) (fun c hc => ⟨(hn _ (by omega)).trans (h.1.ro hc), (hn _ (by omega)).trans (h.1.rs hc)⟩)
  · rw [cel_stc_s h.1.1, hk]
  · have : wC (wC' w (up (wC w) j v)) 2 = wC w 2 := up_n _ _ (Ne.symm hj)
    rw [this]
    exact h.1.ev.fr hF (by omega)
  · have : Ls b s = b + 134 + 14 * s := rfl
    exact (h.1.SL hs).fr hF (by omega)
theorem CM.step (h : CM O σ b w sl) : ∃ t, sV σ b 8 2 (.int (nI (wC w 6) + (1 : Int32))) = some t ∧ CM O t b (stp w) sl ∧ Fr b 254 σ t := by
  rw [l_1, nI_add]
  exact h.num (k := 2) (j := 6) (v := wC w 6 + 1) (by omega) rfl (by omega)
theorem CM'.evs (h : CM' R O σ b w sl) {c : Nat} {K : Nat → Nat} {v : Ev} (hE : EE t (b + 1) c K v) (hF : Fr (b + 1) 129 σ t) : CM' R O t b (up (wC w) 2 c, wX w, K, v, wL w, wS w, wT w) sl ∧ Fr b 254 σ t := by
  have hF' : Fr b 254 σ t := hF.mo (by omega) (by omega)
  obtain ⟨cf, c1, c2⟩ := h.1.2.2.2.2.2.1
  refine ⟨h.upd hF' rfl ((hF.at (by omega)).trans h.1.1) hE ((hF.at (by omega)).trans h.1.2.2.1) ((hF.at (by omega)).trans h.1.2.2.2.1) ((hF.at (by omega)).trans h.1.2.2.2.2.1) ⟨cf, (hF.at (by omega)).trans c1, c2⟩ (fun s hs => ⟨?_, (h.1.SS hs).fr hF (by omega)⟩) (fun c hc => ⟨(hF.at (by omega)).trans (h.1.ro hc), (hF.at (by omega)).trans (h.1.rs hc)⟩), hF'⟩
  have : Ls b s = b + 134 + 14 * s := rfl
  exact (h.1.SL hs).fr hF (by omega)
/-- an event comes; its view is changed by the callers -/
def hap0 (w : Wd) (s m nm : Nat) : Wd :=
  let e := wC w 2
  let z := wL w s
  let h := gn (sHw z) e (wC w 6) s
  (up (wC w) 2 (e + 1), wX w, up (wK w) s (wK w s + 1), evn w s m nm,
    up (wL w) s (up (sTb z) (5 * s + s) (wK w s + 1), h.1, sVw z, sLg z ++ [e], h.2.1, h.2.2), wS w, wT w)
theorem C_happen (h : CM O σ b w sl) (i : Iv (stp w)) (hx : x < wC w 0) {m nm : Nat} (hc : wC w 2 < 120) (hm : m ≤ wC w 2) : ∃ t, F_X8_happen σ b (nI x) (nI m) (nI nm) = some (nI (wC w 2), t) ∧ CM O t b (hap0 (stp w) x m nm) sl ∧ Fr b 254 σ t := by
  have h5 : wC w 0 ≤ 5 := i.n5
  have hx5 : x < 5 := by omega
  have hLx : Ls b x = b + 134 + 14 * x := rfl
  obtain ⟨t1, e1, h1, f1⟩ := h.step
  obtain ⟨t2, e2, g2, f2⟩ := C_append (x := x) (m := m) (nm := nm) (st := wC w 6 + 1) h1.1.ev i.j.bv hx5 hc (h1.1.SL hx5).hs (by omega)
  obtain ⟨h2, f2'⟩ := h1.evs g2 f2
  have hb2 : Bv (evA (wE (stp w)) (wC (stp w) 2) x (wK (stp w) x + 1) m nm (wC w 6 + 1) (sHs (wL (stp w) x))) (wC (stp w) 2 + 1) := (jv_hap1 i (x := x) (nm := nm) hx hc hm).bv
  have hlg : (sLg (wL (stp w) x)).length < 120 := Nat.lt_of_le_of_lt (i.L hx5).lg hc
  obtain ⟨t3, e3, h3, f3⟩ := C_ownEvent (e := wC (stp w) 2) (h2.1.SL hx5) h2.1.ev hb2 (by show wC (stp w) 2 < up (wC (stp w)) 2 (wC (stp w) 2 + 1) 2; rw [up_s]; omega) hlg (by omega)
  obtain ⟨h4, f4⟩ := h2.site hx5 h3 f3
  refine ⟨t3, ?_, ?_, f1.tr (f2'.tr f4)⟩
  · have hw0 : wC (stp w) 2 = wC w 2 := rfl
    have hi2 := h1.1.i2
    rw [show wC (stp w) 6 = wC w 6 + 1 from rfl] at hi2
    rw [hw0] at e2 e3
    unfold F_X8_happen
    rw [chk_eq h.1.ok, h.1.i2, bind_some', e1, bind_some', h1.1.r6, bind_some', hi2, bind_some', h1.1.r7, bind_some', h1.1.lv hx5, bind_some', (h1.1.SL hx5).g1, bind_some']
    show (F_X2_append t1 (b + 1) (nI x) (nI m) (nI nm) (nI (wC w 6 + 1)) (Ls b x + 2)).bind _ = _
    rw [e2, bind_some']
    dsimp only
    rw [h2.1.r7, bind_some', h2.1.lv hx5, bind_some', h2.1.r6, bind_some', e3]
    rfl
  · have hS : eS (evA (wE (stp w)) (wC (stp w) 2) x (wK (stp w) x + 1) m nm (wC w 6 + 1) (sHs (wL (stp w) x))) (wC (stp w) 2) = x := up_s _ _ _
    have hT : eT (evA (wE (stp w)) (wC (stp w) 2) x (wK (stp w) x + 1) m nm (wC w 6 + 1) (sHs (wL (stp w) x))) (wC (stp w) 2) = wK (stp w) x + 1 := up_s _ _ _
    have hP : eP (evA (wE (stp w)) (wC (stp w) 2) x (wK (stp w) x + 1) m nm (wC w 6 + 1) (sHs (wL (stp w) x))) (wC (stp w) 2) = wC w 6 + 1 := up_s _ _ _
    have h4' : CM O t3 b (wL' (up (wC (stp w)) 2 (wC (stp w) 2 + 1), wX (stp w), up (wK (stp w)) x (wK (stp w) x + 1), evA (wE (stp w)) (wC (stp w) 2) x (wK (stp w) x + 1) m nm (wC w 6 + 1) (sHs (wL (stp w) x)), wL (stp w), wS (stp w), wT (stp w)) (up (wL (stp w)) x (sLg' (hwS (sTb' (wL (stp w) x) (up (sTb (wL (stp w) x)) (5 * x + x) (wK (stp w) x + 1))) (gn (sHw (wL (stp w) x)) (wC (stp w) 2) (wC w 6 + 1) x)) (sLg (wL (stp w) x) ++ [wC (stp w) 2])))) sl := by
      have h5 := h4
      rw [show wE (up (wC (stp w)) 2 (wC (stp w) 2 + 1), wX (stp w), up (wK (stp w)) x (wK (stp w) x + 1), evA (wE (stp w)) (wC (stp w) 2) x (wK (stp w) x + 1) m nm (wC w 6 + 1) (sHs (wL (stp w) x)), wL (stp w), wS (stp w), wT (stp w)) = evA (wE (stp w)) (wC (stp w) 2) x (wK (stp w) x + 1) m nm (wC w 6 + 1) (sHs (wL (stp w) x)) from rfl, hS, hT, hP] at h5
      exact h5
    exact h4'
theorem C_bringIn (h : CM O σ b w sl) (i : Iv (stp w)) (hx : x < wC w 0) {nm : Nat} (hc : wC w 2 < 120) : ∃ t, F_X8_bringIn σ b (nI x) (nI nm) = some (nI (wC w 2), t) ∧ CM O t b (hap (stp w) x (wC w 2) nm) sl ∧ Fr b 254 σ t := by
  have h5 : wC w 0 ≤ 5 := i.n5
  have hx5 : x < 5 := by omega
  obtain ⟨t1, e1, h1, f1⟩ := C_happen h i hx (m := wC w 2) (nm := nm) hc (Nat.le_refl _)
  obtain ⟨t2, e2, i2, f2⟩ := X_insert (e := wC w 2) (h1.1.SL hx5).vw (by omega)
  obtain ⟨i3, f3⟩ := C_setV (h1.1.SL hx5) i2 f2
  obtain ⟨h4, f4⟩ := h1.site hx5 i3 f3
  refine ⟨t2, ?_, ?_, f1.tr f4⟩
  · unfold F_X8_bringIn
    rw [chk_eq h.1.ok, h.1.r6, bind_some', h.1.ev.g0, bind_some', e1]
    show (gR t1 b 8 7).bind _ = _
    rw [h1.1.r7, bind_some', h1.1.lv hx5, bind_some', (h1.1.SL hx5).g0, bind_some', e2]
    rfl
  · have : wL' (hap0 (stp w) x (wC w 2) nm) (up (wL (hap0 (stp w) x (wC w 2) nm)) x (sVw' (wL (hap0 (stp w) x (wC w 2) nm) x) (up (sVw (wL (hap0 (stp w) x (wC w 2) nm) x)) (wC w 2) true))) = hap (stp w) x (wC w 2) nm := by
      unfold hap
      dsimp only
      rw [if_pos (show wC w 2 = wC (stp w) 2 from rfl)]
      refine congrArg (wL' _) ?_
      funext j
      by_cases hj : j = x
      · subst hj
        rw [up_s, up_s]
        show sVw' (up (wL (stp w)) j _ j) (up (sVw (up (wL (stp w)) j _ j)) (wC w 2) true) = _
        rw [up_s]
        rfl
      · rw [up_n _ _ hj, up_n _ _ hj]
        exact up_n _ _ hj
    rw [this] at h4
    exact h4
theorem C_takeOut (h : CM O σ b w sl) (i : Iv (stp w)) (hx : x < wC w 0) {m : Nat} (hc : wC w 2 < 120) (hm : m < wC w 2) : ∃ t, F_X8_takeOut σ b (nI x) (nI m) = some (nI (wC w 2), t) ∧ CM O t b (hap (stp w) x m (eN (wE w) m)) sl ∧ Fr b 254 σ t := by
  have h5 : wC w 0 ≤ 5 := i.n5
  have hx5 : x < 5 := by omega
  have hbv : Bv (wE w) (wC w 2) := i.j.bv
  obtain ⟨t1, e1, h1, f1⟩ := C_happen h i hx (m := m) (nm := eN (wE w) m) hc (by omega)
  obtain ⟨t2, e2, i2, f2⟩ := X_remove (e := m) (h1.1.SL hx5).vw (by omega)
  obtain ⟨i3, f3⟩ := C_setV (h1.1.SL hx5) i2 f2
  obtain ⟨h4, f4⟩ := h1.site hx5 i3 f3
  refine ⟨t2, ?_, ?_, f1.tr f4⟩
  · unfold F_X8_takeOut
    rw [chk_eq h.1.ok, h.1.r6, bind_some', h.1.ev.g5, bind_some', h.1.ev.rN hbv hm, bind_some', e1]
    show (gR t1 b 8 7).bind _ = _
    rw [h1.1.r7, bind_some', h1.1.lv hx5, bind_some', (h1.1.SL hx5).g0, bind_some', e2]
    rfl
  · have : wL' (hap0 (stp w) x m (eN (wE w) m)) (up (wL (hap0 (stp w) x m (eN (wE w) m))) x (sVw' (wL (hap0 (stp w) x m (eN (wE w) m)) x) (up (sVw (wL (hap0 (stp w) x m (eN (wE w) m)) x)) m false))) = hap (stp w) x m (eN (wE w) m) := by
      unfold hap
      dsimp only
      rw [if_neg (show ¬ m = wC (stp w) 2 from fun z => by have : m = wC w 2 := z; omega)]
      refine congrArg (wL' _) ?_
      funext j
      by_cases hj : j = x
      · subst hj
        rw [up_s, up_s]
        show sVw' (up (wL (stp w)) j _ j) (up (sVw (up (wL (stp w)) j _ j)) m false) = _
        rw [up_s]
        rfl
      · rw [up_n _ _ hj, up_n _ _ hj]
        exact up_n _ _ hj
    rw [this] at h4
    exact h4
theorem C_store (h : CM O σ b w sl) (i : Iv w) (hx : x < 5) : ∃ t, F_X8_store σ b (nI x) = some (nI (fb_ct (sHs (wL w x)) (wC w 2)), t) ∧ CM O t b (sav (stp w) x) sl ∧ Fr b 254 σ t := by
  have hc := i.c
  obtain ⟨t1, e1, h1, f1⟩ := h.step
  have hLx : Ls b x = b + 134 + 14 * x := rfl
  obtain ⟨t2, e2, i2, f2⟩ := C_siteCopy (h1.1.SS hx) (h1.1.SL hx) (by omega)
  obtain ⟨h2, f2'⟩ := h1.saved hx i2 f2
  have hsz := X_size (h2.1.SL hx).hs
  have hsz2 : fb_ct (sHs (wL (wS' (stp w) (up (wS (stp w)) x (wL (stp w) x))) x)) 128 = fb_ct (sHs (wL w x)) (wC w 2) := fb_128 (by omega) (i.L hx).2.1
  rw [hsz2] at hsz
  refine ⟨t2, ?_, h2, f1.tr f2'⟩
  unfold F_X8_store
  rw [chk_eq h.1.ok, h.1.i2, bind_some', e1, bind_some', h1.1.r8, bind_some', h1.1.sd hx, bind_some', h1.1.r7, bind_some', h1.1.lv hx, bind_some', e2, bind_some', h2.1.r7, bind_some', h2.1.lv hx, bind_some', (h2.1.SL hx).g1, bind_some', hsz]
  rfl
theorem C_restore (h : CM O σ b w sl) (i : Iv w) (hx : x < 5) : ∃ t, F_X8_restore σ b (nI x) = some (nI (fb_ct (fun e => sHs (wL w x) e && !sHs (wS w x) e) (wC w 2)), t) ∧ CM O t b (fal (stp w) x) sl ∧ Fr b 254 σ t := by
  have hc := i.c
  obtain ⟨t1, e1, h1, f1⟩ := h.step
  have hLx : Ls b x = b + 134 + 14 * x := rfl
  have hsz := X_size (h1.1.SL hx).hs
  have hsh := X_shared (h1.1.SL hx).hs (h1.1.SS hx).hs
  obtain ⟨t2, e2, i2, f2⟩ := C_siteCopy (h1.1.SL hx) (h1.1.SS hx) (by omega)
  obtain ⟨h2, f2'⟩ := h1.site hx i2 f2
  have a1 : fb_ct (sHs (wL w x)) 128 = fb_ct (sHs (wL w x)) (wC w 2) := fb_128 (by omega) (i.L hx).2.1
  have a2 : fb_ct (fun e => sHs (wL w x) e && sHs (wS w x) e) 128 = fb_ct (fun e => sHs (wL w x) e && sHs (wS w x) e) (wC w 2) := fb_128 (by omega) (fun e he => (i.L hx).2.1 e (by simp at he; exact he.1))
  have a3 : fb_ct (fun e => (sHs (wL w x) e && sHs (wS w x) e) || (sHs (wL w x) e && !sHs (wS w x) e)) (wC w 2) = fb_ct (fun e => sHs (wL w x) e && sHs (wS w x) e) (wC w 2) + fb_ct (fun e => sHs (wL w x) e && !sHs (wS w x) e) (wC w 2) := fb_ct_or (fun k _ => by cases sHs (wL w x) k <;> cases sHs (wS w x) k <;> decide)
  have a4 : fb_ct (fun e => (sHs (wL w x) e && sHs (wS w x) e) || (sHs (wL w x) e && !sHs (wS w x) e)) (wC w 2) = fb_ct (sHs (wL w x)) (wC w 2) := fb_ct_cong (fun k _ => by cases sHs (wL w x) k <;> cases sHs (wS w x) k <;> rfl)
  have hw1 : wL (stp w) = wL w := rfl
  have hw2 : wS (stp w) = wS w := rfl
  rw [hw1] at hsz hsh
  rw [hw2] at hsh
  rw [a1] at hsz
  rw [a2] at hsh
  refine ⟨t2, ?_, h2, f1.tr f2'⟩
  unfold F_X8_restore
  rw [chk_eq h.1.ok, h.1.i2, bind_some', e1, bind_some', h1.1.r7, bind_some', h1.1.lv hx, bind_some', (h1.1.SL hx).g1, bind_some', hsz, bind_some', h1.1.r8, bind_some', h1.1.sd hx, bind_some', (h1.1.SS hx).g1, bind_some', hsh, bind_some', bind_some', h1.1.lv hx, bind_some', bind_some', h1.1.sd hx, bind_some', e2, bind_some', pk_sub (by omega)]
  congr 3
  omega
theorem C_adoptW (h : CM O σ b w sl) (i : Iv w) (hx : x < 5) {y : Nat} (hy : y < 5) (hxy : x ≠ y) : ∃ t, F_X8_adopt σ b (nI x) (nI y) = some (nI (fb_ct (sHs (wL (joi (stp w) x y) x)) (wC w 2)), t) ∧ CM O t b (joi (stp w) x y) sl ∧ Fr b 254 σ t := by
  have hc := i.c
  obtain ⟨t1, e1, h1, f1⟩ := h.step
  have hLx : Ls b x = b + 134 + 14 * x := rfl
  have hLy : Ls b y = b + 134 + 14 * y := rfl
  obtain ⟨t2, e2, i2, f2⟩ := C_adopt (n := wC w 0) (me := x) (fr := y) (clk := wK w x) (stp' := wC w 6 + 1) (came := wC w 2) (h1.1.SL hx) (h1.1.SL hy) (by omega) hx hy (i.L hy).2.1 hc (fun j hj hn => ((i.L hy).1 j hj).2 (Or.inr hn))
  obtain ⟨h2, f2'⟩ := h1.site hx i2 f2
  have hsz := X_size (h2.1.SL hx).hs
  have hst : wL (joi (stp w) x y) x = jst x y (wC w 0) (wC w 6 + 1) (wK w x) (wC w 2) (wL w x) (wL w y) := up_s _ _ _
  have hw : wL' (stp w) (up (wL (stp w)) x (jst x y (wC w 0) (wC w 6 + 1) (wK w x) (wC w 2) (wL (stp w) x) (wL (stp w) y))) = joi (stp w) x y := rfl
  rw [hw] at h2 hsz
  have hsz2 : fb_ct (sHs (wL (joi (stp w) x y) x)) 128 = fb_ct (sHs (wL (joi (stp w) x y) x)) (wC w 2) := fb_128 (by omega) (fun e he => by rw [hst] at he; exact (i.L hy).2.1 e he)
  rw [hsz2] at hsz
  refine ⟨t2, ?_, h2, f1.tr f2'⟩
  have hi2 := h1.1.i2
  rw [show wC (stp w) 6 = wC w 6 + 1 from rfl] at hi2
  unfold F_X8_adopt
  rw [chk_eq h.1.ok, h.1.i2, bind_some', e1, bind_some', h1.1.r7, bind_some', h1.1.lv hx, bind_some', bind_some', h1.1.lv hy, bind_some', h1.1.r6, bind_some', h1.1.ev.g1, bind_some', h1.1.ev.rk hx, bind_some', hi2, bind_some']
  show (F_X6_adopt t1 (Ls b x) (Ls b y) (nI x) (nI y) (nI (wK w x)) (nI (wC w 6 + 1))).bind _ = _
  rw [e2, bind_some', h2.1.r7, bind_some', h2.1.lv hx, bind_some', (h2.1.SL hx).g1, bind_some', hsz]
  rfl
theorem ZA.wr {p n j v : Nat} {f : Nat → Nat} (h : ZA σ p n f) (hj : j < n) (hn : n ≤ 2 ^ 31) (hv : v = 0 ∨ v = 1) : ∃ t, zast σ p (nI j) (nI v) = some t ∧ ZA t p n (upN f j v) ∧ Fr p 1 σ t := by
  refine ⟨_, zast_cel h hj hn, ?_, Fr.st h (Nat.le_refl _) (by omega)⟩
  unfold ZA
  rw [cel_stc_s h, nar01 hv, upd_nI]
theorem lk_sym {f o f' o' : Nat} (hf : f < 5) (ho : o < 5) (hf' : f' < 5) (ho' : o' < 5) : lk f o = lk f' o' ↔ (f = f' ∧ o = o') ∨ (f = o' ∧ o = f') := by
  unfold lk
  split <;> split <;> omega
theorem b2_01 (c : Bool) : b2 c = 0 ∨ b2 c = 1 := by cases c <;> simp [b2]
theorem C_setLink (h : CM O σ b w sl) {f o : Nat} (hf : f < 5) (ho : o < 5) : ∃ t, F_X8_setLink σ b (nI f) (nI o) (nI (b2 (!wcut w f o))) = some t ∧ CM O t b (lnk (stp w) f o) sl ∧ Fr b 254 σ t := by
  obtain ⟨t1, e1, h1, f1⟩ := h.step
  obtain ⟨cf, c1, c2⟩ := h1.1.2.2.2.2.2.1
  obtain ⟨t2, e2, i2, f2⟩ := c1.wr (j := 5 * f + o) (v := b2 (!wcut w f o)) (by omega) (by decide) (b2_01 _)
  obtain ⟨t3, e3, i3, f3⟩ := i2.wr (j := 5 * o + f) (v := b2 (!wcut w f o)) (by omega) (by decide) (b2_01 _)
  have hF : Fr (b + 133) 1 t1 t3 := f2.tr f3
  have hF' : Fr b 254 t1 t3 := hF.mo (by omega) (by omega)
  refine ⟨t3, ?_, h1.upd hF' rfl ((hF.at (by omega)).trans h1.1.1) (h1.1.ev.fr hF (by omega)) ((hF.at (by omega)).trans h1.1.2.2.1) ((hF.at (by omega)).trans h1.1.2.2.2.1) ((hF.at (by omega)).trans h1.1.2.2.2.2.1) ⟨_, i3, fun f' o' hf' ho' => ?_⟩ (fun s hs => ⟨?_, (h1.1.SS hs).fr hF (by omega)⟩) (fun c hc => ⟨(hF.at (by omega)).trans (h1.1.ro hc), (hF.at (by omega)).trans (h1.1.rs hc)⟩), f1.tr hF'⟩
  · have r2 : gR t2 b 8 10 = some (b + 133) := gR_cel ((f2.at (by omega)).trans h1.1.1) rfl
    unfold F_X8_setLink
    rw [chk_eq h.1.ok, h.1.i2, bind_some', e1, bind_some', h1.1.r10, bind_some', C_cell, bind_some', e2, bind_some', r2, bind_some', C_cell, bind_some', e3]
    rfl
  · show _ = b2 (up (wX w) (lk f o) (!wX w (lk f o)) (lk f' o'))
    by_cases hk : lk f' o' = lk f o
    · rw [hk, up_s]
      rcases (lk_sym hf' ho' hf ho).mp hk with ⟨ha, hb⟩ | ⟨ha, hb⟩
      · subst ha; subst hb
        by_cases hfo : 5 * f' + o' = 5 * o' + f'
        · rw [← hfo, upN_s]; rfl
        · rw [upN_n hfo, upN_s]; rfl
      · subst ha; subst hb
        rw [upN_s]; rfl
    · rw [up_n _ _ hk]
      have hne : ¬ ((f' = f ∧ o' = o) ∨ (f' = o ∧ o' = f)) := fun z => hk ((lk_sym hf' ho' hf ho).mpr z)
      rw [upN_n (by omega), upN_n (by omega)]
      exact c2 f' o' hf' ho'
  · have : Ls b s = b + 134 + 14 * s := rfl
    exact (h1.1.SL hs).fr hF (by omega)
end CMS
