/-! ===== PURE 67: the class's publics: keep, back ===== -/
theorem zI_some {im : Nat → Option Wd} {sli : Nat → Nat → Nat → Option Nat} {k : Nat} {v : Wd} (h : im k = some v) : zI im sli k = nz (sli k) := by unfold zI; rw [h]
theorem zI_none {im : Nat → Option Wd} {sli : Nat → Nat → Nat → Option Nat} {k : Nat} (h : im k = none) : zI im sli k = 364 := by unfold zI; rw [h]
theorem zI_cg {im im' : Nat → Option Wd} {sli sli' : Nat → Nat → Nat → Option Nat} {k : Nat} (h : im' k = im k) (h2 : sli' k = sli k) : zI im' sli' k = zI im sli k := by unfold zI; rw [h, h2]
theorem oe_n {α ρ : Type} (a : Option ρ) (b : α → Option ρ) : oe none a b = a := rfl
theorem oe_s {α ρ : Type} (x : α) (a : Option ρ) (b : α → Option ρ) : oe (some x) a b = b x := rfl
section PUO
variable {σ t : Sto} {g : Nat} {w v : Wd} {im : Nat → Option Wd} {tr : List Tr} {d : Int64} {z k : Nat} {Q : Nat → Prop} {A : Ga}
/-- the world is copied into an image -/
theorem GT.keepO (h : GT σ g w im tr d z Q) (hk : im k = some v) (hc : wC w 2 ≤ 120) : ∃ p t z' Q', aald σ (g + 255) 7 (nI k) = some (some p) ∧ F_X8_copyOf σ p (g + 1) = some t ∧ GT t g w (up im k (some w)) tr d z' Q' ∧ Gz Q σ z Q' t z' 0 0 := by
  obtain ⟨O, sl, bi, Oi, sli, h1, h2, h3, h4, ⟨h5, ps, h5b⟩, ⟨x, a, F, S, K, h6⟩, h7, h8, h9, h10, h11, h12, h13⟩ := h
  obtain ⟨k1, k2, k3, k4⟩ := h8 k v hk
  obtain ⟨t, O', sl', e1, c1, g1, g2, g3, g4, g5, g6⟩ := C_worldCopy k2 (fun i hi => h13 i (k3 i hi).2.2) h2 (fun i hi => h13 i (h12 i hi)) (fun i hi => (k3 i hi).2.1) hc
  have hlen : σ.1.length ≤ t.1.length := by omega
  have bO : ∀ i, g ≤ i → i < g + 309 → cel t i = cel σ i := fun i a b => g3 i (h13 i (h11 i a b)) (fun y => by have := (k3 i y).1; omega)
  have h308 := h13 (g + 308) (h11 _ (by omega) (by omega))
  have dj : ∀ j u, j ≠ k → im j = some u → ∀ i, Oi j i → ¬ Oi k i := fun j u hjk hj i hi hi2 => by
    have hj2 := (h8 j u hj).1
    rcases (show k = 0 ∨ k = 1 by omega) with h0 | h0
    · have : j = 1 := by omega
      subst this
      subst h0
      exact h9 i v u hk hj hi2 hi
    · have : j = 0 := by omega
      subst this
      subst h0
      exact h9 i u v hj hk hi hi2
  have hf : (fun j => (up im k (some w) j).map (fun _ => bi j)) = fun j => (im j).map (fun _ => bi j) := by
    funext j
    by_cases hj : j = k
    · subst hj; rw [up_s, hk]; rfl
    · rw [up_n _ _ hj]
  have hz : nz sl + zI (up im k (some w)) (up sli k sl') 0 + zI (up im k (some w)) (up sli k sl') 1 + nz (sli k) = z + nz sl' := by
    have hs := zI_some (im := up im k (some w)) (sli := up sli k sl') (k := k) (v := w) (up_s _ _ _)
    rw [up_s] at hs
    have ho := zI_some (sli := sli) hk
    rcases (show k = 0 ∨ k = 1 by omega) with h0 | h0
    · subst h0
      rw [hs, zI_cg (k := 1) (up_n im (some w) (by decide)) (up_n sli sl' (by decide)), h10, ho]
      omega
    · subst h0
      rw [hs, zI_cg (k := 0) (up_n im (some w) (by decide)) (up_n sli sl' (by decide)), h10, ho]
      omega
  refine ⟨bi k, t, nz sl + zI (up im k (some w)) (up sli k sl') 0 + zI (up im k (some w)) (up sli k sl') 1, fun i => Q i ∨ (σ.1.length ≤ i ∧ i < t.1.length), by rw [aald_cel h3 k1 (by decide), hk]; rfl, e1, ⟨O, sl, bi, up Oi k O', up sli k sl', (bO g (by omega) (by omega)).trans h1, h2.cg (fun i hi => g3 i (h13 i (h12 i hi)) (fun y => (k3 i y).2.1 hi)), ?_, h4.cg (fun i a b => bO i (by omega) (by omega)), ⟨h5.cg (fun i a b => bO i (by omega) (by omega)), ps, fun s hs => (h5b s hs).cg (fun i a b => bO i (by omega) (by omega))⟩, ⟨x, a, F, S, K, h6.cg (fun i a b => bO i (by omega) (by omega))⟩, h7, fun j u hj => ?_, fun i u u' hu hu' => ?_, rfl, fun i a b => Or.inl (h11 i a b), fun i hi => Or.inl (h12 i hi), fun i hi => ?_⟩, fun i hi => Or.inl hi, fun i hi => hi.imp id (fun y => y.1), fun i a b => g3 i a (fun y => b (k3 i y).2.2), hlen, by omega, by omega⟩
  · rw [hf]; unfold RA; rw [bO _ (by omega) (by omega)]; exact h3
  · by_cases hjk : j = k
    · subst hjk
      rw [up_s] at hj
      cases hj
      rw [up_s, up_s]
      refine ⟨k1, c1, fun i hi => ?_, c1.1.ok⟩
      rcases g2 i hi with y | y
      · exact ⟨(k3 i y).1, (k3 i y).2.1, Or.inl (k3 i y).2.2⟩
      · exact ⟨by omega, fun y2 => by have := h13 i (h12 i y2); omega, Or.inr y⟩
    · rw [up_n _ _ hjk] at hj
      rw [up_n _ _ hjk, up_n _ _ hjk]
      obtain ⟨a1, a2, a3, a4⟩ := h8 j u hj
      have a5 := a2.cg (t := t) (fun i hi => g3 i (h13 i (a3 i hi).2.2) (dj j u hjk hj i hi))
      exact ⟨a1, a5, fun i hi => ⟨(a3 i hi).1, (a3 i hi).2.1, Or.inl (a3 i hi).2.2⟩, a5.1.ok⟩
  · rcases (show k = 0 ∨ k = 1 by omega) with h0 | h0
    · subst h0
      rw [up_n _ _ (by decide)] at hu'
      rw [up_s, up_n _ _ (by decide)]
      intro hi hi2
      rcases g2 i hi with y | y
      · exact h9 i v u' hk hu' y hi2
      · have := h13 i ((h8 1 u' hu').2.2.1 i hi2).2.2
        omega
    · subst h0
      rw [up_n _ _ (by decide)] at hu
      rw [up_s, up_n _ _ (by decide)]
      intro hi hi2
      rcases g2 i hi2 with y | y
      · exact h9 i u v hu hk hi y
      · have := h13 i ((h8 0 u hu).2.2.1 i hi).2.2
        omega
  · rcases hi with y | y
    · exact Nat.lt_of_lt_of_le (h13 i y) hlen
    · exact y.2
/-- an image is copied into the world -/
theorem GT.backO (h : GT σ g w im tr d z Q) (hk : im k = some v) (hc : wC v 2 ≤ 120) : ∃ p t z' Q', aald σ (g + 255) 7 (nI k) = some (some p) ∧ F_X8_copyOf σ (g + 1) p = some t ∧ GT t g v im tr d z' Q' ∧ Gz Q σ z Q' t z' 0 0 := by
  obtain ⟨O, sl, bi, Oi, sli, h1, h2, h3, h4, ⟨h5, ps, h5b⟩, ⟨x, a, F, S, K, h6⟩, h7, h8, h9, h10, h11, h12, h13⟩ := h
  obtain ⟨k1, k2, k3, k4⟩ := h8 k v hk
  obtain ⟨t, O', sl', e1, c1, g1, g2, g3, g4, g5, g6⟩ := C_worldCopy h2 (fun i hi => h13 i (h12 i hi)) k2 (fun i hi => h13 i (k3 i hi).2.2) (fun i hi y => (k3 i y).2.1 hi) hc
  have hlen : σ.1.length ≤ t.1.length := by omega
  have bO : ∀ i, g + 255 ≤ i → i < g + 309 → cel t i = cel σ i := fun i a b => g3 i (h13 i (h11 i (by omega) b)) (fun y => by have := h7 i y; omega)
  refine ⟨bi k, t, nz sl' + zI im sli 0 + zI im sli 1, fun i => Q i ∨ (σ.1.length ≤ i ∧ i < t.1.length), by rw [aald_cel h3 k1 (by decide), hk]; rfl, e1, ⟨O', sl', bi, Oi, sli, ?_, c1, ?_, h4.cg (fun i a b => bO i (by omega) (by omega)), ⟨h5.cg (fun i a b => bO i (by omega) (by omega)), ps, fun s hs => (h5b s hs).cg (fun i a b => bO i (by omega) (by omega))⟩, ⟨x, a, F, S, K, h6.cg (fun i a b => bO i (by omega) (by omega))⟩, fun i hi => ?_, fun k v hk => ?_, h9, rfl, fun i a b => Or.inl (h11 i a b), fun i hi => ?_, fun i hi => ?_⟩, fun i hi => Or.inl hi, fun i hi => hi.imp id (fun y => y.1), fun i a b => g3 i a (fun y => b (h12 i y)), hlen, by omega, by omega⟩
  · rw [g3 g (h13 g (h11 g (by omega) (by omega))) (fun y => by have := h7 g y; omega)]; exact h1
  · unfold RA; rw [bO _ (by omega) (by omega)]; exact h3
  · rcases g2 i hi with y | y
    · exact h7 i y
    · have := h13 (g + 308) (h11 _ (by omega) (by omega))
      exact Or.inr (by omega)
  · obtain ⟨a1, a2, a3, a4⟩ := h8 k v hk
    have a5 := a2.cg (t := t) (fun i hi => g3 i (h13 i (a3 i hi).2.2) (a3 i hi).2.1)
    refine ⟨a1, a5, fun i hi => ⟨(a3 i hi).1, fun y => ?_, Or.inl (a3 i hi).2.2⟩, a5.1.ok⟩
    rcases g2 i y with y | y
    · exact (a3 i hi).2.1 y
    · have := h13 i (a3 i hi).2.2
      omega
  · rcases g2 i hi with y | y
    · exact Or.inl (h12 i y)
    · exact Or.inr y
  · rcases hi with y | y
    · exact Nat.lt_of_lt_of_le (h13 i y) hlen
    · exact y.2
/-- a new image -/
theorem GT.addI (h : GT σ g w im tr d z Q) (hk2 : k < 2) (hk : im k = none) : ∃ t z' Q', (∀ (ρ : Type) (K : Nat → Sto → Option ρ), nw_ σ (.inl (8, dfl_8)) 11 (fun p6 s5 => (F_X8_init s5 p6).bind fun s7 => (gR s7 g 9 1).bind fun p8 => (aast s7 p8 7 (nI k) p6).bind fun s9 => K p6 s9) = K σ.1.length t) ∧ aald t (g + 255) 7 (nI k) = some (some σ.1.length) ∧ GT t g w (up im k (some (wBeg 3 0))) tr d z' Q' ∧ Gz Q σ z Q' t z' 0 0 := by
  obtain ⟨O, sl, bi, Oi, sli, h1, h2, h3, h4, ⟨h5, ps, h5b⟩, ⟨x, a, F, S, K, h6⟩, h7, h8, h9, h10, h11, h12, h13⟩ := h
  have h308 := h13 (g + 308) (h11 _ (by omega) (by omega))
  have c0 : ∀ i, cel (apc σ (.inl (8, dfl_8)) 11) i = if i = σ.1.length then some (.inl (8, dfl_8)) else cel σ i := fun i => by rw [cel_apc]
  obtain ⟨s7, e7, m7, f7, l7, z7⟩ := C_newWorld (σ := apc σ (.inl (8, dfl_8)) 11) (b := σ.1.length) (by rw [c0, if_pos rfl]) (by rw [len_apc])
  have f8 : ∀ i, i < σ.1.length → cel s7 i = cel σ i := fun i hi => by rw [f7 i hi, c0, if_neg (by omega)]
  have r7 : RA s7 (g + 255) 7 2 (fun k => (im k).map (fun _ => bi k)) := by unfold RA; rw [f8 _ (by omega)]; exact h3
  obtain ⟨t, e9, r9, F9⟩ := r7.wr (j := k) (r := σ.1.length) hk2 (by decide) m7.1.ok
  have bO : ∀ i, i < σ.1.length → i ≠ g + 255 → cel t i = cel σ i := fun i a b => by rw [F9.at (by omega), f8 i a]
  have hf : up (fun k => (im k).map (fun _ => bi k)) k (some σ.1.length) = fun j => (up im k (some (wBeg 3 0)) j).map (fun _ => up bi k σ.1.length j) := by
    funext j
    by_cases hj : j = k
    · subst hj; rw [up_s, up_s, up_s]; rfl
    · rw [up_n _ _ hj, up_n _ _ hj, up_n _ _ hj]
  rw [hf] at r9
  have lt : t.1.length = σ.1.length + 254 := by rw [F9.2.1, l7]
  have zt : t.2 = σ.2 + 5475 := by rw [F9.1, z7]; show σ.2 + 11 + 5464 = _; omega
  have hz : nz sl + zI (up im k (some (wBeg 3 0))) (up sli k (fun _ _ => none)) 0 + zI (up im k (some (wBeg 3 0))) (up sli k (fun _ _ => none)) 1 + 64 = z := by
    have hs := zI_some (im := up im k (some (wBeg 3 0))) (sli := up sli k (fun _ _ => none)) (k := k) (v := wBeg 3 0) (up_s _ _ _)
    rw [up_s, nz_none] at hs
    have ho := zI_none (sli := sli) hk
    rcases (show k = 0 ∨ k = 1 by omega) with h0 | h0
    · subst h0
      rw [hs, zI_cg (k := 1) (up_n im (some (wBeg 3 0)) (by decide)) (up_n sli (fun _ _ => none) (by decide)), h10, ho]
      omega
    · subst h0
      rw [hs, zI_cg (k := 0) (up_n im (some (wBeg 3 0)) (by decide)) (up_n sli (fun _ _ => none) (by decide)), h10, ho]
  refine ⟨t, nz sl + zI (up im k (some (wBeg 3 0))) (up sli k (fun _ _ => none)) 0 + zI (up im k (some (wBeg 3 0))) (up sli k (fun _ _ => none)) 1, fun i => Q i ∨ (σ.1.length ≤ i ∧ i < t.1.length), fun ρ K => ?_, ?_, ⟨O, sl, up bi k σ.1.length, up Oi k (Ow σ.1.length), up sli k (fun _ _ => none), (bO g (by omega) (by omega)).trans h1, h2.cg (fun i hi => bO i (h13 i (h12 i hi)) (by have := h7 i hi; omega)), r9, h4.cg (fun i a b => bO i (by omega) (by omega)), ⟨h5.cg (fun i a b => bO i (by omega) (by omega)), ps, fun s hs => (h5b s hs).cg (fun i a b => bO i (by omega) (by omega))⟩, ⟨x, a, F, S, K, h6.cg (fun i a b => bO i (by omega) (by omega))⟩, h7, fun j u hj => ?_, fun i u u' hu hu' => ?_, rfl, fun i a b => Or.inl (h11 i a b), fun i hi => Or.inl (h12 i hi), fun i hi => ?_⟩, fun i hi => Or.inl hi, fun i hi => hi.imp id (fun y => y.1), fun i a b => bO i a (fun y => b (h11 i (by omega) (by omega))), by omega, by omega, by omega⟩
  · unfold nw_
    show (F_X8_init (apc σ (.inl (8, dfl_8)) 11) σ.1.length).bind _ = _
    rw [e7, bind_some', gR_cel (show cel s7 g = _ from (f8 g (by omega)).trans h1) rfl, bind_some', e9, bind_some']
  · rw [aald_cel r9 hk2 (by decide), up_s, up_s]; rfl
  · by_cases hjk : j = k
    · subst hjk
      rw [up_s] at hj
      cases hj
      rw [up_s, up_s, up_s]
      have m9 := m7.cg (t := t) (fun i hi => F9.at (by have := hi.1; omega))
      exact ⟨hk2, m9, fun i hi => ⟨by have := hi.1; omega, fun y => by have := h13 i (h12 i y); have := hi.1; omega, Or.inr ⟨hi.1, by have := hi.2; omega⟩⟩, m9.1.ok⟩
    · rw [up_n _ _ hjk] at hj
      rw [up_n _ _ hjk, up_n _ _ hjk, up_n _ _ hjk]
      obtain ⟨a1, a2, a3, a4⟩ := h8 j u hj
      have a5 := a2.cg (t := t) (fun i hi => bO i (h13 i (a3 i hi).2.2) (by have := (a3 i hi).1; omega))
      exact ⟨a1, a5, fun i hi => ⟨(a3 i hi).1, (a3 i hi).2.1, Or.inl (a3 i hi).2.2⟩, a5.1.ok⟩
  · rcases (show k = 0 ∨ k = 1 by omega) with h0 | h0
    · subst h0
      rw [up_n _ _ (by decide)] at hu'
      rw [up_s, up_n _ _ (by decide)]
      intro hi hi2
      have := h13 i ((h8 1 u' hu').2.2.1 i hi2).2.2
      have := hi.1
      omega
    · subst h0
      rw [up_n _ _ (by decide)] at hu
      rw [up_s, up_n _ _ (by decide)]
      intro hi hi2
      have := h13 i ((h8 0 u hu).2.2.1 i hi).2.2
      have := hi2.1
      omega
  · rcases hi with y | y
    · have := h13 i y
      omega
    · exact y.2
def aKee (A : Ga) (k : Int32) : Ra := if inR k 2 = true then (.inl (nI (wC A.1 2)), (A.1, up A.2.1 (tN k) (some A.1), A.2.2)) else (.inr eIA, A)
theorem GA.n2 (h : GA σ g A z Q) : ∃ p, gR σ (g + 1) 8 6 = some p ∧ gI σ p 2 0 = some (nI (wC A.1 2)) := by
  obtain ⟨O, sl, c, o1, o2⟩ := GT.cm h
  exact ⟨_, c.1.r6, c.1.ev.g0⟩
theorem C_keep (h : GA σ g A z Q) (i : Iv A.1) (x : Int32) : Ans σ g z Q (F_X9_keep σ g x) (aKee A x) := by
  unfold F_X9_keep aKee
  rw [chk_eq h.ok, C_needImage h, tbI]
  cases hx : inR x 2 with
  | false => exact Ans.thw h eIA
  | true =>
    obtain ⟨x1, x2⟩ := inR_tN (by omega) hx
    generalize tN x = k at x1 x2
    subst x1
    have hRA : ∃ bi : Nat → Nat, RA σ (g + 255) 7 2 (fun k => (A.2.1 k).map (fun _ => bi k)) := by
      obtain ⟨O, sl, bi, Oi, sli, h1, h2, h3, -⟩ := h
      exact ⟨bi, h3⟩
    obtain ⟨bi, hRA⟩ := hRA
    rw [if_pos rfl, if_pos rfl, h.r1, bind_some', aald_cel hRA x2 (by decide), bind_some']
    cases hk : A.2.1 k with
    | none =>
      obtain ⟨t1, z1, Q1, e1, a1, h1, G1⟩ := GT.addI h x2 hk
      obtain ⟨p, t2, z2, Q2, a2, e2, h2, G2⟩ := GT.keepO h1 (k := k) (v := wBeg 3 0) (up_s _ _ _) i.j.c
      rw [a1] at a2
      cases a2
      rw [up_up] at h2
      obtain ⟨p, p1, p2⟩ := GA.n2 (A := (A.1, up A.2.1 k (some A.1), A.2.2.1, A.2.2.2)) h2
      refine ⟨t2, z2, Q2, ?_, h2, (G1.tr G2).mo (by omega) (by omega)⟩
      rw [Option.map_none, oe_n]
      refine (e1 _ _).trans ?_
      rw [h1.r0, bind_some', e2, bind_some', h2.r0, bind_some', p1, bind_some', p2, bind_some']
    | some v =>
      obtain ⟨p, t2, z2, Q2, a2, e2, h2, G2⟩ := GT.keepO h (k := k) hk i.j.c
      rw [aald_cel hRA x2 (by decide), hk] at a2
      cases a2
      obtain ⟨p, p1, p2⟩ := GA.n2 (A := (A.1, up A.2.1 k (some A.1), A.2.2.1, A.2.2.2)) h2
      refine ⟨t2, z2, Q2, ?_, h2, G2.mo (by omega) (by omega)⟩
      rw [Option.map_some, oe_s, h.r0, bind_some', e2, bind_some', h2.r0, bind_some', p1, bind_some', p2, bind_some']
def aBac (A : Ga) (k : Int32) : Ra := if inR k 2 = true then (match A.2.1 (tN k) with
  | none => (.inr eNS, A)
  | some v => (.inl (nI (wC v 2)), (v, A.2.1, [], A.2.2.2))) else (.inr eIA, A)
theorem C_backP (h : GA σ g A z Q) (hi : ∀ k v, A.2.1 k = some v → Iv v) (x : Int32) : Ans σ g z Q (F_X9_back σ g x) (aBac A x) := by
  unfold F_X9_back aBac
  rw [chk_eq h.ok, C_needImage h, tbI]
  cases hx : inR x 2 with
  | false => exact Ans.thw h eIA
  | true =>
    obtain ⟨x1, x2⟩ := inR_tN (by omega) hx
    generalize tN x = k at x1 x2
    subst x1
    have hRA : ∃ bi : Nat → Nat, RA σ (g + 255) 7 2 (fun k => (A.2.1 k).map (fun _ => bi k)) := by
      obtain ⟨O, sl, bi, Oi, sli, h1, h2, h3, -⟩ := h
      exact ⟨bi, h3⟩
    obtain ⟨bi, hRA⟩ := hRA
    rw [if_pos rfl, if_pos rfl, h.r1, bind_some', aald_cel hRA x2 (by decide), bind_some']
    cases hk : A.2.1 k with
    | none => exact Ans.thw h eNS
    | some v =>
      obtain ⟨p, t2, z2, Q2, a2, e2, h2, G2⟩ := GT.backO h (k := k) hk (hi k v hk).c
      rw [aald_cel hRA x2 (by decide), hk] at a2
      cases a2
      have hT : CT t2 (g + 256) A.2.2.1 := by
        obtain ⟨O, sl, bi, Oi, sli, k1, k2, k3, k4, -⟩ := h2
        exact k4
      obtain ⟨t3, e3, c3, F3⟩ := C_forget hT
      obtain ⟨h3, G3⟩ := h2.trc c3 F3
      obtain ⟨p, p1, p2⟩ := GA.n2 (A := (v, A.2.1, [], A.2.2.2)) h3
      refine ⟨t3, z2, Q2, ?_, h3, (G2.tr G3).mo (by omega) (by omega)⟩
      rw [Option.map_some, oe_s, h.r0, bind_some', e2, bind_some', h2.r2, bind_some', e3, bind_some', h3.r0, bind_some', p1, bind_some', p2, bind_some']
end PUO
