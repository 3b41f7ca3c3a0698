/-! ===== PURE 43: were a site to fall, or to join ===== -/
/-- what is told of a site of a world -/
def rkn (w : Wd) (x k : Nat) : Nat := if k = 0 then fb_ct (sHs (wL w x)) (wC w 2) else if k = 1 then lst w x else if k = 2 then fb_ct (ovC w x) 25 else sm (fun y => fb_ct (ovC w y) 25) (wC w 0)
/-- when and by whom events came is not told there -/
theorem msT_ext {w w' : Wd} (hE : wE w' = wE w) (hH : ∀ s, sHs (wL w' s) = sHs (wL w s)) (s o : Nat) : ∀ c, msT w' s o c = msT w s o c
  | 0 => rfl
  | c + 1 => by
    show (if msT w' s o c = 0 ∧ eS (wE w') c = o ∧ sHs (wL w' s) c = false then eT (wE w') c else msT w' s o c) = if msT w s o c = 0 ∧ eS (wE w) c = o ∧ sHs (wL w s) c = false then eT (wE w) c else msT w s o c
    rw [msT_ext hE hH s o c, hE, hH]
theorem rkn_ext {w w' : Wd} (hC : wC w' = wC w) (hE : wE w' = wE w) (hT : wT w' = wT w) (h1 : ∀ s, sTb (wL w' s) = sTb (wL w s)) (h2 : ∀ s, sHs (wL w' s) = sHs (wL w s)) (h3 : ∀ s, sLg (wL w' s) = sLg (wL w s)) (x k : Nat) : rkn w' x k = rkn w x k := by
  have hov : ∀ y, ovC w' y = ovC w y := fun y => by
    funext i
    unfold ovC
    rw [hC, msT_ext hE h2, h1]
  have hkn : ∀ s o e, knw (wE w') (wL w' s) o e = knw (wE w) (wL w s) o e := fun s o e => by unfold knw; rw [hE, h1]
  have hlst : lst w' x = lst w x := by
    unfold lst rch stb otw
    rw [hC, hT]
    congr 1
    funext e
    rw [h2, hkn]
    congr 3
    congr 1
    funext s
    rw [h3, hkn]
  unfold rkn
  rw [hlst, hov, h2, hC]
  simp only [hov]
section RKN
variable {O : Nat → Prop} {L : Nat → Nat} {σ t : Sto} {b P : Nat} {w : Wd} {sl : Nat → Nat → Option Nat} {ps : Nat → St}
/-- another site stands in for a live one -/
theorem C_swap (h : CW O L σ b w sl) {x p : Nat} {st : St} (hx : x < 5) (hS : SI σ p st) (hp : p + 7 ≤ b ∨ b + 254 ≤ p) (hLb : ∀ s, s < 5 → L s ≠ b + 130 ∧ (L s + 7 ≤ b + 130 ∨ b + 131 ≤ L s)) (hlb : ∀ c k q, c < 25 → k < 12 → sl c k = some q → q + 4 ≤ b ∨ b + 254 ≤ q) : ∃ t, aast σ (b + 130) 4 (nI x) p = some t ∧ CW (fun i => O i ∨ (p ≤ i ∧ i < p + 7)) (up L x p) t b (wL' w (up (wL w) x st)) sl ∧ Fr (b + 130) 1 σ t ∧ RA t (b + 130) 4 5 (up (rfN 5 L) x (some p)) := by
  obtain ⟨t, e1, r1, f1⟩ := RA.wr h.2.2.1 (j := x) (r := p) hx (by decide) hS.ok
  have hr : up (rfN 5 L) x (some p) = rfN 5 (up L x p) := by
    funext j
    unfold up rfN
    dsimp only
    by_cases hj : j = x
    · rw [if_pos hj, if_pos (by omega), if_pos hj]
    · rw [if_neg hj, if_neg hj]
  obtain ⟨cf, c1, c2⟩ := h.2.2.2.2.2.1
  refine ⟨t, e1, ⟨(f1.at (by omega)).trans h.1, h.ev.fr f1 (by omega), by rw [← hr]; exact r1, (f1.at (by omega)).trans h.2.2.2.1, (f1.at (by omega)).trans h.2.2.2.2.1, ⟨cf, (f1.at (by omega)).trans c1, c2⟩, fun s hs => ⟨?_, (h.SS hs).fr f1 (by omega)⟩, fun c hc => ⟨(f1.at (by omega)).trans (h.ro hc), (f1.at (by omega)).trans (h.rs hc)⟩, fun c k q hc hk hq => ?_, fun c k l hc hl => ?_, fun i a1 a2 => Or.inl (h.o1 i a1 a2), fun s hs i a1 a2 => ?_, fun c k q hc hk hq i a1 a2 => Or.inl (h.o3 c k q hc hk hq i a1 a2)⟩, f1, r1⟩
  · show SI t (up L x p s) (up (wL w) x st s)
    by_cases hsx : s = x
    · subst hsx; rw [up_s, up_s]; exact hS.fr f1 (by omega)
    · rw [up_n _ _ hsx, up_n _ _ hsx]
      have := hLb s hs
      exact (h.SL hs).fr f1 (by omega)
  · obtain ⟨f, o, l, a⟩ := h.gb hc hk hq
    have := hlb c k q hc hk hq
    exact ⟨f, o, l, a.fr f1 (by omega)⟩
  · obtain ⟨hk, q, a1, a2⟩ := h.lt hc hl
    have := hlb c k q hc hk a1
    exact ⟨hk, q, a1, a2.fr f1 (by omega)⟩
  · by_cases hsx : s = x
    · subst hsx
      rw [up_s] at a1 a2
      exact Or.inr ⟨a1, a2⟩
    · rw [up_n _ _ hsx] at a1 a2
      exact Or.inl (h.o2 s hs i a1 a2)
theorem C_back {σ t u : Sto} (h : CW O L σ b w sl) {x p : Nat} (hx : x < 5) (hO : Ap O P) (f1 : Fr (b + 130) 1 σ t) (r1 : RA t (b + 130) 4 5 (up (rfN 5 L) x (some p))) (F2 : Fr (P + 2) 7 t u) (hLx : (gO u (L x) 6).isSome = true) : ∃ v, aast u (b + 130) 4 (nI x) (L x) = some v ∧ Fr (P + 2) 7 σ v := by
  have hb := hO (b + 130) (h.o1 _ (by omega) (by omega))
  have r2 : RA u (b + 130) 4 5 (up (rfN 5 L) x (some p)) := (F2.at hb).trans r1
  obtain ⟨v, e1, r3, f3⟩ := RA.wr r2 (j := x) (r := L x) hx (by decide) hLx
  refine ⟨v, e1, f3.1.trans (F2.1.trans f1.1), f3.2.1.trans (F2.2.1.trans f1.2.1), fun i hi => ?_⟩
  by_cases hib : i = b + 130
  · subst hib
    have hr : up (up (rfN 5 L) x (some p)) x (some (L x)) = rfN 5 L := by
      rw [up_up]
      funext j
      unfold up rfN
      by_cases hj : j = x
      · subst hj; rw [if_pos rfl, if_pos hx]
      · rw [if_neg hj]
    rw [hr] at r3
    exact r3.trans h.2.2.1.symm
  · rw [f3.at (by omega), F2.at hi, f1.at (by omega)]
/-- standard pointers, letters apart from the block -/
theorem CM.ls (h : CM O σ b w sl) : (∀ s, s < 5 → Ls b s ≠ b + 130 ∧ (Ls b s + 7 ≤ b + 130 ∨ b + 131 ≤ Ls b s)) ∧ ∀ c k q, c < 25 → k < 12 → sl c k = some q → q + 4 ≤ b ∨ b + 254 ≤ q := ⟨fun s _ => by
  have : Ls b s = b + 134 + 14 * s := rfl
  omega, h.2.1⟩
theorem aq_ap {O : Nat → Prop} {P : Nat} (h : Aq O P) : Ap O P := fun i hi => by have := h i hi; omega
theorem aq_b (h : CW O L σ b w sl) (hO : Aq O P) : b + 254 ≤ P + 2 ∨ P + 44 ≤ b := by
  refine Classical.byContradiction fun hx2 => ?_
  by_cases hle : b ≤ P + 2
  · have := hO (P + 2) (h.o1 _ (by omega) (by omega)); omega
  · have := hO b (h.o1 _ (by omega) (by omega)); omega
theorem C_reckonWith (h : CM O σ b w sl) (hp : PB σ P b) (hs : PS σ P ps) (hO : Aq O P) (i : Iv w) {x k : Nat} (hx : x < 5) (hk : k < 4) (hj : Js (wC w 2) (ps x)) (hh : ∀ e, sHs (ps x) e = true → e < wC w 2) : ∃ t, F_X5_reckonWith σ P (nI x) (nI k) = some (nI (rkn (wL' w (up (wL w) x (ps x))) x k), t) ∧ PB t P b ∧ Fr (P + 2) 7 σ t := by
  have hc := i.c
  have hab := aq_b h.1 hO
  have hap := aq_ap hO
  obtain ⟨ls1, ls2⟩ := h.ls
  obtain ⟨t1, e1, h1, f1, r1⟩ := C_swap h.1 hx (hs x hx) (by omega) ls1 ls2
  have p1 : PB t1 P b := hp.cg (fun j a1 a2 => f1.at (by omega))
  have s1 : PS t1 P ps := fun s hs5 => (hs s hs5).fr f1 (by omega)
  have hO1 : Ap (fun j => O j ∨ (P + 9 + 7 * x ≤ j ∧ j < P + 9 + 7 * x + 7)) P := fun j hj2 => by
    rcases hj2 with hj2 | hj2
    · exact hap j hj2
    · omega
  have j1 : Jv (wL' w (up (wL w) x (ps x))) := i.j.up hj
  have ht0 : ∀ e, e < wC w 2 → 0 < eT (wE w) e := fun e he => (i.2.2.1 e he).2.1
  have hlt : ∀ c, c < 25 → ∀ l ∈ wT w c, ∀ e ∈ lEv l, e < wC w 2 := fun c hc2 l hl e he => by
    have := (i.2.2.2.2.2.1 (c / 5) (by omega) (c % 5) (by omega)).2.1 l (by rw [show 5 * (c / 5) + c % 5 = c by omega]; exact hl)
    exact (this.2.2.2 e he).1
  have hLx : ∀ u, Fr (P + 2) 7 t1 u → (gO u (Ls b x) 6).isSome = true := fun u F2 => by
    have hls : Ls b x = b + 134 + 14 * x := rfl
    exact (((h.1.SL hx).fr f1 (by omega)).fr F2 (by omega)).ok
  have wr0 : ∀ u, Fr (P + 2) 7 t1 u → gR u b 8 7 = some (b + 130) := fun u F2 => gR_cel ((F2.at (by omega)).trans h1.1) rfl
  have k4 : k = 0 ∨ k = 1 ∨ k = 2 ∨ k = 3 := by omega
  have l20 : ¬ nI 2 = (0 : Int32) := by decide
  have l21 : ¬ nI 2 = (1 : Int32) := by decide
  have l10 : ¬ nI 1 = (0 : Int32) := by decide
  have l30 : ¬ nI 3 = (0 : Int32) := by decide
  have l31 : ¬ nI 3 = (1 : Int32) := by decide
  have l32 : ¬ nI 3 = (2 : Int32) := by decide
  have pre : ∀ (K : Sto → Option (Int32 × Sto)), ((gR σ P 5 0).bind fun p1 => (gR σ p1 8 7).bind fun p2 => (aaldR σ p2 4 (nI x)).bind fun p3 => (gR σ P 5 0).bind fun p4 => (gR σ p4 8 7).bind fun p5 => (gR σ P 5 1).bind fun p6 => (aaldR σ p6 4 (nI x)).bind fun p7 => (aast σ p5 4 (nI x) p7).bind fun s8 => if p3 = Ls b x then K s8 else none) = K t1 := by
    intro K
    rw [hp.r0, bind_some', h.1.r7, bind_some', h.1.lv hx, bind_some', bind_some', h.1.r7, bind_some', hp.r1, bind_some', hp.sa hx, bind_some', e1, bind_some', if_pos rfl]
  unfold F_X5_reckonWith
  rw [chk_eq hp.ok, hp.r0, bind_some', h.1.r7, bind_some', h.1.lv hx, bind_some', bind_some', h.1.r7, bind_some', hp.r1, bind_some', hp.sa hx, bind_some', e1, bind_some']
  clear pre
  rcases k4 with rfl | rfl | rfl | rfl
  · obtain ⟨u, e2, F2⟩ := C_back h.1 hx hap f1 r1 (Fr.rf (σ := t1)) (hLx t1 Fr.rf)
    have hsz := X_size (s1 x hx).hs
    rw [fb_128 (by omega) hh] at hsz
    refine ⟨u, ?_, p1.cg (fun j a1 a2 => ?_), F2⟩
    · rw [if_pos nI_0, p1.r1, bind_some', p1.sa hx, bind_some', (s1 x hx).g1, bind_some', hsz, bind_some', p1.r0, bind_some', wr0 t1 Fr.rf, bind_some', e2, bind_some']
      have : rkn (wL' w (up (wL w) x (ps x))) x 0 = fb_ct (sHs (ps x)) (wC w 2) := by
        show fb_ct (sHs (up (wL w) x (ps x) x)) (wC w 2) = _
        rw [up_s]
      rw [this]
    · have hcc : cel u j = cel t1 j := by
        by_cases hj2 : j = b + 130
        · omega
        · have r2 := r1
          obtain ⟨v, e3, r3, f3⟩ := RA.wr r1 (j := x) (r := Ls b x) hx (by decide) (hLx t1 Fr.rf)
          rw [e2] at e3
          cases e3
          exact f3.at (by omega)
      exact hcc
  · obtain ⟨t2, e2, p2, F2⟩ := C_lostTo h1 p1 j1 hO1 hx hlt (fun e he => by
      rw [wL_up] at he; exact hh e he)
    obtain ⟨u, e3, F3⟩ := C_back h.1 hx hap f1 r1 F2 (hLx t2 F2)
    refine ⟨u, ?_, p2.cg (fun j a1 a2 => ?_), F3⟩
    · rw [if_neg l10, if_pos l_1.symm, e2, wbs, p2.r0, bind_some', wr0 t2 F2, bind_some', e3, bind_some']
      rfl
    · obtain ⟨v, e4, r4, f4⟩ := RA.wr ((F2.at (by omega)).trans r1) (j := x) (r := Ls b x) hx (by decide) (hLx t2 F2)
      rw [e3] at e4
      cases e4
      exact f4.at (by omega)
  · obtain ⟨t2, e2, p2, F2⟩ := C_overstatedAt h1 p1 j1 hO1 ht0 hx
    obtain ⟨u, e3, F3⟩ := C_back h.1 hx hap f1 r1 F2 (hLx t2 F2)
    refine ⟨u, ?_, p2.cg (fun j a1 a2 => ?_), F3⟩
    · rw [if_neg l20, if_neg l21, if_pos l_2.symm, e2, wbs, p2.r0, bind_some', wr0 t2 F2, bind_some', e3, bind_some']
      rfl
    · obtain ⟨v, e4, r4, f4⟩ := RA.wr ((F2.at (by omega)).trans r1) (j := x) (r := Ls b x) hx (by decide) (hLx t2 F2)
      rw [e3] at e4
      cases e4
      exact f4.at (by omega)
  · obtain ⟨t2, e2, p2, F2⟩ := C_overstatedCells h1 p1 j1 hO1 ht0
    obtain ⟨u, e3, F3⟩ := C_back h.1 hx hap f1 r1 F2 (hLx t2 F2)
    refine ⟨u, ?_, p2.cg (fun j a1 a2 => ?_), F3⟩
    · rw [if_neg l30, if_neg l31, if_neg l32, e2, wbs, p2.r0, bind_some', wr0 t2 F2, bind_some', e3, bind_some']
      rfl
    · obtain ⟨v, e4, r4, f4⟩ := RA.wr ((F2.at (by omega)).trans r1) (j := x) (r := Ls b x) hx (by decide) (hLx t2 F2)
      rw [e3] at e4
      cases e4
      exact f4.at (by omega)
theorem C_ifFallen (h : CM O σ b w sl) (hp : PB σ P b) (hs : PS σ P ps) (hO : Aq O P) (i : Iv w) {x k : Nat} (hx : x < 5) (hk : k < 4) : ∃ t ps', F_X5_ifFallen σ P (nI x) (nI k) = some (nI (rkn (fal w x) x k), t) ∧ PB t P b ∧ PS t P ps' ∧ Fr (P + 2) 42 σ t := by
  have hab := aq_b h.1 hO
  obtain ⟨t1, e1, i1, f1⟩ := C_siteCopy (hs x hx) (h.1.SS hx) (by omega)
  have s1 := hs.set hx i1 f1
  have p1 := hp.frS f1
  have h1 : CM O t1 b w sl := h.cg (fun j hj => f1.at (by have := hO j hj; omega))
  obtain ⟨t2, e2, p2, F2⟩ := C_reckonWith h1 p1 s1 hO i hx hk (by rw [up_s]; exact (i.S hx).js i.c) (by rw [up_s]; exact (i.S hx).2.1)
  refine ⟨t2, _, ?_, p2, s1.fr7 F2, (f1.mo (by omega) (by omega)).tr (F2.mo (by omega) (by omega))⟩
  rw [up_s] at e2
  unfold F_X5_ifFallen
  rw [chk_eq hp.ok, hp.r1, bind_some', hp.sa hx, bind_some', hp.r0, bind_some', h.1.r8, bind_some', h.1.sd hx, bind_some', e1, bind_some', e2]
  rfl
theorem jst_js {x y n' p k came : Nat} {z u : St} (i : Iv w) (hx : x < 5) (hy : y < 5) : Js (wC w 2) (jst x y (wC w 0) p (wK w x) (wC w 2) z (wL w y)) := by
  have j := i.j.L hy
  have hk := i.k hx
  have hc := i.c
  refine ⟨fun q hq => ?_, j.2.1, j.2.2⟩
  show up (fun i => if i / 5 = x ∧ i % 5 < wC w 0 then sTb (wL w y) (5 * y + i % 5) else sTb (wL w y) i) (5 * x + x) (wK w x) q ≤ 120
  unfold up
  dsimp only
  split
  · omega
  · have h1 := j.tb hq
    have h2 := j.tb (i := 5 * y + q % 5) (by omega)
    split <;> omega
theorem C_joinOnPaper (h : CM O σ b w sl) (hp : PB σ P b) (hs : PS σ P ps) (hO : Aq O P) (i : Iv w) {x y : Nat} (hx : x < 5) (hy : y < 5) : ∃ t, F_X5_joinOnPaper σ P (nI x) (nI y) = some t ∧ PB t P b ∧ PS t P (up ps x (jst x y (wC w 0) (wC w 6) (wK w x) (wC w 2) (ps x) (wL w y))) ∧ Fr (P + 9 + 7 * x) 7 σ t := by
  have hab := aq_b h.1 hO
  have hLy : Ls b y = b + 134 + 14 * y := rfl
  obtain ⟨t1, e1, i1, f1⟩ := C_adopt (n := wC w 0) (me := x) (fr := y) (clk := wK w x) (stp' := wC w 6) (came := wC w 2) (hs x hx) (h.1.SL hy) (by omega) hx hy (i.L hy).2.1 i.c (fun j hj hn => ((i.L hy).1 j hj).2 (Or.inr hn))
  refine ⟨t1, ?_, hp.frS f1, hs.set hx i1 f1, f1⟩
  unfold F_X5_joinOnPaper
  rw [chk_eq hp.ok, hp.r1, bind_some', hp.sa hx, bind_some', hp.r0, bind_some', h.1.r7, bind_some', h.1.lv hy, bind_some', bind_some', h.1.r6, bind_some', h.1.ev.g1, bind_some', h.1.ev.rk hx, bind_some', bind_some', h.1.i2, bind_some', e1]
  rfl
theorem rkn_joi {x y : Nat} (z : St) (k : Nat) : rkn (wL' w (up (wL w) x (jst x y (wC w 0) (wC w 6) (wK w x) (wC w 2) z (wL w y)))) x k = rkn (joi w x y) x k := by
  have key : ∀ s, sTb (up (wL w) x (jst x y (wC w 0) (wC w 6) (wK w x) (wC w 2) z (wL w y)) s) = sTb (up (wL w) x (jst x y (wC w 0) (wC w 6) (wK w x) (wC w 2) (wL w x) (wL w y)) s) ∧ sHs (up (wL w) x (jst x y (wC w 0) (wC w 6) (wK w x) (wC w 2) z (wL w y)) s) = sHs (up (wL w) x (jst x y (wC w 0) (wC w 6) (wK w x) (wC w 2) (wL w x) (wL w y)) s) ∧ sLg (up (wL w) x (jst x y (wC w 0) (wC w 6) (wK w x) (wC w 2) z (wL w y)) s) = sLg (up (wL w) x (jst x y (wC w 0) (wC w 6) (wK w x) (wC w 2) (wL w x) (wL w y)) s) := by
    intro s
    by_cases hsx : s = x
    · subst hsx; rw [up_s, up_s]; exact ⟨rfl, rfl, rfl⟩
    · rw [up_n _ _ hsx, up_n _ _ hsx]; exact ⟨rfl, rfl, rfl⟩
  exact rkn_ext (w := joi w x y) (w' := wL' w (up (wL w) x (jst x y (wC w 0) (wC w 6) (wK w x) (wC w 2) z (wL w y)))) rfl rfl rfl (fun s => (key s).1) (fun s => (key s).2.1) (fun s => (key s).2.2) x k
theorem C_ifJoined (h : CM O σ b w sl) (hp : PB σ P b) (hs : PS σ P ps) (hO : Aq O P) (i : Iv w) {x y k : Nat} (hx : x < 5) (hy : y < 5) (hk : k < 4) : ∃ t ps', F_X5_ifJoined σ P (nI x) (nI y) (nI k) = some (nI (rkn (joi w x y) x k), t) ∧ PB t P b ∧ PS t P ps' ∧ Fr (P + 2) 42 σ t := by
  obtain ⟨t1, e1, p1, s1, f1⟩ := C_joinOnPaper h hp hs hO i hx hy
  have h1 : CM O t1 b w sl := h.cg (fun j hj => f1.at (by have := hO j hj; omega))
  obtain ⟨t2, e2, p2, F2⟩ := C_reckonWith h1 p1 s1 hO i hx hk (by rw [up_s]; exact jst_js (n' := 0) (k := 0) (came := 0) (u := ps x) i hx hy) (by rw [up_s]; exact (i.L hy).2.1)
  refine ⟨t2, _, ?_, p2, s1.fr7 F2, (f1.mo (by omega) (by omega)).tr (F2.mo (by omega) (by omega))⟩
  rw [up_s, rkn_joi] at e2
  unfold F_X5_ifJoined
  rw [chk_eq hp.ok, e1, bind_some', e2]
  rfl
end RKN
