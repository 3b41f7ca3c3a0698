/-! ===== PURE 41: gossip, on paper ===== -/
def nxt (n s : Nat) : Nat := if s + 1 < n then s + 1 else 0
theorem nxt_lt {n s : Nat} (hn : 0 < n) : nxt n s < n := by unfold nxt; split <;> omega
theorem nxt_ne {n s : Nat} (hn : 2 ≤ n) : nxt n s ≠ s := by unfold nxt; split <;> omega
abbrev Gq : Type := (Nat → St) × Nat × Nat
def gLt (w : Wd) (ps : Nat → St) (s : Nat) : Lt := ltr (wE w) (wC w 1) (ps s) (nxt (wC w 0) s)
def gTl (w : Wd) (ps : Nat → St) (s : Nat) : Nat → St := up ps (nxt (wC w 0) s) (rcv (wE w) (wC w 0) (wC w 6) (gLt w ps s) s (nxt (wC w 0) s) (ps (nxt (wC w 0) s)))
def gOne (w : Wd) (q : Gq) (s : Nat) : Gq := if wcut w s (nxt (wC w 0) s) then q else (gTl w q.1 s, q.2.1 + (lEv (gLt w q.1 s)).length, q.2.2 + (frs (wE w) (gLt w q.1 s) (q.1 (nxt (wC w 0) s)) (nxt (wC w 0) s)).length)
def gRnd (w : Wd) (q : Gq) : Gq := (List.range (wC w 0)).foldl (gOne w) q
def gPl (w : Wd) (q : Gq) : Nat → Gq
  | 0 => q
  | r + 1 => gRnd w (gPl w q r)
def empt (w : Wd) (ps : Nat → St) : Bool := al (fun s => (sLg (ps s)).isEmpty) (wC w 0)
def alk (w : Wd) (ps : Nat → St) : Bool := al (fun k => al (fun e => sHs (ps (1 + k)) e == sHs (ps 0) e) 128) (wC w 0 - 1)
def GI (w : Wd) (ps : Nat → St) : Prop := ∀ s, s < wC w 0 → Is (wC w 0) (wC w 2) s (wE w) (ps s)
section GOS
variable {w : Wd} {ps : Nat → St} {q : Gq}
theorem GI.one (h : GI w q.1) (hv : Ie (wC w 0) (wC w 2) (wE w)) (hn2 : 2 ≤ wC w 0) (hn5 : wC w 0 ≤ 5) (hm : wC w 1 < 3) {s : Nat} (hs : s < wC w 0) : GI w (gOne w q s).1 := by
  unfold gOne
  split
  · exact h
  · intro x hx
    show Is _ _ _ _ (up q.1 (nxt (wC w 0) s) _ x)
    by_cases hxn : x = nxt (wC w 0) s
    · subst hxn
      rw [up_s]
      exact Is_rcv (h _ hx) (Il_ltr (h s hs) hm) hv hs hx hn5
    · rw [up_n _ _ hxn]; exact h x hx
theorem gOne_le {s : Nat} (h : q.2.2 ≤ q.2.1) : (gOne w q s).2.2 ≤ (gOne w q s).2.1 := by
  unfold gOne
  split
  · exact h
  · have : (frs (wE w) (gLt w q.1 s) (q.1 (nxt (wC w 0) s)) (nxt (wC w 0) s)).length ≤ (lEv (gLt w q.1 s)).length := List.length_filter_le ..
    show q.2.2 + _ ≤ q.2.1 + _
    omega
theorem gFold_inv (hv : Ie (wC w 0) (wC w 2) (wE w)) (hn2 : 2 ≤ wC w 0) (hn5 : wC w 0 ≤ 5) (hm : wC w 1 < 3) (h : GI w q.1) (hl : q.2.2 ≤ q.2.1) : ∀ k, k ≤ wC w 0 → GI w ((List.range k).foldl (gOne w) q).1 ∧ ((List.range k).foldl (gOne w) q).2.2 ≤ ((List.range k).foldl (gOne w) q).2.1 := by
  intro k
  induction k with
  | zero => intro _; exact ⟨h, hl⟩
  | succ k ih =>
    intro hk
    rw [rng_fold]
    exact ⟨(ih (by omega)).1.one hv hn2 hn5 hm (by omega), gOne_le (ih (by omega)).2⟩
theorem gPl_inv (hv : Ie (wC w 0) (wC w 2) (wE w)) (hn2 : 2 ≤ wC w 0) (hn5 : wC w 0 ≤ 5) (hm : wC w 1 < 3) (h : GI w q.1) (hl : q.2.2 ≤ q.2.1) : ∀ r, GI w (gPl w q r).1 ∧ (gPl w q r).2.2 ≤ (gPl w q r).2.1 := by
  intro r
  induction r with
  | zero => exact ⟨h, hl⟩
  | succ r ih => exact gFold_inv hv hn2 hn5 hm ih.1 ih.2 _ (Nat.le_refl _)
/-- nothing more is told when all logs are empty -/
theorem gOne_stay {s : Nat} (hn : 0 < wC w 0) (hs : s < wC w 0) (h : empt w q.1 = true) : empt w (gOne w q s).1 = true ∧ (∀ x, sHs ((gOne w q s).1 x) = sHs (q.1 x)) ∧ (gOne w q s).2 = q.2 := by
  unfold gOne
  split
  · exact ⟨h, fun _ => rfl, rfl⟩
  · have hx := nxt_lt (s := s) hn
    have h1 : sLg (q.1 s) = [] := List.isEmpty_iff.mp (al_iff.mp h s hs)
    have h2 : sLg (q.1 (nxt (wC w 0) s)) = [] := List.isEmpty_iff.mp (al_iff.mp h _ hx)
    have hL : lEv (gLt w q.1 s) = [] := by
      show (sLg (q.1 s)).filter _ = []
      rw [h1]; rfl
    have hF : frs (wE w) (gLt w q.1 s) (q.1 (nxt (wC w 0) s)) (nxt (wC w 0) s) = [] := by
      unfold frs
      rw [hL]; rfl
    refine ⟨?_, fun x => ?_, ?_⟩
    · refine al_iff.mpr (fun x hx2 => ?_)
      show (sLg (up q.1 (nxt (wC w 0) s) _ x)).isEmpty = true
      by_cases hxn : x = nxt (wC w 0) s
      · subst hxn
        rw [up_s]
        unfold rcv
        dsimp only
        rw [hF]
        show ((sLg (q.1 (nxt (wC w 0) s)) ++ []).filter _).isEmpty = true
        rw [h2]; rfl
      · rw [up_n _ _ hxn]; exact al_iff.mp h x hx2
    · show sHs (up q.1 (nxt (wC w 0) s) _ x) = _
      by_cases hxn : x = nxt (wC w 0) s
      · subst hxn
        rw [up_s]
        unfold rcv
        dsimp only
        rw [hF]
        rfl
      · rw [up_n _ _ hxn]
    · rw [hL, hF]; rfl
theorem gRnd_stay (hn : 0 < wC w 0) (h : empt w q.1 = true) : empt w (gRnd w q).1 = true ∧ (∀ x, sHs ((gRnd w q).1 x) = sHs (q.1 x)) ∧ (gRnd w q).2 = q.2 := by
  have : ∀ k, k ≤ wC w 0 → empt w ((List.range k).foldl (gOne w) q).1 = true ∧ (∀ x, sHs (((List.range k).foldl (gOne w) q).1 x) = sHs (q.1 x)) ∧ ((List.range k).foldl (gOne w) q).2 = q.2 := by
    intro k
    induction k with
    | zero => intro _; exact ⟨h, fun _ => rfl, rfl⟩
    | succ k ih =>
      intro hk
      rw [rng_fold]
      obtain ⟨a1, a2, a3⟩ := ih (by omega)
      obtain ⟨b1, b2', b3⟩ := gOne_stay hn (show k < wC w 0 by omega) a1
      exact ⟨b1, fun x => (b2' x).trans (a2 x), b3.trans a3⟩
  exact this _ (Nat.le_refl _)
theorem gPl_stay (hn : 0 < wC w 0) {r : Nat} (h : empt w (gPl w q r).1 = true) : ∀ d, empt w (gPl w q (r + d)).1 = true ∧ alk w (gPl w q (r + d)).1 = alk w (gPl w q r).1 ∧ (gPl w q (r + d)).2 = (gPl w q r).2 := by
  intro d
  induction d with
  | zero => exact ⟨h, rfl, rfl⟩
  | succ d ih =>
    obtain ⟨a1, a2, a3⟩ := ih
    obtain ⟨b1, b2', b3⟩ := gRnd_stay hn a1
    refine ⟨b1, ?_, b3.trans a3⟩
    rw [← a2]
    show alk w (gRnd w (gPl w q (r + d))).1 = _
    unfold alk
    congr 1
    funext k
    congr 1
    funext e
    rw [b2', b2']
end GOS
/-! the class's paper plays it -/
def PS (σ : Sto) (P : Nat) (ps : Nat → St) : Prop := ∀ s, s < 5 → SI σ (P + 9 + 7 * s) (ps s)
/-- the world is apart from all of the paper -/
def Aq (O : Nat → Prop) (P : Nat) : Prop := ∀ i, O i → i < P + 2 ∨ P + 44 ≤ i
section GOC
variable {O : Nat → Prop} {L : Nat → Nat} {σ t : Sto} {b P : Nat} {w : Wd} {sl : Nat → Nat → Option Nat} {ps : Nat → St}
theorem CW'.aq {R : (Nat → Nat) → Prop} (h : CW' R O L σ b w sl) (hO : Aq O P) (hF : Fr (P + 2) 42 σ t) : CW' R O L t b w sl := h.cg (fun i hi => hF.at (by have := hO i hi; omega))
theorem PS.set (h : PS σ P ps) {x : Nat} {st : St} (hx : x < 5) (hS : SI t (P + 9 + 7 * x) st) (hF : Fr (P + 9 + 7 * x) 7 σ t) : PS t P (up ps x st) := by
  intro s hs
  by_cases hsx : s = x
  · subst hsx; rw [up_s]; exact hS
  · rw [up_n _ _ hsx]; exact (h s hs).fr hF (by omega)
theorem PS.fr7 (h : PS σ P ps) (hF : Fr (P + 2) 7 σ t) : PS t P ps := fun s hs => (h s hs).fr hF (by omega)
theorem PB.frS {x : Nat} (h : PB σ P b) (hF : Fr (P + 9 + 7 * x) 7 σ t) : PB t P b := h.cg (fun i a1 a2 => hF.at (by omega))
theorem C_allLogsAreEmpty (h : CW O L σ b w sl) (hp : PB σ P b) (hs : PS σ P ps) (hn : wC w 0 ≤ 5) : F_X5_allLogsAreEmpty σ P = some (nI (b2 (empt w ps))) := by
  unfold F_X5_allLogsAreEmpty
  rw [chk_eq hp.ok]
  refine (lall (fun f j => F_X5_allLogsAreEmpty_L2 σ P f (nI j) (some (1 : Int32))) (fun s => (sLg (ps s)).isEmpty) (wC w 0) (some 0) (some 1) ?_ ?_ fu (by unfold fu; omega)).trans ?_
  · intro j f hj
    have hj5 : j < 5 := by omega
    have hll := (hs j hj5).ll
    rw [F_X5_allLogsAreEmpty_L2, hp.r0, bind_some', h.i0, bind_some', if_neg (by rw [nI_leI (by omega) (by omega)]; omega), hp.r1, bind_some', hp.sa hj5, bind_some', (hs j hj5).g3, bind_some', nI_1]
    cases hL : sLg (ps j) with
    | nil => rw [show ([] : List Nat).length = 0 from rfl, nI_0, if_pos (Int32.le_refl _)]; rfl
    | cons a l =>
      rw [hL] at hll
      rw [if_neg (nI_nle (by simp) (by omega))]; rfl
  · intro f
    rw [F_X5_allLogsAreEmpty_L2, hp.r0, bind_some', h.i0, bind_some', if_pos (nI_le (Nat.le_refl _) (by omega))]
  · rw [l_0, l_1, ifT]; rfl
theorem C_allHaveAlike (h : CW O L σ b w sl) (hp : PB σ P b) (hs : PS σ P ps) (hn : wC w 0 ≤ 5) (hn1 : 1 ≤ wC w 0) : F_X5_allHaveAlike σ P = some (nI (b2 (alk w ps))) := by
  unfold F_X5_allHaveAlike
  rw [chk_eq hp.ok, l_1]
  refine (lallG (fun f j => F_X5_allHaveAlike_L2 σ P f (nI j) (some (nI 1))) (fun s => al (fun e => sHs (ps s) e == sHs (ps 0) e) 128) (wC w 0) 1 (some (nI 0)) (some (nI 1)) hn1 ?_ ?_ fu (by unfold fu; omega)).trans (ifT _)
  · intro j f h1 hj
    have hj5 : j < 5 := by omega
    have hsm := X_sameAs (hs j hj5).hs (hs 0 (by omega)).hs
    rw [F_X5_allHaveAlike_L2, hp.r0, bind_some', h.i0, bind_some', if_neg (by rw [nI_leI (by omega) (by omega)]; omega), hp.r1, bind_some', hp.sa hj5, bind_some', (hs j hj5).g1, bind_some', bind_some', l_0, hp.sa (by omega), bind_some', (hs 0 (by omega)).g1, bind_some', hsm, bind_some', ifb, l_1, nI_add]
  · intro f
    rw [F_X5_allHaveAlike_L2, hp.r0, bind_some', h.i0, bind_some', if_pos (nI_le (Nat.le_refl _) (by omega))]
theorem C_tellNext (h : CW O L σ b w sl) (hp : PB σ P b) (hs : PS σ P ps) (hO : Aq O P) (i : Iv w) (hg : GI w ps) (hv : Ie (wC w 0) (wC w 2) (wE w)) {s : Nat} (hs' : s < wC w 0) : ∃ t, F_X5_tellNext σ P (nI s) = some (nI (frs (wE w) (gLt w ps s) (ps (nxt (wC w 0) s)) (nxt (wC w 0) s)).length, t) ∧ PB t P b ∧ PS t P (gTl w ps s) ∧ Fr (P + 2) 42 σ t ∧ gI t (P + 2) 3 3 = some (nI (lEv (gLt w ps s)).length) := by
  have hn := i.n5
  have hn2 := i.n2
  have hc := i.c
  have hx := nxt_lt (n := wC w 0) (s := s) (by omega)
  have hne := nxt_ne (n := wC w 0) (s := s) hn2
  have hap1 : b + 254 ≤ P + 2 ∨ P + 44 ≤ b := by
    refine Classical.byContradiction fun hx2 => ?_
    by_cases hle : b ≤ P + 2
    · have := hO (P + 2) (h.o1 _ (by omega) (by omega)); omega
    · have := hO b (h.o1 _ (by omega) (by omega)); omega
  obtain ⟨x0, o0, l0, hl0⟩ := hp.2.2.1
  have js := (hg s hs').js hc
  have jx := (hg _ hx).js hc
  obtain ⟨t1, e1, L1, f1⟩ := C_compose (x := s) (o := nxt (wC w 0) s) (m := wC w 1) hl0 (hs s (by omega)) h.ev i.j.bv js (by omega) (by omega) (by omega)
  have L1' : LE t1 (P + 2) s (nxt (wC w 0) s) (gLt w ps s) := L1
  obtain ⟨p1, F1⟩ := hp.f2 L1 f1
  have s1 := hs.fr7 F1
  have h1 := h.aq hO (F1.mo (by omega) (by omega))
  have il : Il (wC w 0) (wC w 2) s (wE w) (gLt w ps s) := Il_ltr (hg s hs') i.m3
  have hln := frs_len (hg _ hx) il
  obtain ⟨t2, e2, S2, f2⟩ := C_receive (n := wC w 0) (y := wC w 6) (s1 _ (show nxt (wC w 0) s < 5 by omega)) h1.ev i.j.bv L1' jx (fun j hj => Nat.le_trans (il.2.1 j hj).1 hc) (fun e he => (il.2.2.2 e he).1) il.1 (by omega) (by omega) hn (by omega) (by omega) (by omega)
  refine ⟨t2, ?_, p1.frS f2, s1.set (by omega) S2 f2, (F1.mo (by omega) (by omega)).tr (f2.mo (by omega) (by omega)), (L1'.fr f2 (by omega)).g3⟩
  unfold F_X5_tellNext
  rw [chk_eq hp.ok, hp.r0, bind_some', C_nextSite h hn (by omega), bind_some', hp.r2, bind_some', hp.r1, bind_some', hp.sa (by omega), bind_some', bind_some', h.r6, bind_some', bind_some', h.i1, bind_some']
  show (F_X3_compose σ (P + 2) (P + 9 + 7 * s) (b + 1) (nI s) (nI (nxt (wC w 0) s)) (nI (wC w 1))).bind _ = _
  rw [e1, bind_some', p1.r1, bind_some']
  show (aaldR t1 (P + 1) 4 (nI (nxt (wC w 0) s))).bind _ = _
  rw [p1.sa (by omega), bind_some', p1.r2, bind_some', p1.r0, bind_some', h1.r6, bind_some', bind_some', h1.i0, bind_some', bind_some', h1.i2, bind_some', e2]
  rfl
/-- a round -/
theorem C_round (h : CW O L σ b w sl) (hO : Aq O P) (i : Iv w) (hv : Ie (wC w 0) (wC w 2) (wE w)) {r : Nat} (hr : r < 12) {t : Sto} {q : Gq} (hp : PB t P b) (hs : PS t P q.1) (hF : Fr (P + 2) 42 σ t) (hg : GI w q.1) (hl : q.2.2 ≤ q.2.1) : ∃ u, (∀ K, F_X5_playGossip_L92 P (nI r) fu (nI q.2.1) (nI q.2.2) (nI 0) t K = K (nI (gRnd w q).2.1) (nI (gRnd w q).2.2) u) ∧ PB u P b ∧ PS u P (gRnd w q).1 ∧ Fr (P + 2) 42 σ u := by
  have hn := i.n5
  have hn2 := i.n2
  have hinv := gFold_inv hv hn2 hn i.m3 hg hl
  obtain ⟨u, ⟨p1, s1, F1⟩, e1⟩ := lpS (fun fl j t (K : Int32 → Int32 → Sto → Option (Int32 × Sto)) => F_X5_playGossip_L92 P (nI r) fl (nI ((List.range j).foldl (gOne w) q).2.1) (nI ((List.range j).foldl (gOne w) q).2.2) (nI j) t K) (fun t K => K (nI (gRnd w q).2.1) (nI (gRnd w q).2.2) t) (fun j t => PB t P b ∧ PS t P ((List.range j).foldl (gOne w) q).1 ∧ Fr (P + 2) 42 σ t) (wC w 0) (by
    intro j fl t hj ⟨p1, s1, F1⟩
    have h1 := h.aq hO F1
    have hx := nxt_lt (n := wC w 0) (s := j) (by omega)
    have hcut := C_isCut h1 (show j < 5 by omega) (show nxt (wC w 0) j < 5 by omega)
    have hnx := C_nextSite h1 hn (show j < 5 by omega)
    have hnx' : F_X8_nextSite t b (nI j) = some (nI (nxt (wC w 0) j)) := hnx
    by_cases hb : wcut w j (nxt (wC w 0) j) = true
    · refine ⟨t, ⟨p1, ?_, F1⟩, ?_⟩
      · rw [rng_fold]
        unfold gOne
        rw [if_pos hb]; exact s1
      · funext K
        rw [rng_fold]
        rw [show gOne w ((List.range j).foldl (gOne w) q) j = (List.range j).foldl (gOne w) q from if_pos hb]
        rw [F_X5_playGossip_L92, p1.r0, bind_some', h1.i0, bind_some', if_neg (by rw [nI_leI (by omega) (by omega)]; omega), l_12, if_neg (by rw [nI_leI (by omega) (by omega)]; omega), bind_some', bind_some', hnx', bind_some', hcut, bind_some', hb, ifb0, if_pos rfl, nI_1]
    · have hb2 : wcut w j (nxt (wC w 0) j) = false := by simpa using hb
      obtain ⟨u, e2, p2, s2, F2, g2⟩ := C_tellNext h1 p1 s1 hO i (hinv j (by omega)).1 hv hj
      refine ⟨u, ⟨p2, ?_, F1.tr F2⟩, ?_⟩
      · rw [rng_fold]
        unfold gOne
        rw [if_neg hb]; exact s2
      · funext K
        rw [rng_fold]
        rw [show gOne w ((List.range j).foldl (gOne w) q) j = (gTl w ((List.range j).foldl (gOne w) q).1 j, ((List.range j).foldl (gOne w) q).2.1 + (lEv (gLt w ((List.range j).foldl (gOne w) q).1 j)).length, ((List.range j).foldl (gOne w) q).2.2 + (frs (wE w) (gLt w ((List.range j).foldl (gOne w) q).1 j) (((List.range j).foldl (gOne w) q).1 (nxt (wC w 0) j)) (nxt (wC w 0) j)).length) from if_neg hb]
        rw [F_X5_playGossip_L92, p1.r0, bind_some', h1.i0, bind_some', if_neg (by rw [nI_leI (by omega) (by omega)]; omega), l_12, if_neg (by rw [nI_leI (by omega) (by omega)]; omega), bind_some', bind_some', hnx', bind_some', hcut, bind_some', hb2, ifb0, if_neg (by decide), e2, wbs, p2.r2, bind_some', g2, bind_some', nI_add, nI_add, nI_1]) (by
    intro fl t ⟨p1, s1, F1⟩
    have h1 := h.aq hO F1
    funext K
    rw [F_X5_playGossip_L92, p1.r0, bind_some', h1.i0, bind_some', if_pos (nI_le (Nat.le_refl _) (by omega))]
    rfl) fu t (by unfold fu; omega) ⟨hp, hs, hF⟩
  exact ⟨u, fun K => congrFun e1 K, p1, s1, F1⟩
/-- the answer of gossip -/
def gAns (w : Wd) (q : Gq) (k : Nat) : Int32 := if k = 0 then oI ((List.range 13).find? (fun r => alk w (gPl w q r).1)) else if k = 1 then oI ((List.range 13).find? (fun r => empt w (gPl w q r).1)) else if k = 2 then nI (gPl w q 12).2.1 else nI ((gPl w q 12).2.1 - (gPl w q 12).2.2)
theorem find_at {p : Nat → Bool} {n r : Nat} (hr : r < n) (h1 : p r = true) (h2 : ∀ j, j < r → p j = false) : (List.range n).find? p = some r := by
  rw [List.find?_eq_some_iff_append]
  refine ⟨h1, List.range r, (List.range (n - (r + 1))).map (fun j => r + 1 + j), ?_, fun j hj => by rw [h2 j (List.mem_range.mp hj)]; rfl⟩
  have e1 : List.range n = List.range (r + 1 + (n - (r + 1))) := by rw [show r + 1 + (n - (r + 1)) = n by omega]
  rw [e1, List.range_add, List.range_succ, List.append_assoc]
  rfl
theorem find_no {p : Nat → Bool} {n : Nat} (h : ∀ j, j < n → p j = false) : (List.range n).find? p = none := by
  rw [List.find?_eq_none]
  intro j hj
  rw [h j (List.mem_range.mp hj)]
  decide
end GOC
