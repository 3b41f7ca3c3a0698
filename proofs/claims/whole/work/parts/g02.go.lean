/-! ===== PURE 42: gossip played; were a site to fall, or to join ===== -/
section GPL
variable {O : Nat → Prop} {L : Nat → Nat} {σ t : Sto} {b P : Nat} {w : Wd} {sl : Nat → Nat → Option Nat} {ps : Nat → St}
theorem C_playGossip (h : CW O L σ b w sl) (hp : PB σ P b) (hs : PS σ P ps) (hO : Aq O P) (i : Iv w) (hv : Ie (wC w 0) (wC w 2) (wE w)) {k : Nat} (hk : k < 4) : ∃ t ps', F_X5_playGossip σ P (nI k) = some (gAns w (wL w, 0, 0) k, t) ∧ PB t P b ∧ PS t P ps' ∧ Fr (P + 2) 42 σ t := by
  have hn := i.n5
  have hn2 := i.n2
  have hLap : ∀ s, s < 5 → L s + 7 ≤ P + 2 ∨ P + 44 ≤ L s := fun s hs5 => by
    refine Classical.byContradiction fun hx2 => ?_
    by_cases hle : L s ≤ P + 2
    · have := hO (P + 2) (h.o2 s hs5 _ (by omega) (by omega)); omega
    · have := hO (L s) (h.o2 s hs5 _ (by omega) (by omega)); omega
  -- the sites are copied
  obtain ⟨t1, ⟨ps1, p1, s1, F1, q1⟩, e1⟩ := lpS (fun fl j t (K : Sto → Option (Int32 × Sto)) => F_X5_playGossip_L2 P fl (nI j) t K) (fun t K => K t) (fun j t => ∃ ps1, PB t P b ∧ PS t P ps1 ∧ Fr (P + 2) 42 σ t ∧ ∀ s, s < j → ps1 s = wL w s) (wC w 0) (by
    intro j fl t hj ⟨ps1, p1, s1, F1, q1⟩
    have h1 := h.aq hO F1
    have hj5 : j < 5 := by omega
    have hla := hLap j hj5
    obtain ⟨u, e2, i2, f2⟩ := C_siteCopy (s1 j hj5) (h1.SL hj5) (by omega)
    refine ⟨u, ⟨up ps1 j (wL w j), p1.frS f2, s1.set hj5 i2 f2, F1.tr (f2.mo (by omega) (by omega)), fun s hs => ?_⟩, ?_⟩
    · by_cases hsj : s = j
      · subst hsj; rw [up_s]
      · rw [up_n _ _ hsj]; exact q1 s (by omega)
    · funext K
      rw [F_X5_playGossip_L2, p1.r0, bind_some', h1.i0, bind_some', if_neg (by rw [nI_leI (by omega) (by omega)]; omega), p1.r1, bind_some', p1.sa hj5, bind_some', bind_some', h1.r7, bind_some', h1.lv hj5, bind_some', e2, bind_some', nI_1]) (by
    intro fl t ⟨ps1, p1, s1, F1, q1⟩
    have h1 := h.aq hO F1
    funext K
    rw [F_X5_playGossip_L2, p1.r0, bind_some', h1.i0, bind_some', if_pos (nI_le (Nat.le_refl _) (by omega))]) fu σ (by unfold fu; omega) ⟨ps, hp, hs, Fr.rf, fun s hs => absurd hs (Nat.not_lt_zero s)⟩
  have e1' : ∀ K, F_X5_playGossip_L2 P fu (nI 0) σ K = K t1 := fun K => congrFun e1 K
  -- what is told depends on the sites below n alone
  have gcg : ∀ (qa qb : Gq), (∀ s, s < wC w 0 → qa.1 s = qb.1 s) → qa.2 = qb.2 → ∀ r, (∀ s, s < wC w 0 → (gPl w qa r).1 s = (gPl w qb r).1 s) ∧ (gPl w qa r).2 = (gPl w qb r).2 := by
    intro qa qb ha hb r
    have one : ∀ (qa qb : Gq) (x : Nat), x < wC w 0 → (∀ s, s < wC w 0 → qa.1 s = qb.1 s) → qa.2 = qb.2 → (∀ s, s < wC w 0 → (gOne w qa x).1 s = (gOne w qb x).1 s) ∧ (gOne w qa x).2 = (gOne w qb x).2 := by
      intro qa qb x hx ha hb
      have hxn := nxt_lt (n := wC w 0) (s := x) (by omega)
      have hL : gLt w qa.1 x = gLt w qb.1 x := by unfold gLt; rw [ha x hx]
      unfold gOne
      split
      · exact ⟨ha, hb⟩
      · refine ⟨fun s hs => ?_, ?_⟩
        · show up qa.1 _ _ s = up qb.1 _ _ s
          by_cases hsn : s = nxt (wC w 0) x
          · subst hsn; rw [up_s, up_s, hL, ha _ hs]
          · rw [up_n _ _ hsn, up_n _ _ hsn]; exact ha s hs
        · rw [hL, ha _ hxn, hb]
    induction r with
    | zero => exact ⟨ha, hb⟩
    | succ r ih =>
      show (∀ s, s < wC w 0 → (gRnd w (gPl w qa r)).1 s = (gRnd w (gPl w qb r)).1 s) ∧ (gRnd w (gPl w qa r)).2 = (gRnd w (gPl w qb r)).2
      have : ∀ k, k ≤ wC w 0 → (∀ s, s < wC w 0 → ((List.range k).foldl (gOne w) (gPl w qa r)).1 s = ((List.range k).foldl (gOne w) (gPl w qb r)).1 s) ∧ ((List.range k).foldl (gOne w) (gPl w qa r)).2 = ((List.range k).foldl (gOne w) (gPl w qb r)).2 := by
        intro k
        induction k with
        | zero => intro _; exact ih
        | succ k ihk =>
          intro hk
          rw [rng_fold, rng_fold]
          obtain ⟨a1, a2⟩ := ihk (by omega)
          exact one _ _ k (by omega) a1 a2
      exact this _ (Nat.le_refl _)
  have gq := gcg (ps1, 0, 0) (wL w, 0, 0) q1 rfl
  have halk : ∀ r, alk w (gPl w (ps1, 0, 0) r).1 = alk w (gPl w (wL w, 0, 0) r).1 := fun r => by
    rw [Bool.eq_iff_iff, show (alk w (gPl w (ps1, 0, 0) r).1 = true) = (al (fun k => al (fun e => sHs ((gPl w (ps1, 0, 0) r).1 (1 + k)) e == sHs ((gPl w (ps1, 0, 0) r).1 0) e) 128) (wC w 0 - 1) = true) from rfl, show (alk w (gPl w (wL w, 0, 0) r).1 = true) = (al (fun k => al (fun e => sHs ((gPl w (wL w, 0, 0) r).1 (1 + k)) e == sHs ((gPl w (wL w, 0, 0) r).1 0) e) 128) (wC w 0 - 1) = true) from rfl, al_iff, al_iff]
    constructor
    · intro hx k2 hk2
      have := hx k2 hk2
      rw [(gq r).1 _ (by omega), (gq r).1 0 (by omega)] at this
      exact this
    · intro hx k2 hk2
      have := hx k2 hk2
      rw [← (gq r).1 _ (by omega), ← (gq r).1 0 (by omega)] at this
      exact this
  have hempt : ∀ r, empt w (gPl w (ps1, 0, 0) r).1 = empt w (gPl w (wL w, 0, 0) r).1 := fun r => by
    rw [Bool.eq_iff_iff, show (empt w (gPl w (ps1, 0, 0) r).1 = true) = (al (fun s => (sLg ((gPl w (ps1, 0, 0) r).1 s)).isEmpty) (wC w 0) = true) from rfl, show (empt w (gPl w (wL w, 0, 0) r).1 = true) = (al (fun s => (sLg ((gPl w (wL w, 0, 0) r).1 s)).isEmpty) (wC w 0) = true) from rfl, al_iff, al_iff]
    constructor
    · intro hx s hs2
      have := hx s hs2
      rw [(gq r).1 _ hs2] at this
      exact this
    · intro hx s hs2
      have := hx s hs2
      rw [← (gq r).1 _ hs2] at this
      exact this
  have hans : gAns w (ps1, 0, 0) k = gAns w (wL w, 0, 0) k := by
    unfold gAns
    simp only [halk, hempt, (gq 12).2]
  rw [← hans]
  have hgi : GI w ps1 := fun s hs2 => by rw [q1 s hs2]; exact i.L (by omega)
  have hinv := gPl_inv (q := (ps1, 0, 0)) hv hn2 hn i.m3 hgi (Nat.le_refl _)
  generalize hQ : ((ps1, 0, 0) : Gq) = Q at *
  have hQ1 : Q.1 = ps1 := by rw [← hQ]
  -- the rounds
  have main : ∀ d r F t, r + d = 12 → d + 2 < F → PB t P b → PS t P (gPl w Q r).1 → Fr (P + 2) 42 σ t → (∀ j, j < r → empt w (gPl w Q j).1 = false ∧ (k = 0 → alk w (gPl w Q j).1 = false)) → ∃ u ps', F_X5_playGossip_L44 P (nI k) F (nI (gPl w Q r).2.1) (nI (gPl w Q r).2.2) (nI r) t (fun x64 x65 s66 => if (1 : Int32) < nI k then (if nI k = (2 : Int32) then some (x64, s66) else some ((x64 - x65), s66)) else some ((-1 : Int32), s66)) = some (gAns w Q k, u) ∧ PB u P b ∧ PS u P ps' ∧ Fr (P + 2) 42 σ u := by
    intro d
    induction d with
    | zero =>
      intro r F t hr hF p2 s2 F2 hb
      have hr12 : r = 12 := by omega
      subst hr12
      have h2 := h.aq hO F2
      have x1 := C_allLogsAreEmpty h2 p2 s2 hn
      have x2 := C_allHaveAlike h2 p2 s2 hn (by omega)
      obtain ⟨F, rfl⟩ : ∃ F', F = F' + 2 := ⟨F - 2, by omega⟩
      -- what remains once the twelfth is over
      have fin : ∀ c1 c2, c1 = (gPl w Q 12).2.1 → c2 = (gPl w Q 12).2.2 → (k = 0 → alk w (gPl w Q 12).1 = false) → (k = 1 → empt w (gPl w Q 12).1 = false) → (if (1 : Int32) < nI k then (if nI k = (2 : Int32) then some (nI c1, t) else some ((nI c1 - nI c2), t)) else some ((-1 : Int32), t)) = some (gAns w Q k, t) := by
        intro c1 c2 h1 h2' h3 h4
        subst h1; subst h2'
        unfold gAns
        have k4 : k = 0 ∨ k = 1 ∨ k = 2 ∨ k = 3 := by omega
        rcases k4 with rfl | rfl | rfl | rfl
        · rw [if_neg (by decide), if_pos rfl, find_no (fun j hj => ?_)]
          · rfl
          · by_cases hj12 : j = 12
            · subst hj12; exact h3 rfl
            · exact (hb j (by omega)).2 rfl
        · rw [if_neg (by decide), if_neg (by omega), if_pos rfl, find_no (fun j hj => ?_)]
          · rfl
          · by_cases hj12 : j = 12
            · subst hj12; exact h4 rfl
            · exact (hb j (by omega)).1
        · rw [if_pos (by decide), if_pos (by decide)]; rfl
        · rw [if_pos (by decide), if_neg (by decide), pk_sub (hinv 12).2]; rfl
      have skip : ∀ K, F_X5_playGossip_L92 P (nI 12) fu (nI (gPl w Q 12).2.1) (nI (gPl w Q 12).2.2) (nI 0) t K = K (nI (gPl w Q 12).2.1) (nI (gPl w Q 12).2.2) t := by
        intro K
        show F_X5_playGossip_L92 P (nI 12) (59999 + 1) _ _ _ t K = _
        rw [F_X5_playGossip_L92, p2.r0, bind_some', h2.i0, bind_some', if_neg (by rw [nI_leI (by omega) (by omega)]; omega), l_12, if_pos (Int32.le_refl _)]
      have last : ∀ c1 c2 K, F_X5_playGossip_L44 P (nI k) (F + 1) c1 c2 (nI (12 + 1)) t K = K c1 c2 t := by
        intro c1 c2 K
        rw [F_X5_playGossip_L44, l_12, if_pos (nI_lt (by omega) (by omega))]
      rw [F_X5_playGossip_L44, l_12, if_neg (by rw [nI_ltI (by omega) (by omega)]; omega), x1, bind_some', l_0, l_1]
      by_cases k0 : k = 0
      · rw [if_pos (by rw [k0]), x2, bind_some', ifb]
        by_cases ha : alk w (gPl w Q 12).1 = true
        · rw [if_pos ha]
          refine ⟨t, _, ?_, p2, s2, F2⟩
          have : gAns w Q k = oI (some 12) := by
            unfold gAns
            rw [if_pos k0, find_at (r := 12) (by omega) ha (fun j hj => (hb j hj).2 k0)]
          rw [this]; rfl
        · have ha2 : alk w (gPl w Q 12).1 = false := by simpa using ha
          rw [if_neg ha, if_neg (by rw [k0]; decide), ifb]
          by_cases he : empt w (gPl w Q 12).1 = true
          · rw [if_pos he]
            exact ⟨t, _, fin _ _ rfl rfl (fun _ => ha2) (fun z => by omega), p2, s2, F2⟩
          · rw [if_neg he, skip, nI_add, last]
            exact ⟨t, _, fin _ _ rfl rfl (fun _ => ha2) (fun z => by omega), p2, s2, F2⟩
      · rw [if_neg (fun z => k0 ((nI_eq (by omega) (by omega)).mp z))]
        by_cases k1 : k = 1
        · rw [if_pos (by rw [k1]), ifb]
          by_cases he : empt w (gPl w Q 12).1 = true
          · rw [if_pos he]
            refine ⟨t, _, ?_, p2, s2, F2⟩
            have : gAns w Q k = oI (some 12) := by
              unfold gAns
              rw [if_neg k0, if_pos k1, find_at (r := 12) (by omega) he (fun j hj => (hb j hj).1)]
            rw [this]; rfl
          · have he2 : empt w (gPl w Q 12).1 = false := by simpa using he
            rw [if_neg he, ifb, if_neg he, skip, nI_add, last]
            exact ⟨t, _, fin _ _ rfl rfl (fun z => absurd z k0) (fun _ => he2), p2, s2, F2⟩
        · rw [if_neg (fun z => k1 ((nI_eq (by omega) (by omega)).mp z)), ifb]
          by_cases he : empt w (gPl w Q 12).1 = true
          · rw [if_pos he]
            exact ⟨t, _, fin _ _ rfl rfl (fun z => absurd z k0) (fun z => absurd z k1), p2, s2, F2⟩
          · rw [if_neg he, skip, nI_add, last]
            exact ⟨t, _, fin _ _ rfl rfl (fun z => absurd z k0) (fun z => absurd z k1), p2, s2, F2⟩
    | succ d ih =>
      intro r F t hr hF p2 s2 F2 hb
      have h2 := h.aq hO F2
      have x1 := C_allLogsAreEmpty h2 p2 s2 hn
      have x2 := C_allHaveAlike h2 p2 s2 hn (by omega)
      obtain ⟨F, rfl⟩ : ∃ F', F = F' + 1 := ⟨F - 1, by omega⟩
      obtain ⟨u, e3, p3, s3, F3⟩ := C_round h hO i hv (show r < 12 by omega) p2 s2 F2 (hinv r).1 (hinv r).2
      -- nothing to tell: the rest is as it is
      have stop : empt w (gPl w Q r).1 = true → (k = 0 → alk w (gPl w Q r).1 = false) → k ≠ 1 → (if (1 : Int32) < nI k then (if nI k = (2 : Int32) then some (nI (gPl w Q r).2.1, t) else some ((nI (gPl w Q r).2.1 - nI (gPl w Q r).2.2), t)) else some ((-1 : Int32), t)) = some (gAns w Q k, t) := by
        intro he ha hk1
        have st := gPl_stay (q := Q) (r := r) (by omega) he
        have s12 := (st (12 - r)).2.2
        rw [show r + (12 - r) = 12 by omega] at s12
        unfold gAns
        have k4 : k = 0 ∨ k = 2 ∨ k = 3 := by omega
        rcases k4 with rfl | rfl | rfl
        · rw [if_neg (by decide), if_pos rfl, find_no (fun j hj => ?_)]
          · rfl
          · by_cases hjr : j < r
            · exact (hb j hjr).2 rfl
            · have := (st (j - r)).2.1
              rw [show r + (j - r) = j by omega] at this
              rw [this]; exact ha rfl
        · rw [if_pos (by decide), if_pos (by decide), s12]; rfl
        · rw [if_pos (by decide), if_neg (by decide), s12, pk_sub (hinv r).2]; rfl
      have go : empt w (gPl w Q r).1 = false → (k = 0 → alk w (gPl w Q r).1 = false) → ∃ u' ps', F_X5_playGossip_L44 P (nI k) F (nI (gRnd w (gPl w Q r)).2.1) (nI (gRnd w (gPl w Q r)).2.2) (nI (r + 1)) u (fun x64 x65 s66 => if (1 : Int32) < nI k then (if nI k = (2 : Int32) then some (x64, s66) else some ((x64 - x65), s66)) else some ((-1 : Int32), s66)) = some (gAns w Q k, u') ∧ PB u' P b ∧ PS u' P ps' ∧ Fr (P + 2) 42 σ u' := by
        intro he ha
        exact ih (r + 1) F u (by omega) (by omega) p3 s3 F3 (fun j hj => by
          by_cases hjr : j = r
          · subst hjr; exact ⟨he, ha⟩
          · exact hb j (by omega))
      rw [F_X5_playGossip_L44, l_12, if_neg (by rw [nI_ltI (by omega) (by omega)]; omega), x1, bind_some']
      by_cases k0 : k = 0
      · rw [if_pos (by rw [k0, nI_0]), x2, bind_some', ifb0]
        by_cases ha : alk w (gPl w Q r).1 = true
        · rw [if_pos ha]
          refine ⟨t, _, ?_, p2, s2, F2⟩
          have : gAns w Q k = oI (some r) := by
            unfold gAns
            rw [if_pos k0, find_at (r := r) (by omega) ha (fun j hj => (hb j hj).2 k0)]
          rw [this]; rfl
        · have ha2 : alk w (gPl w Q r).1 = false := by simpa using ha
          rw [if_neg ha, if_neg (by rw [k0]; decide), ifb0]
          by_cases he : empt w (gPl w Q r).1 = true
          · rw [if_pos he]
            exact ⟨t, _, stop he (fun _ => ha2) (by omega), p2, s2, F2⟩
          · have he2 : empt w (gPl w Q r).1 = false := by simpa using he
            rw [if_neg he, l_0, e3, nI_1]
            exact go he2 (fun _ => ha2)
      · rw [if_neg (nI_ne0 (by omega) (by omega))]
        by_cases k1 : k = 1
        · rw [if_pos (by rw [k1, l_1]), ifb0]
          by_cases he : empt w (gPl w Q r).1 = true
          · rw [if_pos he]
            refine ⟨t, _, ?_, p2, s2, F2⟩
            have : gAns w Q k = oI (some r) := by
              unfold gAns
              rw [if_neg k0, if_pos k1, find_at (r := r) (by omega) he (fun j hj => (hb j hj).1)]
            rw [this]; rfl
          · have he2 : empt w (gPl w Q r).1 = false := by simpa using he
            rw [if_neg he, ifb0, if_neg he, l_0, e3, nI_1]
            exact go he2 (fun z => absurd z k0)
        · rw [if_neg (fun z => k1 ((nI_eq (by omega) (by omega)).mp (by rw [z, l_1]))), ifb0]
          by_cases he : empt w (gPl w Q r).1 = true
          · rw [if_pos he]
            exact ⟨t, _, stop he (fun z => absurd z k0) k1, p2, s2, F2⟩
          · have he2 : empt w (gPl w Q r).1 = false := by simpa using he
            rw [if_neg he, l_0, e3, nI_1]
            exact go he2 (fun z => absurd z k0)
  obtain ⟨u, ps', e9, p9, s9, F9⟩ := main 12 0 fu t1 (by omega) (by unfold fu; omega) p1 (by rw [show gPl w Q 0 = Q from rfl, hQ1]; exact s1) F1 (fun j hj => absurd hj (Nat.not_lt_zero j))
  refine ⟨u, ps', ?_, p9, s9, F9⟩
  have z0 : (gPl w Q 0).2 = (0, 0) := by rw [← hQ]; rfl
  rw [z0] at e9
  unfold F_X5_playGossip
  rw [chk_eq hp.ok]
  show F_X5_playGossip_L2 P fu 0 σ _ = _
  rw [show (0 : Int32) = nI 0 from l_0, e1']
  exact e9
end GPL
