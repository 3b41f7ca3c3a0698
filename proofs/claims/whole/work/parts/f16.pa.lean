/-! ===== PURE 36: the class's paper: the first overstated, what is lost, sets of events ===== -/
theorem lfind {ρ : Type} (L : Nat → Nat → ρ) (h : Nat → Option Nat) (N : Nat) (g : Nat → ρ) (k : ρ) (hs : ∀ i f, i < N → L (f + 1) i = match h i with | some x => g x | none => L f (i + 1)) (he : ∀ f, L (f + 1) N = k) (F : Nat) (hF : N < F) : L F 0 = match (List.range N).findSome? h with | some x => g x | none => k := by
  have key : ∀ d i f, i + d = N → d < f → (∀ j, j < i → h j = none) → L f i = match (List.range N).findSome? h with | some x => g x | none => k := by
    intro d
    induction d with
    | zero =>
      intro i f h1 h2 h3
      cases f with
      | zero => omega
      | succ f =>
        have hi : i = N := by omega
        subst hi
        rw [he f, List.findSome?_eq_none_iff.mpr (fun j hj => h3 j (List.mem_range.mp hj))]
    | succ d ih =>
      intro i f h1 h2 h3
      cases f with
      | zero => omega
      | succ f =>
        rw [hs i f (by omega)]
        cases hi : h i with
        | none =>
          exact ih (i + 1) f (by omega) (by omega) (fun j hj => by
            by_cases hji : j = i
            · subst hji; exact hi
            · exact h3 j (by omega))
        | some x =>
          have : (List.range N).findSome? h = some x := by
            rw [List.findSome?_eq_some_iff]
            refine ⟨List.range i, i, (List.range (N - (i + 1))).map (fun j => i + 1 + j), ?_, hi, fun j hj => h3 j (List.mem_range.mp hj)⟩
            have e1 : List.range N = List.range (i + 1 + (N - (i + 1))) := by rw [show i + 1 + (N - (i + 1)) = N by omega]
            rw [e1, List.range_add, List.range_succ, List.append_assoc]
            rfl
          rw [this]
  exact key N 0 F (by omega) hF (fun j hj => absurd hj (Nat.not_lt_zero j))
def f3 (p : Nat → Nat → Nat → Bool) (n : Nat) : Option Nat := (List.range n).findSome? (fun s => (List.range n).findSome? (fun r => (List.range n).findSome? (fun l => if p s r l then some (100 * s + 10 * r + l) else none)))
theorem fs_cg {f g : Nat → Option Nat} {n : Nat} (h : ∀ i, i < n → f i = g i) : (List.range n).findSome? f = (List.range n).findSome? g := by
  have : ∀ (l : List Nat), (∀ i ∈ l, f i = g i) → l.findSome? f = l.findSome? g := by
    intro l
    induction l with
    | nil => intro _; rfl
    | cons a l ih =>
      intro hl
      rw [List.findSome?_cons, List.findSome?_cons, hl a List.mem_cons_self, ih (fun i hi => hl i (List.mem_cons_of_mem _ hi))]
  exact this _ (fun i hi => h i (List.mem_range.mp hi))
theorem f3_cg {p q : Nat → Nat → Nat → Bool} {n : Nat} (h : ∀ s r l, s < n → r < n → l < n → p s r l = q s r l) : f3 p n = f3 q n := fs_cg (fun s hs => fs_cg (fun r hr => fs_cg (fun l hl => by rw [h s r l hs hr hl])))
section PAQ
variable {O : Nat → Prop} {L : Nat → Nat} {σ t : Sto} {b P : Nat} {w : Wd} {sl : Nat → Nat → Option Nat}
theorem C_firstOverstated (h : CW O L σ b w sl) (hp : PB σ P b) (i : Jv w) (hO : Ap O P) (ht0 : ∀ e, e < wC w 2 → 0 < eT (wE w) e) : ∃ t, F_X5_firstOverstated σ P = some (oI (f3 (fun s r l => ovC w s (5 * r + l)) (wC w 0)), t) ∧ PB t P b ∧ Fr (P + 2) 7 σ t := by
  have hn := i.n5
  obtain ⟨t, mf, e1, p1, F1, i1, q1⟩ := C_findMissing h hp i hO ht0
  have h1 := h.ap hO F1
  refine ⟨t, ?_, p1, F1⟩
  have in1 : ∀ s r, s < wC w 0 → r < wC w 0 → ∀ K, F_X5_firstOverstated_L32 t P (nI s) (nI r) fu (nI 0) K = match (List.range (wC w 0)).findSome? (fun l => if ovC w s (5 * r + l) then some (100 * s + 10 * r + l) else none) with | some x => some (nI x, t) | none => K := by
    intro s r hs hr K
    refine lfind (fun f l => F_X5_firstOverstated_L32 t P (nI s) (nI r) f (nI l) K) _ (wC w 0) (fun x => some (nI x, t)) K ?_ ?_ fu (by unfold fu; omega)
    · intro l f hl
      rw [F_X5_firstOverstated_L32, p1.r0, bind_some', h1.i0, bind_some', if_neg (by rw [nI_leI (by omega) (by omega)]; omega), C_cell, bind_some', C_isOverstated h1 p1 i i1 q1 (by omega) (by omega), bind_some', ifb0, l_100, l_10, pk_mul, pk_mul, nI_add, nI_add, l_1, nI_add]
      cases ovC w s (5 * r + l) <;> rfl
    · intro f
      rw [F_X5_firstOverstated_L32, p1.r0, bind_some', h1.i0, bind_some', if_pos (nI_le (Nat.le_refl _) (by omega))]
  have in2 : ∀ s, s < wC w 0 → ∀ K, F_X5_firstOverstated_L19 t P (nI s) fu (nI 0) K = match (List.range (wC w 0)).findSome? (fun r => (List.range (wC w 0)).findSome? (fun l => if ovC w s (5 * r + l) then some (100 * s + 10 * r + l) else none)) with | some x => some (nI x, t) | none => K := by
    intro s hs K
    refine lfind (fun f r => F_X5_firstOverstated_L19 t P (nI s) f (nI r) K) _ (wC w 0) (fun x => some (nI x, t)) K ?_ ?_ fu (by unfold fu; omega)
    · intro r f hr
      rw [F_X5_firstOverstated_L19, p1.r0, bind_some', h1.i0, bind_some', if_neg (by rw [nI_leI (by omega) (by omega)]; omega), l_0, in1 s r hs hr, l_1, nI_add]
    · intro f
      rw [F_X5_firstOverstated_L19, p1.r0, bind_some', h1.i0, bind_some', if_pos (nI_le (Nat.le_refl _) (by omega))]
  unfold F_X5_firstOverstated
  rw [chk_eq hp.ok, e1, bind_some', l_0]
  refine (lfind (fun f s => F_X5_firstOverstated_L6 t P f (nI s) (some ((-1 : Int32), t))) (fun s => (List.range (wC w 0)).findSome? (fun r => (List.range (wC w 0)).findSome? (fun l => if ovC w s (5 * r + l) then some (100 * s + 10 * r + l) else none))) (wC w 0) (fun x => some (nI x, t)) (some ((-1 : Int32), t)) ?_ ?_ fu (by unfold fu; omega)).trans ?_
  · intro s f hs
    rw [F_X5_firstOverstated_L6, p1.r0, bind_some', h1.i0, bind_some', if_neg (by rw [nI_leI (by omega) (by omega)]; omega), l_0, in2 s hs, nI_1]
  · intro f
    rw [F_X5_firstOverstated_L6, p1.r0, bind_some', h1.i0, bind_some', if_pos (nI_le (Nat.le_refl _) (by omega))]
  · unfold f3
    cases (List.range (wC w 0)).findSome? (fun s => (List.range (wC w 0)).findSome? (fun r => (List.range (wC w 0)).findSome? (fun l => if ovC w s (5 * r + l) then some (100 * s + 10 * r + l) else none))) <;> rfl
/-! what is lost -/
def stb (w : Wd) (x s e : Nat) : Bool := (sLg (wL w s)).contains e && !knw (wE w) (wL w s) x e
def otw (w : Wd) (x e : Nat) : Bool := ex (fun s => (wT w (5 * s + x)).any (fun l => (lEv l).contains e)) (wC w 0)
def rch (w : Wd) (x e : Nat) : Bool := ex (fun s => stb w x s e) (wC w 0) || (otw w x e && !knw (wE w) (wL w x) x e)
def lst (w : Wd) (x : Nat) : Nat := fb_ct (fun e => !rch w x e && !sHs (wL w x) e) (wC w 2)
theorem ex_succ (p : Nat → Bool) (n : Nat) : ex p (n + 1) = (ex p n || p n) := by
  unfold ex
  rw [List.range_succ, List.any_append]
  simp
theorem take_contains (l : List Nat) {j : Nat} (hj : j < l.length) (z : Nat) : (l.take (j + 1)).contains z = ((l.take j).contains z || decide (z = l[j])) := by
  rw [tk hj, Bool.eq_iff_iff]
  simp only [List.contains_iff_mem, List.mem_append, List.mem_singleton, Bool.or_eq_true, decide_eq_true_eq]
theorem C_still (h : CW O L σ b w sl) (hp : PB σ P b) (i : Jv w) (hO : Ap O P) {s x : Nat} (hs : s < 5) (hx : x < 5) {f : Nat → Bool} (hf : ES σ (P + 6) f) : ∃ t, F_X5_findStillToBeTold σ P (nI s) (nI x) = some t ∧ PB t P b ∧ Fr (P + 2) 7 σ t ∧ ES t (P + 6) (fun e => f e || stb w x s e) := by
  have hc := i.c
  have hlg := (i.L hs).lg
  have hLo := h.o2 s hs
  unfold F_X5_findStillToBeTold
  rw [chk_eq hp.ok, hp.r0, bind_some', h.r7, bind_some', h.lv hs, bind_some', l_0]
  obtain ⟨t1, ⟨p1, F1, i1⟩, e1⟩ := lpS (fun fl j t => F_X5_findStillToBeTold_L13 P (nI x) (L s) fl (nI j) t (fun s14 => some s14)) (fun t => some t) (fun j t => PB t P b ∧ Fr (P + 2) 7 σ t ∧ ES t (P + 6) (fun e => f e || (((sLg (wL w s)).take j).contains e && !knw (wE w) (wL w s) x e))) (sLg (wL w s)).length (by
    intro j fl t hj ⟨p1, F1, i1⟩
    have h1 := h.ap hO F1
    have hec := (i.L hs).lm (List.getElem_mem hj)
    have hk := C_isKnown (h1.SL hs) h1.ev i.bv (fun k hk => (i.L hs).tb hk) hx hec
    by_cases hb : knw (wE w) (wL w s) x (sLg (wL w s))[j] = true
    · refine ⟨t, ⟨p1, F1, i1.ex (fun e _ => ?_)⟩, ?_⟩
      · rw [take_contains _ hj]
        by_cases hz : e = (sLg (wL w s))[j]
        · rw [hz, hb]; simp
        · simp [hz]
      · rw [F_X5_findStillToBeTold_L13, (h1.SL hs).g3, bind_some', if_neg (by rw [nI_leI (by omega) (by omega)]; omega), p1.r0, bind_some', h1.r6, bind_some', (h1.SL hs).g2, bind_some', (h1.SL hs).rl hj, bind_some', hk, bind_some', hb, ifb0, if_pos rfl, l_1, nI_add]
    · have hb2 : knw (wE w) (wL w s) x (sLg (wL w s))[j] = false := by simpa using hb
      obtain ⟨u, e2, i2, f2⟩ := X_insert i1 (show (sLg (wL w s))[j] < 128 by omega)
      obtain ⟨p2, F2⟩ := p1.f6 i2 f2
      refine ⟨u, ⟨p2, F1.tr F2, i2.ex (fun e _ => ?_)⟩, ?_⟩
      · rw [take_contains _ hj]
        unfold up
        by_cases hz : e = (sLg (wL w s))[j]
        · rw [if_pos hz, hz, hb2]; simp
        · rw [if_neg hz]; simp [hz]
      · rw [F_X5_findStillToBeTold_L13, (h1.SL hs).g3, bind_some', if_neg (by rw [nI_leI (by omega) (by omega)]; omega), p1.r0, bind_some', h1.r6, bind_some', (h1.SL hs).g2, bind_some', (h1.SL hs).rl hj, bind_some', hk, bind_some', hb2, ifb0, if_neg (by decide), p1.r3, bind_some', bind_some', (h1.SL hs).rl hj, bind_some', e2, bind_some', l_1, nI_add]) (by
    intro fl t ⟨p1, F1, i1⟩
    have h1 := h.ap hO F1
    rw [F_X5_findStillToBeTold_L13, (h1.SL hs).g3, bind_some', if_pos (nI_le (Nat.le_refl _) (by omega))]) fu σ (by unfold fu; omega) ⟨hp, Fr.rf, hf.ex (fun e _ => by simp)⟩
  rw [List.take_length] at i1
  exact ⟨t1, e1, p1, F1, i1⟩
theorem C_onTheWay (h : CW O L σ b w sl) (hp : PB σ P b) (i : Jv w) (hO : Ap O P) {x : Nat} (hx : x < 5) {f : Nat → Bool} (hf : ES σ (P + 6) f) (hlt : ∀ c, c < 25 → ∀ l ∈ wT w c, ∀ e ∈ lEv l, e < wC w 2) : ∃ t, F_X5_findOnTheWay σ P (nI x) = some t ∧ PB t P b ∧ Fr (P + 2) 7 σ t ∧ ES t (P + 6) (fun e => f e || (otw w x e && !knw (wE w) (wL w x) x e)) := by
  have hc := i.c
  have hn := i.n5
  obtain ⟨g0, hg0⟩ := hp.2.2.2.2.1
  obtain ⟨t1, e1, i1, f1⟩ := X_clear hg0
  obtain ⟨p1, F1⟩ := hp.f7 i1 f1
  have row : ∀ s, s < wC w 0 → ∀ (t : Sto) (g : Nat → Bool), PB t P b → Fr (P + 2) 7 σ t → ES t (P + 6) f → ES t (P + 7) g → ∃ u, (∀ K, F_X5_findOnTheWay_L33 P (b + 204 + 2 * (5 * s + x)) fu (nI 0) t K = K u) ∧ PB u P b ∧ Fr (P + 2) 7 σ u ∧ ES u (P + 6) f ∧ ES u (P + 7) (fun e => g e || (wT w (5 * s + x)).any (fun l => (lEv l).contains e)) := by
    intro s hs t g p2 F2 hf2 hg2
    have hc25 : 5 * s + x < 25 := by omega
    have htl := h.tl hc25
    obtain ⟨u, ⟨p3, F3, hf3, hg3⟩, e3⟩ := lpS (fun fl j t (K : Sto → Option Sto) => F_X5_findOnTheWay_L33 P (b + 204 + 2 * (5 * s + x)) fl (nI j) t K) (fun t K => K t) (fun j t => PB t P b ∧ Fr (P + 2) 7 σ t ∧ ES t (P + 6) f ∧ ES t (P + 7) (fun e => g e || ((wT w (5 * s + x)).take j).any (fun l => (lEv l).contains e))) (wT w (5 * s + x)).length (by
      intro j fl t hj ⟨p3, F3, hf3, hg3⟩
      have h3 := h.ap hO F3
      obtain ⟨pk, e4, a4, L4⟩ := C_at h3 hc25 (List.getElem?_eq_getElem hj)
      have hk12 := (h3.lt hc25 (List.getElem?_eq_getElem hj)).1
      have hap := hO (pk + 1) (h3.o3 _ j pk hc25 hk12 a4 (pk + 1) (by omega) (by omega))
      obtain ⟨u, e5, i5, f5⟩ := X_insertAll hg3 L4.es (by omega)
      obtain ⟨p5, F5⟩ := p3.f7 i5 f5
      refine ⟨u, ⟨p5, F3.tr F5, hf3.cg (f5.at (by omega)), i5.ex (fun e _ => ?_)⟩, ?_⟩
      · rw [tk hj, List.any_append, ← Bool.or_assoc]
        simp
      · funext K
        rw [F_X5_findOnTheWay_L33, C_rowN h3 hc25, bind_some', if_neg (by rw [nI_leI (by omega) (by omega)]; omega), p3.r4, bind_some', e4, wbs, L4.g5, bind_some', e5, bind_some', l_1, nI_add]) (by
      intro fl t ⟨p3, F3, hf3, hg3⟩
      have h3 := h.ap hO F3
      funext K
      rw [F_X5_findOnTheWay_L33, C_rowN h3 hc25, bind_some', if_pos (nI_le (Nat.le_refl _) (by omega))]) fu t (by unfold fu; omega) ⟨p2, F2, hf2, hg2.ex (fun e _ => by simp)⟩
    rw [List.take_length] at hg3
    exact ⟨u, fun K => congrFun e3 K, p3, F3, hf3, hg3⟩
  obtain ⟨t2, ⟨p2, F2, hf2, hg2⟩, e2⟩ := lpS (fun fl j t (K : Sto → Option Sto) => F_X5_findOnTheWay_L9 P (nI x) fl (nI j) t K) (fun t K => K t) (fun j t => PB t P b ∧ Fr (P + 2) 7 σ t ∧ ES t (P + 6) f ∧ ES t (P + 7) (fun e => ex (fun s => (wT w (5 * s + x)).any (fun l => (lEv l).contains e)) j)) (wC w 0) (by
    intro j fl t hj ⟨p2, F2, hf2, hg2⟩
    have h2 := h.ap hO F2
    obtain ⟨u, e3, p3, F3, hf3, hg3⟩ := row j hj t _ p2 F2 hf2 hg2
    refine ⟨u, ⟨p3, F3, hf3, hg3.ex (fun e _ => ex_succ _ _)⟩, ?_⟩
    funext K
    rw [F_X5_findOnTheWay_L9, p2.r0, bind_some', h2.i0, bind_some', if_neg (by rw [nI_leI (by omega) (by omega)]; omega), bind_some', C_row h2 (by omega) hx, bind_some', l_0, e3, l_1, nI_add]) (by
    intro fl t ⟨p2, F2, hf2, hg2⟩
    have h2 := h.ap hO F2
    funext K
    rw [F_X5_findOnTheWay_L9, p2.r0, bind_some', h2.i0, bind_some', if_pos (nI_le (Nat.le_refl _) (by omega))]) fu t1 (by unfold fu; omega) ⟨p1, F1, hf.cg (f1.at (by omega)), i1.ex (fun e _ => rfl)⟩
  have hotw : ∀ e, otw w x e = true → e < wC w 2 := fun e he => by
    obtain ⟨s, hs, h1⟩ := ex_iff.mp he
    obtain ⟨l, hl, h2⟩ := List.any_eq_true.mp h1
    exact hlt _ (by omega) l hl e (List.contains_iff_mem.mp h2)
  obtain ⟨t3, ⟨p3, F3, hf3, hg3⟩, e3⟩ := lpS (fun fl j t => F_X5_findOnTheWay_L72 P (nI x) fl (nI j) t (fun s28 => some s28)) (fun t => some t) (fun j t => PB t P b ∧ Fr (P + 2) 7 σ t ∧ ES t (P + 6) (fun e => f e || (decide (e < j) && (otw w x e && !knw (wE w) (wL w x) x e))) ∧ ES t (P + 7) (fun e => otw w x e)) (wC w 2) (by
    intro j fl t hj ⟨p3, F3, hf3, hg3⟩
    have h3 := h.ap hO F3
    have hh := X_holds hg3 (show j < 128 by omega)
    have hk := C_isKnown (h3.SL hx) h3.ev i.bv (fun k hk => (i.L hx).tb hk) hx hj
    by_cases hb : otw w x j = true
    · by_cases hk2 : knw (wE w) (wL w x) x j = true
      · refine ⟨t, ⟨p3, F3, hf3.ex (fun e _ => ?_), hg3⟩, ?_⟩
        · by_cases hej : e = j
          · subst hej; rw [hk2]; simp
          · have : (decide (e < j + 1)) = decide (e < j) := decide_eq_decide.mpr (by omega)
            rw [this]
        · rw [F_X5_findOnTheWay_L72, p3.r0, bind_some', h3.r6, bind_some', h3.ev.g0, bind_some', if_neg (by rw [nI_leI (by omega) (by omega)]; omega), p3.r4, bind_some', hh, bind_some', hb, ifb0, if_pos rfl, bind_some', h3.r7, bind_some', h3.lv hx, bind_some', bind_some', h3.r6, bind_some', hk, bind_some', hk2, ifb0, if_pos rfl, l_1, nI_add]
      · have hk3 : knw (wE w) (wL w x) x j = false := by simpa using hk2
        obtain ⟨u, e4, i4, f4⟩ := X_insert hf3 (show j < 128 by omega)
        obtain ⟨p4, F4⟩ := p3.f6 i4 f4
        refine ⟨u, ⟨p4, F3.tr F4, i4.ex (fun e _ => ?_), hg3.cg (f4.at (by omega))⟩, ?_⟩
        · unfold up
          by_cases hej : e = j
          · subst hej; rw [if_pos rfl, hb, hk3]; simp
          · rw [if_neg hej]
            have : (decide (e < j + 1)) = decide (e < j) := decide_eq_decide.mpr (by omega)
            rw [this]
        · rw [F_X5_findOnTheWay_L72, p3.r0, bind_some', h3.r6, bind_some', h3.ev.g0, bind_some', if_neg (by rw [nI_leI (by omega) (by omega)]; omega), p3.r4, bind_some', hh, bind_some', hb, ifb0, if_pos rfl, bind_some', h3.r7, bind_some', h3.lv hx, bind_some', bind_some', h3.r6, bind_some', hk, bind_some', hk3, ifb0, if_neg (by decide), p3.r3, bind_some', e4, bind_some', l_1, nI_add]
    · have hb2 : otw w x j = false := by simpa using hb
      refine ⟨t, ⟨p3, F3, hf3.ex (fun e _ => ?_), hg3⟩, ?_⟩
      · by_cases hej : e = j
        · subst hej; rw [hb2]; simp
        · have : (decide (e < j + 1)) = decide (e < j) := decide_eq_decide.mpr (by omega)
          rw [this]
      · rw [F_X5_findOnTheWay_L72, p3.r0, bind_some', h3.r6, bind_some', h3.ev.g0, bind_some', if_neg (by rw [nI_leI (by omega) (by omega)]; omega), p3.r4, bind_some', hh, bind_some', hb2, ifb0, if_neg (by decide), l_1, nI_add]) (by
    intro fl t ⟨p3, F3, hf3, hg3⟩
    have h3 := h.ap hO F3
    rw [F_X5_findOnTheWay_L72, p3.r0, bind_some', h3.r6, bind_some', h3.ev.g0, bind_some', if_pos (nI_le (Nat.le_refl _) (by omega))]) fu t2 (by unfold fu; omega) ⟨p2, F2, hf2.ex (fun e _ => by simp), hg2⟩
  refine ⟨t3, ?_, p3, F3, hf3.ex (fun e _ => ?_)⟩
  · have e2' : ∀ K, F_X5_findOnTheWay_L9 P (nI x) fu (nI 0) t1 K = K t2 := fun K => congrFun e2 K
    unfold F_X5_findOnTheWay
    rw [chk_eq hp.ok, hp.r4, bind_some', e1, bind_some', l_0, e2']
    exact e3
  · by_cases he : otw w x e = true
    · rw [decide_eq_true (hotw e he), Bool.true_and]
    · have : otw w x e = false := by simpa using he
      rw [this]; simp
theorem C_lostTo (h : CW O L σ b w sl) (hp : PB σ P b) (i : Jv w) (hO : Ap O P) {x : Nat} (hx : x < 5) (hlt : ∀ c, c < 25 → ∀ l ∈ wT w c, ∀ e ∈ lEv l, e < wC w 2) (hhs : ∀ e, sHs (wL w x) e = true → e < wC w 2) : ∃ t, F_X5_lostTo σ P (nI x) = some (nI (lst w x), t) ∧ PB t P b ∧ Fr (P + 2) 7 σ t := by
  have hc := i.c
  have hn := i.n5
  obtain ⟨g0, hg0⟩ := hp.2.2.2.1
  obtain ⟨t1, e1, i1, f1⟩ := X_clear hg0
  obtain ⟨p1, F1⟩ := hp.f6 i1 f1
  obtain ⟨t2, ⟨p2, F2, i2⟩, e2⟩ := lpS (fun fl j t (K : Sto → Option (Int32 × Sto)) => F_X5_lostTo_L9 P (nI x) fl (nI j) t K) (fun t K => K t) (fun j t => PB t P b ∧ Fr (P + 2) 7 σ t ∧ ES t (P + 6) (fun e => ex (fun s => stb w x s e) j)) (wC w 0) (by
    intro j fl t hj ⟨p2, F2, i2⟩
    have h2 := h.ap hO F2
    obtain ⟨u, e3, p3, F3, i3⟩ := C_still h2 p2 i hO (show j < 5 by omega) hx i2
    refine ⟨u, ⟨p3, F2.tr F3, i3.ex (fun e _ => ex_succ _ _)⟩, ?_⟩
    funext K
    rw [F_X5_lostTo_L9, p2.r0, bind_some', h2.i0, bind_some', if_neg (by rw [nI_leI (by omega) (by omega)]; omega), e3, bind_some', l_1, nI_add]) (by
    intro fl t ⟨p2, F2, i2⟩
    have h2 := h.ap hO F2
    funext K
    rw [F_X5_lostTo_L9, p2.r0, bind_some', h2.i0, bind_some', if_pos (nI_le (Nat.le_refl _) (by omega))]) fu t1 (by unfold fu; omega) ⟨p1, F1, i1.ex (fun e _ => rfl)⟩
  have e2' : ∀ K, F_X5_lostTo_L9 P (nI x) fu (nI 0) t1 K = K t2 := fun K => congrFun e2 K
  have h2 := h.ap hO F2
  obtain ⟨t3, e3, p3, F3, i3⟩ := C_onTheWay h2 p2 i hO hx i2 hlt
  have h3 := h2.ap hO F3
  have hap := hO (L x + 2) (h3.o2 x hx _ (by omega) (by omega))
  obtain ⟨t4, e4, i4, f4⟩ := X_insertAll i3 (h3.SL hx).hs (by omega)
  obtain ⟨p4, F4⟩ := p3.f6 i4 f4
  have h4 := h3.ap hO F4
  have hsz := X_size i4
  have hfc : ∀ e, ((ex (fun s => stb w x s e) (wC w 0) || (otw w x e && !knw (wE w) (wL w x) x e)) || sHs (wL w x) e) = true → e < wC w 2 := by
    intro e he
    rcases Bool.or_eq_true_iff.mp he with he | he
    · rcases Bool.or_eq_true_iff.mp he with he | he
      · obtain ⟨s, hs, h5⟩ := ex_iff.mp he
        have h6 : (sLg (wL w s)).contains e = true := (Bool.and_eq_true_iff.mp h5).1
        exact (i.L (show s < 5 by omega)).lm (List.contains_iff_mem.mp h6)
      · obtain ⟨s, hs, h1⟩ := ex_iff.mp (Bool.and_eq_true_iff.mp he).1
        obtain ⟨l, hl, h2⟩ := List.any_eq_true.mp h1
        exact hlt _ (by omega) l hl e (List.contains_iff_mem.mp h2)
    · exact hhs e he
  rw [fb_128 (by omega) hfc] at hsz
  have hnot := fb_ct_not (fun e => (ex (fun s => stb w x s e) (wC w 0) || (otw w x e && !knw (wE w) (wL w x) x e)) || sHs (wL w x) e) (wC w 2)
  have hle := fb_ct_le (fun e => (ex (fun s => stb w x s e) (wC w 0) || (otw w x e && !knw (wE w) (wL w x) x e)) || sHs (wL w x) e) (wC w 2)
  have hl : lst w x = fb_ct (fun e => !((ex (fun s => stb w x s e) (wC w 0) || (otw w x e && !knw (wE w) (wL w x) x e)) || sHs (wL w x) e)) (wC w 2) := fb_ct_cong (fun e _ => by
    show (!rch w x e && !sHs (wL w x) e) = _
    unfold rch
    rw [Bool.not_or, Bool.not_or, Bool.not_or])
  refine ⟨t4, ?_, p4, F2.tr (F3.tr F4)⟩
  unfold F_X5_lostTo
  rw [chk_eq hp.ok, hp.r3, bind_some', e1, bind_some', l_0, e2', e3, bind_some', p3.r3, bind_some', p3.r0, bind_some', h3.r7, bind_some', h3.lv hx, bind_some', (h3.SL hx).g1, bind_some', e4, bind_some', p4.r0, bind_some', h4.r6, bind_some', h4.ev.g0, bind_some', p4.r3, bind_some', hsz, bind_some', pk_sub hle, hl]
  congr 3
  omega
theorem C_lostInAll (h : CW O L σ b w sl) (hp : PB σ P b) (i : Jv w) (hO : Ap O P) (hlt : ∀ c, c < 25 → ∀ l ∈ wT w c, ∀ e ∈ lEv l, e < wC w 2) (hhs : ∀ x, x < 5 → ∀ e, sHs (wL w x) e = true → e < wC w 2) : ∃ t, F_X5_lostInAll σ P = some (nI (sm (lst w) (wC w 0)), t) ∧ PB t P b ∧ Fr (P + 2) 7 σ t := by
  have hn := i.n5
  unfold F_X5_lostInAll
  rw [chk_eq hp.ok, l_0]
  obtain ⟨q, ⟨q1, p1, F1⟩, e1⟩ := lpS (fun fl j (q : Nat × Sto) => F_X5_lostInAll_L4 P fl (nI q.1) (nI j) q.2 (fun x5 s6 => some (x5, s6))) (fun q => some (nI q.1, q.2)) (fun j q => q.1 = sm (lst w) j ∧ PB q.2 P b ∧ Fr (P + 2) 7 σ q.2) (wC w 0) (by
    intro j fl q hj ⟨q1, p1, F1⟩
    have h1 := h.ap hO F1
    obtain ⟨u, e2, p2, F2⟩ := C_lostTo h1 p1 i hO (show j < 5 by omega) hlt (hhs j (by omega))
    refine ⟨(q.1 + lst w j, u), ⟨by rw [q1]; rfl, p2, F1.tr F2⟩, ?_⟩
    rw [F_X5_lostInAll_L4, p1.r0, bind_some', h1.i0, bind_some', if_neg (by rw [nI_leI (by omega) (by omega)]; omega), e2, wbs, nI_add, l_1, nI_add]) (by
    intro fl q ⟨q1, p1, F1⟩
    have h1 := h.ap hO F1
    rw [F_X5_lostInAll_L4, p1.r0, bind_some', h1.i0, bind_some', if_pos (nI_le (Nat.le_refl _) (by omega))]) fu (0, σ) (by unfold fu; omega) ⟨rfl, hp, Fr.rf⟩
  rw [q1] at e1
  exact ⟨q.2, e1, p1, F1⟩
end PAQ
