/-! ===== PURE 37: the class's paper: sets of events ===== -/
theorem al_succ (p : Nat → Bool) (n : Nat) : al p (n + 1) = (al p n && p n) := by
  unfold al
  rw [List.range_succ, List.all_append]
  simp
/-- a list without doubles, counted by numbers -/
theorem filt_ct (p : Nat → Bool) {c : Nat} : ∀ {l : List Nat}, l.Nodup → (∀ e ∈ l, e < c) → (l.filter p).length = fb_ct (fun e => p e && l.contains e) c
  | [], _, _ => by
    have : fb_ct (fun e => p e && ([] : List Nat).contains e) c = 0 := fb_ct_zero.mpr (fun k _ => by simp)
    rw [this]; rfl
  | a :: l, hn, hl => by
    have hn2 := List.nodup_cons.mp hn
    have ih := filt_ct p (l := l) hn2.2 (fun e he => hl e (List.mem_cons_of_mem _ he))
    have ha := hl a List.mem_cons_self
    have e1 : fb_ct (fun e => p e && (a :: l).contains e) c = fb_ct (fun k => if k = a then p a else (p k && l.contains k)) c := fb_ct_cong (fun k _ => by
      by_cases hk : k = a
      · subst hk; rw [if_pos rfl]; simp
      · rw [if_neg hk]; simp [hk])
    have e2 := fb_ct_upd (fun e => p e && l.contains e) (p a) (i := a) (n := c) ha
    have hnc : l.contains a = false := by
      rw [← Bool.not_eq_true, List.contains_iff_mem]; exact hn2.1
    rw [hnc, Bool.and_false] at e2
    rw [e1]
    have e3 : fb_ct (fun k => if k = a then p a else (p k && l.contains k)) c = fb_ct (fun e => p e && l.contains e) c + (if p a = true then 1 else 0) := by simpa using e2
    rw [e3, ← ih]
    by_cases hp : p a = true
    · rw [List.filter_cons_of_pos hp, if_pos hp]; rfl
    · rw [List.filter_cons_of_neg hp, if_neg hp]; rfl
section PAR
variable {O : Nat → Prop} {L : Nat → Nat} {σ t : Sto} {b P : Nat} {w : Wd} {sl : Nat → Nat → Option Nat}
theorem C_heldByAll (h : CW O L σ b w sl) (hp : PB σ P b) (i : Jv w) (hO : Ap O P) (hn1 : 1 ≤ wC w 0) (hhs : ∀ e, sHs (wL w 0) e = true → e < wC w 2) : ∃ t, F_X5_heldByAll σ P = some (nI (fb_ct (fun e => al (fun s => sHs (wL w s) e) (wC w 0)) (wC w 2)), t) ∧ PB t P b ∧ Fr (P + 2) 7 σ t ∧ ES t (P + 6) (fun e => al (fun s => sHs (wL w s) e) (wC w 0)) := by
  have hn := i.n5
  have hc := i.c
  obtain ⟨g0, hg0⟩ := hp.2.2.2.1
  have hap0 := hO (L 0 + 2) (h.o2 0 (by omega) _ (by omega) (by omega))
  obtain ⟨t1, e1, i1, f1⟩ := X_copyOf hg0 (h.SL (show 0 < 5 by omega)).hs (by omega)
  obtain ⟨p1, F1⟩ := hp.f6 i1 f1
  obtain ⟨t2, ⟨p2, F2, i2⟩, e2⟩ := lpG (fun fl j t (K : Sto → Option (Int32 × Sto)) => F_X5_heldByAll_L21 P fl (nI j) t K) (fun t K => K t) (fun j t => PB t P b ∧ Fr (P + 2) 7 σ t ∧ ES t (P + 6) (fun e => al (fun s => sHs (wL w s) e) j)) (wC w 0) 1 hn1 (by
    intro j fl t h1 hj ⟨p2, F2, i2⟩
    have h2 := h.ap hO F2
    have hap := hO (L j + 2) (h.o2 j (by omega) _ (by omega) (by omega))
    obtain ⟨u, e3, i3, f3⟩ := X_retainAll i2 (h2.SL (show j < 5 by omega)).hs (by omega)
    obtain ⟨p3, F3⟩ := p2.f6 i3 f3
    refine ⟨u, ⟨p3, F2.tr F3, i3.ex (fun e _ => al_succ _ _)⟩, ?_⟩
    funext K
    rw [F_X5_heldByAll_L21, p2.r0, bind_some', h2.i0, bind_some', if_neg (by rw [nI_leI (by omega) (by omega)]; omega), p2.r3, bind_some', bind_some', h2.r7, bind_some', h2.lv (by omega), bind_some', (h2.SL (show j < 5 by omega)).g1, bind_some', e3, bind_some', l_1, nI_add]) (by
    intro fl t ⟨p2, F2, i2⟩
    have h2 := h.ap hO F2
    funext K
    rw [F_X5_heldByAll_L21, p2.r0, bind_some', h2.i0, bind_some', if_pos (nI_le (Nat.le_refl _) (by omega))]) fu t1 (by unfold fu; omega) ⟨p1, F1, i1.ex (fun e _ => by rw [show (1 : Nat) = 0 + 1 from rfl, al_succ]; simp [al])⟩
  have e2' : ∀ K, F_X5_heldByAll_L21 P fu (nI 1) t1 K = K t2 := fun K => congrFun e2 K
  have hsz := X_size i2
  rw [fb_128 (c := wC w 2) (by omega) (fun e he => hhs e (al_iff.mp he 0 (by omega)))] at hsz
  refine ⟨t2, ?_, p2, F2, i2⟩
  unfold F_X5_heldByAll
  rw [chk_eq hp.ok, hp.r3, bind_some', hp.r0, bind_some', h.r7, bind_some', l_0, h.lv (by omega), bind_some', (h.SL (show 0 < 5 by omega)).g1, bind_some', e1, bind_some', l_1, e2', p2.r3, bind_some', hsz]
  rfl
theorem C_heldByAllInLog (h : CW O L σ b w sl) (hp : PB σ P b) (i : Jv w) (hO : Ap O P) (hn1 : 1 ≤ wC w 0) (hhs : ∀ e, sHs (wL w 0) e = true → e < wC w 2) {x : Nat} (hx : x < 5) (hnd : (sLg (wL w x)).Nodup) : ∃ t, F_X5_heldByAllInLog σ P (nI x) = some (nI (fb_ct (fun e => al (fun s => sHs (wL w s) e) (wC w 0) && (sLg (wL w x)).contains e) (wC w 2)), t) ∧ PB t P b ∧ Fr (P + 2) 7 σ t := by
  have hc := i.c
  have hlg := (i.L hx).lg
  obtain ⟨t1, e1, p1, F1, i1⟩ := C_heldByAll h hp i hO hn1 hhs
  have h1 := h.ap hO F1
  refine ⟨t1, ?_, p1, F1⟩
  unfold F_X5_heldByAllInLog
  rw [chk_eq hp.ok, e1, wbs, p1.r0, bind_some', h1.r7, bind_some', h1.lv hx, bind_some', ← filt_ct _ hnd (fun e he => (i.L hx).lm he)]
  refine (lup (fun f j => F_X5_heldByAllInLog_L20 t1 P (L x) f (nI (((sLg (wL w x)).take j).filter (fun e => al (fun s => sHs (wL w s) e) (wC w 0))).length) (nI j) (fun x11 => some (x11, t1))) (sLg (wL w x)).length (some (nI ((sLg (wL w x)).filter (fun e => al (fun s => sHs (wL w s) e) (wC w 0))).length, t1)) ?_ ?_ fu (by unfold fu; omega))
  · intro j f hj
    have hec := (i.L hx).lm (List.getElem_mem hj)
    rw [F_X5_heldByAllInLog_L20, (h1.SL hx).g3, bind_some', if_neg (by rw [nI_leI (by omega) (by omega)]; omega), p1.r3, bind_some', (h1.SL hx).g2, bind_some', (h1.SL hx).rl hj, bind_some', X_holds i1 (by omega), bind_some', ifb0, l_1, nI_add, nI_add, tk_filt _ hj]
    cases al (fun s => sHs (wL w s) (sLg (wL w x))[j]) (wC w 0) with
    | true => rw [if_pos rfl, if_pos rfl, List.length_append]; rfl
    | false => rw [if_neg (by decide), if_neg (by decide), List.append_nil]
  · intro f
    rw [F_X5_heldByAllInLog_L20, (h1.SL hx).g3, bind_some', if_pos (nI_le (Nat.le_refl _) (by omega)), List.take_length]
theorem C_frontOf (h : CW O L σ b w sl) (hp : PB σ P b) (i : Jv w) (hO : Ap O P) {x : Nat} (hx : x < 5) : ∃ t, F_X5_frontOf σ P (nI x) = some (P + 6, t) ∧ PB t P b ∧ Fr (P + 2) 7 σ t ∧ ES t (P + 6) (fun e => sHs (wL w x) e && !ex (fun f => sHs (wL w x) f && eA (wE w) f e) (wC w 2)) := by
  have hc := i.c
  obtain ⟨g0, hg0⟩ := hp.2.2.2.1
  have hap0 := hO (L x + 2) (h.o2 x hx _ (by omega) (by omega))
  obtain ⟨t1, e1, i1, f1⟩ := X_copyOf hg0 (h.SL hx).hs (by omega)
  obtain ⟨p1, F1⟩ := hp.f6 i1 f1
  obtain ⟨t2, ⟨p2, F2, i2⟩, e2⟩ := lpS (fun fl j t (K : Sto → Option (Nat × Sto)) => F_X5_frontOf_L23 P (L x + 2) fl (nI j) t K) (fun t K => K t) (fun j t => PB t P b ∧ Fr (P + 2) 7 σ t ∧ ES t (P + 6) (fun e => sHs (wL w x) e && !ex (fun f => sHs (wL w x) f && eA (wE w) f e) j)) (wC w 2) (by
    intro j fl t hj ⟨p2, F2, i2⟩
    have h2 := h.ap hO F2
    have hh := X_holds (h2.SL hx).hs (show j < 128 by omega)
    have hap := hO (b + 1 + 9 + j) (h.o1 _ (by omega) (by omega))
    by_cases hb : sHs (wL w x) j = true
    · obtain ⟨u, e3, i3, f3⟩ := X_removeAll i2 (h2.ev.es i.bv hj) (by omega)
      obtain ⟨p3, F3⟩ := p2.f6 i3 f3
      refine ⟨u, ⟨p3, F2.tr F3, i3.ex (fun e _ => ?_)⟩, ?_⟩
      · rw [ex_succ, hb]
        cases sHs (wL w x) e <;> cases ex (fun f => sHs (wL w x) f && eA (wE w) f e) j <;> cases eA (wE w) j e <;> rfl
      · funext K
        rw [F_X5_frontOf_L23, p2.r0, bind_some', h2.r6, bind_some', h2.ev.g0, bind_some', if_neg (by rw [nI_leI (by omega) (by omega)]; omega), hh, bind_some', hb, ifb0, if_pos rfl, p2.r3, bind_some', bind_some', h2.r6, bind_some', h2.ev.g8, bind_some', h2.ev.rB (by omega), bind_some', e3, bind_some', l_1, nI_add]
    · have hb2 : sHs (wL w x) j = false := by simpa using hb
      refine ⟨t, ⟨p2, F2, i2.ex (fun e _ => ?_)⟩, ?_⟩
      · rw [ex_succ, hb2]; simp
      · funext K
        rw [F_X5_frontOf_L23, p2.r0, bind_some', h2.r6, bind_some', h2.ev.g0, bind_some', if_neg (by rw [nI_leI (by omega) (by omega)]; omega), hh, bind_some', hb2, ifb0, if_neg (by decide), l_1, nI_add]) (by
    intro fl t ⟨p2, F2, i2⟩
    have h2 := h.ap hO F2
    funext K
    rw [F_X5_frontOf_L23, p2.r0, bind_some', h2.r6, bind_some', h2.ev.g0, bind_some', if_pos (nI_le (Nat.le_refl _) (by omega))]) fu t1 (by unfold fu; omega) ⟨p1, F1, i1.ex (fun e _ => by simp [ex])⟩
  have e2' : ∀ K, F_X5_frontOf_L23 P (L x + 2) fu (nI 0) t1 K = K t2 := fun K => congrFun e2 K
  refine ⟨t2, ?_, p2, F2, i2⟩
  unfold F_X5_frontOf
  rw [chk_eq hp.ok, hp.r0, bind_some', h.r7, bind_some', h.lv hx, bind_some', (h.SL hx).g1, bind_some', hp.r3, bind_some', e1, bind_some', l_0, e2', p2.r3]
  rfl
theorem C_onlyAt (h : CW O L σ b w sl) (hp : PB σ P b) (hO : Ap O P) {x y : Nat} (hx : x < 5) (hy : y < 5) : ∃ t, F_X5_onlyAt σ P (nI x) (nI y) = some (P + 6, t) ∧ PB t P b ∧ Fr (P + 2) 7 σ t ∧ ES t (P + 6) (fun e => sVw (wL w x) e && !sVw (wL w y) e) := by
  obtain ⟨g0, hg0⟩ := hp.2.2.2.1
  have hap0 := hO (L x + 1) (h.o2 x hx _ (by omega) (by omega))
  have hap1 := hO (L y + 1) (h.o2 y hy _ (by omega) (by omega))
  obtain ⟨t1, e1, i1, f1⟩ := X_copyOf hg0 (h.SL hx).vw (by omega)
  obtain ⟨p1, F1⟩ := hp.f6 i1 f1
  have h1 := h.ap hO F1
  obtain ⟨t2, e2, i2, f2⟩ := X_removeAll i1 (h1.SL hy).vw (by omega)
  obtain ⟨p2, F2⟩ := p1.f6 i2 f2
  refine ⟨t2, ?_, p2, F1.tr F2, i2⟩
  unfold F_X5_onlyAt
  rw [chk_eq hp.ok, hp.r3, bind_some', hp.r0, bind_some', h.r7, bind_some', h.lv hx, bind_some', (h.SL hx).g0, bind_some', e1, bind_some', p1.r3, bind_some', p1.r0, bind_some', h1.r7, bind_some', h1.lv hy, bind_some', (h1.SL hy).g0, bind_some', e2, bind_some', p2.r3]
  rfl
theorem C_wouldCarry (h : CW O L σ b w sl) (hp : PB σ P b) (i : Jv w) (hO : Ap O P) {x y k : Nat} (hx : x < 5) (hy : y < 5) (hk : k < 3) (hnd : (sLg (wL w x)).Nodup) (hhs : ∀ e, sHs (wL w x) e = true → e < wC w 2) : ∃ t, F_X5_wouldCarry σ P (nI x) (nI y) (nI k) = some (nI (if k = 0 then (lEv (ltr (wE w) (wC w 1) (wL w x) y)).length else if k = 1 then ((lEv (ltr (wE w) (wC w 1) (wL w x) y)).filter (sHs (wL w y))).length else fb_ct (fun e => (sHs (wL w x) e && !sHs (wL w y) e) && !(lEv (ltr (wE w) (wC w 1) (wL w x) y)).contains e) (wC w 2)), t) ∧ PB t P b ∧ Fr (P + 2) 7 σ t := by
  have hc := i.c
  obtain ⟨x0, o0, l0, hl0⟩ := hp.2.2.1
  have hap0 : L x + 7 ≤ P + 2 ∨ P + 9 ≤ L x := by
    refine Classical.byContradiction fun hx2 => ?_
    by_cases hle : L x ≤ P + 2
    · have := hO (P + 2) (h.o2 x hx _ (by omega) (by omega)); omega
    · have := hO (L x) (h.o2 x hx _ (by omega) (by omega)); omega
  have hap1 : b + 254 ≤ P + 2 ∨ P + 9 ≤ b := by
    refine Classical.byContradiction fun hx2 => ?_
    by_cases hle : b ≤ P + 2
    · have := hO (P + 2) (h.o1 _ (by omega) (by omega)); omega
    · have := hO b (h.o1 _ (by omega) (by omega)); omega
  have hapy := hO (L y + 2) (h.o2 y hy _ (by omega) (by omega))
  obtain ⟨t1, e1, L1, f1⟩ := C_compose (x := x) (o := y) (m := wC w 1) hl0 (h.SL hx) h.ev i.bv (i.L hx) hy (by omega) (by omega)
  obtain ⟨p1, F1⟩ := hp.f2 L1 f1
  have h1 := h.ap hO F1
  generalize hl : ltr (wE w) (wC w 1) (wL w x) y = l at *
  have hnl : (lEv l).Nodup := by rw [← hl]; exact hnd.filter _
  have hml : ∀ e ∈ lEv l, e < wC w 2 := fun e he => by
    rw [← hl] at he
    exact (i.L hx).lm (List.mem_filter.mp he).1
  unfold F_X5_wouldCarry
  rw [chk_eq hp.ok, hp.r2, bind_some', hp.r0, bind_some', h.r7, bind_some', h.lv hx, bind_some', bind_some', h.r6, bind_some', bind_some', h.i1, bind_some', e1, bind_some', l_0, ifE (by omega) (by omega), l_1, ifE (by omega) (by omega)]
  by_cases k0 : k = 0
  · rw [if_pos k0, if_pos k0, p1.r2, bind_some', L1.g3]
    exact ⟨t1, rfl, p1, F1⟩
  · rw [if_neg k0, if_neg k0]
    by_cases k1 : k = 1
    · have hsh := X_shared L1.es (h1.SL hy).hs
      have hsz : fb_ct (fun e => (lEv l).contains e && sHs (wL w y) e) 128 = ((lEv l).filter (sHs (wL w y))).length := by
        rw [fb_128 (c := wC w 2) (by omega) (fun e he => hml e (List.contains_iff_mem.mp (Bool.and_eq_true_iff.mp he).1)), filt_ct _ hnl hml]
        exact fb_ct_cong (fun e _ => Bool.and_comm _ _)
      rw [hsz] at hsh
      rw [if_pos k1, if_pos k1, p1.r2, bind_some', L1.g5, bind_some', p1.r0, bind_some', h1.r7, bind_some', h1.lv hy, bind_some', (h1.SL hy).g1, bind_some', hsh]
      exact ⟨t1, rfl, p1, F1⟩
    · rw [if_neg k1, if_neg k1]
      obtain ⟨g0, hg0⟩ := p1.2.2.2.1
      obtain ⟨t2, e2, i2, f2⟩ := X_copyOf hg0 (h1.SL hx).hs (by omega)
      obtain ⟨p2, F2⟩ := p1.f6 i2 f2
      have h2 := h1.ap hO F2
      obtain ⟨t3, e3, i3, f3⟩ := X_removeAll i2 (h2.SL hy).hs (by omega)
      obtain ⟨p3, F3⟩ := p2.f6 i3 f3
      have L3 := (L1.fr f2 (by omega)).fr f3 (by omega)
      obtain ⟨t4, e4, i4, f4⟩ := X_removeAll i3 L3.es (by omega)
      obtain ⟨p4, F4⟩ := p3.f6 i4 f4
      have hsz := X_size i4
      rw [fb_128 (c := wC w 2) (by omega) (fun e he => hhs e (by
        have h1 := (Bool.and_eq_true_iff.mp he).1
        exact (Bool.and_eq_true_iff.mp h1).1))] at hsz
      rw [p1.r3, bind_some', p1.r0, bind_some', h1.r7, bind_some', h1.lv hx, bind_some', (h1.SL hx).g1, bind_some', e2, bind_some', p2.r3, bind_some', p2.r0, bind_some', h2.r7, bind_some', h2.lv hy, bind_some', (h2.SL hy).g1, bind_some', e3, bind_some', p3.r3, bind_some', p3.r2, bind_some', L3.g5, bind_some', e4, bind_some', p4.r3, bind_some', hsz]
      exact ⟨t4, rfl, p4, F1.tr (F2.tr (F3.tr F4))⟩
end PAR
