/-! ===== PURE 84: the reference's publics: chance ===== -/
theorem sub_mod (x m : Nat) : x - x / m * m = x % m := by
  have := Nat.div_add_mod x m
  rw [Nat.mul_comm] at this
  omega
section RFY
variable {s s1 t σ : Sto} {a c : Nat} {M : Ms} {A : Ga} {w : Wd} {W W' : Nat → Nat} {im : Nat → Option Wd} {q : Ch}
/-- the reference in the midst of chance -/
def RC (s : Sto) (a : Nat) (q : Ch) (im : Nat → Option Wd) : Prop := ∃ M, RB s a M (q.1, im, q.2.1, Int64.ofNat q.2.2) ∧ q.2.2 < 2147483648
theorem lN_inj {x y : Nat} (hx : x < 2 ^ 31) (h : lN x = Int64.ofNat y) (hy : y < 2 ^ 31) (hx2 : x < 2 ^ 63) : x = y := by
  have h1 := congrArg Int64.toInt h
  rw [show lN x = Int64.ofNat x from rfl, Int64.toInt_ofNat_of_lt hx2, Int64.toInt_ofNat_of_lt (by omega)] at h1
  omega
theorem R_draw (b : RB s a M (w, im, A.2.2.1, Int64.ofNat c)) (hs : c < 2147483648) {m : Nat} (h0 : 0 < m) (hm : m < 2 ^ 31) : ∃ t M', F_X10_draw s a (nI m) = some (nI (dV (dN c) m), t) ∧ RB t a M' (w, im, A.2.2.1, Int64.ofNat (dN c)) ∧ Eo a s t := by
  have hd := dN_lt c
  have hg : gL s a 10 7 = some (Int64.ofNat c) := by rw [b.rt.l7, b.2.1.2.2.2.2]
  obtain ⟨t, e1, h1, E1⟩ := b.1.setL (v := dN c)
  have e1' : sV s a 10 7 (.long (Int64.ofNat (dN c))) = some t := e1
  have hx : ((1103515245 : Int64) * Int64.ofNat c + (12345 : Int64)) - ((1103515245 : Int64) * Int64.ofNat c + (12345 : Int64)) / (2147483648 : Int64) * (2147483648 : Int64) = Int64.ofNat (dN c) := by
    rw [show (1103515245 : Int64) = Int64.ofNat 1103515245 from rfl, show (12345 : Int64) = Int64.ofNat 12345 from rfl, show (2147483648 : Int64) = Int64.ofNat 2147483648 from rfl, ← Int64.ofNat_mul, ← Int64.ofNat_add, ← Int64.ofNat_div (by omega) (by omega), ← Int64.ofNat_mul, ← Int64.ofNat_sub _ _ (Nat.div_mul_le_self _ _), dN_eq, sub_mod]
  have g2 : gL t a 10 7 = some (Int64.ofNat (dN c)) := gL_cel h1.1 rfl
  refine ⟨t, _, ?_, ⟨h1, ⟨b.2.1.1, b.2.1.2.1, b.2.1.2.2.1, b.2.1.2.2.2.1, rfl⟩, b.2.2.1, b.2.2.2⟩, E1⟩
  unfold F_X10_draw
  rw [chk_eq b.ok, hg, bind_some', hx, e1', bind_some', g2, bind_some', q_i64 hm, if_neg (q_ne0 h0 hm), show (64 : Int64) = Int64.ofNat 64 from rfl, ← Int64.ofNat_div (by omega) (by omega), q_mod (by omega) hm, dV_eq]
theorem RC.dr (h : RC s a q im) {m : Nat} (h0 : 0 < m) (hm : m < 2 ^ 31) : ∃ t, F_X10_draw s a (nI m) = some (nI (dV (dN q.2.2) m), t) ∧ RC t a (chD q) im ∧ Eo a s t := by
  obtain ⟨M, b, hs⟩ := h
  obtain ⟨t, M', e1, b1, E1⟩ := R_draw (A := (q.1, im, q.2.1, Int64.ofNat q.2.2)) b hs h0 hm
  exact ⟨t, e1, ⟨M', b1, dN_lt _⟩, E1⟩
/-- a step of the reference that goes on to q -/
def Rn (s : Sto) (a : Nat) (im : Nat → Option Wd) (F : Option Sto) (q : Ch) : Prop := ∃ t, F = some t ∧ RC t a q im ∧ Eo a s t
theorem R_chIn (h : RC s a q im) (i : Iv q.1) (hl : q.2.1.length < 2 ^ 31 - 1) {x : Nat} (hx : x < wC q.1 0) (K : Sto → Option (Int32 × Sto)) : ∃ t, (wb (F_X10_draw s a (100 : Int32)) fun x18 s17 => (gR s17 a 10 1).bind fun p19 => (iald s17 p19 (2 : Int32)).bind fun x20 => if (120 : Int32) ≤ x20 then K s17 else wb (F_X10_adds s17 a (nI x) x18) fun x22 s21 => K s21) = K t ∧ RC t a (chIn q x) im ∧ Eo a s t := by
  obtain ⟨t1, e1, r1, E1⟩ := h.dr (m := 100) (by omega) (by omega)
  obtain ⟨M1, b1, h1⟩ := r1
  have hc := i.c
  have e1' : F_X10_draw s a (100 : Int32) = _ := e1
  rw [e1', wbs, b1.1.wd, bind_some', b1.n2, bind_some']
  unfold chIn
  by_cases hcc : wC q.1 2 < 120
  · obtain ⟨t2, M2, e2, b2, E2⟩ := R_adds b1.1 b1.2.1 b1.2.2.2 i hl hx hcc (nm := dV (dN q.2.2) 100) (dV_lt (by omega))
    refine ⟨t2, ?_, ?_, E1.tr E2⟩
    · rw [if_neg (by rw [l_120, nI_leI (by omega) (by show wC q.1 2 < _; omega)]; show ¬ 120 ≤ wC q.1 2; omega), e2, wbs]
    · rw [if_pos hcc]
      exact ⟨M2, b2, h1⟩
  · refine ⟨t1, ?_, ?_, E1⟩
    · rw [if_pos (by rw [l_120, nI_leI (by omega) (by show wC q.1 2 < _; omega)]; show 120 ≤ wC q.1 2; omega)]
    · rw [if_neg hcc]
      exact ⟨M1, b1, h1⟩
theorem R_chOu (h : RC s a q im) (i : Iv q.1) (hl : q.2.1.length < 2 ^ 31 - 1) {x : Nat} (hx : x < wC q.1 0) : Rn s a im (F_X10_takesByDraw s a (nI x)) (chOu q x) := by
  have hc := i.c
  have hn := i.n5
  have hx5 : x < 5 := by omega
  obtain ⟨M, b, hs⟩ := id h
  have hb : F_X10_bitsOf s a (nI (9 + 789 * x + 29)) = some (nI (fb_ct (sVw (wL q.1 x)) (wC q.1 2))) := R_bitsOf b.rt b.rw i.j (p := sVw (wL q.1 x)) (fun e he => b.rw.vw hx5 he) (by omega)
  have hfb : fb_ct (sVw (wL q.1 x)) 128 = fb_ct (sVw (wL q.1 x)) (wC q.1 2) := fb_ext (by omega) (fun e h1 h2 => by
    cases hh : sVw (wL q.1 x) e with
    | false => rfl
    | true => have := i.vw x hx5 e hh; omega)
  have hle := fb_ct_le (sVw (wL q.1 x)) (wC q.1 2)
  unfold F_X10_takesByDraw chOu
  rw [chk_eq b.ok, R_stateOf, bind_some', show (29 : Int32) = nI 29 from rfl, nI_add, hb, bind_some', bind_some', hfb]
  by_cases hk : fb_ct (sVw (wL q.1 x)) (wC q.1 2) = 0
  · rw [if_pos hk, if_pos (by rw [hk]; rfl)]
    exact ⟨s, rfl, h, Eo.rf⟩
  · obtain ⟨t1, e1, r1, E1⟩ := h.dr (m := fb_ct (sVw (wL q.1 x)) (wC q.1 2)) (by omega) (by omega)
    obtain ⟨M1, b1, h1⟩ := id r1
    have hdl : dV (dN q.2.2) (fb_ct (sVw (wL q.1 x)) (wC q.1 2)) < fb_ct (sVw (wL q.1 x)) (wC q.1 2) := dV_lt (by omega)
    generalize dV (dN q.2.2) (fb_ct (sVw (wL q.1 x)) (wC q.1 2)) = d at e1 hdl
    have hkt : F_X10_kthOf t1 a (nI (9 + 789 * x + 29)) (nI d) = some (oI (kthI (sVw (wL q.1 x)) (wC q.1 2) (nI d))) := R_kthOf b1.rt b1.rw i.j (p := sVw (wL q.1 x)) (fun e he => b1.rw.vw hx5 he) (by omega) _
    have hv := view_cut i hx5 (nI d)
    rw [if_neg hk, if_neg (fun y => hk ((nI_z (by omega)).mp y)), e1, wbs, nI_add, hkt, bind_some', hv, kthI_nI (by omega), b1.1.wd, bind_some', b1.n2, bind_some']
    cases hm : kth (sVw (wL q.1 x)) 120 d with
    | none =>
      have h9 := kth_none.mp hm
      have h10 := fb_ext (f := sVw (wL q.1 x)) (n := wC q.1 2) (m := 120) (by omega) (fun e h1 h2 => by
        cases hh : sVw (wL q.1 x) e with
        | false => rfl
        | true => have := i.vw x hx5 e hh; omega)
      omega
    | some m =>
      obtain ⟨m1, m2, -⟩ := kth_some.mp hm
      have hm3 : m < wC q.1 2 := i.vw x hx5 m m2
      rw [show oI (some m) = nI m from rfl]
      dsimp only
      by_cases hcc : wC q.1 2 < 120
      · obtain ⟨t2, M2, e2, b2, E2⟩ := R_takes b1.1 b1.2.1 b1.2.2.2 i hl hx hcc hm3
        rw [if_pos hcc, if_neg (by rw [l_120, nI_leI (by omega) (by show wC q.1 2 < _; omega)]; show ¬ 120 ≤ wC q.1 2; omega), e2, wbs]
        exact ⟨t2, rfl, ⟨M2, b2, h1⟩, E1.tr E2⟩
      · rw [if_neg hcc, if_pos (by rw [l_120, nI_leI (by omega) (by show wC q.1 2 < _; omega)]; show 120 ≤ wC q.1 2; omega)]
        exact ⟨t1, rfl, r1, E1⟩
theorem R_chLC (h : RC s a q im) (i : Iv q.1) (hl : q.2.1.length < 2 ^ 31 - 1) {x k : Nat} (hx : x < wC q.1 0) (hk : k < 8) : Rn s a im (F_X10_letterByDraw s a (nI k) (nI x)) (if 5 < k then chCo (chD q) x (chY (wC q.1 0) x (dV (dN q.2.2) (wC q.1 0))) else chLe (chD q) x (chY (wC q.1 0) x (dV (dN q.2.2) (wC q.1 0)))) := by
  have hn := i.n5
  have hn2 := i.n2
  obtain ⟨M, b, hs⟩ := id h
  obtain ⟨t1, e1, r1, E1⟩ := h.dr (m := wC q.1 0) (by omega) (by omega)
  obtain ⟨M1, b1, h1⟩ := id r1
  have hy : dV (dN q.2.2) (wC q.1 0) < wC q.1 0 := dV_lt (by omega)
  obtain ⟨y1, y2⟩ := chY_lt hx hy hn2
  have n0 : iald s (a + 1) 0 = some (nI (wC q.1 0)) := b.n0
  have n1 : iald t1 (a + 1) 0 = some (nI (wC q.1 0)) := b1.n0
  unfold F_X10_letterByDraw
  rw [chk_eq b.ok, b.1.wd, bind_some', n0, bind_some', e1, wbs, jn_eq, b1.1.wd, bind_some', n1, bind_some', if_neg (show ¬ nI (wC q.1 0) = 0 from fun y => by have := (nI_z (by omega)).mp y; omega), nI_add1, pk_rem (by omega) (by omega) (by omega)]
  generalize dV (dN q.2.2) (wC q.1 0) = y at hy y1 y2
  have key : ∀ (K : Int32 → Option Sto), (if nI y = nI x then K (nI ((x + 1) % wC q.1 0)) else K (nI y)) = K (nI (chY (wC q.1 0) x y)) := fun K => by
    unfold chY
    by_cases hxy : y = x
    · rw [if_pos hxy, if_pos (by rw [hxy])]
      by_cases hx1 : x + 1 < wC q.1 0
      · rw [if_pos hx1, Nat.mod_eq_of_lt hx1]
      · rw [if_neg hx1, show x + 1 = wC q.1 0 by omega, Nat.mod_self]
    · rw [if_neg hxy, if_neg (by rw [nI_eq (by omega) (by omega)]; exact hxy)]
  rw [key (fun x6 => if (6 : Int32) ≤ nI k then (F_X10_waits t1 a (nI x) x6).bind fun x7 => if x7 = 0 then some t1 else (F_X10_waits t1 a (nI x) x6).bind fun x8 => wb (F_X10_draw t1 a x8) fun x10 s9 => (F_X10_isCut s9 a (nI x) x6).bind fun x11 => if x11 = 0 then wb (F_X10_comesNow s9 a (nI x) x6 x10) fun x13 s12 => some s12 else some s9 else wb (F_X10_canWrite t1 a (nI x) x6) fun x15 s14 => if x15 = 0 then some s14 else wb (F_X10_writes s14 a (nI x) x6) fun x17 s16 => some s16)]
  generalize chY (wC q.1 0) x y = y' at y1 y2
  have hl12 := i.tl (show x < 5 by omega) (show y' < 5 by omega)
  by_cases hk5 : 5 < k
  · have hw : F_X10_waits t1 a (nI x) (nI y') = some (nI (wT q.1 (5 * x + y')).length) := R_waitsM b1.1 b1.2.1 (by omega) (by omega)
    rw [if_pos hk5, if_pos (by rw [show (6 : Int32) = nI 6 from rfl, nI_leI (by omega) (by omega)]; omega), hw, bind_some', bind_some']
    unfold chCo
    by_cases h0 : (wT q.1 (5 * x + y')).length = 0
    · rw [if_pos (show (wT (chD q).1 (5 * x + y')).length = 0 from h0), if_pos (by rw [h0]; rfl)]
      exact ⟨t1, rfl, r1, E1⟩
    · obtain ⟨t2, e2, r2, E2⟩ := r1.dr (m := (wT q.1 (5 * x + y')).length) (by omega) (by omega)
      obtain ⟨M2, bq, h2⟩ := id r2
      have hdl : dV (dN (chD q).2.2) (wT q.1 (5 * x + y')).length < (wT q.1 (5 * x + y')).length := dV_lt (by omega)
      have hcut : F_X10_isCut t2 a (nI x) (nI y') = some (nI (b2 (wcut q.1 x y'))) := R_isCut bq.rt bq.rw (by omega) (by omega)
      rw [if_neg (show ¬ (wT (chD q).1 (5 * x + y')).length = 0 from h0), if_neg (fun y => h0 ((nI_z (by omega)).mp y)), e2, wbs, hcut, bind_some', ifb0]
      cases hwc : wcut q.1 x y' with
      | true =>
        rw [if_pos rfl, if_pos (show wcut (chD q).1 x y' = true from hwc)]
        exact ⟨t2, rfl, r2, E1.tr E2⟩
      | false =>
        obtain ⟨t3, M3, e3, b3, E3⟩ := R_comesNow bq.1 bq.2.1 bq.2.2.2 i hl hx y1 y2 hdl
        rw [if_neg z_f, if_neg (show ¬ wcut (chD q).1 x y' = true from by rw [show wcut (chD q).1 x y' = false from hwc]; decide), e3, wbs]
        exact ⟨t3, rfl, ⟨M3, b3, h2⟩, (E1.tr E2).tr E3⟩
  · rw [if_neg hk5, if_neg (by rw [show (6 : Int32) = nI 6 from rfl, nI_leI (by omega) (by omega)]; omega)]
    unfold chLe
    obtain ⟨t2, M2, e2, b2, E2⟩ := R_canWrite b1.1 b1.2.1 b1.2.2.2 i (x := x) (y := y') (by omega) (by omega)
    rw [e2, wbs, ifb0]
    cases hp : (decide ((wT q.1 (5 * x + y')).length < 12) && !wcut q.1 x y') with
    | false =>
      have hF : ¬ (decide ((wT (chD q).1 (5 * x + y')).length < 12) && !wcut (chD q).1 x y') = true := by
        rw [show (decide ((wT (chD q).1 (5 * x + y')).length < 12) && !wcut (chD q).1 x y') = false from hp]
        decide
      rw [if_neg hF, if_neg hF]
      exact ⟨t2, rfl, ⟨M2, b2, h1⟩, E1.tr E2⟩
    | true =>
      have h12 : (wT q.1 (5 * x + y')).length < 12 := by
        rw [Bool.and_eq_true] at hp
        exact of_decide_eq_true hp.1
      obtain ⟨t3, M3, e3, b3, E3⟩ := R_writes b2.1 b2.2.1 b2.2.2.2 i hl hx y1 y2 h12
      have hF : (decide ((wT (chD q).1 (5 * x + y')).length < 12) && !wcut (chD q).1 x y') = true := hp
      rw [if_pos hF, if_pos hF, e3, wbs]
      exact ⟨t3, rfl, ⟨M3, b3, h1⟩, (E1.tr E2).tr E3⟩
/-- one step by chance; the reference's loop -/
theorem ch_tr (q : Ch) (i : Iv q.1) : (chSt q).2.1.length ≤ q.2.1.length + 1 := by
  have hE : ∀ (c : Ch) (w : Wd) (k x v : Nat), (chE c w k x v).2.1.length = c.2.1.length + 1 := fun c w k x v => rfl
  unfold chSt chIn chOu chCo chLe
  repeat' split
  all_goals first | exact Nat.le_succ _ | exact Nat.le_refl _
theorem ch_trN (q : Ch) (i : Iv q.1) : ∀ k, (chIt q k).2.1.length ≤ q.2.1.length + k
  | 0 => Nat.le_refl _
  | k + 1 => Nat.le_trans (ch_tr _ (Iv_chIt i k)) (Nat.succ_le_succ (ch_trN q i k))
theorem R_chStep (h : RC s a q im) (i : Iv q.1) (hl : q.2.1.length < 2 ^ 31 - 1) (K : Sto → Option (Int32 × Sto)) : ∃ t, (wb (F_X10_draw s a (8 : Int32)) fun x10 s9 => (gR s9 a 10 1).bind fun p11 => (iald s9 p11 (0 : Int32)).bind fun x12 => wb (F_X10_draw s9 a x12) fun x14 s13 => if (2 : Int32) ≤ x10 then (if x10 = (2 : Int32) then (F_X10_takesByDraw s13 a x14).bind fun s16 => K s16 else (F_X10_letterByDraw s13 a x10 x14).bind fun s15 => K s15) else wb (F_X10_draw s13 a (100 : Int32)) fun x18 s17 => (gR s17 a 10 1).bind fun p19 => (iald s17 p19 (2 : Int32)).bind fun x20 => if (120 : Int32) ≤ x20 then K s17 else wb (F_X10_adds s17 a x14 x18) fun x22 s21 => K s21) = K t ∧ RC t a (chSt q) im ∧ Eo a s t := by
  have hn := i.n5
  have hn2 := i.n2
  obtain ⟨t1, e1, r1, E1⟩ := h.dr (m := 8) (by omega) (by omega)
  obtain ⟨M1, b1, h1⟩ := id r1
  obtain ⟨t2, e2, r2, E2⟩ := r1.dr (m := wC q.1 0) (by omega) (by omega)
  have ha : dV (dN q.2.2) 8 < 8 := dV_lt (by omega)
  have hx : dV (dN (dN q.2.2)) (wC q.1 0) < wC q.1 0 := dV_lt (by omega)
  have e1' : F_X10_draw s a (8 : Int32) = some (nI (dV (dN q.2.2) 8), t1) := e1
  have e2' : F_X10_draw t1 a (nI (wC q.1 0)) = some (nI (dV (dN (dN q.2.2)) (wC q.1 0)), t2) := e2
  have n1 : iald t1 (a + 1) 0 = some (nI (wC q.1 0)) := b1.n0
  rw [e1', wbs, b1.1.wd, bind_some', n1, bind_some', e2', wbs]
  unfold chSt
  generalize dV (dN q.2.2) 8 = k at ha
  by_cases k2 : k < 2
  · rw [if_pos k2, if_neg (by rw [show (2 : Int32) = nI 2 from rfl, nI_leI (by omega) (by omega)]; omega)]
    obtain ⟨t3, e3, r3, E3⟩ := R_chIn (q := chD (chD q)) r2 i hl hx K
    exact ⟨t3, e3, r3, (E1.tr E2).tr E3⟩
  rw [if_neg k2, if_pos (by rw [show (2 : Int32) = nI 2 from rfl, nI_leI (by omega) (by omega)]; omega)]
  by_cases k3 : k = 2
  · rw [if_pos k3, if_pos (by rw [k3]; rfl)]
    obtain ⟨t3, e3, r3, E3⟩ := R_chOu (q := chD (chD q)) r2 i hl hx
    exact ⟨t3, by rw [e3, bind_some'], r3, (E1.tr E2).tr E3⟩
  rw [if_neg k3, if_neg (by rw [show (2 : Int32) = nI 2 from rfl, nI_eq (by omega) (by omega)]; exact k3)]
  obtain ⟨t3, e3, r3, E3⟩ := R_chLC (q := chD (chD q)) r2 i hl hx ha
  exact ⟨t3, by rw [e3, bind_some'], r3, (E1.tr E2).tr E3⟩
theorem R_chance (h : RJ s a c A) (i : Iv A.1) (hl : A.2.2.1.length < 2 ^ 31 - 100) (x k : Int32) : Rj s a (cd1 eIA) (F_X10_chance s a x k) (aCha A x k) := by
  obtain ⟨s1, M, e1, h1, k1, t1, E1, o⟩ := h.go1
  unfold F_X10_chance aCha
  rw [chk_eq o, e1, bind_some']
  by_cases hx : x < 0
  · rw [if_pos hx, if_pos hx]; exact Rj.fl h1 k1 E1 cd1_1
  rw [if_neg hx, if_neg hx, isIn_60, bind_some', ifb0]
  cases hk : inR k 61 with
  | false => exact Rj.fl h1 k1 E1 cd1_1
  | true =>
    obtain ⟨k1', k2⟩ := inR_tN (by omega) hk
    generalize tN k = k' at k1' k2
    subst k1'
    have hx64 : x.toInt64 = Int64.ofNat (tN x) := (Int64.ofNat_int32ToNatClampNeg x (Int32.not_lt.mp hx)).symm
    have hxl : tN x < 2147483648 := by
      obtain ⟨j, j1, j2⟩ := nI_of hx
      have : tN x = j := by unfold tN; rw [j2]; exact nI_clamp j1
      omega
    obtain ⟨s2, e2, h2, E2⟩ := h1.b0 0
    obtain ⟨s3, e3, h3, E3⟩ := h2.setL (v := tN x)
    have e2' : sV s1 a 10 3 (.int 0) = some s2 := e2
    have e3' : sV s2 a 10 7 (.long (Int64.ofNat (tN x))) = some s3 := e3
    have b3 : RB s3 a (uL (uS M 3 0) (tN x)) (A.1, A.2.1, A.2.2.1, Int64.ofNat (tN x)) := ⟨h3, ⟨Nat.zero_le _, k1.2.1, k1.2.2.1, k1.2.2.2.1, rfl⟩, rfl, t1⟩
    have n3 : iald s3 (a + 1) 2 = some (nI (wC A.1 2)) := b3.n2
    rw [if_pos rfl, if_pos rfl, e2', bind_some', hx64, e3', bind_some', b3.1.wd, bind_some', n3, bind_some']
    generalize tN x = z at b3 hxl
    obtain ⟨t9, ⟨r9, E9⟩, e9⟩ := lpS (fun f j u => F_X10_chance_L48 a (nI k') f (nI j) u (fun s23 => (gR s23 a 10 1).bind fun p24 => (iald s23 p24 (2 : Int32)).bind fun x25 => some ((x25 - nI (wC A.1 2)), s23))) (fun u => some (nI (wC (chA A z k').1 2) - nI (wC A.1 2), u)) (fun j u => RC u a (chA A z j) A.2.1 ∧ Eo a s3 u) k' (by
      intro j f u hj ⟨r, E⟩
      have hlj : (chA A z j).2.1.length < 2 ^ 31 - 1 := by
        have := ch_trN (A.1, A.2.2.1, z) i j
        have h9 : (chA A z j).2.1.length ≤ A.2.2.1.length + j := this
        omega
      obtain ⟨u2, e2, r2, E2⟩ := R_chStep r (Iv_chIt i j) hlj (fun s16 => F_X10_chance_L48 a (nI k') f (nI j + 1) s16 (fun s23 => (gR s23 a 10 1).bind fun p24 => (iald s23 p24 (2 : Int32)).bind fun x25 => some ((x25 - nI (wC A.1 2)), s23)))
      refine ⟨u2, ⟨r2, E.tr E2⟩, ?_⟩
      show F_X10_chance_L48 _ _ _ _ _ _ = _
      rw [F_X10_chance_L48, if_neg (by rw [nI_leI (by omega) (by omega)]; omega)]
      refine e2.trans ?_
      rw [nI_add1]) (by
      intro f u ⟨⟨M', b', _⟩, E⟩
      have n9 : iald u (a + 1) 2 = some (nI (wC (chA A z k').1 2)) := b'.n2
      show F_X10_chance_L48 _ _ _ _ _ _ = _
      rw [F_X10_chance_L48, if_pos (Int32.le_refl _), b'.1.wd, bind_some', n9, bind_some']) fu s3 (by unfold fu; omega) ⟨⟨_, b3, hxl⟩, Eo.rf⟩
    obtain ⟨M9, b9, -⟩ := r9
    exact (congrArg (fun f => Rj s a _ f _) e9).mpr (Rj.ok b9 (((E1.tr E2).tr E3).tr E9))
end RFY
