/-! ===== PURE 69: the class's publics: chance ===== -/
/-- world, trace, what was drawn last -/
abbrev Ch : Type := Wd × List Tr × Nat
def chD (c : Ch) : Ch := (c.1, c.2.1, dN c.2.2)
def chE (c : Ch) (w : Wd) (k x v : Nat) : Ch := (w, (wC w 6, k, x, v) :: c.2.1, c.2.2)
def chIn (c : Ch) (x : Nat) : Ch := if wC c.1 2 < 120 then chE (chD c) (hap (stp c.1) x (wC c.1 2) (dV (dN c.2.2) 100)) 0 x (wC c.1 2) else chD c
def chOu (c : Ch) (x : Nat) : Ch := if fb_ct (sVw (wL c.1 x)) 128 = 0 then c else match kth (sVw (wL c.1 x)) 120 (dV (dN c.2.2) (fb_ct (sVw (wL c.1 x)) 128)) with
  | none => chD c
  | some m => if wC c.1 2 < 120 then chE (chD c) (hap (stp c.1) x m (eN (wE c.1) m)) 1 x (wC c.1 2) else chD c
def chLe (c : Ch) (x y : Nat) : Ch := if (decide ((wT c.1 (5 * x + y)).length < 12) && !wcut c.1 x y) = true then chE c (wri (stp c.1) x y) 2 x (lEv (ltr (wE c.1) (wC c.1 1) (wL c.1 x) y)).length else c
def chCo (c : Ch) (x y : Nat) : Ch := if (wT c.1 (5 * x + y)).length = 0 then c else if wcut c.1 x y = true then chD c else chE (chD c) (com (stp c.1) x y (dV (dN c.2.2) (wT c.1 (5 * x + y)).length)) 3 x (frN c.1 x y (dV (dN c.2.2) (wT c.1 (5 * x + y)).length))
def chY (n x y : Nat) : Nat := if y = x then (if x + 1 < n then x + 1 else 0) else y
def chSt (c : Ch) : Ch :=
  if dV (dN c.2.2) 8 < 2 then chIn (chD (chD c)) (dV (dN (dN c.2.2)) (wC c.1 0))
  else if dV (dN c.2.2) 8 = 2 then chOu (chD (chD c)) (dV (dN (dN c.2.2)) (wC c.1 0))
  else if 5 < dV (dN c.2.2) 8 then chCo (chD (chD (chD c))) (dV (dN (dN c.2.2)) (wC c.1 0)) (chY (wC c.1 0) (dV (dN (dN c.2.2)) (wC c.1 0)) (dV (dN (dN (dN c.2.2))) (wC c.1 0)))
  else chLe (chD (chD (chD c))) (dV (dN (dN c.2.2)) (wC c.1 0)) (chY (wC c.1 0) (dV (dN (dN c.2.2)) (wC c.1 0)) (dV (dN (dN (dN c.2.2))) (wC c.1 0)))
def chIt (c : Ch) : Nat → Ch
  | 0 => c
  | k + 1 => chSt (chIt c k)
theorem dV_lt {s m : Nat} (h : 0 < m) : dV s m < m := by rw [dV_eq]; exact Nat.mod_lt _ h
theorem chY_lt {n x y : Nat} (hx : x < n) (hy : y < n) (hn : 2 ≤ n) : chY n x y < n ∧ x ≠ chY n x y := by
  unfold chY
  split
  · split
    · omega
    · omega
  · omega
theorem frN_len {w : Wd} (i : Iv w) {f o k : Nat} (hf : f < wC w 0) (ho : o < wC w 0) (hk : k < (wT w (5 * f + o)).length) : (sLg (wL w o)).length + frN w f o k ≤ 120 := by
  have hn := i.n5
  have hl := i.lt (show f < 5 by omega) (show o < 5 by omega) (wlt_get hk)
  have h := frs_len (i.L (show o < 5 by omega)) hl
  have hc := i.c
  unfold frN
  omega
section CHC
variable {σ t : Sto} {g : Nat} {im : Nat → Option Wd} {c : Ch} {z : Nat} {Q : Nat → Prop} {x y : Nat}
def GC (σ : Sto) (g : Nat) (c : Ch) (im : Nat → Option Wd) (z : Nat) (Q : Nat → Prop) : Prop := GT σ g c.1 im c.2.1 (Int64.ofNat c.2.2) z Q
/-- a call that goes on to c -/
def Gn (σ : Sto) (g z : Nat) (Q : Nat → Prop) (im : Nat → Option Wd) (F : Option Sto) (c : Ch) : Prop := ∃ t z' Q', F = some t ∧ GC t g c im z' Q' ∧ Gz Q σ z Q' t z' 0 0
theorem Gn.tr {s : Sto} {z1 : Nat} {Q1 : Nat → Prop} {F : Option Sto} (h : Gn s g z1 Q1 im F c) (G : Gz Q σ z Q1 s z1 0 0) : Gn σ g z Q im F c := by
  obtain ⟨t, z', Q', e, h2, G2⟩ := h
  exact ⟨t, z', Q', e, h2, G.tr G2⟩
theorem Gn.dn {X : Option (Int32 × Sto)} {v k : Nat} {w2 : Wd} (h : ∃ t z' Q', X = some (nI v, t) ∧ GT t g w2 im c.2.1 (Int64.ofNat c.2.2) z' Q' ∧ Gz Q σ z Q' t z' 0 0) : Gn σ g z Q im (wb X fun x3 s2 => wb (F_X9_traced s2 g (nI k) (nI x) x3) fun x5 s4 => some s4) (chE c w2 k x v) := by
  obtain ⟨t1, z1, Q1, e1, h1, G1⟩ := h
  obtain ⟨t2, e2, h2, G2⟩ := C_traced h1 k x v
  refine ⟨t2, z1, Q1, ?_, h2, G1.tr G2⟩
  rw [e1, wbs, e2, wbs]
theorem C_inBy (h : GC σ g c im z Q) (i : Iv c.1) (hx : x < wC c.1 0) : Gn σ g z Q im (F_X9_inByChance σ g (nI x)) (chIn c x) := by
  obtain ⟨t1, e1, h1, G1⟩ := C_draw h (m := 100) (by omega) (by omega)
  obtain ⟨O, sl, cm, o1, o2⟩ := GT.cm h1
  unfold F_X9_inByChance chIn
  rw [chk_eq h.ok, show (100 : Int32) = nI 100 from rfl, e1, wbs, h1.r0, bind_some', h1.r6, bind_some', C_isFull cm.1.ev i.j.bv, bind_some', ifb0, bind_some']
  by_cases hc : wC c.1 2 < 120
  · rw [if_pos hc, decide_eq_false (show ¬ 120 ≤ wC c.1 2 by omega), if_neg (by decide)]
    refine Gn.tr (Gn.dn (c := chD c) (k := 0) ?_) G1
    exact GA.act (A := (c.1, im, c.2.1, Int64.ofNat (dN c.2.2))) h1 (fun O sl c' => by
      obtain ⟨t, e, c2, F⟩ := C_bringIn c' (Iv_stp i) hx (nm := dV (dN c.2.2) 100) hc
      exact ⟨t, sl, e, c2, F, rfl⟩)
  · rw [if_neg hc, decide_eq_true (show 120 ≤ wC c.1 2 by omega), if_pos rfl]
    exact ⟨t1, z, Q, rfl, h1, G1⟩
theorem C_outBy (h : GC σ g c im z Q) (i : Iv c.1) (hx : x < wC c.1 0) : Gn σ g z Q im (F_X9_outByChance σ g (nI x)) (chOu c x) := by
  have hn := i.n5
  have hx5 : x < 5 := by omega
  obtain ⟨O, sl, cm, o1, o2⟩ := GT.cm h
  have hS := cm.1.SL hx5
  unfold F_X9_outByChance chOu
  rw [chk_eq h.ok, h.r0, bind_some', cm.1.r7, bind_some', cm.1.lv hx5, bind_some', hS.g0, bind_some', X_size hS.vw, bind_some', bind_some', cm.1.r7, bind_some', cm.1.lv hx5, bind_some', hS.g0, bind_some']
  have hk8 := fb_ct_le (sVw (wL c.1 x)) 128
  generalize hK : fb_ct (sVw (wL c.1 x)) 128 = K at hk8
  by_cases hk : K = 0
  · rw [if_pos hk, if_pos (by rw [hk]; rfl)]
    exact ⟨σ, z, Q, rfl, h, Gz.rf⟩
  · have hk' : ¬ nI K = 0 := by
      rw [l_0, nI_eq (by omega) (by omega)]
      exact hk
    obtain ⟨t1, e1, h1, G1⟩ := C_draw h (m := K) (by omega) (by omega)
    have hdl : dV (dN c.2.2) K < K := dV_lt (by omega)
    obtain ⟨O, sl, cm, o1, o2⟩ := GT.cm h1
    have hS := cm.1.SL hx5
    rw [if_neg hk, if_neg hk', e1, wbs, X_nth hS.vw, bind_some', kthI_nI (by omega)]
    cases hm : kth (sVw (wL c.1 x)) 120 (dV (dN c.2.2) K) with
    | none =>
      rw [show oI none = -1 from rfl, if_pos rfl]
      exact ⟨t1, z, Q, rfl, h1, G1⟩
    | some m =>
      obtain ⟨m1, m2, -⟩ := kth_some.mp hm
      have hm3 : m < wC c.1 2 := (i.L hx5).2.2.1 m m2
      rw [show oI (some m) = nI m from rfl, if_neg (oI_n1 (by omega)), h1.r0, bind_some', h1.r6, bind_some', C_isFull cm.1.ev i.j.bv, bind_some', ifb0, bind_some']
      dsimp only
      by_cases hc : wC c.1 2 < 120
      · rw [if_pos hc, decide_eq_false (show ¬ 120 ≤ wC c.1 2 by omega), if_neg (by decide)]
        refine Gn.tr (Gn.dn (c := chD c) (k := 1) ?_) G1
        exact GA.act (A := (c.1, im, c.2.1, Int64.ofNat (dN c.2.2))) h1 (fun O sl c' => by
          obtain ⟨t, e, c2, F⟩ := C_takeOut c' (Iv_stp i) hx hc hm3
          exact ⟨t, sl, e, c2, F, rfl⟩)
      · rw [if_neg hc, decide_eq_true (show 120 ≤ wC c.1 2 by omega), if_pos rfl]
        exact ⟨t1, z, Q, rfl, h1, G1⟩
theorem C_letBy (h : GC σ g c im z Q) (i : Iv c.1) (hx : x < wC c.1 0) (hy : y < wC c.1 0) : Gn σ g z Q im (F_X9_letterByChance σ g (nI x) (nI y)) (chLe c x y) := by
  have hn := i.n5
  obtain ⟨O, sl, cm, o1, o2⟩ := GT.cm h
  unfold F_X9_letterByChance chLe
  rw [chk_eq h.ok, h.r0, bind_some', C_canPost cm.1 (by omega) (by omega), bind_some', ifb0, bind_some']
  cases hp : (decide ((wT c.1 (5 * x + y)).length < 12) && !wcut c.1 x y) with
  | false => exact ⟨σ, z, Q, rfl, h, Gz.rf⟩
  | true =>
    rw [if_pos rfl, if_pos rfl]
    have h12 : (wT c.1 (5 * x + y)).length < 12 := by
      rw [Bool.and_eq_true] at hp
      exact of_decide_eq_true hp.1
    refine Gn.dn (c := c) (k := 2) ?_
    exact GA.actG (A := (c.1, im, c.2.1, Int64.ofNat c.2.2)) h (fun O sl c' oo => C_post c' oo i hx hy h12)
theorem C_comBy (h : GC σ g c im z Q) (i : Iv c.1) (hx : x < wC c.1 0) (hy : y < wC c.1 0) : Gn σ g z Q im (F_X9_comingByChance σ g (nI x) (nI y)) (chCo c x y) := by
  have hn := i.n5
  obtain ⟨O, sl, cm, o1, o2⟩ := GT.cm h
  have hl := i.tl (show x < 5 by omega) (show y < 5 by omega)
  unfold F_X9_comingByChance chCo
  rw [chk_eq h.ok, h.r0, bind_some', C_row cm.1 (by omega) (by omega), bind_some', C_rowN cm.1 (by omega), bind_some']
  by_cases hk : (wT c.1 (5 * x + y)).length = 0
  · rw [if_pos hk, if_pos (by rw [hk]; rfl)]
    exact ⟨σ, z, Q, rfl, h, Gz.rf⟩
  · have hk' : ¬ nI (wT c.1 (5 * x + y)).length = 0 := by
      rw [l_0, nI_eq (by omega) (by omega)]
      exact hk
    obtain ⟨t1, e1, h1, G1⟩ := C_draw h (m := (wT c.1 (5 * x + y)).length) (by omega) (by omega)
    have hdl : dV (dN c.2.2) (wT c.1 (5 * x + y)).length < (wT c.1 (5 * x + y)).length := dV_lt (by omega)
    obtain ⟨O, sl, cm, o1, o2⟩ := GT.cm h1
    rw [if_neg hk, if_neg hk', e1, wbs, h1.r0, bind_some', C_isCut cm.1 (by omega) (by omega), bind_some', ifb0, bind_some']
    cases hw : wcut c.1 x y with
    | true =>
      rw [if_pos rfl, if_pos rfl]
      exact ⟨t1, z, Q, rfl, h1, G1⟩
    | false =>
      rw [if_neg (by decide), if_neg (by decide)]
      refine Gn.tr (Gn.dn (c := chD c) (k := 3) ?_) G1
      exact GA.act (A := (c.1, im, c.2.1, Int64.ofNat (dN c.2.2))) h1 (fun O sl c' => by
        obtain ⟨t, sl', e, c2, F, n⟩ := C_deliver c' i hx hy hdl (frN_len i hx hy hdl)
        exact ⟨t, sl', e, c2, F, n⟩)
theorem C_doBy (h : GC σ g c im z Q) (i : Iv c.1) : Gn σ g z Q im (F_X9_doByChance σ g) (chSt c) := by
  have hn := i.n5
  have hn2 := i.n2
  obtain ⟨t1, e1, h1, G1⟩ := C_draw h (m := 8) (by omega) (by omega)
  obtain ⟨t2, e2, h2, G2⟩ := C_draw h1 (m := wC c.1 0) (by omega) (by omega)
  obtain ⟨t3, e3, h3, G3⟩ := C_draw h2 (m := wC c.1 0) (by omega) (by omega)
  have ha : dV (dN c.2.2) 8 < 8 := dV_lt (by omega)
  have hx : dV (dN (dN c.2.2)) (wC c.1 0) < wC c.1 0 := dV_lt (by omega)
  have hy : dV (dN (dN (dN c.2.2))) (wC c.1 0) < wC c.1 0 := dV_lt (by omega)
  have b2 : GC t2 g (chD (chD c)) im z Q := h2
  have b3 : GC t3 g (chD (chD (chD c))) im z Q := h3
  unfold F_X9_doByChance chSt
  rw [chk_eq h.ok, show (8 : Int32) = nI 8 from rfl, e1, wbs, h1.r0, bind_some', h1.i0, bind_some', e2, wbs]
  generalize hA : dV (dN c.2.2) 8 = a at ha
  generalize dV (dN (dN c.2.2)) (wC c.1 0) = x at hx e3
  generalize dV (dN (dN (dN c.2.2))) (wC c.1 0) = y at hy e3
  by_cases a2 : a < 2
  · rw [if_pos a2, if_neg (by rw [l_1, nI_ltI (by omega) (by omega)]; omega)]
    obtain ⟨t, z', Q', e, h4, G4⟩ := C_inBy b2 i hx
    exact ⟨t, z', Q', by rw [e, bind_some'], h4, (G1.tr G2).tr G4⟩
  rw [if_neg a2, if_pos (by rw [l_1, nI_ltI (by omega) (by omega)]; omega)]
  by_cases a3 : a = 2
  · rw [if_pos a3, if_pos (by rw [a3]; rfl)]
    obtain ⟨t, z', Q', e, h4, G4⟩ := C_outBy b2 i hx
    exact ⟨t, z', Q', by rw [e, bind_some'], h4, (G1.tr G2).tr G4⟩
  rw [if_neg a3, if_neg (by rw [show (2 : Int32) = nI 2 from rfl, nI_eq (by omega) (by omega)]; exact a3), h2.r0, bind_some', h2.i0, bind_some', e3, wbs, jn_eq, h3.r0, bind_some']
  obtain ⟨O, sl, cm, o1, o2⟩ := GT.cm h3
  rw [C_nextSite cm.1 hn (by omega), bind_some']
  obtain ⟨y1, y2⟩ := chY_lt hx hy hn2
  have key : ∀ (K : Int32 → Option Sto), (if nI y = nI x then K (nI (if x + 1 < wC c.1 0 then x + 1 else 0)) else K (nI y)) = K (nI (chY (wC c.1 0) x y)) := fun K => by
    unfold chY
    by_cases hxy : y = x
    · rw [if_pos hxy, if_pos (by rw [hxy])]
    · rw [if_neg hxy, if_neg (by rw [nI_eq (by omega) (by omega)]; exact hxy)]
  rw [key (fun x12 => if (5 : Int32) < nI a then (F_X9_comingByChance t3 g (nI x) x12).bind fun s13 => some s13 else (F_X9_letterByChance t3 g (nI x) x12).bind fun s14 => some s14)]
  by_cases a5 : 5 < a
  · rw [if_pos a5, if_pos (by rw [show (5 : Int32) = nI 5 from rfl, nI_ltI (by omega) (by omega)]; omega)]
    obtain ⟨t, z', Q', e, h4, G4⟩ := C_comBy b3 i hx y1
    exact ⟨t, z', Q', by rw [e, bind_some'], h4, ((G1.tr G2).tr G3).tr G4⟩
  · rw [if_neg a5, if_neg (by rw [show (5 : Int32) = nI 5 from rfl, nI_ltI (by omega) (by omega)]; omega)]
    obtain ⟨t, z', Q', e, h4, G4⟩ := C_letBy b3 i hx y1
    exact ⟨t, z', Q', by rw [e, bind_some'], h4, ((G1.tr G2).tr G3).tr G4⟩
end CHC
theorem Iv_chSt {c : Ch} (i : Iv c.1) : Iv (chSt c).1 := by
  have hn := i.n5
  have hn2 := i.n2
  have hx : dV (dN (dN c.2.2)) (wC c.1 0) < wC c.1 0 := dV_lt (by omega)
  have hy : dV (dN (dN (dN c.2.2))) (wC c.1 0) < wC c.1 0 := dV_lt (by omega)
  obtain ⟨y1, y2⟩ := chY_lt hx hy hn2
  have j := Iv_stp i
  unfold chSt
  generalize dV (dN (dN c.2.2)) (wC c.1 0) = x at hx y1 y2
  generalize chY (wC c.1 0) x (dV (dN (dN (dN c.2.2))) (wC c.1 0)) = y at y1 y2
  split
  · unfold chIn
    split
    · rename_i h2
      exact Iv_hap j h2 hx (Nat.le_refl _) (dV_lt (by omega))
    · exact i
  split
  · unfold chOu
    split
    · exact i
    · split
      · exact i
      · rename_i m hm
        obtain ⟨m1, m2, -⟩ := kth_some.mp hm
        have hm3 : m < wC c.1 2 := (i.L (show x < 5 by omega)).2.2.1 m m2
        split
        · rename_i h2
          exact Iv_hap j h2 hx (Nat.le_of_lt hm3) (i.eNl m hm3)
        · exact i
  split
  · unfold chCo
    split
    · exact i
    · rename_i h0
      split
      · exact i
      · exact Iv_com j hx y1 y2 (dV_lt (Nat.pos_of_ne_zero h0))
  · unfold chLe
    split
    · rename_i hp
      rw [Bool.and_eq_true] at hp
      exact Iv_wri j hx y1 y2 (of_decide_eq_true hp.1)
    · exact i
theorem Iv_chIt {c : Ch} (i : Iv c.1) : ∀ k, Iv (chIt c k).1
  | 0 => i
  | k + 1 => Iv_chSt (Iv_chIt i k)
section CHD
variable {σ t : Sto} {g : Nat} {A : Ga} {z : Nat} {Q : Nat → Prop}
def chA (A : Ga) (s k : Nat) : Ch := chIt (A.1, A.2.2.1, s) k
def aCha (A : Ga) (x k : Int32) : Ra := if x < 0 then (.inr eIA, A) else if inR k 61 = true then (.inl (nI (wC (chA A (tN x) (tN k)).1 2) - nI (wC A.1 2)), ((chA A (tN x) (tN k)).1, A.2.1, (chA A (tN x) (tN k)).2.1, Int64.ofNat (chA A (tN x) (tN k)).2.2)) else (.inr eIA, A)
theorem C_chance (h : GA σ g A z Q) (i : Iv A.1) (x k : Int32) : Ans σ g z Q (F_X9_chance σ g x k) (aCha A x k) := by
  unfold F_X9_chance aCha
  rw [chk_eq h.ok]
  by_cases hx : x < 0
  · rw [if_pos hx, if_pos hx]; exact Ans.thw h eIA
  rw [if_neg hx, if_neg hx]
  have key : ∀ (B C : Option ((Int32 ⊕ String) × Sto)), (if k < 0 then B else if k ≤ (60 : Int32) then C else B) = if inR k 61 = true then C else B := by
    intro B C
    rw [← inR_if]
    have hle : k ≤ (60 : Int32) ↔ k < nI 61 := by
      rw [ltn_i' k (by omega), Int32.le_iff_toInt_le, show (60 : Int32).toInt = 60 from rfl]
      omega
    by_cases h0 : k < 0
    · rw [if_pos h0, if_pos h0]
    · rw [if_neg h0, if_neg h0]
      by_cases h1 : k < nI 61
      · rw [if_pos h1, if_pos (hle.mpr h1)]
      · rw [if_neg h1, if_neg (fun y => h1 (hle.mp y))]
  rw [key]
  cases hk : inR k 61 with
  | false => exact Ans.thw h eIA
  | true =>
    obtain ⟨k1, k2⟩ := inR_tN (by omega) hk
    generalize tN k = k' at k1 k2
    subst k1
    have hx64 : x.toInt64 = Int64.ofNat (tN x) := (Int64.ofNat_int32ToNatClampNeg x (Int32.not_lt.mp hx)).symm
    obtain ⟨t1, e1, h1, G1⟩ := GT.drw h (Int64.ofNat (tN x))
    obtain ⟨O, sl, cm, o1, o2⟩ := GT.cm h1
    rw [if_pos rfl, if_pos rfl, hx64, e1, bind_some', h1.r0, bind_some', h1.r6, bind_some', cm.1.ev.g0, bind_some']
    generalize tN x = s at h1
    obtain ⟨⟨t9, z9, Q9⟩, ⟨h9, G9⟩, e9⟩ := lpS (S := Sto × Nat × (Nat → Prop)) (fun f j q => F_X9_chance_L44 g (nI k') f (nI j) q.1 (fun s6 => (gR s6 g 9 0).bind fun p7 => (gR s6 p7 8 6).bind fun p8 => (gI s6 p8 2 0).bind fun x9 => some ((.inl (x9 - nI (wC A.1 2)) : Int32 ⊕ String), s6))) (fun q => some ((.inl (nI (wC (chA A s k').1 2) - nI (wC A.1 2)) : Int32 ⊕ String), q.1)) (fun j q => GC q.1 g (chA A s j) A.2.1 q.2.1 q.2.2 ∧ Gz Q t1 z q.2.2 q.1 q.2.1 0 0) k' (by
      intro j f q hj hq
      obtain ⟨t2, z2, Q2, e2, h2, G2⟩ := C_doBy hq.1 (Iv_chIt i j)
      refine ⟨(t2, z2, Q2), ⟨h2, hq.2.tr G2⟩, ?_⟩
      show F_X9_chance_L44 _ _ _ _ _ _ = _
      rw [F_X9_chance_L44, if_neg (by rw [nI_leI (by omega) (by omega)]; omega), e2, bind_some', nI_add1]) (by
      intro f q hq
      have hb : GT q.1 g _ _ _ _ _ _ := hq.1
      obtain ⟨O, sl, cm, o1, o2⟩ := GT.cm hb
      show F_X9_chance_L44 _ _ _ _ _ _ = _
      rw [F_X9_chance_L44, if_pos (Int32.le_refl _), hb.r0, bind_some', hb.r6, bind_some', cm.1.ev.g0, bind_some']) fu (t1, z, Q) (by unfold fu; omega) ⟨h1, Gz.rf⟩
    exact ⟨t9, z9, Q9, e9, h9, (G1.tr G9).mo (by omega) (by omega)⟩
end CHD
