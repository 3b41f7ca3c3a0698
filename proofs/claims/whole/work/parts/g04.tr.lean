/-! ===== PURE 44: by whom a site would best join; the trace ===== -/
/-- the best so far: by whom, lost, held -/
def bj (w : Wd) (x : Nat) : Nat → Option (Nat × Nat × Nat)
  | 0 => none
  | k + 1 => if k = x then bj w x k else match bj w x k with
    | none => some (k, rkn (joi w x k) x 1, rkn (joi w x k) x 0)
    | some q => if rkn (joi w x k) x 1 < q.2.1 ∨ (rkn (joi w x k) x 1 = q.2.1 ∧ q.2.2 < rkn (joi w x k) x 0) then some (k, rkn (joi w x k) x 1, rkn (joi w x k) x 0) else some q
def bjI (o : Option (Nat × Nat × Nat)) : Int32 × Int32 × Int32 := match o with
  | none => (-1, 0, 0)
  | some q => (nI q.1, nI q.2.1, nI q.2.2)
theorem rkn_le {w : Wd} {x k : Nat} (hk : k < 2) : rkn w x k ≤ wC w 2 := by
  unfold rkn
  split
  · exact fb_ct_le _ _
  · rw [if_pos (by omega)]; exact fb_ct_le _ _
theorem bj_b {w : Wd} {x : Nat} : ∀ {k : Nat} {q : Nat × Nat × Nat}, bj w x k = some q → q.1 < k ∧ q.2.1 ≤ wC w 2 ∧ q.2.2 ≤ wC w 2
  | 0, q, h => by cases h
  | k + 1, q, h => by
    have e1 : rkn (joi w x k) x 1 ≤ wC w 2 := rkn_le (by omega)
    have e0 : rkn (joi w x k) x 0 ≤ wC w 2 := rkn_le (by omega)
    unfold bj at h
    by_cases hkx : k = x
    · rw [if_pos hkx] at h
      have := bj_b h
      omega
    · rw [if_neg hkx] at h
      cases hb : bj w x k with
      | none =>
        rw [hb] at h
        cases h
        exact ⟨by omega, e1, e0⟩
      | some q0 =>
        rw [hb] at h
        have := bj_b hb
        dsimp only at h
        split at h
        · cases h; exact ⟨by omega, e1, e0⟩
        · cases h; omega
section BJO
variable {O : Nat → Prop} {σ t : Sto} {b P : Nat} {w : Wd} {sl : Nat → Nat → Option Nat} {ps : Nat → St}
theorem C_bestToJoin (h : CM O σ b w sl) (hp : PB σ P b) (hs : PS σ P ps) (hO : Aq O P) (i : Iv w) {x : Nat} (hx : x < 5) : ∃ t ps', F_X5_bestToJoin σ P (nI x) = some ((bjI (bj w x (wC w 0))).1, t) ∧ PB t P b ∧ PS t P ps' ∧ Fr (P + 2) 42 σ t := by
  have hn := i.n5
  have hc := i.c
  have hab := aq_b h.1 hO
  have hap := aq_ap hO
  obtain ⟨ls1, ls2⟩ := h.ls
  have hlt : ∀ c, c < 25 → ∀ l ∈ wT w c, ∀ e ∈ lEv l, e < wC w 2 := fun c hc2 l hl e he => by
    have := (i.2.2.2.2.2.1 (c / 5) (by omega) (c % 5) (by omega)).2.1 l (by rw [show 5 * (c / 5) + c % 5 = c by omega]; exact hl)
    exact (this.2.2.2 e he).1
  -- one by one
  have one : ∀ (t : Sto) (ps : Nat → St) (y : Nat), y < 5 → PB t P b → PS t P ps → Fr (P + 2) 42 σ t → ∃ t1 t2 t3 t4 ps', F_X5_joinOnPaper t P (nI x) (nI y) = some t1 ∧ gR t1 P 5 0 = some b ∧ gR t1 b 8 7 = some (b + 130) ∧ gR t1 P 5 1 = some (P + 1) ∧ aaldR t1 (P + 1) 4 (nI x) = some (P + 9 + 7 * x) ∧ aast t1 (b + 130) 4 (nI x) (P + 9 + 7 * x) = some t2 ∧ F_X5_lostTo t2 P (nI x) = some (nI (rkn (joi w x y) x 1), t3) ∧ gR t3 P 5 0 = some b ∧ gR t3 b 8 7 = some (b + 130) ∧ aast t3 (b + 130) 4 (nI x) (Ls b x) = some t4 ∧ gR t4 P 5 1 = some (P + 1) ∧ aaldR t4 (P + 1) 4 (nI x) = some (P + 9 + 7 * x) ∧ gR t4 (P + 9 + 7 * x) 6 1 = some (P + 9 + 7 * x + 2) ∧ F_X1_size t4 (P + 9 + 7 * x + 2) = some (nI (rkn (joi w x y) x 0)) ∧ PB t4 P b ∧ PS t4 P ps' ∧ Fr (P + 2) 42 σ t4 := by
    intro t ps y hy p0 s0 F0
    have h0 : CM O t b w sl := h.cg (fun j hj => F0.at (by have := hO j hj; omega))
    obtain ⟨t1, e1, p1, s1, f1⟩ := C_joinOnPaper h0 p0 s0 hO i hx hy
    have h1 : CM O t1 b w sl := h0.cg (fun j hj => f1.at (by have := hO j hj; omega))
    obtain ⟨t2, e2, h2, f2, r2⟩ := C_swap h1.1 hx (s1 x hx) (by omega) ls1 ls2
    rw [up_s] at h2
    have p2 : PB t2 P b := p1.cg (fun j a1 a2 => f2.at (by omega))
    have hO1 : Ap (fun j => O j ∨ (P + 9 + 7 * x ≤ j ∧ j < P + 9 + 7 * x + 7)) P := fun j hj2 => by
      rcases hj2 with hj2 | hj2
      · exact hap j hj2
      · omega
    have j2 : Jv (wL' w (up (wL w) x (jst x y (wC w 0) (wC w 6) (wK w x) (wC w 2) (ps x) (wL w y)))) := Jv_up i.j (jst_js (n' := 0) (k := 0) (came := 0) (u := ps x) i hx hy)
    obtain ⟨t3, e3, p3, F3⟩ := C_lostTo h2 p2 j2 hO1 hx hlt (fun e he => by
      rw [wL_up] at he; exact (i.L hy).2.1 e he)
    have hls : Ls b x = b + 134 + 14 * x := rfl
    have hLx : (gO t3 (Ls b x) 6).isSome = true := (((h1.1.SL hx).fr f2 (by omega)).fr F3 (by omega)).ok
    obtain ⟨t4, e4, F4⟩ := C_back h1.1 hx hap f2 r2 F3 hLx
    obtain ⟨v, e5, r5, f5⟩ := RA.wr ((F3.at (by omega)).trans r2) (j := x) (r := Ls b x) hx (by decide) hLx
    rw [e4] at e5
    cases e5
    have p4 : PB t4 P b := p3.cg (fun j a1 a2 => f5.at (by omega))
    have s4 : PS t4 P (up ps x (jst x y (wC w 0) (wC w 6) (wK w x) (wC w 2) (ps x) (wL w y))) := s1.fr7 F4
    have hsx := s4 x hx
    rw [up_s] at hsx
    have hsz := X_size hsx.hs
    have hsz2 : fb_ct (sHs (jst x y (wC w 0) (wC w 6) (wK w x) (wC w 2) (ps x) (wL w y))) 128 = rkn (joi w x y) x 0 := by
      have : fb_ct (sHs (jst x y (wC w 0) (wC w 6) (wK w x) (wC w 2) (ps x) (wL w y))) 128 = fb_ct (sHs (jst x y (wC w 0) (wC w 6) (wK w x) (wC w 2) (ps x) (wL w y))) (wC w 2) := fb_128 (c := wC w 2) (by omega) (i.L hy).2.1
      rw [this]
      show _ = fb_ct (sHs (up (wL w) x _ x)) (wC w 2)
      rw [up_s]
      rfl
    rw [hsz2] at hsz
    have e3' : F_X5_lostTo t2 P (nI x) = some (nI (rkn (joi w x y) x 1), t3) := by
      rw [e3, ← rkn_joi (ps x) 1]
      rfl
    have e2' : aast t1 (b + 130) 4 (nI x) (P + 9 + 7 * x) = some t2 := e2
    have w3 : gR t3 b 8 7 = some (b + 130) := gR_cel ((F3.at (by omega)).trans h2.1) rfl
    exact ⟨t1, t2, t3, t4, _, e1, p1.r0, h1.1.r7, p1.r1, p1.sa hx, e2', e3', p3.r0, w3, e4, p4.r1, p4.sa hx, hsx.g1, hsz, p4, s4, F0.tr ((f1.mo (by omega) (by omega)).tr (F4.mo (by omega) (by omega)))⟩
  unfold F_X5_bestToJoin
  rw [chk_eq hp.ok, hp.r0, bind_some', h.1.r7, bind_some', h.1.lv hx, bind_some']
  obtain ⟨t1, ⟨ps1, p1, s1, F1⟩, e1⟩ := lpS (fun fl j t => F_X5_bestToJoin_L21 P (nI x) (Ls b x) fl (bjI (bj w x j)).1 (bjI (bj w x j)).2.1 (bjI (bj w x j)).2.2 (nI j) t (fun x21 s22 => some (x21, s22))) (fun t => some ((bjI (bj w x (wC w 0))).1, t)) (fun j t => ∃ ps', PB t P b ∧ PS t P ps' ∧ Fr (P + 2) 42 σ t) (wC w 0) (by
    intro j fl t hj ⟨ps1, p1, s1, F1⟩
    have h1 : CM O t b w sl := h.cg (fun j hj => F1.at (by have := hO j hj; omega))
    by_cases hjx : j = x
    · refine ⟨t, ⟨ps1, p1, s1, F1⟩, ?_⟩
      rw [F_X5_bestToJoin_L21, p1.r0, bind_some', h1.1.i0, bind_some', if_neg (by rw [nI_leI (by omega) (by omega)]; omega), if_pos (by rw [hjx]), nI_1]
      rw [show bj w x (j + 1) = bj w x j from if_pos hjx]
    · obtain ⟨u1, u2, u3, u4, ps', a1, a2, a3, a4, a5, a6, a7, a8, a9, a10, a11, a12, a13, a14, a15, a16, a17⟩ := one t ps1 j (by omega) p1 s1 F1
      refine ⟨u4, ⟨ps', a15, a16, a17⟩, ?_⟩
      have b1 : rkn (joi w x j) x 1 ≤ wC w 2 := rkn_le (by omega)
      have b0 : rkn (joi w x j) x 0 ≤ wC w 2 := rkn_le (by omega)
      rw [F_X5_bestToJoin_L21, p1.r0, bind_some', h1.1.i0, bind_some', if_neg (by rw [nI_leI (by omega) (by omega)]; omega), if_neg (fun z => hjx ((nI_eq (by omega) (by omega)).mp z)), a1, bind_some', a2, bind_some', a3, bind_some', a4, bind_some', a5, bind_some', a6, bind_some', a7, wbs, a8, bind_some', a9, bind_some', a10, bind_some', a11, bind_some', a12, bind_some', a13, bind_some', a14, bind_some', nI_1]
      have hbj : bj w x (j + 1) = match bj w x j with
        | none => some (j, rkn (joi w x j) x 1, rkn (joi w x j) x 0)
        | some q => if rkn (joi w x j) x 1 < q.2.1 ∨ (rkn (joi w x j) x 1 = q.2.1 ∧ q.2.2 < rkn (joi w x j) x 0) then some (j, rkn (joi w x j) x 1, rkn (joi w x j) x 0) else some q := if_neg hjx
      rw [hbj]
      cases hq : bj w x j with
      | none =>
        show (if (-1 : Int32) = -1 then _ else _) = _
        rw [if_pos rfl]
        rfl
      | some q =>
        have hqb := bj_b hq
        show (if nI q.1 = (-1 : Int32) then _ else _) = _
        rw [if_neg (oI_n1 (by omega))]
        show (if nI (rkn (joi w x j) x 1) < nI q.2.1 then _ else _) = _
        dsimp only
        by_cases c1 : rkn (joi w x j) x 1 < q.2.1
        · rw [if_pos (nI_lt c1 (by omega)), if_pos (Or.inl c1)]; rfl
        · rw [if_neg (by rw [nI_ltI (by omega) (by omega)]; exact c1)]
          show (if nI (rkn (joi w x j) x 1) = nI q.2.1 then _ else _) = _
          by_cases c2 : rkn (joi w x j) x 1 = q.2.1
          · rw [if_pos (by rw [c2])]
            show (if nI (rkn (joi w x j) x 0) ≤ nI q.2.2 then _ else _) = _
            by_cases c3 : q.2.2 < rkn (joi w x j) x 0
            · rw [if_neg (by rw [nI_leI (by omega) (by omega)]; omega), if_pos (Or.inr ⟨c2, c3⟩)]; rfl
            · rw [if_pos (nI_le (by omega) (by omega)), if_neg (by omega)]
          · rw [if_neg (fun z => c2 ((nI_eq (by omega) (by omega)).mp z)), if_neg (by omega)]) (by
    intro fl t ⟨ps1, p1, s1, F1⟩
    have h1 : CM O t b w sl := h.cg (fun j hj => F1.at (by have := hO j hj; omega))
    rw [F_X5_bestToJoin_L21, p1.r0, bind_some', h1.1.i0, bind_some', if_pos (nI_le (Nat.le_refl _) (by omega))]) fu σ (by unfold fu; omega) ⟨ps, hp, hs, Fr.rf⟩
  refine ⟨t1, ps1, ?_, p1, s1, F1⟩
  rw [l_0] at *
  exact e1
end BJO
/-! the trace -/
abbrev Tr : Type := Nat × Nat × Nat × Nat
def trA (t : Tr) (k : Nat) : Nat := if k = 0 then t.1 else if k = 1 then t.2.1 else if k = 2 then t.2.2.1 else t.2.2.2
def tO7 (p n x : Nat) : List Value := [.int (nI n), .int (nI x), .ref (p + 1), .ref (p + 2), .ref (p + 3), .ref (p + 4)]
/-- the trace's block, 5 cells from p on; the list begins with the latest -/
def CT (σ : Sto) (p : Nat) (tr : List Tr) : Prop := ∃ A : Nat → Nat → Nat, cel σ p = some (.inl (7, tO7 p (min 32 tr.length) (tr.length % 32))) ∧ (∀ k, k < 4 → IA σ (p + 1 + k) 32 (A k)) ∧ ∀ j t, j < 32 → tr[j]? = some t → ∀ k, k < 4 → A k ((tr.length - 1 - j) % 32) = trA t k
section TRC
variable {σ t : Sto} {p : Nat} {tr : List Tr}
theorem CT.cg (h : CT σ p tr) (hc : ∀ i, p ≤ i → i < p + 5 → cel t i = cel σ i) : CT t p tr := by
  obtain ⟨A, h1, h2, h3⟩ := h
  exact ⟨A, (hc p (by omega) (by omega)).trans h1, fun k hk => (h2 k hk).cg (hc _ (by omega) (by omega)), h3⟩
theorem CT.ok (h : CT σ p tr) : (gO σ p 7).isSome = true := by
  obtain ⟨A, h1, -⟩ := h
  exact gOs_cel h1
theorem CT.g0 (h : CT σ p tr) : gI σ p 7 0 = some (nI (min 32 tr.length)) := by
  obtain ⟨A, h1, -⟩ := h
  exact gI_cel h1 rfl
theorem C_forget (h : CT σ p tr) : ∃ t, F_X7_forget σ p = some t ∧ CT t p [] ∧ Fr p 5 σ t := by
  obtain ⟨A, h1, h2, h3⟩ := id h
  have c1 := cel_stc_s (e := .inl (7, tO7 p 0 (tr.length % 32))) h1
  have c2 := cel_stc_s (e := .inl (7, tO7 p 0 0)) c1
  refine ⟨stc (stc σ p (.inl (7, tO7 p 0 (tr.length % 32)))) p (.inl (7, tO7 p 0 0)), ?_, ⟨A, c2, fun k hk => ((h2 k hk).cg (cel_stc_n h1 (by omega))).cg (cel_stc_n c1 (by omega)), fun j t _ ht => by simp at ht⟩, (Fr.st h1 (by omega) (by omega)).tr (Fr.st c1 (by omega) (by omega))⟩
  unfold F_X7_forget
  rw [chk_eq h.ok, l_0, sV_cel h1 (Nat.le_of_ble_eq_true rfl), bind_some', show (tO7 p (min 32 tr.length) (tr.length % 32)).set 0 (.int (nI 0)) = tO7 p 0 (tr.length % 32) from rfl, sV_cel c1 (Nat.le_of_ble_eq_true rfl)]
  rfl
theorem C_record (h : CT σ p tr) (a0 a1 a2 a3 : Nat) : ∃ t, F_X7_record σ p (nI a0) (nI a1) (nI a2) (nI a3) = some t ∧ CT t p ((a0, a1, a2, a3) :: tr) ∧ Fr p 5 σ t := by
  obtain ⟨A, h1, h2, h3⟩ := id h
  have hx : tr.length % 32 < 32 := Nat.mod_lt _ (by omega)
  obtain ⟨t1, e1, i1, f1⟩ := (h2 0 (by omega)).wr (j := tr.length % 32) (v := a0) hx (by decide)
  obtain ⟨t2, e2, i2, f2⟩ := ((h2 1 (by omega)).cg (f1.at (by omega))).wr (j := tr.length % 32) (v := a1) hx (by decide)
  obtain ⟨t3, e3, i3, f3⟩ := (((h2 2 (by omega)).cg (f1.at (by omega))).cg (f2.at (by omega))).wr (j := tr.length % 32) (v := a2) hx (by decide)
  obtain ⟨t4, e4, i4, f4⟩ := ((((h2 3 (by omega)).cg (f1.at (by omega))).cg (f2.at (by omega))).cg (f3.at (by omega))).wr (j := tr.length % 32) (v := a3) hx (by decide)
  have o1 : cel t1 p = _ := (f1.at (by omega)).trans h1
  have o2 : cel t2 p = _ := (f2.at (by omega)).trans o1
  have o3 : cel t3 p = _ := (f3.at (by omega)).trans o2
  have o4 : cel t4 p = _ := (f4.at (by omega)).trans o3
  have c5 := cel_stc_s (e := .inl (7, tO7 p (min 32 tr.length) ((tr.length + 1) % 32))) o4
  generalize hS5 : stc t4 p (.inl (7, tO7 p (min 32 tr.length) ((tr.length + 1) % 32))) = S5 at c5
  have c6 := cel_stc_s (e := .inl (7, tO7 p (min 32 (tr.length + 1)) ((tr.length + 1) % 32))) c5
  have n5 : ∀ i, i ≠ p → cel S5 i = cel t4 i := fun i hi => by rw [← hS5]; exact cel_stc_n o4 hi
  have F5 : Fr p 5 σ S5 := ((f1.mo (by omega) (by omega)).tr ((f2.mo (by omega) (by omega)).tr ((f3.mo (by omega) (by omega)).tr (f4.mo (by omega) (by omega))))).tr (by rw [← hS5]; exact Fr.st o4 (by omega) (by omega))
  refine ⟨stc S5 p (.inl (7, tO7 p (min 32 (tr.length + 1)) ((tr.length + 1) % 32))), ?_, ⟨fun k => upN (A k) (tr.length % 32) (trA (a0, a1, a2, a3) k), c6, fun k hk => ?_, fun j t hj ht k hk => ?_⟩, F5.tr (Fr.st c5 (by omega) (by omega))⟩
  · unfold F_X7_record
    rw [chk_eq h.ok, gR_cel h1 rfl, bind_some', gI_cel h1 rfl, bind_some', e1, bind_some', gR_cel o1 rfl, bind_some', gI_cel o1 rfl, bind_some', e2, bind_some', gR_cel o2 rfl, bind_some', gI_cel o2 rfl, bind_some', e3, bind_some', gR_cel o3 rfl, bind_some', gI_cel o3 rfl, bind_some', e4, bind_some', gI_cel o4 rfl, bind_some', jn_eq, l_32, l_1, nI_add, bind_some']
    have mid : ((sV t4 p 7 1 (.int (nI ((tr.length + 1) % 32)))).bind fun s16 => (gI s16 p 7 0).bind fun x17 => if nI 32 ≤ x17 then ((sV s16 p 7 0 (.int (nI 32))).bind fun s18 => some s18) else ((gI s16 p 7 0).bind fun x19 => (sV s16 p 7 0 (.int (x19 + nI 1))).bind fun s20 => some s20)) = some (stc S5 p (.inl (7, tO7 p (min 32 (tr.length + 1)) ((tr.length + 1) % 32)))) := by
      rw [sV_cel o4 (Nat.le_of_ble_eq_true rfl), bind_some', show (tO7 p (min 32 tr.length) (tr.length % 32)).set 1 (.int (nI ((tr.length + 1) % 32))) = tO7 p (min 32 tr.length) ((tr.length + 1) % 32) from rfl, hS5, gI_cel c5 rfl, bind_some', bind_some']
      by_cases h32 : 32 ≤ tr.length
      · rw [Nat.min_eq_left h32, if_pos (Int32.le_refl _), Nat.min_eq_left (by omega)]
        rw [Nat.min_eq_left h32] at c5
        rw [sV_cel c5 (Nat.le_of_ble_eq_true rfl)]
        rfl
      · rw [Nat.min_eq_right (by omega), if_neg (by rw [nI_leI (by omega) (by omega)]; omega), Nat.min_eq_right (by omega), nI_add]
        rw [Nat.min_eq_right (by omega)] at c5
        rw [sV_cel c5 (Nat.le_of_ble_eq_true rfl)]
        rfl
    by_cases hm : 32 ≤ tr.length % 32 + 1
    · rw [if_pos (nI_le hm (by omega))]
      have : (tr.length + 1) % 32 = 0 := by omega
      rw [this] at mid ⊢
      rw [l_0]
      exact mid
    · rw [if_neg (by rw [nI_leI (by omega) (by omega)]; exact hm), nI_add]
      have : (tr.length + 1) % 32 = tr.length % 32 + 1 := by omega
      rw [this] at mid ⊢
      exact mid
  · have k4 : k = 0 ∨ k = 1 ∨ k = 2 ∨ k = 3 := by omega
    rcases k4 with rfl | rfl | rfl | rfl
    · exact ((((i1.cg (f2.at (by omega))).cg (f3.at (by omega))).cg (f4.at (by omega))).cg (n5 _ (by omega))).cg (cel_stc_n c5 (by omega))
    · exact (((i2.cg (f3.at (by omega))).cg (f4.at (by omega))).cg (n5 _ (by omega))).cg (cel_stc_n c5 (by omega))
    · exact ((i3.cg (f4.at (by omega))).cg (n5 _ (by omega))).cg (cel_stc_n c5 (by omega))
    · exact (i4.cg (n5 _ (by omega))).cg (cel_stc_n c5 (by omega))
  · rw [List.length_cons]
    cases j with
    | zero =>
      rw [List.getElem?_cons_zero] at ht
      cases ht
      rw [show tr.length + 1 - 1 - 0 = tr.length by omega]
      exact upN_s
    | succ j =>
      rw [List.getElem?_cons_succ] at ht
      have hl := (List.getElem?_eq_some_iff.mp ht).1
      rw [show tr.length + 1 - 1 - (j + 1) = tr.length - 1 - j by omega]
      exact (upN_n (show (tr.length - 1 - j) % 32 ≠ tr.length % 32 by omega)).trans (h3 j t (by omega) ht k hk)
theorem C_told (h : CT σ p tr) {j k : Nat} {t : Tr} (hj : j < 32) (ht : tr[j]? = some t) (hk : k < 4) : F_X7_told σ p (nI j) (nI k) = some (nI (trA t k)) := by
  obtain ⟨A, h1, h2, h3⟩ := id h
  have hl := (List.getElem?_eq_some_iff.mp ht).1
  have hv := h3 j t hj ht k hk
  have hxm : (tr.length - 1 - j) % 32 < 32 := Nat.mod_lt _ (by omega)
  have rdk : ∀ k, k < 4 → iald σ (p + 1 + k) (nI ((tr.length - 1 - j) % 32)) = some (nI (A k ((tr.length - 1 - j) % 32))) := fun k hk => (h2 k hk).rd hxm (by decide)
  have sel : (if nI k = (0 : Int32) then ((gR σ p 7 2).bind fun p4 => (iald σ p4 (nI ((tr.length - 1 - j) % 32))).bind fun x5 => some x5) else if nI k = (1 : Int32) then ((gR σ p 7 3).bind fun p6 => (iald σ p6 (nI ((tr.length - 1 - j) % 32))).bind fun x7 => some x7) else if nI k = (2 : Int32) then ((gR σ p 7 4).bind fun p8 => (iald σ p8 (nI ((tr.length - 1 - j) % 32))).bind fun x9 => some x9) else ((gR σ p 7 5).bind fun p10 => (iald σ p10 (nI ((tr.length - 1 - j) % 32))).bind fun x11 => some x11)) = some (nI (trA t k)) := by
    have k4 : k = 0 ∨ k = 1 ∨ k = 2 ∨ k = 3 := by omega
    rcases k4 with rfl | rfl | rfl | rfl
    · rw [if_pos nI_0, gR_cel h1 rfl, bind_some', show p + 1 = p + 1 + 0 from rfl, rdk 0 (by omega), hv]; rfl
    · rw [if_neg (by decide), if_pos (by decide), gR_cel h1 rfl, bind_some', show p + 2 = p + 1 + 1 from rfl, rdk 1 (by omega), hv]; rfl
    · rw [if_neg (by decide), if_neg (by decide), if_pos (by decide), gR_cel h1 rfl, bind_some', show p + 3 = p + 1 + 2 from rfl, rdk 2 (by omega), hv]; rfl
    · rw [if_neg (by decide), if_neg (by decide), if_neg (by decide), gR_cel h1 rfl, bind_some', show p + 4 = p + 1 + 3 from rfl, rdk 3 (by omega), hv]; rfl
  unfold F_X7_told
  rw [chk_eq h.ok, gI_cel h1 rfl, bind_some', jn_eq]
  have hm := Nat.mod_lt tr.length (show 0 < 32 by omega)
  have t1 : (nI (tr.length % 32) - (1 : Int32) - nI j).toInt = (tr.length % 32 : Nat) - 1 - (j : Int) := by
    rw [l_1]
    rw [Int32.toInt_sub, Int32.toInt_sub, nI_toInt (by omega), nI_toInt (by omega), nI_toInt (by omega)]
    simp only [Int.bmod]
    omega
  by_cases hge : 1 + j ≤ tr.length % 32
  · have e1 : nI (tr.length % 32) - (1 : Int32) - nI j = nI ((tr.length - 1 - j) % 32) := by
      rw [l_1, pk_sub (by omega), pk_sub (by omega)]
      congr 1
      omega
    rw [e1, if_pos (nI_pos' (by omega))]
    exact sel
  · have hneg : ¬ (0 ≤ nI (tr.length % 32) - (1 : Int32) - nI j) := by
      rw [Int32.le_iff_toInt_le, t1]
      show ¬ ((0 : Int32).toInt ≤ _)
      rw [show (0 : Int32).toInt = 0 from rfl]
      omega
    rw [if_neg hneg]
    have e2 : nI (tr.length % 32) - (1 : Int32) - nI j + (32 : Int32) = nI ((tr.length - 1 - j) % 32) := by
      apply Int32.toInt_inj.mp
      rw [Int32.toInt_add, t1, nI_toInt (by omega)]
      simp only [show (32 : Int32).toInt = 32 from rfl, Int.bmod]
      omega
    rw [e2]
    exact sel
end TRC
