/-! ===== PURE 88: the reference's rows and ranks ===== -/
section RGC
variable {s s1 t σ : Sto} {a c : Nat} {M : Ms} {A : Ga} {w : Wd} {W W' : Nat → Nat} {u : Sto} {P : Nat → Option Nat} {R : Nat → Nat} {e H : Nat}
/-- the arrays hold heights, rows, ranks -/
def HP (a : Nat) (σ : Sto) (M : Ms) (W : Nat → Nat) (w : Wd) (P : Nat → Option Nat) (R : Nat → Nat) (u : Sto) : Prop := ∃ M', Mz M M' ∧ RT a σ M' W u ∧ (∀ x, x < wC w 2 → M'.2.2 5 x = hgt (eA (wE w)) x) ∧ (∀ x, x < wC w 2 → M'.2.2 6 x = pe (P x)) ∧ ∀ x, x < wC w 2 → M'.2.2 7 x = R x
theorem HP.h5 (h : HP a σ M W w P R u) (i : Jv w) (he : e < wC w 2) : gR u a 10 9 = some (a + 1 + 5) ∧ iald u (a + 1 + 5) (nI e) = some (nI (hgt (eA (wE w)) e)) := by
  obtain ⟨M', z1, t1, c5, c6, c7⟩ := h
  exact ⟨t1.g9, by rw [t1.ar (k := 5) (by omega) (by omega) rfl (show e < 120 by have := i.c; omega), c5 e he]⟩
theorem HP.h6 (h : HP a σ M W w P R u) (i : Jv w) (he : e < wC w 2) : gR u a 10 10 = some (a + 1 + 6) ∧ iald u (a + 1 + 6) (nI e) = some (oI (P e)) := by
  obtain ⟨M', z1, t1, c5, c6, c7⟩ := h
  exact ⟨t1.g10, by rw [t1.ar (k := 6) (by omega) (by omega) rfl (show e < 120 by have := i.c; omega), c6 e he, pe_m1]⟩
theorem HP.h7 (h : HP a σ M W w P R u) (i : Jv w) (he : e < wC w 2) : gR u a 10 11 = some (a + 1 + 7) ∧ iald u (a + 1 + 7) (nI e) = some (nI (R e)) := by
  obtain ⟨M', z1, t1, c5, c6, c7⟩ := h
  exact ⟨t1.g11, by rw [t1.ar (k := 7) (by omega) (by omega) rfl (show e < 120 by have := i.c; omega), c7 e he]⟩
theorem HP.n2 (h : HP a σ M W w P R u) (hb : M.1 3 = 0) (r : RW W w) : gR u a 10 1 = some (a + 1) ∧ iald u (a + 1) 2 = some (nI (wC w 2)) := by
  obtain ⟨M', z1, t1, c5, c6, c7⟩ := h
  have hb' : M'.1 3 = 0 := by rw [z1.1]; exact hb
  exact ⟨t1.w, (t1.raw hb' (j := 2) (by omega)).trans (by rw [r.c (by omega)])⟩
theorem HP.s6 (h : HP a σ M W w P R u) (i : Jv w) (he : e < wC w 2) (o : Option Nat) : ∃ u', iast u (a + 1 + 6) (nI e) (oI o) = some u' ∧ HP a σ M W w (up P e o) R u' := by
  obtain ⟨M', z1, t1, c5, c6, c7⟩ := h
  obtain ⟨u', e1, t2⟩ := t1.as (k := 6) (j := e) (pe o) (by omega) (by omega) rfl (show e < 120 by have := i.c; omega)
  rw [pe_m1] at e1
  refine ⟨u', e1, uN M' 6 e (pe o), z1.tr (Mz.uA (by omega)), t2, fun x hx => by rw [uN_k (by decide)]; exact c5 x hx, fun x hx => ?_, fun x hx => by rw [uN_k (by decide)]; exact c7 x hx⟩
  rw [uN_at]
  unfold upN up
  by_cases hxe : x = e
  · rw [if_pos hxe, if_pos hxe]
  · rw [if_neg hxe, if_neg hxe]; exact c6 x hx
theorem HP.s7 (h : HP a σ M W w P R u) (i : Jv w) (he : e < wC w 2) (v : Nat) : ∃ u', iast u (a + 1 + 7) (nI e) (nI v) = some u' ∧ HP a σ M W w P (up R e v) u' := by
  obtain ⟨M', z1, t1, c5, c6, c7⟩ := h
  obtain ⟨u', e1, t2⟩ := t1.as (k := 7) (j := e) v (by omega) (by omega) rfl (show e < 120 by have := i.c; omega)
  refine ⟨u', e1, uN M' 7 e v, z1.tr (Mz.uA (by omega)), t2, fun x hx => by rw [uN_k (by decide)]; exact c5 x hx, fun x hx => by rw [uN_k (by decide)]; exact c6 x hx, fun x hx => ?_⟩
  rw [uN_at]
  unfold upN up
  by_cases hxe : x = e
  · rw [if_pos hxe, if_pos hxe]
  · rw [if_neg hxe, if_neg hxe]; exact c7 x hx
theorem HP.cg {P' : Nat → Option Nat} {R' : Nat → Nat} (h : HP a σ M W w P R u) (h1 : ∀ x, x < wC w 2 → P' x = P x) (h2 : ∀ x, x < wC w 2 → R' x = R x) : HP a σ M W w P' R' u := by
  obtain ⟨M', z1, t1, c5, c6, c7⟩ := h
  exact ⟨M', z1, t1, c5, fun x hx => by rw [h1 x hx]; exact c6 x hx, fun x hx => by rw [h2 x hx]; exact c7 x hx⟩
theorem HP.ah (h : HP a σ M W w P R u) (r : RW W w) (i : Jv w) {x y : Nat} (hx : x < 128) (hy : y < wC w 2) : F_X10_isAhead u a (nI x) (nI y) = some (nI (b2 (eA (wE w) y x))) := by
  obtain ⟨M', z1, t1, -⟩ := h
  exact R_isAhead t1 r i hx hy
/-- the row's next lower one, for e -/
theorem R_rkIn (h : HP a σ M W w P R u) (r : RW W w) (i : Jv w) (he : e < wC w 2) (hH : hgt (eA (wE w)) e = H) (hR : ∀ x, x < wC w 2 → hgt (eA (wE w)) x + 1 = H → R x < 2 ^ 31) (h0 : P e = none) (K : Sto → Option Sto) : ∃ u', F_X10_laysRanks_L34 a (nI H) (nI e) fu 0 u K = K u' ∧ HP a σ M W w (up P e (pvB (eA (wE w)) R e H e)) R u' := by
  have hc := i.c
  have hHp := hgt_pos (eA (wE w)) e
  have hHl := hgt_le (eA (wE w)) e
  obtain ⟨u', q1, e1⟩ := lpS (fun f j u => F_X10_laysRanks_L34 a (nI H) (nI e) f (nI j) u K) K (fun j u => HP a σ M W w (up P e (pvB (eA (wE w)) R e H j)) R u) e (by
    intro j f u hj hq
    have hjl := hgt_le (eA (wE w)) j
    obtain ⟨g9, a5⟩ := hq.h5 i (e := j) (by omega)
    obtain ⟨g10, a6⟩ := hq.h6 i (e := e) he
    rw [up_s] at a6
    have hst : pvB (eA (wE w)) R e H (j + 1) = if decide (hgt (eA (wE w)) j + 1 = H) && eA (wE w) e j then (match pvB (eA (wE w)) R e H j with
      | none => some j
      | some p => if R p ≤ R j then some p else some j) else pvB (eA (wE w)) R e H j := rfl
    show ∃ s', _ ∧ F_X10_laysRanks_L34 _ _ _ _ _ _ _ = _
    rw [F_X10_laysRanks_L34, if_neg (by rw [nI_leI (by omega) (by omega)]; omega), g9, bind_some', a5, bind_some', nI_k1 (by omega), ifE (by omega) (by omega), hq.ah r i (by omega) he, bind_some', ifb0, g10, bind_some', a6, bind_some', bind_some', nI_add1, hst]
    by_cases hh : hgt (eA (wE w)) j + 1 = H
    · rw [if_pos (show hgt (eA (wE w)) j = H - 1 by omega), decide_eq_true hh, Bool.true_and]
      cases hA : eA (wE w) e j with
      | false => exact ⟨u, hq, rfl⟩
      | true =>
        rw [if_pos rfl, if_pos rfl]
        obtain ⟨u2, e2, q2⟩ := hq.s6 i he (some j)
        have q2' : HP a σ M W w (up P e (some j)) R u2 := q2.cg (fun x _ => by rw [up_up]) (fun _ _ => rfl)
        cases hp : pvB (eA (wE w)) R e H j with
        | none =>
          rw [show oI none = -1 from rfl, if_pos rfl, show iast u (a + 1 + 6) (nI e) (nI j) = _ from e2, bind_some']
          exact ⟨u2, q2', rfl⟩
        | some p =>
          have hpp := (pvB_some hp).1
          obtain ⟨g11, a7j⟩ := hq.h7 i (e := j) (by omega)
          obtain ⟨-, a7p⟩ := hq.h7 i (e := p) (by omega)
          have b1 := hR j (by omega) hh
          have b2' := hR p (by omega) (pvB_some hp).2.1
          rw [hp] at a6
          rw [show oI (some p) = nI p from rfl] at a6 ⊢
          rw [if_neg (oI_n1 (by omega)), g11, bind_some', a7j, bind_some', bind_some', bind_some', a6, bind_some', a7p, bind_some', show iast u (a + 1 + 6) (nI e) (nI j) = _ from e2, bind_some']
          dsimp only
          by_cases hle : R p ≤ R j
          · rw [if_pos hle, if_pos (show nI (R p) ≤ nI (R j) by rw [nI_leI (by omega) (by omega)]; exact hle)]
            rw [hp] at hq
            exact ⟨u, hq, rfl⟩
          · rw [if_neg hle, if_neg (show ¬ nI (R p) ≤ nI (R j) by rw [nI_leI (by omega) (by omega)]; exact hle)]
            exact ⟨u2, q2', rfl⟩
    · rw [if_neg (show ¬ hgt (eA (wE w)) j = H - 1 by omega), decide_eq_false hh, Bool.false_and, if_neg z_f]
      exact ⟨u, hq, rfl⟩) (by
    intro f u _
    show F_X10_laysRanks_L34 _ _ _ _ _ _ _ = _
    rw [F_X10_laysRanks_L34, if_pos (Int32.le_refl _)]) fu u (by unfold fu; omega) (h.cg (fun x _ => by
      show up P e none x = P x
      unfold up
      by_cases hx : x = e
      · rw [if_pos hx, hx, h0]
      · rw [if_neg hx]) (fun _ _ => rfl))
  exact ⟨u', e1, q1⟩
/-- rows of all events of height H -/
theorem R_rkRows (h : HP a σ M W w P R u) (hb : M.1 3 = 0) (r : RW W w) (i : Jv w) (hR : ∀ x, x < wC w 2 → hgt (eA (wE w)) x + 1 = H → R x < 2 ^ 31) (hH : H < 2 ^ 31) (K : Sto → Option Sto) : ∃ u', F_X10_laysRanks_L2 a (nI H) fu 0 u K = K u' ∧ HP a σ M W w (fun x => if hgt (eA (wE w)) x = H then pvB (eA (wE w)) R x H x else P x) R u' := by
  have hc := i.c
  obtain ⟨u', q1, e1⟩ := lpS (fun f j u => F_X10_laysRanks_L2 a (nI H) f (nI j) u K) K (fun j u => HP a σ M W w (fun x => if x < j ∧ hgt (eA (wE w)) x = H then pvB (eA (wE w)) R x H x else P x) R u) (wC w 2) (by
    intro j f u hj hq
    obtain ⟨g1, n2⟩ := hq.n2 hb r
    have hjl := hgt_le (eA (wE w)) j
    obtain ⟨g9, a5⟩ := hq.h5 i (e := j) hj
    show ∃ s', _ ∧ F_X10_laysRanks_L2 _ _ _ _ _ _ = _
    rw [F_X10_laysRanks_L2, g1, bind_some', n2, bind_some', if_neg (by rw [nI_leI (by omega) (by omega)]; omega), g9, bind_some', a5, bind_some', ifE (by omega) (by omega), nI_add1]
    by_cases hh : hgt (eA (wE w)) j = H
    · obtain ⟨u2, e2, q2⟩ := hq.s6 i hj none
      obtain ⟨g10, -⟩ := hq.h6 i (e := j) hj
      obtain ⟨u3, e3, q3⟩ := R_rkIn q2 r i hj hh hR (up_s _ _ _) (fun s22 => F_X10_laysRanks_L2 a (nI H) f (nI (j + 1)) s22 K)
      rw [if_pos hh, g10, bind_some', show iast u (a + 1 + 6) (nI j) (-1) = _ from e2, bind_some', e3]
      refine ⟨u3, q3.cg (fun x hx => ?_) (fun _ _ => rfl), rfl⟩
      show (if x < j + 1 ∧ hgt (eA (wE w)) x = H then _ else _) = _
      by_cases hxj : x = j
      · subst hxj; rw [up_s, if_pos ⟨by omega, hh⟩]
      · rw [up_n _ _ hxj, up_n _ _ hxj]
        show _ = if x < j ∧ hgt (eA (wE w)) x = H then _ else _
        by_cases hx2 : x < j ∧ hgt (eA (wE w)) x = H
        · rw [if_pos hx2, if_pos ⟨by omega, hx2.2⟩]
        · rw [if_neg hx2, if_neg (fun y => hx2 ⟨by omega, y.2⟩)]
    · rw [if_neg hh]
      refine ⟨u, hq.cg (fun x hx => ?_) (fun _ _ => rfl), rfl⟩
      show (if x < j + 1 ∧ hgt (eA (wE w)) x = H then _ else _) = if x < j ∧ hgt (eA (wE w)) x = H then _ else _
      by_cases hx2 : x < j ∧ hgt (eA (wE w)) x = H
      · rw [if_pos hx2, if_pos ⟨by omega, hx2.2⟩]
      · rw [if_neg hx2, if_neg (fun y => hx2 ⟨by
          have : x ≠ j := fun z => hh (by rw [← z]; exact y.2)
          omega, y.2⟩)]) (by
    intro f u hq
    obtain ⟨g1, n2⟩ := hq.n2 hb r
    show F_X10_laysRanks_L2 _ _ _ _ _ _ = _
    rw [F_X10_laysRanks_L2, g1, bind_some', n2, bind_some', if_pos (Int32.le_refl _)]) fu u (by unfold fu; omega) (h.cg (fun x _ => if_neg (fun y => by omega)) (fun _ _ => rfl))
  refine ⟨u', e1, q1.cg (fun x hx => ?_) (fun _ _ => rfl)⟩
  show (if hgt (eA (wE w)) x = H then _ else _) = if x < wC w 2 ∧ hgt (eA (wE w)) x = H then _ else _
  by_cases hh : hgt (eA (wE w)) x = H
  · rw [if_pos hh, if_pos ⟨hx, hh⟩]
  · rw [if_neg hh, if_neg (fun y => hh y.2)]
theorem R_isBefore (h : HP a σ M W w P R u) (i : Jv w) {x y : Nat} (hx : x < wC w 2) (hy : y < wC w 2) (hP : ∀ q, (q = x ∨ q = y) → ∀ p, P q = some p → p < wC w 2 ∧ R p < 2 ^ 31) : F_X10_isBefore u a (nI x) (nI y) = some (nI (b2 (bfr P R x y))) := by
  have hc := i.c
  have key : ∀ q, (q = x ∨ q = y) → q < wC w 2 → ∀ J : Int32 → Option Int32, (if oI (P q) = (-1 : Int32) then J 0 else (gR u a 10 11).bind fun p13 => (gR u a 10 10).bind fun p14 => (iald u p14 (nI q)).bind fun x15 => (iald u p13 x15).bind fun x16 => J x16) = J (nI (rv P R q)) ∧ rv P R q < 2 ^ 31 := by
    intro q hqq hq J
    obtain ⟨g10, a6⟩ := h.h6 i hq
    unfold rv
    cases hp : P q with
    | none => exact ⟨rfl, show (0 : Nat) < 2 ^ 31 by decide⟩
    | some p =>
      have hpp := (hP q hqq p hp).1
      obtain ⟨g11, a7⟩ := h.h7 i hpp
      rw [hp] at a6
      rw [show oI (some p) = nI p from rfl] at a6 ⊢
      rw [if_neg (oI_n1 (by omega)), g11, bind_some', g10, bind_some', a6, bind_some', a7, bind_some']
      exact ⟨rfl, (hP q hqq p hp).2⟩
  obtain ⟨g10, a6x⟩ := h.h6 i hx
  obtain ⟨-, a6y⟩ := h.h6 i hy
  have ok : (gO u a 10).isSome = true := by
    obtain ⟨M', z1, t1, -⟩ := h
    exact t1.ok
  unfold F_X10_isBefore
  rw [chk_eq ok, g10, bind_some', a6x, bind_some', jn_eq]
  have kx := key x (Or.inl rfl) hx (fun x4 => (some (a + 1 + 6)).bind fun p5 => (iald u p5 (nI y)).bind fun x6 => jn (fun (x8 : Int32) => if x4 = x8 then (if nI y ≤ nI x then some (0 : Int32) else some (1 : Int32)) else (if x8 ≤ x4 then some (0 : Int32) else some (1 : Int32))) fun j7 => if x6 = (-1 : Int32) then j7 (0 : Int32) else (gR u a 10 11).bind fun p9 => (some (a + 1 + 6)).bind fun p10 => (iald u p10 (nI y)).bind fun x11 => (iald u p9 x11).bind fun x12 => j7 x12)
  rw [g10] at kx
  refine kx.1.trans ?_
  rw [bind_some', a6y, bind_some', jn_eq]
  have ky := key y (Or.inr rfl) hy (fun x8 => if nI (rv P R x) = x8 then (if nI y ≤ nI x then some (0 : Int32) else some (1 : Int32)) else (if x8 ≤ nI (rv P R x) then some (0 : Int32) else some (1 : Int32)))
  rw [g10] at ky
  refine ky.1.trans ?_
  have lx := kx.2
  have ly := ky.2
  unfold bfr
  rw [ifE lx ly]
  by_cases h1 : rv P R x = rv P R y
  · rw [if_pos h1, decide_eq_false (show ¬ rv P R x < rv P R y by omega), decide_eq_true h1, Bool.false_or, Bool.true_and]
    by_cases h2 : x < y
    · rw [if_neg (by rw [nI_leI (by omega) (by omega)]; omega), decide_eq_true h2]; rfl
    · rw [if_pos (by rw [nI_leI (by omega) (by omega)]; omega), decide_eq_false h2]; rfl
  · rw [if_neg h1, decide_eq_false h1, Bool.false_and, Bool.or_false]
    by_cases h2 : rv P R x < rv P R y
    · rw [if_neg (by rw [nI_leI (by omega) (by omega)]; omega), decide_eq_true h2]; rfl
    · rw [if_pos (by rw [nI_leI (by omega) (by omega)]; omega), decide_eq_false h2]; rfl
end RGC
