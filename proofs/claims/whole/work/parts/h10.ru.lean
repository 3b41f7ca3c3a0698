/-! ===== PURE 80: the reference: what is lost to a site ===== -/
section RFU
variable {s s1 t σ : Sto} {a c : Nat} {M : Ms} {A : Ga} {w : Wd} {W W' : Nat → Nat} {x : Nat}
def rcs (w : Wd) (x s e : Nat) : Bool := stb w x s e || ((wT w (5 * s + x)).any (fun l => (lEv l).contains e) && !knw (wE w) (wL w x) x e)
theorem rch_eq (w : Wd) (x e : Nat) : ex (fun s => rcs w x s e) (wC w 0) = rch w x e := by
  rw [Bool.eq_iff_iff, ex_iff]
  unfold rch rcs otw
  rw [Bool.or_eq_true, Bool.and_eq_true, ex_iff, ex_iff]
  constructor
  · rintro ⟨s, h1, h2⟩
    rw [Bool.or_eq_true, Bool.and_eq_true] at h2
    rcases h2 with h2 | h2
    · exact Or.inl ⟨s, h1, h2⟩
    · exact Or.inr ⟨⟨s, h1, h2.1⟩, h2.2⟩
  · rintro (⟨s, h1, h2⟩ | ⟨⟨s, h1, h2⟩, h3⟩)
    · exact ⟨s, h1, by rw [h2, Bool.true_or]⟩
    · exact ⟨s, h1, by rw [h2, h3]; simp⟩
theorem R_reachLog {u : Sto} {p : Nat → Bool} {y : Nat} (h : LR a σ M W u p) (r : RW W w) (i : Jv w) (hx : x < 5) (hy : y < 5) (K : Sto → Option Sto) : ∃ u', F_X10_laysReaches_L40 a (nI x) (nI y) (nI (9 + 789 * y)) fu 0 u K = K u' ∧ LR a σ M W u' (fun e => p e || stb w x y e) := by
  have hc := i.c
  have hl := (i.L hy).lg
  obtain ⟨u', q1, e1⟩ := lpS (fun f j u => F_X10_laysReaches_L40 a (nI x) (nI y) (nI (9 + 789 * y)) f (nI j) u K) K (fun j u => LR a σ M W u (fun e => p e || (((sLg (wL w y)).take j).contains e && !knw (wE w) (wL w y) x e))) (sLg (wL w y)).length (by
    intro j f u hj hq
    obtain ⟨M', h1, h2, h3⟩ := id hq
    have hxl := r.lg hy hj
    have hb := (i.L hy).lm (List.getElem_mem hj)
    show ∃ u', _ ∧ F_X10_laysReaches_L40 _ _ _ _ _ _ _ _ = _
    rw [F_X10_laysReaches_L40, show (33 : Int32) = nI 33 from rfl, nI_add, R_of h2 (by omega), bind_some', r.ln hy, if_neg (by rw [nI_leI (by omega) (by omega)]; omega), show (34 : Int32) = nI 34 from rfl, nI_add, nI_add, R_of h2 (by omega), bind_some', hxl, R_isKnown h2 r i hy hx hb, bind_some', ifb0, h2.g8, bind_some', bind_some']
    cases hk : knw (wE w) (wL w y) x (sLg (wL w y))[j] with
    | true =>
      rw [if_pos rfl, nI_add1]
      refine ⟨u, hq.ex (fun e he => ?_), rfl⟩
      rw [take_contains _ hj]
      by_cases hee : e = (sLg (wL w y))[j]
      · rw [hee, hk]; simp
      · rw [decide_eq_false hee, Bool.or_false]
    | false =>
      obtain ⟨u2, e2, q2⟩ := hq.mk (e := (sLg (wL w y))[j]) (by omega)
      rw [if_neg z_f, e2, bind_some', nI_add1]
      refine ⟨u2, q2.ex (fun e he => ?_), rfl⟩
      rw [take_contains _ hj, up_or]
      by_cases hee : e = (sLg (wL w y))[j]
      · rw [decide_eq_true hee, hee, hk]; simp
      · rw [decide_eq_false hee, Bool.or_false, Bool.or_false]) (by
    intro f u hq
    obtain ⟨M', h1, h2, h3⟩ := hq
    show F_X10_laysReaches_L40 _ _ _ _ _ _ _ _ = _
    rw [F_X10_laysReaches_L40, show (33 : Int32) = nI 33 from rfl, nI_add, R_of h2 (by omega), bind_some', r.ln hy, if_pos (Int32.le_refl _)]) fu u (by unfold fu; omega) (h.ex (fun e he => by simp))
  exact ⟨u', e1, q1.ex (fun e he => by rw [List.take_length]; rfl)⟩
theorem any_take {l : List Lt} {j : Nat} (hj : j < l.length) (q : Lt → Bool) : (l.take (j + 1)).any q = ((l.take j).any q || q l[j]) := by
  rw [tk hj, List.any_append]
  simp
theorem R_reachLet {u : Sto} {p : Nat → Bool} {y : Nat} (h : LR a σ M W u p) (r : RW W w) (i : Jv w) (h12 : ∀ c, c < 25 → (wT w c).length ≤ 12) (hle : ∀ c, c < 25 → ∀ l ∈ wT w c, ∀ e ∈ lEv l, e < wC w 2) (hx : x < 5) (hy : y < 5) (K : Sto → Option Sto) : ∃ u', F_X10_laysReaches_L99 a (nI x) (nI y) fu 0 u K = K u' ∧ LR a σ M W u' (fun e => p e || ((wT w (5 * y + x)).any (fun l => (lEv l).contains e) && !knw (wE w) (wL w x) x e)) := by
  have hl := h12 (5 * y + x) (by omega)
  obtain ⟨u', q1, e1⟩ := lpS (fun f j u => F_X10_laysReaches_L99 a (nI x) (nI y) f (nI j) u K) K (fun j u => LR a σ M W u (fun e => p e || (((wT w (5 * y + x)).take j).any (fun l => (lEv l).contains e) && !knw (wE w) (wL w x) x e))) (wT w (5 * y + x)).length (by
    intro j f u hj hq
    have hL := r.l (show 5 * y + x < 25 by omega) (List.getElem?_eq_getElem hj)
    obtain ⟨u2, e2, q2⟩ := R_laysLetter hq r i hx hL (fun e he => hle _ (by omega) _ (List.getElem_mem hj) e he) (by omega)
    obtain ⟨M', h1, h2, h3⟩ := hq
    refine ⟨u2, q2.ex (fun e he => ?_), ?_⟩
    · rw [any_take hj]
      cases p e <;> cases (List.take j (wT w (5 * y + x))).any (fun l => (lEv l).contains e) <;> cases knw (wE w) (wL w x) x e <;> simp
    · show F_X10_laysReaches_L99 _ _ _ _ _ _ _ = _
      rw [F_X10_laysReaches_L99, R_couple, bind_some', show (5153 : Int32) = nI 5153 from rfl, nI_add, R_of h2 (by omega), bind_some', r.t (by omega), if_neg (by rw [nI_leI (by omega) (by omega)]; omega), R_letterOf, bind_some', e2, bind_some', nI_add1]) (by
    intro f u hq
    obtain ⟨M', h1, h2, h3⟩ := hq
    show F_X10_laysReaches_L99 _ _ _ _ _ _ _ = _
    rw [F_X10_laysReaches_L99, R_couple, bind_some', show (5153 : Int32) = nI 5153 from rfl, nI_add, R_of h2 (by omega), bind_some', r.t (by omega), if_pos (Int32.le_refl _)]) fu u (by unfold fu; omega) (h.ex (fun e he => by simp))
  exact ⟨u', e1, q1.ex (fun e he => by rw [List.take_length])⟩
theorem R_laysReaches (h : RT a σ M W s) (r : RW W w) (i : Jv w) (h12 : ∀ c, c < 25 → (wT w c).length ≤ 12) (hle : ∀ c, c < 25 → ∀ l ∈ wT w c, ∀ e ∈ lEv l, e < wC w 2) (hx : x < 5) : ∃ u', F_X10_laysReaches s a (nI x) = some u' ∧ LR a σ M W u' (rch w x) := by
  have hn := i.n5
  obtain ⟨u0, ⟨M0, z0, t0, c0⟩, e0⟩ := lpS (fun f j u => F_X10_laysReaches_L2 a f (nI j) u (fun s3 => F_X10_laysReaches_L23 a (nI x) fu 0 s3 (fun s18 => some s18))) (fun s3 => F_X10_laysReaches_L23 a (nI x) fu 0 s3 (fun s18 => some s18)) (fun j u => ∃ M', Mz M M' ∧ RT a σ M' W u ∧ ∀ e, e < j → M'.2.2 4 e = 0) 120 (by
    intro j f u hj ⟨M', h1, h2, h3⟩
    obtain ⟨u', e1, t1⟩ := h2.zs (k := 4) (j := j) 0 (by omega) (by omega) rfl (show j < 120 from hj) (Or.inl rfl)
    refine ⟨u', ⟨uN M' 4 j 0, h1.tr (Mz.uA (by omega)), t1, fun e he => ?_⟩, ?_⟩
    · rw [uN_at]
      by_cases hej : e = j
      · subst hej; rw [upN_s]
      · rw [upN_n hej]; exact h3 e (by omega)
    · show F_X10_laysReaches_L2 _ _ _ _ _ = _
      rw [F_X10_laysReaches_L2, if_neg (by rw [l_120, nI_leI (by omega) (by omega)]; omega), h2.g8, bind_some', show zast u (a + 1 + 4) (nI j) 0 = _ from e1, bind_some', nI_add1]) (by
    intro f u _
    show F_X10_laysReaches_L2 _ _ _ _ _ = _
    rw [F_X10_laysReaches_L2, if_pos (by rw [l_120]; exact Int32.le_refl _)]) fu s (by unfold fu; omega) ⟨M, Mz.rf, h, fun e he => absurd he (Nat.not_lt_zero e)⟩
  have L0 : LR a σ M W u0 (fun _ => false) := ⟨M0, z0, t0, fun e he => c0 e he⟩
  obtain ⟨u', q1, e1⟩ := lpS (fun f j u => F_X10_laysReaches_L23 a (nI x) f (nI j) u (fun s18 => some s18)) (fun u => some u) (fun j u => LR a σ M W u (fun e => ex (fun s => rcs w x s e) j)) (wC w 0) (by
    intro j f u hj hq
    obtain ⟨u2, e2, q2⟩ := R_reachLog (y := j) hq r i hx (by omega) (fun s12 => F_X10_laysReaches_L99 a (nI x) (nI j) fu 0 s12 (fun s17 => F_X10_laysReaches_L23 a (nI x) f (nI j + 1) s17 (fun s18 => some s18)))
    obtain ⟨u3, e3, q3⟩ := R_reachLet (y := j) q2 r i h12 hle hx (by omega) (fun s17 => F_X10_laysReaches_L23 a (nI x) f (nI j + 1) s17 (fun s18 => some s18))
    obtain ⟨M', h1, h2, h3⟩ := hq
    refine ⟨u3, q3.ex (fun e he => ?_), ?_⟩
    · rw [ex_succ]
      unfold rcs
      rw [Bool.or_assoc]
    · show F_X10_laysReaches_L23 _ _ _ _ _ _ = _
      rw [F_X10_laysReaches_L23, show F_X10_of u a 0 = _ from R_of h2 (x := 0) (by omega), bind_some', r.c (by omega), if_neg (by rw [nI_leI (by omega) (by omega)]; omega), R_stateOf, bind_some', e2, e3, nI_add1]) (by
    intro f u hq
    obtain ⟨M', h1, h2, h3⟩ := hq
    show F_X10_laysReaches_L23 _ _ _ _ _ _ = _
    rw [F_X10_laysReaches_L23, show F_X10_of u a 0 = _ from R_of h2 (x := 0) (by omega), bind_some', r.c (by omega), if_pos (Int32.le_refl _)]) fu u0 (by unfold fu; omega) (L0.ex (fun e he => rfl))
  refine ⟨u', ?_, q1.ex (fun e he => (rch_eq w x e).symm)⟩
  unfold F_X10_laysReaches
  rw [chk_eq h.ok]
  exact e0.trans e1
theorem R_lostTo (h : RT a σ M W s) (r : RW W w) (i : Jv w) (h12 : ∀ c, c < 25 → (wT w c).length ≤ 12) (hle : ∀ c, c < 25 → ∀ l ∈ wT w c, ∀ e ∈ lEv l, e < wC w 2) (hx : x < 5) : ∃ u M', F_X10_lostTo s a (nI x) = some (nI (lst w x), u) ∧ Mz M M' ∧ RT a σ M' W u := by
  have hc := i.c
  obtain ⟨u, e1, M', z1, t1, c1⟩ := R_laysReaches h r i h12 hle hx
  refine ⟨u, M', ?_, z1, t1⟩
  unfold F_X10_lostTo
  rw [chk_eq h.ok, e1, bind_some']
  refine lup (fun f j => F_X10_lostTo_L9 u a (nI x) f (nI (fb_ct (fun e => !rch w x e && !sHs (wL w x) e) j)) (nI j) (fun x9 => some (x9, u))) (wC w 2) _ ?_ ?_ fu (by unfold fu; omega)
  · intro j f hj
    rw [F_X10_lostTo_L9, show F_X10_of u a 2 = _ from R_of t1 (x := 2) (by omega), bind_some', r.c (by omega), if_neg (by rw [nI_leI (by omega) (by omega)]; omega), t1.g8, bind_some', t1.az (k := 4) (by omega) (by omega) rfl (show j < 120 by omega), bind_some', c1 j (by omega), jn_eq, ifb0, show F_X10_doesHave u a (nI x) (nI j) 0 = _ from R_doesHave0 t1 r hx (by omega), bind_some', ifb0, nI_add1, fb_ct_succ]
    cases rch w x j with
    | true => exact jfl0 _ (fun y => F_X10_lostTo_L9 u a (nI x) f y (nI (j + 1)) (fun x9 => some (x9, u)))
    | false =>
      cases sHs (wL w x) j with
      | true => exact jfl0 _ (fun y => F_X10_lostTo_L9 u a (nI x) f y (nI (j + 1)) (fun x9 => some (x9, u)))
      | false => exact jfl1 _ (fun y => F_X10_lostTo_L9 u a (nI x) f y (nI (j + 1)) (fun x9 => some (x9, u)))
  · intro f
    rw [F_X10_lostTo_L9, show F_X10_of u a 2 = _ from R_of t1 (x := 2) (by omega), bind_some', r.c (by omega), if_pos (Int32.le_refl _)]
    rfl
end RFU
