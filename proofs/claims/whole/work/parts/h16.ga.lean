/-! ===== PURE 86: the reference on paper: gossip ===== -/
section RGA
variable {s s1 t σ : Sto} {a c : Nat} {M : Ms} {A : Ga} {w : Wd} {W W' : Nat → Nat} {q : Gq}
theorem R_areLike (h : RT a σ M W s) (r : RW W w) (i : Jv w) (hn2 : 1 ≤ wC w 0) : F_X10_areLike s a = some (nI (b2 (alk w (wL w)))) := by
  have hn := i.n5
  have inner : ∀ x, x < wC w 0 → ∀ K : Option Int32, F_X10_areLike_L13 s a (nI x) fu 0 K = if al (fun e => sHs (wL w x) e == sHs (wL w 0) e) 128 = true then K else some 0 := by
    intro x hx K
    have key := lall (fun f j => F_X10_areLike_L13 s a (nI x) f (nI j) K) (fun j => decide (nI (W (9 + 789 * x + 25 + j)) = nI (W (9 + 789 * 0 + 25 + j)))) 4 (some 0) K (by
      intro j f hj
      rw [F_X10_areLike_L13, if_neg (by rw [l_4, nI_leI (by omega) (by omega)]; omega), R_stateOf, bind_some', show (25 : Int32) = nI 25 from rfl, nI_add, nI_add, R_of h (by omega), bind_some', show F_X10_stateOf 0 = _ from R_stateOf 0, bind_some', nI_add, nI_add, R_of h (by omega), bind_some', nI_add1]
      by_cases hq : nI (W (9 + 789 * x + 25 + j)) = nI (W (9 + 789 * 0 + 25 + j))
      · rw [if_pos hq, decide_eq_true hq]; rfl
      · rw [if_neg hq, decide_eq_false hq]; rfl) (by
      intro f
      rw [F_X10_areLike_L13, if_pos (by rw [l_4]; exact Int32.le_refl _)]) fu (by unfold fu; omega)
    refine key.trans ?_
    have hq : al (fun j => decide (nI (W (9 + 789 * x + 25 + j)) = nI (W (9 + 789 * 0 + 25 + j)))) 4 = al (fun e => sHs (wL w x) e == sHs (wL w 0) e) 128 := by
      have hv : ∀ y, y < 5 → ∀ e, e < 128 → (W (9 + 789 * y + 25 + e / 32)).testBit (e % 32) = sHs (wL w y) e := fun y hy e he => r.hs hy he
      rw [Bool.eq_iff_iff, al_iff, al_iff]
      constructor
      · intro h e he
        have h1 := nI_ext.mp (of_decide_eq_true (h (e / 32) (by omega))) (e % 32) (by omega)
        rw [hv x (by omega) e he, hv 0 (by omega) e he] at h1
        rw [h1]
        exact beq_self_eq_true _
      · intro h j hj
        refine decide_eq_true (nI_ext.mpr (fun q hq => ?_))
        have h1 := h (32 * j + q) (by omega)
        have h2 := hv x (by omega) (32 * j + q) (by omega)
        have h3 := hv 0 (by omega) (32 * j + q) (by omega)
        rw [show (32 * j + q) / 32 = j by omega, show (32 * j + q) % 32 = q by omega] at h2 h3
        rw [h2, h3]
        exact beq_iff_eq.mp h1
    rw [hq]
  unfold F_X10_areLike
  rw [chk_eq h.ok]
  have key := lallG (fun f j => F_X10_areLike_L2 s a f (nI j) (some 1)) (fun x => al (fun e => sHs (wL w x) e == sHs (wL w 0) e) 128) (wC w 0) 1 (some 0) (some 1) (by omega) (by
    intro j f h1 hj
    rw [F_X10_areLike_L2, show F_X10_of s a 0 = _ from R_of h (x := 0) (by omega), bind_some', r.c (by omega), if_neg (by rw [nI_leI (by omega) (by omega)]; omega), inner j hj, nI_add1]) (by
    intro f
    rw [F_X10_areLike_L2, show F_X10_of s a 0 = _ from R_of h (x := 0) (by omega), bind_some', r.c (by omega), if_pos (Int32.le_refl _)]) fu (by unfold fu; omega)
  refine key.trans ?_
  show _ = some (nI (b2 (al (fun k => al (fun e => sHs (wL w (1 + k)) e == sHs (wL w 0) e) 128) (wC w 0 - 1))))
  cases al (fun k => al (fun e => sHs (wL w (1 + k)) e == sHs (wL w 0) e) 128) (wC w 0 - 1) <;> rfl
theorem R_areEmpty (h : RT a σ M W s) (r : RW W w) (i : Jv w) : F_X10_areEmpty s a = some (nI (b2 (empt w (wL w)))) := by
  have hn := i.n5
  unfold F_X10_areEmpty
  rw [chk_eq h.ok]
  have key := lall (fun f j => F_X10_areEmpty_L2 s a f (nI j) (some 1)) (fun s => (sLg (wL w s)).isEmpty) (wC w 0) (some 0) (some 1) (by
    intro j f hj
    have hl := (i.L (show j < 5 by omega)).lg
    rw [F_X10_areEmpty_L2, show F_X10_of s a 0 = _ from R_of h (x := 0) (by omega), bind_some', r.c (by omega), if_neg (by rw [nI_leI (by omega) (by omega)]; omega), R_stateOf, bind_some', show (33 : Int32) = nI 33 from rfl, nI_add, R_of h (by omega), bind_some', r.ln (by omega), nI_add1]
    cases hq : sLg (wL w j) with
    | nil => rfl
    | cons x l =>
      rw [hq] at hl
      rw [List.length_cons] at hl ⊢
      rw [if_neg (by rw [show (0 : Int32) = nI 0 from rfl, nI_leI (by omega) (by omega)]; omega)]
      rfl) (by
    intro f
    rw [F_X10_areEmpty_L2, show F_X10_of s a 0 = _ from R_of h (x := 0) (by omega), bind_some', r.c (by omega), if_pos (Int32.le_refl _)]) fu (by unfold fu; omega)
  refine key.trans ?_
  show _ = some (nI (b2 (al (fun s => (sLg (wL w s)).isEmpty) (wC w 0))))
  cases al (fun s => (sLg (wL w s)).isEmpty) (wC w 0) <;> rfl
/-- all five sites on paper are sound -/
def GJ (w : Wd) (ps : Nat → St) : Prop := ∀ s, s < 5 → Is (wC w 0) (wC w 2) s (wE w) (ps s)
theorem GJ.gi {ps : Nat → St} (i : Iv w) (h : GJ w ps) : GI w ps := fun s hs => h s (by have := i.n5; omega)
theorem GJ.one (h : GJ w q.1) (i : Iv w) {s : Nat} (hs : s < wC w 0) : GJ w (gOne w q s).1 := fun x hx => by
  by_cases hxn : x < wC w 0
  · exact GI.one (h.gi i) i.ie i.n2 i.n5 i.m3 hs x hxn
  · have hnx := nxt_lt (n := wC w 0) (s := s) (by omega)
    have : (gOne w q s).1 x = q.1 x := by
      unfold gOne
      split
      · rfl
      · exact up_n _ _ (by omega)
    rw [this]
    exact h x hx
theorem GJ.jv {ps : Nat → St} (h : GJ w ps) (i : Iv w) : Jv (wL' w ps) := ⟨i.n5, i.c, i.j.2.2.1, fun x hx => ⟨(h x hx).js i.c, i.j.S hx⟩⟩
theorem RT.sS {k v : Nat} (h : RT a σ M W s) (hk : k = 12 ∨ k = 13) : ∃ s', sV s a 10 k (.int (nI v)) = some s' ∧ RT a σ (uS M k v) W s' := by
  rcases hk with rfl | rfl
  · obtain ⟨s', e1, h1, E1⟩ := h.2.1.setS (k := 12) (v := v) rfl (by omega)
    exact ⟨s', e1, h.1, h1, h.2.2.tr E1⟩
  · obtain ⟨s', e1, h1, E1⟩ := h.2.1.setS (k := 13) (v := v) rfl (by omega)
    exact ⟨s', e1, h.1, h1, h.2.2.tr E1⟩
theorem My.s12 {v : Nat} : My M (uS M 12 v) := ⟨fun k h1 h2 => upN_n h1, rfl, fun _ _ => rfl⟩
theorem My.s13 {v : Nat} : My M (uS M 13 v) := ⟨fun k h1 h2 => upN_n h2, rfl, fun _ _ => rfl⟩
/-- the reference's paper holds a game's state -/
def GR (a : Nat) (σ : Sto) (M : Ms) (w : Wd) (q : Gq) (u : Sto) : Prop := ∃ M' W', My M M' ∧ RT a σ M' W' u ∧ RW W' (wL' w q.1) ∧ M'.1 12 = q.2.1 ∧ M'.1 13 = q.2.1 - q.2.2
theorem R_gOne {u : Sto} (h : GR a σ M w q u) (i : Iv w) (hg : GJ w q.1) (hq : q.2.2 ≤ q.2.1) {x : Nat} (hx : x < wC w 0) (f : Nat) (K : Sto → Option Sto) : ∃ u', F_X10_round_L2 a (f + 1) (nI x) u K = F_X10_round_L2 a f (nI (x + 1)) u' K ∧ GR a σ M w (gOne w q x) u' := by
  have hn := i.n5
  have hn2 := i.n2
  have hc := i.c
  obtain ⟨M1, W1, y1, t1, r1, m12, m13⟩ := h
  have jv := hg.jv i
  have hnx := nxt_lt (n := wC w 0) (s := x) (by omega)
  have hne := nxt_ne (n := wC w 0) (s := x) hn2
  have hmod : nI (x + 1) - nI (x + 1) / nI (wC w 0) * nI (wC w 0) = nI (nxt (wC w 0) x) := by
    rw [pk_rem (by omega) (by omega) (by omega)]
    unfold nxt
    by_cases h1 : x + 1 < wC w 0
    · rw [if_pos h1, Nat.mod_eq_of_lt h1]
    · rw [if_neg h1, show x + 1 = wC w 0 by omega, Nat.mod_self]
  have n0 : F_X10_of u a 0 = some (nI (wC w 0)) := (R_of t1 (x := 0) (by omega)).trans (by rw [r1.c (by omega)]; rfl)
  have hcut : F_X10_isCut u a (nI x) (nI (nxt (wC w 0) x)) = some (nI (b2 (wcut w x (nxt (wC w 0) x)))) := R_isCut t1 r1 (by omega) (by omega)
  unfold gOne
  rw [F_X10_round_L2, n0, bind_some', if_neg (by rw [nI_leI (by omega) (by omega)]; omega), bind_some', if_neg (show ¬ nI (wC w 0) = 0 from fun y => by have := (nI_z (by omega)).mp y; omega), nI_add1, hmod, hcut, bind_some', ifb0]
  cases hw : wcut w x (nxt (wC w 0) x) with
  | true =>
    rw [if_pos rfl, if_pos rfl]
    exact ⟨u, rfl, M1, W1, y1, t1, r1, m12, m13⟩
  | false =>
    rw [if_neg z_f, if_neg z_f]
    have hf : ∀ W', Ax 49278 W1 W' → RW W' (wL' w q.1) := fun W' hA => r1.hand jv i.t12 (fun j hj => hA j (Or.inl hj))
    obtain ⟨u2, W2, e2, t2, L2, A2⟩ := R_lays t1 jv (x := x) (by omega) (o := nxt (wC w 0) x) (p := 49278) (by omega) (by omega) (by omega) hf
    have r2 := hf W2 A2
    have e2' : F_X10_lays u a 49278 (nI x) (nI (nxt (wC w 0) x)) = some (nI (lEv (gLt w q.1 x)).length, u2) := e2
    have hIl : Il (wC w 0) (wC w 2) x (wE w) (gLt w q.1 x) := Il_ltr (hg x (by omega)) i.m3
    have g12 : gI u2 a 10 12 = some (nI q.2.1) := by rw [t2.i12, m12]
    obtain ⟨u3, e3, t3⟩ := t2.sS (k := 12) (v := q.2.1 + (lEv (gLt w q.1 x)).length) (Or.inl rfl)
    have g13 : gI u3 a 10 13 = some (nI (q.2.1 - q.2.2)) := by
      rw [t3.i13, show (uS M1 12 (q.2.1 + (lEv (gLt w q.1 x)).length)).1 13 = M1.1 13 from rfl, m13]
    have hln : (sLg (q.1 (nxt (wC w 0) x))).length + (frs (wE w) (gLt w q.1 x) (q.1 (nxt (wC w 0) x)) (nxt (wC w 0) x)).length ≤ 120 := Nat.le_trans (frs_len (hg (nxt (wC w 0) x) (by omega)) hIl) hc
    obtain ⟨u4, M4, e4, z4, W4, t4, r4, g4⟩ := R_comes t3 r2 jv (x := nxt (wC w 0) x) (by omega) (o := 49278) (y := x) (by omega) L2 (by omega) (by omega) (fun j hj => Nat.le_trans (hIl.2.1 j hj).1 hc) (fun j hj hz => (hIl.2.1 j hj).2 hz) (fun e he => (hIl.2.2.2 e he).1) hIl.1 hln
    have e4' : F_X10_comes u3 a 49278 (nI x) (nI (nxt (wC w 0) x)) = some (nI (frs (wE w) (gLt w q.1 x) (q.1 (nxt (wC w 0) x)) (nxt (wC w 0) x)).length, u4) := e4
    have hfl : (frs (wE w) (gLt w q.1 x) (q.1 (nxt (wC w 0) x)) (nxt (wC w 0) x)).length ≤ (lEv (gLt w q.1 x)).length := List.length_filter_le ..
    obtain ⟨u5, e5, t5⟩ := t4.sS (k := 13) (v := q.2.1 - q.2.2 + ((lEv (gLt w q.1 x)).length - (frs (wE w) (gLt w q.1 x) (q.1 (nxt (wC w 0) x)) (nxt (wC w 0) x)).length)) (Or.inr rfl)
    refine ⟨u5, ?_, _, W4, (y1.tr My.s12).tr (z4.my.tr My.s13), t5, r4, ?_, ?_⟩
    · rw [e2', wbs, g12, bind_some', nI_add, e3, bind_some', g13, bind_some', e4', wbs, pk_sub hfl, nI_add, e5, bind_some']
    · show M4.1 12 = _
      rw [z4.1]
      rfl
    · show _ = q.2.1 + (lEv (gLt w q.1 x)).length - (q.2.2 + (frs (wE w) (gLt w q.1 x) (q.1 (nxt (wC w 0) x)) (nxt (wC w 0) x)).length)
      show q.2.1 - q.2.2 + ((lEv (gLt w q.1 x)).length - (frs (wE w) (gLt w q.1 x) (q.1 (nxt (wC w 0) x)) (nxt (wC w 0) x)).length) = _
      omega
theorem R_round {u : Sto} (h : GR a σ M w q u) (i : Iv w) (hg : GJ w q.1) (hq : q.2.2 ≤ q.2.1) : ∃ u', F_X10_round u a = some u' ∧ GR a σ M w (gRnd w q) u' ∧ GJ w (gRnd w q).1 ∧ (gRnd w q).2.2 ≤ (gRnd w q).2.1 := by
  have hn := i.n5
  obtain ⟨u', ⟨g1, g2, g3⟩, e1⟩ := lpS (fun f j u => F_X10_round_L2 a f (nI j) u (fun s12 => some s12)) (fun u => some u) (fun j u => GR a σ M w ((List.range j).foldl (gOne w) q) u ∧ GJ w ((List.range j).foldl (gOne w) q).1 ∧ ((List.range j).foldl (gOne w) q).2.2 ≤ ((List.range j).foldl (gOne w) q).2.1) (wC w 0) (by
    intro j f u hj ⟨g1, g2, g3⟩
    obtain ⟨u', e1, g4⟩ := R_gOne g1 i g2 g3 hj f (fun s12 => some s12)
    refine ⟨u', ?_, e1⟩
    rw [rng_fold]
    exact ⟨g4, g2.one i hj, gOne_le g3⟩) (by
    intro f u ⟨⟨M1, W1, y1, t1, r1, _⟩, _⟩
    have n0 : F_X10_of u a 0 = some (nI (wC w 0)) := (R_of t1 (x := 0) (by omega)).trans (by rw [r1.c (by omega)]; rfl)
    show F_X10_round_L2 _ _ _ _ _ = _
    rw [F_X10_round_L2, n0, bind_some', if_pos (Int32.le_refl _)]) fu u (by unfold fu; omega) ⟨h, hg, hq⟩
  obtain ⟨M1, W1, y1, t1, -⟩ := h
  refine ⟨u', ?_, g1, g2, g3⟩
  unfold F_X10_round
  rw [chk_eq t1.ok]
  exact e1
/-- the first of r + 1 rounds at which p holds -/
def fstR (p : Nat → Bool) (r : Nat) : Option Nat := (List.range (r + 1)).find? p
theorem fstR_0 (p : Nat → Bool) : fstR p 0 = if p 0 = true then some 0 else none := by
  unfold fstR
  rw [show List.range (0 + 1) = [0] from rfl, List.find?_cons]
  cases p 0 <;> rfl
theorem fstR_s (p : Nat → Bool) (r : Nat) : fstR p (r + 1) = match fstR p r with
    | some x => some x
    | none => if p (r + 1) = true then some (r + 1) else none := by
  unfold fstR
  rw [List.range_succ (n := r + 1), List.find?_append]
  cases (List.range (r + 1)).find? p with
  | some x => rfl
  | none =>
    rw [List.find?_cons]
    cases p (r + 1) <;> rfl
theorem fstR_lt {p : Nat → Bool} {r x : Nat} (h : fstR p r = some x) : x ≤ r := by
  have := List.mem_of_find?_eq_some h
  have := List.mem_range.mp this
  omega
theorem gos_step (P E : Nat → Bool) {u u' : Sto} {r f : Nat} (hr : 1 ≤ r) (hr13 : r < 13) (e5 : F_X10_round u a = some u') (la : F_X10_areLike u' a = some (nI (b2 (P r)))) (le : F_X10_areEmpty u' a = some (nI (b2 (E r)))) (K : Int32 → Int32 → Sto → Option (Int32 × Sto)) : F_X10_gossip_L66 a (f + 1) (oI (fstR P (r - 1))) (oI (fstR E (r - 1))) (nI r) u K = F_X10_gossip_L66 a f (oI (fstR P r)) (oI (fstR E r)) (nI (r + 1)) u' K := by
  have fa := fstR_s P (r - 1)
  have fe := fstR_s E (r - 1)
  rw [show r - 1 + 1 = r by omega] at fa fe
  have hE : ∀ x : Int32, (if oI (fstR E (r - 1)) = (-1 : Int32) then (F_X10_areEmpty u' a).bind fun x15 => if x15 = 0 then F_X10_gossip_L66 a f x (oI (fstR E (r - 1))) (nI r + 1) u' K else F_X10_gossip_L66 a f x (nI r) (nI r + 1) u' K else F_X10_gossip_L66 a f x (oI (fstR E (r - 1))) (nI r + 1) u' K) = F_X10_gossip_L66 a f x (oI (fstR E r)) (nI (r + 1)) u' K := by
    intro x
    rw [le, bind_some', ifb0, nI_add1, fe]
    cases hb : fstR E (r - 1) with
    | some y =>
      have hy := fstR_lt hb
      rw [show oI (some y) = nI y from rfl, if_neg (oI_n1 (by omega))]
    | none =>
      rw [show oI none = -1 from rfl, if_pos rfl]
      cases E r <;> rfl
  rw [F_X10_gossip_L66, if_neg (by rw [show (12 : Int32) = nI 12 from rfl, nI_ltI (by omega) (by omega)]; omega), e5, bind_some', jn_eq, la, bind_some', ifb0, fa]
  cases ha : fstR P (r - 1) with
  | some x =>
    have hx := fstR_lt ha
    rw [show oI (some x) = nI x from rfl, if_neg (oI_n1 (by omega))]
    exact hE (nI x)
  | none =>
    rw [show oI none = -1 from rfl, if_pos rfl]
    cases P r with
    | true => exact hE (nI r)
    | false => exact hE (-1)
theorem R_gossipL {w : Wd} {u : Sto} (h : GR a σ M w (wL w, 0, 0) u) (i : Iv w) (K : Int32 → Int32 → Sto → Option (Int32 × Sto)) : ∃ u', F_X10_gossip_L66 a fu (oI (fstR (fun r => alk w (gPl w (wL w, 0, 0) r).1) 0)) (oI (fstR (fun r => empt w (gPl w (wL w, 0, 0) r).1) 0)) 1 u K = K (oI (fstR (fun r => alk w (gPl w (wL w, 0, 0) r).1) 12)) (oI (fstR (fun r => empt w (gPl w (wL w, 0, 0) r).1) 12)) u' ∧ GR a σ M w (gPl w (wL w, 0, 0) 12) u' := by
  have hn2 := i.n2
  have q0 : GJ w (wL w) := fun x hx => i.L hx
  obtain ⟨u9, ⟨G9, -, -⟩, e9⟩ := lpG (fun f r u => F_X10_gossip_L66 a f (oI (fstR (fun r => alk w (gPl w (wL w, 0, 0) r).1) (r - 1))) (oI (fstR (fun r => empt w (gPl w (wL w, 0, 0) r).1) (r - 1))) (nI r) u K) (fun u => K (oI (fstR (fun r => alk w (gPl w (wL w, 0, 0) r).1) 12)) (oI (fstR (fun r => empt w (gPl w (wL w, 0, 0) r).1) 12)) u) (fun r u => GR a σ M w (gPl w (wL w, 0, 0) (r - 1)) u ∧ GJ w (gPl w (wL w, 0, 0) (r - 1)).1 ∧ (gPl w (wL w, 0, 0) (r - 1)).2.2 ≤ (gPl w (wL w, 0, 0) (r - 1)).2.1) 13 1 (by omega) (by
    intro r f u hr1 hr ⟨g1, g2, g3⟩
    obtain ⟨u', e5, g4, g5, g6⟩ := R_round g1 i g2 g3
    have hpl : gPl w (wL w, 0, 0) (r - 1 + 1) = gRnd w (gPl w (wL w, 0, 0) (r - 1)) := rfl
    rw [← hpl, show r - 1 + 1 = r by omega] at g4 g5 g6
    refine ⟨u', ⟨by rw [Nat.add_sub_cancel]; exact g4, by rw [Nat.add_sub_cancel]; exact g5, by rw [Nat.add_sub_cancel]; exact g6⟩, ?_⟩
    obtain ⟨M6, W6, y6, t6, r6, -⟩ := g4
    have j6 := g5.jv i
    have la : F_X10_areLike u' a = some (nI (b2 (alk w (gPl w (wL w, 0, 0) r).1))) := R_areLike t6 r6 j6 (show 1 ≤ wC w 0 by omega)
    have le : F_X10_areEmpty u' a = some (nI (b2 (empt w (gPl w (wL w, 0, 0) r).1))) := R_areEmpty t6 r6 j6
    show F_X10_gossip_L66 _ _ _ _ _ _ _ = F_X10_gossip_L66 _ _ _ _ _ _ _
    rw [Nat.add_sub_cancel]
    exact gos_step (fun r => alk w (gPl w (wL w, 0, 0) r).1) (fun r => empt w (gPl w (wL w, 0, 0) r).1) hr1 hr e5 la le K) (by
    intro f u _
    show F_X10_gossip_L66 _ _ _ _ _ _ _ = _
    rw [F_X10_gossip_L66, if_pos (by decide)]) fu u (by unfold fu; omega) ⟨h, q0, Nat.le_refl _⟩
  exact ⟨u9, e9, G9⟩
theorem gos_pre {s4 : Sto} (X : Int32 → Int32 → Option (Int32 × Sto)) (bl be : Bool) (hal : F_X10_areLike s4 a = some (nI (b2 bl))) (hem : F_X10_areEmpty s4 a = some (nI (b2 be))) : ((F_X10_areLike s4 a).bind fun x6 => jn (fun (x8 : Int32) => (F_X10_areEmpty s4 a).bind fun x9 => jn (fun (x11 : Int32) => X x8 x11) fun j10 => if x9 = 0 then j10 (-1 : Int32) else j10 (0 : Int32)) fun j7 => if x6 = 0 then j7 (-1 : Int32) else j7 (0 : Int32)) = X (oI (if bl = true then some 0 else none)) (oI (if be = true then some 0 else none)) := by
  rw [hal, hem]
  cases bl <;> cases be <;> rfl
theorem R_gossip (h : RJ s a c A) (i : Iv A.1) (hi : ∀ k v, A.2.1 k = some v → Iv v) (k : Int32) : Rj s a (cd1 eIA) (F_X10_gossip s a k) (aGos A k) := by
  obtain ⟨s1, M, e1, h1, k1, t1, E1, o⟩ := h.go1
  have hn := i.n5
  have hn2 := i.n2
  unfold F_X10_gossip aGos
  rw [chk_eq o, e1, bind_some', isIn_3, bind_some', ifb0]
  cases hk : inR k 4 with
  | false => exact Rj.fl h1 k1 E1 cd1_1
  | true =>
    obtain ⟨k1', k2⟩ := inR_tN (by omega) hk
    generalize tN k = k' at k1' k2
    subst k1'
    obtain ⟨s2, N, e2, h2, kN, bN, zN, rN, E2⟩ := R_onPaper h1 k1 i hi
    have tN := RT.begin h2 (by omega)
    obtain ⟨s3, e3, t3⟩ := tN.sS (k := 12) (v := 0) (Or.inl rfl)
    obtain ⟨s4, e4, t4⟩ := t3.sS (k := 13) (v := 0) (Or.inr rfl)
    have q0 : GJ A.1 (wL A.1) := fun x hx => i.L hx
    have hwl : wL' A.1 (wL A.1) = A.1 := rfl
    have G0 : GR a s2 N A.1 (wL A.1, 0, 0) s4 := ⟨_, _, My.s12.tr My.s13, t4, rN, rfl, rfl⟩
    have hal := R_areLike t4 rN i.j (by omega)
    have hem := R_areEmpty t4 rN i.j
    rw [if_pos rfl, if_pos rfl, e2, bind_some', show sV s2 a 10 12 (.int 0) = _ from e3, bind_some', show sV s3 a 10 13 (.int 0) = _ from e4, bind_some']
    obtain ⟨u9, e9, G9⟩ := R_gossipL G0 i (fun x17 x18 s19 => (sV s19 a 10 3 (.int (0 : Int32))).bind fun s20 => if nI k' = 0 then some (x17, s20) else if nI k' = (1 : Int32) then some (x18, s20) else if nI k' = (2 : Int32) then (gI s20 a 10 12).bind fun x22 => some (x22, s20) else (gI s20 a 10 13).bind fun x21 => some (x21, s20))
    obtain ⟨M9, W9, y9, t9, r9, m12, m13⟩ := G9
    obtain ⟨u10, e10, h10, E10⟩ := t9.2.1.b0 0
    have b10 : RB u10 a (uS (wM M9 W9) 3 0) A := ⟨h10, (kN.pap (W' := W9) i hi bN y9).b0 (Nat.zero_le _), rfl, by show M9.1 0 = 0; rw [y9.1 0 (by decide) (by decide)]; exact zN.trans t1⟩
    have EE := ((E1.tr E2).tr t9.2.2).tr E10
    have g12 : gI u10 a 10 12 = some (nI (gPl A.1 (wL A.1, 0, 0) 12).2.1) := by
      have : gI u10 a 10 12 = some (nI (M9.1 12)) := gI_cel h10.1 rfl
      rw [this, m12]
    have g13 : gI u10 a 10 13 = some (nI ((gPl A.1 (wL A.1, 0, 0) 12).2.1 - (gPl A.1 (wL A.1, 0, 0) 12).2.2)) := by
      have : gI u10 a 10 13 = some (nI (M9.1 13)) := gI_cel h10.1 rfl
      rw [this, m13]
    have hfin : Rj s a (cd1 eIA) (F_X10_gossip_L66 a fu (oI (fstR (fun r => alk A.1 (gPl A.1 (wL A.1, 0, 0) r).1) 0)) (oI (fstR (fun r => empt A.1 (gPl A.1 (wL A.1, 0, 0) r).1) 0)) 1 s4 (fun x17 x18 s19 => (sV s19 a 10 3 (.int (0 : Int32))).bind fun s20 => if nI k' = 0 then some (x17, s20) else if nI k' = (1 : Int32) then some (x18, s20) else if nI k' = (2 : Int32) then (gI s20 a 10 12).bind fun x22 => some (x22, s20) else (gI s20 a 10 13).bind fun x21 => some (x21, s20))) (.inl (gAns A.1 (wL A.1, 0, 0) k'), A) := by
      refine (congrArg (fun f => Rj s a _ f _) e9).mpr ?_
      rw [show sV u9 a 10 3 (.int 0) = _ from e10, bind_some', g12, bind_some', g13, bind_some']
      unfold gAns
      rcases (show k' = 0 ∨ k' = 1 ∨ k' = 2 ∨ k' = 3 by omega) with rfl | rfl | rfl | rfl
      · rw [if_pos nI_0]; exact Rj.ok b10 EE
      · rw [if_neg z_1, if_pos (show nI 1 = (1 : Int32) from rfl)]; exact Rj.ok b10 EE
      · rw [if_neg z_2, if_neg (show ¬ nI 2 = (1 : Int32) by decide), if_pos (show nI 2 = (2 : Int32) from rfl)]; exact Rj.ok b10 EE
      · rw [if_neg z_3, if_neg (show ¬ nI 3 = (1 : Int32) by decide), if_neg (show ¬ nI 3 = (2 : Int32) by decide)]; exact Rj.ok b10 EE
    have h0a : fstR (fun r => alk A.1 (gPl A.1 (wL A.1, 0, 0) r).1) 0 = if alk A.1 (wL A.1) = true then some 0 else none := fstR_0 _
    have h0b : fstR (fun r => empt A.1 (gPl A.1 (wL A.1, 0, 0) r).1) 0 = if empt A.1 (wL A.1) = true then some 0 else none := fstR_0 _
    rw [h0a, h0b] at hfin
    refine (congrArg (fun f => Rj s a _ f _) (gos_pre (fun x8 x11 => F_X10_gossip_L66 a fu x8 x11 1 s4 (fun x17 x18 s19 => (sV s19 a 10 3 (.int (0 : Int32))).bind fun s20 => if nI k' = 0 then some (x17, s20) else if nI k' = (1 : Int32) then some (x18, s20) else if nI k' = (2 : Int32) then (gI s20 a 10 12).bind fun x22 => some (x22, s20) else (gI s20 a 10 13).bind fun x21 => some (x21, s20))) _ _ hal hem)).mpr ?_
    exact hfin
end RGA
