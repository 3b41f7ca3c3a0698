/-! ===== PURE 45: the class's couples: the search ===== -/
theorem lfS {α ρ S : Type} (L : Nat → Nat → S → ρ) (h : Nat → Option α) (K : S → ρ) (Inv : S → Prop) (Q : α → ρ → Prop) (N : Nat) (hs : ∀ i f s, i < N → Inv s → (h i = none ∧ ∃ s', Inv s' ∧ L (f + 1) i s = L f (i + 1) s') ∨ ∃ y, h i = some y ∧ Q y (L (f + 1) i s)) (he : ∀ f s, Inv s → L (f + 1) N s = K s) (F : Nat) (s : S) (hF : N < F) (h0 : Inv s) : ((List.range N).findSome? h = none ∧ ∃ s', Inv s' ∧ L F 0 s = K s') ∨ ∃ y, (List.range N).findSome? h = some y ∧ Q y (L F 0 s) := by
  have key : ∀ d i f s, i + d = N → d < f → Inv s → (∀ j, j < i → h j = none) → ((List.range N).findSome? h = none ∧ ∃ s', Inv s' ∧ L f i s = K s') ∨ ∃ y, (List.range N).findSome? h = some y ∧ Q y (L f i s) := by
    intro d
    induction d with
    | zero =>
      intro i f s h1 h2 h3 h4
      cases f with
      | zero => omega
      | succ f =>
        have hi : i = N := by omega
        subst hi
        exact Or.inl ⟨List.findSome?_eq_none_iff.mpr (fun j hj => h4 j (List.mem_range.mp hj)), s, h3, he f s h3⟩
    | succ d ih =>
      intro i f s h1 h2 h3 h4
      cases f with
      | zero => omega
      | succ f =>
        rcases hs i f s (by omega) h3 with ⟨hn, s', i', e'⟩ | ⟨y, hy, q⟩
        · rw [e']
          exact ih (i + 1) f s' (by omega) (by omega) i' (fun j hj => by
            by_cases hji : j = i
            · subst hji; exact hn
            · exact h4 j (by omega))
        · refine Or.inr ⟨y, ?_, q⟩
          rw [List.findSome?_eq_some_iff]
          refine ⟨List.range i, i, (List.range (N - (i + 1))).map (fun j => i + 1 + j), ?_, hy, fun j hj => h4 j (List.mem_range.mp hj)⟩
          have e1 : List.range N = List.range (i + 1 + (N - (i + 1))) := by rw [show i + 1 + (N - (i + 1)) = N by omega]
          rw [e1, List.range_add, List.range_succ, List.append_assoc]
          rfl
  exact key N 0 F s (by omega) hF h0 (fun j hj => absurd hj (Nat.not_lt_zero j))
abbrev Pq : Type := List (Nat × Nat)
def tkc (w : Wd) (r : Nat → Nat) (f o : Nat) : Bool := !decide (f = o) && !wcut w f o && !decide (r f ||| r o = r o)
def rst (r : Nat → Nat) (f o : Nat) : Nat → Nat := up r o (r f ||| r o)
def srch (w : Wd) (n a : Nat) : Nat → (Nat → Nat) → Option Pq
  | 0, r => if lea r a n = 0 then some [] else none
  | m + 1, r => if lea r a n = 0 then none else if m + 1 < lea r a n then none else (List.range n).findSome? (fun f => (List.range n).findSome? (fun o => if tkc w r f o then (srch w n a m (rst r f o)).map (fun p => (f, o) :: p) else none))
theorem tkc_cg {w : Wd} {r r' : Nat → Nat} {f o : Nat} (h1 : r f = r' f) (h2 : r o = r' o) : tkc w r f o = tkc w r' f o := by
  unfold tkc; rw [h1, h2]
theorem lea_cg {r r' : Nat → Nat} {a n : Nat} (h : ∀ s, s < n → r s = r' s) : lea r a n = lea r' a n := by
  unfold lea
  rw [tgt_cg h, show lck r a n = lck r' a n from fb_ct_cong (fun s hs => by rw [h s hs])]
theorem fsA_cg {α : Type} {f g : Nat → Option α} {n : Nat} (h : ∀ i, i < n → f i = g i) : (List.range n).findSome? f = (List.range n).findSome? g := by
  have : ∀ (l : List Nat), (∀ i ∈ l, f i = g i) → l.findSome? f = l.findSome? g := by
    intro l
    induction l with
    | nil => intro _; rfl
    | cons a l ih =>
      intro hl
      rw [List.findSome?_cons, List.findSome?_cons, hl a List.mem_cons_self, ih (fun i hi => hl i (List.mem_cons_of_mem _ hi))]
  exact this _ (fun i hi => h i (List.mem_range.mp hi))
theorem srch_cg {w : Wd} {n a : Nat} : ∀ (m : Nat) {r r' : Nat → Nat}, (∀ s, s < n → r s = r' s) → srch w n a m r = srch w n a m r'
  | 0, r, r', h => by
    show (if lea r a n = 0 then some [] else none) = if lea r' a n = 0 then some [] else none
    rw [lea_cg h]
  | m + 1, r, r', h => by
    have hin : ∀ f, f < n → ∀ o, o < n → (if tkc w r f o = true then (srch w n a m (rst r f o)).map (fun p => (f, o) :: p) else none) = if tkc w r' f o = true then (srch w n a m (rst r' f o)).map (fun p => (f, o) :: p) else none := by
      intro f hf o ho
      have ht : tkc w r f o = tkc w r' f o := by unfold tkc; rw [h f hf, h o ho]
      rw [ht, srch_cg m (r := rst r f o) (r' := rst r' f o) (fun s hs => by
        unfold rst
        rw [h f hf, h o ho]
        by_cases hso : s = o
        · rw [hso, up_s, up_s]
        · rw [up_n _ _ hso, up_n _ _ hso]; exact h s hs)]
    show (if lea r a n = 0 then none else if m + 1 < lea r a n then none else (List.range n).findSome? (fun f => (List.range n).findSome? (fun o => if tkc w r f o then (srch w n a m (rst r f o)).map (fun p => (f, o) :: p) else none))) = _
    rw [lea_cg h, fsA_cg (fun f hf => fsA_cg (fun o ho => hin f hf o ho))]
    rfl
theorem lea_lt (r : Nat → Nat) (a : Nat) {n : Nat} (hn : n ≤ 4) (hn0 : 0 < n) : lea r a n < 2 ^ 20 := by
  have h1 := lck_le r a n
  have hpw : 2 ^ n ≤ 2 ^ 4 := pw_le hn
  have hpp : 0 < 2 ^ n := Nat.two_pow_pos _
  have hb := tgt_b (r := r) (a := a) hn0 (k := 2 ^ n - 1) (by omega)
  unfold lea
  split <;> omega
section CPT
variable {O : Nat → Prop} {L : Nat → Nat} {σ t : Sto} {b q a : Nat} {x : Int32} {F S K : Nat → Nat} {w : Wd} {sl : Nat → Nat → Option Nat}
theorem C_tell0 (h : CW O L σ b w sl) (hp : CP σ q b x a F S K) (hn : wC w 0 ≤ 4) {d f o : Nat} (hd : d < 6) (hf : f < wC w 0) (ho : o < wC w 0) (hK : ∀ s, s < wC w 0 → K (d * 4 + s) < 2 ^ 16) (ht : tkc w (fun s => K (d * 4 + s)) f o = false) : F_X0_tell σ q (nI d) (nI f) (nI o) = some ((0 : Int32), σ) := by
  have k1 := hK f hf
  have k2 := hK o ho
  have k3 := or_lt k1 k2
  unfold F_X0_tell
  rw [chk_eq hp.ok, hp.r5, bind_some', l_4, pk_mul, nI_add, hp.rk (by omega), bind_some', bind_some', nI_add, hp.rk (by omega), bind_some', ifE (by omega) (by omega)]
  by_cases hfo : f = o
  · rw [if_pos hfo]
  · rw [if_neg hfo, hp.r2, bind_some', C_isCut h (by omega) (by omega), bind_some', ifb0]
    cases hc : wcut w f o with
    | true => exact if_pos rfl
    | false =>
      rw [if_neg (by decide), bind_some', hp.rk (by omega), bind_some', nI_or, ifE (by omega) (by omega)]
      have hq : K (d * 4 + f) ||| K (d * 4 + o) = K (d * 4 + o) := by
        unfold tkc at ht
        rw [hc, decide_eq_false hfo] at ht
        simpa using ht
      rw [if_pos hq]
theorem C_tellC (h : CW O L σ b w sl) (hp : CP σ q b x a F S K) (hO : Ac O q) (hn : wC w 0 ≤ 4) {d : Nat} (hd : d < 6) (k : Sto → Option (Int32 × Sto)) : ∃ t K', F_X0_tell_L68 q (nI (d * 4)) (nI (d * 4 + 4)) fu (nI 0) σ k = k t ∧ CP t q b x a F S K' ∧ Fr q 4 σ t ∧ (∀ s, s < wC w 0 → K' (d * 4 + 4 + s) = K (d * 4 + s)) ∧ ∀ i, i < d * 4 + 4 → K' i = K i := by
  obtain ⟨t1, ⟨K1, p1, F1, k1, k2⟩, e1⟩ := lpS (fun fl j t => F_X0_tell_L68 q (nI (d * 4)) (nI (d * 4 + 4)) fl (nI j) t k) k (fun j t => ∃ K', CP t q b x a F S K' ∧ Fr q 4 σ t ∧ (∀ s, s < j → K' (d * 4 + 4 + s) = K (d * 4 + s)) ∧ ∀ i, i < d * 4 + 4 → K' i = K i) (wC w 0) (by
    intro j fl t hj ⟨K1, p1, F1, k1, k2⟩
    have h1 := h.ac hO F1
    obtain ⟨t2, e2, p2, F2⟩ := p1.wk (j := d * 4 + 4 + j) (v := K1 (d * 4 + j)) (by omega)
    refine ⟨t2, ⟨_, p2, F1.tr F2, fun s hs => ?_, fun i hi => (upN_n (show i ≠ d * 4 + 4 + j by omega)).trans (k2 i hi)⟩, ?_⟩
    · by_cases hsj : s = j
      · rw [hsj]; exact upN_s.trans (k2 _ (by omega))
      · exact (upN_n (show d * 4 + 4 + s ≠ d * 4 + 4 + j by omega)).trans (k1 s (by omega))
    · show F_X0_tell_L68 q (nI (d * 4)) (nI (d * 4 + 4)) (fl + 1) (nI j) t k = F_X0_tell_L68 q (nI (d * 4)) (nI (d * 4 + 4)) fl (nI (j + 1)) t2 k
      rw [F_X0_tell_L68, p1.r2, bind_some', h1.i0, bind_some', if_neg (by rw [nI_leI (by omega) (by omega)]; omega), p1.r5, bind_some', bind_some', nI_add, p1.rk (by omega), bind_some', nI_add, e2, bind_some', l_1, nI_add]) (by
    intro fl t ⟨K1, p1, F1, k1, k2⟩
    have h1 := h.ac hO F1
    show F_X0_tell_L68 q (nI (d * 4)) (nI (d * 4 + 4)) (fl + 1) (nI (wC w 0)) t k = k t
    rw [F_X0_tell_L68, p1.r2, bind_some', h1.i0, bind_some', if_pos (nI_le (Nat.le_refl _) (by omega))]) fu σ (by unfold fu; omega) ⟨K, hp, Fr.rf, fun s hs => absurd hs (Nat.not_lt_zero s), fun _ _ => rfl⟩
  exact ⟨t1, K1, e1, p1, F1, k1, k2⟩
theorem C_tell1 (h : CW O L σ b w sl) (hp : CP σ q b x a F S K) (hO : Ac O q) (hn : wC w 0 ≤ 4) {d f o : Nat} (hd : d < 6) (hf : f < wC w 0) (ho : o < wC w 0) (hK : ∀ s, s < wC w 0 → K (d * 4 + s) < 2 ^ 16) (ht : tkc w (fun s => K (d * 4 + s)) f o = true) : ∃ t K', F_X0_tell σ q (nI d) (nI f) (nI o) = some ((1 : Int32), t) ∧ CP t q b x a (upN F d f) (upN S d o) K' ∧ Fr q 4 σ t ∧ (∀ s, s < wC w 0 → K' ((d + 1) * 4 + s) = rst (fun s => K (d * 4 + s)) f o s) ∧ ∀ i, i < (d + 1) * 4 → K' i = K i := by
  have k1 := hK f hf
  have k2 := hK o ho
  have k3 := or_lt k1 k2
  have hfo : ¬ f = o := by
    intro z
    unfold tkc at ht
    rw [decide_eq_true z] at ht
    simp at ht
  have hc : wcut w f o = false := by
    unfold tkc at ht
    cases hc : wcut w f o
    · rfl
    · rw [hc] at ht; simp at ht
  have hq : ¬ (K (d * 4 + f) ||| K (d * 4 + o) = K (d * 4 + o)) := by
    intro z
    unfold tkc at ht
    dsimp only at ht
    rw [decide_eq_true z] at ht
    simp at ht
  obtain ⟨t1, K1, e1, p1, F1, j1, j2⟩ := C_tellC h hp hO hn hd (fun s15 => (gR s15 q 0 5).bind fun p16 => (iast s15 p16 (nI (d * 4 + 4) + nI o) (nI (K (d * 4 + f) ||| K (d * 4 + o)))).bind fun s17 => (gR s17 q 0 3).bind fun p18 => (iast s17 p18 (nI d) (nI f)).bind fun s19 => (gR s19 q 0 4).bind fun p20 => (iast s19 p20 (nI d) (nI o)).bind fun s21 => some ((1 : Int32), s21))
  obtain ⟨t2, e2, p2, F2⟩ := p1.wk (j := d * 4 + 4 + o) (v := K (d * 4 + f) ||| K (d * 4 + o)) (by omega)
  obtain ⟨t3, e3, p3, F3⟩ := p2.wf (j := d) (v := f) hd
  obtain ⟨t4, e4, p4, F4⟩ := p3.ws (j := d) (v := o) hd
  refine ⟨t4, _, ?_, p4, ((F1.tr F2).tr F3).tr F4, fun s hs => ?_, fun i hi => (upN_n (show i ≠ d * 4 + 4 + o by omega)).trans (j2 i (by omega))⟩
  · unfold F_X0_tell
    rw [chk_eq hp.ok, hp.r5, bind_some', l_4, pk_mul, nI_add, hp.rk (by omega), bind_some', bind_some', nI_add, hp.rk (by omega), bind_some', ifE (by omega) (by omega), if_neg hfo, hp.r2, bind_some', C_isCut h (by omega) (by omega), bind_some', ifb0, hc, if_neg (by decide), bind_some', hp.rk (by omega), bind_some', nI_or, ifE (by omega) (by omega), if_neg hq, nI_add, l_0]
    refine e1.trans ?_
    rw [p1.r5, bind_some', nI_add, e2, bind_some', p2.r3, bind_some', e3, bind_some', p3.r4, bind_some', e4, bind_some']
  · rw [show (d + 1) * 4 + s = d * 4 + 4 + s by omega]
    unfold rst
    by_cases hso : s = o
    · rw [hso, up_s]; exact upN_s
    · rw [up_n _ _ hso]; exact (upN_n (show d * 4 + 4 + s ≠ d * 4 + 4 + o by omega)).trans (j1 s hs)
/-- what a search at depth d leaves: the rows up to d, and the couples ahead of d -/
def SrI (σ t : Sto) (q b : Nat) (x : Int32) (a d : Nat) (F S K F' S' K' : Nat → Nat) : Prop := CP t q b x a F' S' K' ∧ Fr q 4 σ t ∧ (∀ i, i < (d + 1) * 4 → K' i = K i) ∧ ∀ i, i < d → F' i = F i ∧ S' i = S i
def SrQ (σ : Sto) (q b : Nat) (x : Int32) (a d : Nat) (F S K : Nat → Nat) (p : Pq) (res : Option (Int32 × Sto)) : Prop := ∃ t F' S' K', res = some ((1 : Int32), t) ∧ SrI σ t q b x a d F S K F' S' K' ∧ ∀ i y, p[i]? = some y → F' (d + i) = y.1 ∧ S' (d + i) = y.2
theorem C_search (hO : Ac O q) (hn : wC w 0 ≤ 4) (hn0 : 0 < wC w 0) (ha : a < 2 ^ 16) {lim : Nat} (hlim : lim ≤ 6) : ∀ (m d fl : Nat) (σ : Sto) (F S K : Nat → Nat), d + m = lim → m < fl → CW O L σ b w sl → CP σ q b x a F S K → (∀ s, s < wC w 0 → K (d * 4 + s) < 2 ^ 16) → (srch w (wC w 0) a m (fun s => K (d * 4 + s)) = none ∧ ∃ t F' S' K', F_X0_search fl σ q (nI d) (nI lim) = some ((0 : Int32), t) ∧ SrI σ t q b x a d F S K F' S' K') ∨ ∃ p, srch w (wC w 0) a m (fun s => K (d * 4 + s)) = some p ∧ SrQ σ q b x a d F S K p (F_X0_search fl σ q (nI d) (nI lim)) := by
  intro m
  induction m with
  | zero =>
    intro d fl σ F S K hdm hfl h hp hK
    cases fl with
    | zero => omega
    | succ fl =>
      have hI : SrI σ σ q b x a d F S K F S K := ⟨hp, Fr.rf, fun _ _ => rfl, fun _ _ => ⟨rfl, rfl⟩⟩
      have hlb : lea (fun s => K (d * 4 + s)) a (wC w 0) < 2 ^ 20 := lea_lt _ _ hn hn0
      have hs : srch w (wC w 0) a 0 (fun s => K (d * 4 + s)) = if lea (fun s => K (d * 4 + s)) a (wC w 0) = 0 then some [] else none := rfl
      have he : F_X0_search (fl + 1) σ q (nI d) (nI lim) = if lea (fun s => K (d * 4 + s)) a (wC w 0) = 0 then some ((1 : Int32), σ) else some ((0 : Int32), σ) := by
        show F_X0_search_B _ σ q (nI d) (nI lim) = _
        unfold F_X0_search_B
        rw [C_leastFrom h hp hn hn0 ha (by omega) hK, bind_some', l_0, ifE (by omega) (by omega), if_pos (show nI d = nI lim by rw [show d = lim by omega])]
        by_cases h0 : lea (fun s => K (d * 4 + s)) a (wC w 0) = 0
        · rw [if_pos h0, if_pos h0]
        · rw [if_neg h0, if_neg h0]
          by_cases h6 : 6 ≤ d
          · rw [if_pos (by rw [show (6 : Int32) = nI 6 from rfl]; exact nI_le h6 (by omega))]
          · rw [if_neg (by rw [show (6 : Int32) = nI 6 from rfl, nI_leI (by omega) (by omega)]; exact h6), nI_add, if_neg (by rw [nI_leI (by omega) (by omega)]; omega)]
      rw [hs, he]
      by_cases h0 : lea (fun s => K (d * 4 + s)) a (wC w 0) = 0
      · rw [if_pos h0, if_pos h0]
        exact Or.inr ⟨[], rfl, σ, F, S, K, rfl, hI, fun i y hy => by simp at hy⟩
      · rw [if_neg h0, if_neg h0]
        exact Or.inl ⟨rfl, σ, F, S, K, rfl, hI⟩
  | succ m ih =>
    intro d fl σ F S K hdm hfl h hp hK
    cases fl with
    | zero => omega
    | succ fl =>
      have hI : SrI σ σ q b x a d F S K F S K := ⟨hp, Fr.rf, fun _ _ => rfl, fun _ _ => ⟨rfl, rfl⟩⟩
      have hlb : lea (fun s => K (d * 4 + s)) a (wC w 0) < 2 ^ 20 := lea_lt _ _ hn hn0
      have hs : srch w (wC w 0) a (m + 1) (fun s => K (d * 4 + s)) = if lea (fun s => K (d * 4 + s)) a (wC w 0) = 0 then none else if m + 1 < lea (fun s => K (d * 4 + s)) a (wC w 0) then none else (List.range (wC w 0)).findSome? (fun f => (List.range (wC w 0)).findSome? (fun o => if tkc w (fun s => K (d * 4 + s)) f o then (srch w (wC w 0) a m (rst (fun s => K (d * 4 + s)) f o)).map (fun p => (f, o) :: p) else none)) := rfl
      have he : F_X0_search (fl + 1) σ q (nI d) (nI lim) = if lea (fun s => K (d * 4 + s)) a (wC w 0) = 0 then some ((0 : Int32), σ) else if m + 1 < lea (fun s => K (d * 4 + s)) a (wC w 0) then some ((0 : Int32), σ) else F_X0_search_L39 (F_X0_search fl) q (nI d) (nI lim) fu (nI 0) σ (fun s11 => some ((0 : Int32), s11)) := by
        show F_X0_search_B _ σ q (nI d) (nI lim) = _
        unfold F_X0_search_B
        rw [C_leastFrom h hp hn hn0 ha (by omega) hK, bind_some', l_0, ifE (by omega) (by omega), if_neg (fun z => absurd ((nI_eq (by omega) (by omega)).mp z) (show ¬ d = lim by omega))]
        by_cases h0 : lea (fun s => K (d * 4 + s)) a (wC w 0) = 0
        · rw [if_pos h0, if_pos h0]
        · rw [if_neg h0, if_neg h0, if_neg (by rw [show (6 : Int32) = nI 6 from rfl, nI_leI (by omega) (by omega)]; omega), nI_add]
          by_cases h1 : m + 1 < lea (fun s => K (d * 4 + s)) a (wC w 0)
          · rw [if_pos h1, if_neg (by rw [nI_leI (by omega) (by omega)]; omega)]
          · rw [if_neg h1, if_pos (nI_le (by omega) (by omega))]
      rw [hs, he]
      by_cases h0 : lea (fun s => K (d * 4 + s)) a (wC w 0) = 0
      · rw [if_pos h0, if_pos h0]
        exact Or.inl ⟨rfl, σ, F, S, K, rfl, hI⟩
      rw [if_neg h0, if_neg h0]
      by_cases h1 : m + 1 < lea (fun s => K (d * 4 + s)) a (wC w 0)
      · rw [if_pos h1, if_pos h1]
        exact Or.inl ⟨rfl, σ, F, S, K, rfl, hI⟩
      rw [if_neg h1, if_neg h1]
      have inner : ∀ f, f < wC w 0 → ∀ (k : Sto → Option (Int32 × Sto)) (t : Sto), (∃ F' S' K', SrI σ t q b x a d F S K F' S' K') → ((List.range (wC w 0)).findSome? (fun o => if tkc w (fun s => K (d * 4 + s)) f o then (srch w (wC w 0) a m (rst (fun s => K (d * 4 + s)) f o)).map (fun p => (f, o) :: p) else none) = none ∧ ∃ t', (∃ F' S' K', SrI σ t' q b x a d F S K F' S' K') ∧ F_X0_search_L54 (F_X0_search fl) q (nI d) (nI lim) (nI f) fu (nI 0) t k = k t') ∨ ∃ p, (List.range (wC w 0)).findSome? (fun o => if tkc w (fun s => K (d * 4 + s)) f o then (srch w (wC w 0) a m (rst (fun s => K (d * 4 + s)) f o)).map (fun p => (f, o) :: p) else none) = some p ∧ SrQ σ q b x a d F S K p (F_X0_search_L54 (F_X0_search fl) q (nI d) (nI lim) (nI f) fu (nI 0) t k) := by
        intro f hf k t hIt
        refine lfS (fun fl2 o t => F_X0_search_L54 (F_X0_search fl) q (nI d) (nI lim) (nI f) fl2 (nI o) t k) _ k (fun t => ∃ F' S' K', SrI σ t q b x a d F S K F' S' K') (fun p res => SrQ σ q b x a d F S K p res) (wC w 0) ?_ ?_ fu t (by unfold fu; omega) hIt
        · intro o fl2 u ho ⟨F1, S1, K1, p1, G1, q1, q2⟩
          have h1 := h.ac hO G1
          have er : ∀ s, s < wC w 0 → K1 (d * 4 + s) = K (d * 4 + s) := fun s hs => q1 _ (by omega)
          have hK1 : ∀ s, s < wC w 0 → K1 (d * 4 + s) < 2 ^ 16 := fun s hs => by rw [er s hs]; exact hK s hs
          have et : tkc w (fun s => K1 (d * 4 + s)) f o = tkc w (fun s => K (d * 4 + s)) f o := tkc_cg (er f hf) (er o ho)
          have go : ∀ (v : Int32) (u2 : Sto), F_X0_tell u q (nI d) (nI f) (nI o) = some (v, u2) → F_X0_search_L54 (F_X0_search fl) q (nI d) (nI lim) (nI f) (fl2 + 1) (nI o) u k = if v = 0 then F_X0_search_L54 (F_X0_search fl) q (nI d) (nI lim) (nI f) fl2 (nI (o + 1)) u2 k else wb (F_X0_search fl u2 q (nI (d + 1)) (nI lim)) fun x9 s8 => if x9 = 0 then F_X0_search_L54 (F_X0_search fl) q (nI d) (nI lim) (nI f) fl2 (nI (o + 1)) s8 k else some ((1 : Int32), s8) := by
            intro v u2 hv
            rw [F_X0_search_L54, p1.r2, bind_some', h1.i0, bind_some', if_neg (by rw [nI_leI (by omega) (by omega)]; omega), hv, wbs, l_1, nI_add, nI_add]
          cases htk : tkc w (fun s => K (d * 4 + s)) f o with
          | false =>
            refine Or.inl ⟨if_neg (by decide), u, ⟨F1, S1, K1, p1, G1, q1, q2⟩, ?_⟩
            rw [go _ _ (C_tell0 h1 p1 hn (by omega) hf ho hK1 (et.trans htk)), if_pos rfl]
          | true =>
            rw [if_pos rfl]
            obtain ⟨u2, K2, e2, p2, G2, j1, j2⟩ := C_tell1 h1 p1 hO hn (by omega) hf ho hK1 (et.trans htk)
            have hr : ∀ s, s < wC w 0 → K2 ((d + 1) * 4 + s) = rst (fun s => K (d * 4 + s)) f o s := by
              intro s hs
              rw [j1 s hs]
              unfold rst
              dsimp only
              rw [er f hf, er o ho]
              by_cases hso : s = o
              · rw [hso, up_s, up_s]
              · rw [up_n _ _ hso, up_n _ _ hso]; exact er s hs
            have hK2 : ∀ s, s < wC w 0 → K2 ((d + 1) * 4 + s) < 2 ^ 16 := by
              intro s hs
              rw [hr s hs]
              unfold rst
              by_cases hso : s = o
              · rw [hso, up_s]; exact or_lt (hK f hf) (hK o ho)
              · rw [up_n _ _ hso]; exact hK s hs
            have hsr : srch w (wC w 0) a m (fun s => K2 ((d + 1) * 4 + s)) = srch w (wC w 0) a m (rst (fun s => K (d * 4 + s)) f o) := srch_cg m hr
            rcases ih (d + 1) fl u2 _ _ K2 (by omega) (by omega) (h1.ac hO G2) p2 hK2 with ⟨n1, t3, F3, S3, K3, e3, p3, G3, r3, r4⟩ | ⟨p, n1, t3, F3, S3, K3, e3, ⟨p3, G3, r3, r4⟩, r5⟩
            · rw [hsr] at n1
              refine Or.inl ⟨by rw [n1]; rfl, t3, ⟨F3, S3, K3, p3, (G1.tr G2).tr G3, fun i hi => ?_, fun i hi => ?_⟩, ?_⟩
              · rw [r3 i (by omega), j2 i hi, q1 i hi]
              · have := r4 i (by omega)
                rw [this.1, this.2]
                exact ⟨(upN_n (show i ≠ d by omega)).trans (q2 i hi).1, (upN_n (show i ≠ d by omega)).trans (q2 i hi).2⟩
              · rw [go _ _ e2, if_neg (by decide), e3, wbs, if_pos rfl]
            · rw [hsr] at n1
              refine Or.inr ⟨(f, o) :: p, by rw [n1]; rfl, t3, F3, S3, K3, ?_, ⟨p3, (G1.tr G2).tr G3, fun i hi => ?_, fun i hi => ?_⟩, fun i y hy => ?_⟩
              · rw [go _ _ e2, if_neg (by decide), e3, wbs, if_neg (by decide)]
              · rw [r3 i (by omega), j2 i hi, q1 i hi]
              · have := r4 i (by omega)
                rw [this.1, this.2]
                exact ⟨(upN_n (show i ≠ d by omega)).trans (q2 i hi).1, (upN_n (show i ≠ d by omega)).trans (q2 i hi).2⟩
              · cases i with
                | zero =>
                  rw [List.getElem?_cons_zero] at hy
                  cases hy
                  have := r4 d (by omega)
                  rw [Nat.add_zero, this.1, this.2]
                  exact ⟨upN_s, upN_s⟩
                | succ i =>
                  rw [List.getElem?_cons_succ] at hy
                  have := r5 i y hy
                  rw [show d + (i + 1) = d + 1 + i by omega]
                  exact this
        · intro fl2 u ⟨F1, S1, K1, p1, G1, q1, q2⟩
          have h1 := h.ac hO G1
          rw [F_X0_search_L54, p1.r2, bind_some', h1.i0, bind_some', if_pos (nI_le (Nat.le_refl _) (by omega))]
      have outer := lfS (fun fl2 f t => F_X0_search_L39 (F_X0_search fl) q (nI d) (nI lim) fl2 (nI f) t (fun s11 => some ((0 : Int32), s11))) (fun f => (List.range (wC w 0)).findSome? (fun o => if tkc w (fun s => K (d * 4 + s)) f o then (srch w (wC w 0) a m (rst (fun s => K (d * 4 + s)) f o)).map (fun p => (f, o) :: p) else none)) (fun s11 => some ((0 : Int32), s11)) (fun t => ∃ F' S' K', SrI σ t q b x a d F S K F' S' K') (fun p res => SrQ σ q b x a d F S K p res) (wC w 0) (by
        intro f fl2 u hf hIu
        have h1 : CW O L u b w sl := h.ac hO (by obtain ⟨F1, S1, K1, p1, G1, q1, q2⟩ := hIu; exact G1)
        obtain ⟨F1, S1, K1, p1, G1, q1, q2⟩ := id hIu
        have go : F_X0_search_L39 (F_X0_search fl) q (nI d) (nI lim) (fl2 + 1) (nI f) u (fun s11 => some ((0 : Int32), s11)) = F_X0_search_L54 (F_X0_search fl) q (nI d) (nI lim) (nI f) fu (nI 0) u (fun s10 => F_X0_search_L39 (F_X0_search fl) q (nI d) (nI lim) fl2 (nI (f + 1)) s10 (fun s11 => some ((0 : Int32), s11))) := by
          rw [F_X0_search_L39, p1.r2, bind_some', h1.i0, bind_some', if_neg (by rw [nI_leI (by omega) (by omega)]; omega), l_0, l_1, nI_add]
        rcases inner f hf (fun s10 => F_X0_search_L39 (F_X0_search fl) q (nI d) (nI lim) fl2 (nI (f + 1)) s10 (fun s11 => some ((0 : Int32), s11))) u hIu with ⟨n1, t', i', e'⟩ | ⟨p, n1, q1⟩
        · exact Or.inl ⟨n1, t', i', go.trans e'⟩
        · refine Or.inr ⟨p, n1, ?_⟩
          show SrQ σ q b x a d F S K p (F_X0_search_L39 (F_X0_search fl) q (nI d) (nI lim) (fl2 + 1) (nI f) u (fun s11 => some ((0 : Int32), s11)))
          rw [go]
          exact q1) (by
        intro fl2 u ⟨F1, S1, K1, p1, G1, q1, q2⟩
        have h1 := h.ac hO G1
        show F_X0_search_L39 (F_X0_search fl) q (nI d) (nI lim) (fl2 + 1) (nI (wC w 0)) u (fun s11 => some ((0 : Int32), s11)) = some ((0 : Int32), u)
        rw [F_X0_search_L39, p1.r2, bind_some', h1.i0, bind_some', if_pos (nI_le (Nat.le_refl _) (by omega))]) fu σ (by unfold fu; omega) ⟨F, S, K, hI⟩
      rcases outer with ⟨n1, t', ⟨F1, S1, K1, i1⟩, e'⟩ | ⟨p, n1, q1⟩
      · exact Or.inl ⟨n1, t', F1, S1, K1, e', i1⟩
      · exact Or.inr ⟨p, n1, q1⟩
end CPT
