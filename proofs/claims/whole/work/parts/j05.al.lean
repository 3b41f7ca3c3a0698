/-! ===== PURE 105: alike, as the reference sees it ===== -/
theorem n_b1 : ¬ nI (b2 false) = (1 : Int32) := by decide
theorem ifb1 {α : Type} (b : Bool) [Decidable (nI (b2 b) = 1)] (x y : α) : (if nI (b2 b) = 1 then x else y) = if b = true then x else y := by
  cases b
  · rw [if_neg n_b1, if_neg (by decide)]
  · rw [if_pos (show nI (b2 true) = (1 : Int32) from rfl), if_pos rfl]
def wq (W : Nat → Nat) (q s : Nat) : Nat := W (9 + 789 * s + 25 + q)
def alkR (W : Nat → Nat) (n v : Nat) : Bool := al (fun s => al (fun q => decide (nI (jnd (wq W q) (mk v s) n) = nI (jnd (wq W q) (mk v 0) n))) 4) n
section ALK
variable {s : Sto} {a : Nat} {M : Ms} {A : Ga}
theorem R_wordOf (b : RB s a M A) (hn : wC A.1 0 ≤ 5) {x q : Nat} (hq : q < 4) : F_X10_wordOf s a (nI x) (nI q) = some (nI (jnd (wq (M.2.2 0) q) x (wC A.1 0))) := by
  unfold F_X10_wordOf
  rw [chk_eq b.ok, l_0]
  refine lup (fun f j => F_X10_wordOf_L5 s a (nI x) (nI q) f (nI (jnd (wq (M.2.2 0) q) x j)) (nI j) (fun x6 => some x6)) (wC A.1 0) _ ?_ ?_ fu (by unfold fu; omega)
  · intro j f hj
    rw [F_X10_wordOf_L5, b.1.wd, bind_some', b.n0, bind_some', if_neg (by rw [nI_leI (by omega) (by omega)]; omega), nI_bit (by omega), ifb1, bind_some', R_stateOf, bind_some', show (25 : Int32) = nI 25 from rfl, nI_add, nI_add, b.1.raw (by omega), bind_some', nI_or, nI_add1]
    show _ = F_X10_wordOf_L5 s a (nI x) (nI q) f (nI (if x.testBit j = true then jnd (wq (M.2.2 0) q) x j ||| wq (M.2.2 0) q j else jnd (wq (M.2.2 0) q) x j)) (nI (j + 1)) (fun x6 => some x6)
    cases x.testBit j <;> rfl
  · intro f
    rw [F_X10_wordOf_L5, b.1.wd, bind_some', b.n0, bind_some', if_pos (nI_le (Nat.le_refl _) (by omega))]
theorem R_isAlike (b : RB s a M A) (hn : wC A.1 0 ≤ 4) (hn2 : 2 ≤ wC A.1 0) {v : Nat} (hv : v < 4096) : F_X10_isAlike s a (nI v) = some (nI (b2 (alkR (M.2.2 0) (wC A.1 0) v))) := by
  have inner : ∀ x, x < wC A.1 0 → ∀ K : Option Int32, F_X10_isAlike_L14 s a (nI v) (nI x) fu 0 K = if al (fun q => decide (nI (jnd (wq (M.2.2 0) q) (mk v x) (wC A.1 0)) = nI (jnd (wq (M.2.2 0) q) (mk v 0) (wC A.1 0)))) 4 = true then K else some 0 := by
    intro x hx K
    refine lall (fun f j => F_X10_isAlike_L14 s a (nI v) (nI x) f (nI j) K) _ 4 (some 0) K (by
      intro j f hj
      rw [F_X10_isAlike_L14, if_neg (by rw [l_4, nI_leI (by omega) (by omega)]; omega), R_maskIn hv (by omega), bind_some', R_wordOf b (by omega) hj, bind_some', show F_X10_maskIn (nI v) 0 = _ from R_maskIn (s := 0) hv (by omega), bind_some', R_wordOf b (by omega) hj, bind_some', nI_add1]
      by_cases hq : nI (jnd (wq (M.2.2 0) j) (mk v x) (wC A.1 0)) = nI (jnd (wq (M.2.2 0) j) (mk v 0) (wC A.1 0))
      · rw [if_pos hq, decide_eq_true hq]; rfl
      · rw [if_neg hq, decide_eq_false hq]; rfl) (by
      intro f
      rw [F_X10_isAlike_L14, if_pos (by rw [l_4]; exact Int32.le_refl _)]) fu (by unfold fu; omega)
  unfold F_X10_isAlike
  rw [chk_eq b.ok]
  have key := lallG (fun f j => F_X10_isAlike_L2 s a (nI v) f (nI j) (some 1)) (fun x => al (fun q => decide (nI (jnd (wq (M.2.2 0) q) (mk v x) (wC A.1 0)) = nI (jnd (wq (M.2.2 0) q) (mk v 0) (wC A.1 0)))) 4) (wC A.1 0) 1 (some 0) (some 1) (by omega) (by
    intro j f h1 hj
    rw [F_X10_isAlike_L2, b.1.wd, bind_some', b.n0, bind_some', if_neg (by rw [nI_leI (by omega) (by omega)]; omega), inner j hj, nI_add1]) (by
    intro f
    rw [F_X10_isAlike_L2, b.1.wd, bind_some', b.n0, bind_some', if_pos (Int32.le_refl _)]) fu (by unfold fu; omega)
  refine key.trans ?_
  have he : al (fun k => al (fun q => decide (nI (jnd (wq (M.2.2 0) q) (mk v (1 + k)) (wC A.1 0)) = nI (jnd (wq (M.2.2 0) q) (mk v 0) (wC A.1 0)))) 4) (wC A.1 0 - 1) = alkR (M.2.2 0) (wC A.1 0) v := by
    unfold alkR
    rw [Bool.eq_iff_iff, al_iff, al_iff]
    constructor
    · intro h x hx
      by_cases h0 : x = 0
      · rw [h0]
        exact al_iff.mpr (fun q _ => decide_eq_true rfl)
      · have := h (x - 1) (by omega)
        rw [show 1 + (x - 1) = x by omega] at this
        exact this
    · intro h x hx
      exact h (1 + x) (by omega)
  rw [he]
  cases alkR (M.2.2 0) (wC A.1 0) v <;> rfl
end ALK
theorem knd_mem {w : Wd} {e y : Nat} : ∀ {n : Nat}, (knd w e n).testBit y = true ↔ y < n ∧ sHs (wL w y) e = true
  | 0 => by
    show (0 : Nat).testBit y = true ↔ _
    rw [Nat.zero_testBit]
    constructor
    · intro h; cases h
    · intro h; omega
  | n + 1 => by
    have ih := knd_mem (w := w) (e := e) (y := y) (n := n)
    show (if sHs (wL w n) e = true then knd w e n ||| 2 ^ n else knd w e n).testBit y = true ↔ _
    by_cases hb : sHs (wL w n) e = true
    · rw [if_pos hb, tb_or, ih, tb_p2]
      constructor
      · rintro (⟨h1, h2⟩ | h1)
        · exact ⟨by omega, h2⟩
        · rw [h1]; exact ⟨by omega, hb⟩
      · intro ⟨h1, h2⟩
        by_cases hy : y = n
        · exact Or.inr hy
        · exact Or.inl ⟨by omega, h2⟩
    · rw [if_neg hb, ih]
      constructor
      · intro ⟨h1, h2⟩; exact ⟨by omega, h2⟩
      · intro ⟨h1, h2⟩
        by_cases hy : y = n
        · rw [hy] at h2; exact absurd h2 hb
        · exact ⟨by omega, h2⟩
theorem kAl_mem {w : Wd} {n k : Nat} : ∀ {c : Nat}, (kAl w n c).testBit k = true ↔ ∃ e, e < c ∧ knd w e n = k ∧ k ≠ 0
  | 0 => by
    show (0 : Nat).testBit k = true ↔ _
    rw [Nat.zero_testBit]
    constructor
    · intro h; cases h
    · intro ⟨e, he, _⟩; omega
  | c + 1 => by
    have ih := kAl_mem (w := w) (n := n) (k := k) (c := c)
    show (if knd w c n = 0 then kAl w n c else kAl w n c ||| 2 ^ knd w c n).testBit k = true ↔ _
    by_cases hb : knd w c n = 0
    · rw [if_pos hb, ih]
      constructor
      · intro ⟨e, h1, h2⟩; exact ⟨e, by omega, h2⟩
      · intro ⟨e, h1, h2, h3⟩
        by_cases he : e = c
        · rw [he, hb] at h2; omega
        · exact ⟨e, by omega, h2, h3⟩
    · rw [if_neg hb, tb_or, ih, tb_p2]
      constructor
      · rintro (⟨e, h1, h2⟩ | h1)
        · exact ⟨e, by omega, h2⟩
        · exact ⟨c, by omega, h1.symm, by omega⟩
      · intro ⟨e, h1, h2, h3⟩
        by_cases he : e = c
        · rw [he] at h2; exact Or.inr h2.symm
        · exact Or.inl ⟨e, by omega, h2, h3⟩
theorem jnd_wq {W : Nat → Nat} {w : Wd} (r : RW W w) {n x e : Nat} (hn : n ≤ 5) (he : e < 128) : (jnd (wq W (e / 32)) x n).testBit (e % 32) = true ↔ ∃ y, y < n ∧ x.testBit y = true ∧ sHs (wL w y) e = true := by
  rw [jnd_mem]
  have h : ∀ y, y < n → (wq W (e / 32) y).testBit (e % 32) = sHs (wL w y) e := fun y hy => (r.L (show y < 5 by omega)).2.1 e he
  constructor
  · intro ⟨y, h1, h2, h3⟩; rw [h y h1] at h3; exact ⟨y, h1, h2, h3⟩
  · intro ⟨y, h1, h2, h3⟩; exact ⟨y, h1, h2, by rw [h y h1]; exact h3⟩
/-- alike, by the events -/
theorem alk_ev {W : Nat → Nat} {w : Wd} (r : RW W w) {n v : Nat} (hn : n ≤ 5) : alkR W n v = true ↔ ∀ x, x < n → ∀ e, e < 128 → ((∃ y, y < n ∧ (mk v x).testBit y = true ∧ sHs (wL w y) e = true) ↔ ∃ y, y < n ∧ (mk v 0).testBit y = true ∧ sHs (wL w y) e = true) := by
  unfold alkR
  rw [al_iff]
  constructor
  · intro h x hx e he
    have h1 := nI_ext.mp (of_decide_eq_true (al_iff.mp (h x hx) (e / 32) (by omega))) (e % 32) (by omega)
    rw [← jnd_wq r hn he, ← jnd_wq r hn he, h1]
  · intro h x hx
    refine al_iff.mpr (fun q hq => decide_eq_true (nI_ext.mpr (fun i hi => ?_)))
    have h1 := h x hx (32 * q + i) (by omega)
    rw [← jnd_wq r hn (by omega), ← jnd_wq r hn (by omega), show (32 * q + i) / 32 = q by omega, show (32 * q + i) % 32 = i by omega] at h1
    exact Bool.eq_iff_iff.mpr h1
theorem alk_lea {W : Nat → Nat} {w : Wd} (r : RW W w) (i : Iv w) (hn : wC w 0 ≤ 4) {q : Pq} (hq : okP w (wC w 0) q) : alkR W (wC w 0) (wrd q) = true ↔ lea (rnL (kRo w) q) (kAa w) (wC w 0) = 0 := by
  have hn2 := i.n2
  have hc := i.c
  rw [alk_ev r (by omega), lea_0 hn hn2]
  have own : ∀ x, x < wC w 0 → (mk (wrd q) x).testBit x = true := fun x hx => (mk_f _ (by omega)).2
  have er : ∀ x, x < wC w 0 → rnL (kRo w) q x = jnd (kRo w) (mk (wrd q) x) (wC w 0) := fun x hx => by rw [rnL_k hq hx, mk_wrd hn hq hx]
  constructor
  · intro h x hx
    rw [er x hx]
    apply tb_ext
    intro k
    constructor
    · intro hk; exact (jnd_kRo.mp hk).1.2.2
    · intro hk
      have hk' : (kAl w (wC w 0) (wC w 2)).testBit k = true := hk
      obtain ⟨e, e1, e2, e3⟩ := kAl_mem.mp hk'
      have hlt := knd_lt w e (m := wC w 0) (Nat.le_refl _)
      rw [e2] at hlt
      obtain ⟨t, ht⟩ : ∃ t, k.testBit t = true := Nat.exists_testBit_of_ne_zero e3
      have ht' := ht
      rw [← e2, knd_mem] at ht'
      have h1 := (h t ht'.1 e (by omega)).mp ⟨t, ht'.1, own t ht'.1, ht'.2⟩
      obtain ⟨y, y1, y2, y3⟩ := (h x hx e (by omega)).mpr h1
      refine jnd_kRo.mpr ⟨⟨by omega, by omega, hk⟩, y, y1, y2, ?_⟩
      rw [← e2]
      exact knd_mem.mpr ⟨y1, y3⟩
  · intro h x hx e he
    have key : ∀ x z, x < wC w 0 → z < wC w 0 → (∃ y, y < wC w 0 ∧ (mk (wrd q) x).testBit y = true ∧ sHs (wL w y) e = true) → ∃ y, y < wC w 0 ∧ (mk (wrd q) z).testBit y = true ∧ sHs (wL w y) e = true := by
      intro x z hx hz ⟨y, y1, y2, y3⟩
      have he2 : e < wC w 2 := (i.2.2.2.2.1 y (by omega)).1.2.1 e y3
      have hb : (knd w e (wC w 0)).testBit y = true := knd_mem.mpr ⟨y1, y3⟩
      have h0 : knd w e (wC w 0) ≠ 0 := by
        intro z
        rw [z, Nat.zero_testBit] at hb
        cases hb
      have ha : (kAa w).testBit (knd w e (wC w 0)) = true := kAl_mem.mpr ⟨e, he2, rfl, h0⟩
      rw [← h z hz, er z hz] at ha
      obtain ⟨_, t, t1, t2, t3⟩ := jnd_kRo.mp ha
      exact ⟨t, t1, t2, (knd_mem.mp t3).2⟩
    exact ⟨key x 0 hx (by omega), key 0 x (by omega) hx⟩
