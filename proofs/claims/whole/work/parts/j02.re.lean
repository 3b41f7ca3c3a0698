/-! ===== PURE 102: when the couples can make all alike ===== -/
def lnkX (X : Nat → Bool) (n a : Nat) : Nat := (List.range n).foldl (fun x o => if X (lk a o) then x else x ||| 2 ^ o) 0
def pOneX (X : Nat → Bool) (n : Nat) (x a : Nat) : Nat := if x.testBit a then x ||| lnkX X n a else x
def pPassX (X : Nat → Bool) (n x : Nat) : Nat := (List.range n).foldl (pOneX X n) x
def pItX (X : Nat → Bool) (n : Nat) : Nat → Nat → Nat
  | 0, x => x
  | k + 1, x => pPassX X n (pItX X n k x)
def partX (X : Nat → Bool) (n s : Nat) : Nat := pItX X n n (2 ^ s)
theorem pIt_X (w : Wd) (n : Nat) : ∀ k x, pIt w n k x = pItX (wX w) n k x
  | 0, x => rfl
  | k + 1, x => by
    show pPass w n (pIt w n k x) = pPassX (wX w) n (pItX (wX w) n k x)
    rw [pIt_X w n k x]
    rfl
theorem part_X (w : Wd) (n s : Nat) : part w n s = partX (wX w) n s := pIt_X w n n _
def xb (b1 b2 b3 b7 b8 b13 : Bool) : Nat → Bool := fun i => if i = 1 then b1 else if i = 2 then b2 else if i = 3 then b3 else if i = 7 then b7 else if i = 8 then b8 else if i = 13 then b13 else false
theorem wX_xb {w : Wd} (i : Iv w) (hn : wC w 0 ≤ 4) : wX w = xb (wX w 1) (wX w 2) (wX w 3) (wX w 7) (wX w 8) (wX w 13) := by
  funext c
  unfold xb
  by_cases h1 : c = 1
  · rw [if_pos h1, h1]
  rw [if_neg h1]
  by_cases h2 : c = 2
  · rw [if_pos h2, h2]
  rw [if_neg h2]
  by_cases h3 : c = 3
  · rw [if_pos h3, h3]
  rw [if_neg h3]
  by_cases h7 : c = 7
  · rw [if_pos h7, h7]
  rw [if_neg h7]
  by_cases h8 : c = 8
  · rw [if_pos h8, h8]
  rw [if_neg h8]
  by_cases h13 : c = 13
  · rw [if_pos h13, h13]
  rw [if_neg h13]
  cases hx : wX w c with
  | false => rfl
  | true =>
    have := i.2.2.2.2.2.2 c hx
    omega
def prs (n : Nat) : Pq := (List.range n).flatMap (fun a => (List.range n).map (fun o => (a, o)))
def tr1 (X : Nat → Bool) (y : Nat × Pq) (q : Nat × Nat) : Nat × Pq := if y.1.testBit q.1 && !y.1.testBit q.2 && !X (lk q.1 q.2) then (y.1 ||| 2 ^ q.2, q :: y.2) else y
def tre (X : Nat → Bool) (n s : Nat) : Pq := (((List.replicate n (prs n)).flatten).foldl (tr1 X) (2 ^ s, [])).2
def pthX (X : Nat → Bool) (n : Nat) : Pq := (List.range n).flatMap (fun s => if partX X n s &&& (2 ^ s - 1) = 0 then (tre X n s).map (fun q => (q.2, q.1)) ++ (tre X n s).reverse else [])
def chkP (X : Nat → Bool) (n : Nat) : Bool := al (fun f => (partX X n f).testBit f && al (fun o => X (lk f o) || decide (partX X n f = partX X n o)) n) n
def chkT (X : Nat → Bool) (n : Nat) : Bool := decide ((pthX X n).length ≤ 6) && (pthX X n).all (fun y => decide (y.1 < n) && decide (y.2 < n) && !decide (y.1 = y.2) && !X (lk y.1 y.2)) && al (fun s => decide (partX X n s &&& rnL (fun s => 2 ^ s) (pthX X n) s = partX X n s)) n
theorem fin_P : ∀ b1 b2 b3 b7 b8 b13 : Bool, ∀ n, n < 5 → 2 ≤ n → chkP (xb b1 b2 b3 b7 b8 b13) n = true := by decide +kernel
theorem fin_T : ∀ b1 b2 b3 b7 b8 b13 : Bool, ∀ n, n < 5 → 2 ≤ n → chkT (xb b1 b2 b3 b7 b8 b13) n = true := by decide +kernel
theorem part_P {w : Wd} (i : Iv w) (hn : wC w 0 ≤ 4) {f : Nat} (hf : f < wC w 0) : (part w (wC w 0) f).testBit f = true ∧ ∀ o, o < wC w 0 → wcut w f o = false → part w (wC w 0) f = part w (wC w 0) o := by
  have h := fin_P (wX w 1) (wX w 2) (wX w 3) (wX w 7) (wX w 8) (wX w 13) (wC w 0) (by omega) i.n2
  rw [← wX_xb i hn] at h
  have h1 := al_iff.mp h f hf
  rw [Bool.and_eq_true] at h1
  refine ⟨by rw [part_X]; exact h1.1, fun o ho hc => ?_⟩
  have h2 := al_iff.mp h1.2 o ho
  rw [Bool.or_eq_true] at h2
  rcases h2 with h2 | h2
  · unfold wcut at hc; rw [hc] at h2; cases h2
  · rw [part_X, part_X]; exact of_decide_eq_true h2
theorem pth_T {w : Wd} (i : Iv w) (hn : wC w 0 ≤ 4) : ∃ p : Pq, okP w (wC w 0) p ∧ p.length ≤ 6 ∧ ∀ s, s < wC w 0 → ∀ e, (part w (wC w 0) s).testBit e = true → (rnL (fun s => 2 ^ s) p s).testBit e = true := by
  have h := fin_T (wX w 1) (wX w 2) (wX w 3) (wX w 7) (wX w 8) (wX w 13) (wC w 0) (by omega) i.n2
  rw [← wX_xb i hn] at h
  unfold chkT at h
  rw [Bool.and_eq_true, Bool.and_eq_true] at h
  obtain ⟨⟨h1, h2⟩, h3⟩ := h
  refine ⟨pthX (wX w) (wC w 0), fun y hy => ?_, of_decide_eq_true h1, fun s hs e he => ?_⟩
  · have := List.all_eq_true.mp h2 y hy
    rw [Bool.and_eq_true, Bool.and_eq_true, Bool.and_eq_true] at this
    obtain ⟨⟨⟨a1, a2⟩, a3⟩, a4⟩ := this
    refine ⟨of_decide_eq_true a1, of_decide_eq_true a2, ?_⟩
    unfold lgc wcut
    rw [a3, a4]
    rfl
  · have := of_decide_eq_true (al_iff.mp h3 s hs)
    rw [part_X, ← this, Nat.testBit_and, Bool.and_eq_true] at he
    exact he.2
theorem jnd_or {R : Nat → Nat} (x y n : Nat) : jnd R (x ||| y) n = jnd R x n ||| jnd R y n := by
  apply tb_ext
  intro e
  rw [tb_or, jnd_mem, jnd_mem, jnd_mem]
  constructor
  · intro ⟨s, h1, h2, h3⟩
    rcases tb_or.mp h2 with h2 | h2
    · exact Or.inl ⟨s, h1, h2, h3⟩
    · exact Or.inr ⟨s, h1, h2, h3⟩
  · rintro (⟨s, h1, h2, h3⟩ | ⟨s, h1, h2, h3⟩)
    · exact ⟨s, h1, tb_or.mpr (Or.inl h2), h3⟩
    · exact ⟨s, h1, tb_or.mpr (Or.inr h2), h3⟩
theorem jnd_one {R : Nat → Nat} {s n : Nat} (hs : s < n) : jnd R (2 ^ s) n = R s := by
  apply tb_ext
  intro e
  rw [jnd_mem]
  constructor
  · intro ⟨t, _, h2, h3⟩; rw [tb_p2.mp h2] at h3; exact h3
  · intro h; exact ⟨s, hs, tb_p2.mpr rfl, h⟩
theorem rnL_jnd {R : Nat → Nat} {n : Nat} : ∀ (p : Pq) (m : Nat → Nat), rnL (fun s => jnd R (m s) n) p = fun s => jnd R (rnL m p s) n
  | [], m => rfl
  | y :: p, m => by
    have e : rst (fun s => jnd R (m s) n) y.1 y.2 = fun s => jnd R (rst m y.1 y.2 s) n := by
      funext s
      unfold rst
      by_cases hs : s = y.2
      · rw [hs, up_s, up_s, jnd_or]
      · rw [up_n _ _ hs, up_n _ _ hs]
    show rnL (rst (fun s => jnd R (m s) n) y.1 y.2) p = _
    rw [e, rnL_jnd p (rst m y.1 y.2)]
    rfl
theorem rnL_cg {w : Wd} {n : Nat} : ∀ {p : Pq} {r r' : Nat → Nat}, okP w n p → (∀ s, s < n → r s = r' s) → ∀ s, s < n → rnL r p s = rnL r' p s
  | [], r, r', _, h => h
  | y :: p, r, r', hp, h => by
    obtain ⟨h1, h2, _⟩ := hp y List.mem_cons_self
    refine rnL_cg (p := p) hp.tl (fun s hs => ?_)
    unfold rst
    by_cases hs2 : s = y.2
    · rw [hs2, up_s, up_s, h _ h1, h _ h2]
    · rw [up_n _ _ hs2, up_n _ _ hs2]; exact h s hs
/-- the kinds are those of the sets of sites -/
theorem rnL_k {w : Wd} {n : Nat} {p : Pq} {R : Nat → Nat} (hp : okP w n p) {s : Nat} (hs : s < n) : rnL R p s = jnd R (rnL (fun s => 2 ^ s) p s) n := by
  have h := congrFun (rnL_jnd (R := R) (n := n) p (fun s => 2 ^ s)) s
  rw [← h]
  exact rnL_cg hp (fun t ht => (jnd_one ht).symm) s hs
theorem kSt_mem {a s k : Nat} : ∀ {K : Nat}, (kSt a s K).testBit k = true ↔ 1 ≤ k ∧ k ≤ K ∧ k.testBit s = true ∧ a.testBit k = true
  | 0 => by
    show (0 : Nat).testBit k = true ↔ _
    rw [Nat.zero_testBit]
    constructor
    · intro h; cases h
    · intro h; omega
  | K + 1 => by
    have ih := kSt_mem (a := a) (s := s) (k := k) (K := K)
    show (if (K + 1).testBit s = true then kSt a s K ||| (a &&& 2 ^ (K + 1)) else kSt a s K).testBit k = true ↔ _
    by_cases hb : (K + 1).testBit s = true
    · rw [if_pos hb, tb_or, ih, Nat.testBit_and, Bool.and_eq_true, tb_p2]
      constructor
      · rintro (⟨h1, h2, h3⟩ | ⟨h1, h2⟩)
        · exact ⟨h1, by omega, h3⟩
        · exact ⟨by omega, by omega, by rw [h2]; exact hb, h1⟩
      · intro ⟨h1, h2, h3, h4⟩
        by_cases hk : k = K + 1
        · exact Or.inr ⟨h4, hk⟩
        · exact Or.inl ⟨h1, by omega, h3, h4⟩
    · rw [if_neg hb, ih]
      constructor
      · intro ⟨h1, h2, h3⟩; exact ⟨h1, by omega, h3⟩
      · intro ⟨h1, h2, h3, h4⟩
        by_cases hk : k = K + 1
        · rw [hk] at h3; exact absurd h3 hb
        · exact ⟨h1, by omega, h3, h4⟩
theorem jnd_kRo {w : Wd} {x k : Nat} : (jnd (kRo w) x (wC w 0)).testBit k = true ↔ (1 ≤ k ∧ k ≤ 2 ^ wC w 0 - 1 ∧ (kAa w).testBit k = true) ∧ ∃ s, s < wC w 0 ∧ x.testBit s = true ∧ k.testBit s = true := by
  rw [jnd_mem]
  unfold kRo
  constructor
  · intro ⟨s, h1, h2, h3⟩
    obtain ⟨a1, a2, a3, a4⟩ := kSt_mem.mp h3
    exact ⟨⟨a1, a2, a4⟩, s, h1, h2, a3⟩
  · intro ⟨⟨a1, a2, a4⟩, s, h1, h2, a3⟩
    exact ⟨s, h1, h2, kSt_mem.mpr ⟨a1, a2, a3, a4⟩⟩
theorem msk_part {w : Wd} (i : Iv w) (hn : wC w 0 ≤ 4) : ∀ (p : Pq) (m : Nat → Nat), okP w (wC w 0) p → (∀ s, s < wC w 0 → ∀ e, (m s).testBit e = true → (part w (wC w 0) s).testBit e = true) → ∀ s, s < wC w 0 → ∀ e, (rnL m p s).testBit e = true → (part w (wC w 0) s).testBit e = true
  | [], m, _, h => h
  | y :: p, m, hp, h => by
    obtain ⟨h1, h2, h3⟩ := hp y List.mem_cons_self
    refine msk_part i hn p _ hp.tl (fun s hs e he => ?_)
    unfold rst at he
    by_cases hs2 : s = y.2
    · rw [hs2, up_s, tb_or] at he
      rw [hs2]
      rcases he with he | he
      · unfold lgc at h3
        rw [Bool.and_eq_true] at h3
        rw [← (part_P i hn h1).2 _ h2 (by simpa using h3.2)]
        exact h _ h1 e he
      · exact h _ h2 e he
    · rw [up_n _ _ hs2] at he; exact h s hs e he
/-- what the class finds -/
theorem fnd_spec {w : Wd} (i : Iv w) (hn : wC w 0 ≤ 4) : (∃ p, fnd w = some p ∧ lsP w (wC w 0) (kAa w) (kRo w) p) ∨ (fnd w = none ∧ ∀ q, okP w (wC w 0) q → ¬ lea (rnL (kRo w) q) (kAa w) (wC w 0) = 0) := by
  have hn2 := i.n2
  unfold fnd
  rw [if_pos hn]
  cases he : eph w (wC w 0) (kRo w) (kAa w) with
  | false =>
    refine Or.inr ⟨rfl, fun q hq hg => ?_⟩
    have hg' := (lea_0 hn hn2).mp hg
    have : eph w (wC w 0) (kRo w) (kAa w) = true := by
      refine al_iff.mpr (fun s hs => decide_eq_true ?_)
      have h1 := hg' s hs
      rw [rnL_k hq hs] at h1
      have h2 := msk_part i hn q (fun s => 2 ^ s) hq (fun s hs e he => by rw [tb_p2.mp he]; exact (part_P i hn hs).1) s hs
      apply tb_ext
      intro k
      constructor
      · intro hk; exact (jnd_kRo.mp hk).1.2.2
      · intro hk
        rw [← h1] at hk
        obtain ⟨a1, t, a2, a3, a4⟩ := jnd_kRo.mp hk
        exact jnd_kRo.mpr ⟨a1, t, a2, h2 t a3, a4⟩
    rw [this] at he; cases he
  | true =>
    rw [if_pos rfl]
    have h6 := lea_le6 (kRo w) (kAa w) hn (by omega)
    rcases fdl_gd (w := w) (a := kAa w) hn hn2 (r := kRo w) (7 - lea (kRo w) (kAa w) (wC w 0)) (lea (kRo w) (kAa w) (wC w 0)) (fun m' hm => by
      cases hg : gd w (wC w 0) (kAa w) m' (kRo w) with
      | none => rfl
      | some p => have := gd_lea hn hn2 hg; omega) with ⟨p, h1, h2, h3⟩ | ⟨h1, h2⟩
    · exact Or.inl ⟨p, h1, gd_lst hn h2 h3⟩
    · exfalso
      obtain ⟨q, q1, q2, q3⟩ := pth_T i hn
      have hg : lea (rnL (kRo w) q) (kAa w) (wC w 0) = 0 := (lea_0 hn hn2).mpr (fun s hs => by
        rw [rnL_k q1 hs]
        apply tb_ext
        intro k
        constructor
        · intro hk; exact (jnd_kRo.mp hk).1.2.2
        · intro hk
          rw [← of_decide_eq_true (al_iff.mp he s hs)] at hk
          obtain ⟨a1, t, a2, a3, a4⟩ := jnd_kRo.mp hk
          exact jnd_kRo.mpr ⟨a1, t, a2, q3 s hs t a3, a4⟩)
      obtain ⟨p, g1, _⟩ := gd_least hn q1 hg
      rw [h2 q.length (by omega)] at g1
      cases g1
