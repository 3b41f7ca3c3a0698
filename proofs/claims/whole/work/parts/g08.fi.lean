/-! ===== PURE 46: the class's couples: the answer ===== -/
def fdl (w : Wd) (n a : Nat) (r : Nat → Nat) : Nat → Nat → Option Pq
  | 0, _ => none
  | d + 1, m => match srch w n a m r with
    | some p => some p
    | none => fdl w n a r d (m + 1)
def kAa (w : Wd) : Nat := kAl w (wC w 0) (wC w 2)
def kRo (w : Wd) (s : Nat) : Nat := kSt (kAa w) s (2 ^ wC w 0 - 1)
/-- the fewest couples, as the class finds them -/
def fnd (w : Wd) : Option Pq := if wC w 0 ≤ 4 then (if eph w (wC w 0) (kRo w) (kAa w) then fdl w (wC w 0) (kAa w) (kRo w) (7 - lea (kRo w) (kAa w) (wC w 0)) (lea (kRo w) (kAa w) (wC w 0)) else none) else none
def pLn (p : Option Pq) : Int32 := match p with
  | none => -1
  | some p => nI p.length
theorem lea_le6 (r : Nat → Nat) (a : Nat) {n : Nat} (hn : n ≤ 4) (hn0 : 0 < n) : lea r a n ≤ 6 := by
  have h1 := lck_le r a n
  have hpw : 2 ^ n ≤ 2 ^ 4 := pw_le hn
  have hpp : 0 < 2 ^ n := Nat.two_pow_pos _
  have hb := tgt_b (r := r) (a := a) hn0 (k := 2 ^ n - 1) (by omega)
  unfold lea
  split <;> omega
theorem srch_len {w : Wd} {n a : Nat} : ∀ {m : Nat} {r : Nat → Nat} {p : Pq}, srch w n a m r = some p → p.length = m
  | 0, r, p, h => by
    have h' : (if lea r a n = 0 then some ([] : Pq) else none) = some p := h
    by_cases h0 : lea r a n = 0
    · rw [if_pos h0] at h'; cases h'; rfl
    · rw [if_neg h0] at h'; cases h'
  | m + 1, r, p, h => by
    have h' : (if lea r a n = 0 then none else if m + 1 < lea r a n then none else (List.range n).findSome? (fun f => (List.range n).findSome? (fun o => if tkc w r f o then (srch w n a m (rst r f o)).map (fun p => (f, o) :: p) else none))) = some p := h
    by_cases h0 : lea r a n = 0
    · rw [if_pos h0] at h'; cases h'
    rw [if_neg h0] at h'
    by_cases h1 : m + 1 < lea r a n
    · rw [if_pos h1] at h'; cases h'
    rw [if_neg h1] at h'
    obtain ⟨f, hf1, hf2⟩ := List.exists_of_findSome?_eq_some h'
    obtain ⟨o, ho1, ho2⟩ := List.exists_of_findSome?_eq_some hf2
    by_cases ht : tkc w r f o = true
    · rw [if_pos ht] at ho2
      cases hs : srch w n a m (rst r f o) with
      | none => rw [hs] at ho2; cases ho2
      | some p' =>
        rw [hs] at ho2
        cases ho2
        rw [List.length_cons, srch_len hs]
    · rw [if_neg ht] at ho2; cases ho2
theorem fdl_le {w : Wd} {n a : Nat} {r : Nat → Nat} : ∀ {d m : Nat} {p : Pq}, fdl w n a r d m = some p → p.length < m + d
  | 0, m, p, h => by cases h
  | d + 1, m, p, h => by
    have h' : (match srch w n a m r with | some p => some p | none => fdl w n a r d (m + 1)) = some p := h
    cases hs : srch w n a m r with
    | some p' =>
      rw [hs] at h'
      cases h'
      have := srch_len hs
      omega
    | none =>
      rw [hs] at h'
      have := fdl_le (d := d) (m := m + 1) h'
      omega
theorem fnd_le {w : Wd} (hn0 : 0 < wC w 0) {p : Pq} (h : fnd w = some p) : p.length ≤ 6 := by
  unfold fnd at h
  by_cases h4 : wC w 0 ≤ 4
  · rw [if_pos h4] at h
    by_cases he : eph w (wC w 0) (kRo w) (kAa w) = true
    · rw [if_pos he] at h
      have := fdl_le h
      have := lea_le6 (kRo w) (kAa w) h4 hn0
      omega
    · rw [if_neg he] at h; cases h
  · rw [if_neg h4] at h; cases h
section CPF
variable {O : Nat → Prop} {L : Nat → Nat} {σ t : Sto} {b q a : Nat} {x : Int32} {F S K : Nat → Nat} {w : Wd} {sl : Nat → Nat → Option Nat}
theorem C_findL (hO : Ac O q) (hn : wC w 0 ≤ 4) (hn0 : 0 < wC w 0) (ha : a < 2 ^ 16) {r : Nat → Nat} (hr : ∀ s, s < wC w 0 → r s < 2 ^ 16) (k : Sto → Option Sto) : ∀ (d m fl : Nat) (σ : Sto) (F S K : Nat → Nat), m + d = 7 → d < fl → CW O L σ b w sl → CP σ q b (-1) a F S K → (∀ s, s < wC w 0 → K s = r s) → ∃ t F' S' K', F_X0_find_L35 q fl (nI m) σ k = k t ∧ CP t q b (pLn (fdl w (wC w 0) a r d m)) a F' S' K' ∧ Fr q 4 σ t ∧ ∀ p, fdl w (wC w 0) a r d m = some p → ∀ i y, p[i]? = some y → F' i = y.1 ∧ S' i = y.2 := by
  intro d
  induction d with
  | zero =>
    intro m fl σ F S K hm hfl h hp hK
    cases fl with
    | zero => omega
    | succ fl =>
      refine ⟨σ, F, S, K, ?_, hp, Fr.rf, fun p hp => by cases hp⟩
      rw [F_X0_find_L35, if_pos (by rw [show (6 : Int32) = nI 6 from rfl]; exact nI_lt (by omega) (by omega))]
  | succ d ih =>
    intro m fl σ F S K hm hfl h hp hK
    cases fl with
    | zero => omega
    | succ fl =>
      have e0 : ∀ s, s < wC w 0 → K (0 * 4 + s) = r s := fun s hs => by rw [Nat.zero_mul, Nat.zero_add]; exact hK s hs
      have hs : fdl w (wC w 0) a r (d + 1) m = match srch w (wC w 0) a m r with | some p => some p | none => fdl w (wC w 0) a r d (m + 1) := rfl
      have hsr : srch w (wC w 0) a m (fun s => K (0 * 4 + s)) = srch w (wC w 0) a m r := srch_cg m e0
      rw [F_X0_find_L35, if_neg (by rw [show (6 : Int32) = nI 6 from rfl, nI_ltI (by omega) (by omega)]; omega), hp.i0, bind_some', if_pos rfl, l_0, l_1, nI_add, hs]
      rcases C_search (x := -1) hO hn hn0 ha (lim := m) (by omega) m 0 8 σ F S K (by omega) (by omega) h hp (fun s hs => by rw [e0 s hs]; exact hr s hs) with ⟨n1, t1, F1, S1, K1, e1, p1, G1, r1, r2⟩ | ⟨p, n1, t1, F1, S1, K1, e1, ⟨p1, G1, r1, r2⟩, r3⟩
      · rw [hsr] at n1
        rw [e1, wbs, ← l_0, if_pos rfl, n1]
        obtain ⟨t2, F2, S2, K2, e2, p2, G2, r4⟩ := ih (m + 1) fl t1 F1 S1 K1 (by omega) (by omega) (h.ac hO G1) p1 (fun s hs => by rw [r1 s (by omega)]; exact hK s hs)
        exact ⟨t2, F2, S2, K2, e2, p2, G1.tr G2, r4⟩
      · rw [hsr] at n1
        have hl := srch_len n1
        obtain ⟨t2, e2, p2, G2⟩ := p1.s0 (nI m)
        rw [e1, wbs, ← l_0, if_neg (by decide), e2, bind_some', n1]
        refine ⟨t2, F1, S1, K1, ?_, by rw [← hl] at p2; exact p2, G1.tr G2, fun p' hp' i y hy => ?_⟩
        · cases fl with
          | zero => omega
          | succ fl =>
            rw [F_X0_find_L35, p2.i0]
            by_cases h6 : 6 < m + 1
            · rw [if_pos (by rw [show (6 : Int32) = nI 6 from rfl]; exact nI_lt h6 (by omega))]
            · rw [if_neg (by rw [show (6 : Int32) = nI 6 from rfl, nI_ltI (by omega) (by omega)]; exact h6), bind_some', if_neg (oI_n1 (by omega))]
        · cases hp'
          have := r3 i y hy
          rw [Nat.zero_add] at this
          exact this
theorem C_find (h : CW O L σ b w sl) (hp : CP σ q b x a F S K) (i : Jv w) (hO : Ac O q) (hn0 : 0 < wC w 0) : ∃ t a' F' S' K', F_X0_find σ q = some t ∧ CP t q b (pLn (fnd w)) a' F' S' K' ∧ Fr q 4 σ t ∧ ∀ p, fnd w = some p → ∀ i y, p[i]? = some y → F' i = y.1 ∧ S' i = y.2 := by
  have hn5 := i.n5
  obtain ⟨t1, e1, p1, G1⟩ := hp.s0 (-1)
  have h1 := h.ac hO G1
  unfold F_X0_find
  rw [chk_eq hp.ok, e1, bind_some', p1.r2, bind_some', h1.i0, bind_some', l_4]
  by_cases h4 : wC w 0 ≤ 4
  · rw [if_pos (nI_le h4 (by omega))]
    obtain ⟨t2, K2, e2, p2, G2, k2⟩ := C_findKinds h1 p1 i hO h4
    have h2 := h1.ac hO G2
    have ha : kAa w < 2 ^ 16 := kAl_lt w h4 _
    have hr : ∀ s, s < wC w 0 → kRo w s < 2 ^ 16 := fun s _ => kSt_lt ha s _
    have k2' : ∀ s, s < wC w 0 → K2 s = kRo w s := k2
    have hK2 : ∀ s, s < wC w 0 → K2 s < 2 ^ 16 := fun s hs => by rw [k2' s hs]; exact hr s hs
    have hep : eph w (wC w 0) K2 (kAa w) = eph w (wC w 0) (kRo w) (kAa w) := by
      unfold eph
      congr 1
      funext s
      rw [jnd_cg (part w (wC w 0) s) k2']
    rw [e2, bind_some', C_eachPart h2 p2 h4 ha hK2, bind_some', ifb0]
    rw [show kAl w (wC w 0) (wC w 2) = kAa w from rfl, hep]
    unfold fnd
    rw [if_pos h4]
    cases he : eph w (wC w 0) (kRo w) (kAa w) with
    | false =>
      exact ⟨t2, _, F, S, K2, rfl, p2, G1.tr G2, fun p hp => by cases hp⟩
    | true =>
      rw [if_pos rfl, if_pos rfl]
      have e0 : ∀ s, s < wC w 0 → K2 (0 * 4 + s) = kRo w s := fun s hs => by rw [Nat.zero_mul, Nat.zero_add]; exact k2' s hs
      have hle : lea (fun s => K2 (0 * 4 + s)) (kAa w) (wC w 0) = lea (kRo w) (kAa w) (wC w 0) := lea_cg e0
      have h6 := lea_le6 (kRo w) (kAa w) h4 hn0
      have hlf := C_leastFrom h2 p2 h4 hn0 ha (d := 0) (by omega) (fun s hs => by rw [e0 s hs]; exact hr s hs)
      rw [show kAl w (wC w 0) (wC w 2) = kAa w from rfl, hle] at hlf
      rw [l_0, hlf, bind_some']
      obtain ⟨t3, F3, S3, K3, e3, p3, G3, r3⟩ := C_findL hO h4 hn0 ha hr (fun s11 => some s11) (7 - lea (kRo w) (kAa w) (wC w 0)) (lea (kRo w) (kAa w) (wC w 0)) fu t2 F S K2 (by omega) (by unfold fu; omega) h2 p2 k2'
      exact ⟨t3, _, F3, S3, K3, e3, p3, (G1.tr G2).tr G3, r3⟩
  · rw [if_neg (by rw [nI_leI (by omega) (by omega)]; exact h4)]
    unfold fnd
    rw [if_neg h4]
    exact ⟨t1, a, F, S, K, rfl, p1, G1, fun p hp => by cases hp⟩
theorem C_toldC (hp : CP σ q b x a F S K) {k : Nat} (hk : k < 6) : F_X0_told σ q (nI k) = some (nI (10 * F k + S k)) := by
  unfold F_X0_told
  rw [chk_eq hp.ok, hp.r3, bind_some', hp.2.1.rd hk (by decide), bind_some', hp.r4, bind_some', hp.2.2.1.rd hk (by decide), bind_some', l_10, pk_mul, nI_add]
end CPF
