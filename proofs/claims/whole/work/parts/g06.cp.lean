/-! ===== PURE 44: the class's couples: kinds of events ===== -/
def cO0 (q b : Nat) (x : Int32) (a : Nat) : List Value := [.int x, .int (nI a), .ref b, .ref (q + 1), .ref (q + 2), .ref (q + 3)]
/-- the couples' block, 4 cells from q on -/
def CP (σ : Sto) (q b : Nat) (x : Int32) (a : Nat) (F S K : Nat → Nat) : Prop := cel σ q = some (.inl (0, cO0 q b x a)) ∧ IA σ (q + 1) 6 F ∧ IA σ (q + 2) 6 S ∧ IA σ (q + 3) 28 K
/-- holders of an event, as bits -/
def knd (w : Wd) (e : Nat) : Nat → Nat
  | 0 => 0
  | s + 1 => if sHs (wL w s) e then knd w e s ||| 2 ^ s else knd w e s
def kAl (w : Wd) (n : Nat) : Nat → Nat
  | 0 => 0
  | e + 1 => if knd w e n = 0 then kAl w n e else kAl w n e ||| 2 ^ knd w e n
def kSt (a s : Nat) : Nat → Nat
  | 0 => 0
  | k + 1 => if (k + 1).testBit s then kSt a s k ||| (a &&& 2 ^ (k + 1)) else kSt a s k
def jnd (r : Nat → Nat) (x : Nat) : Nat → Nat
  | 0 => 0
  | s + 1 => if x.testBit s then jnd r x s ||| r s else jnd r x s
def bc4 (x : Nat) : Nat := fb_ct (fun i => x.testBit i) 4
def tgt (r : Nat → Nat) (a n : Nat) : Nat → Nat
  | 0 => n
  | k + 1 => if jnd r (k + 1) n = a then (if bc4 (k + 1) < tgt r a n k then bc4 (k + 1) else tgt r a n k) else tgt r a n k
def lck (r : Nat → Nat) (a n : Nat) : Nat := fb_ct (fun s => !decide (r s = a)) n
def lea (r : Nat → Nat) (a n : Nat) : Nat := if lck r a n < n then lck r a n else tgt r a n (2 ^ n - 1) - 1 + lck r a n - 1
theorem pw_le {n m : Nat} (h : n ≤ m) : 2 ^ n ≤ 2 ^ m := Nat.pow_le_pow_right (by omega) h
theorem pw_lt {n m : Nat} (h : n < m) : 2 ^ n < 2 ^ m := Nat.pow_lt_pow_right (by omega) h
theorem knd_lt (w : Wd) (e : Nat) {m : Nat} : ∀ {n : Nat}, n ≤ m → knd w e n < 2 ^ m
  | 0, _ => Nat.two_pow_pos m
  | n + 1, h => by
    have ih := knd_lt w e (m := m) (n := n) (by omega)
    show (if sHs (wL w n) e = true then knd w e n ||| 2 ^ n else knd w e n) < 2 ^ m
    split
    · exact or_lt ih (pw_lt (by omega))
    · exact ih
theorem kAl_lt (w : Wd) {n : Nat} (hn : n ≤ 4) : ∀ e, kAl w n e < 2 ^ 16
  | 0 => by show 0 < 2 ^ 16; omega
  | e + 1 => by
    have ih := kAl_lt w hn e
    have h2 := knd_lt w e (m := 4) hn
    show (if knd w e n = 0 then kAl w n e else kAl w n e ||| 2 ^ knd w e n) < 2 ^ 16
    split
    · exact ih
    · exact or_lt ih (pw_lt (by omega))
theorem kSt_lt {a : Nat} (ha : a < 2 ^ 16) (s : Nat) : ∀ k, kSt a s k < 2 ^ 16
  | 0 => by show 0 < 2 ^ 16; omega
  | k + 1 => by
    have ih := kSt_lt ha s k
    show (if (k + 1).testBit s = true then kSt a s k ||| (a &&& 2 ^ (k + 1)) else kSt a s k) < 2 ^ 16
    split
    · exact or_lt ih (Nat.lt_of_le_of_lt Nat.and_le_left ha)
    · exact ih
theorem jnd_lt {r : Nat → Nat} (x : Nat) : ∀ {n : Nat}, (∀ s, s < n → r s < 2 ^ 16) → jnd r x n < 2 ^ 16
  | 0, _ => by show 0 < 2 ^ 16; omega
  | n + 1, h => by
    have ih := jnd_lt x (n := n) (fun s hs => h s (by omega))
    show (if x.testBit n = true then jnd r x n ||| r n else jnd r x n) < 2 ^ 16
    split
    · exact or_lt ih (h n (by omega))
    · exact ih
theorem jnd_cg {r r' : Nat → Nat} (x : Nat) : ∀ {n : Nat}, (∀ s, s < n → r s = r' s) → jnd r x n = jnd r' x n
  | 0, _ => rfl
  | n + 1, h => by
    show (if x.testBit n = true then jnd r x n ||| r n else jnd r x n) = if x.testBit n = true then jnd r' x n ||| r' n else jnd r' x n
    rw [jnd_cg x (fun s hs => h s (by omega)), h n (by omega)]
theorem bc4_le (x : Nat) : bc4 x ≤ 4 := fb_ct_le _ _
theorem bc4_pos {x : Nat} (h0 : 0 < x) (h : x < 16) : 0 < bc4 x := by
  have : ∀ x, x < 16 → 0 < x → 0 < bc4 x := by decide
  exact this x h h0
theorem J_bc4 {x : Nat} (h : x < 16) : F_J6_bitCount_0f7a4 (nI x) = some (nI (bc4 x)) := by
  have : ∀ x, x < 16 → F_J6_bitCount_0f7a4 (nI x) = some (nI (bc4 x)) := by decide +kernel
  exact this x h
theorem tgt_b {r : Nat → Nat} {a n : Nat} (hn : 0 < n) : ∀ {k : Nat}, k < 16 → tgt r a n k ≤ n ∧ 0 < tgt r a n k
  | 0, _ => ⟨Nat.le_refl _, hn⟩
  | k + 1, h => by
    have ih := tgt_b (r := r) (a := a) hn (k := k) (by omega)
    have hb := bc4_pos (x := k + 1) (by omega) h
    show (if jnd r (k + 1) n = a then (if bc4 (k + 1) < tgt r a n k then bc4 (k + 1) else tgt r a n k) else tgt r a n k) ≤ n ∧ 0 < if jnd r (k + 1) n = a then (if bc4 (k + 1) < tgt r a n k then bc4 (k + 1) else tgt r a n k) else tgt r a n k
    split
    · split
      · exact ⟨by omega, hb⟩
      · exact ih
    · exact ih
theorem tgt_cg {r r' : Nat → Nat} {a n : Nat} (h : ∀ s, s < n → r s = r' s) : ∀ k, tgt r a n k = tgt r' a n k
  | 0 => rfl
  | k + 1 => by
    show (if jnd r (k + 1) n = a then (if bc4 (k + 1) < tgt r a n k then bc4 (k + 1) else tgt r a n k) else tgt r a n k) = _
    rw [tgt_cg h k, jnd_cg (k + 1) h]
    rfl
theorem lck_le (r : Nat → Nat) (a n : Nat) : lck r a n ≤ n := fb_ct_le _ _
section CPS
variable {O : Nat → Prop} {L : Nat → Nat} {σ t : Sto} {b q a : Nat} {x : Int32} {F S K : Nat → Nat} {w : Wd} {sl : Nat → Nat → Option Nat}
theorem CP.ok (h : CP σ q b x a F S K) : (gO σ q 0).isSome = true := gOs_cel h.1
theorem CP.i0 (h : CP σ q b x a F S K) : gI σ q 0 0 = some x := gI_cel h.1 rfl
theorem CP.i1 (h : CP σ q b x a F S K) : gI σ q 0 1 = some (nI a) := gI_cel h.1 rfl
theorem CP.r2 (h : CP σ q b x a F S K) : gR σ q 0 2 = some b := gR_cel h.1 rfl
theorem CP.r3 (h : CP σ q b x a F S K) : gR σ q 0 3 = some (q + 1) := gR_cel h.1 rfl
theorem CP.r4 (h : CP σ q b x a F S K) : gR σ q 0 4 = some (q + 2) := gR_cel h.1 rfl
theorem CP.r5 (h : CP σ q b x a F S K) : gR σ q 0 5 = some (q + 3) := gR_cel h.1 rfl
theorem CP.cg (h : CP σ q b x a F S K) (hc : ∀ i, q ≤ i → i < q + 4 → cel t i = cel σ i) : CP t q b x a F S K := ⟨(hc _ (by omega) (by omega)).trans h.1, h.2.1.cg (hc _ (by omega) (by omega)), h.2.2.1.cg (hc _ (by omega) (by omega)), h.2.2.2.cg (hc _ (by omega) (by omega))⟩
theorem CP.s0 (h : CP σ q b x a F S K) (y : Int32) : ∃ t, sV σ q 0 0 (.int y) = some t ∧ CP t q b y a F S K ∧ Fr q 4 σ t := by
  refine ⟨stc σ q (.inl (0, cO0 q b y a)), ?_, ⟨cel_stc_s h.1, h.2.1.cg (cel_stc_n h.1 (by omega)), h.2.2.1.cg (cel_stc_n h.1 (by omega)), h.2.2.2.cg (cel_stc_n h.1 (by omega))⟩, Fr.st h.1 (by omega) (by omega)⟩
  rw [sV_cel h.1 (Nat.le_of_ble_eq_true rfl)]
  rfl
theorem CP.s1 (h : CP σ q b x a F S K) (y : Nat) : ∃ t, sV σ q 0 1 (.int (nI y)) = some t ∧ CP t q b x y F S K ∧ Fr q 4 σ t := by
  refine ⟨stc σ q (.inl (0, cO0 q b x y)), ?_, ⟨cel_stc_s h.1, h.2.1.cg (cel_stc_n h.1 (by omega)), h.2.2.1.cg (cel_stc_n h.1 (by omega)), h.2.2.2.cg (cel_stc_n h.1 (by omega))⟩, Fr.st h.1 (by omega) (by omega)⟩
  rw [sV_cel h.1 (Nat.le_of_ble_eq_true rfl)]
  rfl
theorem CP.rk (h : CP σ q b x a F S K) {j : Nat} (hj : j < 28) : iald σ (q + 3) (nI j) = some (nI (K j)) := h.2.2.2.rd hj (by decide)
theorem CP.wf (h : CP σ q b x a F S K) {j v : Nat} (hj : j < 6) : ∃ t, iast σ (q + 1) (nI j) (nI v) = some t ∧ CP t q b x a (upN F j v) S K ∧ Fr q 4 σ t := by
  obtain ⟨t, e, i, f⟩ := h.2.1.wr (v := v) hj (by decide)
  exact ⟨t, e, ⟨(f.at (by omega)).trans h.1, i, h.2.2.1.cg (f.at (by omega)), h.2.2.2.cg (f.at (by omega))⟩, f.mo (by omega) (by omega)⟩
theorem CP.ws (h : CP σ q b x a F S K) {j v : Nat} (hj : j < 6) : ∃ t, iast σ (q + 2) (nI j) (nI v) = some t ∧ CP t q b x a F (upN S j v) K ∧ Fr q 4 σ t := by
  obtain ⟨t, e, i, f⟩ := h.2.2.1.wr (v := v) hj (by decide)
  exact ⟨t, e, ⟨(f.at (by omega)).trans h.1, h.2.1.cg (f.at (by omega)), i, h.2.2.2.cg (f.at (by omega))⟩, f.mo (by omega) (by omega)⟩
theorem CP.wk (h : CP σ q b x a F S K) {j v : Nat} (hj : j < 28) : ∃ t, iast σ (q + 3) (nI j) (nI v) = some t ∧ CP t q b x a F S (upN K j v) ∧ Fr q 4 σ t := by
  obtain ⟨t, e, i, f⟩ := h.2.2.2.wr (v := v) hj (by decide)
  exact ⟨t, e, ⟨(f.at (by omega)).trans h.1, h.2.1.cg (f.at (by omega)), h.2.2.1.cg (f.at (by omega)), i⟩, f.mo (by omega) (by omega)⟩
/-- nothing of the world lies in the couples' block -/
def Ac (O : Nat → Prop) (q : Nat) : Prop := ∀ i, O i → i < q ∨ q + 4 ≤ i
theorem CW'.ac {R : (Nat → Nat) → Prop} (h : CW' R O L σ b w sl) (hO : Ac O q) (hF : Fr q 4 σ t) : CW' R O L t b w sl := h.cg (fun i hi => hF.at (by have := hO i hi; omega))
theorem C_kind (h : CW O L σ b w sl) (hp : CP σ q b x a F S K) (hn : wC w 0 ≤ 4) {e : Nat} (he : e < 128) (k : Int32 → Option Sto) : F_X0_findKinds_L25 σ q (nI e) fu (nI 0) (nI 0) k = k (nI (knd w e (wC w 0))) := by
  refine lup (fun f j => F_X0_findKinds_L25 σ q (nI e) f (nI (knd w e j)) (nI j) k) (wC w 0) _ ?_ ?_ fu (by unfold fu; omega)
  · intro j f hj
    rw [F_X0_findKinds_L25, hp.r2, bind_some', h.i0, bind_some', if_neg (by rw [nI_leI (by omega) (by omega)]; omega), bind_some', h.r7, bind_some', h.lv (by omega), bind_some', (h.SL (show j < 5 by omega)).g1, bind_some', X_holds (h.SL (show j < 5 by omega)).hs he, bind_some', ifb0, nI_shl1 (by omega), nI_or, l_1, nI_add]
    show _ = F_X0_findKinds_L25 σ q (nI e) f (nI (if sHs (wL w j) e = true then knd w e j ||| 2 ^ j else knd w e j)) (nI (j + 1)) k
    cases sHs (wL w j) e <;> rfl
  · intro f
    rw [F_X0_findKinds_L25, hp.r2, bind_some', h.i0, bind_some', if_pos (nI_le (Nat.le_refl _) (by omega))]
theorem C_kinds1 (h : CW O L σ b w sl) (hp : CP σ q b x 0 F S K) (i : Jv w) (hO : Ac O q) (hn : wC w 0 ≤ 4) (k : Sto → Option Sto) : ∃ t, F_X0_findKinds_L7 q fu (nI 0) σ k = k t ∧ CP t q b x (kAl w (wC w 0) (wC w 2)) F S K ∧ Fr q 4 σ t := by
  have hc := i.c
  obtain ⟨t1, ⟨p1, F1⟩, e1⟩ := lpS (fun fl j t => F_X0_findKinds_L7 q fl (nI j) t k) k (fun j t => CP t q b x (kAl w (wC w 0) j) F S K ∧ Fr q 4 σ t) (wC w 2) (by
    intro j fl t hj ⟨p1, F1⟩
    have h1 := h.ac hO F1
    have hk := knd_lt w j (m := 4) hn
    obtain ⟨t2, e2, p2, F2⟩ := p1.s1 (kAl w (wC w 0) (j + 1))
    refine ⟨t2, ⟨p2, F1.tr F2⟩, ?_⟩
    show F_X0_findKinds_L7 q (fl + 1) (nI j) t k = F_X0_findKinds_L7 q fl (nI (j + 1)) t2 k
    rw [F_X0_findKinds_L7, p1.r2, bind_some', h1.r6, bind_some', h1.ev.g0, bind_some', if_neg (by rw [nI_leI (by omega) (by omega)]; omega), l_0, C_kind h1 p1 hn (by omega), p1.i1, bind_some', ifE (by omega) (by omega), nI_shl1 (by omega), nI_or, nI_or, Nat.or_zero, l_1, nI_add]
    have hs : kAl w (wC w 0) (j + 1) = if knd w j (wC w 0) = 0 then kAl w (wC w 0) j else kAl w (wC w 0) j ||| 2 ^ knd w j (wC w 0) := rfl
    rw [hs] at e2
    by_cases h0 : knd w j (wC w 0) = 0
    · rw [if_pos h0] at e2
      rw [if_pos h0, e2, bind_some']
    · rw [if_neg h0] at e2
      rw [if_neg h0, e2, bind_some']) (by
    intro fl t ⟨p1, F1⟩
    have h1 := h.ac hO F1
    show F_X0_findKinds_L7 q (fl + 1) (nI (wC w 2)) t k = k t
    rw [F_X0_findKinds_L7, p1.r2, bind_some', h1.r6, bind_some', h1.ev.g0, bind_some', if_pos (nI_le (Nat.le_refl _) (by omega))]) fu σ (by unfold fu; omega) ⟨hp, Fr.rf⟩
  exact ⟨t1, e1, p1, F1⟩
theorem C_kinds3 (h : CW O L σ b w sl) (hp : CP σ q b x a F S K) (hO : Ac O q) (hn : wC w 0 ≤ 4) {s : Nat} (hs : s < 4) (hK : K s = 0) (k : Sto → Option Sto) : ∃ t K', F_X0_findKinds_L115 q (nI s) fu (nI 1) σ k = k t ∧ CP t q b x a F S K' ∧ Fr q 4 σ t ∧ K' s = kSt a s (2 ^ wC w 0 - 1) ∧ ∀ j, j ≠ s → K' j = K j := by
  have hpw : 2 ^ wC w 0 ≤ 2 ^ 4 := pw_le hn
  have hpp : 0 < 2 ^ wC w 0 := Nat.two_pow_pos _
  obtain ⟨t1, ⟨K1, p1, F1, k1, k2⟩, e1⟩ := lpS (fun fl j t => F_X0_findKinds_L115 q (nI s) fl (nI (j + 1)) t k) k (fun j t => ∃ K', CP t q b x a F S K' ∧ Fr q 4 σ t ∧ K' s = kSt a s j ∧ ∀ j, j ≠ s → K' j = K j) (2 ^ wC w 0 - 1) (by
    intro j fl t hj ⟨K1, p1, F1, k1, k2⟩
    have h1 := h.ac hO F1
    have hs2 : kSt a s (j + 1) = if (j + 1).testBit s = true then kSt a s j ||| (a &&& 2 ^ (j + 1)) else kSt a s j := rfl
    have hgo : F_X0_findKinds_L115 q (nI s) (fl + 1) (nI (j + 1)) t k = if (j + 1).testBit s = true then ((iast t (q + 3) (nI s) (nI (kSt a s j ||| (a &&& 2 ^ (j + 1))))).bind fun s26 => F_X0_findKinds_L115 q (nI s) fl (nI (j + 1 + 1)) s26 k) else F_X0_findKinds_L115 q (nI s) fl (nI (j + 1 + 1)) t k := by
      rw [F_X0_findKinds_L115, p1.r2, bind_some', h1.i0, bind_some', nI_shl1 (by omega), if_neg (by rw [nI_leI (by omega) (by omega)]; omega), nI_bit (by omega), ifb0, p1.r5, bind_some', p1.rk (by omega), bind_some', p1.i1, bind_some', nI_shl1 (by omega), nI_and, nI_or, k1, l_1, nI_add]
    cases hb : (j + 1).testBit s with
    | false =>
      refine ⟨t, ⟨K1, p1, F1, ?_, k2⟩, ?_⟩
      · rw [hs2, hb]; exact k1
      · exact hgo.trans (by rw [hb]; rfl)
    | true =>
      obtain ⟨t2, e2, p2, F2⟩ := p1.wk (j := s) (v := kSt a s j ||| (a &&& 2 ^ (j + 1))) (by omega)
      refine ⟨t2, ⟨_, p2, F1.tr F2, ?_, fun i hi => (upN_n hi).trans (k2 i hi)⟩, ?_⟩
      · rw [hs2, hb]; exact upN_s
      · exact hgo.trans (by rw [hb, if_pos rfl, e2, bind_some'])) (by
    intro fl t ⟨K1, p1, F1, k1, k2⟩
    have h1 := h.ac hO F1
    show F_X0_findKinds_L115 q (nI s) (fl + 1) (nI (2 ^ wC w 0 - 1 + 1)) t k = k t
    rw [F_X0_findKinds_L115, p1.r2, bind_some', h1.i0, bind_some', nI_shl1 (by omega), if_pos (nI_le (by omega) (by omega))]) fu σ (by unfold fu; omega) ⟨K, hp, Fr.rf, hK, fun _ _ => rfl⟩
  exact ⟨t1, K1, e1, p1, F1, k1, k2⟩
theorem C_kinds2 (h : CW O L σ b w sl) (hp : CP σ q b x a F S K) (hO : Ac O q) (hn : wC w 0 ≤ 4) (k : Sto → Option Sto) : ∃ t K', F_X0_findKinds_L95 q fu (nI 0) σ k = k t ∧ CP t q b x a F S K' ∧ Fr q 4 σ t ∧ ∀ s, s < wC w 0 → K' s = kSt a s (2 ^ wC w 0 - 1) := by
  obtain ⟨t1, ⟨K1, p1, F1, k1⟩, e1⟩ := lpS (fun fl j t => F_X0_findKinds_L95 q fl (nI j) t k) k (fun j t => ∃ K', CP t q b x a F S K' ∧ Fr q 4 σ t ∧ ∀ s, s < j → K' s = kSt a s (2 ^ wC w 0 - 1)) (wC w 0) (by
    intro j fl t hj ⟨K1, p1, F1, k1⟩
    have h1 := h.ac hO F1
    obtain ⟨t2, e2, p2, F2⟩ := p1.wk (j := j) (v := 0) (by omega)
    obtain ⟨t3, K3, e3, p3, F3, k3, k4⟩ := C_kinds3 (h1.ac hO F2) p2 hO hn (s := j) (by omega) upN_s (fun s27 => F_X0_findKinds_L95 q fl (nI (j + 1)) s27 k)
    refine ⟨t3, ⟨K3, p3, (F1.tr F2).tr F3, fun s hs => ?_⟩, ?_⟩
    · by_cases hsj : s = j
      · rw [hsj]; exact k3
      · rw [k4 s hsj, upN_n hsj]; exact k1 s (by omega)
    · show F_X0_findKinds_L95 q (fl + 1) (nI j) t k = F_X0_findKinds_L95 q fl (nI (j + 1)) t3 k
      rw [F_X0_findKinds_L95, p1.r2, bind_some', h1.i0, bind_some', if_neg (by rw [nI_leI (by omega) (by omega)]; omega), p1.r5, bind_some', l_0, e2, bind_some', l_1, nI_add]
      exact e3) (by
    intro fl t ⟨K1, p1, F1, k1⟩
    have h1 := h.ac hO F1
    show F_X0_findKinds_L95 q (fl + 1) (nI (wC w 0)) t k = k t
    rw [F_X0_findKinds_L95, p1.r2, bind_some', h1.i0, bind_some', if_pos (nI_le (Nat.le_refl _) (by omega))]) fu σ (by unfold fu; omega) ⟨K, hp, Fr.rf, fun s hs => absurd hs (Nat.not_lt_zero s)⟩
  exact ⟨t1, K1, e1, p1, F1, k1⟩
theorem C_findKinds (h : CW O L σ b w sl) (hp : CP σ q b x a F S K) (i : Jv w) (hO : Ac O q) (hn : wC w 0 ≤ 4) : ∃ t K', F_X0_findKinds σ q = some t ∧ CP t q b x (kAl w (wC w 0) (wC w 2)) F S K' ∧ Fr q 4 σ t ∧ ∀ s, s < wC w 0 → K' s = kSt (kAl w (wC w 0) (wC w 2)) s (2 ^ wC w 0 - 1) := by
  obtain ⟨t1, e1, p1, F1⟩ := hp.s1 0
  obtain ⟨t2, e2, p2, F2⟩ := C_kinds1 (h.ac hO F1) p1 i hO hn (fun s16 => F_X0_findKinds_L95 q fu (nI 0) s16 (fun s28 => some s28))
  obtain ⟨t3, K3, e3, p3, F3, k3⟩ := C_kinds2 (h.ac hO (F1.tr F2)) p2 hO hn (fun s28 => some s28)
  refine ⟨t3, K3, ?_, p3, (F1.tr F2).tr F3, k3⟩
  unfold F_X0_findKinds
  rw [chk_eq hp.ok, l_0, e1, bind_some']
  exact e2.trans e3
theorem C_joined (h : CW O L σ b w sl) (hp : CP σ q b x a F S K) (hn : wC w 0 ≤ 4) {d y : Nat} (hd : d ≤ 6) : F_X0_joined σ q (nI d) (nI y) = some (nI (jnd (fun s => K (d * 4 + s)) y (wC w 0))) := by
  unfold F_X0_joined
  rw [chk_eq hp.ok, l_0]
  refine lup (fun f j => F_X0_joined_L5 σ q (nI d) (nI y) f (nI (jnd (fun s => K (d * 4 + s)) y j)) (nI j) (fun x5 => some x5)) (wC w 0) _ ?_ ?_ fu (by unfold fu; omega)
  · intro j f hj
    rw [F_X0_joined_L5, hp.r2, bind_some', h.i0, bind_some', if_neg (by rw [nI_leI (by omega) (by omega)]; omega), nI_bit (by omega), ifb0, hp.r5, bind_some', l_4, pk_mul, nI_add, hp.rk (by omega), bind_some', nI_or, l_1, nI_add]
    show _ = F_X0_joined_L5 σ q (nI d) (nI y) f (nI (if y.testBit j = true then jnd (fun s => K (d * 4 + s)) y j ||| K (d * 4 + j) else jnd (fun s => K (d * 4 + s)) y j)) (nI (j + 1)) (fun x5 => some x5)
    cases y.testBit j <;> rfl
  · intro f
    rw [F_X0_joined_L5, hp.r2, bind_some', h.i0, bind_some', if_pos (nI_le (Nat.le_refl _) (by omega))]
/-- each part has all -/
def eph (w : Wd) (n : Nat) (r : Nat → Nat) (a : Nat) : Bool := al (fun s => decide (jnd r (part w n s) n = a)) n
theorem C_eachPart (h : CW O L σ b w sl) (hp : CP σ q b x a F S K) (hn : wC w 0 ≤ 4) (ha : a < 2 ^ 16) (hK : ∀ s, s < wC w 0 → K s < 2 ^ 16) : F_X0_eachPartHasAll σ q = some (nI (b2 (eph w (wC w 0) K a))) := by
  unfold F_X0_eachPartHasAll
  rw [chk_eq hp.ok, l_0]
  have key : ∀ d j f, j + d = wC w 0 → d < f → al (fun s => decide (jnd K (part w (wC w 0) s) (wC w 0) = a)) j = true → F_X0_eachPartHasAll_L2 σ q f (nI j) (some (1 : Int32)) = some (nI (b2 (eph w (wC w 0) K a))) := by
    intro d
    induction d with
    | zero =>
      intro j f h1 h2 h3
      cases f with
      | zero => omega
      | succ f =>
        have hj : j = wC w 0 := by omega
        rw [hj] at h3 ⊢
        rw [F_X0_eachPartHasAll_L2, hp.r2, bind_some', h.i0, bind_some', if_pos (nI_le (Nat.le_refl _) (by omega))]
        unfold eph
        rw [h3]; rfl
    | succ d ih =>
      intro j f h1 h2 h3
      cases f with
      | zero => omega
      | succ f =>
        have hjl := jnd_lt (part w (wC w 0) j) hK
        have hjo := C_joined h hp hn (d := 0) (y := part w (wC w 0) j) (by omega)
        have e0 : (fun s => K (0 * 4 + s)) = K := by funext s; rw [Nat.zero_mul, Nat.zero_add]
        rw [e0] at hjo
        rw [F_X0_eachPartHasAll_L2, hp.r2, bind_some', h.i0, bind_some', if_neg (by rw [nI_leI (by omega) (by omega)]; omega), bind_some', C_partOf h (by omega) (by omega), bind_some', l_0, hjo, bind_some', hp.i1, bind_some', ifE (by omega) (by omega), l_1, nI_add]
        by_cases hq : jnd K (part w (wC w 0) j) (wC w 0) = a
        · rw [if_pos hq]
          have := ih (j + 1) f (by omega) (by omega) (by rw [al_succ, h3, decide_eq_true hq]; rfl)
          rw [← l_1]
          exact this
        · rw [if_neg hq]
          have : eph w (wC w 0) K a = false := by
            apply Bool.eq_false_iff.mpr
            intro ht
            exact hq (of_decide_eq_true (al_iff.mp ht j (by omega)))
          rw [this]; rfl
  exact key (wC w 0) 0 fu (by omega) (by unfold fu; omega) rfl
theorem C_leastFrom (h : CW O L σ b w sl) (hp : CP σ q b x a F S K) (hn : wC w 0 ≤ 4) (hn0 : 0 < wC w 0) (ha : a < 2 ^ 16) {d : Nat} (hd : d ≤ 6) (hK : ∀ s, s < wC w 0 → K (d * 4 + s) < 2 ^ 16) : F_X0_leastFrom σ q (nI d) = some (nI (lea (fun s => K (d * 4 + s)) a (wC w 0))) := by
  have hpw : 2 ^ wC w 0 ≤ 2 ^ 4 := pw_le hn
  have hpp : 0 < 2 ^ wC w 0 := Nat.two_pow_pos _
  have c1 : ∀ k, F_X0_leastFrom_L4 σ q (nI d) fu (nI 0) (nI 0) k = k (nI (lck (fun s => K (d * 4 + s)) a (wC w 0))) := by
    intro k
    refine lup (fun f j => F_X0_leastFrom_L4 σ q (nI d) f (nI (fb_ct (fun s => !decide (K (d * 4 + s) = a)) j)) (nI j) k) (wC w 0) _ ?_ ?_ fu (by unfold fu; omega)
    · intro j f hj
      have := hK j hj
      rw [F_X0_leastFrom_L4, hp.r2, bind_some', h.i0, bind_some', if_neg (by rw [nI_leI (by omega) (by omega)]; omega), hp.r5, bind_some', l_4, pk_mul, nI_add, hp.rk (by omega), bind_some', hp.i1, bind_some', ifE (by omega) (by omega), l_1, nI_add, nI_add, fb_ct_succ]
      by_cases hq : K (d * 4 + j) = a
      · rw [if_pos hq, decide_eq_true hq]; rfl
      · rw [if_neg hq, decide_eq_false hq]; rfl
    · intro f
      rw [F_X0_leastFrom_L4, hp.r2, bind_some', h.i0, bind_some', if_pos (nI_le (Nat.le_refl _) (by omega))]
      rfl
  have c2 : ∀ k, F_X0_leastFrom_L65 σ q (nI d) fu (nI (wC w 0)) (nI 1) k = k (nI (tgt (fun s => K (d * 4 + s)) a (wC w 0) (2 ^ wC w 0 - 1))) := by
    intro k
    refine lup (fun f j => F_X0_leastFrom_L65 σ q (nI d) f (nI (tgt (fun s => K (d * 4 + s)) a (wC w 0) j)) (nI (j + 1)) k) (2 ^ wC w 0 - 1) _ ?_ ?_ fu (by unfold fu; omega)
    · intro j f hj
      have hjl := jnd_lt (j + 1) hK
      have hb := tgt_b (r := fun s => K (d * 4 + s)) (a := a) hn0 (k := j) (by omega)
      have hb4 := bc4_le (j + 1)
      rw [F_X0_leastFrom_L65, hp.r2, bind_some', h.i0, bind_some', nI_shl1 (by omega), if_neg (by rw [nI_leI (by omega) (by omega)]; omega), C_joined h hp hn hd, bind_some', hp.i1, bind_some', ifE (by omega) (by omega), J_bc4 (by omega), bind_some', l_1, nI_add]
      show _ = F_X0_leastFrom_L65 σ q (nI d) f (nI (if jnd (fun s => K (d * 4 + s)) (j + 1) (wC w 0) = a then (if bc4 (j + 1) < tgt (fun s => K (d * 4 + s)) a (wC w 0) j then bc4 (j + 1) else tgt (fun s => K (d * 4 + s)) a (wC w 0) j) else tgt (fun s => K (d * 4 + s)) a (wC w 0) j)) (nI (j + 1 + 1)) k
      by_cases hq : jnd (fun s => K (d * 4 + s)) (j + 1) (wC w 0) = a
      · rw [if_pos hq, if_pos hq]
        by_cases hl : bc4 (j + 1) < tgt (fun s => K (d * 4 + s)) a (wC w 0) j
        · rw [if_pos hl, if_pos (nI_lt hl (by omega))]
        · rw [if_neg hl, if_neg (by rw [nI_ltI (by omega) (by omega)]; exact hl)]
      · rw [if_neg hq, if_neg hq]
    · intro f
      rw [F_X0_leastFrom_L65, hp.r2, bind_some', h.i0, bind_some', nI_shl1 (by omega), if_pos (nI_le (by omega) (by omega))]
  unfold F_X0_leastFrom lea
  have hlk := lck_le (fun s => K (d * 4 + s)) a (wC w 0)
  have hb := tgt_b (r := fun s => K (d * 4 + s)) (a := a) hn0 (k := 2 ^ wC w 0 - 1) (by omega)
  rw [chk_eq hp.ok, l_0, c1]
  rw [hp.r2, bind_some', h.i0, bind_some']
  by_cases hl : lck (fun s => K (d * 4 + s)) a (wC w 0) < wC w 0
  · rw [if_pos hl, if_neg (by rw [nI_leI (by omega) (by omega)]; omega)]
  · rw [if_neg hl, if_pos (nI_le (by omega) (by omega)), bind_some', h.i0, bind_some', l_1, c2]
    rw [pk_sub (by omega), nI_add, pk_sub (by omega)]
end CPS
