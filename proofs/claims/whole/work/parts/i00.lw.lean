/-! ===== PURE 92: the law: both sides step by step ===== -/
/-- the state is sound, and small after n calls -/
def AI (A : Ga) (n : Nat) : Prop := Iv A.1 ∧ (∀ k v, A.2.1 k = some v → Iv v) ∧ wC A.1 6 ≤ 60 * n ∧ (∀ k v, A.2.1 k = some v → wC v 6 ≤ 60 * n) ∧ A.2.2.1.length ≤ 60 * n
theorem AI.mo {A : Ga} {n : Nat} (h : AI A n) : AI A (n + 1) := ⟨h.1, h.2.1, by have := h.2.2.1; omega, fun k v hv => by have := h.2.2.2.1 k v hv; omega, by have := h.2.2.2.2; omega⟩
/-- a step of the world -/
theorem AI.st {A : Ga} {n : Nat} {w : Wd} {k s v : Nat} (h : AI A n) (hw : Iv w) (h6 : wC w 6 = wC A.1 6 + 1) : AI (dne A w k s v) (n + 1) := ⟨hw, h.2.1, by show wC w 6 ≤ _; have := h.2.2.1; omega, fun k v hv => by have := h.2.2.2.1 k v hv; omega, by show A.2.2.1.length + 1 ≤ _; have := h.2.2.2.2; omega⟩
/-- class at 1, reference at 310, the long at 324 -/
def LI (σ : Sto) (A : Ga) (c z : Nat) (Q : Nat → Prop) (n : Nat) : Prop := GA σ 1 A z Q ∧ RJ σ 310 c A ∧ AI A n ∧ (∀ i, Q i → i < 310 ∨ 325 ≤ i) ∧ (∃ f, cel σ 324 = some (.inr (1, (1, .inr (.inl f))))) ∧ 325 ≤ σ.1.length ∧ σ.1.length + 4 * z ≤ 10000 + n ∧ σ.2 + 154 * z ≤ 1000000 + 6 * n
theorem RJ.cg {s t : Sto} {a c : Nat} {A : Ga} (h : RJ s a c A) (hc : ∀ i, a ≤ i → i < a + 14 → cel t i = cel s i) : RJ t a c A := by
  obtain ⟨M, h1, h2, h3⟩ := h
  exact ⟨M, ⟨(hc a (by omega) (by omega)).trans h1.1, fun k hk => (hc (a + 1 + k) (by omega) (by omega)).trans (h1.2 k hk)⟩, h2, h3⟩
theorem R_thrown {s : Sto} {a c : Nat} {A : Ga} (h : RJ s a c A) : F_X10_thrown s a = some (nI c) := by
  obtain ⟨M, h1, h2, h3⟩ := h
  unfold F_X10_thrown
  rw [chk_eq h1.ok, gI_cel h1.1 rfl, bind_some', h3]
theorem tcL {α ρ : Type} (v : α) (s : Sto) (k : α → Sto → Option ρ) (c : String → Sto → Option ρ) : tc (some (.inl v, s)) k c = k v s := rfl
theorem tcR {α ρ : Type} (e : String) (s : Sto) (k : α → Sto → Option ρ) (c : String → Sto → Option ρ) : tc (some (.inr e, s)) k c = c e s := rfl
theorem lw_step {σ : Sto} {A : Ga} {c z n : Nat} {Q : Nat → Prop} {FC : Option ((Int32 ⊕ String) × Sto)} {R : Ra} {CH : String → Sto → Option (Int32 × Sto)} {FR : Sto → Option (Int32 × Sto)} {cd : String → Nat} {kJ : Sto → Option (Int32 × Sto)} {kk : Int32 → Sto → Option (Int32 × Sto)} {G : Int32 → Sto → Option (Int32 × Sto)} (val : Int32 → Int64) (h : LI σ A c z Q n) (hC : Ans σ 1 z Q FC R) (hR : ∀ s c', RJ s 310 c' A → Rj s 310 cd (FR s) R) (hA : AI R.2 (n + 1)) (hcd : ∀ e, R.1 = .inr e → 0 < cd e ∧ cd e < 4 ∧ ∀ s, CH e s = some (nI (cd e), s)) (hkk : ∀ x s, kk x s = (last s 324 (0 : Int32) (val x)).bind fun s3 => some ((0 : Int32), s3)) (hG : ∀ x12 s11, G x12 s11 = wb (FR s11) fun x15 s14 => (F_X10_thrown s14 310).bind fun x16 => if x16 = x12 then (if x12 = 0 then (lald s14 324 (0 : Int32)).bind fun y17 => if lg_cmp y17 (val x15) = 0 then kJ s14 else some ((0 : Int32), s14) else kJ s14) else some ((0 : Int32), s14)) : ∃ σ' A' c' z' Q', wb (tc FC kk CH) G = kJ σ' ∧ LI σ' A' c' z' Q' (n + 1) := by
  obtain ⟨l1, l2, l3, l4, ⟨f, l5⟩, l6, l7, l8⟩ := h
  obtain ⟨t, z', Q', e1, h1, g1, g2, g3, g4, g5, g6⟩ := hC
  have hQ : ∀ i, 310 ≤ i → i < 325 → ¬ Q i := fun i a b y => by have := l4 i y; omega
  have hc : ∀ i, 310 ≤ i → i < 325 → cel t i = cel σ i := fun i a b => g3 i (by omega) (hQ i a b)
  have hQ' : ∀ i, Q' i → i < 310 ∨ 325 ≤ i := fun i hi => by
    rcases g2 i hi with y | y
    · exact l4 i y
    · omega
  have r1 : RJ t 310 c A := l2.cg (fun i a b => hc i a (by omega))
  have c1 : cel t 324 = some (.inr (1, (1, .inr (.inl f)))) := (hc 324 (by omega) (by omega)).trans l5
  rw [e1]
  obtain ⟨R1, R2⟩ := R
  cases R1 with
  | inl v =>
    have e2 : last t 324 (nI 0) (val v) = some (stc t 324 (.inr (1, (1, .inr (.inl (vp_updL f 0 (val v))))))) := last_cel c1 (by omega) (by decide)
    have c2 := cel_stc_s (e := .inr (1, (1, .inr (.inl (vp_updL f 0 (val v)))))) c1
    have F2 : Fr 324 1 t (stc t 324 (.inr (1, (1, .inr (.inl (vp_updL f 0 (val v))))))) := Fr.st c1 (by omega) (by omega)
    generalize stc t 324 (.inr (1, (1, .inr (.inl (vp_updL f 0 (val v)))))) = t2 at e2 c2 F2
    have h2 : GA t2 1 R2 z' Q' := GT.cg h1 (fun i hi => F2.at (by have := hQ' i hi; omega)) (by rw [F2.2.1]; exact Nat.le_refl _)
    have r2 : RJ t2 310 c A := r1.cg (fun i a b => F2.at (by omega))
    obtain ⟨v', t3, e3, E3, r3, hv⟩ := hR t2 c r2
    have hv' : v' = v := hv v rfl
    subst hv'
    have c3 : cel t3 324 = some (.inr (1, (1, .inr (.inl (vp_updL f 0 (val v')))))) := (E3.2.2 324 (by omega)).trans c2
    have h3 : GA t3 1 R2 z' Q' := GT.cg h2 (fun i hi => E3.2.2 i (by have := hQ' i hi; omega)) (by rw [E3.2.1]; exact Nat.le_refl _)
    have r3' : RJ t3 310 0 R2 := r3
    refine ⟨t3, R2, 0, z', Q', ?_, h3, r3', hA, hQ', ⟨_, c3⟩, by rw [E3.2.1, F2.2.1]; omega, by rw [E3.2.1, F2.2.1]; omega, by rw [E3.1, F2.1]; omega⟩
    rw [tcL, hkk, show last t 324 (0 : Int32) (val v') = _ from e2, bind_some', wbs, hG, e3, wbs, R_thrown r3', bind_some', if_pos nI_0, if_pos rfl, show lald t3 324 (0 : Int32) = _ from lald_cel c3 (j := 0) (by omega) (by decide), bind_some', if_pos (lg_eq0.mpr (by unfold vp_updL; rw [if_pos rfl]))]
  | inr e =>
    obtain ⟨d1, d2, d3⟩ := hcd e rfl
    obtain ⟨v', t3, e3, E3, r3, hv⟩ := hR t c r1
    have h3 : GA t3 1 R2 z' Q' := GT.cg h1 (fun i hi => E3.2.2 i (by have := hQ' i hi; omega)) (by rw [E3.2.1]; exact Nat.le_refl _)
    have r3' : RJ t3 310 (cd e) R2 := r3
    refine ⟨t3, R2, cd e, z', Q', ?_, h3, r3', hA, hQ', ⟨f, (E3.2.2 324 (by omega)).trans c1⟩, by rw [E3.2.1]; omega, by rw [E3.2.1]; omega, by rw [E3.1]; omega⟩
    rw [tcR, d3, wbs, hG, e3, wbs, R_thrown r3', bind_some', if_pos rfl, if_neg (fun y => by have := (nI_z (by omega)).mp y; omega)]
theorem lw_q {σ : Sto} {A : Ga} {c z n : Nat} {Q : Nat → Prop} {FC : Option (Int32 × Sto)} {v : Int32} {FR : Sto → Option (Int32 × Sto)} {kJ : Sto → Option (Int32 × Sto)} {G : Int32 → Sto → Option (Int32 × Sto)} (h : LI σ A c z Q n) (hC : Anq σ 1 z Q FC v A) (hR : ∀ s c', RJ s 310 c' A → Rq s 310 (FR s) v A) (hG : ∀ x12 s11, G x12 s11 = wb (FR s11) fun x15 s14 => if x12 = x15 then kJ s14 else some ((0 : Int32), s14)) : ∃ σ' A' c' z' Q', wb FC G = kJ σ' ∧ LI σ' A' c' z' Q' (n + 1) := by
  obtain ⟨l1, l2, l3, l4, ⟨f, l5⟩, l6, l7, l8⟩ := h
  obtain ⟨t, e1, h1, g1, g2, g3, g4, g5, g6⟩ := hC
  have hQ : ∀ i, 310 ≤ i → i < 325 → ¬ Q i := fun i a b y => by have := l4 i y; omega
  have hc : ∀ i, 310 ≤ i → i < 325 → cel t i = cel σ i := fun i a b => g3 i (by omega) (hQ i a b)
  have r1 : RJ t 310 c A := l2.cg (fun i a b => hc i a (by omega))
  obtain ⟨t3, e3, E3, r3⟩ := hR t c r1
  have h3 : GA t3 1 A z Q := GT.cg h1 (fun i hi => E3.2.2 i (by have := l4 i hi; omega)) (by rw [E3.2.1]; exact Nat.le_refl _)
  refine ⟨t3, A, 0, z, Q, ?_, h3, r3, l3.mo, l4, ⟨f, ((E3.2.2 324 (by omega)).trans (hc 324 (by omega) (by omega))).trans l5⟩, by rw [E3.2.1]; omega, by rw [E3.2.1]; omega, by rw [E3.1]; omega⟩
  rw [e1, wbs, hG, e3, wbs, if_pos rfl]
theorem sld_ok {sl i j : Nat} {sx : Nat → Int32} (hi : i + 5 ≤ sl) (hs : sl ≤ 2560) (hj : j < 5) : sld sl sx (nI (i + j)) = some (sx (i + j)) := by
  unfold sld
  have : (nI (i + j)).toNatClampNeg = i + j := nI_clamp (by omega)
  rw [this, if_neg (fun y => by
    rcases y with y | y
    · exact nI_pos (by omega) y
    · omega)]
theorem sld1 {sl i : Nat} {sx : Nat → Int32} (hi : i + 5 ≤ sl) (hs : sl ≤ 2560) : sld sl sx (nI i + (1 : Int32)) = some (sx (i + 1)) := by rw [show nI i + (1 : Int32) = nI (i + 1) from nI_add1 i]; exact sld_ok hi hs (by omega)
theorem sld2 {sl i : Nat} {sx : Nat → Int32} (hi : i + 5 ≤ sl) (hs : sl ≤ 2560) : sld sl sx (nI i + (2 : Int32)) = some (sx (i + 2)) := by rw [show nI i + (2 : Int32) = nI (i + 2) from nI_add i 2]; exact sld_ok hi hs (by omega)
theorem sld3 {sl i : Nat} {sx : Nat → Int32} (hi : i + 5 ≤ sl) (hs : sl ≤ 2560) : sld sl sx (nI i + (3 : Int32)) = some (sx (i + 3)) := by rw [show nI i + (3 : Int32) = nI (i + 3) from nI_add i 3]; exact sld_ok hi hs (by omega)
theorem sld4 {sl i : Nat} {sx : Nat → Int32} (hi : i + 5 ≤ sl) (hs : sl ≤ 2560) : sld sl sx (nI i + (4 : Int32)) = some (sx (i + 4)) := by rw [show nI i + (4 : Int32) = nI (i + 4) from nI_add i 4]; exact sld_ok hi hs (by omega)
/-! which code a throw has -/
def Kd (cd : String → Nat) (CH : String → Sto → Option (Int32 × Sto)) (e : String) : Prop := 0 < cd e ∧ cd e < 4 ∧ ∀ s, CH e s = some (nI (cd e), s)
theorem cx1 (x : String) : Kd (cd1 x) (fun E0 s0 => if E0 = x then some ((1 : Int32), s0) else none) x := by
  unfold Kd cd1
  rw [if_pos rfl]
  exact ⟨by omega, by omega, fun s => if_pos rfl⟩
theorem cx21 (x y : String) : Kd (cd2 x y) (fun E0 s0 => if E0 = x then some ((1 : Int32), s0) else if E0 = y then some ((2 : Int32), s0) else none) x := by
  unfold Kd cd2
  rw [if_pos rfl]
  exact ⟨by omega, by omega, fun s => if_pos rfl⟩
theorem cx22 (x y : String) (h : y ≠ x) : Kd (cd2 x y) (fun E0 s0 => if E0 = x then some ((1 : Int32), s0) else if E0 = y then some ((2 : Int32), s0) else none) y := by
  unfold Kd cd2
  rw [if_neg h, if_pos rfl]
  exact ⟨by omega, by omega, fun s => by dsimp only; rw [if_neg h, if_pos rfl]; rfl⟩
theorem cx31 (x y z : String) : Kd (cd3 x y z) (fun E0 s0 => if E0 = x then some ((1 : Int32), s0) else if E0 = y then some ((2 : Int32), s0) else if E0 = z then some ((3 : Int32), s0) else none) x := by
  unfold Kd cd3
  rw [if_pos rfl]
  exact ⟨by omega, by omega, fun s => if_pos rfl⟩
theorem cx32 (x y z : String) (h : y ≠ x) : Kd (cd3 x y z) (fun E0 s0 => if E0 = x then some ((1 : Int32), s0) else if E0 = y then some ((2 : Int32), s0) else if E0 = z then some ((3 : Int32), s0) else none) y := by
  unfold Kd cd3
  rw [if_neg h, if_pos rfl]
  exact ⟨by omega, by omega, fun s => by dsimp only; rw [if_neg h, if_pos rfl]; rfl⟩
theorem cx33 (x y z : String) (h : z ≠ x) (h2 : z ≠ y) : Kd (cd3 x y z) (fun E0 s0 => if E0 = x then some ((1 : Int32), s0) else if E0 = y then some ((2 : Int32), s0) else if E0 = z then some ((3 : Int32), s0) else none) z := by
  unfold Kd cd3
  rw [if_neg h, if_neg h2, if_pos rfl]
  exact ⟨by omega, by omega, fun s => by dsimp only; rw [if_neg h, if_neg h2, if_pos rfl]; rfl⟩
