/-! ===== PURE 52: the class's publics: events, letters ===== -/
theorem tbL {α ρ : Type} (v : α) (s : Sto) (k : α → Sto → Option ((ρ ⊕ String) × Sto)) : tb (some (.inl v, s)) k = k v s := rfl
theorem tbR {α ρ : Type} (e : String) (s : Sto) (k : α → Sto → Option ((ρ ⊕ String) × Sto)) : tb (some (.inr e, s)) k = some (.inr e, s) := rfl
theorem tbI {α ρ : Type} (b : Bool) (v : α) (s s' : Sto) (e : String) (k : α → Sto → Option ((ρ ⊕ String) × Sto)) : tb (if b = true then some (.inl v, s) else some (.inr e, s')) k = if b = true then k v s else some (.inr e, s') := by
  cases b <;> rfl
/-- the class's state, without the store -/
abbrev Ga : Type := Wd × (Nat → Option Wd) × List Tr × Int64
abbrev Ra : Type := (Int32 ⊕ String) × Ga
def GA (σ : Sto) (g : Nat) (A : Ga) (z : Nat) (Q : Nat → Prop) : Prop := GT σ g A.1 A.2.1 A.2.2.1 A.2.2.2 z Q
/-- the answer and the state of a call; one throw at most -/
def Ans (σ : Sto) (g z : Nat) (Q : Nat → Prop) (F : Option ((Int32 ⊕ String) × Sto)) (R : Ra) : Prop := ∃ t z' Q', F = some (R.1, t) ∧ GA t g R.2 z' Q' ∧ Gz Q σ z Q' t z' 1 6
def tN (x : Int32) : Nat := x.toNatClampNeg
theorem inR_tN {x : Int32} {n : Nat} (hn : n < 2 ^ 30) (h : inR x n = true) : x = nI (tN x) ∧ tN x < n := by
  obtain ⟨j, h1, h2⟩ := inR_ex hn h
  have : tN x = j := by unfold tN; rw [h2]; exact nI_clamp (by omega)
  rw [this]
  exact ⟨h2, h1⟩
/-- a step is done, and told -/
def dne (A : Ga) (w : Wd) (k s v : Nat) : Ga := (w, A.2.1, (wC w 6, k, s, v) :: A.2.2.1, A.2.2.2)
theorem Gz.mo {Q Q' : Nat → Prop} {σ t : Sto} {z z' a b c e : Nat} (h : Gz Q σ z Q' t z' a b) (h1 : a ≤ c) (h2 : b ≤ e) : Gz Q σ z Q' t z' c e := ⟨h.1, h.2.1, h.2.2.1, h.2.2.2.1, by have := h.2.2.2.2.1; omega, by have := h.2.2.2.2.2; omega⟩
section PUA
variable {σ t : Sto} {g : Nat} {A : Ga} {z : Nat} {Q : Nat → Prop}
theorem Ans.thw (h : GA σ g A z Q) (e : String) : Ans σ g z Q (some (.inr e, thw σ)) (.inr e, A) := ⟨_, z, Q, rfl, GT.thw h, Gz.tw⟩
theorem C_traced {w : Wd} {im : Nat → Option Wd} {tr : List Tr} {d : Int64} (h : GT σ g w im tr d z Q) (k s v : Nat) : ∃ t, F_X9_traced σ g (nI k) (nI s) (nI v) = some (nI v, t) ∧ GT t g w im ((wC w 6, k, s, v) :: tr) d z Q ∧ Gz Q σ z Q t z 0 0 := by
  obtain ⟨O, sl, c, -⟩ := h.cm
  have hT : CT σ (g + 256) tr := by
    obtain ⟨O, sl, bi, Oi, sli, h1, h2, h3, h4, -⟩ := h
    exact h4
  obtain ⟨t, e1, c1, F1⟩ := C_record hT (wC w 6) k s v
  obtain ⟨h2, G2⟩ := h.trc c1 F1
  refine ⟨t, ?_, h2, G2⟩
  unfold F_X9_traced
  rw [chk_eq h.ok, h.r2, bind_some', h.r0, bind_some', gI_cel c.1.1 rfl, bind_some', e1, bind_some']
def aAdd (A : Ga) (x nm : Int32) : Ra := if inR x (wC A.1 0) = true then (if wC A.1 2 < 120 then (if inR nm 100 = true then (.inl (nI (wC A.1 2)), dne A (hap (stp A.1) (tN x) (wC A.1 2) (tN nm)) 0 (tN x) (wC A.1 2)) else (.inr eIA, A)) else (.inr eIS, A)) else (.inr eIO, A)
theorem C_add (h : GA σ g A z Q) (i : Iv A.1) (i2 : Iv (stp A.1)) (x nm : Int32) : Ans σ g z Q (F_X9_add σ g x nm) (aAdd A x nm) := by
  have hn := i.j.n5
  unfold F_X9_add aAdd
  rw [chk_eq h.ok, C_needSite h hn, tbI]
  cases hx : inR x (wC A.1 0) with
  | false => exact Ans.thw h eIO
  | true =>
    obtain ⟨x1, x2⟩ := inR_tN (by omega) hx
    rw [if_pos rfl, if_pos rfl, C_needRoom h i.j]
    by_cases hc : wC A.1 2 < 120
    · rw [if_pos hc, if_pos hc, tbL, C_needName h, tbI]
      cases hm : inR nm 100 with
      | false => exact Ans.thw h eIA
      | true =>
        obtain ⟨y1, y2⟩ := inR_tN (by omega) hm
        rw [if_pos rfl, if_pos rfl]
        obtain ⟨O, sl, c, o1, o2⟩ := GT.cm h
        obtain ⟨t1, e1, c1, F1⟩ := C_bringIn c i2 x2 (nm := tN nm) hc
        obtain ⟨z2, Q2, h2, G2⟩ := GT.wfr (w2 := hap (stp A.1) (tN x) (wC A.1 2) (tN nm)) h (fun O' sl' c' => by
          obtain ⟨t2, e2, c2, F2⟩ := C_bringIn c' i2 x2 (nm := tN nm) hc
          rw [e1] at e2
          cases e2
          exact ⟨sl', c2, rfl⟩) F1
        obtain ⟨t3, e3, h3, G3⟩ := C_traced h2 0 (tN x) (wC A.1 2)
        refine ⟨t3, z2, Q2, ?_, h3, (G2.tr G3).mo (by omega) (by omega)⟩
        rw [h.r0, bind_some']
        rw [← x1, ← y1] at e1
        rw [← x1] at e3
        rw [e1, wbs, l_0, e3, wbs]
    · rw [if_neg hc, if_neg hc, tbR]
      exact Ans.thw h eIS
end PUA
