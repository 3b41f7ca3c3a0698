/-! ===== PURE 95: the law: each call ===== -/
theorem jbool {ρ : Type} (x : Int32) (F : Int64 → Option ρ) : jn F (fun j => if x = 0 then j (0 : Int64) else j (1 : Int64)) = F (if x = 0 then (0 : Int64) else 1) := by
  by_cases h : x = 0
  · rw [jn_eq, if_pos h, if_pos h]
  · rw [jn_eq, if_neg h, if_neg h]
theorem L_sites {σ : Sto} {A : Ga} {c z n i sl : Nat} {Q : Nat → Prop} {sx : Nat → Int32} (h : LI σ A c z Q n) (hn : n ≤ 512) (hi' : i + 5 ≤ sl) (hs : sl ≤ 2560) (kJ : Sto → Option (Int32 × Sto)) : ∃ σ' A' c' z' Q', F_L_law_C0 sl sx 1 310 324 (nI i) σ kJ = kJ σ' ∧ LI σ' A' c' z' Q' (n + 1) := by
  have hA := h.2.2.1
  have i' := hA.1
  have hi := hA.2.1
  have h6 : wC A.1 6 < 2 ^ 31 := by have := hA.2.2.1; omega
  have hl : A.2.2.1.length < 2 ^ 31 - 1 := by have := hA.2.2.2.2; omega
  have hl2 : A.2.2.1.length < 2 ^ 31 - 100 := by have := hA.2.2.2.2; omega
  unfold F_L_law_C0
  rw [sld1 hi' hs, bind_some']
  unfold F_L_sites
  exact lw_step (FR := fun s => F_X10_sites s 310 (sx (i + 1))) (cd := cd1 eIA) (fun x => x.toInt64) h (C_sites h.1  (sx (i + 1))) (fun s c' hr => R_sites hr  (sx (i + 1))) (ai_aSit h.2.2.1 _) (fun e he => by
    cases t_aSit he
    exact cx1 _
    ) (fun _ _ => rfl) (fun _ _ => rfl)
theorem L_mode {σ : Sto} {A : Ga} {c z n i sl : Nat} {Q : Nat → Prop} {sx : Nat → Int32} (h : LI σ A c z Q n) (hn : n ≤ 512) (hi' : i + 5 ≤ sl) (hs : sl ≤ 2560) (kJ : Sto → Option (Int32 × Sto)) : ∃ σ' A' c' z' Q', F_L_law_C1 sl sx 1 310 324 (nI i) σ kJ = kJ σ' ∧ LI σ' A' c' z' Q' (n + 1) := by
  have hA := h.2.2.1
  have i' := hA.1
  have hi := hA.2.1
  have h6 : wC A.1 6 < 2 ^ 31 := by have := hA.2.2.1; omega
  have hl : A.2.2.1.length < 2 ^ 31 - 1 := by have := hA.2.2.2.2; omega
  have hl2 : A.2.2.1.length < 2 ^ 31 - 100 := by have := hA.2.2.2.2; omega
  unfold F_L_law_C1
  rw [sld1 hi' hs, bind_some']
  unfold F_L_mode
  exact lw_step (FR := fun s => F_X10_mode s 310 (sx (i + 1))) (cd := cd1 eIA) (fun x => x.toInt64) h (C_mode h.1  (sx (i + 1))) (fun s c' hr => R_mode hr i' (sx (i + 1))) (ai_aMod h.2.2.1 _) (fun e he => by
    cases t_aMod he
    exact cx1 _
    ) (fun _ _ => rfl) (fun _ _ => rfl)
theorem L_add {σ : Sto} {A : Ga} {c z n i sl : Nat} {Q : Nat → Prop} {sx : Nat → Int32} (h : LI σ A c z Q n) (hn : n ≤ 512) (hi' : i + 5 ≤ sl) (hs : sl ≤ 2560) (kJ : Sto → Option (Int32 × Sto)) : ∃ σ' A' c' z' Q', F_L_law_C2 sl sx 1 310 324 (nI i) σ kJ = kJ σ' ∧ LI σ' A' c' z' Q' (n + 1) := by
  have hA := h.2.2.1
  have i' := hA.1
  have hi := hA.2.1
  have h6 : wC A.1 6 < 2 ^ 31 := by have := hA.2.2.1; omega
  have hl : A.2.2.1.length < 2 ^ 31 - 1 := by have := hA.2.2.2.2; omega
  have hl2 : A.2.2.1.length < 2 ^ 31 - 100 := by have := hA.2.2.2.2; omega
  unfold F_L_law_C2
  rw [sld1 hi' hs, bind_some', sld2 hi' hs, bind_some']
  unfold F_L_add
  exact lw_step (FR := fun s => F_X10_add s 310 (sx (i + 1)) (sx (i + 2))) (cd := cd3 eIO eIS eIA) (fun x => x.toInt64) h (C_add h.1 i' (Iv_stp i') (sx (i + 1)) (sx (i + 2))) (fun s c' hr => R_add hr i' hl (sx (i + 1)) (sx (i + 2))) (ai_aAdd h.2.2.1 _ _) (fun e he => by
    rcases t_aAdd he with rfl | rfl | rfl
    · exact cx31 _ _ _
    · exact cx32 _ _ _ n_IS_IO
    · exact cx33 _ _ _ n_IA_IO n_IA_IS
    ) (fun _ _ => rfl) (fun _ _ => rfl)
theorem L_take {σ : Sto} {A : Ga} {c z n i sl : Nat} {Q : Nat → Prop} {sx : Nat → Int32} (h : LI σ A c z Q n) (hn : n ≤ 512) (hi' : i + 5 ≤ sl) (hs : sl ≤ 2560) (kJ : Sto → Option (Int32 × Sto)) : ∃ σ' A' c' z' Q', F_L_law_C3 sl sx 1 310 324 (nI i) σ kJ = kJ σ' ∧ LI σ' A' c' z' Q' (n + 1) := by
  have hA := h.2.2.1
  have i' := hA.1
  have hi := hA.2.1
  have h6 : wC A.1 6 < 2 ^ 31 := by have := hA.2.2.1; omega
  have hl : A.2.2.1.length < 2 ^ 31 - 1 := by have := hA.2.2.2.2; omega
  have hl2 : A.2.2.1.length < 2 ^ 31 - 100 := by have := hA.2.2.2.2; omega
  unfold F_L_law_C3
  rw [sld1 hi' hs, bind_some', sld2 hi' hs, bind_some']
  unfold F_L_take
  exact lw_step (FR := fun s => F_X10_take s 310 (sx (i + 1)) (sx (i + 2))) (cd := cd3 eIO eNS eIS) (fun x => x.toInt64) h (C_take h.1 i' (Iv_stp i') (sx (i + 1)) (sx (i + 2))) (fun s c' hr => R_take hr i' hl (sx (i + 1)) (sx (i + 2))) (ai_aTak h.2.2.1 _ _) (fun e he => by
    rcases t_aTak he with rfl | rfl | rfl
    · exact cx31 _ _ _
    · exact cx32 _ _ _ n_NS_IO
    · exact cx33 _ _ _ n_IS_IO n_IS_NS
    ) (fun _ _ => rfl) (fun _ _ => rfl)
theorem L_write {σ : Sto} {A : Ga} {c z n i sl : Nat} {Q : Nat → Prop} {sx : Nat → Int32} (h : LI σ A c z Q n) (hn : n ≤ 512) (hi' : i + 5 ≤ sl) (hs : sl ≤ 2560) (kJ : Sto → Option (Int32 × Sto)) : ∃ σ' A' c' z' Q', F_L_law_C4 sl sx 1 310 324 (nI i) σ kJ = kJ σ' ∧ LI σ' A' c' z' Q' (n + 1) := by
  have hA := h.2.2.1
  have i' := hA.1
  have hi := hA.2.1
  have h6 : wC A.1 6 < 2 ^ 31 := by have := hA.2.2.1; omega
  have hl : A.2.2.1.length < 2 ^ 31 - 1 := by have := hA.2.2.2.2; omega
  have hl2 : A.2.2.1.length < 2 ^ 31 - 100 := by have := hA.2.2.2.2; omega
  unfold F_L_law_C4
  rw [sld1 hi' hs, bind_some', sld2 hi' hs, bind_some']
  unfold F_L_write
  exact lw_step (FR := fun s => F_X10_write s 310 (sx (i + 1)) (sx (i + 2))) (cd := cd2 eIO eIS) (fun x => x.toInt64) h (C_write h.1 i' (sx (i + 1)) (sx (i + 2))) (fun s c' hr => R_write hr i' hl (sx (i + 1)) (sx (i + 2))) (ai_aWri h.2.2.1 _ _) (fun e he => by
    rcases t_aWri he with rfl | rfl
    · exact cx21 _ _
    · exact cx22 _ _ n_IS_IO
    ) (fun _ _ => rfl) (fun _ _ => rfl)
theorem L_come {σ : Sto} {A : Ga} {c z n i sl : Nat} {Q : Nat → Prop} {sx : Nat → Int32} (h : LI σ A c z Q n) (hn : n ≤ 512) (hi' : i + 5 ≤ sl) (hs : sl ≤ 2560) (kJ : Sto → Option (Int32 × Sto)) : ∃ σ' A' c' z' Q', F_L_law_C5 sl sx 1 310 324 (nI i) σ kJ = kJ σ' ∧ LI σ' A' c' z' Q' (n + 1) := by
  have hA := h.2.2.1
  have i' := hA.1
  have hi := hA.2.1
  have h6 : wC A.1 6 < 2 ^ 31 := by have := hA.2.2.1; omega
  have hl : A.2.2.1.length < 2 ^ 31 - 1 := by have := hA.2.2.2.2; omega
  have hl2 : A.2.2.1.length < 2 ^ 31 - 100 := by have := hA.2.2.2.2; omega
  unfold F_L_law_C5
  rw [sld1 hi' hs, bind_some', sld2 hi' hs, bind_some', sld3 hi' hs, bind_some']
  unfold F_L_come
  exact lw_step (FR := fun s => F_X10_come s 310 (sx (i + 1)) (sx (i + 2)) (sx (i + 3))) (cd := cd3 eIO eNS eIS) (fun x => x.toInt64) h (C_come h.1 i' (fun f o k hf ho hk => frN_len i' hf ho hk) (sx (i + 1)) (sx (i + 2)) (sx (i + 3))) (fun s c' hr => R_come hr i' hl (sx (i + 1)) (sx (i + 2)) (sx (i + 3))) (ai_aCom h.2.2.1 _ _ _) (fun e he => by
    rcases t_aCom he with rfl | rfl | rfl
    · exact cx31 _ _ _
    · exact cx32 _ _ _ n_NS_IO
    · exact cx33 _ _ _ n_IS_IO n_IS_NS
    ) (fun _ _ => rfl) (fun _ _ => rfl)
theorem L_lose {σ : Sto} {A : Ga} {c z n i sl : Nat} {Q : Nat → Prop} {sx : Nat → Int32} (h : LI σ A c z Q n) (hn : n ≤ 512) (hi' : i + 5 ≤ sl) (hs : sl ≤ 2560) (kJ : Sto → Option (Int32 × Sto)) : ∃ σ' A' c' z' Q', F_L_law_C6 sl sx 1 310 324 (nI i) σ kJ = kJ σ' ∧ LI σ' A' c' z' Q' (n + 1) := by
  have hA := h.2.2.1
  have i' := hA.1
  have hi := hA.2.1
  have h6 : wC A.1 6 < 2 ^ 31 := by have := hA.2.2.1; omega
  have hl : A.2.2.1.length < 2 ^ 31 - 1 := by have := hA.2.2.2.2; omega
  have hl2 : A.2.2.1.length < 2 ^ 31 - 100 := by have := hA.2.2.2.2; omega
  unfold F_L_law_C6
  rw [sld1 hi' hs, bind_some', sld2 hi' hs, bind_some', sld3 hi' hs, bind_some']
  unfold F_L_lose
  exact lw_step (FR := fun s => F_X10_lose s 310 (sx (i + 1)) (sx (i + 2)) (sx (i + 3))) (cd := cd2 eIO eNS) (fun x => x.toInt64) h (C_lose h.1 i' (sx (i + 1)) (sx (i + 2)) (sx (i + 3))) (fun s c' hr => R_lose hr i' hl (sx (i + 1)) (sx (i + 2)) (sx (i + 3))) (ai_aLos h.2.2.1 _ _ _) (fun e he => by
    rcases t_aLos he with rfl | rfl
    · exact cx21 _ _
    · exact cx22 _ _ n_NS_IO
    ) (fun _ _ => rfl) (fun _ _ => rfl)
theorem L_twice {σ : Sto} {A : Ga} {c z n i sl : Nat} {Q : Nat → Prop} {sx : Nat → Int32} (h : LI σ A c z Q n) (hn : n ≤ 512) (hi' : i + 5 ≤ sl) (hs : sl ≤ 2560) (kJ : Sto → Option (Int32 × Sto)) : ∃ σ' A' c' z' Q', F_L_law_C7 sl sx 1 310 324 (nI i) σ kJ = kJ σ' ∧ LI σ' A' c' z' Q' (n + 1) := by
  have hA := h.2.2.1
  have i' := hA.1
  have hi := hA.2.1
  have h6 : wC A.1 6 < 2 ^ 31 := by have := hA.2.2.1; omega
  have hl : A.2.2.1.length < 2 ^ 31 - 1 := by have := hA.2.2.2.2; omega
  have hl2 : A.2.2.1.length < 2 ^ 31 - 100 := by have := hA.2.2.2.2; omega
  unfold F_L_law_C7
  rw [sld1 hi' hs, bind_some', sld2 hi' hs, bind_some', sld3 hi' hs, bind_some']
  unfold F_L_twice
  exact lw_step (FR := fun s => F_X10_twice s 310 (sx (i + 1)) (sx (i + 2)) (sx (i + 3))) (cd := cd3 eIO eNS eIS) (fun x => x.toInt64) h (C_twice h.1 i' (sx (i + 1)) (sx (i + 2)) (sx (i + 3))) (fun s c' hr => R_twice hr i' hl (sx (i + 1)) (sx (i + 2)) (sx (i + 3))) (ai_aTwi h.2.2.1 _ _ _) (fun e he => by
    rcases t_aTwi he with rfl | rfl | rfl
    · exact cx31 _ _ _
    · exact cx32 _ _ _ n_NS_IO
    · exact cx33 _ _ _ n_IS_IO n_IS_NS
    ) (fun _ _ => rfl) (fun _ _ => rfl)
theorem L_waiting {σ : Sto} {A : Ga} {c z n i sl : Nat} {Q : Nat → Prop} {sx : Nat → Int32} (h : LI σ A c z Q n) (hn : n ≤ 512) (hi' : i + 5 ≤ sl) (hs : sl ≤ 2560) (kJ : Sto → Option (Int32 × Sto)) : ∃ σ' A' c' z' Q', F_L_law_C8 sl sx 1 310 324 (nI i) σ kJ = kJ σ' ∧ LI σ' A' c' z' Q' (n + 1) := by
  have hA := h.2.2.1
  have i' := hA.1
  have hi := hA.2.1
  have h6 : wC A.1 6 < 2 ^ 31 := by have := hA.2.2.1; omega
  have hl : A.2.2.1.length < 2 ^ 31 - 1 := by have := hA.2.2.2.2; omega
  have hl2 : A.2.2.1.length < 2 ^ 31 - 100 := by have := hA.2.2.2.2; omega
  unfold F_L_law_C8
  rw [sld1 hi' hs, bind_some', sld2 hi' hs, bind_some']
  unfold F_L_waiting
  exact lw_step (FR := fun s => F_X10_waiting s 310 (sx (i + 1)) (sx (i + 2))) (cd := cd1 eIO) (fun x => x.toInt64) h (C_waiting h.1 i' (sx (i + 1)) (sx (i + 2))) (fun s c' hr => R_waiting hr i' (sx (i + 1)) (sx (i + 2))) (by rw [s_aWai]; exact h.2.2.1.mo) (fun e he => by
    cases t_aWai he
    exact cx1 _
    ) (fun _ _ => rfl) (fun _ _ => rfl)
theorem L_letter {σ : Sto} {A : Ga} {c z n i sl : Nat} {Q : Nat → Prop} {sx : Nat → Int32} (h : LI σ A c z Q n) (hn : n ≤ 512) (hi' : i + 5 ≤ sl) (hs : sl ≤ 2560) (kJ : Sto → Option (Int32 × Sto)) : ∃ σ' A' c' z' Q', F_L_law_C9 sl sx 1 310 324 (nI i) σ kJ = kJ σ' ∧ LI σ' A' c' z' Q' (n + 1) := by
  have hA := h.2.2.1
  have i' := hA.1
  have hi := hA.2.1
  have h6 : wC A.1 6 < 2 ^ 31 := by have := hA.2.2.1; omega
  have hl : A.2.2.1.length < 2 ^ 31 - 1 := by have := hA.2.2.2.2; omega
  have hl2 : A.2.2.1.length < 2 ^ 31 - 100 := by have := hA.2.2.2.2; omega
  unfold F_L_law_C9
  rw [sld1 hi' hs, bind_some', sld2 hi' hs, bind_some', sld3 hi' hs, bind_some', sld4 hi' hs, bind_some']
  unfold F_L_letter
  exact lw_step (FR := fun s => F_X10_letter s 310 (sx (i + 1)) (sx (i + 2)) (sx (i + 3)) (sx (i + 4))) (cd := cd3 eIO eNS eIA) (fun x => x.toInt64) h (C_letter h.1 i' (sx (i + 1)) (sx (i + 2)) (sx (i + 3)) (sx (i + 4))) (fun s c' hr => R_letter hr i' (sx (i + 1)) (sx (i + 2)) (sx (i + 3)) (sx (i + 4))) (by rw [s_aLet]; exact h.2.2.1.mo) (fun e he => by
    rcases t_aLet he with rfl | rfl | rfl
    · exact cx31 _ _ _
    · exact cx32 _ _ _ n_NS_IO
    · exact cx33 _ _ _ n_IA_IO n_IA_NS
    ) (fun _ _ => rfl) (fun _ _ => rfl)
theorem L_inLetter {σ : Sto} {A : Ga} {c z n i sl : Nat} {Q : Nat → Prop} {sx : Nat → Int32} (h : LI σ A c z Q n) (hn : n ≤ 512) (hi' : i + 5 ≤ sl) (hs : sl ≤ 2560) (kJ : Sto → Option (Int32 × Sto)) : ∃ σ' A' c' z' Q', F_L_law_C10 sl sx 1 310 324 (nI i) σ kJ = kJ σ' ∧ LI σ' A' c' z' Q' (n + 1) := by
  have hA := h.2.2.1
  have i' := hA.1
  have hi := hA.2.1
  have h6 : wC A.1 6 < 2 ^ 31 := by have := hA.2.2.1; omega
  have hl : A.2.2.1.length < 2 ^ 31 - 1 := by have := hA.2.2.2.2; omega
  have hl2 : A.2.2.1.length < 2 ^ 31 - 100 := by have := hA.2.2.2.2; omega
  unfold F_L_law_C10
  rw [sld1 hi' hs, bind_some', sld2 hi' hs, bind_some', sld3 hi' hs, bind_some', sld4 hi' hs, bind_some']
  unfold F_L_inLetter
  exact lw_step (FR := fun s => F_X10_inLetter s 310 (sx (i + 1)) (sx (i + 2)) (sx (i + 3)) (sx (i + 4))) (cd := cd2 eIO eNS) (fun x => x.toInt64) h (C_inLetter h.1 i' (sx (i + 1)) (sx (i + 2)) (sx (i + 3)) (sx (i + 4))) (fun s c' hr => R_inLetter hr i' (sx (i + 1)) (sx (i + 2)) (sx (i + 3)) (sx (i + 4))) (by rw [s_aInl]; exact h.2.2.1.mo) (fun e he => by
    rcases t_aInl he with rfl | rfl
    · exact cx21 _ _
    · exact cx22 _ _ n_NS_IO
    ) (fun _ _ => rfl) (fun _ _ => rfl)
theorem L_save {σ : Sto} {A : Ga} {c z n i sl : Nat} {Q : Nat → Prop} {sx : Nat → Int32} (h : LI σ A c z Q n) (hn : n ≤ 512) (hi' : i + 5 ≤ sl) (hs : sl ≤ 2560) (kJ : Sto → Option (Int32 × Sto)) : ∃ σ' A' c' z' Q', F_L_law_C11 sl sx 1 310 324 (nI i) σ kJ = kJ σ' ∧ LI σ' A' c' z' Q' (n + 1) := by
  have hA := h.2.2.1
  have i' := hA.1
  have hi := hA.2.1
  have h6 : wC A.1 6 < 2 ^ 31 := by have := hA.2.2.1; omega
  have hl : A.2.2.1.length < 2 ^ 31 - 1 := by have := hA.2.2.2.2; omega
  have hl2 : A.2.2.1.length < 2 ^ 31 - 100 := by have := hA.2.2.2.2; omega
  unfold F_L_law_C11
  rw [sld1 hi' hs, bind_some']
  unfold F_L_save
  exact lw_step (FR := fun s => F_X10_save s 310 (sx (i + 1))) (cd := cd1 eIO) (fun x => x.toInt64) h (C_save h.1 i' (sx (i + 1))) (fun s c' hr => R_save hr i' hl (sx (i + 1))) (ai_aSav h.2.2.1 _) (fun e he => by
    cases t_aSav he
    exact cx1 _
    ) (fun _ _ => rfl) (fun _ _ => rfl)
theorem L_fall {σ : Sto} {A : Ga} {c z n i sl : Nat} {Q : Nat → Prop} {sx : Nat → Int32} (h : LI σ A c z Q n) (hn : n ≤ 512) (hi' : i + 5 ≤ sl) (hs : sl ≤ 2560) (kJ : Sto → Option (Int32 × Sto)) : ∃ σ' A' c' z' Q', F_L_law_C12 sl sx 1 310 324 (nI i) σ kJ = kJ σ' ∧ LI σ' A' c' z' Q' (n + 1) := by
  have hA := h.2.2.1
  have i' := hA.1
  have hi := hA.2.1
  have h6 : wC A.1 6 < 2 ^ 31 := by have := hA.2.2.1; omega
  have hl : A.2.2.1.length < 2 ^ 31 - 1 := by have := hA.2.2.2.2; omega
  have hl2 : A.2.2.1.length < 2 ^ 31 - 100 := by have := hA.2.2.2.2; omega
  unfold F_L_law_C12
  rw [sld1 hi' hs, bind_some']
  unfold F_L_fall
  exact lw_step (FR := fun s => F_X10_fall s 310 (sx (i + 1))) (cd := cd1 eIO) (fun x => x.toInt64) h (C_fall h.1 i' (sx (i + 1))) (fun s c' hr => R_fall hr i' hl (sx (i + 1))) (ai_aFal h.2.2.1 _) (fun e he => by
    cases t_aFal he
    exact cx1 _
    ) (fun _ _ => rfl) (fun _ _ => rfl)
theorem L_join {σ : Sto} {A : Ga} {c z n i sl : Nat} {Q : Nat → Prop} {sx : Nat → Int32} (h : LI σ A c z Q n) (hn : n ≤ 512) (hi' : i + 5 ≤ sl) (hs : sl ≤ 2560) (kJ : Sto → Option (Int32 × Sto)) : ∃ σ' A' c' z' Q', F_L_law_C13 sl sx 1 310 324 (nI i) σ kJ = kJ σ' ∧ LI σ' A' c' z' Q' (n + 1) := by
  have hA := h.2.2.1
  have i' := hA.1
  have hi := hA.2.1
  have h6 : wC A.1 6 < 2 ^ 31 := by have := hA.2.2.1; omega
  have hl : A.2.2.1.length < 2 ^ 31 - 1 := by have := hA.2.2.2.2; omega
  have hl2 : A.2.2.1.length < 2 ^ 31 - 100 := by have := hA.2.2.2.2; omega
  unfold F_L_law_C13
  rw [sld1 hi' hs, bind_some', sld2 hi' hs, bind_some']
  unfold F_L_join
  exact lw_step (FR := fun s => F_X10_join s 310 (sx (i + 1)) (sx (i + 2))) (cd := cd1 eIO) (fun x => x.toInt64) h (C_join h.1 i' (sx (i + 1)) (sx (i + 2))) (fun s c' hr => R_join hr i' hl (sx (i + 1)) (sx (i + 2))) (ai_aJoi h.2.2.1 _ _) (fun e he => by
    cases t_aJoi he
    exact cx1 _
    ) (fun _ _ => rfl) (fun _ _ => rfl)
theorem L_chance {σ : Sto} {A : Ga} {c z n i sl : Nat} {Q : Nat → Prop} {sx : Nat → Int32} (h : LI σ A c z Q n) (hn : n ≤ 512) (hi' : i + 5 ≤ sl) (hs : sl ≤ 2560) (kJ : Sto → Option (Int32 × Sto)) : ∃ σ' A' c' z' Q', F_L_law_C14 sl sx 1 310 324 (nI i) σ kJ = kJ σ' ∧ LI σ' A' c' z' Q' (n + 1) := by
  have hA := h.2.2.1
  have i' := hA.1
  have hi := hA.2.1
  have h6 : wC A.1 6 < 2 ^ 31 := by have := hA.2.2.1; omega
  have hl : A.2.2.1.length < 2 ^ 31 - 1 := by have := hA.2.2.2.2; omega
  have hl2 : A.2.2.1.length < 2 ^ 31 - 100 := by have := hA.2.2.2.2; omega
  unfold F_L_law_C14
  rw [sld1 hi' hs, bind_some', sld2 hi' hs, bind_some']
  unfold F_L_chance
  exact lw_step (FR := fun s => F_X10_chance s 310 (sx (i + 1)) (sx (i + 2))) (cd := cd1 eIA) (fun x => x.toInt64) h (C_chance h.1 i' (sx (i + 1)) (sx (i + 2))) (fun s c' hr => R_chance hr i' hl2 (sx (i + 1)) (sx (i + 2))) (ai_aCha h.2.2.1 _ _) (fun e he => by
    cases t_aCha he
    exact cx1 _
    ) (fun _ _ => rfl) (fun _ _ => rfl)
theorem L_keep {σ : Sto} {A : Ga} {c z n i sl : Nat} {Q : Nat → Prop} {sx : Nat → Int32} (h : LI σ A c z Q n) (hn : n ≤ 512) (hi' : i + 5 ≤ sl) (hs : sl ≤ 2560) (kJ : Sto → Option (Int32 × Sto)) : ∃ σ' A' c' z' Q', F_L_law_C15 sl sx 1 310 324 (nI i) σ kJ = kJ σ' ∧ LI σ' A' c' z' Q' (n + 1) := by
  have hA := h.2.2.1
  have i' := hA.1
  have hi := hA.2.1
  have h6 : wC A.1 6 < 2 ^ 31 := by have := hA.2.2.1; omega
  have hl : A.2.2.1.length < 2 ^ 31 - 1 := by have := hA.2.2.2.2; omega
  have hl2 : A.2.2.1.length < 2 ^ 31 - 100 := by have := hA.2.2.2.2; omega
  unfold F_L_law_C15
  rw [sld1 hi' hs, bind_some']
  unfold F_L_keep
  exact lw_step (FR := fun s => F_X10_keep s 310 (sx (i + 1))) (cd := cd1 eIA) (fun x => x.toInt64) h (C_keep h.1 i' (sx (i + 1))) (fun s c' hr => R_keep hr i' hi (sx (i + 1))) (ai_aKee h.2.2.1 _) (fun e he => by
    cases t_aKee he
    exact cx1 _
    ) (fun _ _ => rfl) (fun _ _ => rfl)
theorem L_back {σ : Sto} {A : Ga} {c z n i sl : Nat} {Q : Nat → Prop} {sx : Nat → Int32} (h : LI σ A c z Q n) (hn : n ≤ 512) (hi' : i + 5 ≤ sl) (hs : sl ≤ 2560) (kJ : Sto → Option (Int32 × Sto)) : ∃ σ' A' c' z' Q', F_L_law_C16 sl sx 1 310 324 (nI i) σ kJ = kJ σ' ∧ LI σ' A' c' z' Q' (n + 1) := by
  have hA := h.2.2.1
  have i' := hA.1
  have hi := hA.2.1
  have h6 : wC A.1 6 < 2 ^ 31 := by have := hA.2.2.1; omega
  have hl : A.2.2.1.length < 2 ^ 31 - 1 := by have := hA.2.2.2.2; omega
  have hl2 : A.2.2.1.length < 2 ^ 31 - 100 := by have := hA.2.2.2.2; omega
  unfold F_L_law_C16
  rw [sld1 hi' hs, bind_some']
  unfold F_L_back
  exact lw_step (FR := fun s => F_X10_back s 310 (sx (i + 1))) (cd := cd2 eIA eNS) (fun x => x.toInt64) h (C_backP h.1 hi (sx (i + 1))) (fun s c' hr => R_back hr hi (sx (i + 1))) (ai_aBac h.2.2.1 _) (fun e he => by
    rcases t_aBac he with rfl | rfl
    · exact cx21 _ _
    · exact cx22 _ _ n_NS_IA
    ) (fun _ _ => rfl) (fun _ _ => rfl)
theorem L_view {σ : Sto} {A : Ga} {c z n i sl : Nat} {Q : Nat → Prop} {sx : Nat → Int32} (h : LI σ A c z Q n) (hn : n ≤ 512) (hi' : i + 5 ≤ sl) (hs : sl ≤ 2560) (kJ : Sto → Option (Int32 × Sto)) : ∃ σ' A' c' z' Q', F_L_law_C18 sl sx 1 310 324 (nI i) σ kJ = kJ σ' ∧ LI σ' A' c' z' Q' (n + 1) := by
  have hA := h.2.2.1
  have i' := hA.1
  have hi := hA.2.1
  have h6 : wC A.1 6 < 2 ^ 31 := by have := hA.2.2.1; omega
  have hl : A.2.2.1.length < 2 ^ 31 - 1 := by have := hA.2.2.2.2; omega
  have hl2 : A.2.2.1.length < 2 ^ 31 - 100 := by have := hA.2.2.2.2; omega
  unfold F_L_law_C18
  rw [sld1 hi' hs, bind_some', sld2 hi' hs, bind_some', sld3 hi' hs, bind_some']
  unfold F_L_view
  exact lw_step (FR := fun s => F_X10_view s 310 (sx (i + 1)) (sx (i + 2)) (sx (i + 3))) (cd := cd3 eIO eNS eIA) (fun x => x.toInt64) h (C_view h.1 i' (sx (i + 1)) (sx (i + 2)) (sx (i + 3))) (fun s c' hr => R_view hr i' (sx (i + 1)) (sx (i + 2)) (sx (i + 3))) (by rw [s_aVie]; exact h.2.2.1.mo) (fun e he => by
    rcases t_aVie he with rfl | rfl | rfl
    · exact cx31 _ _ _
    · exact cx32 _ _ _ n_NS_IO
    · exact cx33 _ _ _ n_IA_IO n_IA_NS
    ) (fun _ _ => rfl) (fun _ _ => rfl)
theorem L_named {σ : Sto} {A : Ga} {c z n i sl : Nat} {Q : Nat → Prop} {sx : Nat → Int32} (h : LI σ A c z Q n) (hn : n ≤ 512) (hi' : i + 5 ≤ sl) (hs : sl ≤ 2560) (kJ : Sto → Option (Int32 × Sto)) : ∃ σ' A' c' z' Q', F_L_law_C19 sl sx 1 310 324 (nI i) σ kJ = kJ σ' ∧ LI σ' A' c' z' Q' (n + 1) := by
  have hA := h.2.2.1
  have i' := hA.1
  have hi := hA.2.1
  have h6 : wC A.1 6 < 2 ^ 31 := by have := hA.2.2.1; omega
  have hl : A.2.2.1.length < 2 ^ 31 - 1 := by have := hA.2.2.2.2; omega
  have hl2 : A.2.2.1.length < 2 ^ 31 - 100 := by have := hA.2.2.2.2; omega
  unfold F_L_law_C19
  rw [sld1 hi' hs, bind_some', sld2 hi' hs, bind_some', sld3 hi' hs, bind_some']
  unfold F_L_named
  exact lw_step (FR := fun s => F_X10_named s 310 (sx (i + 1)) (sx (i + 2)) (sx (i + 3))) (cd := cd2 eIO eIA) (fun x => x.toInt64) h (C_named h.1 i' (sx (i + 1)) (sx (i + 2)) (sx (i + 3))) (fun s c' hr => R_named hr i' (sx (i + 1)) (sx (i + 2)) (sx (i + 3))) (by rw [s_aNam]; exact h.2.2.1.mo) (fun e he => by
    rcases t_aNam he with rfl | rfl
    · exact cx21 _ _
    · exact cx22 _ _ n_IA_IO
    ) (fun _ _ => rfl) (fun _ _ => rfl)
theorem L_log {σ : Sto} {A : Ga} {c z n i sl : Nat} {Q : Nat → Prop} {sx : Nat → Int32} (h : LI σ A c z Q n) (hn : n ≤ 512) (hi' : i + 5 ≤ sl) (hs : sl ≤ 2560) (kJ : Sto → Option (Int32 × Sto)) : ∃ σ' A' c' z' Q', F_L_law_C20 sl sx 1 310 324 (nI i) σ kJ = kJ σ' ∧ LI σ' A' c' z' Q' (n + 1) := by
  have hA := h.2.2.1
  have i' := hA.1
  have hi := hA.2.1
  have h6 : wC A.1 6 < 2 ^ 31 := by have := hA.2.2.1; omega
  have hl : A.2.2.1.length < 2 ^ 31 - 1 := by have := hA.2.2.2.2; omega
  have hl2 : A.2.2.1.length < 2 ^ 31 - 100 := by have := hA.2.2.2.2; omega
  unfold F_L_law_C20
  rw [sld1 hi' hs, bind_some', sld2 hi' hs, bind_some']
  unfold F_L_log
  exact lw_step (FR := fun s => F_X10_log s 310 (sx (i + 1)) (sx (i + 2))) (cd := cd2 eIO eNS) (fun x => x.toInt64) h (C_log h.1 i' (sx (i + 1)) (sx (i + 2))) (fun s c' hr => R_log hr i' (sx (i + 1)) (sx (i + 2))) (by rw [s_aLog]; exact h.2.2.1.mo) (fun e he => by
    rcases t_aLog he with rfl | rfl
    · exact cx21 _ _
    · exact cx22 _ _ n_NS_IO
    ) (fun _ _ => rfl) (fun _ _ => rfl)
theorem L_table {σ : Sto} {A : Ga} {c z n i sl : Nat} {Q : Nat → Prop} {sx : Nat → Int32} (h : LI σ A c z Q n) (hn : n ≤ 512) (hi' : i + 5 ≤ sl) (hs : sl ≤ 2560) (kJ : Sto → Option (Int32 × Sto)) : ∃ σ' A' c' z' Q', F_L_law_C21 sl sx 1 310 324 (nI i) σ kJ = kJ σ' ∧ LI σ' A' c' z' Q' (n + 1) := by
  have hA := h.2.2.1
  have i' := hA.1
  have hi := hA.2.1
  have h6 : wC A.1 6 < 2 ^ 31 := by have := hA.2.2.1; omega
  have hl : A.2.2.1.length < 2 ^ 31 - 1 := by have := hA.2.2.2.2; omega
  have hl2 : A.2.2.1.length < 2 ^ 31 - 100 := by have := hA.2.2.2.2; omega
  unfold F_L_law_C21
  rw [sld1 hi' hs, bind_some', sld2 hi' hs, bind_some', sld3 hi' hs, bind_some']
  unfold F_L_table
  exact lw_step (FR := fun s => F_X10_table s 310 (sx (i + 1)) (sx (i + 2)) (sx (i + 3))) (cd := cd1 eIO) (fun x => x.toInt64) h (C_table h.1 i' (sx (i + 1)) (sx (i + 2)) (sx (i + 3))) (fun s c' hr => R_table hr i' (sx (i + 1)) (sx (i + 2)) (sx (i + 3))) (by rw [s_aTab]; exact h.2.2.1.mo) (fun e he => by
    cases t_aTab he
    exact cx1 _
    ) (fun _ _ => rfl) (fun _ _ => rfl)
theorem L_knows {σ : Sto} {A : Ga} {c z n i sl : Nat} {Q : Nat → Prop} {sx : Nat → Int32} (h : LI σ A c z Q n) (hn : n ≤ 512) (hi' : i + 5 ≤ sl) (hs : sl ≤ 2560) (kJ : Sto → Option (Int32 × Sto)) : ∃ σ' A' c' z' Q', F_L_law_C22 sl sx 1 310 324 (nI i) σ kJ = kJ σ' ∧ LI σ' A' c' z' Q' (n + 1) := by
  have hA := h.2.2.1
  have i' := hA.1
  have hi := hA.2.1
  have h6 : wC A.1 6 < 2 ^ 31 := by have := hA.2.2.1; omega
  have hl : A.2.2.1.length < 2 ^ 31 - 1 := by have := hA.2.2.2.2; omega
  have hl2 : A.2.2.1.length < 2 ^ 31 - 100 := by have := hA.2.2.2.2; omega
  unfold F_L_law_C22
  rw [sld1 hi' hs, bind_some', sld2 hi' hs, bind_some', sld3 hi' hs, bind_some']
  unfold F_L_knows
  exact lw_step (FR := fun s => F_X10_knows s 310 (sx (i + 1)) (sx (i + 2)) (sx (i + 3))) (cd := cd1 eIO) (fun x => if x = 0 then (0 : Int64) else 1) h (C_knows h.1 i' (sx (i + 1)) (sx (i + 2)) (sx (i + 3))) (fun s c' hr => R_knows hr i' (sx (i + 1)) (sx (i + 2)) (sx (i + 3))) (by rw [s_aKnw]; exact h.2.2.1.mo) (fun e he => by
    cases t_aKnw he
    exact cx1 _
    ) (fun x s => by
    by_cases hx : x = 0
    · rw [if_pos hx, if_pos hx]
    · rw [if_neg hx, if_neg hx]) (fun x12 s11 => by simp only [bind_some', jbool])
theorem L_has {σ : Sto} {A : Ga} {c z n i sl : Nat} {Q : Nat → Prop} {sx : Nat → Int32} (h : LI σ A c z Q n) (hn : n ≤ 512) (hi' : i + 5 ≤ sl) (hs : sl ≤ 2560) (kJ : Sto → Option (Int32 × Sto)) : ∃ σ' A' c' z' Q', F_L_law_C23 sl sx 1 310 324 (nI i) σ kJ = kJ σ' ∧ LI σ' A' c' z' Q' (n + 1) := by
  have hA := h.2.2.1
  have i' := hA.1
  have hi := hA.2.1
  have h6 : wC A.1 6 < 2 ^ 31 := by have := hA.2.2.1; omega
  have hl : A.2.2.1.length < 2 ^ 31 - 1 := by have := hA.2.2.2.2; omega
  have hl2 : A.2.2.1.length < 2 ^ 31 - 100 := by have := hA.2.2.2.2; omega
  unfold F_L_law_C23
  rw [sld1 hi' hs, bind_some', sld2 hi' hs, bind_some']
  unfold F_L_has
  exact lw_step (FR := fun s => F_X10_has s 310 (sx (i + 1)) (sx (i + 2))) (cd := cd1 eIO) (fun x => if x = 0 then (0 : Int64) else 1) h (C_has h.1 i' (sx (i + 1)) (sx (i + 2))) (fun s c' hr => R_has hr i' (sx (i + 1)) (sx (i + 2))) (by rw [s_aHas]; exact h.2.2.1.mo) (fun e he => by
    cases t_aHas he
    exact cx1 _
    ) (fun x s => by
    by_cases hx : x = 0
    · rw [if_pos hx, if_pos hx]
    · rw [if_neg hx, if_neg hx]) (fun x12 s11 => by simp only [bind_some', jbool])
theorem L_site {σ : Sto} {A : Ga} {c z n i sl : Nat} {Q : Nat → Prop} {sx : Nat → Int32} (h : LI σ A c z Q n) (hn : n ≤ 512) (hi' : i + 5 ≤ sl) (hs : sl ≤ 2560) (kJ : Sto → Option (Int32 × Sto)) : ∃ σ' A' c' z' Q', F_L_law_C24 sl sx 1 310 324 (nI i) σ kJ = kJ σ' ∧ LI σ' A' c' z' Q' (n + 1) := by
  have hA := h.2.2.1
  have i' := hA.1
  have hi := hA.2.1
  have h6 : wC A.1 6 < 2 ^ 31 := by have := hA.2.2.1; omega
  have hl : A.2.2.1.length < 2 ^ 31 - 1 := by have := hA.2.2.2.2; omega
  have hl2 : A.2.2.1.length < 2 ^ 31 - 100 := by have := hA.2.2.2.2; omega
  unfold F_L_law_C24
  rw [sld1 hi' hs, bind_some', sld2 hi' hs, bind_some']
  unfold F_L_site
  exact lw_step (FR := fun s => F_X10_site s 310 (sx (i + 1)) (sx (i + 2))) (cd := cd2 eIO eIA) (fun x => x.toInt64) h (C_site h.1 i' (sx (i + 1)) (sx (i + 2))) (fun s c' hr => R_site hr i' (sx (i + 1)) (sx (i + 2))) (by rw [s_aSte]; exact h.2.2.1.mo) (fun e he => by
    rcases t_aSte he with rfl | rfl
    · exact cx21 _ _
    · exact cx22 _ _ n_IA_IO
    ) (fun _ _ => rfl) (fun _ _ => rfl)
theorem L_unlike {σ : Sto} {A : Ga} {c z n i sl : Nat} {Q : Nat → Prop} {sx : Nat → Int32} (h : LI σ A c z Q n) (hn : n ≤ 512) (hi' : i + 5 ≤ sl) (hs : sl ≤ 2560) (kJ : Sto → Option (Int32 × Sto)) : ∃ σ' A' c' z' Q', F_L_law_C25 sl sx 1 310 324 (nI i) σ kJ = kJ σ' ∧ LI σ' A' c' z' Q' (n + 1) := by
  have hA := h.2.2.1
  have i' := hA.1
  have hi := hA.2.1
  have h6 : wC A.1 6 < 2 ^ 31 := by have := hA.2.2.1; omega
  have hl : A.2.2.1.length < 2 ^ 31 - 1 := by have := hA.2.2.2.2; omega
  have hl2 : A.2.2.1.length < 2 ^ 31 - 100 := by have := hA.2.2.2.2; omega
  unfold F_L_law_C25
  rw [sld1 hi' hs, bind_some', sld2 hi' hs, bind_some']
  unfold F_L_unlike
  exact lw_step (FR := fun s => F_X10_unlike s 310 (sx (i + 1)) (sx (i + 2))) (cd := cd1 eIO) (fun x => x.toInt64) h (C_unlike h.1 i' (sx (i + 1)) (sx (i + 2))) (fun s c' hr => R_unlike hr i' (sx (i + 1)) (sx (i + 2))) (by rw [s_aUnl]; exact h.2.2.1.mo) (fun e he => by
    cases t_aUnl he
    exact cx1 _
    ) (fun _ _ => rfl) (fun _ _ => rfl)
theorem L_would {σ : Sto} {A : Ga} {c z n i sl : Nat} {Q : Nat → Prop} {sx : Nat → Int32} (h : LI σ A c z Q n) (hn : n ≤ 512) (hi' : i + 5 ≤ sl) (hs : sl ≤ 2560) (kJ : Sto → Option (Int32 × Sto)) : ∃ σ' A' c' z' Q', F_L_law_C26 sl sx 1 310 324 (nI i) σ kJ = kJ σ' ∧ LI σ' A' c' z' Q' (n + 1) := by
  have hA := h.2.2.1
  have i' := hA.1
  have hi := hA.2.1
  have h6 : wC A.1 6 < 2 ^ 31 := by have := hA.2.2.1; omega
  have hl : A.2.2.1.length < 2 ^ 31 - 1 := by have := hA.2.2.2.2; omega
  have hl2 : A.2.2.1.length < 2 ^ 31 - 100 := by have := hA.2.2.2.2; omega
  unfold F_L_law_C26
  rw [sld1 hi' hs, bind_some', sld2 hi' hs, bind_some', sld3 hi' hs, bind_some']
  unfold F_L_would
  exact lw_step (FR := fun s => F_X10_would s 310 (sx (i + 1)) (sx (i + 2)) (sx (i + 3))) (cd := cd2 eIO eIA) (fun x => x.toInt64) h (C_would h.1 i' (sx (i + 1)) (sx (i + 2)) (sx (i + 3))) (fun s c' hr => R_would hr i' (sx (i + 1)) (sx (i + 2)) (sx (i + 3))) (by rw [s_aWou]; exact h.2.2.1.mo) (fun e he => by
    rcases t_aWou he with rfl | rfl
    · exact cx21 _ _
    · exact cx22 _ _ n_IA_IO
    ) (fun _ _ => rfl) (fun _ _ => rfl)
theorem L_event {σ : Sto} {A : Ga} {c z n i sl : Nat} {Q : Nat → Prop} {sx : Nat → Int32} (h : LI σ A c z Q n) (hn : n ≤ 512) (hi' : i + 5 ≤ sl) (hs : sl ≤ 2560) (kJ : Sto → Option (Int32 × Sto)) : ∃ σ' A' c' z' Q', F_L_law_C27 sl sx 1 310 324 (nI i) σ kJ = kJ σ' ∧ LI σ' A' c' z' Q' (n + 1) := by
  have hA := h.2.2.1
  have i' := hA.1
  have hi := hA.2.1
  have h6 : wC A.1 6 < 2 ^ 31 := by have := hA.2.2.1; omega
  have hl : A.2.2.1.length < 2 ^ 31 - 1 := by have := hA.2.2.2.2; omega
  have hl2 : A.2.2.1.length < 2 ^ 31 - 100 := by have := hA.2.2.2.2; omega
  unfold F_L_law_C27
  rw [sld1 hi' hs, bind_some', sld2 hi' hs, bind_some']
  unfold F_L_event
  exact lw_step (FR := fun s => F_X10_event s 310 (sx (i + 1)) (sx (i + 2))) (cd := cd2 eIO eIA) (fun x => x.toInt64) h (C_event h.1 i' (sx (i + 1)) (sx (i + 2))) (fun s c' hr => R_event hr i' (sx (i + 1)) (sx (i + 2))) (by rw [s_aEve]; exact h.2.2.1.mo) (fun e he => by
    rcases t_aEve he with rfl | rfl
    · exact cx21 _ _
    · exact cx22 _ _ n_IA_IO
    ) (fun _ _ => rfl) (fun _ _ => rfl)
theorem L_ahead {σ : Sto} {A : Ga} {c z n i sl : Nat} {Q : Nat → Prop} {sx : Nat → Int32} (h : LI σ A c z Q n) (hn : n ≤ 512) (hi' : i + 5 ≤ sl) (hs : sl ≤ 2560) (kJ : Sto → Option (Int32 × Sto)) : ∃ σ' A' c' z' Q', F_L_law_C28 sl sx 1 310 324 (nI i) σ kJ = kJ σ' ∧ LI σ' A' c' z' Q' (n + 1) := by
  have hA := h.2.2.1
  have i' := hA.1
  have hi := hA.2.1
  have h6 : wC A.1 6 < 2 ^ 31 := by have := hA.2.2.1; omega
  have hl : A.2.2.1.length < 2 ^ 31 - 1 := by have := hA.2.2.2.2; omega
  have hl2 : A.2.2.1.length < 2 ^ 31 - 100 := by have := hA.2.2.2.2; omega
  unfold F_L_law_C28
  rw [sld1 hi' hs, bind_some', sld2 hi' hs, bind_some']
  unfold F_L_ahead
  exact lw_step (FR := fun s => F_X10_ahead s 310 (sx (i + 1)) (sx (i + 2))) (cd := cd1 eIO) (fun x => if x = 0 then (0 : Int64) else 1) h (C_ahead h.1 i' (sx (i + 1)) (sx (i + 2))) (fun s c' hr => R_ahead hr i' (sx (i + 1)) (sx (i + 2))) (by rw [s_aAhd]; exact h.2.2.1.mo) (fun e he => by
    cases t_aAhd he
    exact cx1 _
    ) (fun x s => by
    by_cases hx : x = 0
    · rw [if_pos hx, if_pos hx]
    · rw [if_neg hx, if_neg hx]) (fun x12 s11 => by simp only [bind_some', jbool])
theorem L_wide {σ : Sto} {A : Ga} {c z n i sl : Nat} {Q : Nat → Prop} {sx : Nat → Int32} (h : LI σ A c z Q n) (hn : n ≤ 512) (hi' : i + 5 ≤ sl) (hs : sl ≤ 2560) (kJ : Sto → Option (Int32 × Sto)) : ∃ σ' A' c' z' Q', F_L_law_C29 sl sx 1 310 324 (nI i) σ kJ = kJ σ' ∧ LI σ' A' c' z' Q' (n + 1) := by
  have hA := h.2.2.1
  have i' := hA.1
  have hi := hA.2.1
  have h6 : wC A.1 6 < 2 ^ 31 := by have := hA.2.2.1; omega
  have hl : A.2.2.1.length < 2 ^ 31 - 1 := by have := hA.2.2.2.2; omega
  have hl2 : A.2.2.1.length < 2 ^ 31 - 100 := by have := hA.2.2.2.2; omega
  unfold F_L_law_C29
  rw [sld1 hi' hs, bind_some']
  unfold F_L_wide
  exact lw_step (FR := fun s => F_X10_wide s 310 (sx (i + 1))) (cd := cd1 eIA) (fun x => x.toInt64) h (C_wide h.1 i' (sx (i + 1))) (fun s c' hr => R_wide hr i' (sx (i + 1))) (by rw [s_aWid]; exact h.2.2.1.mo) (fun e he => by
    cases t_aWid he
    exact cx1 _
    ) (fun _ _ => rfl) (fun _ _ => rfl)
theorem L_came {σ : Sto} {A : Ga} {c z n i sl : Nat} {Q : Nat → Prop} {sx : Nat → Int32} (h : LI σ A c z Q n) (hn : n ≤ 512) (hi' : i + 5 ≤ sl) (hs : sl ≤ 2560) (kJ : Sto → Option (Int32 × Sto)) : ∃ σ' A' c' z' Q', F_L_law_C30 sl sx 1 310 324 (nI i) σ kJ = kJ σ' ∧ LI σ' A' c' z' Q' (n + 1) := by
  have hA := h.2.2.1
  have i' := hA.1
  have hi := hA.2.1
  have h6 : wC A.1 6 < 2 ^ 31 := by have := hA.2.2.1; omega
  have hl : A.2.2.1.length < 2 ^ 31 - 1 := by have := hA.2.2.2.2; omega
  have hl2 : A.2.2.1.length < 2 ^ 31 - 100 := by have := hA.2.2.2.2; omega
  unfold F_L_law_C30
  rw [sld1 hi' hs, bind_some', sld2 hi' hs, bind_some', sld3 hi' hs, bind_some']
  unfold F_L_came
  exact lw_step (FR := fun s => F_X10_came s 310 (sx (i + 1)) (sx (i + 2)) (sx (i + 3))) (cd := cd2 eIO eIA) (fun x => x.toInt64) h (C_came h.1 i' (sx (i + 1)) (sx (i + 2)) (sx (i + 3))) (fun s c' hr => R_came hr i' (sx (i + 1)) (sx (i + 2)) (sx (i + 3))) (by rw [s_aCam]; exact h.2.2.1.mo) (fun e he => by
    rcases t_aCam he with rfl | rfl
    · exact cx21 _ _
    · exact cx22 _ _ n_IA_IO
    ) (fun _ _ => rfl) (fun _ _ => rfl)
theorem L_way {σ : Sto} {A : Ga} {c z n i sl : Nat} {Q : Nat → Prop} {sx : Nat → Int32} (h : LI σ A c z Q n) (hn : n ≤ 512) (hi' : i + 5 ≤ sl) (hs : sl ≤ 2560) (kJ : Sto → Option (Int32 × Sto)) : ∃ σ' A' c' z' Q', F_L_law_C31 sl sx 1 310 324 (nI i) σ kJ = kJ σ' ∧ LI σ' A' c' z' Q' (n + 1) := by
  have hA := h.2.2.1
  have i' := hA.1
  have hi := hA.2.1
  have h6 : wC A.1 6 < 2 ^ 31 := by have := hA.2.2.1; omega
  have hl : A.2.2.1.length < 2 ^ 31 - 1 := by have := hA.2.2.2.2; omega
  have hl2 : A.2.2.1.length < 2 ^ 31 - 100 := by have := hA.2.2.2.2; omega
  unfold F_L_law_C31
  rw [sld1 hi' hs, bind_some', sld2 hi' hs, bind_some', sld3 hi' hs, bind_some']
  unfold F_L_way
  exact lw_step (FR := fun s => F_X10_way s 310 (sx (i + 1)) (sx (i + 2)) (sx (i + 3))) (cd := cd1 eIO) (fun x => x.toInt64) h (C_way h.1 i' (fun s hs e he => (i'.L (show s < 5 by have := i'.n5; omega)).2.2.2.2.2 e he) (sx (i + 1)) (sx (i + 2)) (sx (i + 3))) (fun s c' hr => R_way hr i' (sx (i + 1)) (sx (i + 2)) (sx (i + 3))) (by rw [s_aWay]; exact h.2.2.1.mo) (fun e he => by
    cases t_aWay he
    exact cx1 _
    ) (fun _ _ => rfl) (fun _ _ => rfl)
theorem L_slowest {σ : Sto} {A : Ga} {c z n i sl : Nat} {Q : Nat → Prop} {sx : Nat → Int32} (h : LI σ A c z Q n) (hn : n ≤ 512) (hi' : i + 5 ≤ sl) (hs : sl ≤ 2560) (kJ : Sto → Option (Int32 × Sto)) : ∃ σ' A' c' z' Q', F_L_law_C32 sl sx 1 310 324 (nI i) σ kJ = kJ σ' ∧ LI σ' A' c' z' Q' (n + 1) := by
  have hA := h.2.2.1
  have i' := hA.1
  have hi := hA.2.1
  have h6 : wC A.1 6 < 2 ^ 31 := by have := hA.2.2.1; omega
  have hl : A.2.2.1.length < 2 ^ 31 - 1 := by have := hA.2.2.2.2; omega
  have hl2 : A.2.2.1.length < 2 ^ 31 - 100 := by have := hA.2.2.2.2; omega
  unfold F_L_law_C32
  rw [sld1 hi' hs, bind_some']
  unfold F_L_slowest
  exact lw_step (FR := fun s => F_X10_slowest s 310 (sx (i + 1))) (cd := cd1 eIA) (fun x => x.toInt64) h (C_slow h.1 i' h6 (sx (i + 1))) (fun s c' hr => R_slowest hr i' h6 (sx (i + 1))) (by rw [s_aSlo]; exact h.2.2.1.mo) (fun e he => by
    cases t_aSlo he
    exact cx1 _
    ) (fun _ _ => rfl) (fun _ _ => rfl)
theorem L_chain {σ : Sto} {A : Ga} {c z n i sl : Nat} {Q : Nat → Prop} {sx : Nat → Int32} (h : LI σ A c z Q n) (hn : n ≤ 512) (hi' : i + 5 ≤ sl) (hs : sl ≤ 2560) (kJ : Sto → Option (Int32 × Sto)) : ∃ σ' A' c' z' Q', F_L_law_C33 sl sx 1 310 324 (nI i) σ kJ = kJ σ' ∧ LI σ' A' c' z' Q' (n + 1) := by
  have hA := h.2.2.1
  have i' := hA.1
  have hi := hA.2.1
  have h6 : wC A.1 6 < 2 ^ 31 := by have := hA.2.2.1; omega
  have hl : A.2.2.1.length < 2 ^ 31 - 1 := by have := hA.2.2.2.2; omega
  have hl2 : A.2.2.1.length < 2 ^ 31 - 100 := by have := hA.2.2.2.2; omega
  unfold F_L_law_C33
  rw [sld1 hi' hs, bind_some', sld2 hi' hs, bind_some']
  unfold F_L_chain
  exact lw_step (FR := fun s => F_X10_chain s 310 (sx (i + 1)) (sx (i + 2))) (cd := cd1 eIO) (fun x => x.toInt64) h (C_chain h.1 i' (sx (i + 1)) (sx (i + 2))) (fun s c' hr => R_chain hr i' (sx (i + 1)) (sx (i + 2))) (by rw [s_aChn]; exact h.2.2.1.mo) (fun e he => by
    cases t_aChn he
    exact cx1 _
    ) (fun _ _ => rfl) (fun _ _ => rfl)
theorem L_between {σ : Sto} {A : Ga} {c z n i sl : Nat} {Q : Nat → Prop} {sx : Nat → Int32} (h : LI σ A c z Q n) (hn : n ≤ 512) (hi' : i + 5 ≤ sl) (hs : sl ≤ 2560) (kJ : Sto → Option (Int32 × Sto)) : ∃ σ' A' c' z' Q', F_L_law_C34 sl sx 1 310 324 (nI i) σ kJ = kJ σ' ∧ LI σ' A' c' z' Q' (n + 1) := by
  have hA := h.2.2.1
  have i' := hA.1
  have hi := hA.2.1
  have h6 : wC A.1 6 < 2 ^ 31 := by have := hA.2.2.1; omega
  have hl : A.2.2.1.length < 2 ^ 31 - 1 := by have := hA.2.2.2.2; omega
  have hl2 : A.2.2.1.length < 2 ^ 31 - 100 := by have := hA.2.2.2.2; omega
  unfold F_L_law_C34
  rw [sld1 hi' hs, bind_some', sld2 hi' hs, bind_some']
  unfold F_L_between
  exact lw_step (FR := fun s => F_X10_between s 310 (sx (i + 1)) (sx (i + 2))) (cd := cd1 eIO) (fun x => x.toInt64) h (C_between h.1 i' (sx (i + 1)) (sx (i + 2))) (fun s c' hr => R_between hr i' (sx (i + 1)) (sx (i + 2))) (by rw [s_aBet]; exact h.2.2.1.mo) (fun e he => by
    cases t_aBet he
    exact cx1 _
    ) (fun _ _ => rfl) (fun _ _ => rfl)
theorem L_front {σ : Sto} {A : Ga} {c z n i sl : Nat} {Q : Nat → Prop} {sx : Nat → Int32} (h : LI σ A c z Q n) (hn : n ≤ 512) (hi' : i + 5 ≤ sl) (hs : sl ≤ 2560) (kJ : Sto → Option (Int32 × Sto)) : ∃ σ' A' c' z' Q', F_L_law_C35 sl sx 1 310 324 (nI i) σ kJ = kJ σ' ∧ LI σ' A' c' z' Q' (n + 1) := by
  have hA := h.2.2.1
  have i' := hA.1
  have hi := hA.2.1
  have h6 : wC A.1 6 < 2 ^ 31 := by have := hA.2.2.1; omega
  have hl : A.2.2.1.length < 2 ^ 31 - 1 := by have := hA.2.2.2.2; omega
  have hl2 : A.2.2.1.length < 2 ^ 31 - 100 := by have := hA.2.2.2.2; omega
  unfold F_L_law_C35
  rw [sld1 hi' hs, bind_some', sld2 hi' hs, bind_some']
  unfold F_L_front
  exact lw_step (FR := fun s => F_X10_front s 310 (sx (i + 1)) (sx (i + 2))) (cd := cd1 eIO) (fun x => x.toInt64) h (C_front h.1 i' (sx (i + 1)) (sx (i + 2))) (fun s c' hr => R_front hr i' (sx (i + 1)) (sx (i + 2))) (by rw [s_aFro]; exact h.2.2.1.mo) (fun e he => by
    cases t_aFro he
    exact cx1 _
    ) (fun _ _ => rfl) (fun _ _ => rfl)
theorem L_only {σ : Sto} {A : Ga} {c z n i sl : Nat} {Q : Nat → Prop} {sx : Nat → Int32} (h : LI σ A c z Q n) (hn : n ≤ 512) (hi' : i + 5 ≤ sl) (hs : sl ≤ 2560) (kJ : Sto → Option (Int32 × Sto)) : ∃ σ' A' c' z' Q', F_L_law_C36 sl sx 1 310 324 (nI i) σ kJ = kJ σ' ∧ LI σ' A' c' z' Q' (n + 1) := by
  have hA := h.2.2.1
  have i' := hA.1
  have hi := hA.2.1
  have h6 : wC A.1 6 < 2 ^ 31 := by have := hA.2.2.1; omega
  have hl : A.2.2.1.length < 2 ^ 31 - 1 := by have := hA.2.2.2.2; omega
  have hl2 : A.2.2.1.length < 2 ^ 31 - 100 := by have := hA.2.2.2.2; omega
  unfold F_L_law_C36
  rw [sld1 hi' hs, bind_some', sld2 hi' hs, bind_some', sld3 hi' hs, bind_some']
  unfold F_L_only
  exact lw_step (FR := fun s => F_X10_only s 310 (sx (i + 1)) (sx (i + 2)) (sx (i + 3))) (cd := cd1 eIO) (fun x => x.toInt64) h (C_only h.1 i' (sx (i + 1)) (sx (i + 2)) (sx (i + 3))) (fun s c' hr => R_only hr i' (sx (i + 1)) (sx (i + 2)) (sx (i + 3))) (by rw [s_aOnl]; exact h.2.2.1.mo) (fun e he => by
    cases t_aOnl he
    exact cx1 _
    ) (fun _ _ => rfl) (fun _ _ => rfl)
theorem L_sure {σ : Sto} {A : Ga} {c z n i sl : Nat} {Q : Nat → Prop} {sx : Nat → Int32} (h : LI σ A c z Q n) (hn : n ≤ 512) (hi' : i + 5 ≤ sl) (hs : sl ≤ 2560) (kJ : Sto → Option (Int32 × Sto)) : ∃ σ' A' c' z' Q', F_L_law_C37 sl sx 1 310 324 (nI i) σ kJ = kJ σ' ∧ LI σ' A' c' z' Q' (n + 1) := by
  have hA := h.2.2.1
  have i' := hA.1
  have hi := hA.2.1
  have h6 : wC A.1 6 < 2 ^ 31 := by have := hA.2.2.1; omega
  have hl : A.2.2.1.length < 2 ^ 31 - 1 := by have := hA.2.2.2.2; omega
  have hl2 : A.2.2.1.length < 2 ^ 31 - 100 := by have := hA.2.2.2.2; omega
  unfold F_L_law_C37
  rw [sld1 hi' hs, bind_some', sld2 hi' hs, bind_some']
  unfold F_L_sure
  exact lw_step (FR := fun s => F_X10_sure s 310 (sx (i + 1)) (sx (i + 2))) (cd := cd2 eIO eIA) (fun x => x.toInt64) h (C_sure h.1 i' (sx (i + 1)) (sx (i + 2))) (fun s c' hr => R_sure hr i' (sx (i + 1)) (sx (i + 2))) (by rw [s_aSur]; exact h.2.2.1.mo) (fun e he => by
    rcases t_aSur he with rfl | rfl
    · exact cx21 _ _
    · exact cx22 _ _ n_IA_IO
    ) (fun _ _ => rfl) (fun _ _ => rfl)
theorem L_part {σ : Sto} {A : Ga} {c z n i sl : Nat} {Q : Nat → Prop} {sx : Nat → Int32} (h : LI σ A c z Q n) (hn : n ≤ 512) (hi' : i + 5 ≤ sl) (hs : sl ≤ 2560) (kJ : Sto → Option (Int32 × Sto)) : ∃ σ' A' c' z' Q', F_L_law_C38 sl sx 1 310 324 (nI i) σ kJ = kJ σ' ∧ LI σ' A' c' z' Q' (n + 1) := by
  have hA := h.2.2.1
  have i' := hA.1
  have hi := hA.2.1
  have h6 : wC A.1 6 < 2 ^ 31 := by have := hA.2.2.1; omega
  have hl : A.2.2.1.length < 2 ^ 31 - 1 := by have := hA.2.2.2.2; omega
  have hl2 : A.2.2.1.length < 2 ^ 31 - 100 := by have := hA.2.2.2.2; omega
  unfold F_L_law_C38
  rw [sld1 hi' hs, bind_some']
  unfold F_L_part
  exact lw_step (FR := fun s => F_X10_part s 310 (sx (i + 1))) (cd := cd1 eIO) (fun x => x.toInt64) h (C_part h.1 i' (sx (i + 1))) (fun s c' hr => R_part hr i' (sx (i + 1))) (by rw [s_aPar]; exact h.2.2.1.mo) (fun e he => by
    cases t_aPar he
    exact cx1 _
    ) (fun _ _ => rfl) (fun _ _ => rfl)
theorem L_trace {σ : Sto} {A : Ga} {c z n i sl : Nat} {Q : Nat → Prop} {sx : Nat → Int32} (h : LI σ A c z Q n) (hn : n ≤ 512) (hi' : i + 5 ≤ sl) (hs : sl ≤ 2560) (kJ : Sto → Option (Int32 × Sto)) : ∃ σ' A' c' z' Q', F_L_law_C39 sl sx 1 310 324 (nI i) σ kJ = kJ σ' ∧ LI σ' A' c' z' Q' (n + 1) := by
  have hA := h.2.2.1
  have i' := hA.1
  have hi := hA.2.1
  have h6 : wC A.1 6 < 2 ^ 31 := by have := hA.2.2.1; omega
  have hl : A.2.2.1.length < 2 ^ 31 - 1 := by have := hA.2.2.2.2; omega
  have hl2 : A.2.2.1.length < 2 ^ 31 - 100 := by have := hA.2.2.2.2; omega
  unfold F_L_law_C39
  rw [sld1 hi' hs, bind_some', sld2 hi' hs, bind_some']
  unfold F_L_trace
  exact lw_step (FR := fun s => F_X10_trace s 310 (sx (i + 1)) (sx (i + 2))) (cd := cd2 eNS eIA) (fun x => x.toInt64) h (C_trace h.1  (sx (i + 1)) (sx (i + 2))) (fun s c' hr => R_trace hr hl (sx (i + 1)) (sx (i + 2))) (by rw [s_aTra]; exact h.2.2.1.mo) (fun e he => by
    rcases t_aTra he with rfl | rfl
    · exact cx21 _ _
    · exact cx22 _ _ n_IA_NS
    ) (fun _ _ => rfl) (fun _ _ => rfl)
theorem L_gossip {σ : Sto} {A : Ga} {c z n i sl : Nat} {Q : Nat → Prop} {sx : Nat → Int32} (h : LI σ A c z Q n) (hn : n ≤ 512) (hi' : i + 5 ≤ sl) (hs : sl ≤ 2560) (kJ : Sto → Option (Int32 × Sto)) : ∃ σ' A' c' z' Q', F_L_law_C40 sl sx 1 310 324 (nI i) σ kJ = kJ σ' ∧ LI σ' A' c' z' Q' (n + 1) := by
  have hA := h.2.2.1
  have i' := hA.1
  have hi := hA.2.1
  have h6 : wC A.1 6 < 2 ^ 31 := by have := hA.2.2.1; omega
  have hl : A.2.2.1.length < 2 ^ 31 - 1 := by have := hA.2.2.2.2; omega
  have hl2 : A.2.2.1.length < 2 ^ 31 - 100 := by have := hA.2.2.2.2; omega
  unfold F_L_law_C40
  rw [sld1 hi' hs, bind_some']
  unfold F_L_gossip
  exact lw_step (FR := fun s => F_X10_gossip s 310 (sx (i + 1))) (cd := cd1 eIA) (fun x => x.toInt64) h (C_gossip h.1 i' i'.ie (sx (i + 1))) (fun s c' hr => R_gossip hr i' hi (sx (i + 1))) (by rw [s_aGos]; exact h.2.2.1.mo) (fun e he => by
    cases t_aGos he
    exact cx1 _
    ) (fun _ _ => rfl) (fun _ _ => rfl)
theorem L_falling {σ : Sto} {A : Ga} {c z n i sl : Nat} {Q : Nat → Prop} {sx : Nat → Int32} (h : LI σ A c z Q n) (hn : n ≤ 512) (hi' : i + 5 ≤ sl) (hs : sl ≤ 2560) (kJ : Sto → Option (Int32 × Sto)) : ∃ σ' A' c' z' Q', F_L_law_C41 sl sx 1 310 324 (nI i) σ kJ = kJ σ' ∧ LI σ' A' c' z' Q' (n + 1) := by
  have hA := h.2.2.1
  have i' := hA.1
  have hi := hA.2.1
  have h6 : wC A.1 6 < 2 ^ 31 := by have := hA.2.2.1; omega
  have hl : A.2.2.1.length < 2 ^ 31 - 1 := by have := hA.2.2.2.2; omega
  have hl2 : A.2.2.1.length < 2 ^ 31 - 100 := by have := hA.2.2.2.2; omega
  unfold F_L_law_C41
  rw [sld1 hi' hs, bind_some', sld2 hi' hs, bind_some']
  unfold F_L_falling
  exact lw_step (FR := fun s => F_X10_falling s 310 (sx (i + 1)) (sx (i + 2))) (cd := cd2 eIO eIA) (fun x => x.toInt64) h (C_falling h.1 i' (sx (i + 1)) (sx (i + 2))) (fun s c' hr => R_falling hr i' hi (sx (i + 1)) (sx (i + 2))) (by rw [s_aFlg]; exact h.2.2.1.mo) (fun e he => by
    rcases t_aFlg he with rfl | rfl
    · exact cx21 _ _
    · exact cx22 _ _ n_IA_IO
    ) (fun _ _ => rfl) (fun _ _ => rfl)
theorem L_joining {σ : Sto} {A : Ga} {c z n i sl : Nat} {Q : Nat → Prop} {sx : Nat → Int32} (h : LI σ A c z Q n) (hn : n ≤ 512) (hi' : i + 5 ≤ sl) (hs : sl ≤ 2560) (kJ : Sto → Option (Int32 × Sto)) : ∃ σ' A' c' z' Q', F_L_law_C42 sl sx 1 310 324 (nI i) σ kJ = kJ σ' ∧ LI σ' A' c' z' Q' (n + 1) := by
  have hA := h.2.2.1
  have i' := hA.1
  have hi := hA.2.1
  have h6 : wC A.1 6 < 2 ^ 31 := by have := hA.2.2.1; omega
  have hl : A.2.2.1.length < 2 ^ 31 - 1 := by have := hA.2.2.2.2; omega
  have hl2 : A.2.2.1.length < 2 ^ 31 - 100 := by have := hA.2.2.2.2; omega
  unfold F_L_law_C42
  rw [sld1 hi' hs, bind_some', sld2 hi' hs, bind_some', sld3 hi' hs, bind_some']
  unfold F_L_joining
  exact lw_step (FR := fun s => F_X10_joining s 310 (sx (i + 1)) (sx (i + 2)) (sx (i + 3))) (cd := cd2 eIO eIA) (fun x => x.toInt64) h (C_joining h.1 i' (sx (i + 1)) (sx (i + 2)) (sx (i + 3))) (fun s c' hr => R_joining hr i' hi (sx (i + 1)) (sx (i + 2)) (sx (i + 3))) (by rw [s_aJng]; exact h.2.2.1.mo) (fun e he => by
    rcases t_aJng he with rfl | rfl
    · exact cx21 _ _
    · exact cx22 _ _ n_IA_IO
    ) (fun _ _ => rfl) (fun _ _ => rfl)
theorem L_best {σ : Sto} {A : Ga} {c z n i sl : Nat} {Q : Nat → Prop} {sx : Nat → Int32} (h : LI σ A c z Q n) (hn : n ≤ 512) (hi' : i + 5 ≤ sl) (hs : sl ≤ 2560) (kJ : Sto → Option (Int32 × Sto)) : ∃ σ' A' c' z' Q', F_L_law_C43 sl sx 1 310 324 (nI i) σ kJ = kJ σ' ∧ LI σ' A' c' z' Q' (n + 1) := by
  have hA := h.2.2.1
  have i' := hA.1
  have hi := hA.2.1
  have h6 : wC A.1 6 < 2 ^ 31 := by have := hA.2.2.1; omega
  have hl : A.2.2.1.length < 2 ^ 31 - 1 := by have := hA.2.2.2.2; omega
  have hl2 : A.2.2.1.length < 2 ^ 31 - 100 := by have := hA.2.2.2.2; omega
  unfold F_L_law_C43
  rw [sld1 hi' hs, bind_some']
  unfold F_L_best
  exact lw_step (FR := fun s => F_X10_best s 310 (sx (i + 1))) (cd := cd1 eIO) (fun x => x.toInt64) h (C_best h.1 i' (sx (i + 1))) (fun s c' hr => R_best hr i' hi (sx (i + 1))) (by rw [s_aBst]; exact h.2.2.1.mo) (fun e he => by
    cases t_aBst he
    exact cx1 _
    ) (fun _ _ => rfl) (fun _ _ => rfl)
