/-! ===== PURE 1: a calculus for the functions; cells of a store ===== -/
/-- a function comes to an end, with P -/
def Hs {ρ : Type} (t : Option ρ) (P : ρ → Prop) : Prop := ∃ r, t = some r ∧ P r
section HS
variable {α β ρ : Type} {P : ρ → Prop}
theorem Hs.ret {r : ρ} (h : P r) : Hs (some r) P := ⟨r, rfl, h⟩
theorem Hs.mono {t : Option ρ} {Q : ρ → Prop} (h : Hs t Q) (hq : ∀ r, Q r → P r) : Hs t P := by
  obtain ⟨r, h1, h2⟩ := h
  exact ⟨r, h1, hq r h2⟩
theorem Hs.of {t u : Option ρ} (e : t = u) (h : Hs u P) : Hs t P := by rw [e]; exact h
theorem Hs.bind {x : Option α} {v : α} {k : α → Option ρ} (hx : x = some v) (h : Hs (k v) P) : Hs (x.bind k) P := by
  rw [hx]; exact h
theorem Hs.bindS {x : Option α} {k : α → Option ρ} {Q : α → Prop} (hx : Hs x Q) (h : ∀ v, Q v → Hs (k v) P) : Hs (x.bind k) P := by
  obtain ⟨v, h1, h2⟩ := hx
  rw [h1]; exact h v h2
theorem Hs.wbQ {x : Option (α × Sto)} {k : α → Sto → Option ρ} {Q : α × Sto → Prop} (hx : Hs x Q) (h : ∀ v s, Q (v, s) → Hs (k v s) P) : Hs (wb x k) P := by
  obtain ⟨⟨v, s⟩, h1, h2⟩ := hx
  refine ⟨_, ?_, (h v s h2).choose_spec.2⟩
  rw [h1]
  exact (h v s h2).choose_spec.1
theorem Hs.wbE {x : Option (α × Sto)} {k : α → Sto → Option ρ} {v : α} {s : Sto} (hx : x = some (v, s)) (h : Hs (k v s) P) : Hs (wb x k) P := by
  obtain ⟨r, h1, h2⟩ := h
  exact ⟨r, by rw [hx]; exact h1, h2⟩
theorem Hs.tbQ {x : Option ((α ⊕ String) × Sto)} {k : α → Sto → Option ((β ⊕ String) × Sto)} {P : (β ⊕ String) × Sto → Prop} {Q : (α ⊕ String) × Sto → Prop} (hx : Hs x Q) (h : ∀ v s, Q (.inl v, s) → Hs (k v s) P) (hx2 : ∀ E s, Q (.inr E, s) → P (.inr E, s)) : Hs (tb x k) P := by
  obtain ⟨⟨q, s⟩, h1, h2⟩ := hx
  cases q with
  | inl v =>
    obtain ⟨r, h3, h4⟩ := h v s h2
    exact ⟨r, by rw [h1]; exact h3, h4⟩
  | inr E => exact ⟨_, by rw [h1]; rfl, hx2 E s h2⟩
theorem Hs.tcQ {x : Option ((α ⊕ String) × Sto)} {k : α → Sto → Option ρ} {c : String → Sto → Option ρ} {Q : (α ⊕ String) × Sto → Prop} (hx : Hs x Q) (h : ∀ v s, Q (.inl v, s) → Hs (k v s) P) (hc : ∀ E s, Q (.inr E, s) → Hs (c E s) P) : Hs (tc x k c) P := by
  obtain ⟨⟨q, s⟩, h1, h2⟩ := hx
  cases q with
  | inl v =>
    obtain ⟨r, h3, h4⟩ := h v s h2
    exact ⟨r, by rw [h1]; exact h3, h4⟩
  | inr E =>
    obtain ⟨r, h3, h4⟩ := hc E s h2
    exact ⟨r, by rw [h1]; exact h3, h4⟩
theorem Hs.chkQ {σ : Sto} {a ci : Nat} {k : Option ρ} (hc : (gO σ a ci).isSome = true) (h : Hs k P) : Hs (chk σ a ci k) P := by
  obtain ⟨r, h1, h2⟩ := h
  refine ⟨r, ?_, h2⟩
  show (if (gO σ a ci).isSome = true then k else none) = some r
  rw [if_pos hc, h1]
theorem Hs.ifp {c : Prop} [Decidable c] {x y : Option ρ} (hc : c) (h : Hs x P) : Hs (if c then x else y) P := by rw [if_pos hc]; exact h
theorem Hs.ifn {c : Prop} [Decidable c] {x y : Option ρ} (hc : ¬ c) (h : Hs y P) : Hs (if c then x else y) P := by rw [if_neg hc]; exact h
theorem Hs.ite {c : Prop} [Decidable c] {x y : Option ρ} (h1 : c → Hs x P) (h2 : ¬ c → Hs y P) : Hs (if c then x else y) P := by
  by_cases hc : c
  · exact Hs.ifp hc (h1 hc)
  · exact Hs.ifn hc (h2 hc)
theorem Hs.jnQ {φ : Type} {f : φ} {g : φ → Option ρ} (h : Hs (g f) P) : Hs (jn f g) P := h
end HS
/-- the cell at a number: none where an exception, the script, or nothing is -/
def cel (σ : Sto) (i : Nat) : Option Ent := (σ.1[i]?).bind id
def stc (σ : Sto) (a : Nat) (e : Ent) : Sto := (σ.1.set a (some e), σ.2)
def apc (σ : Sto) (e : Ent) (N : Nat) : Sto := (σ.1 ++ [some e], σ.2 + N)
section CEL
variable {σ : Sto} {a i ci kd k : Nat} {e : Ent}
theorem cel_at (h : cel σ a = some e) : σ.1[a]? = some (some e) := by
  unfold cel at h
  cases hq : σ.1[a]? with
  | none => rw [hq] at h; cases h
  | some x => rw [hq] at h; exact congrArg some h
theorem cel_of (h : σ.1[a]? = some (some e)) : cel σ a = some e := by unfold cel; rw [h]; rfl
theorem cel_lt (h : cel σ a = some e) : a < σ.1.length := (List.getElem?_eq_some_iff.mp (cel_at h)).1
theorem cel_stc (h : a < σ.1.length) (i : Nat) : cel (stc σ a e) i = if i = a then some e else cel σ i := by
  unfold cel stc
  by_cases hi : i = a
  · subst hi
    simp [h]
  · rw [if_neg hi]
    show ((σ.1.set a (some e))[i]?).bind id = _
    rw [List.getElem?_set_ne (Ne.symm hi)]
theorem len_stc : (stc σ a e).1.length = σ.1.length := List.length_set ..
theorem snd_stc : (stc σ a e).2 = σ.2 := rfl
theorem cel_apc {N : Nat} (i : Nat) : cel (apc σ e N) i = if i = σ.1.length then some e else cel σ i := by
  unfold cel apc
  show ((σ.1 ++ [some e])[i]?).bind id = _
  by_cases hi : i = σ.1.length
  · subst hi
    simp
  · rw [if_neg hi]
    by_cases hl : i < σ.1.length
    · rw [List.getElem?_append_left hl]
    · rw [List.getElem?_eq_none (by simp; omega), List.getElem?_eq_none (by omega)]
theorem len_apc {N : Nat} : (apc σ e N).1.length = σ.1.length + 1 := by simp [apc]
theorem gO_cel {fs : List Value} (h : cel σ a = some (.inl (ci, fs))) : gO σ a ci = some fs := gO_eq (cel_at h)
theorem gOs_cel {fs : List Value} (h : cel σ a = some (.inl (ci, fs))) : (gO σ a ci).isSome = true := by rw [gO_cel h]; rfl
theorem gV_cel {fs : List Value} {v : Value} (h : cel σ a = some (.inl (ci, fs))) (hk : fs[k]? = some v) : gV σ a ci k = some v := by
  unfold gV; rw [gO_cel h]; exact hk
theorem gI_cel {fs : List Value} {x : Int32} (h : cel σ a = some (.inl (ci, fs))) (hk : fs[k]? = some (.int x)) : gI σ a ci k = some x := by
  unfold gI; rw [gV_cel h hk]; rfl
theorem gL_cel {fs : List Value} {x : Int64} (h : cel σ a = some (.inl (ci, fs))) (hk : fs[k]? = some (.long x)) : gL σ a ci k = some x := by
  unfold gL; rw [gV_cel h hk]; rfl
theorem gR_cel {fs : List Value} {x : Nat} (h : cel σ a = some (.inl (ci, fs))) (hk : fs[k]? = some (.ref x)) : gR σ a ci k = some x := by
  unfold gR; rw [gV_cel h hk]; rfl
theorem sV_cel {fs : List Value} {v : Value} (h : cel σ a = some (.inl (ci, fs))) (hk : k < fs.length) : sV σ a ci k v = some (stc σ a (.inl (ci, fs.set k v))) := by
  unfold sV; rw [gO_cel h]; show (if k < fs.length then _ else _) = _; rw [if_pos hk]; rfl
theorem gA_cel {x : vp_A} (h : cel σ a = some (.inr (kd, x))) : gA σ a kd = some x := gA_eq (cel_at h)
theorem nI_bad {j n : Nat} (h : j < n) (hn : n ≤ 2 ^ 31) : ¬ (nI j < 0 ∨ n ≤ (nI j).toNatClampNeg) := by
  rw [nI_clamp (by omega)]
  intro h2
  rcases h2 with h2 | h2
  · exact nI_pos (by omega) h2
  · omega
theorem ald_nI {α : Type} {n j : Nat} {f : Nat → α} (h : j < n) (hn : n ≤ 2 ^ 31) : ald (some (n, f)) (nI j) = some (f j) := by
  show (if _ then _ else _) = _
  rw [if_neg (nI_bad h hn)]
  show some (f (nI j).toNatClampNeg) = _
  rw [nI_clamp (by omega)]
theorem iald_cel {n j : Nat} {f : Nat → Int32} (h : cel σ a = some (.inr (0, (n, .inl f)))) (hj : j < n) (hn : n ≤ 2 ^ 31) : iald σ a (nI j) = some (f j) := by
  unfold iald; rw [gA_cel h]; exact ald_nI hj hn
theorem zald_cel {n j : Nat} {f : Nat → Int32} (h : cel σ a = some (.inr (2, (n, .inl f)))) (hj : j < n) (hn : n ≤ 2 ^ 31) : zald σ a (nI j) = some (f j) := by
  unfold zald; rw [gA_cel h]; exact ald_nI hj hn
theorem lald_cel {n j : Nat} {f : Nat → Int64} (h : cel σ a = some (.inr (1, (n, .inr (.inl f))))) (hj : j < n) (hn : n ≤ 2 ^ 31) : lald σ a (nI j) = some (f j) := by
  unfold lald; rw [gA_cel h]; exact ald_nI hj hn
theorem aald_cel {n j : Nat} {f : Nat → Option Nat} (h : cel σ a = some (.inr (kd, (n, .inr (.inr (.inr (.inr f))))))) (hj : j < n) (hn : n ≤ 2 ^ 31) : aald σ a kd (nI j) = some (f j) := by
  unfold aald; rw [gA_cel h]; exact ald_nI hj hn
theorem aaldR_cel {n j p : Nat} {f : Nat → Option Nat} (h : cel σ a = some (.inr (kd, (n, .inr (.inr (.inr (.inr f))))))) (hj : j < n) (hn : n ≤ 2 ^ 31) (hp : f j = some p) : aaldR σ a kd (nI j) = some p := by
  unfold aaldR; rw [aald_cel h hj hn]; exact hp
theorem iast_cel {n j : Nat} {f : Nat → Int32} {x : Int32} (h : cel σ a = some (.inr (0, (n, .inl f)))) (hj : j < n) (hn : n ≤ 2 ^ 31) : iast σ a (nI j) x = some (stc σ a (.inr (0, (n, .inl (upd f j x))))) := by
  unfold iast; rw [gA_cel h]
  show (if _ then _ else _) = _
  rw [if_neg (nI_bad hj hn), nI_clamp (by omega)]
  rfl
theorem zast_cel {n j : Nat} {f : Nat → Int32} {x : Int32} (h : cel σ a = some (.inr (2, (n, .inl f)))) (hj : j < n) (hn : n ≤ 2 ^ 31) : zast σ a (nI j) x = some (stc σ a (.inr (2, (n, .inl (upd f j (vp_nar .boolean x)))))) := by
  unfold zast; rw [gA_cel h]
  show (if _ then _ else _) = _
  rw [if_neg (nI_bad hj hn), nI_clamp (by omega)]
  rfl
theorem last_cel {n j : Nat} {f : Nat → Int64} {x : Int64} (h : cel σ a = some (.inr (1, (n, .inr (.inl f))))) (hj : j < n) (hn : n ≤ 2 ^ 31) : last σ a (nI j) x = some (stc σ a (.inr (1, (n, .inr (.inl (vp_updL f j x)))))) := by
  unfold last; rw [gA_cel h]
  show (if _ then _ else _) = _
  rw [if_neg (nI_bad hj hn), nI_clamp (by omega)]
  rfl
end CEL
/-! ===== PURE 2: the reference's own cells, all numbers as naturals (nI n; -1 is nI (2^32 - 1)) ===== -/
/-- numbers in fields, the long, the thirteen arrays in the order in which they are made -/
abbrev Ms : Type := (Nat → Nat) × Nat × (Nat → Nat → Nat)
def upN (f : Nat → Nat) (k v : Nat) : Nat → Nat := fun j => if j = k then v else f j
theorem upN_s {f : Nat → Nat} {k v : Nat} : upN f k v k = v := if_pos rfl
theorem upN_n {f : Nat → Nat} {k v j : Nat} (h : j ≠ k) : upN f k v j = f j := if_neg h
def upA (F : Nat → Nat → Nat) (k : Nat) (f : Nat → Nat) : Nat → Nat → Nat := fun j => if j = k then f else F j
theorem upd_nI (f : Nat → Nat) (k v : Nat) : upd (fun j => nI (f j)) k (nI v) = fun j => nI (upN f k v j) := by
  funext j
  unfold upd upN
  split <;> rfl
def mO (a : Nat) (M : Ms) : List Value := [.int (nI (M.1 0)), .ref (a + 1), .ref (a + 2), .int (nI (M.1 3)), .ref (a + 3), .int (nI (M.1 5)), .ref (a + 4), .long (lN M.2.1), .ref (a + 5), .ref (a + 6), .ref (a + 7), .ref (a + 8), .int (nI (M.1 12)), .int (nI (M.1 13)), .ref (a + 9), .ref (a + 10), .ref (a + 11), .ref (a + 12), .ref (a + 13)]
def mlen (k : Nat) : Nat := match k with
  | 0 => 197700
  | 1 => 2
  | 2 => 128
  | 3 => 120
  | 4 => 120
  | 5 => 120
  | 6 => 120
  | 7 => 120
  | _ => 4096
theorem mlen_le (k : Nat) : mlen k ≤ 2 ^ 31 := by unfold mlen; split <;> decide
def mkd (k : Nat) : Nat := match k with
  | 1 => 2
  | 4 => 2
  | 8 => 2
  | _ => 0
def RM (σ : Sto) (a : Nat) (M : Ms) : Prop := cel σ a = some (.inl (10, mO a M)) ∧ ∀ k, k < 13 → cel σ (a + 1 + k) = some (.inr (mkd k, (mlen k, .inl (fun j => nI (M.2.2 k j)))))
/-- nothing but the reference's cells has changed -/
def Eo (a : Nat) (σ σ' : Sto) : Prop := σ'.2 = σ.2 ∧ σ'.1.length = σ.1.length ∧ ∀ i, (i < a ∨ a + 14 ≤ i) → cel σ' i = cel σ i
theorem Eo.rf {a : Nat} {σ : Sto} : Eo a σ σ := ⟨rfl, rfl, fun _ _ => rfl⟩
theorem Eo.tr {a : Nat} {σ σ1 σ2 : Sto} (h : Eo a σ σ1) (h2 : Eo a σ1 σ2) : Eo a σ σ2 := ⟨h2.1.trans h.1, h2.2.1.trans h.2.1, fun i hi => (h2.2.2 i hi).trans (h.2.2 i hi)⟩
theorem Eo.st {a b : Nat} {σ : Sto} {e0 e : Ent} (h : cel σ b = some e0) (h1 : a ≤ b) (h2 : b < a + 14) : Eo a σ (stc σ b e) := ⟨rfl, len_stc, fun i hi => by rw [cel_stc (cel_lt h), if_neg (by omega)]⟩
def uS (M : Ms) (k : Nat) (v : Nat) : Ms := (upN M.1 k v, M.2.1, M.2.2)
def uL (M : Ms) (v : Nat) : Ms := (M.1, v, M.2.2)
def uA (M : Ms) (k : Nat) (f : Nat → Nat) : Ms := (M.1, M.2.1, upA M.2.2 k f)
/-- one number of an array -/
def uN (M : Ms) (k j v : Nat) : Ms := uA M k (upN (M.2.2 k) j v)
section REFM
variable {σ : Sto} {a : Nat} {M : Ms}
theorem RM.ok (h : RM σ a M) : (gO σ a 10).isSome = true := gOs_cel h.1
theorem chk_eq {ρ : Type} {σ : Sto} {a ci : Nat} {k : Option ρ} (h : (gO σ a ci).isSome = true) : chk σ a ci k = k := by
  unfold chk; rw [if_pos h]
theorem RM.setS (h : RM σ a M) {k v : Nat} (hk : (mO a M).set k (.int (nI v)) = mO a (uS M k v)) (hl : k < 19) : ∃ σ', sV σ a 10 k (.int (nI v)) = some σ' ∧ RM σ' a (uS M k v) ∧ Eo a σ σ' := by
  refine ⟨_, sV_cel h.1 hl, ⟨?_, fun j hj => ?_⟩, Eo.st h.1 (Nat.le_refl _) (by omega)⟩
  · rw [cel_stc (cel_lt h.1), if_pos rfl, hk]
  · rw [cel_stc (cel_lt h.1), if_neg (by omega)]
    exact h.2 j hj
theorem RM.setL (h : RM σ a M) {v : Nat} : ∃ σ', sV σ a 10 7 (.long (lN v)) = some σ' ∧ RM σ' a (uL M v) ∧ Eo a σ σ' := by
  refine ⟨_, sV_cel h.1 (Nat.le_of_ble_eq_true rfl), ⟨?_, fun j hj => ?_⟩, Eo.st h.1 (Nat.le_refl _) (by omega)⟩
  · rw [cel_stc (cel_lt h.1), if_pos rfl]
    rfl
  · rw [cel_stc (cel_lt h.1), if_neg (by omega)]
    exact h.2 j hj
theorem RM.stA (h : RM σ a M) {k : Nat} (hk : k < 13) (f : Nat → Nat) : RM (stc σ (a + 1 + k) (.inr (mkd k, (mlen k, .inl (fun j => nI (f j)))))) a (uA M k f) ∧ Eo a σ (stc σ (a + 1 + k) (.inr (mkd k, (mlen k, .inl (fun j => nI (f j)))))) := by
  have hc := h.2 k hk
  refine ⟨⟨?_, fun j hj => ?_⟩, Eo.st hc (by omega) (by omega)⟩
  · rw [cel_stc (cel_lt hc), if_neg (by omega)]
    exact h.1
  · rw [cel_stc (cel_lt hc)]
    by_cases hjk : j = k
    · subst hjk
      rw [if_pos rfl]
      show _ = some (Sum.inr (mkd j, mlen j, Sum.inl (fun i => nI (upA M.2.2 j f j i))))
      simp [upA]
    · rw [if_neg (by omega), h.2 j hj]
      show _ = some (Sum.inr (mkd j, mlen j, Sum.inl (fun i => nI (upA M.2.2 k f j i))))
      simp [upA, hjk]
theorem RM.iald (h : RM σ a M) {k j : Nat} (hk : k < 13) (hd : mkd k = 0) (hj : j < mlen k) : iald σ (a + 1 + k) (nI j) = some (nI (M.2.2 k j)) := by
  have h1 := h.2 k hk
  rw [hd] at h1
  exact iald_cel h1 hj (mlen_le k)
theorem RM.zald (h : RM σ a M) {k j : Nat} (hk : k < 13) (hd : mkd k = 2) (hj : j < mlen k) : zald σ (a + 1 + k) (nI j) = some (nI (M.2.2 k j)) := by
  have h1 := h.2 k hk
  rw [hd] at h1
  exact zald_cel h1 hj (mlen_le k)
theorem RM.iast (h : RM σ a M) {k j v : Nat} (hk : k < 13) (hd : mkd k = 0) (hj : j < mlen k) : ∃ σ', iast σ (a + 1 + k) (nI j) (nI v) = some σ' ∧ RM σ' a (uN M k j v) ∧ Eo a σ σ' := by
  have h1 := h.2 k hk
  rw [hd] at h1
  refine ⟨_, iast_cel h1 hj (mlen_le k), ?_⟩
  have h2 := h.stA hk (upN (M.2.2 k) j v)
  rw [hd] at h2
  rw [upd_nI]
  exact h2
theorem nar01 {v : Nat} (h : v = 0 ∨ v = 1) : vp_nar .boolean (nI v) = nI v := by
  rcases h with rfl | rfl <;> decide +kernel
theorem RM.zast (h : RM σ a M) {k j v : Nat} (hk : k < 13) (hd : mkd k = 2) (hj : j < mlen k) (hv : v = 0 ∨ v = 1) : ∃ σ', zast σ (a + 1 + k) (nI j) (nI v) = some σ' ∧ RM σ' a (uN M k j v) ∧ Eo a σ σ' := by
  have h1 := h.2 k hk
  rw [hd] at h1
  refine ⟨_, zast_cel h1 hj (mlen_le k), ?_⟩
  have h2 := h.stA hk (upN (M.2.2 k) j v)
  rw [hd] at h2
  rw [nar01 hv, upd_nI]
  exact h2
end REFM
