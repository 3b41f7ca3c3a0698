/-! ===== PURE 29: ways, the slowest, parts ===== -/
theorem ifE {α : Type} {a b : Nat} (ha : a < 2 ^ 31) (hb : b < 2 ^ 31) [Decidable (nI a = nI b)] (x y : α) : (if nI a = nI b then x else y) = if a = b then x else y := by
  by_cases h : a = b
  · rw [if_pos h, if_pos (by rw [h])]
  · rw [if_neg h, if_neg (fun z => h ((nI_eq ha hb).mp z))]
theorem ifb0 {α : Type} (b : Bool) [Decidable (nI (b2 b) = 0)] (x y : α) : (if nI (b2 b) = 0 then x else y) = if b = true then y else x := by
  cases b
  · exact if_pos nI_0
  · exact if_neg (nI_ne0 (n := 1) (by omega) (by omega))
/-- the way of an event to a site, n sites at most -/
def pth (w : Wd) (e : Nat) : Nat → Nat → List Nat
  | 0, _ => []
  | f + 1, s => s :: (if sHs (wL w s) e && !decide (sBy (wL w s) e = s) then pth w e f (sBy (wL w s) e) else [])
/-- the answer of a list at an int: how many at -1, else that one or none -/
def atI (l : List Nat) (k : Int32) : Int32 := if k = -1 then nI l.length else if k < 0 then -1 else oI l[k.toNatClampNeg]?
theorem pth_len (w : Wd) (e : Nat) : ∀ f s, (pth w e f s).length ≤ f
  | 0, _ => Nat.le_refl _
  | f + 1, s => by
    show (s :: _).length ≤ f + 1
    rw [List.length_cons]
    split
    · have := pth_len w e f (sBy (wL w s) e); omega
    · simp
/-- the latest of all -/
def slE (ok : Nat → Bool) (h : Nat → Nat) : Nat → Option Nat
  | 0 => none
  | n + 1 => if ok n then (match slE ok h n with
    | none => some n
    | some b => if h b < h n then some n else some b) else slE ok h n
theorem slE_lt {ok : Nat → Bool} {h : Nat → Nat} : ∀ {n b : Nat}, slE ok h n = some b → b < n ∧ ok b = true
  | 0, _, hb => by cases hb
  | n + 1, b, hb => by
    unfold slE at hb
    by_cases hk : ok n = true
    · rw [if_pos hk] at hb
      cases hq : slE ok h n with
      | none => rw [hq] at hb; cases hb; exact ⟨by omega, hk⟩
      | some b0 =>
        rw [hq] at hb
        have := slE_lt hq
        dsimp only at hb
        split at hb <;> cases hb
        · exact ⟨by omega, hk⟩
        · exact ⟨by omega, this.2⟩
    · rw [if_neg hk] at hb
      have := slE_lt hb
      exact ⟨by omega, this.2⟩
/-! sets of sites as numbers -/
def lnk1 (w : Wd) (n a : Nat) : Nat := (List.range n).foldl (fun x o => if wcut w a o then x else x ||| 2 ^ o) 0
def pOne (w : Wd) (n : Nat) (x a : Nat) : Nat := if x.testBit a then x ||| lnk1 w n a else x
def pPass (w : Wd) (n x : Nat) : Nat := (List.range n).foldl (pOne w n) x
def pIt (w : Wd) (n : Nat) : Nat → Nat → Nat
  | 0, x => x
  | k + 1, x => pPass w n (pIt w n k x)
def part (w : Wd) (n s : Nat) : Nat := pIt w n n (2 ^ s)
theorem rng_fold {β : Type} (f : β → Nat → β) (b : β) (n : Nat) : (List.range (n + 1)).foldl f b = f ((List.range n).foldl f b) n := by
  rw [List.range_succ, List.foldl_append]; rfl
theorem or_lt {x y k : Nat} (hx : x < 2 ^ k) (hy : y < 2 ^ k) : x ||| y < 2 ^ k := Nat.or_lt_two_pow hx hy
theorem lnk1_lt (w : Wd) {n : Nat} (hn : n ≤ 5) (a : Nat) : lnk1 w n a < 32 := by
  have : ∀ k, k ≤ 5 → (List.range k).foldl (fun x o => if wcut w a o then x else x ||| 2 ^ o) 0 < 2 ^ 5 := by
    intro k
    induction k with
    | zero => intro _; show (0 : Nat) < 2 ^ 5; decide
    | succ k ih =>
      intro hk
      rw [rng_fold]
      have h1 := ih (by omega)
      split
      · exact h1
      · exact or_lt h1 (Nat.pow_lt_pow_right (by omega) (by omega))
  exact this n hn
theorem pOne_lt (w : Wd) {n : Nat} (hn : n ≤ 5) {x : Nat} (a : Nat) (hx : x < 32) : pOne w n x a < 32 := by
  unfold pOne
  split
  · exact or_lt (k := 5) hx (lnk1_lt w hn a)
  · exact hx
theorem pFold_lt (w : Wd) {n : Nat} (hn : n ≤ 5) {x : Nat} (hx : x < 32) : ∀ k, (List.range k).foldl (pOne w n) x < 32 := by
  intro k
  induction k with
  | zero => exact hx
  | succ k ih => rw [rng_fold]; exact pOne_lt w hn _ ih
theorem pIt_lt (w : Wd) {n : Nat} (hn : n ≤ 5) {x : Nat} (hx : x < 32) : ∀ k, pIt w n k x < 32 := by
  intro k
  induction k with
  | zero => exact hx
  | succ k ih => exact pFold_lt w hn ih n
theorem part_lt (w : Wd) {n s : Nat} (hn : n ≤ 5) (hs : s < 5) : part w n s < 32 := pIt_lt w hn (Nat.pow_lt_pow_right (m := s) (n := 5) (by omega) hs) n
theorem nI_or (x y : Nat) : nI x ||| nI y = nI (x ||| y) := by
  apply b_ext
  intro i hi
  rw [b_or, bt_nI, bt_nI, bt_nI, Nat.testBit_or]
  simp [hi]
theorem nI_and (x y : Nat) : nI x &&& nI y = nI (x &&& y) := by
  apply b_ext
  intro i hi
  rw [b_and, bt_nI, bt_nI, bt_nI, Nat.testBit_and]
  simp [hi]
theorem nI_shl1 {k : Nat} (hk : k < 32) : (1 : Int32) <<< (nI k &&& 31) = nI (2 ^ k) := by
  apply b_ext
  intro i hi
  rw [b_shl k hk _ hi, bt_1, bt_nI, Nat.testBit_two_pow]
  by_cases h : i = k
  · subst h; simp [hi]
  · by_cases h2 : k ≤ i
    · have : ¬ i - k = 0 := by omega
      have h3 : ¬ k = i := fun z => h z.symm
      simp [h2, this, h3]
    · have h3 : ¬ k = i := fun z => h z.symm
      simp [h2, h3]
theorem nI_bit {x k : Nat} (hk : k < 32) : ((nI x >>> (nI k &&& 31)) &&& (1 : Int32)) = nI (b2 (x.testBit k)) := by
  apply b_ext
  intro i hi
  rw [b_and, bt_1, bt_nI, b_sshr k hk _ hi]
  by_cases h : i = 0
  · subst h
    rw [if_pos (by omega), bt_nI, Nat.add_zero]
    cases hb : x.testBit k <;> simp [b2, hk]
  · have h2 : (b2 (x.testBit k)).testBit i = false := by
      have h3 : b2 (x.testBit k) < 2 ^ 1 := by cases x.testBit k <;> decide
      exact Nat.testBit_lt_two_pow (Nat.lt_of_lt_of_le h3 (Nat.pow_le_pow_right (by omega) (by omega)))
    simp [h, h2]
section WAY
variable {O : Nat → Prop} {L : Nat → Nat} {σ : Sto} {b : Nat} {w : Wd} {sl : Nat → Nat → Option Nat}
theorem m1_lt : (-1 : Int32) < 0 := by decide
theorem nI_k1 {j : Nat} (h : 1 ≤ j) : nI j - (1 : Int32) = nI (j - 1) := by rw [l_1, pk_sub h]
theorem C_wayOf (h : CW O L σ b w sl) (i : Jv w) (hby : ∀ s, s < wC w 0 → ∀ e, sHs (wL w s) e = true → sBy (wL w s) e < wC w 0) {s e : Nat} (hs : s < wC w 0) (he : e < wC w 2) (k : Int32) : F_X8_wayOf σ b (nI s) (nI e) k = some (if sHs (wL w s) e then atI (pth w e (wC w 0) s) k else -1) := by
  have hn := i.n5
  have hc := i.c
  have hs5 : s < 5 := by omega
  unfold F_X8_wayOf
  rw [chk_eq h.ok, h.r7, bind_some', h.lv hs5, bind_some', (h.SL hs5).g1, bind_some', X_holds (h.SL hs5).hs (by omega), bind_some', l_0, ifb]
  by_cases hb0 : ¬ sHs (wL w s) e = true
  · rw [if_neg hb0, if_neg hb0]
  have hb : sHs (wL w s) e = true := Classical.not_not.mp hb0
  rw [if_pos hb, if_pos hb]
  -- the walk
  have walk : ∀ f F a ln, a < wC w 0 → f < F → 1 ≤ ln → ln + f = wC w 0 + 1 → 1 ≤ f → (¬ k < 0 → ∃ k0, k = nI k0 ∧ k0 < 2 ^ 31 ∧ ln - 1 ≤ k0) → F_X8_wayOf_L24 σ b (nI e) k F (nI a) (nI ln) (fun x18 x19 => if k = (-1 : Int32) then some x19 else if k = x19 - (1 : Int32) then some x18 else some (-1 : Int32)) = some (if k = -1 then nI (ln - 1 + (pth w e f a).length) else if k < 0 then -1 else oI (pth w e f a)[k.toNatClampNeg - (ln - 1)]?) := by
    intro f
    induction f with
    | zero => intro F a ln _ _ _ _ h1; omega
    | succ f ih =>
      intro F a ln ha hF hln hlf _ hk
      have ha5 : a < 5 := by omega
      cases F with
      | zero => omega
      | succ F =>
        -- what the walk answers if it ends here
        have stop : (pth w e (f + 1) a = [a]) ∨ (¬ k < 0 ∧ k = nI (ln - 1)) → (if k = (-1 : Int32) then some (nI ln) else if k = nI ln - (1 : Int32) then some (nI a) else some (-1 : Int32)) = some (if k = -1 then nI (ln - 1 + (pth w e (f + 1) a).length) else if k < 0 then -1 else oI (pth w e (f + 1) a)[k.toNatClampNeg - (ln - 1)]?) := by
          intro hst
          rw [nI_k1 hln]
          by_cases hk1 : k = -1
          · rw [if_pos hk1, if_pos hk1]
            rcases hst with h1 | h1
            · rw [h1]
              show some (nI ln) = some (nI (ln - 1 + 1))
              rw [show ln - 1 + 1 = ln by omega]
            · rw [hk1] at h1; exact absurd m1_lt h1.1
          · rw [if_neg hk1, if_neg hk1]
            by_cases hk0 : k < 0
            · rw [if_pos hk0, if_neg (fun z => by rw [z] at hk0; exact nI_pos (by omega) hk0)]
            · rw [if_neg hk0]
              obtain ⟨k0, rfl, hk31, hk2⟩ := hk hk0
              rw [nI_clamp hk31, ifE hk31 (by omega)]
              by_cases hk3 : k0 = ln - 1
              · rw [if_pos hk3, show k0 - (ln - 1) = 0 by omega]
                rfl
              · rw [if_neg hk3]
                rcases hst with h1 | h1
                · rw [h1, show k0 - (ln - 1) = (k0 - (ln - 1) - 1) + 1 by omega, List.getElem?_cons_succ, List.getElem?_nil]
                  rfl
                · exact absurd ((nI_eq hk31 (by omega)).mp h1.2) hk3
        rw [F_X8_wayOf_L24, h.i0, bind_some']
        by_cases hend : wC w 0 ≤ ln
        · rw [if_pos (nI_le hend (by omega))]
          refine stop (Or.inl ?_)
          have hf0 : f = 0 := by omega
          subst hf0
          show (a :: (if _ then pth w e 0 _ else [])) = [a]
          split <;> rfl
        · rw [if_neg (by rw [nI_leI (by omega) (by omega)]; exact hend)]
          by_cases hkl : k = nI ln - (1 : Int32)
          · rw [if_pos hkl]
            rw [nI_k1 hln] at hkl
            refine stop (Or.inr ⟨?_, hkl⟩)
            rw [hkl]; exact nI_pos (by omega)
          · rw [if_neg hkl, h.r7, bind_some', h.lv ha5, bind_some', (h.SL ha5).g1, bind_some', X_holds (h.SL ha5).hs (by omega), bind_some', ifb0]
            by_cases hba : sHs (wL w a) e = true
            · rw [if_pos hba, bind_some', bind_some', h.lv ha5, bind_some', bind_some', (h.SL ha5).g6, bind_some', bind_some', (h.SL ha5).rb (by omega) hba, bind_some']
              have hby1 := hby a ha e hba
              rw [ifE (by omega) (by omega)]
              by_cases hself : sBy (wL w a) e = a
              · rw [if_pos hself]
                refine stop (Or.inl ?_)
                show (a :: (if _ then _ else [])) = [a]
                rw [if_neg (by simp [hself])]
              · rw [if_neg hself, bind_some', nI_1]
                have hp : pth w e (f + 1) a = a :: pth w e f (sBy (wL w a) e) := by
                  show (a :: (if _ then _ else [])) = _
                  rw [if_pos (by simp [hba, hself])]
                rw [ih F _ (ln + 1) hby1 (by omega) (by omega) (by omega) (by omega) (fun hk0 => by
                  obtain ⟨k0, r1, r2, r3⟩ := hk hk0
                  refine ⟨k0, r1, r2, ?_⟩
                  have : k0 ≠ ln - 1 := fun z => hkl (by rw [r1, z, nI_k1 hln])
                  omega), hp]
                by_cases hk1 : k = -1
                · rw [if_pos hk1, if_pos hk1, List.length_cons, show ln + 1 - 1 + (pth w e f (sBy (wL w a) e)).length = ln - 1 + ((pth w e f (sBy (wL w a) e)).length + 1) by omega]
                · rw [if_neg hk1, if_neg hk1]
                  by_cases hk0 : k < 0
                  · rw [if_pos hk0, if_pos hk0]
                  · rw [if_neg hk0, if_neg hk0]
                    obtain ⟨k0, r1, r2, r3⟩ := hk hk0
                    have : k0 ≠ ln - 1 := fun z => hkl (by rw [r1, z, nI_k1 hln])
                    rw [r1, nI_clamp r2, show k0 - (ln - 1) = (k0 - (ln + 1 - 1)) + 1 by omega, List.getElem?_cons_succ]
            · rw [if_neg hba]
              refine stop (Or.inl ?_)
              show (a :: (if _ then _ else [])) = [a]
              rw [if_neg (by simp [hba])]
  have := walk (wC w 0) fu s 1 hs (by unfold fu; omega) (by omega) (by omega) (by omega) (fun hk0 => by
    obtain ⟨k0, r1, r2⟩ := nI_of hk0
    exact ⟨k0, r2, r1, by omega⟩)
  rw [← l_1] at this
  rw [this]
  unfold atI
  simp only [Nat.sub_self, Nat.zero_add, Nat.sub_zero]
theorem C_slowest (h : CW O L σ b w sl) (i : Jv w) (hall : ∀ e, e < wC w 2 → ∀ s, s < wC w 0 → sHs (wL w s) e = true → sWh (wL w s) e < 2 ^ 31) (hp : ∀ e, e < wC w 2 → eP (wE w) e < 2 ^ 31) : F_X8_slowestEvent σ b = some (oI (slE (fun e => al (fun s => sHs (wL w s) e) (wC w 0)) (fun e => mxW w e (eP (wE w) e) (wC w 0) - eP (wE w) e) (wC w 2))) := by
  have hn := i.n5
  have hc := i.c
  have allp : ∀ e, e < wC w 2 → al (fun s => sHs (wL w s) e) (wC w 0) = true → ∀ s, s < wC w 0 → sHs (wL w s) e = true ∧ sWh (wL w s) e < 2 ^ 31 := fun e he ha s hs => ⟨al_iff.mp ha s hs, hall e he s hs (al_iff.mp ha s hs)⟩
  have mx31 : ∀ e, e < wC w 2 → al (fun s => sHs (wL w s) e) (wC w 0) = true → mxW w e (eP (wE w) e) (wC w 0) - eP (wE w) e < 2 ^ 31 := by
    intro e he ha
    have : ∀ n, n ≤ wC w 0 → mxW w e (eP (wE w) e) n < 2 ^ 31 := by
      intro n
      induction n with
      | zero => intro _; exact hp e he
      | succ n ih =>
        intro hn1
        have h1 := ih (by omega)
        have h2 := (allp e he ha n (by omega)).2
        show max _ _ < _
        omega
    have := this _ (Nat.le_refl _)
    omega
  unfold F_X8_slowestEvent
  rw [chk_eq h.ok]
  refine lup (fun f j => F_X8_slowestEvent_L4 σ b f (oI (slE (fun e => al (fun s => sHs (wL w s) e) (wC w 0)) (fun e => mxW w e (eP (wE w) e) (wC w 0) - eP (wE w) e) j)) (nI j) (fun x => some x)) (wC w 2) _ ?_ ?_ fu (by unfold fu; omega)
  · intro j f hj
    have hct := C_holders h hn (show j < 128 by omega)
    have hle := fb_ct_le (fun s => sHs (wL w s) j) (wC w 0)
    rw [F_X8_slowestEvent_L4, h.r6, bind_some', h.ev.g0, bind_some', if_neg (by rw [nI_leI (by omega) (by omega)]; omega), hct, bind_some', h.i0, bind_some', ifE (by omega) (by omega), l_1, nI_add]
    show _ = F_X8_slowestEvent_L4 σ b f (oI (if al (fun s => sHs (wL w s) j) (wC w 0) = true then _ else _)) (nI (j + 1)) (fun x => some x)
    by_cases ha : al (fun s => sHs (wL w s) j) (wC w 0) = true
    · rw [if_pos (fb_ct_all.mpr (al_iff.mp ha)), if_pos ha]
      cases hq : slE (fun e => al (fun s => sHs (wL w s) e) (wC w 0)) (fun e => mxW w e (eP (wE w) e) (wC w 0) - eP (wE w) e) j with
      | none =>
        show (if (-1 : Int32) = -1 then _ else _) = _
        rw [if_pos rfl]; rfl
      | some d =>
        have hd := slE_lt hq
        show (if nI d = (-1 : Int32) then _ else _) = _
        rw [if_neg (oI_n1 (by omega)), C_stepsToAll h i hj (allp j hj ha) (hp j hj), bind_some', show oI (some d) = nI d from rfl, C_stepsToAll h i (by omega) (allp d (by omega) hd.2) (hp d (by omega)), bind_some']
        have m1 := mx31 j hj ha
        have m2 := mx31 d (by omega) hd.2
        dsimp only
        by_cases hlt : mxW w d (eP (wE w) d) (wC w 0) - eP (wE w) d < mxW w j (eP (wE w) j) (wC w 0) - eP (wE w) j
        · rw [if_neg (by rw [nI_leI m1 m2]; omega), if_pos hlt]; rfl
        · rw [if_pos (nI_le (by omega) m2), if_neg hlt]; rfl
    · rw [if_neg (fun z => ha (al_iff.mpr (fb_ct_all.mp z))), if_neg ha]
  · intro f
    rw [F_X8_slowestEvent_L4, h.r6, bind_some', h.ev.g0, bind_some', if_pos (nI_le (Nat.le_refl _) (by omega))]
theorem C_cutLinks (h : CW O L σ b w sl) (hn : wC w 0 ≤ 5) : F_X8_cutLinks σ b = some (nI (sm (fun s => fb_ct (fun k => wcut w s (s + 1 + k)) (wC w 0 - (s + 1))) (wC w 0))) := by
  unfold F_X8_cutLinks
  rw [chk_eq h.ok]
  refine lup (fun f j => F_X8_cutLinks_L4 σ b f (nI (sm (fun s => fb_ct (fun k => wcut w s (s + 1 + k)) (wC w 0 - (s + 1))) j)) (nI j) (fun x => some x)) (wC w 0) _ ?_ ?_ fu (by unfold fu; omega)
  · intro j f hj
    rw [F_X8_cutLinks_L4, h.i0, bind_some', if_neg (by rw [nI_leI (by omega) (by omega)]; omega), l_1, nI_add]
    refine (lup (fun f2 k => F_X8_cutLinks_L16 σ b (nI j) f2 (nI (sm (fun s => fb_ct (fun k => wcut w s (s + 1 + k)) (wC w 0 - (s + 1))) j + fb_ct (fun k => wcut w j (j + 1 + k)) k)) (nI (j + 1 + k)) (fun x4 => F_X8_cutLinks_L4 σ b f x4 (nI (j + 1)) (fun x => some x))) (wC w 0 - (j + 1)) (F_X8_cutLinks_L4 σ b f (nI (sm (fun s => fb_ct (fun k => wcut w s (s + 1 + k)) (wC w 0 - (s + 1))) (j + 1))) (nI (j + 1)) (fun x => some x)) ?_ ?_ fu (by unfold fu; omega))
    · intro k f2 hk
      rw [F_X8_cutLinks_L16, h.i0, bind_some', if_neg (by rw [nI_leI (by omega) (by omega)]; omega), C_isCut h (by omega) (by omega), bind_some', l_0, ifb, l_1, nI_add, nI_add, fb_ct_succ]
      cases wcut w j (j + 1 + k) <;> rfl
    · intro f2
      rw [F_X8_cutLinks_L16, h.i0, bind_some', if_pos (nI_le (by omega) (by omega))]
      rfl
  · intro f
    rw [F_X8_cutLinks_L4, h.i0, bind_some', if_pos (nI_le (Nat.le_refl _) (by omega))]
theorem C_linkedWith (h : CW O L σ b w sl) (hn : wC w 0 ≤ 5) {a : Nat} (ha : a < 5) : F_X8_linkedWith σ b (nI a) = some (nI (lnk1 w (wC w 0) a)) := by
  unfold F_X8_linkedWith
  rw [chk_eq h.ok]
  refine lup (fun f j => F_X8_linkedWith_L4 σ b (nI a) f (nI ((List.range j).foldl (fun x o => if wcut w a o then x else x ||| 2 ^ o) 0)) (nI j) (fun x => some x)) (wC w 0) _ ?_ ?_ fu (by unfold fu; omega)
  · intro j f hj
    rw [F_X8_linkedWith_L4, h.i0, bind_some', if_neg (by rw [nI_leI (by omega) (by omega)]; omega), C_isCut h ha (by omega), bind_some', l_0, ifb, nI_shl1 (by omega), nI_or, l_1, nI_add, rng_fold]
    cases wcut w a j <;> rfl
  · intro f
    rw [F_X8_linkedWith_L4, h.i0, bind_some', if_pos (nI_le (Nat.le_refl _) (by omega))]
    rfl
theorem C_partOf (h : CW O L σ b w sl) (hn : wC w 0 ≤ 5) {s : Nat} (hs : s < 5) : F_X8_partOf σ b (nI s) = some (nI (part w (wC w 0) s)) := by
  unfold F_X8_partOf
  rw [chk_eq h.ok, nI_shl1 (by omega)]
  refine lup (fun f j => F_X8_partOf_L6 σ b f (nI (pIt w (wC w 0) j (2 ^ s))) (nI j) (fun x => some x)) (wC w 0) _ ?_ ?_ fu (by unfold fu; omega)
  · intro j f hj
    rw [F_X8_partOf_L6, h.i0, bind_some', if_neg (by rw [nI_leI (by omega) (by omega)]; omega), l_1, nI_add]
    refine (lup (fun f2 a => F_X8_partOf_L17 σ b f2 (nI ((List.range a).foldl (pOne w (wC w 0)) (pIt w (wC w 0) j (2 ^ s)))) (nI a) (fun x4 => F_X8_partOf_L6 σ b f x4 (nI (j + 1)) (fun x => some x))) (wC w 0) (F_X8_partOf_L6 σ b f (nI (pIt w (wC w 0) (j + 1) (2 ^ s))) (nI (j + 1)) (fun x => some x)) ?_ ?_ fu (by unfold fu; omega))
    · intro a f2 ha
      rw [F_X8_partOf_L17, h.i0, bind_some', if_neg (by rw [nI_leI (by omega) (by omega)]; omega), nI_bit (by omega), l_0, ifb, C_linkedWith h hn (by omega), bind_some', nI_or, l_1, nI_add, rng_fold]
      unfold pOne
      cases ((List.range a).foldl (fun x a => if x.testBit a = true then x ||| lnk1 w (wC w 0) a else x) (pIt w (wC w 0) j (2 ^ s))).testBit a <;> rfl
    · intro f2
      rw [F_X8_partOf_L17, h.i0, bind_some', if_pos (nI_le (Nat.le_refl _) (by omega))]
      rfl
  · intro f
    rw [F_X8_partOf_L6, h.i0, bind_some', if_pos (nI_le (Nat.le_refl _) (by omega))]
    rfl
theorem C_parts (h : CW O L σ b w sl) (hn : wC w 0 ≤ 5) : F_X8_parts σ b = some (nI (fb_ct (fun s => decide (part w (wC w 0) s &&& (2 ^ s - 1) = 0)) (wC w 0))) := by
  unfold F_X8_parts
  rw [chk_eq h.ok]
  refine lup (fun f j => F_X8_parts_L4 σ b f (nI (fb_ct (fun s => decide (part w (wC w 0) s &&& (2 ^ s - 1) = 0)) j)) (nI j) (fun x => some x)) (wC w 0) _ ?_ ?_ fu (by unfold fu; omega)
  · intro j f hj
    have hp := part_lt w (s := j) hn (by omega)
    have h2 : 0 < 2 ^ j := Nat.two_pow_pos j
    have hand : part w (wC w 0) j &&& (2 ^ j - 1) ≤ part w (wC w 0) j := Nat.and_le_left
    rw [F_X8_parts_L4, h.i0, bind_some', if_neg (by rw [nI_leI (by omega) (by omega)]; omega), C_partOf h hn (by omega), bind_some', nI_shl1 (by omega), nI_k1 (by omega), nI_and, l_0, ifE (by omega) (by omega), l_1, nI_add, nI_add, fb_ct_succ]
    by_cases h3 : part w (wC w 0) j &&& (2 ^ j - 1) = 0
    · rw [if_pos h3, decide_eq_true h3]; rfl
    · rw [if_neg h3, decide_eq_false h3]; rfl
  · intro f
    rw [F_X8_parts_L4, h.i0, bind_some', if_pos (nI_le (Nat.le_refl _) (by omega))]
end WAY
