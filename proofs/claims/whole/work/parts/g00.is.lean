/-! ===== PURE 40: what holds of every site, every letter ===== -/
section ISL
variable {n c f o me p m : Nat} {v : Ev} {s : St} {l : Lt}
/-- of events: sites below n, times from 1 to c -/
def Ie (n c : Nat) (v : Ev) : Prop := ∀ e, e < c → eS v e < n ∧ 0 < eT v e ∧ eT v e ≤ c
theorem Il_ltr (h : Is n c f v s) (hm : m < 3) : Il n c f v (ltr v m s o) := by
  obtain ⟨h1, h2, h3, h4, h5, h6⟩ := h
  refine ⟨hm, h1, h4.filter _, fun e he => ?_⟩
  have he' := (List.mem_filter.mp he).1
  exact ⟨(h5 e he').1, of_decide_eq_true (h5 e he').2⟩
theorem lrn2_ge {v : Ev} {f o : Nat} : ∀ (q : List Nat) (t : Nat → Nat) (i : Nat), t i ≤ q.foldl (lrn2 v f o) t i
  | [], t, i => Nat.le_refl _
  | e :: q, t, i => by
    refine Nat.le_trans ?_ (lrn2_ge q _ i)
    have one : ∀ (t : Nat → Nat) (k x : Nat), t i ≤ rOne t k x i := fun t k x => by
      unfold rOne up
      by_cases hik : i = k
      · subst hik; rw [if_pos rfl]; omega
      · rw [if_neg hik]; exact Nat.le_refl _
    exact Nat.le_trans (one t _ _) (one _ _ _)
theorem lrn2_hit {v : Ev} {f o : Nat} : ∀ (q : List Nat) (t : Nat → Nat) (e : Nat), e ∈ q → eT v e ≤ q.foldl (lrn2 v f o) t (5 * o + eS v e) ∧ eT v e ≤ q.foldl (lrn2 v f o) t (5 * f + eS v e)
  | [], t, e, h => by cases h
  | a :: q, t, e, h => by
    rcases List.mem_cons.mp h with h | h
    · subst h
      have k1 : eT v e ≤ lrn2 v f o t e (5 * o + eS v e) := by
        unfold lrn2 rOne
        by_cases hfo : 5 * o + eS v e = 5 * f + eS v e
        · rw [hfo, up_s]; omega
        · rw [up_n _ _ hfo, up_s]; omega
      have k2 : eT v e ≤ lrn2 v f o t e (5 * f + eS v e) := by
        unfold lrn2 rOne
        rw [up_s]; omega
      exact ⟨Nat.le_trans k1 (lrn2_ge q _ _), Nat.le_trans k2 (lrn2_ge q _ _)⟩
    · exact lrn2_hit q _ e h
theorem lrn_ge {t : Nat → Nat} (i : Nat) : t i ≤ lrn v l f o t i := by
  unfold lrn
  split
  · exact lrn2_ge _ _ _
  · have r : ∀ (t : Nat → Nat) (x : Nat), t i ≤ rRow t x (lTb l) f i := fun t x => by unfold rRow; split <;> omega
    split
    · exact Nat.le_trans (r t o) (r _ f)
    · have := r t o
      show t i ≤ max _ _
      omega
theorem lrn2_zero {v : Ev} {f o n : Nat} (hf : f < n) (ho : o < n) (hn : n ≤ 5) : ∀ (q : List Nat) (t : Nat → Nat), (∀ e ∈ q, eS v e < n) → ∀ i, (n ≤ i / 5 ∨ n ≤ i % 5) → q.foldl (lrn2 v f o) t i = t i
  | [], t, _, i, _ => rfl
  | e :: q, t, hq, i, hi => by
    have he := hq e List.mem_cons_self
    rw [List.foldl_cons, lrn2_zero hf ho hn q _ (fun e he => hq e (List.mem_cons_of_mem _ he)) i hi]
    unfold lrn2 rOne
    rw [up_n _ _ (by omega), up_n _ _ (by omega)]
theorem lrn_zero {t : Nat → Nat} (hf : f < n) (ho : o < n) (hn : n ≤ 5) (hq : ∀ e ∈ lEv l, eS v e < n) (hz : ∀ i, i < 25 → (n ≤ i / 5 ∨ n ≤ i % 5) → lTb l i = 0) {i : Nat} (hi25 : i < 25) (hi : n ≤ i / 5 ∨ n ≤ i % 5) (ht : t i = 0) : lrn v l f o t i = 0 := by
  unfold lrn
  have r : ∀ (t : Nat → Nat) (x : Nat), x < n → t i = 0 → rRow t x (lTb l) f i = 0 := fun t x hx h0 => by
    unfold rRow
    split
    · rw [hz (5 * f + i % 5) (by omega) (by omega)]; omega
    · exact h0
  split
  · exact (lrn2_zero hf ho hn _ _ hq i hi).trans ht
  · split
    · exact r _ f hf (r t o ho ht)
    · have h1 := r t o ho ht
      have h2 := hz i hi25 hi
      show max _ _ = 0
      omega
theorem lrn_own {t : Nat → Nat} (hl : Il n c f v l) (hv : ∀ e, e < c → eS v e < 5) {e : Nat} (he : e ∈ lEv l) : eT v e ≤ lrn v l f o t (5 * o + eS v e) := by
  obtain ⟨hm, h1, h2, h3⟩ := hl
  have h4 := (h3 e he).2
  have h5 := hv e (h3 e he).1
  unfold lrn
  have r : eT v e ≤ rRow t o (lTb l) f (5 * o + eS v e) := by
    unfold rRow
    rw [if_pos (by omega), show (5 * o + eS v e) % 5 = eS v e by omega]
    omega
  split
  · exact (lrn2_hit _ _ e he).1
  · split
    · refine Nat.le_trans r ?_
      generalize hR : rRow t o (lTb l) f = R at r ⊢
      unfold rRow
      split <;> omega
    · show _ ≤ max _ _
      omega
theorem gn_fold {p y : Nat} : ∀ (q : List Nat) (h : Hw), (∀ e, (q.foldl (fun h e => gn h e p y) h).1 e = true → h.1 e = true ∨ e ∈ q) ∧ ∀ e, (q.foldl (fun h e => gn h e p y) h).1 e = true → (h.1 e = true ∧ (q.foldl (fun h e => gn h e p y) h).2.2 e = h.2.2 e ∧ (q.foldl (fun h e => gn h e p y) h).2.1 e = h.2.1 e) ∨ ((q.foldl (fun h e => gn h e p y) h).2.2 e = y ∧ (q.foldl (fun h e => gn h e p y) h).2.1 e = p ∧ e ∈ q)
  | [], h => ⟨fun e he => Or.inl he, fun e he => Or.inl ⟨he, rfl, rfl⟩⟩
  | a :: q, h => by
    have ih := gn_fold (p := p) (y := y) q (gn h a p y)
    have key : ∀ e, (gn h a p y).1 e = true → (h.1 e = true ∧ (gn h a p y).2.2 e = h.2.2 e ∧ (gn h a p y).2.1 e = h.2.1 e) ∨ (e = a ∧ (gn h a p y).2.2 e = y ∧ (gn h a p y).2.1 e = p) := by
      intro e he
      unfold gn at he ⊢
      by_cases hb : h.1 a = true
      · rw [if_pos hb] at he ⊢
        exact Or.inl ⟨he, rfl, rfl⟩
      · rw [if_neg hb] at he ⊢
        by_cases hea : e = a
        · subst hea
          exact Or.inr ⟨rfl, up_s _ _ _, up_s _ _ _⟩
        · have he' : up h.1 a true e = true := he
          rw [up_n _ _ hea] at he'
          exact Or.inl ⟨he', up_n _ _ hea, up_n _ _ hea⟩
    refine ⟨fun e he => ?_, fun e he => ?_⟩
    · rcases ih.1 e he with h1 | h1
      · rcases key e h1 with h2 | h2
        · exact Or.inl h2.1
        · exact Or.inr (by rw [h2.1]; exact List.mem_cons_self)
      · exact Or.inr (List.mem_cons_of_mem _ h1)
    · rcases ih.2 e he with ⟨h1, h2, h3⟩ | ⟨h1, h2, h3⟩
      · rcases key e h1 with ⟨k1, k2, k3⟩ | ⟨k1, k2, k3⟩
        · exact Or.inl ⟨k1, h2.trans k2, h3.trans k3⟩
        · exact Or.inr ⟨h2.trans k2, h3.trans k3, by rw [k1]; exact List.mem_cons_self⟩
      · exact Or.inr ⟨h1, h2, List.mem_cons_of_mem _ h3⟩
theorem vIns_lt {b : Nat → Bool} : ∀ (q : List Nat) (_ : ∀ e ∈ q, e < c) (b : Nat → Bool) (_ : ∀ e, b e = true → e < c) (e : Nat), vIns v q b e = true → e < c
  | [], _, b, hb, e, he => hb e he
  | a :: q, hq, b, hb, e, he => by
    unfold vIns at he
    rw [List.foldl_cons] at he
    refine vIns_lt (b := b) q (fun e he => hq e (List.mem_cons_of_mem _ he)) _ (fun e he => ?_) e he
    split at he
    · exact hb e he
    · unfold up at he
      split at he
      · subst_vars; exact hq _ List.mem_cons_self
      · exact hb e he
theorem vOuts_lt : ∀ (q : List Nat) (b : Nat → Bool) (_ : ∀ e, b e = true → e < c) (e : Nat), vOuts v q b e = true → e < c
  | [], b, hb, e, he => hb e he
  | a :: q, b, hb, e, he => by
    unfold vOuts at he
    rw [List.foldl_cons] at he
    refine vOuts_lt q _ (fun e he => ?_) e he
    split at he
    · unfold up at he
      split at he
      · cases he
      · exact hb e he
    · exact hb e he
theorem frs_disj (hs : Is n c o v s) {e : Nat} (h1 : e ∈ sLg s) (h2 : e ∈ frs v l s o) : False := by
  have h3 := (hs.2.2.2.2.1 e h1).2
  have h4 := (List.mem_filter.mp h2).2
  rw [h3] at h4
  cases h4
theorem nodup_app {A B : List Nat} (hA : A.Nodup) (hB : B.Nodup) (hd : ∀ e, e ∈ A → e ∈ B → False) : (A ++ B).Nodup := List.nodup_append.mpr ⟨hA, hB, fun a ha b hb hab => hd a ha (by rw [hab]; exact hb)⟩
theorem frs_len (hs : Is n c o v s) (hl : Il n c f v l) : (sLg s).length + (frs v l s o).length ≤ c := by
  have h1 : (sLg s ++ frs v l s o).Nodup := nodup_app hs.2.2.2.1 (hl.2.2.1.filter _) (fun e a b => frs_disj hs a b)
  have h2 := nodup_le h1 (n := c) (fun e he => by
    rcases List.mem_append.mp he with he | he
    · exact (hs.2.2.2.2.1 e he).1
    · exact (hl.2.2.2 e (List.mem_filter.mp he).1).1)
  rw [List.length_append] at h2
  exact h2
theorem Is_rcv (hs : Is n c o v s) (hl : Il n c f v l) (hv : Ie n c v) (hf : f < n) (ho : o < n) (hn : n ≤ 5) : Is n c o v (rcv v n p l f o s) := by
  have hl' := hl
  have hs' := hs
  obtain ⟨s1, s2, s3, s4, s5, s6⟩ := hs
  obtain ⟨l1, l2, l3, l4⟩ := hl
  have hq : ∀ e ∈ frs v l s o, e < c := fun e he => (l4 e (List.mem_filter.mp he).1).1
  have hg := gn_fold (p := p) (y := f) (frs v l s o) (sHw s)
  unfold rcv
  dsimp only
  refine ⟨fun i hi => ⟨?_, fun hz => ?_⟩, fun e he => ?_, fun e he => ?_, ?_, fun e he => ?_, fun e he => ?_⟩
  · exact lrn_le (fun i hi => (s1 i hi).1) (fun i hi => (l2 i hi).1) (fun e he => (hv e (l4 e he).1).2.2) (by omega) i hi
  · exact lrn_zero hf ho hn (fun e he => (hv e (l4 e he).1).1) (fun i hi hz => (l2 i hi).2 hz) hi hz ((s1 i hi).2 hz)
  · rcases hg.1 e he with h1 | h1
    · exact s2 e h1
    · exact hq e h1
  · exact vOuts_lt _ _ (vIns_lt (b := sVw s) _ hq _ s3) e he
  · exact (nodup_app s4 (l3.filter _) (fun e a b => frs_disj hs' a b)).filter _
  · have he' := (List.mem_filter.mp he).1
    rcases List.mem_append.mp he' with h1 | h1
    · refine ⟨(s5 e h1).1, decide_eq_true ?_⟩
      exact Nat.le_trans (of_decide_eq_true (s5 e h1).2) (lrn_ge _)
    · refine ⟨hq e h1, decide_eq_true ?_⟩
      exact lrn_own hl' (fun e he => Nat.lt_of_lt_of_le (hv e he).1 hn) (List.mem_filter.mp h1).1
  · rcases hg.2 e he with ⟨h1, h2, -⟩ | ⟨h1, -, -⟩
    · have h3 := s6 e h1
      refine Nat.lt_of_le_of_lt (Nat.le_of_eq h2) h3
    · exact Nat.lt_of_le_of_lt (Nat.le_of_eq h1) hf
end ISL
