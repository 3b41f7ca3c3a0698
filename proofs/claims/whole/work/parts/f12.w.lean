/-! ===== PURE 32: letters written, delivered, lost, doubled ===== -/
/-- where a slot's letter comes from, when the k-th of n is taken out -/
def rot (k n j : Nat) : Nat := if j < k then j else if j + 1 < n then j + 1 else if j + 1 = n then k else j
theorem rot_c (k n j : Nat) : (j < k ∧ rot k n j = j) ∨ (k ≤ j ∧ j + 1 < n ∧ rot k n j = j + 1) ∨ (k ≤ j ∧ j + 1 = n ∧ rot k n j = k) ∨ (k ≤ j ∧ n < j + 1 ∧ rot k n j = j) := by
  unfold rot
  by_cases h1 : j < k
  · rw [if_pos h1]; exact Or.inl ⟨h1, rfl⟩
  · rw [if_neg h1]
    by_cases h2 : j + 1 < n
    · rw [if_pos h2]; exact Or.inr (Or.inl ⟨by omega, h2, rfl⟩)
    · rw [if_neg h2]
      by_cases h3 : j + 1 = n
      · rw [if_pos h3]; exact Or.inr (Or.inr (Or.inl ⟨by omega, h3, rfl⟩))
      · rw [if_neg h3]; exact Or.inr (Or.inr (Or.inr ⟨by omega, by omega, rfl⟩))
theorem rot_inj {k n i j : Nat} (hk : k < n) (h : rot k n i = rot k n j) : i = j := by
  rcases rot_c k n i with a | a | a | a <;> rcases rot_c k n j with c | c | c | c <;> omega
theorem rot_lt {k n j m : Nat} (hk : k < n) (hn : n ≤ m) (hj : j < m) : rot k n j < m := by
  unfold rot
  split
  · omega
  · split
    · omega
    · split <;> omega
section RWS
variable {O : Nat → Prop} {σ : Sto} {b c : Nat} {w : Wd} {sl : Nat → Nat → Option Nat}
theorem C_rowRemove (h : CM O σ b w sl) (hc : c < 25) {k : Nat} (hk : k < (wT w c).length) : ∃ t sl', F_X4_remove σ (b + 204 + 2 * c) (nI k) = some t ∧ CM O t b (wT' w (up (wT w) c ((wT w c).eraseIdx k))) sl' ∧ Fr b 254 σ t ∧ nz sl' = nz sl := by
  have hn12 := h.1.tl hc
  have ho := h.1.ro hc
  have hs := h.1.rs hc
  generalize hN : (wT w c).length = n at *
  have slt : ∀ j, j < n → ∃ p, sl c j = some p := fun j hj => by
    obtain ⟨-, p, a1, -⟩ := h.1.lt hc (List.getElem?_eq_getElem (show j < (wT w c).length by omega))
    exact ⟨p, a1⟩
  have lok : ∀ j p t, j < n → sl c j = some p → Fr (b + 205 + 2 * c) 1 σ t → (gO t p 3).isSome = true := fun j p t hj hp hF => by
    obtain ⟨f, o, l, a⟩ := h.1.gb hc (show j < 12 by omega) hp
    have := h.2.1 c j p hc (by omega) hp
    exact (a.fr hF (by omega)).ok
  obtain ⟨pk, hpk⟩ := slt k hk
  obtain ⟨t1, ⟨f1, r1, F1, hf1⟩, e1⟩ := lpG (fun fl j t => F_X4_remove_L9 (b + 204 + 2 * c) fl (nI j) t (fun s8 =>
      (gI s8 (b + 204 + 2 * c) 4 0).bind fun x9 =>
      (sV s8 (b + 204 + 2 * c) 4 0 (.int (x9 - (1 : Int32)))).bind fun s10 =>
      (gR s10 (b + 204 + 2 * c) 4 1).bind fun p11 =>
      (gI s10 (b + 204 + 2 * c) 4 0).bind fun x12 =>
      (aast s10 p11 6 x12 pk).bind fun s13 =>
      some s13)) (fun s8 =>
      (gI s8 (b + 204 + 2 * c) 4 0).bind fun x9 =>
      (sV s8 (b + 204 + 2 * c) 4 0 (.int (x9 - (1 : Int32)))).bind fun s10 =>
      (gR s10 (b + 204 + 2 * c) 4 1).bind fun p11 =>
      (gI s10 (b + 204 + 2 * c) 4 0).bind fun x12 =>
      (aast s10 p11 6 x12 pk).bind fun s13 =>
      some s13) (fun j t => ∃ f, RA t (b + 205 + 2 * c) 6 12 f ∧ Fr (b + 205 + 2 * c) 1 σ t ∧ ∀ i, f i = if k ≤ i ∧ i < j then sl c (i + 1) else sl c i) (n - 1) k (by omega) (by
    intro j fl t h1 h2 ⟨f, r1, F1, hf⟩
    obtain ⟨pj, hpj⟩ := slt (j + 1) (by omega)
    have o1 : cel t (b + 204 + 2 * c) = some (.inl (4, [.int (nI n), .ref (b + 205 + 2 * c)])) := (F1.at (by omega)).trans ho
    have fj : f (j + 1) = some pj := by rw [hf, if_neg (by omega)]; exact hpj
    obtain ⟨u, e2, r2, F2⟩ := r1.wr (j := j) (r := pj) (by omega) (by decide) (lok (j + 1) pj t (by omega) hpj F1)
    refine ⟨u, ⟨_, r2, F1.tr F2, fun i => ?_⟩, ?_⟩
    · unfold up
      by_cases hij : i = j
      · subst hij
        rw [if_pos rfl, if_pos (by omega), hpj]
      · rw [if_neg hij, hf]
        by_cases hi : k ≤ i ∧ i < j
        · rw [if_pos hi, if_pos (by omega)]
        · rw [if_neg hi, if_neg (by omega)]
    · rw [F_X4_remove_L9]
      rw [gI_cel o1 rfl, bind_some', l_1, nI_add, if_neg (by rw [nI_leI (by omega) (by omega)]; omega), gR_cel o1 rfl, bind_some', bind_some', aaldR_cel r1 (show j + 1 < 12 by omega) (by decide) fj, bind_some', e2, bind_some']) (by
    intro fl t ⟨f, r1, F1, hf⟩
    have o1 : cel t (b + 204 + 2 * c) = some (.inl (4, [.int (nI n), .ref (b + 205 + 2 * c)])) := (F1.at (by omega)).trans ho
    rw [F_X4_remove_L9, gI_cel o1 rfl, bind_some', l_1, nI_add, if_pos (nI_le (by omega) (by omega))]) fu σ (by unfold fu; omega) ⟨sl c, hs, Fr.rf, fun i => by rw [if_neg (by omega)]⟩
  have o1 : cel t1 (b + 204 + 2 * c) = some (.inl (4, [.int (nI n), .ref (b + 205 + 2 * c)])) := (F1.at (by omega)).trans ho
  have o2 : cel (stc t1 (b + 204 + 2 * c) (.inl (4, [.int (nI (n - 1)), .ref (b + 205 + 2 * c)]))) (b + 204 + 2 * c) = some (.inl (4, [.int (nI (n - 1)), .ref (b + 205 + 2 * c)])) := cel_stc_s o1
  generalize hS : stc t1 (b + 204 + 2 * c) (.inl (4, [.int (nI (n - 1)), .ref (b + 205 + 2 * c)])) = S at o2
  have n2 : ∀ i, i ≠ b + 204 + 2 * c → cel S i = cel t1 i := fun i hi => by rw [← hS]; exact cel_stc_n o1 hi
  have F2 : Fr (b + 204 + 2 * c) 2 σ S := (F1.mo (by omega) (by omega)).tr (by rw [← hS]; exact Fr.st o1 (by omega) (by omega))
  have pkok : (gO S pk 3).isSome = true := by
    obtain ⟨f, o, l, a⟩ := h.1.gb hc (show k < 12 by omega) hpk
    have := h.2.1 c k pk hc (by omega) hpk
    exact (a.fr F2 (by omega)).ok
  have r2 : RA S (b + 205 + 2 * c) 6 12 f1 := (n2 _ (by omega)).trans r1
  obtain ⟨u, e3, r3, F3⟩ := r2.wr (j := n - 1) (r := pk) (by omega) (by decide) pkok
  have F4 : Fr (b + 204 + 2 * c) 2 σ u := F2.tr (F3.mo (by omega) (by omega))
  have Fb : Fr b 254 σ u := F4.mo (by omega) (by omega)
  have hsl : up f1 (n - 1) (some pk) = fun j => sl c (rot k n j) := by
    funext j
    unfold up rot
    by_cases hj : j = n - 1
    · rw [if_pos hj, if_neg (by omega), if_neg (by omega), if_pos (by omega), hpk]
    · rw [if_neg hj, hf1]
      by_cases h1 : j < k
      · rw [if_neg (by omega), if_pos h1]
      · rw [if_neg h1]
        by_cases h2 : j + 1 < n
        · rw [if_pos (by omega), if_pos h2]
        · rw [if_neg (by omega), if_neg h2, if_neg (by omega)]
  rw [hsl] at r3
  have sl2 : ∀ c' j, (up sl c (fun j => sl c (rot k n j))) c' j = sl c' (if c' = c then rot k n j else j) := by
    intro c' j
    by_cases hcc : c' = c
    · subst hcc; rw [up_s, if_pos rfl]
    · rw [up_n _ _ hcc, if_neg hcc]
  have bnd : ∀ c' j, j < 12 → (if c' = c then rot k n j else j) < 12 := fun c' j hj => by
    split
    · exact rot_lt hk hn12 hj
    · exact hj
  obtain ⟨cf, c1, c2⟩ := h.1.2.2.2.2.2.1
  refine ⟨u, up sl c (fun j => sl c (rot k n j)), ?_, ⟨⟨(F4.at (by omega)).trans h.1.1, h.1.ev.fr F4 (by omega), (F4.at (by omega)).trans h.1.2.2.1, (F4.at (by omega)).trans h.1.2.2.2.1, (F4.at (by omega)).trans h.1.2.2.2.2.1, ⟨cf, (F4.at (by omega)).trans c1, c2⟩, fun s hs5 => ⟨?_, (h.1.SS hs5).fr F4 (by omega)⟩, fun c' hc' => ?_, fun c' k' p' hc' hk' hp' => ?_, fun c' k' l' hc' hl' => ?_, h.1.o1, h.1.o2, fun c' k' p' hc' hk' hp' => ?_⟩, ⟨fun c' k' p' hc' hk' hp' => ?_, fun c' k' p' c2 k2 p2 hc' hk' hc2 hk2 hp' hp2 hne => ?_⟩⟩, Fb, ?_⟩
  · unfold F_X4_remove
    rw [chk_eq (gOs_cel ho), gR_cel ho rfl, bind_some', aaldR_cel hs (show k < 12 by omega) (by decide) hpk, bind_some']
    rw [e1]
    rw [gI_cel o1 rfl, bind_some', l_1, pk_sub (by omega), sV_cel o1 (Nat.le_of_ble_eq_true rfl), bind_some', show ([.int (nI n), .ref (b + 205 + 2 * c)] : List Value).set 0 (.int (nI (n - 1))) = [.int (nI (n - 1)), .ref (b + 205 + 2 * c)] from rfl]
    rw [hS, gR_cel o2 rfl, bind_some', gI_cel o2 rfl, bind_some', e3]
    rfl
  · have : Ls b s = b + 134 + 14 * s := rfl
    exact (h.1.SL hs5).fr F4 (by omega)
  · show cel u _ = some (.inl (4, [.int (nI (up (wT w) c ((wT w c).eraseIdx k) c').length), .ref _])) ∧ _
    by_cases hcc : c' = c
    · subst hcc
      rw [up_s, up_s, List.length_eraseIdx, if_pos (by omega), hN]
      exact ⟨(F3.at (by omega)).trans o2, r3⟩
    · rw [up_n _ _ hcc, up_n _ _ hcc]
      exact ⟨(F4.at (by omega)).trans (h.1.ro hc'), (F4.at (by omega)).trans (h.1.rs hc')⟩
  · rw [sl2] at hp'
    obtain ⟨f, o, l, a⟩ := h.1.gb hc' (bnd c' k' hk') hp'
    have := h.2.1 c' _ p' hc' (bnd c' k' hk') hp'
    exact ⟨f, o, l, a.fr F4 (by omega)⟩
  · have hl2 : (up (wT w) c ((wT w c).eraseIdx k) c')[k']? = some l' := hl'
    by_cases hcc : c' = c
    · subst hcc
      rw [up_s, List.getElem?_eraseIdx] at hl2
      rw [up_s]
      by_cases h1 : k' < k
      · rw [if_pos h1] at hl2
        obtain ⟨a0, p, a1, a2⟩ := h.1.lt hc hl2
        have := h.2.1 c' k' p hc a0 a1
        exact ⟨a0, p, by show sl c' (rot k n k') = _; unfold rot; rw [if_pos h1]; exact a1, a2.fr F4 (by omega)⟩
      · rw [if_neg h1] at hl2
        have h3 := (List.getElem?_eq_some_iff.mp hl2).1
        obtain ⟨a0, p, a1, a2⟩ := h.1.lt hc hl2
        have := h.2.1 c' _ p hc a0 a1
        exact ⟨by omega, p, by show sl c' (rot k n k') = _; unfold rot; rw [if_neg h1, if_pos (by omega)]; exact a1, a2.fr F4 (by omega)⟩
    · rw [up_n _ _ hcc] at hl2 ⊢
      obtain ⟨a0, p, a1, a2⟩ := h.1.lt hc' hl2
      have := h.2.1 c' k' p hc' a0 a1
      exact ⟨a0, p, a1, a2.fr F4 (by omega)⟩
  · rw [sl2] at hp'
    exact h.1.o3 c' _ p' hc' (bnd c' k' hk') hp'
  · rw [sl2] at hp'
    exact h.2.1 c' _ p' hc' (bnd c' k' hk') hp'
  · rw [sl2] at hp' hp2
    refine h.2.2 c' _ p' c2 _ p2 hc' (bnd c' k' hk') hc2 (bnd c2 k2 hk2) hp' hp2 (fun z => hne ⟨z.1, ?_⟩)
    obtain ⟨z1, z2⟩ := z
    subst z1
    by_cases hcc : c' = c
    · rw [if_pos hcc, if_pos hcc] at z2
      exact rot_inj hk z2
    · rw [if_neg hcc, if_neg hcc] at z2
      exact z2
  · unfold nz
    refine fb_ct_cong (fun j hj => ?_)
    rw [sl2]
    by_cases hcc : j / 12 = c
    · rw [if_pos hcc, hcc]
      by_cases hjn : j % 12 < n
      · obtain ⟨p, hp⟩ := slt _ hjn
        have hr : rot k n (j % 12) < n := rot_lt hk (Nat.le_refl _) hjn
        obtain ⟨p2, hp2⟩ := slt _ hr
        rw [hp, hp2]; rfl
      · have : rot k n (j % 12) = j % 12 := by
          unfold rot
          rw [if_neg (by omega), if_neg (by omega), if_neg (by omega)]
        rw [this]
    · rw [if_neg hcc]
/-- O's cells stand -/
theorem CM'.blk {R : (Nat → Nat) → Prop} (h : CM' R O σ b w sl) : ∀ i, b ≤ i → i < b + 254 → O i := h.1.o1
theorem C_post (h : CM O σ b w sl) (hs : ∀ i, O i → i < σ.1.length) (i : Iv w) {f o : Nat} (hf : f < wC w 0) (ho : o < wC w 0) (hn : (wT w (5 * f + o)).length < 12) : ∃ t O' sl', F_X8_post σ b (nI f) (nI o) = some (nI (lEv (ltr (wE w) (wC w 1) (wL w f) o)).length, t) ∧ CM O' t b (wri (stp w) f o) sl' ∧ Gw O σ (nz sl) O' t (nz sl') := by
  have h5 := i.n5
  have hc : 5 * f + o < 25 := by omega
  have hLf : Ls b f = b + 134 + 14 * f := rfl
  obtain ⟨t1, e1, h1, f1⟩ := h.step
  have hs1 : ∀ j, O j → j < t1.1.length := fun j hj => by rw [f1.2.1]; exact hs j hj
  have hb254 : b + 254 ≤ t1.1.length := by have := hs1 _ (h1.blk (b + 253) (by omega) (by omega)); omega
  obtain ⟨p, t2, sl', e2, a1, a2, a3, a4, ⟨x0, o0, l0, a5⟩, a6, a7⟩ := C_rowAppend h1 hc hn
  have hpb : p + 4 ≤ b ∨ b + 254 ≤ p := by
    rcases a7 with ⟨a8, -⟩ | ⟨-, a8, -⟩
    · exact h1.2.1 _ _ p hc hn a8
    · right; omega
  have sB : ∀ j, b ≤ j → j < b + 204 → cel t2 j = cel t1 j := fun j q1 q2 => a6 j (by omega) (by omega) (by omega)
  have ev2 : EE t2 (b + 1) (wC w 2) (wK w) (wE w) := h1.1.ev.cg (fun j q1 q2 => sB j (by omega) (by omega))
  have L2 : SI t2 (Ls b f) (wL w f) := (h1.1.SL (by omega)).cg (fun j q1 q2 => sB j (by omega) (by omega))
  have w2 : cel t2 b = some (.inl (8, wO8 b (stp w))) := (sB b (by omega) (by omega)).trans h1.1.1
  have lv2 : aaldR t2 (b + 130) 4 (nI f) = some (Ls b f) := aaldR_cel ((sB (b + 130) (by omega) (by omega)).trans h1.1.2.2.1) (show f < 5 by omega) (by decide) (if_pos (by omega))
  obtain ⟨t3, e3, L3, f3⟩ := C_compose (x := f) (o := o) (m := wC w 1) a5 L2 ev2 i.j.bv (i.j.L (by omega)) (by omega) (by omega) (by omega)
  have L3' : LE t3 p ((5 * f + o) / 5) ((5 * f + o) % 5) (ltr (wE w) (wC w 1) (wL w f) o) := by
    rw [show (5 * f + o) / 5 = f by omega, show (5 * f + o) % 5 = o by omega]; exact L3
  obtain ⟨O', h3, g3⟩ := h1.fill hs1 hc hn a1 a2 a3 a4 a6 a7 L3' f3
  obtain ⟨t4, e4, h4, f4⟩ := h3.num (k := 3) (j := 3) (v := wC w 3 + 1) (by omega) rfl (by omega)
  obtain ⟨t5, e5, h5', f5⟩ := h4.num (k := 4) (j := 4) (v := wC w 4 + (lEv (ltr (wE w) (wC w 1) (wL w f) o)).length) (by omega) rfl (by omega)
  have hi1 : gI t2 b 8 1 = some (nI (wC w 1)) := gI_cel w2 rfl
  have L4 := L3.fr f4 (by omega)
  have L5 := L4.fr f5 (by omega)
  refine ⟨t5, O', sl', ?_, ?_, ((Gw.fr f1 h.blk).tr g3).tr ((Gw.fr f4 h3.blk).tr (Gw.fr f5 h4.blk))⟩
  · unfold F_X8_post
    rw [chk_eq h.1.ok, h.1.i2, bind_some', e1, bind_some', C_row h1.1 (by omega) (by omega), bind_some', e2]
    show (gR t2 b 8 7).bind _ = _
    rw [gR_cel w2 rfl, bind_some', lv2, bind_some', gR_cel w2 rfl, bind_some', hi1, bind_some', e3, bind_some', h3.1.i3, bind_some', l_1, nI_add]
    show (sV t3 b 8 3 (.int (nI (wC w 3 + 1)))).bind _ = _
    rw [e4, bind_some', h4.1.i4, bind_some', L4.g3, bind_some', nI_add]
    show (sV t4 b 8 4 (.int (nI (wC w 4 + (lEv (ltr (wE w) (wC w 1) (wL w f) o)).length)))).bind _ = _
    rw [e5, bind_some', L5.g3]
    rfl
  · have : wC' (wC' (wT' (stp w) (up (wT (stp w)) (5 * f + o) (wT (stp w) (5 * f + o) ++ [ltr (wE w) (wC w 1) (wL w f) o]))) (up (wC (wT' (stp w) (up (wT (stp w)) (5 * f + o) (wT (stp w) (5 * f + o) ++ [ltr (wE w) (wC w 1) (wL w f) o])))) 3 (wC w 3 + 1))) (up (wC (wC' (wT' (stp w) (up (wT (stp w)) (5 * f + o) (wT (stp w) (5 * f + o) ++ [ltr (wE w) (wC w 1) (wL w f) o]))) (up (wC (wT' (stp w) (up (wT (stp w)) (5 * f + o) (wT (stp w) (5 * f + o) ++ [ltr (wE w) (wC w 1) (wL w f) o])))) 3 (wC w 3 + 1)))) 4 (wC w 4 + (lEv (ltr (wE w) (wC w 1) (wL w f) o)).length)) = wri (stp w) f o := rfl
    rw [← this]
    exact h5'
theorem C_discard (h : CM O σ b w sl) (hn5 : wC w 0 ≤ 5) {f o k : Nat} (hf : f < 5) (ho : o < 5) (hk : k < (wT w (5 * f + o)).length) : ∃ t sl', F_X8_discard σ b (nI f) (nI o) (nI k) = some (nI ((wT w (5 * f + o)).length - 1), t) ∧ CM O t b (los (stp w) f o k) sl' ∧ Fr b 254 σ t ∧ nz sl' = nz sl := by
  have hc : 5 * f + o < 25 := by omega
  obtain ⟨t1, e1, h1, f1⟩ := h.step
  obtain ⟨t2, sl', e2, h2, f2, z2⟩ := C_rowRemove h1 hc (k := k) hk
  refine ⟨t2, sl', ?_, h2, f1.tr f2, z2⟩
  have hN := C_rowN h2.1 hc
  rw [show wT (wT' (stp w) (up (wT (stp w)) (5 * f + o) ((wT (stp w) (5 * f + o)).eraseIdx k))) (5 * f + o) = (wT w (5 * f + o)).eraseIdx k from up_s _ _ _, List.length_eraseIdx, if_pos hk] at hN
  unfold F_X8_discard
  rw [chk_eq h.1.ok, h.1.i2, bind_some', e1, bind_some', C_row h1.1 hf ho, bind_some', e2, bind_some', C_row h2.1 hf ho, bind_some', hN]
  rfl
theorem C_repeat (h : CM O σ b w sl) (hs : ∀ i, O i → i < σ.1.length) {f o k : Nat} (hf : f < 5) (ho : o < 5) (hk : k < (wT w (5 * f + o)).length) (hn : (wT w (5 * f + o)).length < 12) : ∃ t O' sl', F_X8_repeat σ b (nI f) (nI o) (nI k) = some (nI ((wT w (5 * f + o)).length + 1), t) ∧ CM O' t b (twi (stp w) f o k) sl' ∧ Gw O σ (nz sl) O' t (nz sl') := by
  have hc : 5 * f + o < 25 := by omega
  obtain ⟨t1, e1, h1, f1⟩ := h.step
  have hs1 : ∀ j, O j → j < t1.1.length := fun j hj => by rw [f1.2.1]; exact hs j hj
  have hb254 : b + 254 ≤ t1.1.length := by have := hs1 _ (h1.blk (b + 253) (by omega) (by omega)); omega
  have hlk : (wT (stp w) (5 * f + o))[k]? = some (wlt (stp w) f o k) := by
    show (wT w (5 * f + o))[k]? = some ((wT w (5 * f + o)).getD k nol)
    rw [List.getD_eq_getElem?_getD, List.getElem?_eq_getElem hk]; rfl
  obtain ⟨pk, e0, a0, L0⟩ := C_at h1.1 hc hlk
  obtain ⟨p, t2, sl', e2, a1, a2, a3, a4, ⟨x0, o0, l0, a5⟩, a6, a7⟩ := C_rowAppend h1 hc hn
  have k12 := (h1.1.lt hc hlk).1
  have hpkb := h1.2.1 _ k pk hc k12 a0
  have hpk3 := hs1 (pk + 3) (h1.1.o3 _ k pk hc k12 a0 (pk + 3) (by omega) (by omega))
  have hpp : p + 4 ≤ pk ∨ pk + 4 ≤ p := by
    rcases a7 with ⟨a8, -⟩ | ⟨-, a8, -⟩
    · exact h1.2.2 _ _ p _ k pk hc hn hc k12 a8 a0 (by
        have : k < (wT (stp w) (5 * f + o)).length := hk
        omega)
    · right; omega
  have L2 : LE t2 pk ((5 * f + o) / 5) ((5 * f + o) % 5) (wlt (stp w) f o k) := L0.cg (fun j q1 q2 => a6 j (by omega) (by omega) (by omega))
  obtain ⟨t3, e3, L3, f3⟩ := C_letterCopy a5 L2 hpp
  obtain ⟨O', h3, g3⟩ := h1.fill hs1 hc hn a1 a2 a3 a4 a6 a7 L3 f3
  refine ⟨t3, O', sl', ?_, h3, (Gw.fr f1 h.blk).tr g3⟩
  have hN := C_rowN h3.1 hc
  rw [show wT (wT' (stp w) (up (wT (stp w)) (5 * f + o) (wT (stp w) (5 * f + o) ++ [wlt (stp w) f o k]))) (5 * f + o) = wT w (5 * f + o) ++ [wlt (stp w) f o k] from up_s _ _ _, List.length_append] at hN
  unfold F_X8_repeat
  rw [chk_eq h.1.ok, h.1.i2, bind_some', e1, bind_some', C_row h1.1 hf ho, bind_some', e0]
  show (F_X8_row t1 b (nI f) (nI o)).bind _ = _
  rw [C_row h1.1 hf ho, bind_some', e2]
  show (F_X3_copyOf t2 p pk).bind _ = _
  rw [e3, bind_some', C_row h3.1 hf ho, bind_some', hN]
  rfl
theorem C_deliver (h : CM O σ b w sl) (i : Iv w) {f o k : Nat} (hf : f < wC w 0) (ho : o < wC w 0) (hk : k < (wT w (5 * f + o)).length) (hln : (sLg (wL w o)).length + frN w f o k ≤ 120) : ∃ t sl', F_X8_deliver σ b (nI f) (nI o) (nI k) = some (nI (frN w f o k), t) ∧ CM O t b (com (stp w) f o k) sl' ∧ Fr b 254 σ t ∧ nz sl' = nz sl := by
  have h5 := i.n5
  have hf5 : f < 5 := by omega
  have ho5 : o < 5 := by omega
  have hc : 5 * f + o < 25 := by omega
  have hLo : Ls b o = b + 134 + 14 * o := rfl
  have hc120 := i.c
  obtain ⟨t1, e1, h1, f1⟩ := h.step
  have hlk : (wT w (5 * f + o))[k]? = some (wlt w f o k) := by
    show (wT w (5 * f + o))[k]? = some ((wT w (5 * f + o)).getD k nol)
    rw [List.getD_eq_getElem?_getD, List.getElem?_eq_getElem hk]; rfl
  obtain ⟨pk, e0, a0, L0⟩ := C_at h1.1 hc (show (wT (stp w) (5 * f + o))[k]? = some (wlt w f o k) from hlk)
  rw [show (5 * f + o) / 5 = f by omega, show (5 * f + o) % 5 = o by omega] at L0
  have k12 := (h1.1.lt hc (show (wT (stp w) (5 * f + o))[k]? = some (wlt w f o k) from hlk)).1
  have hpkb := h1.2.1 _ k pk hc k12 a0
  have il := i.lt hf5 ho5 hlk
  obtain ⟨t2, e2, S2, f2⟩ := C_receive (n := wC w 0) (y := wC w 6 + 1) (h1.1.SL ho5) h1.1.ev i.j.bv L0 (i.j.L ho5) (fun j hj => Nat.le_trans (il.2.1 j hj).1 hc120) (fun e he => (il.2.2.2 e he).1) il.1 hf5 ho5 h5 (by omega) (by omega) hln
  obtain ⟨h2, f2'⟩ := h1.site ho5 S2 f2
  have L2 := L0.fr f2' (by omega)
  have hle : (frs (wE w) (wlt w f o k) (wL w o) o).length ≤ (lEv (wlt w f o k)).length := List.length_filter_le ..
  obtain ⟨t3, e3, h3, f3⟩ := h2.num (k := 5) (j := 5) (v := wC w 5 + ((lEv (wlt w f o k)).length - (frs (wE w) (wlt w f o k) (wL w o) o).length)) (by omega) rfl (by omega)
  obtain ⟨t4, sl', e4, h4, f4, z4⟩ := C_rowRemove h3 hc (k := k) hk
  refine ⟨t4, sl', ?_, ?_, f1.tr (f2'.tr (f3.tr f4)), z4⟩
  · have hi2 := h1.1.i2
    rw [show wC (stp w) 6 = wC w 6 + 1 from rfl] at hi2
    unfold F_X8_deliver
    rw [chk_eq h.1.ok, h.1.i2, bind_some', e1, bind_some', C_row h1.1 hf5 ho5, bind_some', e0]
    show (gR t1 b 8 7).bind _ = _
    rw [h1.1.r7, bind_some', h1.1.lv ho5, bind_some', h1.1.r6, bind_some', h1.1.i0, bind_some', hi2, bind_some']
    show wb (F_X6_receive t1 (Ls b o) pk (b + 1) (nI (wC w 0)) (nI (wC w 6 + 1))) _ = _
    rw [e2]
    show (gI t2 b 8 5).bind (fun x13 => (gI t2 pk 3 3).bind fun x14 => (sV t2 b 8 5 (.int (x13 + (x14 - nI (frs (wE w) (wlt w f o k) (wL w o) o).length)))).bind fun s15 => (F_X8_row s15 b (nI f) (nI o)).bind fun p16 => (F_X4_remove s15 p16 (nI k)).bind fun s17 => some (nI (frs (wE w) (wlt w f o k) (wL w o) o).length, s17)) = _
    rw [h2.1.i5, bind_some', L2.g3, bind_some', pk_sub hle, nI_add]
    show (sV t2 b 8 5 (.int (nI (wC w 5 + ((lEv (wlt w f o k)).length - (frs (wE w) (wlt w f o k) (wL w o) o).length))))).bind _ = _
    rw [e3, bind_some', C_row h3.1 hf5 ho5, bind_some', e4]
    rfl
  · exact h4
end RWS
