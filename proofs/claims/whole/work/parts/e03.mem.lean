/-! ===== PURE 5: the reference's words at its base; what they hold of a world ===== -/
/-- the reference with other words at its base -/
def wM (M : Ms) (W : Nat → Nat) : Ms := (M.1, M.2.1, upA M.2.2 0 (fun j => if M.1 3 ≤ j ∧ j < M.1 3 + 49425 then W (j - M.1 3) else M.2.2 0 j))
/-- store s is σ, but that the reference's words at its base are W -/
def RT (a : Nat) (σ : Sto) (M : Ms) (W : Nat → Nat) (s : Sto) : Prop := M.1 3 ≤ 49425 ∧ RM s a (wM M W) ∧ Eo a σ s
section MEM
variable {a : Nat} {σ s : Sto} {M : Ms} {W : Nat → Nat}
theorem wM_self (M : Ms) : wM M (Wb M) = M := by
  unfold wM Wb
  refine Prod.ext rfl (Prod.ext rfl ?_)
  funext k
  show upA M.2.2 0 _ k = M.2.2 k
  unfold upA
  by_cases hk : k = 0
  · subst hk
    rw [if_pos rfl]
    funext j
    by_cases hj : M.1 3 ≤ j ∧ j < M.1 3 + 49425
    · rw [if_pos hj, show M.1 3 + (j - M.1 3) = j by omega]
    · rw [if_neg hj]
  · rw [if_neg hk]
theorem wM_at {j : Nat} (hj : j < 49425) : (wM M W).2.2 0 (M.1 3 + j) = W j := by
  unfold wM upA
  dsimp only
  rw [if_pos rfl, if_pos (by omega), show M.1 3 + j - M.1 3 = j by omega]
theorem wM_out {j : Nat} (hj : j < M.1 3 ∨ M.1 3 + 49425 ≤ j) : (wM M W).2.2 0 j = M.2.2 0 j := by
  unfold wM upA
  dsimp only
  rw [if_pos rfl, if_neg (by omega)]
theorem wM_k {k : Nat} (hk : k ≠ 0) : (wM M W).2.2 k = M.2.2 k := by
  unfold wM upA
  dsimp only
  rw [if_neg hk]
theorem wM_1 : (wM M W).1 = M.1 := rfl
theorem wM_up {j v : Nat} (hj : j < 49425) : uN (wM M W) 0 (M.1 3 + j) v = wM M (upN W j v) := by
  unfold uN uA wM
  refine Prod.ext rfl (Prod.ext rfl ?_)
  funext k
  show upA (upA M.2.2 0 _) 0 _ k = upA M.2.2 0 _ k
  unfold upA
  by_cases hk : k = 0
  · subst hk
    rw [if_pos rfl, if_pos rfl]
    funext i
    show upN _ _ v i = _
    unfold upN
    dsimp only
    rw [if_pos rfl]
    by_cases hi : i = M.1 3 + j
    · subst hi
      rw [if_pos rfl, if_pos (by omega), if_pos (by omega)]
    · rw [if_neg hi]
      by_cases h2 : M.1 3 ≤ i ∧ i < M.1 3 + 49425
      · rw [if_pos h2, if_pos h2, if_neg (by omega)]
      · rw [if_neg h2, if_neg h2]
  · rw [if_neg hk, if_neg hk, if_neg hk]
theorem RT.begin (h : RM σ a M) (hb : M.1 3 ≤ 49425) : RT a σ M (Wb M) σ := ⟨hb, by rw [wM_self]; exact h, Eo.rf⟩
theorem RT.ok (h : RT a σ M W s) : (gO s a 10).isSome = true := h.2.1.ok
theorem RT.eo (h : RT a σ M W s) : Eo a σ s := h.2.2
theorem RT.base (h : RT a σ M W s) : gI s a 10 3 = some (nI (M.1 3)) := gI_cel h.2.1.1 rfl
theorem RT.w (h : RT a σ M W s) : gR s a 10 1 = some (a + 1) := gR_cel h.2.1.1 rfl
/-- a word -/
theorem RT.rd (h : RT a σ M W s) {j : Nat} (hj : j < 49425) : iald s (a + 1) (nI (M.1 3 + j)) = some (nI (W j)) := by
  have h0 := h.1
  have h1 := h.2.1.iald (k := 0) (j := M.1 3 + j) (by omega) rfl (by show M.1 3 + j < 197700; omega)
  rw [wM_at hj] at h1
  exact h1
/-- a word, with the base at 0 -/
theorem RT.raw (h : RT a σ M W s) (hb : M.1 3 = 0) {j : Nat} (hj : j < 49425) : iald s (a + 1) (nI j) = some (nI (W j)) := by
  have h1 := h.rd hj
  rw [hb, Nat.zero_add] at h1
  exact h1
theorem RT.wr (h : RT a σ M W s) {j v : Nat} (hj : j < 49425) : ∃ s', iast s (a + 1) (nI (M.1 3 + j)) (nI v) = some s' ∧ RT a σ M (upN W j v) s' := by
  have h0 := h.1
  obtain ⟨s', h1, h2, h3⟩ := h.2.1.iast (k := 0) (j := M.1 3 + j) (v := v) (by omega) rfl (by show M.1 3 + j < 197700; omega)
  rw [wM_up hj] at h2
  exact ⟨s', h1, h.1, h2, h.2.2.tr h3⟩
theorem RT.wraw (h : RT a σ M W s) (hb : M.1 3 = 0) {j v : Nat} (hj : j < 49425) : ∃ s', iast s (a + 1) (nI j) (nI v) = some s' ∧ RT a σ M (upN W j v) s' := by
  have h1 := h.wr (v := v) hj
  rw [hb, Nat.zero_add] at h1
  exact h1
theorem R_of (h : RT a σ M W s) {x : Nat} (hx : x < 49425) : F_X10_of s a (nI x) = some (nI (W x)) := by
  unfold F_X10_of
  rw [chk_eq h.ok, h.w, bind_some', h.base, bind_some', nI_add, h.rd hx]
  rfl
theorem R_set (h : RT a σ M W s) {x : Nat} (v : Nat) (hx : x < 49425) : ∃ s', F_X10_set s a (nI x) (nI v) = some s' ∧ RT a σ M (upN W x v) s' := by
  obtain ⟨s', h1, h2⟩ := h.wr (v := v) hx
  refine ⟨s', ?_, h2⟩
  unfold F_X10_set
  rw [chk_eq h.ok, h.w, bind_some', h.base, bind_some', nI_add, h1]
  rfl
theorem R_more (h : RT a σ M W s) {x : Nat} (v : Nat) (hx : x < 49425) : ∃ s', F_X10_more s a (nI x) (nI v) = some s' ∧ RT a σ M (upN W x (W x + v)) s' := by
  obtain ⟨s', h1, h2⟩ := h.wr (v := W x + v) hx
  refine ⟨s', ?_, h2⟩
  unfold F_X10_more
  rw [chk_eq h.ok, h.w, bind_some', h.base, bind_some', nI_add, h.rd hx, bind_some', nI_add, h1]
  rfl
theorem R_isOf (h : RT a σ M W s) {r e : Nat} (he : e < 128) (hx : r + 4 < 49425) : F_X10_isOf s a (nI r) (nI e) = some (nI (b2 (rb W r e))) := by
  unfold F_X10_isOf
  rw [chk_eq h.ok, l_32, pk_div (by omega) (by omega) (by omega), nI_add, R_of h (by omega), bind_some', show nI e - nI (e / 32) * nI 32 = nI (e % 32) from by
    have := pk_rem (a := e) (d := 32) (by omega) (by omega) (by omega)
    rw [pk_div (by omega) (by omega) (by omega)] at this
    exact this]
  have h1 : bt (nI (W (r + e / 32)) >>> (nI (e % 32) &&& 31)) 0 = rb W r e := by
    rw [b_sshr (e % 32) (by omega) _ (by omega), if_pos (by omega), bt_nI]
    simp [rb]
    omega
  by_cases hb : rb W r e = true
  · rw [if_pos ((and1 _).mpr (by rw [h1]; exact hb)), hb]; rfl
  · rw [if_neg (fun z => hb (by rw [← h1]; exact (and1 _).mp z)), Bool.eq_false_iff.mpr hb]; rfl
/-- any int is the number of its bits -/
theorem nI_bits (x : Int32) : ∃ v : Nat, x = nI v ∧ ∀ i, i < 32 → v.testBit i = bt x i := by
  refine ⟨x.toBitVec.toNat, ?_, fun i _ => rfl⟩
  apply b_ext
  intro i hi
  rw [bt_nI]
  simp [hi, bt]
  rw [← BitVec.getLsbD_eq_getElem, BitVec.getLsbD]
theorem nI_ext {x y : Nat} : nI x = nI y ↔ ∀ i, i < 32 → x.testBit i = y.testBit i := by
  constructor
  · intro h i hi
    have h1 := congrArg (fun z => bt z i) h
    simp only [bt_nI] at h1
    simpa [hi] using h1
  · intro h
    apply b_ext
    intro i hi
    rw [bt_nI, bt_nI, h i hi]
theorem R_sets (h : RT a σ M W s) {r e : Nat} (he : e < 128) (hx : r + 4 < 49425) (is : Bool) : ∃ s' W', F_X10_sets s a (nI r) (nI e) (nI (b2 is)) = some s' ∧ RT a σ M W' s' ∧ (∀ x, x < 128 → rb W' r x = up (rb W r) e is x) ∧ ∀ j, (j < r ∨ r + 4 ≤ j) → W' j = W j := by
  have key : ∀ v : Nat, (∀ i, i < 32 → v.testBit i = if i = e % 32 then is else (W (r + e / 32)).testBit i) → (∀ x, x < 128 → rb (upN W (r + e / 32) v) r x = up (rb W r) e is x) ∧ ∀ j, (j < r ∨ r + 4 ≤ j) → upN W (r + e / 32) v j = W j := by
    intro v hv
    refine ⟨fun x hx2 => ?_, fun j hj => upN_n (by omega)⟩
    unfold rb up
    by_cases h1 : x / 32 = e / 32
    · rw [h1, upN_s, hv _ (by omega)]
      by_cases h2 : x = e
      · subst h2; rw [if_pos rfl, if_pos rfl]
      · rw [if_neg (by omega), if_neg h2]
        show _ = (W (r + x / 32)).testBit (x % 32)
        rw [h1]
    · rw [upN_n (by omega), if_neg (by intro h2; subst h2; exact h1 rfl)]
  have hrem : nI e - nI (e / 32) * nI 32 = nI (e % 32) := by
    have := pk_rem (a := e) (d := 32) (by omega) (by omega) (by omega)
    rw [pk_div (by omega) (by omega) (by omega)] at this
    exact this
  have hsh : ∀ i, i < 32 → bt ((1 : Int32) <<< (nI (e % 32) &&& 31)) i = decide (i = e % 32) := by
    intro i hi
    rw [b_shl (e % 32) (by omega) _ hi, bt_1]
    by_cases h1 : i = e % 32
    · subst h1; simp
    · by_cases h2 : e % 32 ≤ i
      · simp [h1, h2]; omega
      · simp [h1, h2]
  cases is with
  | true =>
    obtain ⟨v, hv1, hv2⟩ := nI_bits (nI (W (r + e / 32)) ||| ((1 : Int32) <<< (nI (e % 32) &&& 31)))
    obtain ⟨s', h1, h2⟩ := R_set h v (show r + e / 32 < 49425 by omega)
    refine ⟨s', _, ?_, h2, key v ?_⟩
    · unfold F_X10_sets
      rw [chk_eq h.ok, if_neg (by decide), l_32, pk_div (by omega) (by omega) (by omega), nI_add, R_of h (by omega), bind_some', hrem, hv1, h1]
      rfl
    · intro i hi
      rw [hv2 i hi, b_or, bt_nI, hsh i hi]
      by_cases h3 : i = e % 32
      · simp [h3]
      · simp [h3, hi]
  | false =>
    obtain ⟨v, hv1, hv2⟩ := nI_bits (nI (W (r + e / 32)) &&& (((1 : Int32) <<< (nI (e % 32) &&& 31)) ^^^ (-1)))
    obtain ⟨s', h1, h2⟩ := R_set h v (show r + e / 32 < 49425 by omega)
    refine ⟨s', _, ?_, h2, key v ?_⟩
    · unfold F_X10_sets
      rw [chk_eq h.ok, if_pos (by decide), l_32, pk_div (by omega) (by omega) (by omega), nI_add, R_of h (by omega), bind_some', hrem, hv1, h1]
      rfl
    · intro i hi
      rw [hv2 i hi, b_and, bt_nI, b_xor, hsh i hi, b_m1 i hi]
      by_cases h3 : i = e % 32
      · simp [h3]
      · simp [h3, hi]
end MEM
theorem R_isIn (x y z : Int32) : F_X10_isIn x.toInt64 y.toInt64 z.toInt64 = some (nI (b2 (decide (y ≤ x ∧ x ≤ z)))) := by
  unfold F_X10_isIn
  by_cases h1 : x < y
  · rw [if_pos (lg_lt.mpr h1), l_0, decide_eq_false (by
      intro h; have := h.1
      rw [Int32.le_iff_toInt_le] at this; rw [Int32.lt_iff_toInt_lt] at h1; omega)]
    rfl
  · rw [if_neg (fun h => h1 (lg_lt.mp h))]
    by_cases h2 : z < x
    · rw [if_pos (lg_gt.mpr h2), l_0, decide_eq_false (by
        intro h; have := h.2
        rw [Int32.le_iff_toInt_le] at this; rw [Int32.lt_iff_toInt_lt] at h2; omega)]
      rfl
    · rw [if_neg (fun h => h2 (lg_gt.mp h)), l_1, decide_eq_true (by
        rw [Int32.lt_iff_toInt_lt] at h1 h2
        rw [Int32.le_iff_toInt_le, Int32.le_iff_toInt_le]
        omega)]
      rfl
theorem R_flag (b : Bool) : F_X10_flag (nI (b2 b)) = some (nI (b2 b)) := by cases b <;> rfl
theorem R_stateOf (s : Nat) : F_X10_stateOf (nI s) = some (nI (9 + 789 * s)) := by
  unfold F_X10_stateOf
  rw [l_8, l_789, l_1, pk_mul, nI_add, nI_add, show 8 + 789 * s + 1 = 9 + 789 * s by omega]
theorem R_clockOf (s : Nat) : F_X10_clockOf (nI s) = some (nI (8 + 789 * s)) := by
  unfold F_X10_clockOf
  rw [l_8, l_789, pk_mul, nI_add]
theorem R_eventOf (e : Nat) : F_X10_eventOf (nI e) = some (nI (3953 + 10 * e)) := by
  unfold F_X10_eventOf
  rw [l_3953, l_10, pk_mul, nI_add]
theorem R_couple (f t : Nat) : F_X10_couple (nI f) (nI t) = some (nI (5 * f + t)) := by
  unfold F_X10_couple
  rw [l_5, pk_mul, nI_add]
theorem R_letterOf (f t k : Nat) : F_X10_letterOf (nI f) (nI t) (nI k) = some (nI (5178 + 147 * (12 * (5 * f + t) + k))) := by
  unfold F_X10_letterOf
  rw [R_couple, bind_some', l_5178, l_147, l_12, pk_mul, nI_add, pk_mul, nI_add]
theorem R_cellOf (s r c : Nat) : F_X10_cellOf (nI s) (nI r) (nI c) = some (nI (9 + 789 * s + 5 * r + c)) := by
  unfold F_X10_cellOf
  rw [R_stateOf, bind_some', l_5, pk_mul, nI_add, nI_add]
/-! what the words hold -/
def RS (W : Nat → Nat) (o : Nat) (s : St) : Prop :=
  (∀ i, i < 25 → W (o + i) = sTb s i) ∧ (∀ e, e < 128 → rb W (o + 25) e = sHs s e) ∧ (∀ e, e < 128 → rb W (o + 29) e = sVw s e) ∧ W (o + 33) = (sLg s).length ∧ (∀ i x, (sLg s)[i]? = some x → W (o + 34 + i) = x) ∧ ∀ e, e < 120 → W (o + 154 + e) = sWh s e ∧ W (o + 274 + e) = sBy s e
def RLe (W : Nat → Nat) (o : Nat) (l : Lt) : Prop :=
  W o = lMd l ∧ W (o + 1) = (lEv l).length ∧ (lEv l).length ≤ 120 ∧ (∀ i x, (lEv l)[i]? = some x → W (o + 2 + i) = x) ∧ ∀ i, i < 25 → W (o + 122 + i) = lTb l i
def RE (W : Nat → Nat) (v : Ev) (e : Nat) : Prop :=
  W (3953 + 10 * e) = eS v e ∧ W (3953 + 10 * e + 1) = eT v e ∧ W (3953 + 10 * e + 2) = b2 (eO v e) ∧ W (3953 + 10 * e + 3) = eM v e ∧ W (3953 + 10 * e + 4) = eN v e ∧ W (3953 + 10 * e + 5) = eP v e ∧ ∀ x, x < 128 → rb W (3953 + 10 * e + 6) x = eA v e x
def RW (W : Nat → Nat) (w : Wd) : Prop :=
  (∀ k, k < 7 → W k = wC w k) ∧ (∀ c, c < 32 → (W 7).testBit c = wX w c) ∧ (∀ s, s < 5 → W (8 + 789 * s) = wK w s ∧ RS W (9 + 789 * s) (wL w s) ∧ RS W (403 + 789 * s) (wS w s)) ∧ (∀ e, e < wC w 2 → RE W (wE w) e) ∧ ∀ c, c < 25 → W (5153 + c) = (wT w c).length ∧ ∀ k l, (wT w c)[k]? = some l → RLe W (5178 + 147 * (12 * c + k)) l
theorem rb_cg {W W' : Nat → Nat} {o r : Nat} {e : Nat} (he : e < 128) (hr : o ≤ r) {n : Nat} (hn : r + 4 ≤ o + n) (h : ∀ j, o ≤ j → j < o + n → W' j = W j) : rb W' r e = rb W r e := by
  unfold rb
  rw [h _ (by omega) (by omega)]
theorem RS.cg {W W' : Nat → Nat} {o : Nat} {s : St} (h : RS W o s) (hl : (sLg s).length ≤ 120) (hc : ∀ j, o ≤ j → j < o + 394 → W' j = W j) : RS W' o s := by
  obtain ⟨h1, h2, h3, h4, h5, h6⟩ := h
  refine ⟨fun i hi => ?_, fun e he => ?_, fun e he => ?_, ?_, fun i x hx => ?_, fun e he => ?_⟩
  · rw [hc _ (by omega) (by omega)]; exact h1 i hi
  · rw [rb_cg he (by omega) (by omega) hc]; exact h2 e he
  · rw [rb_cg he (by omega) (by omega) hc]; exact h3 e he
  · rw [hc _ (by omega) (by omega)]; exact h4
  · have := (List.getElem?_eq_some_iff.mp hx).1
    rw [hc _ (by omega) (by omega)]; exact h5 i x hx
  · rw [hc _ (by omega) (by omega), hc _ (by omega) (by omega)]; exact h6 e he
theorem RLe.cg {W W' : Nat → Nat} {o : Nat} {l : Lt} (h : RLe W o l) (hc : ∀ j, o ≤ j → j < o + 147 → W' j = W j) : RLe W' o l := by
  obtain ⟨h1, h2, h3, h4, h5⟩ := h
  refine ⟨?_, ?_, h3, fun i x hx => ?_, fun i hi => ?_⟩
  · rw [hc _ (by omega) (by omega)]; exact h1
  · rw [hc _ (by omega) (by omega)]; exact h2
  · have := (List.getElem?_eq_some_iff.mp hx).1
    rw [hc _ (by omega) (by omega)]; exact h4 i x hx
  · rw [hc _ (by omega) (by omega)]; exact h5 i hi
theorem RE.cg {W W' : Nat → Nat} {v : Ev} {e : Nat} (h : RE W v e) (hc : ∀ j, 3953 + 10 * e ≤ j → j < 3953 + 10 * e + 10 → W' j = W j) : RE W' v e := by
  obtain ⟨h1, h2, h3, h4, h5, h6, h7⟩ := h
  refine ⟨?_, ?_, ?_, ?_, ?_, ?_, fun x hx => ?_⟩
  · rw [hc _ (by omega) (by omega)]; exact h1
  · rw [hc _ (by omega) (by omega)]; exact h2
  · rw [hc _ (by omega) (by omega)]; exact h3
  · rw [hc _ (by omega) (by omega)]; exact h4
  · rw [hc _ (by omega) (by omega)]; exact h5
  · rw [hc _ (by omega) (by omega)]; exact h6
  · rw [rb_cg hx (by omega) (by omega) hc]; exact h7 x hx
/-- a letter may also be moved -/
theorem RLe.mv {W W' : Nat → Nat} {o o' : Nat} {l : Lt} (h : RLe W o l) (hc : ∀ j, j < 147 → W' (o' + j) = W (o + j)) : RLe W' o' l := by
  obtain ⟨h1, h2, h3, h4, h5⟩ := h
  refine ⟨?_, ?_, h3, fun i x hx => ?_, fun i hi => ?_⟩
  · have := hc 0 (by omega); simp only [Nat.add_zero] at this; rw [this]; exact h1
  · rw [hc _ (by omega)]; exact h2
  · have := (List.getElem?_eq_some_iff.mp hx).1
    rw [Nat.add_assoc, hc _ (by omega), ← Nat.add_assoc]; exact h4 i x hx
  · rw [Nat.add_assoc, hc _ (by omega), ← Nat.add_assoc]; exact h5 i hi
theorem RS.mv {W W' : Nat → Nat} {o o' : Nat} {s : St} (h : RS W o s) (hl : (sLg s).length ≤ 120) (hc : ∀ j, j < 394 → W' (o' + j) = W (o + j)) : RS W' o' s := by
  obtain ⟨h1, h2, h3, h4, h5, h6⟩ := h
  refine ⟨fun i hi => ?_, fun e he => ?_, fun e he => ?_, ?_, fun i x hx => ?_, fun e he => ?_⟩
  · rw [hc _ (by omega)]; exact h1 i hi
  · unfold rb; rw [Nat.add_assoc, hc _ (by omega), ← Nat.add_assoc]; exact h2 e he
  · unfold rb; rw [Nat.add_assoc, hc _ (by omega), ← Nat.add_assoc]; exact h3 e he
  · rw [hc _ (by omega)]; exact h4
  · have := (List.getElem?_eq_some_iff.mp hx).1
    rw [Nat.add_assoc, hc _ (by omega), ← Nat.add_assoc]; exact h5 i x hx
  · rw [Nat.add_assoc o' 154, hc _ (by omega), Nat.add_assoc o' 274, hc _ (by omega), ← Nat.add_assoc, ← Nat.add_assoc]; exact h6 e he
