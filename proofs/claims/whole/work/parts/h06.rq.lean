/-! ===== PURE 76: the reference's publics: readers ===== -/
theorem fs_find (p : Nat → Bool) : ∀ l : List Nat, l.findSome? (fun i => if p i = true then some i else none) = l.find? p
  | [] => rfl
  | a :: l => by
    rw [List.findSome?_cons, List.find?_cons]
    cases h : p a with
    | true => rfl
    | false => exact fs_find p l
/-- a search for the k-th, any int -/
theorem kthU {ρ : Type} (L : Nat → Nat → Nat → ρ) (f : Nat → Bool) (n : Nat) (R : Option Nat → ρ)
    (hs0 : ∀ F x e, e < n → f e = false → L (F + 1) x e = L F x (e + 1)) (hs1 : ∀ F e, e < n → f e = true → L (F + 1) 0 e = R (some e)) (hs2 : ∀ F k e, e < n → f e = true → k + 1 < 2 ^ 32 → L (F + 1) (k + 1) e = L F k (e + 1)) (he : ∀ F x, L (F + 1) x n = R none) (k : Nat) (hk : k < 2 ^ 32) (F : Nat) (hF : n < F) : L F k 0 = R (kth f n k) := by
  have h : ∀ d e F k0, e + d = n → d < F → k0 + fb_ct f e = k → L F k0 e = R (kth f n k) := by
    intro d
    induction d with
    | zero =>
      intro e F k0 h1 h2 h3
      cases F with
      | zero => omega
      | succ F =>
        have hen : e = n := by omega
        subst hen
        rw [he F _, kth_none.mpr (by omega)]
    | succ d ih =>
      intro e F k0 h1 h2 h3
      cases F with
      | zero => omega
      | succ F =>
        cases hf : f e with
        | false =>
          rw [hs0 F _ e (by omega) hf]
          refine ih (e + 1) F k0 (by omega) (by omega) ?_
          rw [fb_ct_succ, hf]; simpa using h3
        | true =>
          cases k0 with
          | zero =>
            rw [hs1 F e (by omega) hf, kth_some.mpr ⟨by omega, hf, by omega⟩]
          | succ k0 =>
            rw [hs2 F k0 e (by omega) hf (by omega)]
            refine ih (e + 1) F k0 (by omega) (by omega) ?_
            rw [fb_ct_succ, hf]
            simp
            omega
  exact h n 0 F k (by omega) hF rfl
/-- an int as a natural below 2^32 -/
def uN32 (x : Int32) : Nat := x.toBitVec.toNat
theorem uN32_lt (x : Int32) : uN32 x < 2 ^ 32 := x.toBitVec.isLt
theorem uN32_eq (x : Int32) : x = nI (uN32 x) := by
  apply Int32.toBitVec_inj.mp
  show x.toBitVec = BitVec.ofNat 32 x.toBitVec.toNat
  rw [BitVec.ofNat_toNat]
  simp
theorem kthI_U (f : Nat → Bool) {n : Nat} (hn : n < 2 ^ 31) (k : Int32) : kthI f n k = kth f n (uN32 k) := by
  unfold kthI
  by_cases hk : k < 0
  · rw [if_pos hk]
    symm
    apply kth_none.mpr
    have h1 := fb_ct_le f n
    have h2 : k.toInt < 0 := by
      have := Int32.lt_iff_toInt_lt.mp hk
      simpa using this
    have h3 : k.toInt = k.toBitVec.toInt := rfl
    have h4 := BitVec.toInt_eq_toNat_cond k.toBitVec
    unfold uN32
    split at h4 <;> omega
  · rw [if_neg hk]
    have h2 : ¬ k.toInt < 0 := fun h => hk (Int32.lt_iff_toInt_lt.mpr (by simpa using h))
    have h3 : k.toInt = k.toBitVec.toInt := rfl
    have h4 := BitVec.toInt_eq_toNat_cond k.toBitVec
    have h5 : k.toNatClampNeg = k.toInt.toNat := rfl
    have h6 := k.toBitVec.isLt
    have : k.toNatClampNeg = uN32 k := by
      unfold uN32
      split at h4 <;> omega
    rw [this]
theorem nI_z {u : Nat} (hu : u < 2 ^ 32) : nI u = 0 ↔ u = 0 := by
  constructor
  · intro h
    have h1 := congrArg (fun z : Int32 => z.toBitVec.toNat) h
    have h2 : (nI u).toBitVec.toNat = u % 2 ^ 32 := BitVec.toNat_ofNat ..
    have h3 : ((0 : Int32).toBitVec.toNat) = 0 := rfl
    have h4 : (nI u).toBitVec.toNat = ((0 : Int32).toBitVec.toNat) := h1
    omega
  · rintro rfl; rfl
section RFQ
variable {s s1 t σ : Sto} {a c : Nat} {M : Ms} {A : Ga} {w : Wd} {W W' : Nat → Nat}
theorem R_kthOf (h : RT a σ M W s) (r : RW W w) (i : Jv w) {o : Nat} {p : Nat → Bool} (hp : ∀ e, e < 128 → rb W o e = p e) (ho : o + 4 < 49425) (k : Int32) : F_X10_kthOf s a (nI o) k = some (oI (kthI p (wC w 2) k)) := by
  have hc := i.c
  unfold F_X10_kthOf
  rw [chk_eq h.ok, kthI_U p (by omega) k]
  have hk := uN32_eq k
  have hk2 := uN32_lt k
  generalize uN32 k = u at hk hk2
  subst hk
  refine (kthU (fun F x e => F_X10_kthOf_L5 s a (nI o) F (nI x) (nI e) (some (-1))) p (wC w 2) (fun q => some (oI q)) ?_ ?_ ?_ ?_ u hk2 fu (by unfold fu; omega))
  · intro F x e he hf
    rw [F_X10_kthOf_L5, show (2 : Int32) = nI 2 from rfl, R_of h (by omega), bind_some', r.c (by omega), if_neg (by rw [nI_leI (by omega) (by omega)]; omega), R_isOf h (by omega) ho, bind_some', hp e (by omega), hf, if_pos (by decide), nI_add1]
  · intro F e he hf
    rw [F_X10_kthOf_L5, show (2 : Int32) = nI 2 from rfl, R_of h (by omega), bind_some', r.c (by omega), if_neg (by rw [nI_leI (by omega) (by omega)]; omega), R_isOf h (by omega) ho, bind_some', hp e (by omega), hf, if_neg (by decide), if_pos (by decide)]
    rfl
  · intro F k e he hf hk
    rw [F_X10_kthOf_L5, show (2 : Int32) = nI 2 from rfl, R_of h (by omega), bind_some', r.c (by omega), if_neg (by rw [nI_leI (by omega) (by omega)]; omega), R_isOf h (by omega) ho, bind_some', hp e (by omega), hf, if_neg (by decide), if_neg (fun y => by have := (nI_z hk).mp y; omega), m1_add, nI_add1]
  · intro F x
    rw [F_X10_kthOf_L5, show (2 : Int32) = nI 2 from rfl, R_of h (by omega), bind_some', r.c (by omega), if_pos (Int32.le_refl _)]
    rfl
theorem R_hadOf (h : RT a σ M W s) (r : RW W w) {o y : Nat} {l : Lt} (hL : RLe W o l) (hle : ∀ e ∈ lEv l, e < 128) (ho : o + 147 ≤ 49425) (hy : y < 5) : F_X10_hadOf s a (nI o) (nI y) = some (nI ((lEv l).filter (sHs (wL w y))).length) := by
  have hl := hL.2.2.1
  unfold F_X10_hadOf
  rw [chk_eq h.ok]
  have key := lup (fun f j => F_X10_hadOf_L5 s a (nI o) (nI y) f (nI (((lEv l).take j).filter (sHs (wL w y))).length) (nI j) (fun x => some x)) (lEv l).length (some (nI ((lEv l).filter (sHs (wL w y))).length)) (by
    intro j f hj
    have hx : W (o + 2 + j) = (lEv l)[j] := hL.2.2.2.1 j _ (List.getElem?_eq_getElem hj)
    have hb := hle _ (List.getElem_mem hj)
    have hwL : W (o + 1) = (lEv l).length := hL.2.1
    rw [F_X10_hadOf_L5, show (1 : Int32) = nI 1 from rfl, nI_add, R_of h (by omega), bind_some', hwL, if_neg (by rw [nI_leI (by omega) (by omega)]; omega), show (2 : Int32) = nI 2 from rfl, nI_add, nI_add, R_of h (by omega), bind_some', hx, R_doesHave1 h r hy hb, bind_some', R_flag, bind_some', nI_add, nI_add, tk_filt _ hj, List.length_append]
    cases sHs (wL w y) (lEv l)[j] <;> rfl) (by
    intro f
    have hwL : W (o + 1) = (lEv l).length := hL.2.1
    rw [F_X10_hadOf_L5, show (1 : Int32) = nI 1 from rfl, nI_add, R_of h (by omega), bind_some', hwL, if_pos (Int32.le_refl _), List.take_length]) fu (by unfold fu; omega)
  exact key
theorem R_letter (h : RJ s a c A) (i : Iv A.1) (x y q k : Int32) : Rj s a (cd3 eIO eNS eIA) (F_X10_letter s a x y q k) (aLet A x y q k) := by
  obtain ⟨s1, M, e1, h1, k1, t1, E1, o⟩ := h.go1
  obtain ⟨s2, M2, e2, b2, E2⟩ := R_whyNot h1 k1 t1 i x y q
  have hn := i.n5
  unfold F_X10_letter aLet
  rw [chk_eq o, e1, bind_some', e2, wbs, jn_eq]
  cases hx : two A.1 x y with
  | false =>
    rw [if_neg z_f, if_neg z_f, if_neg z_1]
    dsimp only
    rw [if_neg z_1]
    exact Rj.fl b2.1 b2.2.1 (E1.tr E2) cd3_1
  | true =>
    obtain ⟨⟨x1, x2⟩, ⟨y1, y2⟩, hne⟩ := two_tN hn hx
    generalize tN x = x' at x1 x2 hne
    generalize tN y = y' at y1 y2 hne
    subst x1
    subst y1
    have h12 := i.tl (show x' < 5 by omega) (show y' < 5 by omega)
    rw [if_pos rfl, if_pos rfl]
    cases hq : inR q (wT A.1 (5 * x' + y')).length with
    | false =>
      rw [if_neg z_f, if_neg z_f, if_neg z_2]
      dsimp only
      rw [if_neg z_2]
      exact Rj.fl b2.1 b2.2.1 (E1.tr E2) (cd3_2 n_NS_IO)
    | true =>
      obtain ⟨q1, q2⟩ := inR_tN (by omega) hq
      generalize tN q = q' at q1 q2
      subst q1
      rw [if_pos rfl, if_pos rfl, if_pos nI_0, isIn_2, bind_some', ifb0]
      cases hk : inR k 3 with
      | false =>
        rw [if_neg z_f, show (3 : Int32) = nI 3 from rfl]
        dsimp only
        rw [if_neg z_3]
        exact Rj.fl b2.1 b2.2.1 (E1.tr E2) (cd3_3 n_IA_IO n_IA_NS)
      | true =>
        obtain ⟨k1', k2⟩ := inR_tN (by omega) hk
        generalize tN k = k' at k1' k2
        subst k1'
        have hg := wlt_get q2
        have hIl := i.lt (show x' < 5 by omega) (show y' < 5 by omega) hg
        have hL := b2.rw.l (show 5 * x' + y' < 25 by omega) hg
        have hc2 := i.c
        rw [if_pos rfl, if_pos rfl]
        dsimp only
        rw [if_pos nI_0, R_letterOf, bind_some', R_hadOf b2.rt b2.rw hL (fun e he => by have := (hIl.2.2.2 e he).1; omega) (by omega) (by omega), bind_some', b2.1.wd, bind_some', show nI (5178 + 147 * (12 * (5 * x' + y') + q')) + (1 : Int32) = _ from nI_add1 _, b2.1.raw (by omega), bind_some', hL.2.1, bind_some', show nI (5178 + 147 * (12 * (5 * x' + y') + q')) + (0 : Int32) = _ from nI_add _ 0, b2.1.raw (by omega), bind_some', Nat.add_zero, hL.1]
        rcases (show k' = 0 ∨ k' = 1 ∨ k' = 2 by omega) with rfl | rfl | rfl
        · rw [if_pos nI_0, if_pos rfl]; exact Rj.ok b2 (E1.tr E2)
        · rw [if_neg z_1, if_pos (show nI 1 = (1 : Int32) from rfl)]; exact Rj.ok b2 (E1.tr E2)
        · rw [if_neg z_2, if_neg (show ¬ nI 2 = (1 : Int32) by decide), if_neg (show ¬ 2 = 0 by decide), if_neg (show ¬ 2 = 1 by decide), filt_ct (c := 128) _ hIl.2.2.1 (fun e he => by have := (hIl.2.2.2 e he).1; omega), show fb_ct (fun e => sHs (wL A.1 y') e && (lEv (wlt A.1 x' y' q')).contains e) 128 = fb_ct (fun e => (lEv (wlt A.1 x' y' q')).contains e && sHs (wL A.1 y') e) 128 from fb_ct_cong (fun e _ => Bool.and_comm _ _)]
          exact Rj.ok b2 (E1.tr E2)
theorem R_inLetter (h : RJ s a c A) (i : Iv A.1) (x y q k : Int32) : Rj s a (cd2 eIO eNS) (F_X10_inLetter s a x y q k) (aInl A x y q k) := by
  obtain ⟨s1, M, e1, h1, k1, t1, E1, o⟩ := h.go1
  obtain ⟨s2, M2, e2, b2, E2⟩ := R_whyNot h1 k1 t1 i x y q
  have hn := i.n5
  unfold F_X10_inLetter aInl
  rw [chk_eq o, e1, bind_some', e2, wbs]
  cases hx : two A.1 x y with
  | false =>
    rw [if_neg z_f, if_neg z_f, if_neg z_1]
    exact Rj.fl b2.1 b2.2.1 (E1.tr E2) cd2_1
  | true =>
    obtain ⟨⟨x1, x2⟩, ⟨y1, y2⟩, hne⟩ := two_tN hn hx
    generalize tN x = x' at x1 x2 hne
    generalize tN y = y' at y1 y2 hne
    subst x1
    subst y1
    have h12 := i.tl (show x' < 5 by omega) (show y' < 5 by omega)
    rw [if_pos rfl, if_pos rfl]
    cases hq : inR q (wT A.1 (5 * x' + y')).length with
    | false =>
      rw [if_neg z_f, if_neg z_f, if_neg z_2]
      exact Rj.fl b2.1 b2.2.1 (E1.tr E2) (cd2_2 n_NS_IO)
    | true =>
      obtain ⟨q1, q2⟩ := inR_tN (by omega) hq
      generalize tN q = q' at q1 q2
      subst q1
      have hL := b2.rw.l (show 5 * x' + y' < 25 by omega) (wlt_get q2)
      have hll := hL.2.2.1
      rw [if_pos rfl, if_pos rfl, if_pos nI_0, R_letterOf, bind_some', b2.1.wd, bind_some', show nI (5178 + 147 * (12 * (5 * x' + y') + q')) + (1 : Int32) = _ from nI_add1 _, b2.1.raw (by omega), bind_some', hL.2.1, show (1 : Int32) = nI 1 from rfl, isIn_inR k (by omega), bind_some', ifb0]
      cases hk : inR k (lEv (wlt A.1 x' y' q')).length with
      | false => exact Rj.fl b2.1 b2.2.1 (E1.tr E2) (cd2_2 n_NS_IO)
      | true =>
        obtain ⟨k1', k2⟩ := inR_tN (by omega) hk
        generalize tN k = k' at k1' k2
        subst k1'
        have hx : M2.2.2 0 (5178 + 147 * (12 * (5 * x' + y') + q') + 2 + k') = (lEv (wlt A.1 x' y' q'))[k'] := hL.2.2.2.1 k' _ (List.getElem?_eq_getElem k2)
        rw [if_pos rfl, if_pos rfl, bind_some', show (2 : Int32) = nI 2 from rfl, nI_add, nI_add, b2.1.raw (by omega), bind_some', hx, List.getD_eq_getElem?_getD, List.getElem?_eq_getElem k2]
        exact Rj.ok b2 (E1.tr E2)
end RFQ
