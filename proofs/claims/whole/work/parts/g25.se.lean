/-! ===== PURE 63: the class's publics: site, would, event ===== -/
section PUL
variable {σ t : Sto} {g : Nat} {A : Ga} {z : Nat} {Q : Nat → Prop}
theorem Iv.t0 {w : Wd} (i : Iv w) : ∀ e, e < wC w 2 → 0 < eT (wE w) e := fun e he => (i.2.2.1 e he).2.1
theorem Iv.eNl {w : Wd} (i : Iv w) : ∀ e, e < wC w 2 → eN (wE w) e < 100 := fun e he => (i.2.2.1 e he).2.2.2.2.1
theorem Iv.ePl {w : Wd} (i : Iv w) : ∀ e, e < wC w 2 → eP (wE w) e ≤ wC w 6 := fun e he => (i.2.2.1 e he).2.2.2.2.2.1
theorem Iv.eAl {w : Wd} (i : Iv w) : ∀ e, e < wC w 2 → ∀ x, eA (wE w) e x = true → x < e := fun e he => (i.2.2.1 e he).2.2.2.2.2.2
theorem Iv.hs {w : Wd} (i : Iv w) : ∀ x, x < 5 → ∀ e, sHs (wL w x) e = true → e < wC w 2 := fun x hx => (i.L hx).2.1
theorem Iv.le {w : Wd} (i : Iv w) : ∀ c, c < 25 → ∀ l ∈ wT w c, ∀ e ∈ lEv l, e < wC w 2 := fun c hc l hl e he => by
  have h := (i.2.2.2.2.2.1 (c / 5) (by omega) (c % 5) (by omega)).2.1 l
  rw [show 5 * (c / 5) + c % 5 = c by omega] at h
  exact ((h hl).2.2.2 e he).1
theorem Iv.nd {w : Wd} (i : Iv w) {x : Nat} (hx : x < 5) : (sLg (wL w x)).Nodup := (i.L hx).2.2.2.1
theorem Iv.wh {w : Wd} (i : Iv w) {x : Nat} (hx : x < 5) {e : Nat} (h : sHs (wL w x) e = true) : eP (wE w) e ≤ sWh (wL w x) e ∧ sWh (wL w x) e ≤ wC w 6 := ((i.2.2.2.2.1 x hx).2.2 e).1 h
/-- what all have -/
def hba (w : Wd) (e : Nat) : Bool := al (fun s => sHs (wL w s) e) (wC w 0)
def stA (w : Wd) (x k : Nat) : Nat := if k = 0 then wK w x else if k = 1 then fb_ct (sVw (wL w x)) 128 else if k = 2 then (sLg (wL w x)).length else if k = 3 then fb_ct (sHs (wL w x)) 128 else if k = 4 then fb_ct (ovC w x) 25 else if k = 5 then lst w x else if k = 6 then fb_ct (hba w) (wC w 2) else fb_ct (fun e => hba w e && (sLg (wL w x)).contains e) (wC w 2)
def aSte (A : Ga) (x k : Int32) : Ra := if inR x (wC A.1 0) = true then (if inR k 8 = true then (.inl (nI (stA A.1 (tN x) (tN k))), A) else (.inr eIA, A)) else (.inr eIO, A)
theorem C_site (h : GA σ g A z Q) (i : Iv A.1) (x k : Int32) : Ans σ g z Q (F_X9_site σ g x k) (aSte A x k) := by
  have hn := i.j.n5
  have hn2 := i.n2
  unfold F_X9_site aSte
  rw [chk_eq h.ok, C_needSite h hn, tbI]
  cases hx : inR x (wC A.1 0) with
  | false => exact Ans.thw h eIO
  | true =>
    obtain ⟨x1, x2⟩ := inR_tN (by omega) hx
    generalize tN x = x' at x1 x2
    subst x1
    rw [if_pos rfl, if_pos rfl, show (8 : Int32) = nI 8 from rfl, C_needWhat h k (m := 8) (by omega), tbI]
    cases hk : inR k 8 with
    | false => exact Ans.thw h eIA
    | true =>
      obtain ⟨k1, k2⟩ := inR_tN (by omega) hk
      generalize tN k = k' at k1 k2
      subst k1
      obtain ⟨O, sl, c, o1, o2⟩ := h.cw
      obtain ⟨p, -⟩ := h.pb
      have hS := c.1.SL (show x' < 5 by omega)
      rw [if_pos rfl, if_pos rfl, h.r0, bind_some', c.1.r7, bind_some', c.1.lv (by omega), bind_some', bind_some']
      unfold stA
      rcases (show k' = 0 ∨ k' = 1 ∨ k' = 2 ∨ k' = 3 ∨ k' = 4 ∨ k' = 5 ∨ k' = 6 ∨ k' = 7 by omega) with rfl | rfl | rfl | rfl | rfl | rfl | rfl | rfl
      · rw [if_pos nI_0, c.1.r6, bind_some', c.1.ev.g1, bind_some', c.1.ev.rk (by omega), bind_some']; exact Ans.rd h _
      · rw [if_neg (show ¬ nI 1 = (0 : Int32) by decide), if_pos (show nI 1 = (1 : Int32) from rfl), hS.g0, bind_some', X_size hS.vw, bind_some']; exact Ans.rd h _
      · rw [if_neg (show ¬ nI 2 = (0 : Int32) by decide), if_neg (show ¬ nI 2 = (1 : Int32) by decide), if_pos (show nI 2 = (2 : Int32) from rfl), hS.g3, bind_some']; exact Ans.rd h _
      · rw [if_neg (show ¬ nI 3 = (0 : Int32) by decide), if_neg (show ¬ nI 3 = (1 : Int32) by decide), if_neg (show ¬ nI 3 = (2 : Int32) by decide), if_pos (show nI 3 = (3 : Int32) from rfl), hS.g1, bind_some', X_size hS.hs, bind_some']; exact Ans.rd h _
      · rw [if_neg (show ¬ nI 4 = (0 : Int32) by decide), if_neg (show ¬ nI 4 = (1 : Int32) by decide), if_neg (show ¬ nI 4 = (2 : Int32) by decide), if_neg (show ¬ nI 4 = (3 : Int32) by decide), if_pos (show nI 4 = (4 : Int32) from rfl), h.r3, bind_some']
        exact Ans.p7 h (C_overstatedAt c.1 p i.j o1 i.t0 (by omega))
      · rw [if_neg (show ¬ nI 5 = (0 : Int32) by decide), if_neg (show ¬ nI 5 = (1 : Int32) by decide), if_neg (show ¬ nI 5 = (2 : Int32) by decide), if_neg (show ¬ nI 5 = (3 : Int32) by decide), if_neg (show ¬ nI 5 = (4 : Int32) by decide), if_pos (show nI 5 = (5 : Int32) from rfl), h.r3, bind_some']
        exact Ans.p7 h (C_lostTo c.1 p i.j o1 (by omega) i.le (i.hs x' (by omega)))
      · rw [if_neg (show ¬ nI 6 = (0 : Int32) by decide), if_neg (show ¬ nI 6 = (1 : Int32) by decide), if_neg (show ¬ nI 6 = (2 : Int32) by decide), if_neg (show ¬ nI 6 = (3 : Int32) by decide), if_neg (show ¬ nI 6 = (4 : Int32) by decide), if_neg (show ¬ nI 6 = (5 : Int32) by decide), if_pos (show nI 6 = (6 : Int32) from rfl), h.r3, bind_some']
        obtain ⟨t, e1, p1, F1, -⟩ := C_heldByAll c.1 p i.j o1 (by omega) (i.hs 0 (by omega))
        exact Ans.p7 h ⟨t, e1, p1, F1⟩
      · rw [if_neg (show ¬ nI 7 = (0 : Int32) by decide), if_neg (show ¬ nI 7 = (1 : Int32) by decide), if_neg (show ¬ nI 7 = (2 : Int32) by decide), if_neg (show ¬ nI 7 = (3 : Int32) by decide), if_neg (show ¬ nI 7 = (4 : Int32) by decide), if_neg (show ¬ nI 7 = (5 : Int32) by decide), if_neg (show ¬ nI 7 = (6 : Int32) by decide), h.r3, bind_some']
        exact Ans.p7 h (C_heldByAllInLog c.1 p i.j o1 (by omega) (i.hs 0 (by omega)) (by omega) (i.nd (by omega)))
def wdA (w : Wd) (x y k : Nat) : Nat := if k = 0 then (lEv (ltr (wE w) (wC w 1) (wL w x) y)).length else if k = 1 then ((lEv (ltr (wE w) (wC w 1) (wL w x) y)).filter (sHs (wL w y))).length else fb_ct (fun e => (sHs (wL w x) e && !sHs (wL w y) e) && !(lEv (ltr (wE w) (wC w 1) (wL w x) y)).contains e) (wC w 2)
def aWou (A : Ga) (x y k : Int32) : Ra := if two A.1 x y = true then (if inR k 3 = true then (.inl (nI (wdA A.1 (tN x) (tN y) (tN k))), A) else (.inr eIA, A)) else (.inr eIO, A)
theorem C_would (h : GA σ g A z Q) (i : Iv A.1) (x y k : Int32) : Ans σ g z Q (F_X9_would σ g x y k) (aWou A x y k) := by
  have hn := i.j.n5
  unfold F_X9_would aWou
  rw [chk_eq h.ok, C_needTwo h hn, Bool.and_assoc, show (inR x (wC A.1 0) && (inR y (wC A.1 0) && !decide (x = y))) = two A.1 x y from rfl, tbI]
  cases hx : two A.1 x y with
  | false => exact Ans.thw h eIO
  | true =>
    obtain ⟨⟨x1, x2⟩, ⟨y1, y2⟩, hne⟩ := two_tN hn hx
    generalize tN x = x' at x1 x2 hne
    generalize tN y = y' at y1 y2 hne
    subst x1
    subst y1
    rw [if_pos rfl, if_pos rfl, show (3 : Int32) = nI 3 from rfl, C_needWhat h k (m := 3) (by omega), tbI]
    cases hk : inR k 3 with
    | false => exact Ans.thw h eIA
    | true =>
      obtain ⟨k1, k2⟩ := inR_tN (by omega) hk
      generalize tN k = k' at k1 k2
      subst k1
      obtain ⟨O, sl, c, o1, o2⟩ := h.cw
      obtain ⟨p, -⟩ := h.pb
      rw [if_pos rfl, if_pos rfl, h.r3, bind_some']
      exact Ans.p7 h (C_wouldCarry c.1 p i.j o1 (by omega) (by omega) k2 (i.nd (by omega)) (i.hs x' (by omega)))
def evQ (w : Wd) (e k : Nat) : Nat := if k = 0 then eS (wE w) e else if k = 1 then eT (wE w) e else if k = 2 then b2 (eO (wE w) e) else if k = 3 then eM (wE w) e else if k = 4 then eN (wE w) e else if k = 5 then fb_ct (fun s => sHs (wL w s) e) (wC w 0) else if k = 6 then fb_ct (fun s => (sLg (wL w s)).contains e) (wC w 0) else if k = 7 then hgt (eA (wE w)) e else (e - fb_ct (eA (wE w) e) e + fb_ct (fun k => !eA (wE w) (e + 1 + k) e) (wC w 2 - (e + 1)))
def aEve (A : Ga) (x k : Int32) : Ra := if inR x (wC A.1 2) = true then (if inR k 9 = true then (.inl (nI (evQ A.1 (tN x) (tN k))), A) else (.inr eIA, A)) else (.inr eIO, A)
theorem C_event (h : GA σ g A z Q) (i : Iv A.1) (x k : Int32) : Ans σ g z Q (F_X9_event σ g x k) (aEve A x k) := by
  have hn := i.j.n5
  have hc := i.j.c
  unfold F_X9_event aEve
  rw [chk_eq h.ok, C_needEvent h i.j, tbI]
  cases hx : inR x (wC A.1 2) with
  | false => exact Ans.thw h eIO
  | true =>
    obtain ⟨x1, x2⟩ := inR_tN (by omega) hx
    generalize tN x = x' at x1 x2
    subst x1
    rw [if_pos rfl, if_pos rfl, show (9 : Int32) = nI 9 from rfl, C_needWhat h k (m := 9) (by omega), tbI]
    cases hk : inR k 9 with
    | false => exact Ans.thw h eIA
    | true =>
      obtain ⟨k1, k2⟩ := inR_tN (by omega) hk
      generalize tN k = k' at k1 k2
      subst k1
      obtain ⟨O, sl, c, o1, o2⟩ := h.cw
      have b := i.j.bv
      rw [if_pos rfl, if_pos rfl, h.r0, bind_some', c.1.r6, bind_some']
      unfold evQ
      rcases (show k' = 0 ∨ k' = 1 ∨ k' = 2 ∨ k' = 3 ∨ k' = 4 ∨ k' = 5 ∨ k' = 6 ∨ k' = 7 ∨ k' = 8 by omega) with rfl | rfl | rfl | rfl | rfl | rfl | rfl | rfl | rfl
      · rw [if_pos nI_0, c.1.ev.g2, bind_some', c.1.ev.rS b x2, bind_some']; exact Ans.rd h _
      · rw [if_neg (show ¬ nI 1 = (0 : Int32) by decide), if_pos (show nI 1 = (1 : Int32) from rfl), c.1.ev.g3, bind_some', c.1.ev.rT b x2, bind_some']; exact Ans.rd h _
      · rw [if_neg (show ¬ nI 2 = (0 : Int32) by decide), if_neg (show ¬ nI 2 = (1 : Int32) by decide), if_pos (show nI 2 = (2 : Int32) from rfl), C_isOut c.1.ev b x2, bind_some', ifb0]
        cases eO (wE A.1) x' with
        | false => exact Ans.rd h _
        | true => exact Ans.rd h _
      · rw [if_neg (show ¬ nI 3 = (0 : Int32) by decide), if_neg (show ¬ nI 3 = (1 : Int32) by decide), if_neg (show ¬ nI 3 = (2 : Int32) by decide), if_pos (show nI 3 = (3 : Int32) from rfl), c.1.ev.g4, bind_some', c.1.ev.rM b x2, bind_some']; exact Ans.rd h _
      · rw [if_neg (show ¬ nI 4 = (0 : Int32) by decide), if_neg (show ¬ nI 4 = (1 : Int32) by decide), if_neg (show ¬ nI 4 = (2 : Int32) by decide), if_neg (show ¬ nI 4 = (3 : Int32) by decide), if_pos (show nI 4 = (4 : Int32) from rfl), c.1.ev.g5, bind_some', c.1.ev.rN b x2, bind_some']; exact Ans.rd h _
      · rw [if_neg (show ¬ nI 5 = (0 : Int32) by decide), if_neg (show ¬ nI 5 = (1 : Int32) by decide), if_neg (show ¬ nI 5 = (2 : Int32) by decide), if_neg (show ¬ nI 5 = (3 : Int32) by decide), if_neg (show ¬ nI 5 = (4 : Int32) by decide), if_pos (show nI 5 = (5 : Int32) from rfl), bind_some', C_holders c.1 hn (by omega), bind_some']; exact Ans.rd h _
      · rw [if_neg (show ¬ nI 6 = (0 : Int32) by decide), if_neg (show ¬ nI 6 = (1 : Int32) by decide), if_neg (show ¬ nI 6 = (2 : Int32) by decide), if_neg (show ¬ nI 6 = (3 : Int32) by decide), if_neg (show ¬ nI 6 = (4 : Int32) by decide), if_neg (show ¬ nI 6 = (5 : Int32) by decide), if_pos (show nI 6 = (6 : Int32) from rfl), bind_some', C_logsWith c.1 i.j (by omega), bind_some']; exact Ans.rd h _
      · rw [if_neg (show ¬ nI 7 = (0 : Int32) by decide), if_neg (show ¬ nI 7 = (1 : Int32) by decide), if_neg (show ¬ nI 7 = (2 : Int32) by decide), if_neg (show ¬ nI 7 = (3 : Int32) by decide), if_neg (show ¬ nI 7 = (4 : Int32) by decide), if_neg (show ¬ nI 7 = (5 : Int32) by decide), if_neg (show ¬ nI 7 = (6 : Int32) by decide), if_pos (show nI 7 = (7 : Int32) from rfl), c.1.ev.g7, bind_some', c.1.ev.rH b x2, bind_some']; exact Ans.rd h _
      · rw [if_neg (show ¬ nI 8 = (0 : Int32) by decide), if_neg (show ¬ nI 8 = (1 : Int32) by decide), if_neg (show ¬ nI 8 = (2 : Int32) by decide), if_neg (show ¬ nI 8 = (3 : Int32) by decide), if_neg (show ¬ nI 8 = (4 : Int32) by decide), if_neg (show ¬ nI 8 = (5 : Int32) by decide), if_neg (show ¬ nI 8 = (6 : Int32) by decide), if_neg (show ¬ nI 8 = (7 : Int32) by decide), C_concurrentWith c.1.ev b x2 (i.eAl x' x2), bind_some']; exact Ans.rd h _
end PUL
