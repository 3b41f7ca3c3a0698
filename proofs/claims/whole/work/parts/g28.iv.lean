/-! ===== PURE 66: what holds of every world is kept ===== -/
section IVK
variable {n c me f o : Nat} {v v' : Ev} {s : St} {l : Lt} {w : Wd}
theorem Is_ev (h : Is n c me v s) (hE : ∀ e, e < c → eS v' e = eS v e ∧ eT v' e = eT v e) : Is n (c + 1) me v' s := by
  obtain ⟨h1, h2, h3, h4, h5, h6⟩ := h
  refine ⟨fun i hi => ⟨Nat.le_succ_of_le (h1 i hi).1, (h1 i hi).2⟩, fun e he => Nat.lt_succ_of_lt (h2 e he), fun e he => Nat.lt_succ_of_lt (h3 e he), h4, fun e he => ?_, h6⟩
  obtain ⟨a, b⟩ := h5 e he
  refine ⟨Nat.lt_succ_of_lt a, ?_⟩
  unfold knw at b ⊢
  rw [(hE e a).1, (hE e a).2]
  exact b
theorem Il_ev (h : Il n c f v l) (hE : ∀ e, e < c → eS v' e = eS v e ∧ eT v' e = eT v e) : Il n (c + 1) f v' l := by
  obtain ⟨h1, h2, h3, h4⟩ := h
  refine ⟨h1, fun i hi => ⟨Nat.le_succ_of_le (h2 i hi).1, (h2 i hi).2⟩, h3, fun e he => ?_⟩
  obtain ⟨a, b⟩ := h4 e he
  refine ⟨Nat.lt_succ_of_lt a, ?_⟩
  rw [(hE e a).1, (hE e a).2]
  exact b
theorem Iv.ie (i : Iv w) : Ie (wC w 0) (wC w 2) (wE w) := fun e he => by
  obtain ⟨b1, b2, b3, -⟩ := i.2.2.1 e he
  have := i.n5
  have := i.k (s := eS (wE w) e) (by omega)
  exact ⟨b1, b2, by omega⟩
theorem Iv_stp (i : Iv w) : Iv (stp w) := by
  obtain ⟨a1, a2, a3, a4, a5, a6, a7⟩ := i
  refine ⟨a1, a2, fun e he => ?_, a4, fun s hs => ?_, a6, a7⟩
  · obtain ⟨b1, b2, b3, b4, b5, b6, b7⟩ := a3 e he
    exact ⟨b1, b2, b3, b4, b5, Nat.le_succ_of_le b6, b7⟩
  · obtain ⟨c1, c2, c3⟩ := a5 s hs
    exact ⟨c1, c2, fun e => ⟨fun h => ⟨((c3 e).1 h).1, Nat.le_succ_of_le ((c3 e).1 h).2⟩, fun h => ⟨((c3 e).2 h).1, Nat.le_succ_of_le ((c3 e).2 h).2⟩⟩⟩
theorem Iv_num (i : Iv w) {C : Nat → Nat} (h : ∀ k, k ≠ 3 → k ≠ 4 → k ≠ 5 → C k = wC w k) : Iv (wC' w C) := by
  have e0 : wC (wC' w C) 0 = wC w 0 := h 0 (by decide) (by decide) (by decide)
  have e1 : wC (wC' w C) 1 = wC w 1 := h 1 (by decide) (by decide) (by decide)
  have e2 : wC (wC' w C) 2 = wC w 2 := h 2 (by decide) (by decide) (by decide)
  have e6 : wC (wC' w C) 6 = wC w 6 := h 6 (by decide) (by decide) (by decide)
  unfold Iv
  rw [e0, e1, e2, e6]
  exact i
theorem Iv_mod (i : Iv w) {m : Nat} (hm : m < 3) : Iv (wC' w (up (wC w) 1 m)) := by
  obtain ⟨⟨x1, x2, x3, x4⟩, a2, a3, a4, a5, a6, a7⟩ := i
  exact ⟨⟨x1, x2, hm, x4⟩, a2, a3, a4, a5, a6, a7⟩
theorem Iv_row (i : Iv w) {r : List Lt} (hf : f < 5) (ho : o < 5) (hr : r.length ≤ 12) (hl : ∀ l ∈ r, Il (wC w 0) (wC w 2) f (wE w) l) (hz : (f = o ∨ wC w 0 ≤ f ∨ wC w 0 ≤ o) → r = []) : Iv (wT' w (up (wT w) (5 * f + o) r)) := by
  obtain ⟨a1, a2, a3, a4, a5, a6, a7⟩ := i
  refine ⟨a1, a2, a3, a4, a5, fun f' hf' o' ho' => ?_, a7⟩
  show (up (wT w) (5 * f + o) r (5 * f' + o')).length ≤ 12 ∧ (∀ l ∈ up (wT w) (5 * f + o) r (5 * f' + o'), Il (wC w 0) (wC w 2) f' (wE w) l) ∧ ((f' = o' ∨ wC w 0 ≤ f' ∨ wC w 0 ≤ o') → up (wT w) (5 * f + o) r (5 * f' + o') = [])
  by_cases h : 5 * f' + o' = 5 * f + o
  · have h1 : f' = f := by omega
    have h2 : o' = o := by omega
    subst h1
    subst h2
    rw [up_s]
    exact ⟨hr, hl, hz⟩
  · rw [up_n _ _ h]
    exact a6 f' hf' o' ho'
theorem Iv_live (i : Iv w) {x : Nat} {s : St} (hs : Is (wC w 0) (wC w 2) x (wE w) s) (hw : ∀ e, sHs s e = true → eP (wE w) e ≤ sWh s e ∧ sWh s e ≤ wC w 6) : Iv (wL' w (up (wL w) x s)) := by
  obtain ⟨a1, a2, a3, a4, a5, a6, a7⟩ := i
  refine ⟨a1, a2, a3, a4, fun y hy => ?_, a6, a7⟩
  show Is (wC w 0) (wC w 2) y (wE w) (up (wL w) x s y) ∧ Is (wC w 0) (wC w 2) y (wE w) (wS w y) ∧ ∀ e, (sHs (up (wL w) x s y) e = true → eP (wE w) e ≤ sWh (up (wL w) x s y) e ∧ sWh (up (wL w) x s y) e ≤ wC w 6) ∧ (sHs (wS w y) e = true → eP (wE w) e ≤ sWh (wS w y) e ∧ sWh (wS w y) e ≤ wC w 6)
  by_cases h : y = x
  · subst h
    rw [up_s]
    exact ⟨hs, (a5 y hy).2.1, fun e => ⟨hw e, ((a5 y hy).2.2 e).2⟩⟩
  · rw [up_n _ _ h]
    exact a5 y hy
theorem Iv_sav (i : Iv w) {x : Nat} (hx : x < 5) : Iv (sav w x) := by
  obtain ⟨a1, a2, a3, a4, a5, a6, a7⟩ := i
  refine ⟨a1, a2, a3, a4, fun y hy => ?_, a6, a7⟩
  show Is (wC w 0) (wC w 2) y (wE w) (wL w y) ∧ Is (wC w 0) (wC w 2) y (wE w) (up (wS w) x (wL w x) y) ∧ ∀ e, (sHs (wL w y) e = true → eP (wE w) e ≤ sWh (wL w y) e ∧ sWh (wL w y) e ≤ wC w 6) ∧ (sHs (up (wS w) x (wL w x) y) e = true → eP (wE w) e ≤ sWh (up (wS w) x (wL w x) y) e ∧ sWh (up (wS w) x (wL w x) y) e ≤ wC w 6)
  by_cases h : y = x
  · subst h
    rw [up_s]
    exact ⟨(a5 y hy).1, (a5 y hy).1, fun e => ⟨((a5 y hy).2.2 e).1, ((a5 y hy).2.2 e).1⟩⟩
  · rw [up_n _ _ h]
    exact a5 y hy
theorem Iv_fal (i : Iv w) {x : Nat} (hx : x < 5) : Iv (fal w x) := Iv_live i (i.S hx) (fun e => ((i.2.2.2.2.1 x hx).2.2 e).2)
theorem Iv_lnk (i : Iv w) {a b : Nat} (ha : a < wC w 0) (hb : b < wC w 0) (hne : a ≠ b) : Iv (lnk w a b) := by
  have hn := i.n5
  obtain ⟨a1, a2, a3, a4, a5, a6, a7⟩ := i
  refine ⟨a1, a2, a3, a4, a5, a6, fun c hc => ?_⟩
  have hc' : up (wX w) (lk a b) (!wX w (lk a b)) c = true := hc
  show c < 25 ∧ c / 5 < c % 5 ∧ c % 5 < wC w 0
  by_cases h : c = lk a b
  · unfold lk at h
    split at h <;> omega
  · rw [up_n _ _ h] at hc'
    exact a7 c hc'
theorem Iv_beg {n m : Nat} (h2 : 2 ≤ n) (h5 : n ≤ 5) (hm : m < 3) : Iv (wBeg n m) := by
  have hs : ∀ x, Is n 0 x eBeg sBeg := fun x => ⟨fun i _ => ⟨Nat.le_refl 0, fun _ => rfl⟩, fun e he => (by cases he), fun e he => (by cases he), List.nodup_nil, fun e he => (by cases he), fun e he => (by cases he)⟩
  refine ⟨⟨h2, h5, hm, Nat.zero_le _⟩, fun s _ => Nat.le_refl 0, fun e he => absurd he (Nat.not_lt_zero e), fun e f _ hf => absurd hf (Nat.not_lt_zero f), fun s _ => ⟨hs s, hs s, fun e => ⟨fun h => (by cases h), fun h => (by cases h)⟩⟩, fun f _ o _ => ⟨Nat.zero_le _, fun l hl => (by cases hl), fun _ => rfl⟩, fun c h => (by cases h)⟩
theorem Iv_wri (i : Iv w) (hf : f < wC w 0) (ho : o < wC w 0) (hne : f ≠ o) (h12 : (wT w (5 * f + o)).length < 12) : Iv (wri w f o) := by
  have hn := i.n5
  have h1 : Iv (wT' w (up (wT w) (5 * f + o) (wT w (5 * f + o) ++ [ltr (wE w) (wC w 1) (wL w f) o]))) := by
    refine Iv_row i (by omega) (by omega) (by rw [List.length_append]; exact h12) (fun l hl => ?_) (fun h => by omega)
    rcases List.mem_append.mp hl with h | h
    · exact (i.2.2.2.2.2.1 f (by omega) o (by omega)).2.1 l h
    · rw [List.mem_singleton.mp h]
      exact Il_ltr (i.L (by omega)) i.m3
  exact Iv_num h1 (fun k h3 h4 h5 => by rw [up_n _ _ h4, up_n _ _ h3]; rfl)
theorem Iv_los (i : Iv w) (hf : f < wC w 0) (ho : o < wC w 0) (hne : f ≠ o) (k : Nat) : Iv (los w f o k) := by
  have hn := i.n5
  have hb := i.2.2.2.2.2.1 f (by omega) o (by omega)
  refine Iv_row i (by omega) (by omega) ?_ (fun l hl => hb.2.1 l (List.mem_of_mem_eraseIdx hl)) (fun h => by omega)
  exact Nat.le_trans (List.length_eraseIdx_le _ _) hb.1
theorem Iv_twi (i : Iv w) {k : Nat} (hf : f < wC w 0) (ho : o < wC w 0) (hne : f ≠ o) (hk : k < (wT w (5 * f + o)).length) (h12 : (wT w (5 * f + o)).length < 12) : Iv (twi w f o k) := by
  have hn := i.n5
  have hb := i.2.2.2.2.2.1 f (by omega) o (by omega)
  refine Iv_row i (by omega) (by omega) (by rw [List.length_append]; exact h12) (fun l hl => ?_) (fun h => by omega)
  rcases List.mem_append.mp hl with h | h
  · exact hb.2.1 l h
  · rw [List.mem_singleton.mp h]
    exact i.lt (by omega) (by omega) (wlt_get hk)
theorem Iv_com (i : Iv w) {k : Nat} (hf : f < wC w 0) (ho : o < wC w 0) (hne : f ≠ o) (hk : k < (wT w (5 * f + o)).length) : Iv (com w f o k) := by
  have hn := i.n5
  have hl := i.lt (show f < 5 by omega) (show o < 5 by omega) (wlt_get hk)
  have h1 := Iv_los i hf ho hne k
  have hR : Is (wC w 0) (wC w 2) o (wE w) (rcv (wE w) (wC w 0) (wC w 6) (wlt w f o k) f o (wL w o)) := Is_rcv (i.L (by omega)) hl i.ie hf ho hn
  have h2 : Iv (wL' (los w f o k) (up (wL w) o (rcv (wE w) (wC w 0) (wC w 6) (wlt w f o k) f o (wL w o)))) := by
    refine Iv_live h1 hR (fun e he => ?_)
    rcases (gn_fold (p := wC w 6) (y := f) (frs (wE w) (wlt w f o k) (wL w o) o) (sHw (wL w o))).2 e he with ⟨b1, b2, b3⟩ | ⟨b1, b2, b3⟩
    · have h6 := i.wh (show o < 5 by omega) b1
      exact ⟨Nat.le_trans h6.1 (Nat.le_of_eq b3.symm), Nat.le_trans (Nat.le_of_eq b3) h6.2⟩
    · have he2 : e < wC w 2 := (hl.2.2.2 e (List.mem_filter.mp b3).1).1
      exact ⟨Nat.le_trans (i.ePl e he2) (Nat.le_of_eq b2.symm), Nat.le_of_eq b2⟩
  exact Iv_num h2 (fun k h3 h4 h5 => by rw [up_n _ _ h5]; rfl)
theorem Iv_joi (i : Iv w) {x y : Nat} (hx : x < wC w 0) (hy : y < wC w 0) : Iv (joi w x y) := by
  have hn := i.n5
  have hX := i.L (show x < 5 by omega)
  obtain ⟨y1, y2, y3, y4, y5, y6⟩ := i.L (show y < 5 by omega)
  have hfold : (List.range (wC w 2)).foldl (fun h e => if sHs (wL w y) e then gn h e (wC w 6) y else h) (sHw (wL w x)) = ((List.range (wC w 2)).filter (sHs (wL w y))).foldl (fun h e => gn h e (wC w 6) y) (sHw (wL w x)) := by
    rw [List.foldl_filter]
  have hg := gn_fold (p := wC w 6) (y := y) ((List.range (wC w 2)).filter (sHs (wL w y))) (sHw (wL w x))
  have hh := jfold_has (wL w y) (wC w 6) y (wC w 2) (sHw (wL w x))
  rw [← hfold] at hg
  refine Iv_live i ?_ (fun e he => ?_)
  · refine ⟨fun k hk => ?_, y2, y3, y4, fun e he => ⟨(y5 e he).1, ?_⟩, fun e he => ?_⟩
    · have hK := i.k (show x < 5 by omega)
      show up (fun i => if i / 5 = x ∧ i % 5 < wC w 0 then sTb (wL w y) (5 * y + i % 5) else sTb (wL w y) i) (5 * x + x) (wK w x) k ≤ wC w 2 ∧ (_ → up (fun i => if i / 5 = x ∧ i % 5 < wC w 0 then sTb (wL w y) (5 * y + i % 5) else sTb (wL w y) i) (5 * x + x) (wK w x) k = 0)
      by_cases h : k = 5 * x + x
      · subst h
        rw [up_s]
        exact ⟨hK, fun hz => by omega⟩
      · rw [up_n _ _ h]
        by_cases h2 : k / 5 = x ∧ k % 5 < wC w 0
        · rw [if_pos h2]
          exact ⟨(y1 (5 * y + k % 5) (by omega)).1, fun hz => by omega⟩
        · rw [if_neg h2]
          exact ⟨(y1 k hk).1, fun hz => (y1 k hk).2 hz⟩
    · have h5 := y5 e he
      obtain ⟨b1, b2, b3, -⟩ := i.2.2.1 e h5.1
      refine decide_eq_true ?_
      show eT (wE w) e ≤ up (fun i => if i / 5 = x ∧ i % 5 < wC w 0 then sTb (wL w y) (5 * y + i % 5) else sTb (wL w y) i) (5 * x + x) (wK w x) (5 * x + eS (wE w) e)
      by_cases h : eS (wE w) e = x
      · rw [h] at b3 ⊢
        rw [up_s]
        exact b3
      · rw [up_n _ _ (by omega), if_pos (by omega), show (5 * x + eS (wE w) e) % 5 = eS (wE w) e by omega]
        exact of_decide_eq_true h5.2
    · rcases hg.2 e (hh e (y2 e he) he) with ⟨b1, b2, b3⟩ | ⟨b1, b2, b3⟩
      · exact Nat.lt_of_le_of_lt (Nat.le_of_eq b2) (hX.2.2.2.2.2 e b1)
      · exact Nat.lt_of_le_of_lt (Nat.le_of_eq b1) hy
  · have he' : sHs (wL w y) e = true := he
    rcases hg.2 e (hh e (y2 e he') he') with ⟨b1, b2, b3⟩ | ⟨b1, b2, b3⟩
    · have h6 := i.wh (show x < 5 by omega) b1
      exact ⟨Nat.le_trans h6.1 (Nat.le_of_eq b3.symm), Nat.le_trans (Nat.le_of_eq b3) h6.2⟩
    · exact ⟨Nat.le_trans (i.ePl e (y2 e he')) (Nat.le_of_eq b2.symm), Nat.le_of_eq b2⟩
theorem Iv_hap (i : Iv w) {x m nm : Nat} (hc : wC w 2 < 120) (hx : x < wC w 0) (hm : m ≤ wC w 2) (hnm : nm < 100) : Iv (hap w x m nm) := by
  have hn := i.n5
  have i' := i
  obtain ⟨⟨q1, q2, q3, q4⟩, a2, a3, a4, a5, a6, a7⟩ := i
  have hE : ∀ e, e < wC w 2 → eS (evn w x m nm) e = eS (wE w) e ∧ eT (evn w x m nm) e = eT (wE w) e := fun e he => ⟨up_n _ _ (by omega), up_n _ _ (by omega)⟩
  have hP : ∀ e, e < wC w 2 → eP (evn w x m nm) e = eP (wE w) e := fun e he => up_n _ _ (by omega)
  have nS : eS (evn w x m nm) (wC w 2) = x := up_s _ _ _
  have nT : eT (evn w x m nm) (wC w 2) = wK w x + 1 := up_s _ _ _
  have nP : eP (evn w x m nm) (wC w 2) = wC w 6 := up_s _ _ _
  have hK : ∀ s, wK w s ≤ up (wK w) x (wK w x + 1) s := fun s => by
    by_cases h : s = x
    · subst h; rw [up_s]; omega
    · rw [up_n _ _ h]; exact Nat.le_refl _
  refine ⟨⟨q1, q2, q3, Nat.succ_le_of_lt hc⟩, fun s hs => ?_, fun e he => ?_, fun e f he hf hS => ?_, fun s hs => ?_, fun f hf o ho => ?_, a7⟩
  · show up (wK w) x (wK w x + 1) s ≤ wC w 2 + 1
    have := a2 s hs
    by_cases h : s = x
    · subst h; rw [up_s]; omega
    · rw [up_n _ _ h]; omega
  · have he' : e < wC w 2 + 1 := he
    show eS (evn w x m nm) e < wC w 0 ∧ 0 < eT (evn w x m nm) e ∧ eT (evn w x m nm) e ≤ up (wK w) x (wK w x + 1) (eS (evn w x m nm) e) ∧ eM (evn w x m nm) e ≤ e ∧ eN (evn w x m nm) e < 100 ∧ eP (evn w x m nm) e ≤ wC w 6 ∧ ∀ y, eA (evn w x m nm) e y = true → y < e
    by_cases h : e = wC w 2
    · subst h
      have nM : eM (evn w x m nm) (wC w 2) = m := up_s _ _ _
      have nN : eN (evn w x m nm) (wC w 2) = nm := up_s _ _ _
      have nA : eA (evn w x m nm) (wC w 2) = sHs (wL w x) := up_s _ _ _
      rw [nS, nT, nP, nM, nN, nA, up_s]
      exact ⟨hx, by omega, Nat.le_refl _, hm, hnm, Nat.le_refl _, i'.hs x (by omega)⟩
    · obtain ⟨b1, b2, b3, b4, b5, b6, b7⟩ := a3 e (by omega)
      have nM : eM (evn w x m nm) e = eM (wE w) e := up_n _ _ h
      have nN : eN (evn w x m nm) e = eN (wE w) e := up_n _ _ h
      have nA : eA (evn w x m nm) e = eA (wE w) e := up_n _ _ h
      rw [(hE e (by omega)).1, (hE e (by omega)).2, hP e (by omega), nM, nN, nA]
      exact ⟨b1, b2, Nat.le_trans b3 (hK _), b4, b5, b6, b7⟩
  · have hf' : f < wC w 2 + 1 := hf
    have hS' : eS (evn w x m nm) e = eS (evn w x m nm) f := hS
    show eT (evn w x m nm) e < eT (evn w x m nm) f
    rw [(hE e (by omega)).2]
    rw [(hE e (by omega)).1] at hS'
    by_cases h : f = wC w 2
    · subst h
      rw [nT]
      rw [nS] at hS'
      have := (a3 e (by omega)).2.2.1
      rw [hS'] at this
      omega
    · rw [(hE f (by omega)).2]
      rw [(hE f (by omega)).1] at hS'
      exact a4 e f he (by omega) hS'
  · obtain ⟨c1, c2, c3⟩ := a5 s hs
    have d2 := Is_ev (v' := evn w x m nm) c2 hE
    have d3 : ∀ e, sHs (wS w s) e = true → eP (evn w x m nm) e ≤ sWh (wS w s) e ∧ sWh (wS w s) e ≤ wC w 6 := fun e he => by
      rw [hP e (c2.2.1 e he)]
      exact (c3 e).2 he
    show Is (wC w 0) (wC w 2 + 1) s (evn w x m nm) (wL (hap w x m nm) s) ∧ Is (wC w 0) (wC w 2 + 1) s (evn w x m nm) (wS w s) ∧ ∀ e, (sHs (wL (hap w x m nm) s) e = true → eP (evn w x m nm) e ≤ sWh (wL (hap w x m nm) s) e ∧ sWh (wL (hap w x m nm) s) e ≤ wC w 6) ∧ (sHs (wS w s) e = true → eP (evn w x m nm) e ≤ sWh (wS w s) e ∧ sWh (wS w s) e ≤ wC w 6)
    by_cases h : s = x
    · subst h
      have hgn : ∀ e, (gn (sHw (wL w s)) (wC w 2) (wC w 6) s).1 e = true → (sHs (wL w s) e = true ∧ (gn (sHw (wL w s)) (wC w 2) (wC w 6) s).2.2 e = sBy (wL w s) e ∧ (gn (sHw (wL w s)) (wC w 2) (wC w 6) s).2.1 e = sWh (wL w s) e) ∨ (e = wC w 2 ∧ (gn (sHw (wL w s)) (wC w 2) (wC w 6) s).2.2 e = s ∧ (gn (sHw (wL w s)) (wC w 2) (wC w 6) s).2.1 e = wC w 6) := fun e he => by
        rcases (gn_fold (p := wC w 6) (y := s) [wC w 2] (sHw (wL w s))).2 e he with ⟨b1, b2, b3⟩ | ⟨b1, b2, b3⟩
        · exact Or.inl ⟨b1, b2, b3⟩
        · exact Or.inr ⟨List.mem_singleton.mp b3, b1, b2⟩
      have hL : wL (hap w s m nm) s = (up (sTb (wL w s)) (5 * s + s) (wK w s + 1), (gn (sHw (wL w s)) (wC w 2) (wC w 6) s).1, (if m = wC w 2 then up (sVw (wL w s)) (wC w 2) true else up (sVw (wL w s)) m false), sLg (wL w s) ++ [wC w 2], (gn (sHw (wL w s)) (wC w 2) (wC w 6) s).2.1, (gn (sHw (wL w s)) (wC w 2) (wC w 6) s).2.2) := up_s _ _ _
      rw [hL]
      obtain ⟨x1, x2, x3, x4, x5, x6⟩ := c1
      refine ⟨⟨fun k hk => ?_, fun e he => ?_, fun e he => ?_, ?_, fun e he => ?_, fun e he => ?_⟩, d2, fun e => ⟨fun he => ?_, d3 e⟩⟩
      · show up (sTb (wL w s)) (5 * s + s) (wK w s + 1) k ≤ wC w 2 + 1 ∧ (_ → up (sTb (wL w s)) (5 * s + s) (wK w s + 1) k = 0)
        have := a2 s hs
        by_cases hk2 : k = 5 * s + s
        · subst hk2
          rw [up_s]
          exact ⟨by omega, fun hz => by omega⟩
        · rw [up_n _ _ hk2]
          exact ⟨Nat.le_succ_of_le (x1 k hk).1, (x1 k hk).2⟩
      · rcases hgn e he with ⟨b1, -⟩ | ⟨b1, -⟩
        · exact Nat.lt_succ_of_lt (x2 e b1)
        · omega
      · have he' : (if m = wC w 2 then up (sVw (wL w s)) (wC w 2) true else up (sVw (wL w s)) m false) e = true := he
        by_cases h1 : m = wC w 2
        · rw [if_pos h1] at he'
          by_cases h2 : e = wC w 2
          · omega
          · rw [up_n _ _ h2] at he'
            exact Nat.lt_succ_of_lt (x3 e he')
        · rw [if_neg h1] at he'
          by_cases h2 : e = m
          · omega
          · rw [up_n _ _ h2] at he'
            exact Nat.lt_succ_of_lt (x3 e he')
      · refine nodup_app x4 (List.nodup_cons.mpr ⟨List.not_mem_nil, List.nodup_nil⟩) (fun e h1 h2 => ?_)
        have := (x5 e h1).1
        rw [List.mem_singleton] at h2
        omega
      · rcases List.mem_append.mp he with h1 | h1
        · obtain ⟨g1, g2⟩ := x5 e h1
          refine ⟨Nat.lt_succ_of_lt g1, decide_eq_true ?_⟩
          rw [(hE e g1).1, (hE e g1).2]
          show eT (wE w) e ≤ up (sTb (wL w s)) (5 * s + s) (wK w s + 1) (5 * s + eS (wE w) e)
          have b3 := (a3 e g1).2.2.1
          by_cases h2 : eS (wE w) e = s
          · rw [h2] at b3 ⊢
            rw [up_s]
            omega
          · rw [up_n _ _ (by omega)]
            exact of_decide_eq_true g2
        · rw [List.mem_singleton.mp h1]
          refine ⟨Nat.lt_succ_self _, decide_eq_true ?_⟩
          rw [nS, nT]
          show wK w s + 1 ≤ up (sTb (wL w s)) (5 * s + s) (wK w s + 1) (5 * s + s)
          rw [up_s]
          exact Nat.le_refl _
      · rcases hgn e he with ⟨b1, b2, -⟩ | ⟨b1, b2, -⟩
        · exact Nat.lt_of_le_of_lt (Nat.le_of_eq b2) (x6 e b1)
        · exact Nat.lt_of_le_of_lt (Nat.le_of_eq b2) hx
      · rcases hgn e he with ⟨b1, -, b3⟩ | ⟨b1, -, b3⟩
        · have h7 := (c3 e).1 b1
          rw [hP e (x2 e b1)]
          exact ⟨Nat.le_trans h7.1 (Nat.le_of_eq b3.symm), Nat.le_trans (Nat.le_of_eq b3) h7.2⟩
        · rw [b1, nP]
          rw [b1] at b3
          exact ⟨Nat.le_of_eq b3.symm, Nat.le_of_eq b3⟩
    · have hL : wL (hap w x m nm) s = wL w s := up_n _ _ h
      rw [hL]
      refine ⟨Is_ev c1 hE, d2, fun e => ⟨fun he => ?_, d3 e⟩⟩
      rw [hP e (c1.2.1 e he)]
      exact (c3 e).1 he
  · obtain ⟨c1, c2, c3⟩ := a6 f hf o ho
    exact ⟨c1, fun l hl => Il_ev (c2 l hl) hE, c3⟩
end IVK
