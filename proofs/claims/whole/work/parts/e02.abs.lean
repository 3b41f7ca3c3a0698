/-! ===== PURE 4: the world as both sides see it: lists and functions, no memory ===== -/
/-- a function changed at one place -/
def up {α : Type} (f : Nat → α) (k : Nat) (v : α) : Nat → α := fun j => if j = k then v else f j
theorem up_s {α : Type} (f : Nat → α) (k : Nat) (v : α) : up f k v k = v := if_pos rfl
theorem up_n {α : Type} (f : Nat → α) {k j : Nat} (v : α) (h : j ≠ k) : up f k v j = f j := if_neg h
/-- a site: table, has, view, log, when, by -/
abbrev St : Type := (Nat → Nat) × (Nat → Bool) × (Nat → Bool) × List Nat × (Nat → Nat) × (Nat → Nat)
def sTb (s : St) : Nat → Nat := s.1
def sHs (s : St) : Nat → Bool := s.2.1
def sVw (s : St) : Nat → Bool := s.2.2.1
def sLg (s : St) : List Nat := s.2.2.2.1
def sWh (s : St) : Nat → Nat := s.2.2.2.2.1
def sBy (s : St) : Nat → Nat := s.2.2.2.2.2
/-- events: site, time, mark, name, step, what is ahead of each -/
abbrev Ev : Type := (Nat → Nat) × (Nat → Nat) × (Nat → Nat) × (Nat → Nat) × (Nat → Nat) × (Nat → Nat → Bool)
def eS (v : Ev) : Nat → Nat := v.1
def eT (v : Ev) : Nat → Nat := v.2.1
def eM (v : Ev) : Nat → Nat := v.2.2.1
def eN (v : Ev) : Nat → Nat := v.2.2.2.1
def eP (v : Ev) : Nat → Nat := v.2.2.2.2.1
def eA (v : Ev) : Nat → Nat → Bool := v.2.2.2.2.2
def eO (v : Ev) (e : Nat) : Bool := !(eM v e == e)
/-- a letter: mode, events, table -/
abbrev Lt : Type := Nat × List Nat × (Nat → Nat)
def lMd (l : Lt) : Nat := l.1
def lEv (l : Lt) : List Nat := l.2.1
def lTb (l : Lt) : Nat → Nat := l.2.2
/-- a world: numbers (0 sites, 1 mode, 2 events, 3 written, 4 carried, 5 not new, 6 steps), cuts by links, clocks, events, live and saved sites, letters by couples -/
abbrev Wd : Type := (Nat → Nat) × (Nat → Bool) × (Nat → Nat) × Ev × (Nat → St) × (Nat → St) × (Nat → List Lt)
def wC (w : Wd) : Nat → Nat := w.1
def wX (w : Wd) : Nat → Bool := w.2.1
def wK (w : Wd) : Nat → Nat := w.2.2.1
def wE (w : Wd) : Ev := w.2.2.2.1
def wL (w : Wd) : Nat → St := w.2.2.2.2.1
def wS (w : Wd) : Nat → St := w.2.2.2.2.2.1
def wT (w : Wd) : Nat → List Lt := w.2.2.2.2.2.2
def lk (a b : Nat) : Nat := if a < b then 5 * a + b else 5 * b + a
def wcut (w : Wd) (a b : Nat) : Bool := wX w (lk a b)
/-- all, some of the first n -/
def al (p : Nat → Bool) (n : Nat) : Bool := (List.range n).all p
def ex (p : Nat → Bool) (n : Nat) : Bool := (List.range n).any p
theorem al_iff {p : Nat → Bool} {n : Nat} : al p n = true ↔ ∀ i, i < n → p i = true := by simp [al]
theorem ex_iff {p : Nat → Bool} {n : Nat} : ex p n = true ↔ ∃ i, i < n ∧ p i = true := by simp [ex]
theorem al_false {p : Nat → Bool} {n : Nat} : al p n = false ↔ ∃ i, i < n ∧ p i = false := by simp [al]
theorem ex_false {p : Nat → Bool} {n : Nat} : ex p n = false ↔ ∀ i, i < n → p i = false := by simp [ex]
/-- by a site's table: whether an event is known to o -/
def knw (v : Ev) (s : St) (o e : Nat) : Bool := decide (eT v e ≤ sTb s (5 * o + eS v e))
def knA (v : Ev) (n : Nat) (s : St) (e : Nat) : Bool := al (fun o => knw v s o e) n
/-- what a site writes to o -/
def ltr (v : Ev) (m : Nat) (s : St) (o : Nat) : Lt := (m, (sLg s).filter (fun e => !knw v s o e), sTb s)
def rRow (t : Nat → Nat) (row : Nat) (u : Nat → Nat) (y : Nat) : Nat → Nat := fun i => if i / 5 = row then max (t i) (u (5 * y + i % 5)) else t i
def rOne (t : Nat → Nat) (i x : Nat) : Nat → Nat := up t i (max (t i) x)
def lrn (v : Ev) (l : Lt) (f o : Nat) (t : Nat → Nat) : Nat → Nat :=
  if lMd l = 2 then (lEv l).foldl (fun t e => rOne (rOne t (5 * o + eS v e) (eT v e)) (5 * f + eS v e) (eT v e)) t
  else if lMd l = 1 then rRow (rRow t o (lTb l) f) f (lTb l) f
  else fun i => max (rRow t o (lTb l) f i) (lTb l i)
/-- has, when, by: an event comes -/
abbrev Hw : Type := (Nat → Bool) × (Nat → Nat) × (Nat → Nat)
def gn (h : Hw) (e p y : Nat) : Hw := if h.1 e then h else (up h.1 e true, up h.2.1 e p, up h.2.2 e y)
def sHw (s : St) : Hw := (sHs s, sWh s, sBy s)
def vIns (v : Ev) (l : List Nat) (b : Nat → Bool) : Nat → Bool := l.foldl (fun b e => if eO v e then b else up b e true) b
def vOuts (v : Ev) (l : List Nat) (b : Nat → Bool) : Nat → Bool := l.foldl (fun b e => if eO v e then up b (eM v e) false else b) b
def frs (v : Ev) (l : Lt) (s : St) (o : Nat) : List Nat := (lEv l).filter (fun e => !knw v s o e)
/-- a letter comes from f to o -/
def rcv (v : Ev) (n p : Nat) (l : Lt) (f o : Nat) (s : St) : St :=
  let q := frs v l s o
  let h := q.foldl (fun h e => gn h e p f) (sHw s)
  let t := lrn v l f o (sTb s)
  (t, h.1, vOuts v q (vIns v q (sVw s)), (sLg s ++ q).filter (fun e => !al (fun r => decide (eT v e ≤ t (5 * r + eS v e))) n), h.2.1, h.2.2)
/-- one step more -/
def wC' (w : Wd) (c : Nat → Nat) : Wd := (c, w.2)
def wL' (w : Wd) (L : Nat → St) : Wd := (w.1, w.2.1, w.2.2.1, w.2.2.2.1, L, w.2.2.2.2.2)
def wS' (w : Wd) (L : Nat → St) : Wd := (w.1, w.2.1, w.2.2.1, w.2.2.2.1, w.2.2.2.2.1, L, w.2.2.2.2.2.2)
def wT' (w : Wd) (L : Nat → List Lt) : Wd := (w.1, w.2.1, w.2.2.1, w.2.2.2.1, w.2.2.2.2.1, w.2.2.2.2.2.1, L)
def wX' (w : Wd) (x : Nat → Bool) : Wd := (w.1, x, w.2.2)
def stp (w : Wd) : Wd := wC' w (up (wC w) 6 (wC w 6 + 1))
/-- an event comes at s: its mark, its name (the step was counted before) -/
def evn (w : Wd) (s m nm : Nat) : Ev :=
  let e := wC w 2
  (up (eS (wE w)) e s, up (eT (wE w)) e (wK w s + 1), up (eM (wE w)) e m, up (eN (wE w)) e nm, up (eP (wE w)) e (wC w 6), up (eA (wE w)) e (sHs (wL w s)))
def hap (w : Wd) (s m nm : Nat) : Wd :=
  let e := wC w 2
  let z := wL w s
  let h := gn (sHw z) e (wC w 6) s
  (up (wC w) 2 (e + 1), wX w, up (wK w) s (wK w s + 1), evn w s m nm,
    up (wL w) s (up (sTb z) (5 * s + s) (wK w s + 1), h.1, (if m = e then up (sVw z) e true else up (sVw z) m false), sLg z ++ [e], h.2.1, h.2.2), wS w, wT w)
/-- a letter is laid behind those that wait -/
def wri (w : Wd) (f o : Nat) : Wd :=
  let l := ltr (wE w) (wC w 1) (wL w f) o
  wC' (wT' w (up (wT w) (5 * f + o) (wT w (5 * f + o) ++ [l]))) (up (up (wC w) 3 (wC w 3 + 1)) 4 (wC w 4 + (lEv l).length))
def los (w : Wd) (f o k : Nat) : Wd := wT' w (up (wT w) (5 * f + o) ((wT w (5 * f + o)).eraseIdx k))
def nol : Lt := (0, [], fun _ => 0)
def wlt (w : Wd) (f o k : Nat) : Lt := (wT w (5 * f + o)).getD k nol
def frN (w : Wd) (f o k : Nat) : Nat := (frs (wE w) (wlt w f o k) (wL w o) o).length
def com (w : Wd) (f o k : Nat) : Wd :=
  let l := wlt w f o k
  let w1 := los w f o k
  wC' (wL' w1 (up (wL w) o (rcv (wE w) (wC w 0) (wC w 6) l f o (wL w o)))) (up (wC w) 5 (wC w 5 + ((lEv l).length - frN w f o k)))
def twi (w : Wd) (f o k : Nat) : Wd := wT' w (up (wT w) (5 * f + o) (wT w (5 * f + o) ++ [wlt w f o k]))
def sav (w : Wd) (s : Nat) : Wd := wS' w (up (wS w) s (wL w s))
def fal (w : Wd) (s : Nat) : Wd := wL' w (up (wL w) s (wS w s))
/-- site s becomes as y -/
def jst (s y n p k came : Nat) (z x : St) : St :=
  let h := (List.range came).foldl (fun h e => if sHs x e then gn h e p y else h) (sHw z)
  (up (fun i => if i / 5 = s ∧ i % 5 < n then sTb x (5 * y + i % 5) else sTb x i) (5 * s + s) k, sHs x, sVw x, sLg x, h.2.1, h.2.2)
def joi (w : Wd) (s y : Nat) : Wd := wL' w (up (wL w) s (jst s y (wC w 0) (wC w 6) (wK w s) (wC w 2) (wL w s) (wL w y)))
def lnk (w : Wd) (a b : Nat) : Wd := wX' w (up (wX w) (lk a b) (!wX w (lk a b)))
/-- the world at its beginning -/
def sBeg : St := (fun _ => 0, fun _ => false, fun _ => false, [], fun _ => 0, fun _ => 0)
def eBeg : Ev := (fun _ => 0, fun _ => 0, fun _ => 0, fun _ => 0, fun _ => 0, fun _ _ => false)
def wBeg (n m : Nat) : Wd := (fun k => if k = 0 then n else if k = 1 then m else 0, fun _ => false, fun _ => 0, eBeg, fun _ => sBeg, fun _ => sBeg, fun _ => [])
/-! what holds of every world that is come to -/
/-- of a state: numbers are small, the log has no event twice, what is logged is known -/
def Is (n came me : Nat) (v : Ev) (s : St) : Prop :=
  (∀ i, i < 25 → sTb s i ≤ came ∧ ((n ≤ i / 5 ∨ n ≤ i % 5) → sTb s i = 0)) ∧ (∀ e, sHs s e = true → e < came) ∧ (∀ e, sVw s e = true → e < came) ∧ (sLg s).Nodup ∧ (∀ e ∈ sLg s, e < came ∧ knw v s me e = true) ∧ (∀ e, sHs s e = true → sBy s e < n)
def Il (n came f : Nat) (v : Ev) (l : Lt) : Prop :=
  lMd l < 3 ∧ (∀ i, i < 25 → lTb l i ≤ came ∧ ((n ≤ i / 5 ∨ n ≤ i % 5) → lTb l i = 0)) ∧ (lEv l).Nodup ∧ ∀ e ∈ lEv l, e < came ∧ eT v e ≤ lTb l (5 * f + eS v e)
def Iv (w : Wd) : Prop :=
  (2 ≤ wC w 0 ∧ wC w 0 ≤ 5 ∧ wC w 1 < 3 ∧ wC w 2 ≤ 120) ∧
  (∀ s, s < 5 → wK w s ≤ wC w 2) ∧
  (∀ e, e < wC w 2 → eS (wE w) e < wC w 0 ∧ 0 < eT (wE w) e ∧ eT (wE w) e ≤ wK w (eS (wE w) e) ∧ eM (wE w) e ≤ e ∧ eN (wE w) e < 100 ∧ eP (wE w) e ≤ wC w 6 ∧ ∀ x, eA (wE w) e x = true → x < e) ∧
  (∀ e f, e < f → f < wC w 2 → eS (wE w) e = eS (wE w) f → eT (wE w) e < eT (wE w) f) ∧
  (∀ s, s < 5 → Is (wC w 0) (wC w 2) s (wE w) (wL w s) ∧ Is (wC w 0) (wC w 2) s (wE w) (wS w s) ∧ ∀ e, (sHs (wL w s) e = true → eP (wE w) e ≤ sWh (wL w s) e ∧ sWh (wL w s) e ≤ wC w 6) ∧ (sHs (wS w s) e = true → eP (wE w) e ≤ sWh (wS w s) e ∧ sWh (wS w s) e ≤ wC w 6)) ∧
  (∀ f, f < 5 → ∀ o, o < 5 → (wT w (5 * f + o)).length ≤ 12 ∧ (∀ l ∈ wT w (5 * f + o), Il (wC w 0) (wC w 2) f (wE w) l) ∧ ((f = o ∨ wC w 0 ≤ f ∨ wC w 0 ≤ o) → wT w (5 * f + o) = [])) ∧
  (∀ c, wX w c = true → c < 25 ∧ c / 5 < c % 5 ∧ c % 5 < wC w 0)
