/-! ===== CELLS: what the store says of them, how an instruction reads and writes them; printed by wip/whole/gen/mk2.py ===== -/
theorem Rp.pos {G : Gx} {σ : Sto} {H : Heap} {k : Nat} {e : Ent} (h : Rp G σ H) (hk : σ.1[k]? = some (some e)) : ∃ j, k = j + 1 := by
  cases k with
  | zero => rw [h.1] at hk; cases hk
  | succ j => exact ⟨j, rfl⟩
theorem Rp.AA {G : Gx} {σ : Sto} {H : Heap} {k : Nat} {e : Ent} (h : Rp G σ H) (hk : σ.1[k]? = some (some e)) : AA G (ad G k) := by
  obtain ⟨j, rfl⟩ := h.pos hk
  exact Nat.le_add_right _ _
theorem Rp.set {G : Gx} {σ : Sto} {H H1 : Heap} {k : Nat} {e0 e : Ent} (h : Rp G σ H) (hk : σ.1[k]? = some (some e0)) (hz : H1.size = H.size) (oq : ∀ q : Nat, q ≠ ad G k → H1[q]? = H[q]?) (he : va_at G.2.1 classes (ad G k, cz G e) H1) : Rp G (σ.1.set k (some e), σ.2) H1 := by
  obtain ⟨j, rfl⟩ := h.pos hk
  have hl := (List.getElem?_eq_some_iff.mp hk).1
  refine ⟨?_, ?_, fun i x hx => ?_⟩
  · show (σ.1.set (j + 1) (some e))[0]? = _
    rw [List.getElem?_set_ne (by omega)]
    exact h.1
  · show H1.size + 1 = G.bs + (σ.1.set (j + 1) (some e)).length
    rw [List.length_set, hz]
    exact h.2.1
  · have hx : (σ.1.set (j + 1) (some e))[i]? = some (some x) := hx
    by_cases hij : i = j + 1
    · subst hij
      rw [List.getElem?_set_self hl] at hx
      cases hx
      exact he
    · rw [List.getElem?_set_ne (Ne.symm hij)] at hx
      obtain ⟨i', rfl⟩ := h.pos hx
      refine (h.2.2 _ x hx).kept (oq _ ?_)
      show G.bs + i' ≠ G.bs + j
      omega
theorem Rp.adlen {G : Gx} {σ : Sto} {H : Heap} (h : Rp G σ H) : ad G σ.1.length = H.size := by
  obtain ⟨h1, h2, -⟩ := h
  have h3 := (List.getElem?_eq_some_iff.mp h1).1
  obtain ⟨j, hj⟩ : ∃ j, σ.1.length = j + 1 := ⟨σ.1.length - 1, by omega⟩
  rw [hj] at h2 ⊢
  show G.bs + j = H.size
  omega
theorem Rp.pushO {G : Gx} {σ : Sto} {H H1 : Heap} (h : Rp G σ H) (x : Option Ent) (N : Nat) (hz : H1.size = H.size + 1) (oq : ∀ q : Nat, q < H.size → H1[q]? = H[q]?) (he : ∀ e, x = some e → va_at G.2.1 classes (H.size, cz G e) H1) : Rp G (σ.1 ++ [x], σ.2 + N) H1 := by
  have ha := h.adlen
  obtain ⟨h1, h2, h3⟩ := h
  have hp := (List.getElem?_eq_some_iff.mp h1).1
  refine ⟨?_, ?_, fun i y hy => ?_⟩
  · show (σ.1 ++ [x])[0]? = _
    rw [List.getElem?_append_left hp]
    exact h1
  · show H1.size + 1 = G.bs + (σ.1 ++ [x]).length
    rw [List.length_append, hz]
    simp only [List.length_cons, List.length_nil]
    omega
  · have hy : (σ.1 ++ [x])[i]? = some (some y) := hy
    by_cases hl : i < σ.1.length
    · rw [List.getElem?_append_left hl] at hy
      exact (h3 i y hy).kept (oq _ (h3 i y hy).lt)
    · rw [List.getElem?_append_right (by omega)] at hy
      have hz1 : i - σ.1.length < 1 := (List.getElem?_eq_some_iff.mp hy).1
      have hi : i = σ.1.length := by omega
      subst hi
      rw [Nat.sub_self] at hy
      rw [ha]
      exact he y (by simpa using hy)
theorem va_S.push {A : Nat → Prop} {H0 H H1 : Heap} {locs : List Loc} (hS : va_S A H0 H locs) (hz : H1.size = H.size + 1) (oq : ∀ q : Nat, q < H.size → H1[q]? = H[q]?) : va_S A H0 H1 locs :=
  ⟨Nat.le_trans hS.1 (by omega), fun x h1 h2 => (oq x (Nat.lt_of_lt_of_le h1 hS.1)).trans (hS.2.1 x h1 h2), hS.2.2⟩
/-- an object's fields -/
def gO (σ : Sto) (a ci : Nat) : Option (List Value) := match σ.1[a]? with
  | some (some (.inl o)) => if o.1 = ci then some o.2 else none
  | _ => none
theorem gO_at {σ : Sto} {a ci : Nat} {fs : List Value} (h : gO σ a ci = some fs) : σ.1[a]? = some (some (.inl (ci, fs))) := by
  unfold gO at h
  split at h
  · next o ho =>
    split at h
    · next hc =>
      obtain ⟨x, y⟩ := o
      simp only [Option.some.injEq] at h
      rw [ho]
      simp only at hc
      rw [hc, ← h]
    · cases h
  · cases h
theorem gO_eq {σ : Sto} {a ci : Nat} {fs : List Value} (h : σ.1[a]? = some (some (.inl (ci, fs)))) : gO σ a ci = some fs := by
  unfold gO
  rw [h]
  simp
def gV (σ : Sto) (a ci k : Nat) : Option Value := (gO σ a ci).bind (fun fs => fs[k]?)
theorem gV_at {σ : Sto} {a ci k : Nat} {v : Value} (h : gV σ a ci k = some v) : ∃ fs, σ.1[a]? = some (some (.inl (ci, fs))) ∧ fs[k]? = some v := by
  obtain ⟨fs, h1, h2⟩ := Option.bind_eq_some_iff.mp h
  exact ⟨fs, gO_at h1, h2⟩
def vI (v : Option Value) : Option Int32 := match v with
  | some (.int x) => some x
  | _ => none
def vL (v : Option Value) : Option Int64 := match v with
  | some (.long x) => some x
  | _ => none
def vR (v : Option Value) : Option Nat := match v with
  | some (.ref x) => some x
  | _ => none
theorem vI_at {v : Option Value} {x : Int32} (h : vI v = some x) : v = some (.int x) := by
  unfold vI at h
  split at h
  · cases h; rfl
  · cases h
theorem vL_at {v : Option Value} {x : Int64} (h : vL v = some x) : v = some (.long x) := by
  unfold vL at h
  split at h
  · cases h; rfl
  · cases h
theorem vR_at {v : Option Value} {x : Nat} (h : vR v = some x) : v = some (.ref x) := by
  unfold vR at h
  split at h
  · cases h; rfl
  · cases h
def gI (σ : Sto) (a ci k : Nat) : Option Int32 := vI (gV σ a ci k)
def gL (σ : Sto) (a ci k : Nat) : Option Int64 := vL (gV σ a ci k)
def gR (σ : Sto) (a ci k : Nat) : Option Nat := vR (gV σ a ci k)
def sV (σ : Sto) (a ci k : Nat) (v : Value) : Option Sto := (gO σ a ci).bind (fun fs => if k < fs.length then some (σ.1.set a (some (.inl (ci, fs.set k v))), σ.2) else none)
/-- a field of a class of ours, by its place in the pool of the class own -/
def FL (own : String) (idx ci k : Nat) : Prop := ∃ (C : String) (T : u_T) (N : Nat), classes[ci]? = some (C, T, N) ∧ (∀ w ∈ u_ws C T N, w ∈ gw) ∧ k < N ∧ Cond.fieldLink own idx (T k).1 (T k).2.1 (T k).2.2.1 ∈ gw
def PL (own : String) (idx ci k : Nat) (ty : FieldType) (fin : Bool) : Prop := ∃ (C : String) (T : u_T) (N : Nat) (ty0 : Nat → FieldType), classes[ci]? = some (C, T, N) ∧ (∀ w ∈ u_ws C T N, w ∈ gw) ∧ k < N ∧ Cond.fieldLink own idx (T k).1 (T k).2.1 (T k).2.2.1 ∈ gw ∧
  (∀ k, k < N → parseFieldDescriptor (T k).2.2.1 = some (ty0 k)) ∧ (∀ a, a < N → ∀ b, b < N → a ≠ b → (T a).2.1 ≠ (T b).2.1) ∧ (T k).2.2.2 = fin ∧ (T k).1 = C ∧ parseFieldDescriptor (T k).2.2.1 = some ty
def tok (ty : FieldType) (v : Value) : Bool := match ty, v with
  | .int, .int _ => true
  | .long, .long _ => true
  | .object _, .ref _ => true
  | .array _, .ref _ => true
  | _, _ => false
theorem tok_ok {G : Gx} {ty : FieldType} {v : Value} (h : tok ty v = true) : narrow ty (cv G v) = cv G v ∧ fits ty (cv G v) = true := by
  cases ty <;> cases v <;> first | (simp [tok] at h; done) | exact ⟨rfl, rfl⟩
section CELLS
variable {G : Gx} {d : Nat} {md : Md} {pc : Nat} {lo : List (Nat × Value)} {st : List Value} {σ σ' : Sto} {o : Out}
theorem r_get {a idx ci k : Nat} {v : Value} (hd : decode md.2.1 pc = .ok (.getfield idx, 3)) (hf : FL md.1.cls idx ci k) (h : gV σ a ci k = some v) (kk : J G d md (pc + 3) lo (v :: st) σ o σ') : J G d md pc lo (.ref a :: st) σ o σ' := by
  refine ⟨kk.1, fun p e R s m args below meth c ls H locs cells slots mc ms C h1 h2 h3 h4 h5 h6 h7 => ?_⟩
  obtain ⟨fs, ha, hv⟩ := gV_at h
  obtain ⟨Cn, T, N, hc, hin, hk, hl⟩ := hf
  exact va_get (rest := st.map (cv G)) (ws := [(ad G a, cz G (.inl (ci, fs)))]) C.1 C.2.1 C.2.2.2.2.2.1 hin C.2.2.2.2.1 C.2.2.2.2.2.2.2.2.2.1 (fun k q hq => by
    cases k with
    | zero => cases hq; exact h2.2.2 a _ ha
    | succ k => simp at hq) 0 rfl hc k hk (C.2.2.2.2.2.1 _ hl) (fun x hx => hx) (v := cv G v) (by rw [List.getElem?_map, hv]; rfl) hd (kk.2 p e R s m args below meth c ls H locs cells slots mc ms C h1 h2 h3 h4 h5 h6 h7)
theorem r_getI {a idx ci k : Nat} {x : Int32} (hd : decode md.2.1 pc = .ok (.getfield idx, 3)) (hf : FL md.1.cls idx ci k) (h : gI σ a ci k = some x) (kk : J G d md (pc + 3) lo (.int x :: st) σ o σ') : J G d md pc lo (.ref a :: st) σ o σ' := r_get hd hf (vI_at h) kk
theorem r_getL {a idx ci k : Nat} {x : Int64} (hd : decode md.2.1 pc = .ok (.getfield idx, 3)) (hf : FL md.1.cls idx ci k) (h : gL σ a ci k = some x) (kk : J G d md (pc + 3) lo (.long x :: st) σ o σ') : J G d md pc lo (.ref a :: st) σ o σ' := r_get hd hf (vL_at h) kk
theorem r_getR {a idx ci k : Nat} {x : Nat} (hd : decode md.2.1 pc = .ok (.getfield idx, 3)) (hf : FL md.1.cls idx ci k) (h : gR σ a ci k = some x) (kk : J G d md (pc + 3) lo (.ref x :: st) σ o σ') : J G d md pc lo (.ref a :: st) σ o σ' := r_get hd hf (vR_at h) kk
theorem sV_at {a ci k : Nat} {v : Value} {σ1 : Sto} (h : sV σ a ci k v = some σ1) : ∃ fs, σ.1[a]? = some (some (.inl (ci, fs))) ∧ k < fs.length ∧ σ1 = (σ.1.set a (some (.inl (ci, fs.set k v))), σ.2) := by
  obtain ⟨fs, e1, e2⟩ := Option.bind_eq_some_iff.mp h
  split at e2
  · next hl => exact ⟨fs, gO_at e1, hl, (Option.some.inj e2).symm⟩
  · cases e2
theorem r_putX {a idx ci k : Nat} {v : Value} {ty : FieldType} {fin : Bool} {σ1 : Sto} (hd : decode md.2.1 pc = .ok (.putfield idx, 3)) (hp : PL md.1.cls idx ci k ty fin) (hx : fin = false ∨ (md.1.name = "<init>" ∧ ∀ q, classes[ci]? = some q → q.1 = md.1.cls)) (ht : tok ty v = true) (h : sV σ a ci k v = some σ1) (kk : J G d md (pc + 3) lo st σ1 o σ') : J G d md pc lo (v :: .ref a :: st) σ o σ' := by
  obtain ⟨fs, ha, hlen, rfl⟩ := sV_at h
  refine ⟨by have := kk.1; simpa using this, fun p e R s m args below meth c ls H locs cells slots mc ms C h1 h2 h3 h4 h5 h6 h7 => ?_⟩
  obtain ⟨Cn, T, N, ty0, hc, hin, hk, hl, hty, hnm, hfin, hdecl, hpd⟩ := hp
  obtain ⟨hn, hfit⟩ := tok_ok (G := G) ht
  have hts := C.2.2.2.2.2.1
  have hown := C.2.2.2.2.1
  have hK := C.2.2.2.2.2.2.2.2.2.1
  have hap := va_apart (own := md.1.cls) hts hin ty0 hty hnm hK hc
  obtain ⟨r, e1, cell, q1, q2, q3, q4⟩ := h2.2.2 a _ ha
  have hr : r = (Cn, T, N) := Option.some.inj (e1.symm.trans hc)
  subst hr
  obtain ⟨hSl, hfc, kC, hkC, hkind⟩ := hK.1 ci _ hc
  obtain ⟨cf, kf, fi, f, hi, hsl⟩ := hSl k hk
  have hlay := hts _ (hin _ (u_in_lay hk))
  have hst := (u_facts hfc hkC (u_lays hts hin hk) hi).1
  have goal : ∀ H' : Heap, H'[ad G a]? = some (cell.setSlot f.slot (cv G v)) → H'.size = H.size → (∀ q, q ≠ ad G a → H'[q]? = H[q]?) → W p G.1 e R s m args below meth c H' (locs ++ [⟨ad G a, f.slot⟩]) cells slots (vx_MQ below (Qo G o σ') (Xo G o σ') args s mc ms (AA G)) (F0 m (pc + 3) ls (st.map (cv G))) := by
    intro H' g1 g2 g3
    rw [hsl] at g1 ⊢
    refine kk.2 p e R s m args below meth c ls H' _ cells slots mc ms C h1 (h2.set ha g2 g3 ⟨_, hc, ?_⟩) (h3.put g2 g3 (h2.AA ha)) (by simpa using h4) h5 h6 h7
    have hq := t_OB.to (V := updV (vp_V (fs.map (cv G))) k (cv G v)) (V' := vp_V ((fs.map (cv G)).set k (cv G v))) (⟨_, g1, q2, q3, t_set q4 hap hk (cv G v)⟩ : t_OB (ad G a) (G.2.1.1 ci) N (G.2.1.2 ci) H' _) (fun j _ => vp_updV_set (by rw [List.length_map]; exact hlen) (cv G v) j)
    show t_OB (ad G a) _ _ _ H' (vp_V ((fs.set k v).map (cv G)))
    rw [List.map_set]
    exact hq
  unfold u_lay at hlay
  rcases hx with hx | ⟨hnam, hx⟩
  · rw [if_neg (by rw [hfin, hx]; decide)] at hlay
    have e6 := u_store hfc hkC hkind hlay hi hpd hn hfit
    exact W.putK C.1 C.2.1 (f := f) ⟨hown, hts _ hl, ⟨_, _, _, hi⟩, hst⟩ (by rw [q2]; exact e6) q1 q3 (by rw [hsl]; exact k2_hasslot (q4 k hk)) rfl rfl hd goal
  · cases fin with
    | false =>
      rw [if_neg (by rw [hfin]; decide)] at hlay
      have e6 := u_store hfc hkC hkind hlay hi hpd hn hfit
      exact W.putK C.1 C.2.1 (f := f) ⟨hown, hts _ hl, ⟨_, _, _, hi⟩, hst⟩ (by rw [q2]; exact e6) q1 q3 (by rw [hsl]; exact k2_hasslot (q4 k hk)) rfl rfl hd goal
    | true =>
      rw [if_pos hfin] at hlay
      have hcf : m.cls = cf := by
        obtain ⟨_, _, c', _, _, _, -, -, hf', -, -, -, hown2, -⟩ := Cond.laysFinal_spec hlay
        have e1 : c' = cf := by have := hi.symm.trans hf'; simp at this; exact this.1.symm
        rw [hdecl, show Cn = md.1.cls from hx _ hc] at hown2
        rw [← e1]; exact Option.some.inj (hown.symm.trans hown2)
      have e6 := u_fits hfc hkC hkind (Or.inr hlay) hi hpd hn hfit
      exact W.putFinK C.1 C.2.1 hown (hts _ hl) hi hst hcf (C.2.2.2.2.2.2.2.1.trans hnam) (by rw [q2]; exact e6) q1 q3 (by rw [hsl]; exact k2_hasslot (q4 k hk)) rfl rfl hd goal
theorem r_put {a idx ci k : Nat} {v : Value} {ty : FieldType} {σ1 : Sto} (hd : decode md.2.1 pc = .ok (.putfield idx, 3)) (hp : PL md.1.cls idx ci k ty false) (ht : tok ty v = true) (h : sV σ a ci k v = some σ1) (kk : J G d md (pc + 3) lo st σ1 o σ') : J G d md pc lo (v :: .ref a :: st) σ o σ' := r_putX hd hp (Or.inl rfl) ht h kk
/-- an array of a kind -/
def gA (σ : Sto) (a kd : Nat) : Option vp_A := match σ.1[a]? with
  | some (some (.inr x)) => if x.1 = kd then some x.2 else none
  | _ => none
theorem gA_at {a kd : Nat} {x : vp_A} (h : gA σ a kd = some x) : σ.1[a]? = some (some (.inr (kd, x))) := by
  unfold gA at h
  split at h
  · next y hy =>
    split at h
    · next hc =>
      obtain ⟨u, v⟩ := y
      simp only [Option.some.injEq] at h
      rw [hy]
      simp only at hc
      rw [hc, ← h]
    · cases h
  · cases h
theorem gA_eq {a kd : Nat} {x : vp_A} (h : σ.1[a]? = some (some (.inr (kd, x)))) : gA σ a kd = some x := by
  unfold gA
  rw [h]
  simp
def aI (x : Option vp_A) : Option (Nat × (Nat → Int32)) := match x with
  | some (n, .inl f) => some (n, f)
  | _ => none
def aL (x : Option vp_A) : Option (Nat × (Nat → Int64)) := match x with
  | some (n, .inr (.inl f)) => some (n, f)
  | _ => none
def aR (x : Option vp_A) : Option (Nat × (Nat → Option Nat)) := match x with
  | some (n, .inr (.inr (.inr (.inr f)))) => some (n, f)
  | _ => none
theorem aI_at {x : Option vp_A} {q : Nat × (Nat → Int32)} (h : aI x = some q) : x = some (q.1, .inl q.2) := by
  unfold aI at h
  split at h
  · cases h; rfl
  · cases h
theorem aL_at {x : Option vp_A} {q : Nat × (Nat → Int64)} (h : aL x = some q) : x = some (q.1, .inr (.inl q.2)) := by
  unfold aL at h
  split at h
  · cases h; rfl
  · cases h
theorem aR_at {x : Option vp_A} {q : Nat × (Nat → Option Nat)} (h : aR x = some q) : x = some (q.1, .inr (.inr (.inr (.inr q.2)))) := by
  unfold aR at h
  split at h
  · cases h; rfl
  · cases h
def ald {α : Type} (x : Option (Nat × (Nat → α))) (i : Int32) : Option α := x.bind (fun q => if i < 0 ∨ q.1 ≤ i.toNatClampNeg then none else some (q.2 i.toNatClampNeg))
theorem ald_at {α : Type} {x : Option (Nat × (Nat → α))} {i : Int32} {v : α} (h : ald x i = some v) : ∃ n f, x = some (n, f) ∧ vp_in i n ∧ v = f i.toNatClampNeg := by
  obtain ⟨q, e1, e2⟩ := Option.bind_eq_some_iff.mp h
  split at e2
  · cases e2
  · next hn => exact ⟨q.1, q.2, e1, hn, (Option.some.inj e2).symm⟩
def iald (σ : Sto) (a : Nat) (i : Int32) : Option Int32 := ald (aI (gA σ a 0)) i
def zald (σ : Sto) (a : Nat) (i : Int32) : Option Int32 := ald (aI (gA σ a 2)) i
def lald (σ : Sto) (a : Nat) (i : Int32) : Option Int64 := ald (aL (gA σ a 1)) i
def aald (σ : Sto) (a kd : Nat) (i : Int32) : Option (Option Nat) := ald (aR (gA σ a kd)) i
/-- a reference that isn't null -/
def aaldR (σ : Sto) (a kd : Nat) (i : Int32) : Option Nat := (aald σ a kd i).bind id
def iast (σ : Sto) (a : Nat) (i x : Int32) : Option Sto := (aI (gA σ a 0)).bind (fun q => if i < 0 ∨ q.1 ≤ i.toNatClampNeg then none else some (σ.1.set a (some (.inr (0, (q.1, .inl (upd q.2 i.toNatClampNeg x))))), σ.2))
def zast (σ : Sto) (a : Nat) (i x : Int32) : Option Sto := (aI (gA σ a 2)).bind (fun q => if i < 0 ∨ q.1 ≤ i.toNatClampNeg then none else some (σ.1.set a (some (.inr (2, (q.1, .inl (upd q.2 i.toNatClampNeg (vp_nar .boolean x)))))), σ.2))
def last (σ : Sto) (a : Nat) (i : Int32) (x : Int64) : Option Sto := (aL (gA σ a 1)).bind (fun q => if i < 0 ∨ q.1 ≤ i.toNatClampNeg then none else some (σ.1.set a (some (.inr (1, (q.1, .inr (.inl (vp_updL q.2 i.toNatClampNeg x)))))), σ.2))
/-- the class of which an array of references is -/
def kcl (kd : Nat) : Nat := match kd with
  | 3 => 1
  | 4 => 6
  | 5 => 4
  | 6 => 3
  | _ => 8
def aast (σ : Sto) (a kd : Nat) (i : Int32) (r : Nat) : Option Sto := (aR (gA σ a kd)).bind (fun q => if i < 0 ∨ q.1 ≤ i.toNatClampNeg then none else (gO σ r (kcl kd)).bind (fun _ => some (σ.1.set a (some (.inr (kd, (q.1, .inr (.inr (.inr (.inr (va_up q.2 i.toNatClampNeg (some r))))))))), σ.2)))
theorem tys_at (G : Gx) {kd : Nat} {ty : FieldType} (h : kindsL[kd]? = some ty) : (tys G)[kd]? = some (G.2.2.1 kd, ty) := by
  unfold tys
  rw [List.getElem?_mapIdx, h]
  rfl
theorem arr_at {H : Heap} {a kd : Nat} {x : vp_A} (h2 : Rp G σ H) (h : gA σ a kd = some x) : H[ad G a]? = some (vp_cell (G.2.2.1 kd) (ca G x)) := h2.2.2 a _ (gA_at h)
theorem r_iald {a : Nat} {i : Int32} {x : Int32} (hd : decode md.2.1 pc = .ok (.iaload, 1)) (h : iald σ a i = some x) (kk : J G d md (pc + 1) lo (.int x :: st) σ o σ') : J G d md pc lo (.int i :: .ref a :: st) σ o σ' := by
  refine ⟨kk.1, fun p e R s m args below meth c ls H locs cells slots mc ms C h1 h2 h3 h4 h5 h6 h7 => ?_⟩
  obtain ⟨n, f, e1, hin, rfl⟩ := ald_at h
  have e2 := arr_at h2 (aI_at e1)
  exact va_iald (rest := st.map (cv G)) (D := G.2.1) (cl := classes) (ws := [(ad G a, .inl (G.2.2.1 0, n, .inl f))]) C.1 C.2.1 C.2.2.2.2.2.2.2.2.2.1 (fun k q hq => by
    cases k with
    | zero => cases hq; exact e2
    | succ k => simp at hq) 0 0 rfl (tys_at G rfl) hin hd (kk.2 p e R s m args below meth c ls H locs cells slots mc ms C h1 h2 h3 h4 h5 h6 h7)
theorem r_zald {a : Nat} {i : Int32} {x : Int32} (hd : decode md.2.1 pc = .ok (.baload, 1)) (h : zald σ a i = some x) (kk : J G d md (pc + 1) lo (.int x :: st) σ o σ') : J G d md pc lo (.int i :: .ref a :: st) σ o σ' := by
  refine ⟨kk.1, fun p e R s m args below meth c ls H locs cells slots mc ms C h1 h2 h3 h4 h5 h6 h7 => ?_⟩
  obtain ⟨n, f, e1, hin, rfl⟩ := ald_at h
  have e2 := arr_at h2 (aI_at e1)
  exact va_zald (rest := st.map (cv G)) (D := G.2.1) (cl := classes) (ws := [(ad G a, .inl (G.2.2.1 2, n, .inl f))]) C.1 C.2.1 C.2.2.2.2.2.2.2.2.2.1 (fun k q hq => by
    cases k with
    | zero => cases hq; exact e2
    | succ k => simp at hq) 0 2 rfl (tys_at G rfl) hin hd (kk.2 p e R s m args below meth c ls H locs cells slots mc ms C h1 h2 h3 h4 h5 h6 h7)
theorem r_lald {a : Nat} {i : Int32} {x : Int64} (hd : decode md.2.1 pc = .ok (.laload, 1)) (h : lald σ a i = some x) (kk : J G d md (pc + 1) lo (.long x :: st) σ o σ') : J G d md pc lo (.int i :: .ref a :: st) σ o σ' := by
  refine ⟨kk.1, fun p e R s m args below meth c ls H locs cells slots mc ms C h1 h2 h3 h4 h5 h6 h7 => ?_⟩
  obtain ⟨n, f, e1, hin, rfl⟩ := ald_at h
  have e2 := arr_at h2 (aL_at e1)
  exact va_lald (rest := st.map (cv G)) (D := G.2.1) (cl := classes) (ws := [(ad G a, .inl (G.2.2.1 1, n, .inr (.inl f)))]) C.1 C.2.1 C.2.2.2.2.2.2.2.2.2.1 (fun k q hq => by
    cases k with
    | zero => cases hq; exact e2
    | succ k => simp at hq) 0 1 rfl (tys_at G rfl) hin hd (kk.2 p e R s m args below meth c ls H locs cells slots mc ms C h1 h2 h3 h4 h5 h6 h7)
theorem r_aald {a kd : Nat} {i : Int32} {x : Option Nat} {Cn : String} (hd : decode md.2.1 pc = .ok (.aaload, 1)) (hk : kindsL[kd]? = some (.object Cn)) (h : aald σ a kd i = some x) (kk : J G d md (pc + 1) lo (va_rf x :: st) σ o σ') : J G d md pc lo (.int i :: .ref a :: st) σ o σ' := by
  refine ⟨kk.1, fun p e R s m args below meth c ls H locs cells slots mc ms C h1 h2 h3 h4 h5 h6 h7 => ?_⟩
  obtain ⟨n, f, e1, hin, rfl⟩ := ald_at h
  have e2 := arr_at h2 (aR_at e1)
  have e3 := kk.2 p e R s m args below meth c ls H locs cells slots mc ms C h1 h2 h3 h4 h5 h6 h7
  refine va_aldq (rest := st.map (cv G)) (D := G.2.1) (cl := classes) (ws := [(ad G a, .inl (G.2.2.1 kd, n, .inr (.inr (.inr (.inr (fun j => (f j).map (ad G)))))))]) C.1 C.2.1 C.2.2.2.2.2.2.2.2.2.1 (fun k q hq => by
    cases k with
    | zero => cases hq; exact e2
    | succ k => simp at hq) 0 kd rfl (tys_at G hk) hin hd ?_
  have e4 : cv G (va_rf (f i.toNatClampNeg)) = va_rf ((f i.toNatClampNeg).map (ad G)) := by
    cases f i.toNatClampNeg <;> rfl
  rw [← e4]
  exact e3
theorem r_aaldR {a kd : Nat} {i : Int32} {x : Nat} {Cn : String} (hd : decode md.2.1 pc = .ok (.aaload, 1)) (hk : kindsL[kd]? = some (.object Cn)) (h : aaldR σ a kd i = some x) (kk : J G d md (pc + 1) lo (.ref x :: st) σ o σ') : J G d md pc lo (.int i :: .ref a :: st) σ o σ' := by
  obtain ⟨y, e1, e2⟩ := Option.bind_eq_some_iff.mp h
  have e3 : y = some x := e2
  subst e3
  exact r_aald hd hk e1 kk
theorem r_iast {a : Nat} {i : Int32} {x : Int32} {σ1 : Sto} (hd : decode md.2.1 pc = .ok (.iastore, 1)) (h : iast σ a i x = some σ1) (kk : J G d md (pc + 1) lo st σ1 o σ') : J G d md pc lo (.int x :: .int i :: .ref a :: st) σ o σ' := by
  obtain ⟨q, e1, e2⟩ := Option.bind_eq_some_iff.mp h
  split at e2
  · cases e2
  · next hin =>
    cases e2
    refine ⟨by have := kk.1; simpa using this, fun p e R s m args below meth c ls H locs cells slots mc ms C h1 h2 h3 h4 h5 h6 h7 => ?_⟩
    have e3 := arr_at h2 (aI_at e1)
    have hK := C.2.2.2.2.2.2.2.2.2.1
    refine W.iast (rest := st.map (cv G)) C.1 C.2.1 e3 ((hK.2 0 _ (tys_at G rfl)).1 q.1 (fun j => .int (q.2 j))) (fun q => by cases q) (by show ¬ (i < 0 ∨ (arrV _ _ _).slots.size ≤ _); rw [arrV_size]; exact hin) rfl rfl hd fun H1 f1 f2 f3 => ?_
    refine kk.2 p e R s m args below meth c ls H1 _ cells slots mc ms C h1 (h2.set (gA_at (aI_at e1)) f2 f3 ?_) (h3.put f2 f3 (h2.AA (gA_at (aI_at e1)))) (by simpa using h4) h5 h6 h7
    show H1[ad G a]? = some (vp_cell (G.2.2.1 0) (q.1, .inl (upd q.2 i.toNatClampNeg x)))
    rw [f1]
    show some (Cell.setSlot (vp_cell (G.2.2.1 0) (q.1, .inl (q.2))) _ _) = _
    rw [vp_cell_i, vp_cell_i, arrV_store]
    congr 2
    funext z
    by_cases hq : z = i.toNatClampNeg
    · subst hq
      simp [updV, upd]
      try rfl
    · simp [updV, upd, hq]
theorem r_zast {a : Nat} {i : Int32} {x : Int32} {σ1 : Sto} (hd : decode md.2.1 pc = .ok (.bastore, 1)) (h : zast σ a i x = some σ1) (kk : J G d md (pc + 1) lo st σ1 o σ') : J G d md pc lo (.int x :: .int i :: .ref a :: st) σ o σ' := by
  obtain ⟨q, e1, e2⟩ := Option.bind_eq_some_iff.mp h
  split at e2
  · cases e2
  · next hin =>
    cases e2
    refine ⟨by have := kk.1; simpa using this, fun p e R s m args below meth c ls H locs cells slots mc ms C h1 h2 h3 h4 h5 h6 h7 => ?_⟩
    have e3 := arr_at h2 (aI_at e1)
    have hK := C.2.2.2.2.2.2.2.2.2.1
    refine W.zast (rest := st.map (cv G)) C.1 C.2.1 e3 ((hK.2 2 _ (tys_at G rfl)).1 q.1 (fun j => .int (q.2 j))) (fun q => by cases q) (by show ¬ (i < 0 ∨ (arrV _ _ _).slots.size ≤ _); rw [arrV_size]; exact hin) rfl rfl hd fun H1 f1 f2 f3 => ?_
    refine kk.2 p e R s m args below meth c ls H1 _ cells slots mc ms C h1 (h2.set (gA_at (aI_at e1)) f2 f3 ?_) (h3.put f2 f3 (h2.AA (gA_at (aI_at e1)))) (by simpa using h4) h5 h6 h7
    show H1[ad G a]? = some (vp_cell (G.2.2.1 2) (q.1, .inl (upd q.2 i.toNatClampNeg (vp_nar .boolean x))))
    rw [f1]
    show some (Cell.setSlot (vp_cell (G.2.2.1 2) (q.1, .inl (q.2))) _ _) = _
    rw [vp_cell_i, vp_cell_i, arrV_store]
    congr 2
    funext z
    by_cases hq : z = i.toNatClampNeg
    · subst hq
      simp [updV, upd, vp_nar]
      try rfl
    · simp [updV, upd, hq]
theorem r_last {a : Nat} {i : Int32} {x : Int64} {σ1 : Sto} (hd : decode md.2.1 pc = .ok (.lastore, 1)) (h : last σ a i x = some σ1) (kk : J G d md (pc + 1) lo st σ1 o σ') : J G d md pc lo (.long x :: .int i :: .ref a :: st) σ o σ' := by
  obtain ⟨q, e1, e2⟩ := Option.bind_eq_some_iff.mp h
  split at e2
  · cases e2
  · next hin =>
    cases e2
    refine ⟨by have := kk.1; simpa using this, fun p e R s m args below meth c ls H locs cells slots mc ms C h1 h2 h3 h4 h5 h6 h7 => ?_⟩
    have e3 := arr_at h2 (aL_at e1)
    have hK := C.2.2.2.2.2.2.2.2.2.1
    refine W.last (rest := st.map (cv G)) C.1 C.2.1 e3 ((hK.2 1 _ (tys_at G rfl)).1 q.1 (fun j => .long (q.2 j))) (fun q => by cases q) (by show ¬ (i < 0 ∨ (arrV _ _ _).slots.size ≤ _); rw [arrV_size]; exact hin) rfl rfl hd fun H1 f1 f2 f3 => ?_
    refine kk.2 p e R s m args below meth c ls H1 _ cells slots mc ms C h1 (h2.set (gA_at (aL_at e1)) f2 f3 ?_) (h3.put f2 f3 (h2.AA (gA_at (aL_at e1)))) (by simpa using h4) h5 h6 h7
    show H1[ad G a]? = some (vp_cell (G.2.2.1 1) (q.1, .inr (.inl (vp_updL q.2 i.toNatClampNeg x))))
    rw [f1]
    show some (Cell.setSlot (vp_cell (G.2.2.1 1) (q.1, .inr (.inl (q.2)))) _ _) = _
    rw [vp_cell_l, vp_cell_l, arrV_store]
    congr 2
    funext z
    by_cases hq : z = i.toNatClampNeg
    · subst hq
      simp [updV, vp_updL]
      try rfl
    · simp [updV, vp_updL, hq]
theorem r_aast {a kd r : Nat} {i : Int32} {σ1 : Sto} {Cn : String} {T : u_T} {N : Nat} (hd : decode md.2.1 pc = .ok (.aastore, 1)) (hk : kindsL[kd]? = some (.object Cn)) (hc : classes[kcl kd]? = some (Cn, T, N)) (h : aast σ a kd i r = some σ1) (kk : J G d md (pc + 1) lo st σ1 o σ') : J G d md pc lo (.ref r :: .int i :: .ref a :: st) σ o σ' := by
  obtain ⟨q, e1, e2⟩ := Option.bind_eq_some_iff.mp h
  split at e2
  · cases e2
  · next hin =>
    obtain ⟨fs, e4, e5⟩ := Option.bind_eq_some_iff.mp e2
    cases e5
    refine ⟨by have := kk.1; simpa using this, fun p e R s m args below meth c ls H locs cells slots mc ms C h1 h2 h3 h4 h5 h6 h7 => ?_⟩
    have e3 := arr_at h2 (aR_at e1)
    have hK := C.2.2.2.2.2.2.2.2.2.1
    have hlt : i.toNatClampNeg < q.1 := Nat.not_le.mp fun z => hin (Or.inr z)
    have h0 : ¬ i < 0 := fun z => hin (Or.inl z)
    obtain ⟨r', hr', cellV, g1, g2, g3, -⟩ := h2.2.2 r _ (gO_at e4)
    have hcls := (hK.1 _ _ hc).2
    obtain ⟨kA, comp, k1, k2, k3, -⟩ := (hK.2 kd _ (tys_at G hk)).2
    have hcomp : comp = G.2.1.1 (kcl kd) := Option.some.inj (k3.symm.trans hcls.1)
    subst hcomp
    obtain ⟨kC, hkC, -⟩ := hcls.2
    refine W.aast (rest := st.map (cv G)) C.1 C.2.1 e3 (fun q h => by cases h) (fun h => by cases h) k1 k2 rfl hkC ⟨h0, by show _ < (arrV _ _ _).slots.size; rw [arrV_size]; exact hlt⟩ g1 (fun q h => by rw [g3] at h; cases h) (by rw [g2]; exact hkC) (by rw [g2]; exact va_assign hcls) rfl rfl hd fun H1 f1 f2 f3 => ?_
    refine kk.2 p e R s m args below meth c ls H1 _ cells slots mc ms C h1 (h2.set (gA_at (aR_at e1)) f2 f3 ?_) (h3.put f2 f3 (h2.AA (gA_at (aR_at e1)))) (by simpa using h4) h5 h6 h7
    show H1[ad G a]? = some (vp_cell (G.2.2.1 kd) (q.1, .inr (.inr (.inr (.inr (fun j => (va_up q.2 i.toNatClampNeg (some r) j).map (ad G)))))))
    rw [f1]
    show some (Cell.setSlot (vp_cell (G.2.2.1 kd) (q.1, .inr (.inr (.inr (.inr (fun j => (q.2 j).map (ad G))))))) _ _) = _
    rw [vp_cell_q, vp_cell_q, arrV_store]
    congr 2
    funext z
    by_cases hq : z = i.toNatClampNeg
    · subst hq
      simp [updV, va_up, va_rf]
      try rfl
    · simp [updV, va_up, hq]
def NL (own : String) (idx ci N : Nat) (fs : List Value) : Prop := ∃ (Cn : String) (T : u_T) (ty0 : Nat → FieldType), classes[ci]? = some (Cn, T, N) ∧ (∀ w ∈ u_ws Cn T N, w ∈ gw) ∧ Cond.classLink own idx Cn ∈ gw ∧ Cond.instantiable Cn N ∈ gw ∧ Cond.initialized Cn ∈ gw ∧
  (∀ k, k < N → parseFieldDescriptor (T k).2.2.1 = some (ty0 k)) ∧ ∀ (G : Gx) (j : Nat), j < N → defaultValue (ty0 j) = vp_V (fs.map (cv G)) j
theorem r_new {idx ci N : Nat} {fs : List Value} (hd : decode md.2.1 pc = .ok (.new idx, 3)) (hn : NL md.1.cls idx ci N fs) (kk : J G d md (pc + 3) lo (.ref σ.1.length :: st) (σ.1 ++ [some (.inl (ci, fs))], σ.2 + N) o σ') : J G d md pc lo st σ o σ' := by
  obtain ⟨k1, k2⟩ := kk.1
  simp only [List.length_append, List.length_cons, List.length_nil] at k1 k2
  refine ⟨⟨by omega, by omega⟩, fun p e R s m args below meth c ls H locs cells slots mc ms C h1 h2 h3 h4 h5 h6 h7 => ?_⟩
  obtain ⟨Cn, T, ty0, hc, hin, hcl, hins, hini, hty, hfs⟩ := hn
  have hts := C.2.2.2.2.2.1
  have hK := C.2.2.2.2.2.2.2.2.2.1
  have hKn := hK.1 ci _ hc
  refine W.newcK C.1 C.2.1 C.2.2.2.2.1 (hts _ hcl) (hts _ hins) (hts _ hini) rfl hd (by omega) (by omega) hKn.2.1 rfl fun H1 kC hkC e1 z1 o1 => ?_
  have ha : ad G σ.1.length = H.size := h2.adlen
  have e9 := kk.2 p e R s m args below meth c ls H1 locs (cells + 1) (slots + N) mc ms C h1 (h2.pushO _ N z1 o1 (fun x hx => by cases hx; exact ⟨_, hc, (u_born ty0 hts hin hKn hkC e1 hty).to (hfs G)⟩)) (h3.push z1 o1) (by simp only [List.length_append, List.length_cons, List.length_nil]; omega) (by show slots + N + (σ'.2 - (σ.2 + N)) ≤ ms; omega) h6 h7
  rw [← ha]
  exact e9
theorem r_newI {n : Int32} (hd : decode md.2.1 pc = .ok (.newarray .int, 2)) (hw : Cond.arrayClass .int ∈ gw) (hn : ¬ n < 0) (hb : n.toNatClampNeg * 4 ≤ 536870912) (kk : J G d md (pc + 2) lo (.ref σ.1.length :: st) (σ.1 ++ [some (.inr (0, (n.toNatClampNeg, .inl (fun _ => 0))))], σ.2 + n.toNatClampNeg) o σ') : J G d md pc lo (.int n :: st) σ o σ' := by
  obtain ⟨k1, k2⟩ := kk.1
  simp only [List.length_append, List.length_cons, List.length_nil] at k1 k2
  refine ⟨⟨by omega, by omega⟩, fun p e R s m args below meth c ls H locs cells slots mc ms C h1 h2 h3 h4 h5 h6 h7 => ?_⟩
  have hts := C.2.2.2.2.2.1
  have hK := C.2.2.2.2.2.2.2.2.2.1
  refine va_newaK (atype := .int) (rest := st.map (cv G)) C.1 C.2.1 (hts _ hw) rfl hd rfl hn rfl hb (by omega) (by omega) rfl fun H1 cA e1 z1 o1 hAr hNm => ?_
  have hcA : cA = G.2.2.1 0 := by
    have h9 : s.vm.findClass ("[" ++ FieldType.toString .int) = some (G.2.2.1 0) := (hK.2 0 _ (tys_at G rfl)).2
    exact Option.some.inj (hNm.symm.trans h9)
  subst hcA
  have ha : ad G σ.1.length = H.size := h2.adlen
  have e9 := kk.2 p e R s m args below meth c ls H1 locs (cells + 1) (slots + n.toNatClampNeg) mc ms C h1 (h2.pushO _ n.toNatClampNeg z1 o1 (fun x hx => by cases hx; exact e1)) (h3.push z1 o1) (by simp only [List.length_append, List.length_cons, List.length_nil]; omega) (by show slots + n.toNatClampNeg + (σ'.2 - (σ.2 + n.toNatClampNeg)) ≤ ms; omega) h6 h7
  rw [← ha]
  exact e9
theorem r_newL {n : Int32} (hd : decode md.2.1 pc = .ok (.newarray .long, 2)) (hw : Cond.arrayClass .long ∈ gw) (hn : ¬ n < 0) (hb : n.toNatClampNeg * 8 ≤ 536870912) (kk : J G d md (pc + 2) lo (.ref σ.1.length :: st) (σ.1 ++ [some (.inr (1, (n.toNatClampNeg, .inr (.inl (fun _ => 0)))))], σ.2 + n.toNatClampNeg) o σ') : J G d md pc lo (.int n :: st) σ o σ' := by
  obtain ⟨k1, k2⟩ := kk.1
  simp only [List.length_append, List.length_cons, List.length_nil] at k1 k2
  refine ⟨⟨by omega, by omega⟩, fun p e R s m args below meth c ls H locs cells slots mc ms C h1 h2 h3 h4 h5 h6 h7 => ?_⟩
  have hts := C.2.2.2.2.2.1
  have hK := C.2.2.2.2.2.2.2.2.2.1
  refine va_newaK (atype := .long) (rest := st.map (cv G)) C.1 C.2.1 (hts _ hw) rfl hd rfl hn rfl hb (by omega) (by omega) rfl fun H1 cA e1 z1 o1 hAr hNm => ?_
  have hcA : cA = G.2.2.1 1 := by
    have h9 : s.vm.findClass ("[" ++ FieldType.toString .long) = some (G.2.2.1 1) := (hK.2 1 _ (tys_at G rfl)).2
    exact Option.some.inj (hNm.symm.trans h9)
  subst hcA
  have ha : ad G σ.1.length = H.size := h2.adlen
  have e9 := kk.2 p e R s m args below meth c ls H1 locs (cells + 1) (slots + n.toNatClampNeg) mc ms C h1 (h2.pushO _ n.toNatClampNeg z1 o1 (fun x hx => by cases hx; exact e1)) (h3.push z1 o1) (by simp only [List.length_append, List.length_cons, List.length_nil]; omega) (by show slots + n.toNatClampNeg + (σ'.2 - (σ.2 + n.toNatClampNeg)) ≤ ms; omega) h6 h7
  rw [← ha]
  exact e9
theorem r_newZ {n : Int32} (hd : decode md.2.1 pc = .ok (.newarray .boolean, 2)) (hw : Cond.arrayClass .boolean ∈ gw) (hn : ¬ n < 0) (hb : n.toNatClampNeg * 1 ≤ 536870912) (kk : J G d md (pc + 2) lo (.ref σ.1.length :: st) (σ.1 ++ [some (.inr (2, (n.toNatClampNeg, .inl (fun _ => 0))))], σ.2 + n.toNatClampNeg) o σ') : J G d md pc lo (.int n :: st) σ o σ' := by
  obtain ⟨k1, k2⟩ := kk.1
  simp only [List.length_append, List.length_cons, List.length_nil] at k1 k2
  refine ⟨⟨by omega, by omega⟩, fun p e R s m args below meth c ls H locs cells slots mc ms C h1 h2 h3 h4 h5 h6 h7 => ?_⟩
  have hts := C.2.2.2.2.2.1
  have hK := C.2.2.2.2.2.2.2.2.2.1
  refine va_newaK (atype := .boolean) (rest := st.map (cv G)) C.1 C.2.1 (hts _ hw) rfl hd rfl hn rfl hb (by omega) (by omega) rfl fun H1 cA e1 z1 o1 hAr hNm => ?_
  have hcA : cA = G.2.2.1 2 := by
    have h9 : s.vm.findClass ("[" ++ FieldType.toString .boolean) = some (G.2.2.1 2) := (hK.2 2 _ (tys_at G rfl)).2
    exact Option.some.inj (hNm.symm.trans h9)
  subst hcA
  have ha : ad G σ.1.length = H.size := h2.adlen
  have e9 := kk.2 p e R s m args below meth c ls H1 locs (cells + 1) (slots + n.toNatClampNeg) mc ms C h1 (h2.pushO _ n.toNatClampNeg z1 o1 (fun x hx => by cases hx; exact e1)) (h3.push z1 o1) (by simp only [List.length_append, List.length_cons, List.length_nil]; omega) (by show slots + n.toNatClampNeg + (σ'.2 - (σ.2 + n.toNatClampNeg)) ≤ ms; omega) h6 h7
  rw [← ha]
  exact e9
theorem r_newR {n : Int32} {idx kd : Nat} {Cn : String} (hd : decode md.2.1 pc = .ok (.anewarray idx, 3)) (hk : kindsL[kd]? = some (.object Cn)) (hw : Cond.classLink md.1.cls idx Cn ∈ gw) (hao : Cn ∈ aos) (hn : ¬ n < 0) (hb : n.toNatClampNeg * 4 ≤ 536870912) (kk : J G d md (pc + 3) lo (.ref σ.1.length :: st) (σ.1 ++ [some (.inr (kd, (n.toNatClampNeg, .inr (.inr (.inr (.inr (fun _ => none)))))))], σ.2 + n.toNatClampNeg) o σ') : J G d md pc lo (.int n :: st) σ o σ' := by
  obtain ⟨k1, k2⟩ := kk.1
  simp only [List.length_append, List.length_cons, List.length_nil] at k1 k2
  refine ⟨⟨by omega, by omega⟩, fun p e R s m args below meth c ls H locs cells slots mc ms C h1 h2 h3 h4 h5 h6 h7 => ?_⟩
  have hts := C.2.2.2.2.2.1
  have hK := C.2.2.2.2.2.2.2.2.2.1
  have hE := C.2.2.2.2.2.2.2.2.2.2.1
  refine W.anew (rest := st.map (cv G)) C.1 C.2.1 C.2.2.2.2.1 (hts _ hw) (va_AO.use (hE.2.1 _ hao)) rfl hd rfl hn hb (by omega) (by omega) fun cA kA comp f1 f2 f3 f4 => ?_
  have hcA : cA = G.2.2.1 kd := by
    obtain ⟨_, _, _, _, _, h9⟩ := (hK.2 kd _ (tys_at G hk)).2
    exact Option.some.inj (f1.symm.trans h9)
  subst hcA
  have ha : ad G σ.1.length = H.size := h2.adlen
  generalize hH1 : H.push ({ cls := G.2.2.1 kd, slots := Array.replicate n.toNatClampNeg .null, vm := .none } : Cell) = H1
  have z1 : H1.size = H.size + 1 := by rw [← hH1, Array.size_push]
  have e1 : H1[H.size]? = some (arrV (G.2.2.1 kd) n.toNatClampNeg (fun _ => .null)) := by rw [← hH1, Array.getElem?_push_size, ← arrV_new]
  have o1 : ∀ q : Nat, q < H.size → H1[q]? = H[q]? := fun q hq => by rw [← hH1, Array.getElem?_push, if_neg (Nat.ne_of_lt hq)]
  have e9 := kk.2 p e R s m args below meth c ls H1 locs (cells + 1) (slots + n.toNatClampNeg) mc ms C h1 (h2.pushO _ n.toNatClampNeg z1 o1 (fun x hx => by cases hx; exact e1)) (h3.push z1 o1) (by simp only [List.length_append, List.length_cons, List.length_nil]; omega) (by show slots + n.toNatClampNeg + (σ'.2 - (σ.2 + n.toNatClampNeg)) ≤ ms; omega) h6 h7
  rw [← ha]
  exact e9
theorem r_objInit {a idx : Nat} (hd : decode md.2.1 pc = .ok (.invokespecial idx, 3)) (hl : Cond.methodLink md.1.cls idx Lib.objectInit ∈ gw) (hi : Cond.instanceMethod Lib.objectInit ∈ gw) (hc : Cond.code Lib.objectInit ⟨#[0xb1]⟩ 1 none ∈ gw) (hd1 : 1 ≤ d) (hst : (st.map fun v => v.category).sum ≤ 8) (kk : J G d md (pc + 3) lo st σ o σ') : J G d md pc lo (.ref a :: st) σ o σ' := by
  refine ⟨kk.1, fun p e R s m args below meth c ls H locs cells slots mc ms C h1 h2 h3 h4 h5 h6 h7 => ?_⟩
  have hts := C.2.2.2.2.2.1
  have hfr := C.2.2.2.2.2.2.2.2.2.2.2.1
  have hlo := C.2.2.2.2.2.2.2.2.2.2.2.2.1
  have hs8 : ((st.map (cv G)).map fun v => v.category).sum ≤ 8 := by
    rw [List.map_map]
    have : (fun v => v.category) ∘ cv G = fun v : Value => v.category := by funext v; exact cv_cat G v
    rw [this]; exact hst
  exact W.objInit (rest := st.map (cv G)) C.1 C.2.1 C.2.2.2.2.1 (hts _ hl) (hts _ hi) (hts _ hc) rfl (h1.1.trans C.2.2.2.1.symm) rfl hd (by omega) (by show 2 * 0 + _ + 12 ≤ _; omega) (kk.2 p e R s m args below meth c ls H locs cells slots mc ms C h1 h2 h3 h4 h5 h6 h7)
end CELLS
