/-! ===== THE CORE: an abstract store, a method's runs over it, and what ties them to the machine ===== -/
/-- a made object (number of its class, fields) or array (number of its kind, length, contents); references inside are numbers of cells: 0 the script, 1 on the made ones in their order -/
abbrev Ent : Type := (Nat × List Value) ⊕ (Nat × vp_A)
/-- the cells in order (none: the script, a thrown exception), and how many slots they have -/
abbrev Sto : Type := List (Option Ent) × Nat
/-- how a method ends: an answer, or an exception of a class -/
abbrev Out : Type := Option Value ⊕ String
/-- a method: name, bytes, locals, answer's type, handlers -/
abbrev Md : Type := MethodName × ByteArray × Nat × Option FieldType × List (Nat × Nat × Nat × Nat)
/-- what a whole run has: launch, classes' numbers, array classes, the first made address, the script's address, length, contents -/
abbrev Gx : Type := Launch × va_G × (Nat → ClassId) × Nat × Nat × Nat × (Nat → Int32)
abbrev Gx.bs (G : Gx) : Nat := G.2.2.2.1
abbrev Gx.sa (G : Gx) : Nat := G.2.2.2.2.1
abbrev Gx.sl (G : Gx) : Nat := G.2.2.2.2.2.1
abbrev Gx.sx (G : Gx) : Nat → Int32 := G.2.2.2.2.2.2
abbrev classes : List vw_C := [(RX0, TX0, 6), (RX1, TX1, 2), (RX2, TX2, 9), (RX3, TX3, 7), (RX4, TX4, 2), (RX5, TX5, 6), (RX6, TX6, 7), (RX7, TX7, 6), (RX8, TX8, 11), (RX9, TX9, 6), (RX10, TX10, 19)]
abbrev kindsL : List FieldType := [.int, .long, .boolean, .object "GossipTables$EventSet", .object "GossipTables$Site", .object "GossipTables$LetterRow", .object "GossipTables$Letter", .object "GossipTables$World"]
def tys (G : Gx) : List (ClassId × FieldType) := kindsL.mapIdx (fun i t => (G.2.2.1 i, t))
def ad (G : Gx) (k : Nat) : Nat := match k with
  | 0 => G.sa
  | k + 1 => G.bs + k
def cv (G : Gx) (v : Value) : Value := match v with
  | .ref k => .ref (ad G k)
  | v => v
def ca (G : Gx) (a : vp_A) : vp_A := match a with
  | (n, .inr (.inr (.inr (.inr f)))) => (n, .inr (.inr (.inr (.inr (fun j => (f j).map (ad G))))))
  | a => a
def cz (G : Gx) (e : Ent) : va_E := match e with
  | .inl o => .inr (o.1, o.2.map (cv G))
  | .inr a => .inl (G.2.2.1 a.1, ca G a.2)
/-- the cells that are the run's own -/
def AA (G : Gx) : Nat → Prop := fun q => G.bs ≤ q
/-- the heap holds the store -/
def Rp (G : Gx) (σ : Sto) (H : Heap) : Prop := σ.1[0]? = some none ∧ H.size + 1 = G.bs + σ.1.length ∧ ∀ (k : Nat) (e : Ent), σ.1[k]? = some (some e) → va_at G.2.1 classes (ad G k, cz G e) H
/-- words of the tables that may be handed on as they stand -/
def gw : List Cond := lw_tbl.filter goodWord
/-- words that are handed on one by one -/
def nw (w : Cond) : Bool := match w with
  | .methodLinkNest .. => true
  | .castable .. => true
  | .declares _ => true
  | _ => false
def aos : List String := ["GossipTables$EventSet", "GossipTables$Site", "GossipTables$LetterRow", "GossipTables$Letter", "GossipTables$World"]
def strs : List (String × Nat × String) := [("GossipTables", 49, "2 to 5 sites"), ("GossipTables", 61, "no such mode"), ("GossipTables", 402, "no such site"), ("GossipTables", 410, "there are 120 events"), ("GossipTables", 412, "no such name"), ("GossipTables", 111, "no such element in the view"), ("GossipTables", 405, "no such two sites"), ("GossipTables", 127, "12 letters wait there, or the link is cut"), ("GossipTables", 414, "no such letter waits"), ("GossipTables", 140, "the link is cut"), ("GossipTables", 158, "12 letters wait there"), ("GossipTables", 418, "no such what"), ("GossipTables", 187, "no such event in the letter"), ("GossipTables", 203, "no such seed or number of times"), ("GossipTables", 416, "no such image"), ("GossipTables", 215, "no such image was kept"), ("GossipTables", 224, "not so many elements in the view"), ("GossipTables", 232, "not so many events in the log"), ("GossipTables", 407, "no such event"), ("GossipTables", 333, "no such number of sites"), ("GossipTables", 346, "not so many steps in the trace")]
def xcs : List String := ["java/lang/IllegalArgumentException", "java/lang/IllegalStateException", "java/lang/IndexOutOfBoundsException", "java/util/NoSuchElementException"]
/-- what else the tables and the old cells say, at every state of the run -/
def EV (G : Gx) (U : State) (H : Heap) : Prop :=
  (∀ w ∈ lw_tbl, nw w = true → va_Nw w U) ∧ (∀ C ∈ aos, va_AO C U) ∧ (∀ q ∈ strs, ∃ a, vk_R q.1 q.2.1 q.2.2 a U) ∧
  vx_Zq Bundle.tN "UNASSIGNED_STACK" Bundle.steD (AA G) U H ∧ vx_Zq Bundle.tN "SUPPRESSED_SENTINEL" Bundle.listD (AA G) U H ∧ va_X G.sa G.sl G.sx U H ∧ G.sa < G.bs ∧ G.bs ≤ H.size ∧ ∀ a ∈ xcs, ∀ b ∈ xcs, a ≠ b → va_Nc a b U
theorem EV.moved {G : Gx} {s U : State} {H H1 : Heap} (hW : s.WarmedH U.vm) (hz : H.size ≤ H1.size) (hq : ∀ q : Nat, q < H.size → ¬ AA G q → H1[q]? = H[q]?) (h : EV G s H) : EV G U H1 := by
  obtain ⟨h1, h2, h3, h4, h5, h6, h7, h8, h10⟩ := h
  refine ⟨fun w m hn => ?_, fun C m => va_AO.moved hW.alike (h2 C m), fun q m => ?_, vx_Zq.moved hW.alike (h4.kept hq), vx_Zq.moved hW.alike (h5.kept hq), ?_, h7, Nat.le_trans h8 hz, fun a ha b hb hn => va_Nc.moved hW.alike (h10 a ha b hb hn)⟩
  · have h9 := h1 w m hn
    cases w <;> first | exact va_Nw.warmM hW h9 | exact va_Nw.warmC hW h9 | exact va_Nw.warmD hW h9 | exact absurd hn (by simp [nw])
  · obtain ⟨a, ha⟩ := h3 q m
    exact ⟨a, vk_R.warm hW ha⟩
  · refine va_X.moved hW.alike (h6.kept (hq _ (Nat.lt_of_lt_of_le h7 h8) (Nat.not_le.mpr h7)))
/-- what a body of a method has at hand -/
def Cx (G : Gx) (md : Md) (d : Nat) (p : Program) (R : Room) (s : State) (m : MethodId) (args : Array Value) (meth : Method) (c : Code) : Prop :=
  p.tables.exec = Jvm.exec ∧ c.code = md.2.1 ∧ meth.sig.returnType = md.2.2.2.1 ∧ c.maxLocals = md.2.2.1 ∧ s.vm.findClass md.1.cls = some m.cls ∧ (∀ w ∈ gw, w.before args s = true) ∧ meth.locks = false ∧ meth.name = md.1.name ∧
  c.exceptionTable.toList = tableOf md.2.2.2.2 ∧ va_K G.2.1 classes (tys G) s ∧ EV G s s.heap ∧ d ≤ R.frames ∧ 40 * d ≤ R.locals ∧ G.1.stackTraces = false
def Qo (G : Gx) (o : Out) (σ' : Sto) : Array Value → State → Outcome → State → Prop := fun _ st oc t => (∃ v : Option Value, o = .inl v ∧ oc = .returned (v.map (cv G)) ∧ Rp G σ' t.heap) ∧ va_F (AA G) st t
def Xo (G : Gx) (o : Out) (σ' : Sto) : String → State → State → Prop := fun E st t => (o = .inr E ∧ Rp G σ' t.heap) ∧ va_F (AA G) st t
/-- THE JUDGEMENT: the method md, d frames deep at most, at pc with these locals and stack over the store σ, ends with o and σ' -/
def J (G : Gx) (d : Nat) (md : Md) (pc : Nat) (lo : List (Nat × Value)) (st : List Value) (σ : Sto) (o : Out) (σ' : Sto) : Prop :=
  (σ.1.length ≤ σ'.1.length ∧ σ.2 ≤ σ'.2) ∧ ∀ (p : Program) (e : Env) (R : Room) (s : State) (m : MethodId) (args : Array Value) (below : List Frame) (meth : Method) (c : Code) (ls : Array Slot) (H : Heap) (locs : List Loc) (cells slots mc ms : Nat),
    Cx G md d p R s m args meth c → lv_has ls md.2.2.1 (lo.map fun q => (q.1, cv G q.2)) → Rp G σ H → va_S (AA G) s.heap H locs → cells + (σ'.1.length - σ.1.length) ≤ mc → slots + (σ'.2 - σ.2) ≤ ms → mc ≤ R.cells → ms ≤ R.slots →
    W p G.1 e R s m args below meth c H locs cells slots (vx_MQ below (Qo G o σ') (Xo G o σ') args s mc ms (AA G)) (F0 m pc ls (st.map (cv G)))
def wd (md : Md) : Cond := match md.2.2.2.2 with
  | [] => .code md.1 md.2.1 md.2.2.1 md.2.2.2.1
  | hh => .codeWith md.1 md.2.1 md.2.2.1 md.2.2.2.1 hh
def rmOf (d : Nat) (σ σ' : Sto) : Room := { frames := d, cells := σ'.1.length - σ.1.length, slots := σ'.2 - σ.2, locals := 40 * d }
def Pm (G : Gx) (As : List Value) (σ : Sto) : Array Value → State → Prop := va_Pc (As.map (cv G)) (fun U => Rp G σ U.heap ∧ va_K G.2.1 classes (tys G) U ∧ EV G U U.heap)
/-- A METHOD's RUN: from the store σ with arguments As it ends with o and σ' -/
def Mt (G : Gx) (d : Nat) (md : Md) (As : List Value) (σ : Sto) (o : Out) (σ' : Sto) : Prop :=
  (σ.1.length ≤ σ'.1.length ∧ σ.2 ≤ σ'.2) ∧ vx_Met G.1 md.1 (wd md :: gw) (rmOf d σ σ') (Pm G As σ) (Qo G o σ') (Xo G o σ') (σ'.1.length - σ.1.length) (σ'.2 - σ.2) (AA G)
theorem Pm.blind {G : Gx} {As : List Value} {σ : Sto} : FrameBlind (Pm G As σ) := by
  intro a U g mk h
  obtain ⟨h1, h2, h3, h4⟩ := h
  refine ⟨h1, h2, va_K.moved (u := U) (U := U.calling g mk a) (Vm.Alike.refl U.vm) h3, ?_⟩
  exact EV.moved (s := U) (U := U.calling g mk a) (State.WarmedH.refl U) (Nat.le_refl _) (fun _ _ _ => rfl) h4
theorem gw_good : ∀ w ∈ gw, w ∈ gw ∧ ((w.onTables && w.keeps) = true ∨ ∃ ty, w = .arrayClass ty) := fun w h => ⟨h, good_of_word (List.mem_filter.mp h).2⟩
theorem gw_in {w : Cond} (i : Nat) (h : lw_tbl[i]? = some w) (hg : goodWord w = true) : w ∈ gw := List.mem_filter.mpr ⟨List.mem_of_getElem? h, hg⟩
theorem J.toMt {G : Gx} {d : Nat} {md : Md} {As : List Value} {σ σ' : Sto} {o : Out} {lo : List (Nat × Value)} (hy : plainName md.1.cls = true) (hh : md.2.2.2.2 = []) (hl : G.1.stackTraces = false) (hlen : (lg_sl (As.map (cv G))).length ≤ md.2.2.1) (hlo : lv_args 0 (As.map (cv G)) = lo.map fun q => (q.1, cv G q.2))
    (h : J G d md 0 lo [] σ o σ') : Mt G d md As σ o σ' := by
  refine ⟨h.1, ?_⟩
  refine vx_ofW (cc := md.2.1) (maxL := md.2.2.1) (ret := md.2.2.2.1) hy (by rw [wd, hh]) ?_
  intro p e s m args below meth c s₁ B hml ht hP
  obtain ⟨rfl, hR, hK, hE⟩ := hP
  have hts := atoms_spec (ws := wd md :: gw) B.pre
  have htb : c.exceptionTable.toList = tableOf md.2.2.2.2 := by
    rw [hh]
    cases hq : c.exceptionTable.toList with
    | nil => rfl
    | cons x xs => exact (ht x (by rw [hq]; exact List.mem_cons_self)).elim
  rw [lg_entry_eq]
  have hl1 := lv_entry (As.map (cv G)) (n := md.2.2.1) hlen
  rw [hlo] at hl1
  exact h.2 p e _ s m _ below meth c _ s.heap [] 0 0 _ _ ⟨B.exec, B.bytes, B.returns, hml, findClass_of_methodNamed B.named, fun w hw => hts w (List.mem_cons_of_mem _ hw), B.notSynchronized, (name_of_methodNamed B.named B.method).1, htb, hK, hE, Nat.le_refl _, Nat.le_refl _, hl⟩ hl1 hR va_S.rf (by rw [Nat.zero_add]; exact Nat.le_refl _) (by rw [Nat.zero_add]; exact Nat.le_refl _) (Nat.le_refl _) (Nat.le_refl _)
