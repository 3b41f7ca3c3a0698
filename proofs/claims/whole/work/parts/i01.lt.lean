/-! ===== PURE 93: the law: throws and states of the calls ===== -/
theorem t_aSit {A : Ga} {x : Int32} {e : String} (h : (aSit A x).1 = .inr e) : e = eIA := by
  unfold aSit at h
  repeat' split at h
  all_goals (cases h <;> first | exact rfl)
theorem t_aMod {A : Ga} {x : Int32} {e : String} (h : (aMod A x).1 = .inr e) : e = eIA := by
  unfold aMod at h
  repeat' split at h
  all_goals (cases h <;> first | exact rfl)
theorem t_aAdd {A : Ga} {x y : Int32} {e : String} (h : (aAdd A x y).1 = .inr e) : e = eIO ∨ e = eIS ∨ e = eIA := by
  unfold aAdd at h
  repeat' split at h
  all_goals (cases h <;> first | exact Or.inl rfl | exact Or.inr (Or.inl rfl) | exact Or.inr (Or.inr rfl))
theorem t_aTak {A : Ga} {x y : Int32} {e : String} (h : (aTak A x y).1 = .inr e) : e = eIO ∨ e = eNS ∨ e = eIS := by
  unfold aTak at h
  repeat' split at h
  all_goals (cases h <;> first | exact Or.inl rfl | exact Or.inr (Or.inl rfl) | exact Or.inr (Or.inr rfl))
theorem t_aWri {A : Ga} {x y : Int32} {e : String} (h : (aWri A x y).1 = .inr e) : e = eIO ∨ e = eIS := by
  unfold aWri at h
  repeat' split at h
  all_goals (cases h <;> first | exact Or.inl rfl | exact Or.inr rfl)
theorem t_aCom {A : Ga} {x y u : Int32} {e : String} (h : (aCom A x y u).1 = .inr e) : e = eIO ∨ e = eNS ∨ e = eIS := by
  unfold aCom at h
  repeat' split at h
  all_goals (cases h <;> first | exact Or.inl rfl | exact Or.inr (Or.inl rfl) | exact Or.inr (Or.inr rfl))
theorem t_aLos {A : Ga} {x y u : Int32} {e : String} (h : (aLos A x y u).1 = .inr e) : e = eIO ∨ e = eNS := by
  unfold aLos at h
  repeat' split at h
  all_goals (cases h <;> first | exact Or.inl rfl | exact Or.inr rfl)
theorem t_aTwi {A : Ga} {x y u : Int32} {e : String} (h : (aTwi A x y u).1 = .inr e) : e = eIO ∨ e = eNS ∨ e = eIS := by
  unfold aTwi at h
  repeat' split at h
  all_goals (cases h <;> first | exact Or.inl rfl | exact Or.inr (Or.inl rfl) | exact Or.inr (Or.inr rfl))
theorem t_aWai {A : Ga} {x y : Int32} {e : String} (h : (aWai A x y).1 = .inr e) : e = eIO := by
  unfold aWai at h
  repeat' split at h
  all_goals (cases h <;> first | exact rfl)
theorem t_aLet {A : Ga} {x y u v : Int32} {e : String} (h : (aLet A x y u v).1 = .inr e) : e = eIO ∨ e = eNS ∨ e = eIA := by
  unfold aLet at h
  repeat' split at h
  all_goals (cases h <;> first | exact Or.inl rfl | exact Or.inr (Or.inl rfl) | exact Or.inr (Or.inr rfl))
theorem t_aInl {A : Ga} {x y u v : Int32} {e : String} (h : (aInl A x y u v).1 = .inr e) : e = eIO ∨ e = eNS := by
  unfold aInl at h
  repeat' split at h
  all_goals (cases h <;> first | exact Or.inl rfl | exact Or.inr rfl)
theorem t_aSav {A : Ga} {x : Int32} {e : String} (h : (aSav A x).1 = .inr e) : e = eIO := by
  unfold aSav at h
  repeat' split at h
  all_goals (cases h <;> first | exact rfl)
theorem t_aFal {A : Ga} {x : Int32} {e : String} (h : (aFal A x).1 = .inr e) : e = eIO := by
  unfold aFal at h
  repeat' split at h
  all_goals (cases h <;> first | exact rfl)
theorem t_aJoi {A : Ga} {x y : Int32} {e : String} (h : (aJoi A x y).1 = .inr e) : e = eIO := by
  unfold aJoi at h
  repeat' split at h
  all_goals (cases h <;> first | exact rfl)
theorem t_aCha {A : Ga} {x y : Int32} {e : String} (h : (aCha A x y).1 = .inr e) : e = eIA := by
  unfold aCha at h
  repeat' split at h
  all_goals (cases h <;> first | exact rfl)
theorem t_aKee {A : Ga} {x : Int32} {e : String} (h : (aKee A x).1 = .inr e) : e = eIA := by
  unfold aKee at h
  repeat' split at h
  all_goals (cases h <;> first | exact rfl)
theorem t_aBac {A : Ga} {x : Int32} {e : String} (h : (aBac A x).1 = .inr e) : e = eIA ∨ e = eNS := by
  unfold aBac at h
  repeat' split at h
  all_goals (cases h <;> first | exact Or.inl rfl | exact Or.inr rfl)
theorem t_aCut {A : Ga} {x y u : Int32} {e : String} (h : (aCut A x y u).1 = .inr e) : e = eIO := by
  unfold aCut at h
  repeat' split at h
  all_goals (cases h <;> first | exact rfl)
theorem t_aVie {A : Ga} {x y u : Int32} {e : String} (h : (aVie A x y u).1 = .inr e) : e = eIO ∨ e = eNS ∨ e = eIA := by
  unfold aVie at h
  repeat' split at h
  all_goals (cases h <;> first | exact Or.inl rfl | exact Or.inr (Or.inl rfl) | exact Or.inr (Or.inr rfl))
theorem t_aNam {A : Ga} {x y u : Int32} {e : String} (h : (aNam A x y u).1 = .inr e) : e = eIO ∨ e = eIA := by
  unfold aNam at h
  repeat' split at h
  all_goals (cases h <;> first | exact Or.inl rfl | exact Or.inr rfl)
theorem t_aLog {A : Ga} {x y : Int32} {e : String} (h : (aLog A x y).1 = .inr e) : e = eIO ∨ e = eNS := by
  unfold aLog at h
  repeat' split at h
  all_goals (cases h <;> first | exact Or.inl rfl | exact Or.inr rfl)
theorem t_aTab {A : Ga} {x y u : Int32} {e : String} (h : (aTab A x y u).1 = .inr e) : e = eIO := by
  unfold aTab at h
  repeat' split at h
  all_goals (cases h <;> first | exact rfl)
theorem t_aKnw {A : Ga} {x y u : Int32} {e : String} (h : (aKnw A x y u).1 = .inr e) : e = eIO := by
  unfold aKnw at h
  repeat' split at h
  all_goals (cases h <;> first | exact rfl)
theorem t_aHas {A : Ga} {x y : Int32} {e : String} (h : (aHas A x y).1 = .inr e) : e = eIO := by
  unfold aHas at h
  repeat' split at h
  all_goals (cases h <;> first | exact rfl)
theorem t_aSte {A : Ga} {x y : Int32} {e : String} (h : (aSte A x y).1 = .inr e) : e = eIO ∨ e = eIA := by
  unfold aSte at h
  repeat' split at h
  all_goals (cases h <;> first | exact Or.inl rfl | exact Or.inr rfl)
theorem t_aUnl {A : Ga} {x y : Int32} {e : String} (h : (aUnl A x y).1 = .inr e) : e = eIO := by
  unfold aUnl at h
  repeat' split at h
  all_goals (cases h <;> first | exact rfl)
theorem t_aWou {A : Ga} {x y u : Int32} {e : String} (h : (aWou A x y u).1 = .inr e) : e = eIO ∨ e = eIA := by
  unfold aWou at h
  repeat' split at h
  all_goals (cases h <;> first | exact Or.inl rfl | exact Or.inr rfl)
theorem t_aEve {A : Ga} {x y : Int32} {e : String} (h : (aEve A x y).1 = .inr e) : e = eIO ∨ e = eIA := by
  unfold aEve at h
  repeat' split at h
  all_goals (cases h <;> first | exact Or.inl rfl | exact Or.inr rfl)
theorem t_aAhd {A : Ga} {x y : Int32} {e : String} (h : (aAhd A x y).1 = .inr e) : e = eIO := by
  unfold aAhd at h
  repeat' split at h
  all_goals (cases h <;> first | exact rfl)
theorem t_aWid {A : Ga} {x : Int32} {e : String} (h : (aWid A x).1 = .inr e) : e = eIA := by
  unfold aWid at h
  repeat' split at h
  all_goals (cases h <;> first | exact rfl)
theorem t_aCam {A : Ga} {x y u : Int32} {e : String} (h : (aCam A x y u).1 = .inr e) : e = eIO ∨ e = eIA := by
  unfold aCam at h
  repeat' split at h
  all_goals (cases h <;> first | exact Or.inl rfl | exact Or.inr rfl)
theorem t_aWay {A : Ga} {x y u : Int32} {e : String} (h : (aWay A x y u).1 = .inr e) : e = eIO := by
  unfold aWay at h
  repeat' split at h
  all_goals (cases h <;> first | exact rfl)
theorem t_aSlo {A : Ga} {x : Int32} {e : String} (h : (aSlo A x).1 = .inr e) : e = eIA := by
  unfold aSlo at h
  repeat' split at h
  all_goals (cases h <;> first | exact rfl)
theorem t_aChn {A : Ga} {x y : Int32} {e : String} (h : (aChn A x y).1 = .inr e) : e = eIO := by
  unfold aChn at h
  repeat' split at h
  all_goals (cases h <;> first | exact rfl)
theorem t_aBet {A : Ga} {x y : Int32} {e : String} (h : (aBet A x y).1 = .inr e) : e = eIO := by
  unfold aBet at h
  repeat' split at h
  all_goals (cases h <;> first | exact rfl)
theorem t_aFro {A : Ga} {x y : Int32} {e : String} (h : (aFro A x y).1 = .inr e) : e = eIO := by
  unfold aFro at h
  repeat' split at h
  all_goals (cases h <;> first | exact rfl)
theorem t_aOnl {A : Ga} {x y u : Int32} {e : String} (h : (aOnl A x y u).1 = .inr e) : e = eIO := by
  unfold aOnl at h
  repeat' split at h
  all_goals (cases h <;> first | exact rfl)
theorem t_aSur {A : Ga} {x y : Int32} {e : String} (h : (aSur A x y).1 = .inr e) : e = eIO ∨ e = eIA := by
  unfold aSur at h
  repeat' split at h
  all_goals (cases h <;> first | exact Or.inl rfl | exact Or.inr rfl)
theorem t_aPar {A : Ga} {x : Int32} {e : String} (h : (aPar A x).1 = .inr e) : e = eIO := by
  unfold aPar at h
  repeat' split at h
  all_goals (cases h <;> first | exact rfl)
theorem t_aTra {A : Ga} {x y : Int32} {e : String} (h : (aTra A x y).1 = .inr e) : e = eNS ∨ e = eIA := by
  unfold aTra at h
  repeat' split at h
  all_goals (cases h <;> first | exact Or.inl rfl | exact Or.inr rfl)
theorem t_aGos {A : Ga} {x : Int32} {e : String} (h : (aGos A x).1 = .inr e) : e = eIA := by
  unfold aGos at h
  repeat' split at h
  all_goals (cases h <;> first | exact rfl)
theorem t_aFlg {A : Ga} {x y : Int32} {e : String} (h : (aFlg A x y).1 = .inr e) : e = eIO ∨ e = eIA := by
  unfold aFlg at h
  repeat' split at h
  all_goals (cases h <;> first | exact Or.inl rfl | exact Or.inr rfl)
theorem t_aJng {A : Ga} {x y u : Int32} {e : String} (h : (aJng A x y u).1 = .inr e) : e = eIO ∨ e = eIA := by
  unfold aJng at h
  repeat' split at h
  all_goals (cases h <;> first | exact Or.inl rfl | exact Or.inr rfl)
theorem t_aBst {A : Ga} {x : Int32} {e : String} (h : (aBst A x).1 = .inr e) : e = eIO := by
  unfold aBst at h
  repeat' split at h
  all_goals (cases h <;> first | exact rfl)
theorem s_aWai {A : Ga} {x y : Int32} : (aWai A x y).2 = A := by
  unfold aWai
  repeat' split
  all_goals rfl
theorem s_aLet {A : Ga} {x y u v : Int32} : (aLet A x y u v).2 = A := by
  unfold aLet
  repeat' split
  all_goals rfl
theorem s_aInl {A : Ga} {x y u v : Int32} : (aInl A x y u v).2 = A := by
  unfold aInl
  repeat' split
  all_goals rfl
theorem s_aVie {A : Ga} {x y u : Int32} : (aVie A x y u).2 = A := by
  unfold aVie
  repeat' split
  all_goals rfl
theorem s_aNam {A : Ga} {x y u : Int32} : (aNam A x y u).2 = A := by
  unfold aNam
  repeat' split
  all_goals rfl
theorem s_aLog {A : Ga} {x y : Int32} : (aLog A x y).2 = A := by
  unfold aLog
  repeat' split
  all_goals rfl
theorem s_aTab {A : Ga} {x y u : Int32} : (aTab A x y u).2 = A := by
  unfold aTab
  repeat' split
  all_goals rfl
theorem s_aKnw {A : Ga} {x y u : Int32} : (aKnw A x y u).2 = A := by
  unfold aKnw
  repeat' split
  all_goals rfl
theorem s_aHas {A : Ga} {x y : Int32} : (aHas A x y).2 = A := by
  unfold aHas
  repeat' split
  all_goals rfl
theorem s_aSte {A : Ga} {x y : Int32} : (aSte A x y).2 = A := by
  unfold aSte
  repeat' split
  all_goals rfl
theorem s_aUnl {A : Ga} {x y : Int32} : (aUnl A x y).2 = A := by
  unfold aUnl
  repeat' split
  all_goals rfl
theorem s_aWou {A : Ga} {x y u : Int32} : (aWou A x y u).2 = A := by
  unfold aWou
  repeat' split
  all_goals rfl
theorem s_aEve {A : Ga} {x y : Int32} : (aEve A x y).2 = A := by
  unfold aEve
  repeat' split
  all_goals rfl
theorem s_aAhd {A : Ga} {x y : Int32} : (aAhd A x y).2 = A := by
  unfold aAhd
  repeat' split
  all_goals rfl
theorem s_aWid {A : Ga} {x : Int32} : (aWid A x).2 = A := by
  unfold aWid
  repeat' split
  all_goals rfl
theorem s_aCam {A : Ga} {x y u : Int32} : (aCam A x y u).2 = A := by
  unfold aCam
  repeat' split
  all_goals rfl
theorem s_aWay {A : Ga} {x y u : Int32} : (aWay A x y u).2 = A := by
  unfold aWay
  repeat' split
  all_goals rfl
theorem s_aSlo {A : Ga} {x : Int32} : (aSlo A x).2 = A := by
  unfold aSlo
  repeat' split
  all_goals rfl
theorem s_aChn {A : Ga} {x y : Int32} : (aChn A x y).2 = A := by
  unfold aChn
  repeat' split
  all_goals rfl
theorem s_aBet {A : Ga} {x y : Int32} : (aBet A x y).2 = A := by
  unfold aBet
  repeat' split
  all_goals rfl
theorem s_aFro {A : Ga} {x y : Int32} : (aFro A x y).2 = A := by
  unfold aFro
  repeat' split
  all_goals rfl
theorem s_aOnl {A : Ga} {x y u : Int32} : (aOnl A x y u).2 = A := by
  unfold aOnl
  repeat' split
  all_goals rfl
theorem s_aSur {A : Ga} {x y : Int32} : (aSur A x y).2 = A := by
  unfold aSur
  repeat' split
  all_goals rfl
theorem s_aPar {A : Ga} {x : Int32} : (aPar A x).2 = A := by
  unfold aPar
  repeat' split
  all_goals rfl
theorem s_aTra {A : Ga} {x y : Int32} : (aTra A x y).2 = A := by
  unfold aTra
  repeat' split
  all_goals rfl
theorem s_aGos {A : Ga} {x : Int32} : (aGos A x).2 = A := by
  unfold aGos
  repeat' split
  all_goals rfl
theorem s_aFlg {A : Ga} {x y : Int32} : (aFlg A x y).2 = A := by
  unfold aFlg
  repeat' split
  all_goals rfl
theorem s_aJng {A : Ga} {x y u : Int32} : (aJng A x y u).2 = A := by
  unfold aJng
  repeat' split
  all_goals rfl
theorem s_aBst {A : Ga} {x : Int32} : (aBst A x).2 = A := by
  unfold aBst
  repeat' split
  all_goals rfl
