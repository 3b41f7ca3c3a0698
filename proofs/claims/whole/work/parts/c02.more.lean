/-! ===== more rules ===== -/
theorem r_tsInE {G : Gx} {d : Nat} {md : Md} {pc : Nat} {lo : List (Nat × Value)} {st : List Value} {σ σ' : Sto} {o : Out} {dflt lw hi : Int} {offs : Array Int} {len : Nat} {x k : Int32} {off : Int} {tgt : Nat} (hx : x = k) (hd : decode md.2.1 pc = .ok (.tableswitch dflt lw hi offs, len)) (ha : ¬ k.toInt < lw) (hb : ¬ hi < k.toInt) (ho : offs[(k.toInt - lw).toNat]? = some off) (ht : (pc : Int) + off = (tgt : Int)) (kk : J G d md tgt lo st σ o σ') : J G d md pc lo (.int x :: st) σ o σ' := by
  subst hx
  exact r_tsIn hd ha hb ho ht kk
