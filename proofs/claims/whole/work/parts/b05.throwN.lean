/-! ===== NoSuchElementException: its constructor calls the one above by entry 13 of its pool, not 7: the exceptions' text doesn't speak of it ===== -/
def nsN : String := "java/util/NoSuchElementException"
def nsAt (own : String) (ic : Nat) : List Cond := (Bundle.throwableAtoms ++ Bundle.throwableSAtoms ++ Bundle.passSAtoms nsN "java/lang/RuntimeException" 13 prog_25_method_4_code ++ Bundle.chainSAtoms "java/lang/RuntimeException" ["java/lang/Exception"] ++
  ([.methodLink own ic (Bundle.initS nsN), .instantiable nsN 6, .castable nsN nsN, .selects nsN Bundle.tFill0 Bundle.tFill0, .selects nsN Bundle.tFill Bundle.tFill,
   .lays nsN Bundle.tN "cause" "Ljava/lang/Throwable;", .lays nsN Bundle.tN "stackTrace" Bundle.steD, .lays nsN Bundle.tN "suppressedExceptions" Bundle.listD, .lays nsN Bundle.tN "detailMessage" "Ljava/lang/String;",
   .isRef (.static Bundle.tN "UNASSIGNED_STACK" Bundle.steD), .isRef (.static Bundle.tN "SUPPRESSED_SENTINEL" Bundle.listD),
   .fieldLink Bundle.tN 198 Bundle.tN "backtrace" "Ljava/lang/Object;", .lays Bundle.tN Bundle.tN "backtrace" "Ljava/lang/Object;", .lays nsN Bundle.tN "backtrace" "Ljava/lang/Object;"] : List Cond)).filter vx_no
def TN (own : String) (ik ic : Nat) : Prop := Cond.classLink own ik nsN ∈ gw ∧ Cond.initialized nsN ∈ gw ∧ (∀ w ∈ (nsAt own ic).filter goodWord, w ∈ lw_tbl) ∧ ∀ w ∈ (nsAt own ic).filter (fun w => !goodWord w), w ∈ lw_tbl ∧ nw w = true
section THROWN
variable {G : Gx} {d : Nat} {md : Md} {pc : Nat} {lo : List (Nat × Value)} {st : List Value} {σ : Sto}
theorem r_throwN {text : String} {ik is ic : Nat} (hT : TN md.1.cls ik ic) (hs : (md.1.cls, is, text) ∈ strs) (d0 : decode md.2.1 pc = .ok (.new ik, 3)) (d3 : decode md.2.1 (pc + 3) = .ok (.dup, 1)) (d4 : decode md.2.1 (pc + 4) = .ok (.ldc is, 2)) (d6 : decode md.2.1 (pc + 6) = .ok (.invokespecial ic, 3)) (d9 : decode md.2.1 (pc + 9) = .ok (.athrow, 1)) (hh : md.2.2.2.2 = []) (hd6 : 6 ≤ d) (hst : (st.map fun v => v.category).sum ≤ 8) : J G d md pc lo st σ (.inr nsN) (σ.1 ++ [none], σ.2 + 6) := by
  sorry
theorem r_throwNW {text : String} {ik is ic : Nat} (hT : TN md.1.cls ik ic) (hs : (md.1.cls, is, text) ∈ strs) (d0 : decode md.2.1 pc = .ok (.new ik, 3)) (d3 : decode md.2.1 (pc + 3) = .ok (.dup, 1)) (d4 : decode md.2.1 (pc + 4) = .ok (.ldc_w is, 3)) (d6 : decode md.2.1 (pc + 7) = .ok (.invokespecial ic, 3)) (d9 : decode md.2.1 (pc + 10) = .ok (.athrow, 1)) (hh : md.2.2.2.2 = []) (hd6 : 6 ≤ d) (hst : (st.map fun v => v.category).sum ≤ 8) : J G d md pc lo st σ (.inr nsN) (σ.1 ++ [none], σ.2 + 6) := by
  sorry
end THROWN
