/-! ===== FUNCTIONS of the methods (d40.law); printed by wip/whole/gen/emit.py ===== -/
def F_L_sites (σ : Sto) (pa0 : Nat) (xa1 : Int32) (pa2 : Nat) : Option (Int32 × Sto) :=
  tc (F_X9_sites σ pa0 xa1) (fun x2 s1 =>
    (last s1 pa2 (0 : Int32) x2.toInt64).bind fun s3 =>
    some ((0 : Int32), s3)
  ) (fun E0 s0 => if E0 = "java/lang/IllegalArgumentException" then some ((1 : Int32), s0) else none)
def F_L_mode (σ : Sto) (pa0 : Nat) (xa1 : Int32) (pa2 : Nat) : Option (Int32 × Sto) :=
  tc (F_X9_mode σ pa0 xa1) (fun x2 s1 =>
    (last s1 pa2 (0 : Int32) x2.toInt64).bind fun s3 =>
    some ((0 : Int32), s3)
  ) (fun E0 s0 => if E0 = "java/lang/IllegalArgumentException" then some ((1 : Int32), s0) else none)
def F_L_add (σ : Sto) (pa0 : Nat) (xa1 : Int32) (xa2 : Int32) (pa3 : Nat) : Option (Int32 × Sto) :=
  tc (F_X9_add σ pa0 xa1 xa2) (fun x2 s1 =>
    (last s1 pa3 (0 : Int32) x2.toInt64).bind fun s3 =>
    some ((0 : Int32), s3)
  ) (fun E0 s0 => if E0 = "java/lang/IndexOutOfBoundsException" then some ((1 : Int32), s0) else if E0 = "java/lang/IllegalStateException" then some ((2 : Int32), s0) else if E0 = "java/lang/IllegalArgumentException" then some ((3 : Int32), s0) else none)
def F_L_take (σ : Sto) (pa0 : Nat) (xa1 : Int32) (xa2 : Int32) (pa3 : Nat) : Option (Int32 × Sto) :=
  tc (F_X9_take σ pa0 xa1 xa2) (fun x2 s1 =>
    (last s1 pa3 (0 : Int32) x2.toInt64).bind fun s3 =>
    some ((0 : Int32), s3)
  ) (fun E0 s0 => if E0 = "java/lang/IndexOutOfBoundsException" then some ((1 : Int32), s0) else if E0 = "java/util/NoSuchElementException" then some ((2 : Int32), s0) else if E0 = "java/lang/IllegalStateException" then some ((3 : Int32), s0) else none)
def F_L_write (σ : Sto) (pa0 : Nat) (xa1 : Int32) (xa2 : Int32) (pa3 : Nat) : Option (Int32 × Sto) :=
  tc (F_X9_write σ pa0 xa1 xa2) (fun x2 s1 =>
    (last s1 pa3 (0 : Int32) x2.toInt64).bind fun s3 =>
    some ((0 : Int32), s3)
  ) (fun E0 s0 => if E0 = "java/lang/IndexOutOfBoundsException" then some ((1 : Int32), s0) else if E0 = "java/lang/IllegalStateException" then some ((2 : Int32), s0) else none)
def F_L_come (σ : Sto) (pa0 : Nat) (xa1 : Int32) (xa2 : Int32) (xa3 : Int32) (pa4 : Nat) : Option (Int32 × Sto) :=
  tc (F_X9_come σ pa0 xa1 xa2 xa3) (fun x2 s1 =>
    (last s1 pa4 (0 : Int32) x2.toInt64).bind fun s3 =>
    some ((0 : Int32), s3)
  ) (fun E0 s0 => if E0 = "java/lang/IndexOutOfBoundsException" then some ((1 : Int32), s0) else if E0 = "java/util/NoSuchElementException" then some ((2 : Int32), s0) else if E0 = "java/lang/IllegalStateException" then some ((3 : Int32), s0) else none)
def F_L_lose (σ : Sto) (pa0 : Nat) (xa1 : Int32) (xa2 : Int32) (xa3 : Int32) (pa4 : Nat) : Option (Int32 × Sto) :=
  tc (F_X9_lose σ pa0 xa1 xa2 xa3) (fun x2 s1 =>
    (last s1 pa4 (0 : Int32) x2.toInt64).bind fun s3 =>
    some ((0 : Int32), s3)
  ) (fun E0 s0 => if E0 = "java/lang/IndexOutOfBoundsException" then some ((1 : Int32), s0) else if E0 = "java/util/NoSuchElementException" then some ((2 : Int32), s0) else none)
def F_L_twice (σ : Sto) (pa0 : Nat) (xa1 : Int32) (xa2 : Int32) (xa3 : Int32) (pa4 : Nat) : Option (Int32 × Sto) :=
  tc (F_X9_twice σ pa0 xa1 xa2 xa3) (fun x2 s1 =>
    (last s1 pa4 (0 : Int32) x2.toInt64).bind fun s3 =>
    some ((0 : Int32), s3)
  ) (fun E0 s0 => if E0 = "java/lang/IndexOutOfBoundsException" then some ((1 : Int32), s0) else if E0 = "java/util/NoSuchElementException" then some ((2 : Int32), s0) else if E0 = "java/lang/IllegalStateException" then some ((3 : Int32), s0) else none)
def F_L_waiting (σ : Sto) (pa0 : Nat) (xa1 : Int32) (xa2 : Int32) (pa3 : Nat) : Option (Int32 × Sto) :=
  tc (F_X9_waiting σ pa0 xa1 xa2) (fun x2 s1 =>
    (last s1 pa3 (0 : Int32) x2.toInt64).bind fun s3 =>
    some ((0 : Int32), s3)
  ) (fun E0 s0 => if E0 = "java/lang/IndexOutOfBoundsException" then some ((1 : Int32), s0) else none)
def F_L_letter (σ : Sto) (pa0 : Nat) (xa1 : Int32) (xa2 : Int32) (xa3 : Int32) (xa4 : Int32) (pa5 : Nat) : Option (Int32 × Sto) :=
  tc (F_X9_letter σ pa0 xa1 xa2 xa3 xa4) (fun x2 s1 =>
    (last s1 pa5 (0 : Int32) x2.toInt64).bind fun s3 =>
    some ((0 : Int32), s3)
  ) (fun E0 s0 => if E0 = "java/lang/IndexOutOfBoundsException" then some ((1 : Int32), s0) else if E0 = "java/util/NoSuchElementException" then some ((2 : Int32), s0) else if E0 = "java/lang/IllegalArgumentException" then some ((3 : Int32), s0) else none)
def F_L_inLetter (σ : Sto) (pa0 : Nat) (xa1 : Int32) (xa2 : Int32) (xa3 : Int32) (xa4 : Int32) (pa5 : Nat) : Option (Int32 × Sto) :=
  tc (F_X9_inLetter σ pa0 xa1 xa2 xa3 xa4) (fun x2 s1 =>
    (last s1 pa5 (0 : Int32) x2.toInt64).bind fun s3 =>
    some ((0 : Int32), s3)
  ) (fun E0 s0 => if E0 = "java/lang/IndexOutOfBoundsException" then some ((1 : Int32), s0) else if E0 = "java/util/NoSuchElementException" then some ((2 : Int32), s0) else none)
def F_L_save (σ : Sto) (pa0 : Nat) (xa1 : Int32) (pa2 : Nat) : Option (Int32 × Sto) :=
  tc (F_X9_save σ pa0 xa1) (fun x2 s1 =>
    (last s1 pa2 (0 : Int32) x2.toInt64).bind fun s3 =>
    some ((0 : Int32), s3)
  ) (fun E0 s0 => if E0 = "java/lang/IndexOutOfBoundsException" then some ((1 : Int32), s0) else none)
def F_L_fall (σ : Sto) (pa0 : Nat) (xa1 : Int32) (pa2 : Nat) : Option (Int32 × Sto) :=
  tc (F_X9_fall σ pa0 xa1) (fun x2 s1 =>
    (last s1 pa2 (0 : Int32) x2.toInt64).bind fun s3 =>
    some ((0 : Int32), s3)
  ) (fun E0 s0 => if E0 = "java/lang/IndexOutOfBoundsException" then some ((1 : Int32), s0) else none)
def F_L_join (σ : Sto) (pa0 : Nat) (xa1 : Int32) (xa2 : Int32) (pa3 : Nat) : Option (Int32 × Sto) :=
  tc (F_X9_join σ pa0 xa1 xa2) (fun x2 s1 =>
    (last s1 pa3 (0 : Int32) x2.toInt64).bind fun s3 =>
    some ((0 : Int32), s3)
  ) (fun E0 s0 => if E0 = "java/lang/IndexOutOfBoundsException" then some ((1 : Int32), s0) else none)
def F_L_chance (σ : Sto) (pa0 : Nat) (xa1 : Int32) (xa2 : Int32) (pa3 : Nat) : Option (Int32 × Sto) :=
  tc (F_X9_chance σ pa0 xa1 xa2) (fun x2 s1 =>
    (last s1 pa3 (0 : Int32) x2.toInt64).bind fun s3 =>
    some ((0 : Int32), s3)
  ) (fun E0 s0 => if E0 = "java/lang/IllegalArgumentException" then some ((1 : Int32), s0) else none)
def F_L_keep (σ : Sto) (pa0 : Nat) (xa1 : Int32) (pa2 : Nat) : Option (Int32 × Sto) :=
  tc (F_X9_keep σ pa0 xa1) (fun x2 s1 =>
    (last s1 pa2 (0 : Int32) x2.toInt64).bind fun s3 =>
    some ((0 : Int32), s3)
  ) (fun E0 s0 => if E0 = "java/lang/IllegalArgumentException" then some ((1 : Int32), s0) else none)
def F_L_back (σ : Sto) (pa0 : Nat) (xa1 : Int32) (pa2 : Nat) : Option (Int32 × Sto) :=
  tc (F_X9_back σ pa0 xa1) (fun x2 s1 =>
    (last s1 pa2 (0 : Int32) x2.toInt64).bind fun s3 =>
    some ((0 : Int32), s3)
  ) (fun E0 s0 => if E0 = "java/lang/IllegalArgumentException" then some ((1 : Int32), s0) else if E0 = "java/util/NoSuchElementException" then some ((2 : Int32), s0) else none)
def F_L_cut (σ : Sto) (pa0 : Nat) (xa1 : Int32) (xa2 : Int32) (xa3 : Int32) (pa4 : Nat) : Option (Int32 × Sto) :=
  tc (F_X9_cut σ pa0 xa1 xa2 xa3) (fun x2 s1 =>
    if x2 = 0 then (
      (last s1 pa4 (0 : Int32) (0 : Int64)).bind fun s3 =>
      some ((0 : Int32), s3)
    ) else (
      (last s1 pa4 (0 : Int32) (1 : Int64)).bind fun s4 =>
      some ((0 : Int32), s4)
    )
  ) (fun E0 s0 => if E0 = "java/lang/IndexOutOfBoundsException" then some ((1 : Int32), s0) else none)
def F_L_view (σ : Sto) (pa0 : Nat) (xa1 : Int32) (xa2 : Int32) (xa3 : Int32) (pa4 : Nat) : Option (Int32 × Sto) :=
  tc (F_X9_view σ pa0 xa1 xa2 xa3) (fun x2 s1 =>
    (last s1 pa4 (0 : Int32) x2.toInt64).bind fun s3 =>
    some ((0 : Int32), s3)
  ) (fun E0 s0 => if E0 = "java/lang/IndexOutOfBoundsException" then some ((1 : Int32), s0) else if E0 = "java/util/NoSuchElementException" then some ((2 : Int32), s0) else if E0 = "java/lang/IllegalArgumentException" then some ((3 : Int32), s0) else none)
def F_L_named (σ : Sto) (pa0 : Nat) (xa1 : Int32) (xa2 : Int32) (xa3 : Int32) (pa4 : Nat) : Option (Int32 × Sto) :=
  tc (F_X9_named σ pa0 xa1 xa2 xa3) (fun x2 s1 =>
    (last s1 pa4 (0 : Int32) x2.toInt64).bind fun s3 =>
    some ((0 : Int32), s3)
  ) (fun E0 s0 => if E0 = "java/lang/IndexOutOfBoundsException" then some ((1 : Int32), s0) else if E0 = "java/lang/IllegalArgumentException" then some ((2 : Int32), s0) else none)
def F_L_log (σ : Sto) (pa0 : Nat) (xa1 : Int32) (xa2 : Int32) (pa3 : Nat) : Option (Int32 × Sto) :=
  tc (F_X9_log σ pa0 xa1 xa2) (fun x2 s1 =>
    (last s1 pa3 (0 : Int32) x2.toInt64).bind fun s3 =>
    some ((0 : Int32), s3)
  ) (fun E0 s0 => if E0 = "java/lang/IndexOutOfBoundsException" then some ((1 : Int32), s0) else if E0 = "java/util/NoSuchElementException" then some ((2 : Int32), s0) else none)
def F_L_table (σ : Sto) (pa0 : Nat) (xa1 : Int32) (xa2 : Int32) (xa3 : Int32) (pa4 : Nat) : Option (Int32 × Sto) :=
  tc (F_X9_table σ pa0 xa1 xa2 xa3) (fun x2 s1 =>
    (last s1 pa4 (0 : Int32) x2.toInt64).bind fun s3 =>
    some ((0 : Int32), s3)
  ) (fun E0 s0 => if E0 = "java/lang/IndexOutOfBoundsException" then some ((1 : Int32), s0) else none)
def F_L_knows (σ : Sto) (pa0 : Nat) (xa1 : Int32) (xa2 : Int32) (xa3 : Int32) (pa4 : Nat) : Option (Int32 × Sto) :=
  tc (F_X9_knows σ pa0 xa1 xa2 xa3) (fun x2 s1 =>
    if x2 = 0 then (
      (last s1 pa4 (0 : Int32) (0 : Int64)).bind fun s3 =>
      some ((0 : Int32), s3)
    ) else (
      (last s1 pa4 (0 : Int32) (1 : Int64)).bind fun s4 =>
      some ((0 : Int32), s4)
    )
  ) (fun E0 s0 => if E0 = "java/lang/IndexOutOfBoundsException" then some ((1 : Int32), s0) else none)
def F_L_has (σ : Sto) (pa0 : Nat) (xa1 : Int32) (xa2 : Int32) (pa3 : Nat) : Option (Int32 × Sto) :=
  tc (F_X9_has σ pa0 xa1 xa2) (fun x2 s1 =>
    if x2 = 0 then (
      (last s1 pa3 (0 : Int32) (0 : Int64)).bind fun s3 =>
      some ((0 : Int32), s3)
    ) else (
      (last s1 pa3 (0 : Int32) (1 : Int64)).bind fun s4 =>
      some ((0 : Int32), s4)
    )
  ) (fun E0 s0 => if E0 = "java/lang/IndexOutOfBoundsException" then some ((1 : Int32), s0) else none)
def F_L_site (σ : Sto) (pa0 : Nat) (xa1 : Int32) (xa2 : Int32) (pa3 : Nat) : Option (Int32 × Sto) :=
  tc (F_X9_site σ pa0 xa1 xa2) (fun x2 s1 =>
    (last s1 pa3 (0 : Int32) x2.toInt64).bind fun s3 =>
    some ((0 : Int32), s3)
  ) (fun E0 s0 => if E0 = "java/lang/IndexOutOfBoundsException" then some ((1 : Int32), s0) else if E0 = "java/lang/IllegalArgumentException" then some ((2 : Int32), s0) else none)
def F_L_unlike (σ : Sto) (pa0 : Nat) (xa1 : Int32) (xa2 : Int32) (pa3 : Nat) : Option (Int32 × Sto) :=
  tc (F_X9_unlike σ pa0 xa1 xa2) (fun x2 s1 =>
    (last s1 pa3 (0 : Int32) x2.toInt64).bind fun s3 =>
    some ((0 : Int32), s3)
  ) (fun E0 s0 => if E0 = "java/lang/IndexOutOfBoundsException" then some ((1 : Int32), s0) else none)
def F_L_would (σ : Sto) (pa0 : Nat) (xa1 : Int32) (xa2 : Int32) (xa3 : Int32) (pa4 : Nat) : Option (Int32 × Sto) :=
  tc (F_X9_would σ pa0 xa1 xa2 xa3) (fun x2 s1 =>
    (last s1 pa4 (0 : Int32) x2.toInt64).bind fun s3 =>
    some ((0 : Int32), s3)
  ) (fun E0 s0 => if E0 = "java/lang/IndexOutOfBoundsException" then some ((1 : Int32), s0) else if E0 = "java/lang/IllegalArgumentException" then some ((2 : Int32), s0) else none)
def F_L_event (σ : Sto) (pa0 : Nat) (xa1 : Int32) (xa2 : Int32) (pa3 : Nat) : Option (Int32 × Sto) :=
  tc (F_X9_event σ pa0 xa1 xa2) (fun x2 s1 =>
    (last s1 pa3 (0 : Int32) x2.toInt64).bind fun s3 =>
    some ((0 : Int32), s3)
  ) (fun E0 s0 => if E0 = "java/lang/IndexOutOfBoundsException" then some ((1 : Int32), s0) else if E0 = "java/lang/IllegalArgumentException" then some ((2 : Int32), s0) else none)
def F_L_ahead (σ : Sto) (pa0 : Nat) (xa1 : Int32) (xa2 : Int32) (pa3 : Nat) : Option (Int32 × Sto) :=
  tc (F_X9_ahead σ pa0 xa1 xa2) (fun x2 s1 =>
    if x2 = 0 then (
      (last s1 pa3 (0 : Int32) (0 : Int64)).bind fun s3 =>
      some ((0 : Int32), s3)
    ) else (
      (last s1 pa3 (0 : Int32) (1 : Int64)).bind fun s4 =>
      some ((0 : Int32), s4)
    )
  ) (fun E0 s0 => if E0 = "java/lang/IndexOutOfBoundsException" then some ((1 : Int32), s0) else none)
def F_L_wide (σ : Sto) (pa0 : Nat) (xa1 : Int32) (pa2 : Nat) : Option (Int32 × Sto) :=
  tc (F_X9_wide σ pa0 xa1) (fun x2 s1 =>
    (last s1 pa2 (0 : Int32) x2.toInt64).bind fun s3 =>
    some ((0 : Int32), s3)
  ) (fun E0 s0 => if E0 = "java/lang/IllegalArgumentException" then some ((1 : Int32), s0) else none)
def F_L_came (σ : Sto) (pa0 : Nat) (xa1 : Int32) (xa2 : Int32) (xa3 : Int32) (pa4 : Nat) : Option (Int32 × Sto) :=
  tc (F_X9_came σ pa0 xa1 xa2 xa3) (fun x2 s1 =>
    (last s1 pa4 (0 : Int32) x2.toInt64).bind fun s3 =>
    some ((0 : Int32), s3)
  ) (fun E0 s0 => if E0 = "java/lang/IndexOutOfBoundsException" then some ((1 : Int32), s0) else if E0 = "java/lang/IllegalArgumentException" then some ((2 : Int32), s0) else none)
def F_L_way (σ : Sto) (pa0 : Nat) (xa1 : Int32) (xa2 : Int32) (xa3 : Int32) (pa4 : Nat) : Option (Int32 × Sto) :=
  tc (F_X9_way σ pa0 xa1 xa2 xa3) (fun x2 s1 =>
    (last s1 pa4 (0 : Int32) x2.toInt64).bind fun s3 =>
    some ((0 : Int32), s3)
  ) (fun E0 s0 => if E0 = "java/lang/IndexOutOfBoundsException" then some ((1 : Int32), s0) else none)
def F_L_slowest (σ : Sto) (pa0 : Nat) (xa1 : Int32) (pa2 : Nat) : Option (Int32 × Sto) :=
  tc (F_X9_slowest σ pa0 xa1) (fun x2 s1 =>
    (last s1 pa2 (0 : Int32) x2.toInt64).bind fun s3 =>
    some ((0 : Int32), s3)
  ) (fun E0 s0 => if E0 = "java/lang/IllegalArgumentException" then some ((1 : Int32), s0) else none)
def F_L_chain (σ : Sto) (pa0 : Nat) (xa1 : Int32) (xa2 : Int32) (pa3 : Nat) : Option (Int32 × Sto) :=
  tc (F_X9_chain σ pa0 xa1 xa2) (fun x2 s1 =>
    (last s1 pa3 (0 : Int32) x2.toInt64).bind fun s3 =>
    some ((0 : Int32), s3)
  ) (fun E0 s0 => if E0 = "java/lang/IndexOutOfBoundsException" then some ((1 : Int32), s0) else none)
def F_L_between (σ : Sto) (pa0 : Nat) (xa1 : Int32) (xa2 : Int32) (pa3 : Nat) : Option (Int32 × Sto) :=
  tc (F_X9_between σ pa0 xa1 xa2) (fun x2 s1 =>
    (last s1 pa3 (0 : Int32) x2.toInt64).bind fun s3 =>
    some ((0 : Int32), s3)
  ) (fun E0 s0 => if E0 = "java/lang/IndexOutOfBoundsException" then some ((1 : Int32), s0) else none)
def F_L_front (σ : Sto) (pa0 : Nat) (xa1 : Int32) (xa2 : Int32) (pa3 : Nat) : Option (Int32 × Sto) :=
  tc (F_X9_front σ pa0 xa1 xa2) (fun x2 s1 =>
    (last s1 pa3 (0 : Int32) x2.toInt64).bind fun s3 =>
    some ((0 : Int32), s3)
  ) (fun E0 s0 => if E0 = "java/lang/IndexOutOfBoundsException" then some ((1 : Int32), s0) else none)
def F_L_only (σ : Sto) (pa0 : Nat) (xa1 : Int32) (xa2 : Int32) (xa3 : Int32) (pa4 : Nat) : Option (Int32 × Sto) :=
  tc (F_X9_only σ pa0 xa1 xa2 xa3) (fun x2 s1 =>
    (last s1 pa4 (0 : Int32) x2.toInt64).bind fun s3 =>
    some ((0 : Int32), s3)
  ) (fun E0 s0 => if E0 = "java/lang/IndexOutOfBoundsException" then some ((1 : Int32), s0) else none)
def F_L_sure (σ : Sto) (pa0 : Nat) (xa1 : Int32) (xa2 : Int32) (pa3 : Nat) : Option (Int32 × Sto) :=
  tc (F_X9_sure σ pa0 xa1 xa2) (fun x2 s1 =>
    (last s1 pa3 (0 : Int32) x2.toInt64).bind fun s3 =>
    some ((0 : Int32), s3)
  ) (fun E0 s0 => if E0 = "java/lang/IndexOutOfBoundsException" then some ((1 : Int32), s0) else if E0 = "java/lang/IllegalArgumentException" then some ((2 : Int32), s0) else none)
def F_L_part (σ : Sto) (pa0 : Nat) (xa1 : Int32) (pa2 : Nat) : Option (Int32 × Sto) :=
  tc (F_X9_part σ pa0 xa1) (fun x2 s1 =>
    (last s1 pa2 (0 : Int32) x2.toInt64).bind fun s3 =>
    some ((0 : Int32), s3)
  ) (fun E0 s0 => if E0 = "java/lang/IndexOutOfBoundsException" then some ((1 : Int32), s0) else none)
def F_L_trace (σ : Sto) (pa0 : Nat) (xa1 : Int32) (xa2 : Int32) (pa3 : Nat) : Option (Int32 × Sto) :=
  tc (F_X9_trace σ pa0 xa1 xa2) (fun x2 s1 =>
    (last s1 pa3 (0 : Int32) x2.toInt64).bind fun s3 =>
    some ((0 : Int32), s3)
  ) (fun E0 s0 => if E0 = "java/util/NoSuchElementException" then some ((1 : Int32), s0) else if E0 = "java/lang/IllegalArgumentException" then some ((2 : Int32), s0) else none)
def F_L_gossip (σ : Sto) (pa0 : Nat) (xa1 : Int32) (pa2 : Nat) : Option (Int32 × Sto) :=
  tc (F_X9_gossip σ pa0 xa1) (fun x2 s1 =>
    (last s1 pa2 (0 : Int32) x2.toInt64).bind fun s3 =>
    some ((0 : Int32), s3)
  ) (fun E0 s0 => if E0 = "java/lang/IllegalArgumentException" then some ((1 : Int32), s0) else none)
def F_L_falling (σ : Sto) (pa0 : Nat) (xa1 : Int32) (xa2 : Int32) (pa3 : Nat) : Option (Int32 × Sto) :=
  tc (F_X9_falling σ pa0 xa1 xa2) (fun x2 s1 =>
    (last s1 pa3 (0 : Int32) x2.toInt64).bind fun s3 =>
    some ((0 : Int32), s3)
  ) (fun E0 s0 => if E0 = "java/lang/IndexOutOfBoundsException" then some ((1 : Int32), s0) else if E0 = "java/lang/IllegalArgumentException" then some ((2 : Int32), s0) else none)
def F_L_joining (σ : Sto) (pa0 : Nat) (xa1 : Int32) (xa2 : Int32) (xa3 : Int32) (pa4 : Nat) : Option (Int32 × Sto) :=
  tc (F_X9_joining σ pa0 xa1 xa2 xa3) (fun x2 s1 =>
    (last s1 pa4 (0 : Int32) x2.toInt64).bind fun s3 =>
    some ((0 : Int32), s3)
  ) (fun E0 s0 => if E0 = "java/lang/IndexOutOfBoundsException" then some ((1 : Int32), s0) else if E0 = "java/lang/IllegalArgumentException" then some ((2 : Int32), s0) else none)
def F_L_best (σ : Sto) (pa0 : Nat) (xa1 : Int32) (pa2 : Nat) : Option (Int32 × Sto) :=
  tc (F_X9_best σ pa0 xa1) (fun x2 s1 =>
    (last s1 pa2 (0 : Int32) x2.toInt64).bind fun s3 =>
    some ((0 : Int32), s3)
  ) (fun E0 s0 => if E0 = "java/lang/IndexOutOfBoundsException" then some ((1 : Int32), s0) else none)
def F_L_law_C0 (sl : Nat) (sx : Nat → Int32) (pC1 : Nat) (pC2 : Nat) (pC3 : Nat) (xC4 : Int32) (sC : Sto) (kJ : Sto → Option (Int32 × Sto)) : Option (Int32 × Sto) :=
  (sld sl sx (xC4 + (1 : Int32))).bind fun x10 =>
  wb (F_L_sites sC pC1 x10 pC3) fun x12 s11 =>
  (sld sl sx (xC4 + (1 : Int32))).bind fun x13 =>
  wb (F_X10_sites s11 pC2 x13) fun x15 s14 =>
  (F_X10_thrown s14 pC2).bind fun x16 =>
  if x16 = x12 then (
    if x12 = 0 then (
      (lald s14 pC3 (0 : Int32)).bind fun y17 =>
      if (lg_cmp y17 x15.toInt64) = 0 then (
        kJ s14
      ) else (
        some ((0 : Int32), s14)
      )
    ) else (
      kJ s14
    )
  ) else (
    some ((0 : Int32), s14)
  )
def F_L_law_C1 (sl : Nat) (sx : Nat → Int32) (pC1 : Nat) (pC2 : Nat) (pC3 : Nat) (xC4 : Int32) (sC : Sto) (kJ : Sto → Option (Int32 × Sto)) : Option (Int32 × Sto) :=
  (sld sl sx (xC4 + (1 : Int32))).bind fun x18 =>
  wb (F_L_mode sC pC1 x18 pC3) fun x20 s19 =>
  (sld sl sx (xC4 + (1 : Int32))).bind fun x21 =>
  wb (F_X10_mode s19 pC2 x21) fun x23 s22 =>
  (F_X10_thrown s22 pC2).bind fun x24 =>
  if x24 = x20 then (
    if x20 = 0 then (
      (lald s22 pC3 (0 : Int32)).bind fun y25 =>
      if (lg_cmp y25 x23.toInt64) = 0 then (
        kJ s22
      ) else (
        some ((0 : Int32), s22)
      )
    ) else (
      kJ s22
    )
  ) else (
    some ((0 : Int32), s22)
  )
def F_L_law_C2 (sl : Nat) (sx : Nat → Int32) (pC1 : Nat) (pC2 : Nat) (pC3 : Nat) (xC4 : Int32) (sC : Sto) (kJ : Sto → Option (Int32 × Sto)) : Option (Int32 × Sto) :=
  (sld sl sx (xC4 + (1 : Int32))).bind fun x26 =>
  (sld sl sx (xC4 + (2 : Int32))).bind fun x27 =>
  wb (F_L_add sC pC1 x26 x27 pC3) fun x29 s28 =>
  (sld sl sx (xC4 + (1 : Int32))).bind fun x30 =>
  (sld sl sx (xC4 + (2 : Int32))).bind fun x31 =>
  wb (F_X10_add s28 pC2 x30 x31) fun x33 s32 =>
  (F_X10_thrown s32 pC2).bind fun x34 =>
  if x34 = x29 then (
    if x29 = 0 then (
      (lald s32 pC3 (0 : Int32)).bind fun y35 =>
      if (lg_cmp y35 x33.toInt64) = 0 then (
        kJ s32
      ) else (
        some ((0 : Int32), s32)
      )
    ) else (
      kJ s32
    )
  ) else (
    some ((0 : Int32), s32)
  )
def F_L_law_C3 (sl : Nat) (sx : Nat → Int32) (pC1 : Nat) (pC2 : Nat) (pC3 : Nat) (xC4 : Int32) (sC : Sto) (kJ : Sto → Option (Int32 × Sto)) : Option (Int32 × Sto) :=
  (sld sl sx (xC4 + (1 : Int32))).bind fun x36 =>
  (sld sl sx (xC4 + (2 : Int32))).bind fun x37 =>
  wb (F_L_take sC pC1 x36 x37 pC3) fun x39 s38 =>
  (sld sl sx (xC4 + (1 : Int32))).bind fun x40 =>
  (sld sl sx (xC4 + (2 : Int32))).bind fun x41 =>
  wb (F_X10_take s38 pC2 x40 x41) fun x43 s42 =>
  (F_X10_thrown s42 pC2).bind fun x44 =>
  if x44 = x39 then (
    if x39 = 0 then (
      (lald s42 pC3 (0 : Int32)).bind fun y45 =>
      if (lg_cmp y45 x43.toInt64) = 0 then (
        kJ s42
      ) else (
        some ((0 : Int32), s42)
      )
    ) else (
      kJ s42
    )
  ) else (
    some ((0 : Int32), s42)
  )
def F_L_law_C4 (sl : Nat) (sx : Nat → Int32) (pC1 : Nat) (pC2 : Nat) (pC3 : Nat) (xC4 : Int32) (sC : Sto) (kJ : Sto → Option (Int32 × Sto)) : Option (Int32 × Sto) :=
  (sld sl sx (xC4 + (1 : Int32))).bind fun x46 =>
  (sld sl sx (xC4 + (2 : Int32))).bind fun x47 =>
  wb (F_L_write sC pC1 x46 x47 pC3) fun x49 s48 =>
  (sld sl sx (xC4 + (1 : Int32))).bind fun x50 =>
  (sld sl sx (xC4 + (2 : Int32))).bind fun x51 =>
  wb (F_X10_write s48 pC2 x50 x51) fun x53 s52 =>
  (F_X10_thrown s52 pC2).bind fun x54 =>
  if x54 = x49 then (
    if x49 = 0 then (
      (lald s52 pC3 (0 : Int32)).bind fun y55 =>
      if (lg_cmp y55 x53.toInt64) = 0 then (
        kJ s52
      ) else (
        some ((0 : Int32), s52)
      )
    ) else (
      kJ s52
    )
  ) else (
    some ((0 : Int32), s52)
  )
def F_L_law_C5 (sl : Nat) (sx : Nat → Int32) (pC1 : Nat) (pC2 : Nat) (pC3 : Nat) (xC4 : Int32) (sC : Sto) (kJ : Sto → Option (Int32 × Sto)) : Option (Int32 × Sto) :=
  (sld sl sx (xC4 + (1 : Int32))).bind fun x56 =>
  (sld sl sx (xC4 + (2 : Int32))).bind fun x57 =>
  (sld sl sx (xC4 + (3 : Int32))).bind fun x58 =>
  wb (F_L_come sC pC1 x56 x57 x58 pC3) fun x60 s59 =>
  (sld sl sx (xC4 + (1 : Int32))).bind fun x61 =>
  (sld sl sx (xC4 + (2 : Int32))).bind fun x62 =>
  (sld sl sx (xC4 + (3 : Int32))).bind fun x63 =>
  wb (F_X10_come s59 pC2 x61 x62 x63) fun x65 s64 =>
  (F_X10_thrown s64 pC2).bind fun x66 =>
  if x66 = x60 then (
    if x60 = 0 then (
      (lald s64 pC3 (0 : Int32)).bind fun y67 =>
      if (lg_cmp y67 x65.toInt64) = 0 then (
        kJ s64
      ) else (
        some ((0 : Int32), s64)
      )
    ) else (
      kJ s64
    )
  ) else (
    some ((0 : Int32), s64)
  )
def F_L_law_C6 (sl : Nat) (sx : Nat → Int32) (pC1 : Nat) (pC2 : Nat) (pC3 : Nat) (xC4 : Int32) (sC : Sto) (kJ : Sto → Option (Int32 × Sto)) : Option (Int32 × Sto) :=
  (sld sl sx (xC4 + (1 : Int32))).bind fun x68 =>
  (sld sl sx (xC4 + (2 : Int32))).bind fun x69 =>
  (sld sl sx (xC4 + (3 : Int32))).bind fun x70 =>
  wb (F_L_lose sC pC1 x68 x69 x70 pC3) fun x72 s71 =>
  (sld sl sx (xC4 + (1 : Int32))).bind fun x73 =>
  (sld sl sx (xC4 + (2 : Int32))).bind fun x74 =>
  (sld sl sx (xC4 + (3 : Int32))).bind fun x75 =>
  wb (F_X10_lose s71 pC2 x73 x74 x75) fun x77 s76 =>
  (F_X10_thrown s76 pC2).bind fun x78 =>
  if x78 = x72 then (
    if x72 = 0 then (
      (lald s76 pC3 (0 : Int32)).bind fun y79 =>
      if (lg_cmp y79 x77.toInt64) = 0 then (
        kJ s76
      ) else (
        some ((0 : Int32), s76)
      )
    ) else (
      kJ s76
    )
  ) else (
    some ((0 : Int32), s76)
  )
def F_L_law_C7 (sl : Nat) (sx : Nat → Int32) (pC1 : Nat) (pC2 : Nat) (pC3 : Nat) (xC4 : Int32) (sC : Sto) (kJ : Sto → Option (Int32 × Sto)) : Option (Int32 × Sto) :=
  (sld sl sx (xC4 + (1 : Int32))).bind fun x80 =>
  (sld sl sx (xC4 + (2 : Int32))).bind fun x81 =>
  (sld sl sx (xC4 + (3 : Int32))).bind fun x82 =>
  wb (F_L_twice sC pC1 x80 x81 x82 pC3) fun x84 s83 =>
  (sld sl sx (xC4 + (1 : Int32))).bind fun x85 =>
  (sld sl sx (xC4 + (2 : Int32))).bind fun x86 =>
  (sld sl sx (xC4 + (3 : Int32))).bind fun x87 =>
  wb (F_X10_twice s83 pC2 x85 x86 x87) fun x89 s88 =>
  (F_X10_thrown s88 pC2).bind fun x90 =>
  if x90 = x84 then (
    if x84 = 0 then (
      (lald s88 pC3 (0 : Int32)).bind fun y91 =>
      if (lg_cmp y91 x89.toInt64) = 0 then (
        kJ s88
      ) else (
        some ((0 : Int32), s88)
      )
    ) else (
      kJ s88
    )
  ) else (
    some ((0 : Int32), s88)
  )
def F_L_law_C8 (sl : Nat) (sx : Nat → Int32) (pC1 : Nat) (pC2 : Nat) (pC3 : Nat) (xC4 : Int32) (sC : Sto) (kJ : Sto → Option (Int32 × Sto)) : Option (Int32 × Sto) :=
  (sld sl sx (xC4 + (1 : Int32))).bind fun x92 =>
  (sld sl sx (xC4 + (2 : Int32))).bind fun x93 =>
  wb (F_L_waiting sC pC1 x92 x93 pC3) fun x95 s94 =>
  (sld sl sx (xC4 + (1 : Int32))).bind fun x96 =>
  (sld sl sx (xC4 + (2 : Int32))).bind fun x97 =>
  wb (F_X10_waiting s94 pC2 x96 x97) fun x99 s98 =>
  (F_X10_thrown s98 pC2).bind fun x100 =>
  if x100 = x95 then (
    if x95 = 0 then (
      (lald s98 pC3 (0 : Int32)).bind fun y101 =>
      if (lg_cmp y101 x99.toInt64) = 0 then (
        kJ s98
      ) else (
        some ((0 : Int32), s98)
      )
    ) else (
      kJ s98
    )
  ) else (
    some ((0 : Int32), s98)
  )
def F_L_law_C9 (sl : Nat) (sx : Nat → Int32) (pC1 : Nat) (pC2 : Nat) (pC3 : Nat) (xC4 : Int32) (sC : Sto) (kJ : Sto → Option (Int32 × Sto)) : Option (Int32 × Sto) :=
  (sld sl sx (xC4 + (1 : Int32))).bind fun x102 =>
  (sld sl sx (xC4 + (2 : Int32))).bind fun x103 =>
  (sld sl sx (xC4 + (3 : Int32))).bind fun x104 =>
  (sld sl sx (xC4 + (4 : Int32))).bind fun x105 =>
  wb (F_L_letter sC pC1 x102 x103 x104 x105 pC3) fun x107 s106 =>
  (sld sl sx (xC4 + (1 : Int32))).bind fun x108 =>
  (sld sl sx (xC4 + (2 : Int32))).bind fun x109 =>
  (sld sl sx (xC4 + (3 : Int32))).bind fun x110 =>
  (sld sl sx (xC4 + (4 : Int32))).bind fun x111 =>
  wb (F_X10_letter s106 pC2 x108 x109 x110 x111) fun x113 s112 =>
  (F_X10_thrown s112 pC2).bind fun x114 =>
  if x114 = x107 then (
    if x107 = 0 then (
      (lald s112 pC3 (0 : Int32)).bind fun y115 =>
      if (lg_cmp y115 x113.toInt64) = 0 then (
        kJ s112
      ) else (
        some ((0 : Int32), s112)
      )
    ) else (
      kJ s112
    )
  ) else (
    some ((0 : Int32), s112)
  )
def F_L_law_C10 (sl : Nat) (sx : Nat → Int32) (pC1 : Nat) (pC2 : Nat) (pC3 : Nat) (xC4 : Int32) (sC : Sto) (kJ : Sto → Option (Int32 × Sto)) : Option (Int32 × Sto) :=
  (sld sl sx (xC4 + (1 : Int32))).bind fun x116 =>
  (sld sl sx (xC4 + (2 : Int32))).bind fun x117 =>
  (sld sl sx (xC4 + (3 : Int32))).bind fun x118 =>
  (sld sl sx (xC4 + (4 : Int32))).bind fun x119 =>
  wb (F_L_inLetter sC pC1 x116 x117 x118 x119 pC3) fun x121 s120 =>
  (sld sl sx (xC4 + (1 : Int32))).bind fun x122 =>
  (sld sl sx (xC4 + (2 : Int32))).bind fun x123 =>
  (sld sl sx (xC4 + (3 : Int32))).bind fun x124 =>
  (sld sl sx (xC4 + (4 : Int32))).bind fun x125 =>
  wb (F_X10_inLetter s120 pC2 x122 x123 x124 x125) fun x127 s126 =>
  (F_X10_thrown s126 pC2).bind fun x128 =>
  if x128 = x121 then (
    if x121 = 0 then (
      (lald s126 pC3 (0 : Int32)).bind fun y129 =>
      if (lg_cmp y129 x127.toInt64) = 0 then (
        kJ s126
      ) else (
        some ((0 : Int32), s126)
      )
    ) else (
      kJ s126
    )
  ) else (
    some ((0 : Int32), s126)
  )
def F_L_law_C11 (sl : Nat) (sx : Nat → Int32) (pC1 : Nat) (pC2 : Nat) (pC3 : Nat) (xC4 : Int32) (sC : Sto) (kJ : Sto → Option (Int32 × Sto)) : Option (Int32 × Sto) :=
  (sld sl sx (xC4 + (1 : Int32))).bind fun x130 =>
  wb (F_L_save sC pC1 x130 pC3) fun x132 s131 =>
  (sld sl sx (xC4 + (1 : Int32))).bind fun x133 =>
  wb (F_X10_save s131 pC2 x133) fun x135 s134 =>
  (F_X10_thrown s134 pC2).bind fun x136 =>
  if x136 = x132 then (
    if x132 = 0 then (
      (lald s134 pC3 (0 : Int32)).bind fun y137 =>
      if (lg_cmp y137 x135.toInt64) = 0 then (
        kJ s134
      ) else (
        some ((0 : Int32), s134)
      )
    ) else (
      kJ s134
    )
  ) else (
    some ((0 : Int32), s134)
  )
def F_L_law_C12 (sl : Nat) (sx : Nat → Int32) (pC1 : Nat) (pC2 : Nat) (pC3 : Nat) (xC4 : Int32) (sC : Sto) (kJ : Sto → Option (Int32 × Sto)) : Option (Int32 × Sto) :=
  (sld sl sx (xC4 + (1 : Int32))).bind fun x138 =>
  wb (F_L_fall sC pC1 x138 pC3) fun x140 s139 =>
  (sld sl sx (xC4 + (1 : Int32))).bind fun x141 =>
  wb (F_X10_fall s139 pC2 x141) fun x143 s142 =>
  (F_X10_thrown s142 pC2).bind fun x144 =>
  if x144 = x140 then (
    if x140 = 0 then (
      (lald s142 pC3 (0 : Int32)).bind fun y145 =>
      if (lg_cmp y145 x143.toInt64) = 0 then (
        kJ s142
      ) else (
        some ((0 : Int32), s142)
      )
    ) else (
      kJ s142
    )
  ) else (
    some ((0 : Int32), s142)
  )
def F_L_law_C13 (sl : Nat) (sx : Nat → Int32) (pC1 : Nat) (pC2 : Nat) (pC3 : Nat) (xC4 : Int32) (sC : Sto) (kJ : Sto → Option (Int32 × Sto)) : Option (Int32 × Sto) :=
  (sld sl sx (xC4 + (1 : Int32))).bind fun x146 =>
  (sld sl sx (xC4 + (2 : Int32))).bind fun x147 =>
  wb (F_L_join sC pC1 x146 x147 pC3) fun x149 s148 =>
  (sld sl sx (xC4 + (1 : Int32))).bind fun x150 =>
  (sld sl sx (xC4 + (2 : Int32))).bind fun x151 =>
  wb (F_X10_join s148 pC2 x150 x151) fun x153 s152 =>
  (F_X10_thrown s152 pC2).bind fun x154 =>
  if x154 = x149 then (
    if x149 = 0 then (
      (lald s152 pC3 (0 : Int32)).bind fun y155 =>
      if (lg_cmp y155 x153.toInt64) = 0 then (
        kJ s152
      ) else (
        some ((0 : Int32), s152)
      )
    ) else (
      kJ s152
    )
  ) else (
    some ((0 : Int32), s152)
  )
def F_L_law_C14 (sl : Nat) (sx : Nat → Int32) (pC1 : Nat) (pC2 : Nat) (pC3 : Nat) (xC4 : Int32) (sC : Sto) (kJ : Sto → Option (Int32 × Sto)) : Option (Int32 × Sto) :=
  (sld sl sx (xC4 + (1 : Int32))).bind fun x156 =>
  (sld sl sx (xC4 + (2 : Int32))).bind fun x157 =>
  wb (F_L_chance sC pC1 x156 x157 pC3) fun x159 s158 =>
  (sld sl sx (xC4 + (1 : Int32))).bind fun x160 =>
  (sld sl sx (xC4 + (2 : Int32))).bind fun x161 =>
  wb (F_X10_chance s158 pC2 x160 x161) fun x163 s162 =>
  (F_X10_thrown s162 pC2).bind fun x164 =>
  if x164 = x159 then (
    if x159 = 0 then (
      (lald s162 pC3 (0 : Int32)).bind fun y165 =>
      if (lg_cmp y165 x163.toInt64) = 0 then (
        kJ s162
      ) else (
        some ((0 : Int32), s162)
      )
    ) else (
      kJ s162
    )
  ) else (
    some ((0 : Int32), s162)
  )
def F_L_law_C15 (sl : Nat) (sx : Nat → Int32) (pC1 : Nat) (pC2 : Nat) (pC3 : Nat) (xC4 : Int32) (sC : Sto) (kJ : Sto → Option (Int32 × Sto)) : Option (Int32 × Sto) :=
  (sld sl sx (xC4 + (1 : Int32))).bind fun x166 =>
  wb (F_L_keep sC pC1 x166 pC3) fun x168 s167 =>
  (sld sl sx (xC4 + (1 : Int32))).bind fun x169 =>
  wb (F_X10_keep s167 pC2 x169) fun x171 s170 =>
  (F_X10_thrown s170 pC2).bind fun x172 =>
  if x172 = x168 then (
    if x168 = 0 then (
      (lald s170 pC3 (0 : Int32)).bind fun y173 =>
      if (lg_cmp y173 x171.toInt64) = 0 then (
        kJ s170
      ) else (
        some ((0 : Int32), s170)
      )
    ) else (
      kJ s170
    )
  ) else (
    some ((0 : Int32), s170)
  )
def F_L_law_C16 (sl : Nat) (sx : Nat → Int32) (pC1 : Nat) (pC2 : Nat) (pC3 : Nat) (xC4 : Int32) (sC : Sto) (kJ : Sto → Option (Int32 × Sto)) : Option (Int32 × Sto) :=
  (sld sl sx (xC4 + (1 : Int32))).bind fun x174 =>
  wb (F_L_back sC pC1 x174 pC3) fun x176 s175 =>
  (sld sl sx (xC4 + (1 : Int32))).bind fun x177 =>
  wb (F_X10_back s175 pC2 x177) fun x179 s178 =>
  (F_X10_thrown s178 pC2).bind fun x180 =>
  if x180 = x176 then (
    if x176 = 0 then (
      (lald s178 pC3 (0 : Int32)).bind fun y181 =>
      if (lg_cmp y181 x179.toInt64) = 0 then (
        kJ s178
      ) else (
        some ((0 : Int32), s178)
      )
    ) else (
      kJ s178
    )
  ) else (
    some ((0 : Int32), s178)
  )
def F_L_law_C17 (sl : Nat) (sx : Nat → Int32) (pC1 : Nat) (pC2 : Nat) (pC3 : Nat) (xC4 : Int32) (sC : Sto) (kJ : Sto → Option (Int32 × Sto)) : Option (Int32 × Sto) :=
  (sld sl sx (xC4 + (1 : Int32))).bind fun x182 =>
  (sld sl sx (xC4 + (2 : Int32))).bind fun x183 =>
  (sld sl sx (xC4 + (3 : Int32))).bind fun x184 =>
  jn (fun (x186 : Int32) =>
    wb (F_L_cut sC pC1 x182 x183 x186 pC3) fun x188 s187 =>
    (sld sl sx (xC4 + (1 : Int32))).bind fun x189 =>
    (sld sl sx (xC4 + (2 : Int32))).bind fun x190 =>
    (sld sl sx (xC4 + (3 : Int32))).bind fun x191 =>
    jn (fun (x193 : Int32) =>
      wb (F_X10_cut s187 pC2 x189 x190 x193) fun x195 s194 =>
      (F_X10_thrown s194 pC2).bind fun x196 =>
      if x196 = x188 then (
        if x188 = 0 then (
          (lald s194 pC3 (0 : Int32)).bind fun y197 =>
          jn (fun (y199 : Int64) =>
            if (lg_cmp y197 y199) = 0 then (
              kJ s194
            ) else (
              some ((0 : Int32), s194)
            )
          ) fun j198 =>
          if x195 = 0 then (
            j198 (0 : Int64)
          ) else (
            j198 (1 : Int64)
          )
        ) else (
          kJ s194
        )
      ) else (
        some ((0 : Int32), s194)
      )
    ) fun j192 =>
    if x191 = 0 then (
      j192 (0 : Int32)
    ) else (
      j192 (1 : Int32)
    )
  ) fun j185 =>
  if x184 = 0 then (
    j185 (0 : Int32)
  ) else (
    j185 (1 : Int32)
  )
def F_L_law_C18 (sl : Nat) (sx : Nat → Int32) (pC1 : Nat) (pC2 : Nat) (pC3 : Nat) (xC4 : Int32) (sC : Sto) (kJ : Sto → Option (Int32 × Sto)) : Option (Int32 × Sto) :=
  (sld sl sx (xC4 + (1 : Int32))).bind fun x200 =>
  (sld sl sx (xC4 + (2 : Int32))).bind fun x201 =>
  (sld sl sx (xC4 + (3 : Int32))).bind fun x202 =>
  wb (F_L_view sC pC1 x200 x201 x202 pC3) fun x204 s203 =>
  (sld sl sx (xC4 + (1 : Int32))).bind fun x205 =>
  (sld sl sx (xC4 + (2 : Int32))).bind fun x206 =>
  (sld sl sx (xC4 + (3 : Int32))).bind fun x207 =>
  wb (F_X10_view s203 pC2 x205 x206 x207) fun x209 s208 =>
  (F_X10_thrown s208 pC2).bind fun x210 =>
  if x210 = x204 then (
    if x204 = 0 then (
      (lald s208 pC3 (0 : Int32)).bind fun y211 =>
      if (lg_cmp y211 x209.toInt64) = 0 then (
        kJ s208
      ) else (
        some ((0 : Int32), s208)
      )
    ) else (
      kJ s208
    )
  ) else (
    some ((0 : Int32), s208)
  )
def F_L_law_C19 (sl : Nat) (sx : Nat → Int32) (pC1 : Nat) (pC2 : Nat) (pC3 : Nat) (xC4 : Int32) (sC : Sto) (kJ : Sto → Option (Int32 × Sto)) : Option (Int32 × Sto) :=
  (sld sl sx (xC4 + (1 : Int32))).bind fun x212 =>
  (sld sl sx (xC4 + (2 : Int32))).bind fun x213 =>
  (sld sl sx (xC4 + (3 : Int32))).bind fun x214 =>
  wb (F_L_named sC pC1 x212 x213 x214 pC3) fun x216 s215 =>
  (sld sl sx (xC4 + (1 : Int32))).bind fun x217 =>
  (sld sl sx (xC4 + (2 : Int32))).bind fun x218 =>
  (sld sl sx (xC4 + (3 : Int32))).bind fun x219 =>
  wb (F_X10_named s215 pC2 x217 x218 x219) fun x221 s220 =>
  (F_X10_thrown s220 pC2).bind fun x222 =>
  if x222 = x216 then (
    if x216 = 0 then (
      (lald s220 pC3 (0 : Int32)).bind fun y223 =>
      if (lg_cmp y223 x221.toInt64) = 0 then (
        kJ s220
      ) else (
        some ((0 : Int32), s220)
      )
    ) else (
      kJ s220
    )
  ) else (
    some ((0 : Int32), s220)
  )
def F_L_law_C20 (sl : Nat) (sx : Nat → Int32) (pC1 : Nat) (pC2 : Nat) (pC3 : Nat) (xC4 : Int32) (sC : Sto) (kJ : Sto → Option (Int32 × Sto)) : Option (Int32 × Sto) :=
  (sld sl sx (xC4 + (1 : Int32))).bind fun x224 =>
  (sld sl sx (xC4 + (2 : Int32))).bind fun x225 =>
  wb (F_L_log sC pC1 x224 x225 pC3) fun x227 s226 =>
  (sld sl sx (xC4 + (1 : Int32))).bind fun x228 =>
  (sld sl sx (xC4 + (2 : Int32))).bind fun x229 =>
  wb (F_X10_log s226 pC2 x228 x229) fun x231 s230 =>
  (F_X10_thrown s230 pC2).bind fun x232 =>
  if x232 = x227 then (
    if x227 = 0 then (
      (lald s230 pC3 (0 : Int32)).bind fun y233 =>
      if (lg_cmp y233 x231.toInt64) = 0 then (
        kJ s230
      ) else (
        some ((0 : Int32), s230)
      )
    ) else (
      kJ s230
    )
  ) else (
    some ((0 : Int32), s230)
  )
def F_L_law_C21 (sl : Nat) (sx : Nat → Int32) (pC1 : Nat) (pC2 : Nat) (pC3 : Nat) (xC4 : Int32) (sC : Sto) (kJ : Sto → Option (Int32 × Sto)) : Option (Int32 × Sto) :=
  (sld sl sx (xC4 + (1 : Int32))).bind fun x234 =>
  (sld sl sx (xC4 + (2 : Int32))).bind fun x235 =>
  (sld sl sx (xC4 + (3 : Int32))).bind fun x236 =>
  wb (F_L_table sC pC1 x234 x235 x236 pC3) fun x238 s237 =>
  (sld sl sx (xC4 + (1 : Int32))).bind fun x239 =>
  (sld sl sx (xC4 + (2 : Int32))).bind fun x240 =>
  (sld sl sx (xC4 + (3 : Int32))).bind fun x241 =>
  wb (F_X10_table s237 pC2 x239 x240 x241) fun x243 s242 =>
  (F_X10_thrown s242 pC2).bind fun x244 =>
  if x244 = x238 then (
    if x238 = 0 then (
      (lald s242 pC3 (0 : Int32)).bind fun y245 =>
      if (lg_cmp y245 x243.toInt64) = 0 then (
        kJ s242
      ) else (
        some ((0 : Int32), s242)
      )
    ) else (
      kJ s242
    )
  ) else (
    some ((0 : Int32), s242)
  )
def F_L_law_C22 (sl : Nat) (sx : Nat → Int32) (pC1 : Nat) (pC2 : Nat) (pC3 : Nat) (xC4 : Int32) (sC : Sto) (kJ : Sto → Option (Int32 × Sto)) : Option (Int32 × Sto) :=
  (sld sl sx (xC4 + (1 : Int32))).bind fun x246 =>
  (sld sl sx (xC4 + (2 : Int32))).bind fun x247 =>
  (sld sl sx (xC4 + (3 : Int32))).bind fun x248 =>
  wb (F_L_knows sC pC1 x246 x247 x248 pC3) fun x250 s249 =>
  (sld sl sx (xC4 + (1 : Int32))).bind fun x251 =>
  (sld sl sx (xC4 + (2 : Int32))).bind fun x252 =>
  (sld sl sx (xC4 + (3 : Int32))).bind fun x253 =>
  wb (F_X10_knows s249 pC2 x251 x252 x253) fun x255 s254 =>
  (F_X10_thrown s254 pC2).bind fun x256 =>
  if x256 = x250 then (
    if x250 = 0 then (
      (lald s254 pC3 (0 : Int32)).bind fun y257 =>
      jn (fun (y259 : Int64) =>
        if (lg_cmp y257 y259) = 0 then (
          kJ s254
        ) else (
          some ((0 : Int32), s254)
        )
      ) fun j258 =>
      if x255 = 0 then (
        j258 (0 : Int64)
      ) else (
        j258 (1 : Int64)
      )
    ) else (
      kJ s254
    )
  ) else (
    some ((0 : Int32), s254)
  )
def F_L_law_C23 (sl : Nat) (sx : Nat → Int32) (pC1 : Nat) (pC2 : Nat) (pC3 : Nat) (xC4 : Int32) (sC : Sto) (kJ : Sto → Option (Int32 × Sto)) : Option (Int32 × Sto) :=
  (sld sl sx (xC4 + (1 : Int32))).bind fun x260 =>
  (sld sl sx (xC4 + (2 : Int32))).bind fun x261 =>
  wb (F_L_has sC pC1 x260 x261 pC3) fun x263 s262 =>
  (sld sl sx (xC4 + (1 : Int32))).bind fun x264 =>
  (sld sl sx (xC4 + (2 : Int32))).bind fun x265 =>
  wb (F_X10_has s262 pC2 x264 x265) fun x267 s266 =>
  (F_X10_thrown s266 pC2).bind fun x268 =>
  if x268 = x263 then (
    if x263 = 0 then (
      (lald s266 pC3 (0 : Int32)).bind fun y269 =>
      jn (fun (y271 : Int64) =>
        if (lg_cmp y269 y271) = 0 then (
          kJ s266
        ) else (
          some ((0 : Int32), s266)
        )
      ) fun j270 =>
      if x267 = 0 then (
        j270 (0 : Int64)
      ) else (
        j270 (1 : Int64)
      )
    ) else (
      kJ s266
    )
  ) else (
    some ((0 : Int32), s266)
  )
def F_L_law_C24 (sl : Nat) (sx : Nat → Int32) (pC1 : Nat) (pC2 : Nat) (pC3 : Nat) (xC4 : Int32) (sC : Sto) (kJ : Sto → Option (Int32 × Sto)) : Option (Int32 × Sto) :=
  (sld sl sx (xC4 + (1 : Int32))).bind fun x272 =>
  (sld sl sx (xC4 + (2 : Int32))).bind fun x273 =>
  wb (F_L_site sC pC1 x272 x273 pC3) fun x275 s274 =>
  (sld sl sx (xC4 + (1 : Int32))).bind fun x276 =>
  (sld sl sx (xC4 + (2 : Int32))).bind fun x277 =>
  wb (F_X10_site s274 pC2 x276 x277) fun x279 s278 =>
  (F_X10_thrown s278 pC2).bind fun x280 =>
  if x280 = x275 then (
    if x275 = 0 then (
      (lald s278 pC3 (0 : Int32)).bind fun y281 =>
      if (lg_cmp y281 x279.toInt64) = 0 then (
        kJ s278
      ) else (
        some ((0 : Int32), s278)
      )
    ) else (
      kJ s278
    )
  ) else (
    some ((0 : Int32), s278)
  )
def F_L_law_C25 (sl : Nat) (sx : Nat → Int32) (pC1 : Nat) (pC2 : Nat) (pC3 : Nat) (xC4 : Int32) (sC : Sto) (kJ : Sto → Option (Int32 × Sto)) : Option (Int32 × Sto) :=
  (sld sl sx (xC4 + (1 : Int32))).bind fun x282 =>
  (sld sl sx (xC4 + (2 : Int32))).bind fun x283 =>
  wb (F_L_unlike sC pC1 x282 x283 pC3) fun x285 s284 =>
  (sld sl sx (xC4 + (1 : Int32))).bind fun x286 =>
  (sld sl sx (xC4 + (2 : Int32))).bind fun x287 =>
  wb (F_X10_unlike s284 pC2 x286 x287) fun x289 s288 =>
  (F_X10_thrown s288 pC2).bind fun x290 =>
  if x290 = x285 then (
    if x285 = 0 then (
      (lald s288 pC3 (0 : Int32)).bind fun y291 =>
      if (lg_cmp y291 x289.toInt64) = 0 then (
        kJ s288
      ) else (
        some ((0 : Int32), s288)
      )
    ) else (
      kJ s288
    )
  ) else (
    some ((0 : Int32), s288)
  )
def F_L_law_C26 (sl : Nat) (sx : Nat → Int32) (pC1 : Nat) (pC2 : Nat) (pC3 : Nat) (xC4 : Int32) (sC : Sto) (kJ : Sto → Option (Int32 × Sto)) : Option (Int32 × Sto) :=
  (sld sl sx (xC4 + (1 : Int32))).bind fun x292 =>
  (sld sl sx (xC4 + (2 : Int32))).bind fun x293 =>
  (sld sl sx (xC4 + (3 : Int32))).bind fun x294 =>
  wb (F_L_would sC pC1 x292 x293 x294 pC3) fun x296 s295 =>
  (sld sl sx (xC4 + (1 : Int32))).bind fun x297 =>
  (sld sl sx (xC4 + (2 : Int32))).bind fun x298 =>
  (sld sl sx (xC4 + (3 : Int32))).bind fun x299 =>
  wb (F_X10_would s295 pC2 x297 x298 x299) fun x301 s300 =>
  (F_X10_thrown s300 pC2).bind fun x302 =>
  if x302 = x296 then (
    if x296 = 0 then (
      (lald s300 pC3 (0 : Int32)).bind fun y303 =>
      if (lg_cmp y303 x301.toInt64) = 0 then (
        kJ s300
      ) else (
        some ((0 : Int32), s300)
      )
    ) else (
      kJ s300
    )
  ) else (
    some ((0 : Int32), s300)
  )
def F_L_law_C27 (sl : Nat) (sx : Nat → Int32) (pC1 : Nat) (pC2 : Nat) (pC3 : Nat) (xC4 : Int32) (sC : Sto) (kJ : Sto → Option (Int32 × Sto)) : Option (Int32 × Sto) :=
  (sld sl sx (xC4 + (1 : Int32))).bind fun x304 =>
  (sld sl sx (xC4 + (2 : Int32))).bind fun x305 =>
  wb (F_L_event sC pC1 x304 x305 pC3) fun x307 s306 =>
  (sld sl sx (xC4 + (1 : Int32))).bind fun x308 =>
  (sld sl sx (xC4 + (2 : Int32))).bind fun x309 =>
  wb (F_X10_event s306 pC2 x308 x309) fun x311 s310 =>
  (F_X10_thrown s310 pC2).bind fun x312 =>
  if x312 = x307 then (
    if x307 = 0 then (
      (lald s310 pC3 (0 : Int32)).bind fun y313 =>
      if (lg_cmp y313 x311.toInt64) = 0 then (
        kJ s310
      ) else (
        some ((0 : Int32), s310)
      )
    ) else (
      kJ s310
    )
  ) else (
    some ((0 : Int32), s310)
  )
def F_L_law_C28 (sl : Nat) (sx : Nat → Int32) (pC1 : Nat) (pC2 : Nat) (pC3 : Nat) (xC4 : Int32) (sC : Sto) (kJ : Sto → Option (Int32 × Sto)) : Option (Int32 × Sto) :=
  (sld sl sx (xC4 + (1 : Int32))).bind fun x314 =>
  (sld sl sx (xC4 + (2 : Int32))).bind fun x315 =>
  wb (F_L_ahead sC pC1 x314 x315 pC3) fun x317 s316 =>
  (sld sl sx (xC4 + (1 : Int32))).bind fun x318 =>
  (sld sl sx (xC4 + (2 : Int32))).bind fun x319 =>
  wb (F_X10_ahead s316 pC2 x318 x319) fun x321 s320 =>
  (F_X10_thrown s320 pC2).bind fun x322 =>
  if x322 = x317 then (
    if x317 = 0 then (
      (lald s320 pC3 (0 : Int32)).bind fun y323 =>
      jn (fun (y325 : Int64) =>
        if (lg_cmp y323 y325) = 0 then (
          kJ s320
        ) else (
          some ((0 : Int32), s320)
        )
      ) fun j324 =>
      if x321 = 0 then (
        j324 (0 : Int64)
      ) else (
        j324 (1 : Int64)
      )
    ) else (
      kJ s320
    )
  ) else (
    some ((0 : Int32), s320)
  )
def F_L_law_C29 (sl : Nat) (sx : Nat → Int32) (pC1 : Nat) (pC2 : Nat) (pC3 : Nat) (xC4 : Int32) (sC : Sto) (kJ : Sto → Option (Int32 × Sto)) : Option (Int32 × Sto) :=
  (sld sl sx (xC4 + (1 : Int32))).bind fun x326 =>
  wb (F_L_wide sC pC1 x326 pC3) fun x328 s327 =>
  (sld sl sx (xC4 + (1 : Int32))).bind fun x329 =>
  wb (F_X10_wide s327 pC2 x329) fun x331 s330 =>
  (F_X10_thrown s330 pC2).bind fun x332 =>
  if x332 = x328 then (
    if x328 = 0 then (
      (lald s330 pC3 (0 : Int32)).bind fun y333 =>
      if (lg_cmp y333 x331.toInt64) = 0 then (
        kJ s330
      ) else (
        some ((0 : Int32), s330)
      )
    ) else (
      kJ s330
    )
  ) else (
    some ((0 : Int32), s330)
  )
def F_L_law_C30 (sl : Nat) (sx : Nat → Int32) (pC1 : Nat) (pC2 : Nat) (pC3 : Nat) (xC4 : Int32) (sC : Sto) (kJ : Sto → Option (Int32 × Sto)) : Option (Int32 × Sto) :=
  (sld sl sx (xC4 + (1 : Int32))).bind fun x334 =>
  (sld sl sx (xC4 + (2 : Int32))).bind fun x335 =>
  (sld sl sx (xC4 + (3 : Int32))).bind fun x336 =>
  wb (F_L_came sC pC1 x334 x335 x336 pC3) fun x338 s337 =>
  (sld sl sx (xC4 + (1 : Int32))).bind fun x339 =>
  (sld sl sx (xC4 + (2 : Int32))).bind fun x340 =>
  (sld sl sx (xC4 + (3 : Int32))).bind fun x341 =>
  wb (F_X10_came s337 pC2 x339 x340 x341) fun x343 s342 =>
  (F_X10_thrown s342 pC2).bind fun x344 =>
  if x344 = x338 then (
    if x338 = 0 then (
      (lald s342 pC3 (0 : Int32)).bind fun y345 =>
      if (lg_cmp y345 x343.toInt64) = 0 then (
        kJ s342
      ) else (
        some ((0 : Int32), s342)
      )
    ) else (
      kJ s342
    )
  ) else (
    some ((0 : Int32), s342)
  )
def F_L_law_C31 (sl : Nat) (sx : Nat → Int32) (pC1 : Nat) (pC2 : Nat) (pC3 : Nat) (xC4 : Int32) (sC : Sto) (kJ : Sto → Option (Int32 × Sto)) : Option (Int32 × Sto) :=
  (sld sl sx (xC4 + (1 : Int32))).bind fun x346 =>
  (sld sl sx (xC4 + (2 : Int32))).bind fun x347 =>
  (sld sl sx (xC4 + (3 : Int32))).bind fun x348 =>
  wb (F_L_way sC pC1 x346 x347 x348 pC3) fun x350 s349 =>
  (sld sl sx (xC4 + (1 : Int32))).bind fun x351 =>
  (sld sl sx (xC4 + (2 : Int32))).bind fun x352 =>
  (sld sl sx (xC4 + (3 : Int32))).bind fun x353 =>
  wb (F_X10_way s349 pC2 x351 x352 x353) fun x355 s354 =>
  (F_X10_thrown s354 pC2).bind fun x356 =>
  if x356 = x350 then (
    if x350 = 0 then (
      (lald s354 pC3 (0 : Int32)).bind fun y357 =>
      if (lg_cmp y357 x355.toInt64) = 0 then (
        kJ s354
      ) else (
        some ((0 : Int32), s354)
      )
    ) else (
      kJ s354
    )
  ) else (
    some ((0 : Int32), s354)
  )
def F_L_law_C32 (sl : Nat) (sx : Nat → Int32) (pC1 : Nat) (pC2 : Nat) (pC3 : Nat) (xC4 : Int32) (sC : Sto) (kJ : Sto → Option (Int32 × Sto)) : Option (Int32 × Sto) :=
  (sld sl sx (xC4 + (1 : Int32))).bind fun x358 =>
  wb (F_L_slowest sC pC1 x358 pC3) fun x360 s359 =>
  (sld sl sx (xC4 + (1 : Int32))).bind fun x361 =>
  wb (F_X10_slowest s359 pC2 x361) fun x363 s362 =>
  (F_X10_thrown s362 pC2).bind fun x364 =>
  if x364 = x360 then (
    if x360 = 0 then (
      (lald s362 pC3 (0 : Int32)).bind fun y365 =>
      if (lg_cmp y365 x363.toInt64) = 0 then (
        kJ s362
      ) else (
        some ((0 : Int32), s362)
      )
    ) else (
      kJ s362
    )
  ) else (
    some ((0 : Int32), s362)
  )
def F_L_law_C33 (sl : Nat) (sx : Nat → Int32) (pC1 : Nat) (pC2 : Nat) (pC3 : Nat) (xC4 : Int32) (sC : Sto) (kJ : Sto → Option (Int32 × Sto)) : Option (Int32 × Sto) :=
  (sld sl sx (xC4 + (1 : Int32))).bind fun x366 =>
  (sld sl sx (xC4 + (2 : Int32))).bind fun x367 =>
  wb (F_L_chain sC pC1 x366 x367 pC3) fun x369 s368 =>
  (sld sl sx (xC4 + (1 : Int32))).bind fun x370 =>
  (sld sl sx (xC4 + (2 : Int32))).bind fun x371 =>
  wb (F_X10_chain s368 pC2 x370 x371) fun x373 s372 =>
  (F_X10_thrown s372 pC2).bind fun x374 =>
  if x374 = x369 then (
    if x369 = 0 then (
      (lald s372 pC3 (0 : Int32)).bind fun y375 =>
      if (lg_cmp y375 x373.toInt64) = 0 then (
        kJ s372
      ) else (
        some ((0 : Int32), s372)
      )
    ) else (
      kJ s372
    )
  ) else (
    some ((0 : Int32), s372)
  )
def F_L_law_C34 (sl : Nat) (sx : Nat → Int32) (pC1 : Nat) (pC2 : Nat) (pC3 : Nat) (xC4 : Int32) (sC : Sto) (kJ : Sto → Option (Int32 × Sto)) : Option (Int32 × Sto) :=
  (sld sl sx (xC4 + (1 : Int32))).bind fun x376 =>
  (sld sl sx (xC4 + (2 : Int32))).bind fun x377 =>
  wb (F_L_between sC pC1 x376 x377 pC3) fun x379 s378 =>
  (sld sl sx (xC4 + (1 : Int32))).bind fun x380 =>
  (sld sl sx (xC4 + (2 : Int32))).bind fun x381 =>
  wb (F_X10_between s378 pC2 x380 x381) fun x383 s382 =>
  (F_X10_thrown s382 pC2).bind fun x384 =>
  if x384 = x379 then (
    if x379 = 0 then (
      (lald s382 pC3 (0 : Int32)).bind fun y385 =>
      if (lg_cmp y385 x383.toInt64) = 0 then (
        kJ s382
      ) else (
        some ((0 : Int32), s382)
      )
    ) else (
      kJ s382
    )
  ) else (
    some ((0 : Int32), s382)
  )
def F_L_law_C35 (sl : Nat) (sx : Nat → Int32) (pC1 : Nat) (pC2 : Nat) (pC3 : Nat) (xC4 : Int32) (sC : Sto) (kJ : Sto → Option (Int32 × Sto)) : Option (Int32 × Sto) :=
  (sld sl sx (xC4 + (1 : Int32))).bind fun x386 =>
  (sld sl sx (xC4 + (2 : Int32))).bind fun x387 =>
  wb (F_L_front sC pC1 x386 x387 pC3) fun x389 s388 =>
  (sld sl sx (xC4 + (1 : Int32))).bind fun x390 =>
  (sld sl sx (xC4 + (2 : Int32))).bind fun x391 =>
  wb (F_X10_front s388 pC2 x390 x391) fun x393 s392 =>
  (F_X10_thrown s392 pC2).bind fun x394 =>
  if x394 = x389 then (
    if x389 = 0 then (
      (lald s392 pC3 (0 : Int32)).bind fun y395 =>
      if (lg_cmp y395 x393.toInt64) = 0 then (
        kJ s392
      ) else (
        some ((0 : Int32), s392)
      )
    ) else (
      kJ s392
    )
  ) else (
    some ((0 : Int32), s392)
  )
def F_L_law_C36 (sl : Nat) (sx : Nat → Int32) (pC1 : Nat) (pC2 : Nat) (pC3 : Nat) (xC4 : Int32) (sC : Sto) (kJ : Sto → Option (Int32 × Sto)) : Option (Int32 × Sto) :=
  (sld sl sx (xC4 + (1 : Int32))).bind fun x396 =>
  (sld sl sx (xC4 + (2 : Int32))).bind fun x397 =>
  (sld sl sx (xC4 + (3 : Int32))).bind fun x398 =>
  wb (F_L_only sC pC1 x396 x397 x398 pC3) fun x400 s399 =>
  (sld sl sx (xC4 + (1 : Int32))).bind fun x401 =>
  (sld sl sx (xC4 + (2 : Int32))).bind fun x402 =>
  (sld sl sx (xC4 + (3 : Int32))).bind fun x403 =>
  wb (F_X10_only s399 pC2 x401 x402 x403) fun x405 s404 =>
  (F_X10_thrown s404 pC2).bind fun x406 =>
  if x406 = x400 then (
    if x400 = 0 then (
      (lald s404 pC3 (0 : Int32)).bind fun y407 =>
      if (lg_cmp y407 x405.toInt64) = 0 then (
        kJ s404
      ) else (
        some ((0 : Int32), s404)
      )
    ) else (
      kJ s404
    )
  ) else (
    some ((0 : Int32), s404)
  )
def F_L_law_C37 (sl : Nat) (sx : Nat → Int32) (pC1 : Nat) (pC2 : Nat) (pC3 : Nat) (xC4 : Int32) (sC : Sto) (kJ : Sto → Option (Int32 × Sto)) : Option (Int32 × Sto) :=
  (sld sl sx (xC4 + (1 : Int32))).bind fun x408 =>
  (sld sl sx (xC4 + (2 : Int32))).bind fun x409 =>
  wb (F_L_sure sC pC1 x408 x409 pC3) fun x411 s410 =>
  (sld sl sx (xC4 + (1 : Int32))).bind fun x412 =>
  (sld sl sx (xC4 + (2 : Int32))).bind fun x413 =>
  wb (F_X10_sure s410 pC2 x412 x413) fun x415 s414 =>
  (F_X10_thrown s414 pC2).bind fun x416 =>
  if x416 = x411 then (
    if x411 = 0 then (
      (lald s414 pC3 (0 : Int32)).bind fun y417 =>
      if (lg_cmp y417 x415.toInt64) = 0 then (
        kJ s414
      ) else (
        some ((0 : Int32), s414)
      )
    ) else (
      kJ s414
    )
  ) else (
    some ((0 : Int32), s414)
  )
def F_L_law_C38 (sl : Nat) (sx : Nat → Int32) (pC1 : Nat) (pC2 : Nat) (pC3 : Nat) (xC4 : Int32) (sC : Sto) (kJ : Sto → Option (Int32 × Sto)) : Option (Int32 × Sto) :=
  (sld sl sx (xC4 + (1 : Int32))).bind fun x418 =>
  wb (F_L_part sC pC1 x418 pC3) fun x420 s419 =>
  (sld sl sx (xC4 + (1 : Int32))).bind fun x421 =>
  wb (F_X10_part s419 pC2 x421) fun x423 s422 =>
  (F_X10_thrown s422 pC2).bind fun x424 =>
  if x424 = x420 then (
    if x420 = 0 then (
      (lald s422 pC3 (0 : Int32)).bind fun y425 =>
      if (lg_cmp y425 x423.toInt64) = 0 then (
        kJ s422
      ) else (
        some ((0 : Int32), s422)
      )
    ) else (
      kJ s422
    )
  ) else (
    some ((0 : Int32), s422)
  )
def F_L_law_C39 (sl : Nat) (sx : Nat → Int32) (pC1 : Nat) (pC2 : Nat) (pC3 : Nat) (xC4 : Int32) (sC : Sto) (kJ : Sto → Option (Int32 × Sto)) : Option (Int32 × Sto) :=
  (sld sl sx (xC4 + (1 : Int32))).bind fun x426 =>
  (sld sl sx (xC4 + (2 : Int32))).bind fun x427 =>
  wb (F_L_trace sC pC1 x426 x427 pC3) fun x429 s428 =>
  (sld sl sx (xC4 + (1 : Int32))).bind fun x430 =>
  (sld sl sx (xC4 + (2 : Int32))).bind fun x431 =>
  wb (F_X10_trace s428 pC2 x430 x431) fun x433 s432 =>
  (F_X10_thrown s432 pC2).bind fun x434 =>
  if x434 = x429 then (
    if x429 = 0 then (
      (lald s432 pC3 (0 : Int32)).bind fun y435 =>
      if (lg_cmp y435 x433.toInt64) = 0 then (
        kJ s432
      ) else (
        some ((0 : Int32), s432)
      )
    ) else (
      kJ s432
    )
  ) else (
    some ((0 : Int32), s432)
  )
def F_L_law_C40 (sl : Nat) (sx : Nat → Int32) (pC1 : Nat) (pC2 : Nat) (pC3 : Nat) (xC4 : Int32) (sC : Sto) (kJ : Sto → Option (Int32 × Sto)) : Option (Int32 × Sto) :=
  (sld sl sx (xC4 + (1 : Int32))).bind fun x436 =>
  wb (F_L_gossip sC pC1 x436 pC3) fun x438 s437 =>
  (sld sl sx (xC4 + (1 : Int32))).bind fun x439 =>
  wb (F_X10_gossip s437 pC2 x439) fun x441 s440 =>
  (F_X10_thrown s440 pC2).bind fun x442 =>
  if x442 = x438 then (
    if x438 = 0 then (
      (lald s440 pC3 (0 : Int32)).bind fun y443 =>
      if (lg_cmp y443 x441.toInt64) = 0 then (
        kJ s440
      ) else (
        some ((0 : Int32), s440)
      )
    ) else (
      kJ s440
    )
  ) else (
    some ((0 : Int32), s440)
  )
def F_L_law_C41 (sl : Nat) (sx : Nat → Int32) (pC1 : Nat) (pC2 : Nat) (pC3 : Nat) (xC4 : Int32) (sC : Sto) (kJ : Sto → Option (Int32 × Sto)) : Option (Int32 × Sto) :=
  (sld sl sx (xC4 + (1 : Int32))).bind fun x444 =>
  (sld sl sx (xC4 + (2 : Int32))).bind fun x445 =>
  wb (F_L_falling sC pC1 x444 x445 pC3) fun x447 s446 =>
  (sld sl sx (xC4 + (1 : Int32))).bind fun x448 =>
  (sld sl sx (xC4 + (2 : Int32))).bind fun x449 =>
  wb (F_X10_falling s446 pC2 x448 x449) fun x451 s450 =>
  (F_X10_thrown s450 pC2).bind fun x452 =>
  if x452 = x447 then (
    if x447 = 0 then (
      (lald s450 pC3 (0 : Int32)).bind fun y453 =>
      if (lg_cmp y453 x451.toInt64) = 0 then (
        kJ s450
      ) else (
        some ((0 : Int32), s450)
      )
    ) else (
      kJ s450
    )
  ) else (
    some ((0 : Int32), s450)
  )
def F_L_law_C42 (sl : Nat) (sx : Nat → Int32) (pC1 : Nat) (pC2 : Nat) (pC3 : Nat) (xC4 : Int32) (sC : Sto) (kJ : Sto → Option (Int32 × Sto)) : Option (Int32 × Sto) :=
  (sld sl sx (xC4 + (1 : Int32))).bind fun x454 =>
  (sld sl sx (xC4 + (2 : Int32))).bind fun x455 =>
  (sld sl sx (xC4 + (3 : Int32))).bind fun x456 =>
  wb (F_L_joining sC pC1 x454 x455 x456 pC3) fun x458 s457 =>
  (sld sl sx (xC4 + (1 : Int32))).bind fun x459 =>
  (sld sl sx (xC4 + (2 : Int32))).bind fun x460 =>
  (sld sl sx (xC4 + (3 : Int32))).bind fun x461 =>
  wb (F_X10_joining s457 pC2 x459 x460 x461) fun x463 s462 =>
  (F_X10_thrown s462 pC2).bind fun x464 =>
  if x464 = x458 then (
    if x458 = 0 then (
      (lald s462 pC3 (0 : Int32)).bind fun y465 =>
      if (lg_cmp y465 x463.toInt64) = 0 then (
        kJ s462
      ) else (
        some ((0 : Int32), s462)
      )
    ) else (
      kJ s462
    )
  ) else (
    some ((0 : Int32), s462)
  )
def F_L_law_C43 (sl : Nat) (sx : Nat → Int32) (pC1 : Nat) (pC2 : Nat) (pC3 : Nat) (xC4 : Int32) (sC : Sto) (kJ : Sto → Option (Int32 × Sto)) : Option (Int32 × Sto) :=
  (sld sl sx (xC4 + (1 : Int32))).bind fun x466 =>
  wb (F_L_best sC pC1 x466 pC3) fun x468 s467 =>
  (sld sl sx (xC4 + (1 : Int32))).bind fun x469 =>
  wb (F_X10_best s467 pC2 x469) fun x471 s470 =>
  (F_X10_thrown s470 pC2).bind fun x472 =>
  if x472 = x468 then (
    if x468 = 0 then (
      (lald s470 pC3 (0 : Int32)).bind fun y473 =>
      if (lg_cmp y473 x471.toInt64) = 0 then (
        kJ s470
      ) else (
        some ((0 : Int32), s470)
      )
    ) else (
      kJ s470
    )
  ) else (
    some ((0 : Int32), s470)
  )
def F_L_law_C44 (sl : Nat) (sx : Nat → Int32) (pC1 : Nat) (pC2 : Nat) (pC3 : Nat) (xC4 : Int32) (sC : Sto) (kJ : Sto → Option (Int32 × Sto)) : Option (Int32 × Sto) :=
  (sld sl sx (xC4 + (1 : Int32))).bind fun x474 =>
  wb (F_X9_fewest sC pC1 x474) fun x476 s475 =>
  (sld sl sx (xC4 + (1 : Int32))).bind fun x477 =>
  wb (F_X10_fewest s475 pC2 x477) fun x479 s478 =>
  if x476 = x479 then (
    kJ s478
  ) else (
    some ((0 : Int32), s478)
  )
def F_L_law_C45 (sl : Nat) (sx : Nat → Int32) (pC1 : Nat) (pC2 : Nat) (pC3 : Nat) (xC4 : Int32) (sC : Sto) (kJ : Sto → Option (Int32 × Sto)) : Option (Int32 × Sto) :=
  (sld sl sx (xC4 + (1 : Int32))).bind fun x480 =>
  wb (F_X9_count sC pC1 x480) fun x482 s481 =>
  (sld sl sx (xC4 + (1 : Int32))).bind fun x483 =>
  wb (F_X10_count s481 pC2 x483) fun x485 s484 =>
  if x482 = x485 then (
    kJ s484
  ) else (
    some ((0 : Int32), s484)
  )
def F_L_law_L23 (sl : Nat) (sx : Nat → Int32) (pL1 : Nat) (pL2 : Nat) (pL3 : Nat) : Nat → Int32 → Sto → (Sto → Option (Int32 × Sto)) → Option (Int32 × Sto)
  | 0, _, _, _ => none
  | f + 1, xL4, sL, k3400 =>
    if ((Int32.ofNat sl) - (5 : Int32)) < xL4 then (
      k3400 sL
    ) else (
      (sld sl sx xL4).bind fun x9 =>
      jn (fun (sJ : Sto) =>
        F_L_law_L23 sl sx pL1 pL2 pL3 f (xL4 + (5 : Int32)) sJ k3400
      ) fun kJ =>
      if (x9 &&& (63 : Int32)) = (0 : Int32) then F_L_law_C0 sl sx pL1 pL2 pL3 xL4 sL kJ else (
      if (x9 &&& (63 : Int32)) = (1 : Int32) then F_L_law_C1 sl sx pL1 pL2 pL3 xL4 sL kJ else (
      if (x9 &&& (63 : Int32)) = (2 : Int32) then F_L_law_C2 sl sx pL1 pL2 pL3 xL4 sL kJ else (
      if (x9 &&& (63 : Int32)) = (3 : Int32) then F_L_law_C3 sl sx pL1 pL2 pL3 xL4 sL kJ else (
      if (x9 &&& (63 : Int32)) = (4 : Int32) then F_L_law_C4 sl sx pL1 pL2 pL3 xL4 sL kJ else (
      if (x9 &&& (63 : Int32)) = (5 : Int32) then F_L_law_C5 sl sx pL1 pL2 pL3 xL4 sL kJ else (
      if (x9 &&& (63 : Int32)) = (6 : Int32) then F_L_law_C6 sl sx pL1 pL2 pL3 xL4 sL kJ else (
      if (x9 &&& (63 : Int32)) = (7 : Int32) then F_L_law_C7 sl sx pL1 pL2 pL3 xL4 sL kJ else (
      if (x9 &&& (63 : Int32)) = (8 : Int32) then F_L_law_C8 sl sx pL1 pL2 pL3 xL4 sL kJ else (
      if (x9 &&& (63 : Int32)) = (9 : Int32) then F_L_law_C9 sl sx pL1 pL2 pL3 xL4 sL kJ else (
      if (x9 &&& (63 : Int32)) = (10 : Int32) then F_L_law_C10 sl sx pL1 pL2 pL3 xL4 sL kJ else (
      if (x9 &&& (63 : Int32)) = (11 : Int32) then F_L_law_C11 sl sx pL1 pL2 pL3 xL4 sL kJ else (
      if (x9 &&& (63 : Int32)) = (12 : Int32) then F_L_law_C12 sl sx pL1 pL2 pL3 xL4 sL kJ else (
      if (x9 &&& (63 : Int32)) = (13 : Int32) then F_L_law_C13 sl sx pL1 pL2 pL3 xL4 sL kJ else (
      if (x9 &&& (63 : Int32)) = (14 : Int32) then F_L_law_C14 sl sx pL1 pL2 pL3 xL4 sL kJ else (
      if (x9 &&& (63 : Int32)) = (15 : Int32) then F_L_law_C15 sl sx pL1 pL2 pL3 xL4 sL kJ else (
      if (x9 &&& (63 : Int32)) = (16 : Int32) then F_L_law_C16 sl sx pL1 pL2 pL3 xL4 sL kJ else (
      if (x9 &&& (63 : Int32)) = (17 : Int32) then F_L_law_C17 sl sx pL1 pL2 pL3 xL4 sL kJ else (
      if (x9 &&& (63 : Int32)) = (18 : Int32) then F_L_law_C18 sl sx pL1 pL2 pL3 xL4 sL kJ else (
      if (x9 &&& (63 : Int32)) = (19 : Int32) then F_L_law_C19 sl sx pL1 pL2 pL3 xL4 sL kJ else (
      if (x9 &&& (63 : Int32)) = (20 : Int32) then F_L_law_C20 sl sx pL1 pL2 pL3 xL4 sL kJ else (
      if (x9 &&& (63 : Int32)) = (21 : Int32) then F_L_law_C21 sl sx pL1 pL2 pL3 xL4 sL kJ else (
      if (x9 &&& (63 : Int32)) = (22 : Int32) then F_L_law_C22 sl sx pL1 pL2 pL3 xL4 sL kJ else (
      if (x9 &&& (63 : Int32)) = (23 : Int32) then F_L_law_C23 sl sx pL1 pL2 pL3 xL4 sL kJ else (
      if (x9 &&& (63 : Int32)) = (24 : Int32) then F_L_law_C24 sl sx pL1 pL2 pL3 xL4 sL kJ else (
      if (x9 &&& (63 : Int32)) = (25 : Int32) then F_L_law_C25 sl sx pL1 pL2 pL3 xL4 sL kJ else (
      if (x9 &&& (63 : Int32)) = (26 : Int32) then F_L_law_C26 sl sx pL1 pL2 pL3 xL4 sL kJ else (
      if (x9 &&& (63 : Int32)) = (27 : Int32) then F_L_law_C27 sl sx pL1 pL2 pL3 xL4 sL kJ else (
      if (x9 &&& (63 : Int32)) = (28 : Int32) then F_L_law_C28 sl sx pL1 pL2 pL3 xL4 sL kJ else (
      if (x9 &&& (63 : Int32)) = (29 : Int32) then F_L_law_C29 sl sx pL1 pL2 pL3 xL4 sL kJ else (
      if (x9 &&& (63 : Int32)) = (30 : Int32) then F_L_law_C30 sl sx pL1 pL2 pL3 xL4 sL kJ else (
      if (x9 &&& (63 : Int32)) = (31 : Int32) then F_L_law_C31 sl sx pL1 pL2 pL3 xL4 sL kJ else (
      if (x9 &&& (63 : Int32)) = (32 : Int32) then F_L_law_C32 sl sx pL1 pL2 pL3 xL4 sL kJ else (
      if (x9 &&& (63 : Int32)) = (33 : Int32) then F_L_law_C33 sl sx pL1 pL2 pL3 xL4 sL kJ else (
      if (x9 &&& (63 : Int32)) = (34 : Int32) then F_L_law_C34 sl sx pL1 pL2 pL3 xL4 sL kJ else (
      if (x9 &&& (63 : Int32)) = (35 : Int32) then F_L_law_C35 sl sx pL1 pL2 pL3 xL4 sL kJ else (
      if (x9 &&& (63 : Int32)) = (36 : Int32) then F_L_law_C36 sl sx pL1 pL2 pL3 xL4 sL kJ else (
      if (x9 &&& (63 : Int32)) = (37 : Int32) then F_L_law_C37 sl sx pL1 pL2 pL3 xL4 sL kJ else (
      if (x9 &&& (63 : Int32)) = (38 : Int32) then F_L_law_C38 sl sx pL1 pL2 pL3 xL4 sL kJ else (
      if (x9 &&& (63 : Int32)) = (39 : Int32) then F_L_law_C39 sl sx pL1 pL2 pL3 xL4 sL kJ else (
      if (x9 &&& (63 : Int32)) = (40 : Int32) then F_L_law_C40 sl sx pL1 pL2 pL3 xL4 sL kJ else (
      if (x9 &&& (63 : Int32)) = (41 : Int32) then F_L_law_C41 sl sx pL1 pL2 pL3 xL4 sL kJ else (
      if (x9 &&& (63 : Int32)) = (42 : Int32) then F_L_law_C42 sl sx pL1 pL2 pL3 xL4 sL kJ else (
      if (x9 &&& (63 : Int32)) = (43 : Int32) then F_L_law_C43 sl sx pL1 pL2 pL3 xL4 sL kJ else (
      if (x9 &&& (63 : Int32)) = (44 : Int32) then F_L_law_C44 sl sx pL1 pL2 pL3 xL4 sL kJ else (
      if (x9 &&& (63 : Int32)) = (45 : Int32) then F_L_law_C45 sl sx pL1 pL2 pL3 xL4 sL kJ else (
        kJ sL
      ))))))))))))))))))))))))))))))))))))))))))))))
    )
def F_L_law (sl : Nat) (sx : Nat → Int32) (σ : Sto) : Option (Int32 × Sto) :=
  nw_ σ (.inl (9, dfl_9)) 6 fun p2 s1 =>
  (F_X9_init s1 p2).bind fun s3 =>
  nw_ s3 (.inl (10, dfl_10)) 19 fun p5 s4 =>
  (F_X10_init s4 p5).bind fun s6 =>
  nw_ s6 (.inr (1, ((1 : Int32).toNatClampNeg, .inr (.inl (fun _ => 0))))) (1 : Int32).toNatClampNeg fun p8 s7 =>
  F_L_law_L23 sl sx p2 p5 p8 fu (0 : Int32) s7
    (fun s486 =>
      some ((1 : Int32), s486)
    )
