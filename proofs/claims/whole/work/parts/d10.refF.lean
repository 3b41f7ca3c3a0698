/-! ===== FUNCTIONS of the methods (d10.ref); printed by wip/whole/gen/emit.py ===== -/
def F_X10_thrown (σ : Sto) (a0 : Nat) : Option Int32 :=
  chk σ a0 10 <|
  (gI σ a0 10 0).bind fun x1 =>
  some x1
def F_X10_fails (σ : Sto) (a0 : Nat) (xa1 : Int32) : Option (Int32 × Sto) :=
  chk σ a0 10 <|
  (sV σ a0 10 0 (.int xa1)).bind fun s1 =>
  some ((0 : Int32), s1)
def F_X10_isIn (ya0 : Int64) (ya2 : Int64) (ya4 : Int64) : Option Int32 :=
  if (lg_cmp ya0 ya2) < 0 then (
    some (0 : Int32)
  ) else (
    if 0 < (lg_cmp ya0 ya4) then (
      some (0 : Int32)
    ) else (
      some (1 : Int32)
    )
  )
def F_X10_flag (xa0 : Int32) : Option Int32 :=
  if xa0 = 0 then (
    some (0 : Int32)
  ) else (
    some (1 : Int32)
  )
def F_X10_begins_L9 (pL0 : Nat) : Nat → Int32 → Sto → (Sto → Option Sto) → Option Sto
  | 0, _, _, _ => none
  | f + 1, xL3, sL, k28 =>
    if (49425 : Int32) ≤ xL3 then (
      k28 sL
    ) else (
      (gR sL pL0 10 1).bind fun p3 =>
      (iast sL p3 xL3 (0 : Int32)).bind fun s4 =>
      F_X10_begins_L9 pL0 f (xL3 + (1 : Int32)) s4 k28
    )
def F_X10_begins (σ : Sto) (a0 : Nat) (xa1 : Int32) : Option Sto :=
  chk σ a0 10 <|
  (gR σ a0 10 1).bind fun p1 =>
  (iald σ p1 (1 : Int32)).bind fun x2 =>
  F_X10_begins_L9 a0 fu (0 : Int32) σ
    (fun s5 =>
      (gR s5 a0 10 1).bind fun p6 =>
      (iast s5 p6 (0 : Int32) xa1).bind fun s7 =>
      (gR s7 a0 10 1).bind fun p8 =>
      (iast s7 p8 (1 : Int32) x2).bind fun s9 =>
      (sV s9 a0 10 5 (.int (0 : Int32))).bind fun s10 =>
      some s10
    )
def F_X10_init (σ : Sto) (a0 : Nat) : Option Sto :=
  nw_ σ (.inr (0, ((197700 : Int32).toNatClampNeg, .inl (fun _ => 0)))) (197700 : Int32).toNatClampNeg fun p2 s1 =>
  (sV s1 a0 10 1 (.ref p2)).bind fun s3 =>
  nw_ s3 (.inr (2, ((2 : Int32).toNatClampNeg, .inl (fun _ => 0)))) (2 : Int32).toNatClampNeg fun p5 s4 =>
  (sV s4 a0 10 2 (.ref p5)).bind fun s6 =>
  nw_ s6 (.inr (0, ((128 : Int32).toNatClampNeg, .inl (fun _ => 0)))) (128 : Int32).toNatClampNeg fun p8 s7 =>
  (sV s7 a0 10 4 (.ref p8)).bind fun s9 =>
  nw_ s9 (.inr (0, ((120 : Int32).toNatClampNeg, .inl (fun _ => 0)))) (120 : Int32).toNatClampNeg fun p11 s10 =>
  (sV s10 a0 10 6 (.ref p11)).bind fun s12 =>
  nw_ s12 (.inr (2, ((120 : Int32).toNatClampNeg, .inl (fun _ => 0)))) (120 : Int32).toNatClampNeg fun p14 s13 =>
  (sV s13 a0 10 8 (.ref p14)).bind fun s15 =>
  nw_ s15 (.inr (0, ((120 : Int32).toNatClampNeg, .inl (fun _ => 0)))) (120 : Int32).toNatClampNeg fun p17 s16 =>
  (sV s16 a0 10 9 (.ref p17)).bind fun s18 =>
  nw_ s18 (.inr (0, ((120 : Int32).toNatClampNeg, .inl (fun _ => 0)))) (120 : Int32).toNatClampNeg fun p20 s19 =>
  (sV s19 a0 10 10 (.ref p20)).bind fun s21 =>
  nw_ s21 (.inr (0, ((120 : Int32).toNatClampNeg, .inl (fun _ => 0)))) (120 : Int32).toNatClampNeg fun p23 s22 =>
  (sV s22 a0 10 11 (.ref p23)).bind fun s24 =>
  nw_ s24 (.inr (2, ((4096 : Int32).toNatClampNeg, .inl (fun _ => 0)))) (4096 : Int32).toNatClampNeg fun p26 s25 =>
  (sV s25 a0 10 14 (.ref p26)).bind fun s27 =>
  nw_ s27 (.inr (0, ((4096 : Int32).toNatClampNeg, .inl (fun _ => 0)))) (4096 : Int32).toNatClampNeg fun p29 s28 =>
  (sV s28 a0 10 15 (.ref p29)).bind fun s30 =>
  nw_ s30 (.inr (0, ((4096 : Int32).toNatClampNeg, .inl (fun _ => 0)))) (4096 : Int32).toNatClampNeg fun p32 s31 =>
  (sV s31 a0 10 16 (.ref p32)).bind fun s33 =>
  nw_ s33 (.inr (0, ((4096 : Int32).toNatClampNeg, .inl (fun _ => 0)))) (4096 : Int32).toNatClampNeg fun p35 s34 =>
  (sV s34 a0 10 17 (.ref p35)).bind fun s36 =>
  nw_ s36 (.inr (0, ((4096 : Int32).toNatClampNeg, .inl (fun _ => 0)))) (4096 : Int32).toNatClampNeg fun p38 s37 =>
  (sV s37 a0 10 18 (.ref p38)).bind fun s39 =>
  (F_X10_begins s39 a0 (3 : Int32)).bind fun s40 =>
  some s40
def F_X10_of (σ : Sto) (a0 : Nat) (xa1 : Int32) : Option Int32 :=
  chk σ a0 10 <|
  (gR σ a0 10 1).bind fun p1 =>
  (gI σ a0 10 3).bind fun x2 =>
  (iald σ p1 (x2 + xa1)).bind fun x3 =>
  some x3
def F_X10_set (σ : Sto) (a0 : Nat) (xa1 : Int32) (xa2 : Int32) : Option Sto :=
  chk σ a0 10 <|
  (gR σ a0 10 1).bind fun p1 =>
  (gI σ a0 10 3).bind fun x2 =>
  (iast σ p1 (x2 + xa1) xa2).bind fun s3 =>
  some s3
def F_X10_more (σ : Sto) (a0 : Nat) (xa1 : Int32) (xa2 : Int32) : Option Sto :=
  chk σ a0 10 <|
  (gR σ a0 10 1).bind fun p1 =>
  (gI σ a0 10 3).bind fun x2 =>
  (iald σ p1 (x2 + xa1)).bind fun x3 =>
  (iast σ p1 (x2 + xa1) (x3 + xa2)).bind fun s4 =>
  some s4
def F_X10_isOf (σ : Sto) (a0 : Nat) (xa1 : Int32) (xa2 : Int32) : Option Int32 :=
  chk σ a0 10 <|
  (F_X10_of σ a0 (xa1 + (xa2 / (32 : Int32)))).bind fun x1 =>
  if ((x1 >>> ((xa2 - xa2 / (32 : Int32) * (32 : Int32)) &&& 31)) &&& (1 : Int32)) = (1 : Int32) then (
    some (1 : Int32)
  ) else (
    some (0 : Int32)
  )
def F_X10_sets (σ : Sto) (a0 : Nat) (xa1 : Int32) (xa2 : Int32) (xa3 : Int32) : Option Sto :=
  chk σ a0 10 <|
  if xa3 = 0 then (
    (F_X10_of σ a0 (xa1 + (xa2 / (32 : Int32)))).bind fun x1 =>
    (F_X10_set σ a0 (xa1 + (xa2 / (32 : Int32))) (x1 &&& (((1 : Int32) <<< ((xa2 - xa2 / (32 : Int32) * (32 : Int32)) &&& 31)) ^^^ (-1 : Int32)))).bind fun s2 =>
    some s2
  ) else (
    (F_X10_of σ a0 (xa1 + (xa2 / (32 : Int32)))).bind fun x3 =>
    (F_X10_set σ a0 (xa1 + (xa2 / (32 : Int32))) (x3 ||| ((1 : Int32) <<< ((xa2 - xa2 / (32 : Int32) * (32 : Int32)) &&& 31)))).bind fun s4 =>
    some s4
  )
def F_X10_bitsOf_L4 (sL : Sto) (pL0 : Nat) (xL1 : Int32) : Nat → Int32 → Int32 → (Int32 → Option Int32) → Option Int32
  | 0, _, _, _ => none
  | f + 1, xL2, xL3, k31 =>
    (F_X10_of sL pL0 (2 : Int32)).bind fun x1 =>
    if x1 ≤ xL3 then (
      k31 xL2
    ) else (
      (F_X10_isOf sL pL0 xL1 xL3).bind fun x2 =>
      (F_X10_flag x2).bind fun x3 =>
      F_X10_bitsOf_L4 sL pL0 xL1 f (xL2 + x3) (xL3 + (1 : Int32)) k31
    )
def F_X10_bitsOf (σ : Sto) (a0 : Nat) (xa1 : Int32) : Option Int32 :=
  chk σ a0 10 <|
  F_X10_bitsOf_L4 σ a0 xa1 fu (0 : Int32) (0 : Int32)
    (fun x4 =>
      some x4
    )
def F_X10_stateOf (xa0 : Int32) : Option Int32 :=
  some (((8 : Int32) + ((789 : Int32) * xa0)) + (1 : Int32))
def F_X10_clockOf (xa0 : Int32) : Option Int32 :=
  some ((8 : Int32) + ((789 : Int32) * xa0))
def F_X10_eventOf (xa0 : Int32) : Option Int32 :=
  some ((3953 : Int32) + ((10 : Int32) * xa0))
def F_X10_couple (xa0 : Int32) (xa1 : Int32) : Option Int32 :=
  some (((5 : Int32) * xa0) + xa1)
def F_X10_letterOf (xa0 : Int32) (xa1 : Int32) (xa2 : Int32) : Option Int32 :=
  (F_X10_couple xa0 xa1).bind fun x1 =>
  some ((5178 : Int32) + ((147 : Int32) * (((12 : Int32) * x1) + xa2)))
def F_X10_copies_L2 (pL0 : Nat) (xL1 : Int32) (xL2 : Int32) : Nat → Int32 → Sto → (Sto → Option Sto) → Option Sto
  | 0, _, _, _ => none
  | f + 1, xL3, sL, k30 =>
    if (49425 : Int32) ≤ xL3 then (
      k30 sL
    ) else (
      (gR sL pL0 10 1).bind fun p1 =>
      (gR sL pL0 10 1).bind fun p2 =>
      (iald sL p2 (xL1 + xL3)).bind fun x3 =>
      (iast sL p1 (xL2 + xL3) x3).bind fun s4 =>
      F_X10_copies_L2 pL0 xL1 xL2 f (xL3 + (1 : Int32)) s4 k30
    )
def F_X10_copies (σ : Sto) (a0 : Nat) (xa1 : Int32) (xa2 : Int32) : Option Sto :=
  chk σ a0 10 <|
  F_X10_copies_L2 a0 xa1 xa2 fu (0 : Int32) σ
    (fun s5 =>
      some s5
    )
def F_X10_onPaper (σ : Sto) (a0 : Nat) : Option Sto :=
  chk σ a0 10 <|
  (F_X10_copies σ a0 (0 : Int32) (49425 : Int32)).bind fun s1 =>
  (sV s1 a0 10 3 (.int (49425 : Int32))).bind fun s2 =>
  some s2
def F_X10_isSite (σ : Sto) (a0 : Nat) (xa1 : Int32) : Option Int32 :=
  chk σ a0 10 <|
  (gR σ a0 10 1).bind fun p1 =>
  (iald σ p1 (0 : Int32)).bind fun x2 =>
  (F_X10_isIn xa1.toInt64 (0 : Int64) (x2 - (1 : Int32)).toInt64).bind fun x3 =>
  if x3 = 0 ∨ x3 = 1 then some x3 else none
def F_X10_areTwo (σ : Sto) (a0 : Nat) (xa1 : Int32) (xa2 : Int32) : Option Int32 :=
  chk σ a0 10 <|
  (F_X10_isSite σ a0 xa1).bind fun x1 =>
  if x1 = 0 then (
    some (0 : Int32)
  ) else (
    (F_X10_isSite σ a0 xa2).bind fun x2 =>
    if x2 = 0 then (
      some (0 : Int32)
    ) else (
      if xa1 = xa2 then (
        some (0 : Int32)
      ) else (
        some (1 : Int32)
      )
    )
  )
def F_X10_isEvent (σ : Sto) (a0 : Nat) (xa1 : Int32) : Option Int32 :=
  chk σ a0 10 <|
  (gR σ a0 10 1).bind fun p1 =>
  (iald σ p1 (2 : Int32)).bind fun x2 =>
  (F_X10_isIn xa1.toInt64 (0 : Int64) (x2 - (1 : Int32)).toInt64).bind fun x3 =>
  if x3 = 0 ∨ x3 = 1 then some x3 else none
def F_X10_sites (σ : Sto) (a0 : Nat) (xa1 : Int32) : Option (Int32 × Sto) :=
  chk σ a0 10 <|
  (sV σ a0 10 0 (.int (0 : Int32))).bind fun s1 =>
  (F_X10_isIn xa1.toInt64 (2 : Int64) (5 : Int64)).bind fun x2 =>
  if x2 = 0 then (
    wb (F_X10_fails s1 a0 (1 : Int32)) fun x5 s4 =>
    some (x5, s4)
  ) else (
    (F_X10_begins s1 a0 xa1).bind fun s3 =>
    some (xa1, s3)
  )
def F_X10_mode (σ : Sto) (a0 : Nat) (xa1 : Int32) : Option (Int32 × Sto) :=
  chk σ a0 10 <|
  (sV σ a0 10 0 (.int (0 : Int32))).bind fun s1 =>
  (F_X10_isIn xa1.toInt64 (0 : Int64) (2 : Int64)).bind fun x2 =>
  if x2 = 0 then (
    wb (F_X10_fails s1 a0 (1 : Int32)) fun x8 s7 =>
    some (x8, s7)
  ) else (
    (gR s1 a0 10 1).bind fun p3 =>
    (iald s1 p3 (1 : Int32)).bind fun x4 =>
    (gR s1 a0 10 1).bind fun p5 =>
    (iast s1 p5 (1 : Int32) xa1).bind fun s6 =>
    some (x4, s6)
  )
def F_X10_steps (σ : Sto) (a0 : Nat) : Option Sto :=
  chk σ a0 10 <|
  (sV σ a0 10 3 (.int (0 : Int32))).bind fun s1 =>
  (gR s1 a0 10 1).bind fun p2 =>
  (iald s1 p2 (6 : Int32)).bind fun x3 =>
  (iast s1 p2 (6 : Int32) (x3 + (1 : Int32))).bind fun s4 =>
  some s4
def F_X10_notes (σ : Sto) (a0 : Nat) (xa1 : Int32) (xa2 : Int32) (xa3 : Int32) : Option (Int32 × Sto) :=
  chk σ a0 10 <|
  (gI σ a0 10 5).bind fun x1 =>
  (gR σ a0 10 4).bind fun p2 =>
  (gR σ a0 10 1).bind fun p3 =>
  (iald σ p3 (6 : Int32)).bind fun x4 =>
  (iast σ p2 ((4 : Int32) * (x1 - x1 / (32 : Int32) * (32 : Int32))) x4).bind fun s5 =>
  (gR s5 a0 10 4).bind fun p6 =>
  (iast s5 p6 (((4 : Int32) * (x1 - x1 / (32 : Int32) * (32 : Int32))) + (1 : Int32)) xa1).bind fun s7 =>
  (gR s7 a0 10 4).bind fun p8 =>
  (iast s7 p8 (((4 : Int32) * (x1 - x1 / (32 : Int32) * (32 : Int32))) + (2 : Int32)) xa2).bind fun s9 =>
  (gR s9 a0 10 4).bind fun p10 =>
  (iast s9 p10 (((4 : Int32) * (x1 - x1 / (32 : Int32) * (32 : Int32))) + (3 : Int32)) xa3).bind fun s11 =>
  (gI s11 a0 10 5).bind fun x12 =>
  (sV s11 a0 10 5 (.int (x12 + (1 : Int32)))).bind fun s13 =>
  some (xa3, s13)
def F_X10_trace (σ : Sto) (a0 : Nat) (xa1 : Int32) (xa2 : Int32) : Option (Int32 × Sto) :=
  chk σ a0 10 <|
  (sV σ a0 10 0 (.int (0 : Int32))).bind fun s1 =>
  (F_X10_isIn xa1.toInt64 (0 : Int64) (31 : Int64)).bind fun x2 =>
  if x2 = 0 then (
    wb (F_X10_fails s1 a0 (1 : Int32)) fun x4 s3 =>
    some (x4, s3)
  ) else (
    (gI s1 a0 10 5).bind fun x5 =>
    if xa1 < x5 then (
      (F_X10_isIn xa2.toInt64 (0 : Int64) (3 : Int64)).bind fun x6 =>
      if x6 = 0 then (
        wb (F_X10_fails s1 a0 (2 : Int32)) fun x11 s10 =>
        some (x11, s10)
      ) else (
        (gR s1 a0 10 4).bind fun p7 =>
        (gI s1 a0 10 5).bind fun x8 =>
        (iald s1 p7 (((4 : Int32) * (((x8 - (1 : Int32)) - xa1) - ((x8 - (1 : Int32)) - xa1) / (32 : Int32) * (32 : Int32))) + xa2)).bind fun x9 =>
        some (x9, s1)
      )
    ) else (
      wb (F_X10_fails s1 a0 (1 : Int32)) fun x13 s12 =>
      some (x13, s12)
    )
  )
def F_X10_siteOf (σ : Sto) (a0 : Nat) (xa1 : Int32) : Option Int32 :=
  chk σ a0 10 <|
  (F_X10_eventOf xa1).bind fun x1 =>
  (F_X10_of σ a0 (x1 + (0 : Int32))).bind fun x2 =>
  some x2
def F_X10_timeOf (σ : Sto) (a0 : Nat) (xa1 : Int32) : Option Int32 :=
  chk σ a0 10 <|
  (F_X10_eventOf xa1).bind fun x1 =>
  (F_X10_of σ a0 (x1 + (1 : Int32))).bind fun x2 =>
  some x2
def F_X10_isOut (σ : Sto) (a0 : Nat) (xa1 : Int32) : Option Int32 :=
  chk σ a0 10 <|
  (F_X10_eventOf xa1).bind fun x1 =>
  (F_X10_of σ a0 (x1 + (2 : Int32))).bind fun x2 =>
  if x2 = (1 : Int32) then (
    some (1 : Int32)
  ) else (
    some (0 : Int32)
  )
def F_X10_markOf (σ : Sto) (a0 : Nat) (xa1 : Int32) : Option Int32 :=
  chk σ a0 10 <|
  (F_X10_eventOf xa1).bind fun x1 =>
  (F_X10_of σ a0 (x1 + (3 : Int32))).bind fun x2 =>
  some x2
def F_X10_cellOf (xa0 : Int32) (xa1 : Int32) (xa2 : Int32) : Option Int32 :=
  (F_X10_stateOf xa0).bind fun x1 =>
  some ((x1 + ((5 : Int32) * xa1)) + xa2)
def F_X10_isKnown (σ : Sto) (a0 : Nat) (xa1 : Int32) (xa2 : Int32) (xa3 : Int32) : Option Int32 :=
  chk σ a0 10 <|
  (F_X10_siteOf σ a0 xa3).bind fun x1 =>
  (F_X10_cellOf xa1 xa2 x1).bind fun x2 =>
  (F_X10_of σ a0 x2).bind fun x3 =>
  (F_X10_timeOf σ a0 xa3).bind fun x4 =>
  if x3 < x4 then (
    some (0 : Int32)
  ) else (
    some (1 : Int32)
  )
def F_X10_doesHave (σ : Sto) (a0 : Nat) (xa1 : Int32) (xa2 : Int32) (xa3 : Int32) : Option Int32 :=
  chk σ a0 10 <|
  (F_X10_stateOf xa1).bind fun x1 =>
  (F_X10_isOf σ a0 (x1 + (25 : Int32)) xa2).bind fun x2 =>
  if x2 = xa3 then (
    some (1 : Int32)
  ) else (
    some (0 : Int32)
  )
def F_X10_logs (σ : Sto) (a0 : Nat) (xa1 : Int32) (xa2 : Int32) : Option Sto :=
  chk σ a0 10 <|
  (F_X10_stateOf xa1).bind fun x1 =>
  (F_X10_of σ a0 (x1 + (33 : Int32))).bind fun x2 =>
  (F_X10_set σ a0 ((x1 + (34 : Int32)) + x2) xa2).bind fun s3 =>
  (F_X10_more s3 a0 (x1 + (33 : Int32)) (1 : Int32)).bind fun s4 =>
  some s4
def F_X10_comesToHave (σ : Sto) (a0 : Nat) (xa1 : Int32) (xa2 : Int32) (xa3 : Int32) : Option Sto :=
  chk σ a0 10 <|
  (F_X10_stateOf xa1).bind fun x1 =>
  (F_X10_isOf σ a0 (x1 + (25 : Int32)) xa2).bind fun x2 =>
  if x2 = 0 then (
    (F_X10_sets σ a0 (x1 + (25 : Int32)) xa2 (1 : Int32)).bind fun s3 =>
    (F_X10_of s3 a0 (6 : Int32)).bind fun x4 =>
    (F_X10_set s3 a0 ((x1 + (154 : Int32)) + xa2) x4).bind fun s5 =>
    (F_X10_set s5 a0 ((x1 + (274 : Int32)) + xa2) xa3).bind fun s6 =>
    some s6
  ) else (
    some σ
  )
def F_X10_happens_L111 (pL0 : Nat) (xL6 : Int32) (xL7 : Int32) : Nat → Int32 → Sto → (Sto → Option (Int32 × Sto)) → Option (Int32 × Sto)
  | 0, _, _, _ => none
  | f + 1, xL8, sL, k147 =>
    if (4 : Int32) ≤ xL8 then (
      k147 sL
    ) else (
      (F_X10_of sL pL0 ((xL7 + (25 : Int32)) + xL8)).bind fun x18 =>
      (F_X10_set sL pL0 ((xL6 + (6 : Int32)) + xL8) x18).bind fun s19 =>
      F_X10_happens_L111 pL0 xL6 xL7 f (xL8 + (1 : Int32)) s19 k147
    )
def F_X10_happens (σ : Sto) (a0 : Nat) (xa1 : Int32) (xa2 : Int32) (xa3 : Int32) (xa4 : Int32) : Option (Int32 × Sto) :=
  chk σ a0 10 <|
  (F_X10_of σ a0 (2 : Int32)).bind fun x1 =>
  (F_X10_eventOf x1).bind fun x2 =>
  (F_X10_stateOf xa1).bind fun x3 =>
  (F_X10_clockOf xa1).bind fun x4 =>
  (F_X10_more σ a0 x4 (1 : Int32)).bind fun s5 =>
  (F_X10_set s5 a0 (x2 + (0 : Int32)) xa1).bind fun s6 =>
  (F_X10_clockOf xa1).bind fun x7 =>
  (F_X10_of s6 a0 x7).bind fun x8 =>
  (F_X10_set s6 a0 (x2 + (1 : Int32)) x8).bind fun s9 =>
  (F_X10_flag xa2).bind fun x10 =>
  (F_X10_set s9 a0 (x2 + (2 : Int32)) x10).bind fun s11 =>
  jn (fun (x13 : Int32) =>
    (F_X10_set s11 a0 (x2 + (3 : Int32)) x13).bind fun s14 =>
    (F_X10_set s14 a0 (x2 + (4 : Int32)) xa4).bind fun s15 =>
    (F_X10_of s15 a0 (6 : Int32)).bind fun x16 =>
    (F_X10_set s15 a0 (x2 + (5 : Int32)) x16).bind fun s17 =>
    F_X10_happens_L111 a0 x2 x3 fu (0 : Int32) s17
      (fun s20 =>
        (F_X10_more s20 a0 (2 : Int32) (1 : Int32)).bind fun s21 =>
        (F_X10_cellOf xa1 xa1 xa1).bind fun x22 =>
        (F_X10_clockOf xa1).bind fun x23 =>
        (F_X10_of s21 a0 x23).bind fun x24 =>
        (F_X10_set s21 a0 x22 x24).bind fun s25 =>
        (F_X10_logs s25 a0 xa1 x1).bind fun s26 =>
        (F_X10_comesToHave s26 a0 xa1 x1 xa1).bind fun s27 =>
        jn (fun (x29 : Int32) =>
          if xa2 = 0 then (
            (F_X10_sets s27 a0 (x3 + (29 : Int32)) x29 (1 : Int32)).bind fun s31 =>
            some (x1, s31)
          ) else (
            (F_X10_sets s27 a0 (x3 + (29 : Int32)) x29 (0 : Int32)).bind fun s30 =>
            some (x1, s30)
          )
        ) fun j28 =>
        if xa2 = 0 then (
          j28 x1
        ) else (
          j28 xa3
        )
      )
  ) fun j12 =>
  if xa2 = 0 then (
    j12 x1
  ) else (
    j12 xa3
  )
def F_X10_adds (σ : Sto) (a0 : Nat) (xa1 : Int32) (xa2 : Int32) : Option (Int32 × Sto) :=
  chk σ a0 10 <|
  (F_X10_steps σ a0).bind fun s1 =>
  wb (F_X10_happens s1 a0 xa1 (0 : Int32) (-1 : Int32) xa2) fun x3 s2 =>
  wb (F_X10_notes s2 a0 (0 : Int32) xa1 x3) fun x5 s4 =>
  some (x5, s4)
def F_X10_takes (σ : Sto) (a0 : Nat) (xa1 : Int32) (xa2 : Int32) : Option (Int32 × Sto) :=
  chk σ a0 10 <|
  (F_X10_steps σ a0).bind fun s1 =>
  (gR s1 a0 10 1).bind fun p2 =>
  (F_X10_eventOf xa2).bind fun x3 =>
  (iald s1 p2 (x3 + (4 : Int32))).bind fun x4 =>
  wb (F_X10_happens s1 a0 xa1 (1 : Int32) xa2 x4) fun x6 s5 =>
  wb (F_X10_notes s5 a0 (1 : Int32) xa1 x6) fun x8 s7 =>
  some (x8, s7)
def F_X10_add (σ : Sto) (a0 : Nat) (xa1 : Int32) (xa2 : Int32) : Option (Int32 × Sto) :=
  chk σ a0 10 <|
  (sV σ a0 10 0 (.int (0 : Int32))).bind fun s1 =>
  (F_X10_isSite s1 a0 xa1).bind fun x2 =>
  if x2 = 0 then (
    wb (F_X10_fails s1 a0 (1 : Int32)) fun x13 s12 =>
    some (x13, s12)
  ) else (
    (gR s1 a0 10 1).bind fun p3 =>
    (iald s1 p3 (2 : Int32)).bind fun x4 =>
    if x4 = (120 : Int32) then (
      wb (F_X10_fails s1 a0 (2 : Int32)) fun x11 s10 =>
      some (x11, s10)
    ) else (
      (F_X10_isIn xa2.toInt64 (0 : Int64) (99 : Int64)).bind fun x5 =>
      if x5 = 0 then (
        wb (F_X10_fails s1 a0 (3 : Int32)) fun x7 s6 =>
        some (x7, s6)
      ) else (
        wb (F_X10_adds s1 a0 xa1 xa2) fun x9 s8 =>
        some (x9, s8)
      )
    )
  )
def F_X10_take (σ : Sto) (a0 : Nat) (xa1 : Int32) (xa2 : Int32) : Option (Int32 × Sto) :=
  chk σ a0 10 <|
  (sV σ a0 10 0 (.int (0 : Int32))).bind fun s1 =>
  (sV s1 a0 10 3 (.int (0 : Int32))).bind fun s2 =>
  (F_X10_isSite s2 a0 xa1).bind fun x3 =>
  if x3 = 0 then (
    wb (F_X10_fails s2 a0 (1 : Int32)) fun x18 s17 =>
    some (x18, s17)
  ) else (
    (F_X10_isEvent s2 a0 xa2).bind fun x4 =>
    if x4 = 0 then (
      wb (F_X10_fails s2 a0 (2 : Int32)) fun x6 s5 =>
      some (x6, s5)
    ) else (
      (F_X10_stateOf xa1).bind fun x7 =>
      (F_X10_isOf s2 a0 (x7 + (29 : Int32)) xa2).bind fun x8 =>
      if x8 = 0 then (
        wb (F_X10_fails s2 a0 (2 : Int32)) fun x16 s15 =>
        some (x16, s15)
      ) else (
        (gR s2 a0 10 1).bind fun p9 =>
        (iald s2 p9 (2 : Int32)).bind fun x10 =>
        if x10 = (120 : Int32) then (
          wb (F_X10_fails s2 a0 (3 : Int32)) fun x14 s13 =>
          some (x14, s13)
        ) else (
          wb (F_X10_takes s2 a0 xa1 xa2) fun x12 s11 =>
          some (x12, s11)
        )
      )
    )
  )
def F_X10_lays_L12 (pL0 : Nat) (xL1 : Int32) (xL2 : Int32) (xL3 : Int32) (xL4 : Int32) : Nat → Int32 → Int32 → Sto → (Int32 → Sto → Option (Int32 × Sto)) → Option (Int32 × Sto)
  | 0, _, _, _, _ => none
  | f + 1, xL5, xL6, sL, k75 =>
    (F_X10_of sL pL0 (xL4 + (33 : Int32))).bind fun x2 =>
    if x2 ≤ xL6 then (
      k75 xL5 sL
    ) else (
      (F_X10_of sL pL0 ((xL4 + (34 : Int32)) + xL6)).bind fun x3 =>
      (F_X10_isKnown sL pL0 xL2 xL3 x3).bind fun x4 =>
      if x4 = 0 then (
        (F_X10_set sL pL0 ((xL1 + (2 : Int32)) + xL5) x3).bind fun s5 =>
        F_X10_lays_L12 pL0 xL1 xL2 xL3 xL4 f (xL5 + (1 : Int32)) (xL6 + (1 : Int32)) s5 k75
      ) else (
        F_X10_lays_L12 pL0 xL1 xL2 xL3 xL4 f xL5 (xL6 + (1 : Int32)) sL k75
      )
    )
def F_X10_lays_L99 (pL0 : Nat) (xL1 : Int32) (xL4 : Int32) : Nat → Int32 → Sto → (Sto → Option (Int32 × Sto)) → Option (Int32 × Sto)
  | 0, _, _, _ => none
  | f + 1, xL6, sL, k132 =>
    if (25 : Int32) ≤ xL6 then (
      k132 sL
    ) else (
      (F_X10_of sL pL0 (xL4 + xL6)).bind fun x11 =>
      (F_X10_set sL pL0 ((xL1 + (122 : Int32)) + xL6) x11).bind fun s12 =>
      F_X10_lays_L99 pL0 xL1 xL4 f (xL6 + (1 : Int32)) s12 k132
    )
def F_X10_lays (σ : Sto) (a0 : Nat) (xa1 : Int32) (xa2 : Int32) (xa3 : Int32) : Option (Int32 × Sto) :=
  chk σ a0 10 <|
  (F_X10_stateOf xa2).bind fun x1 =>
  F_X10_lays_L12 a0 xa1 xa2 xa3 x1 fu (0 : Int32) (0 : Int32) σ
    (fun x6 s7 =>
      (F_X10_of s7 a0 (1 : Int32)).bind fun x8 =>
      (F_X10_set s7 a0 (xa1 + (0 : Int32)) x8).bind fun s9 =>
      (F_X10_set s9 a0 (xa1 + (1 : Int32)) x6).bind fun s10 =>
      F_X10_lays_L99 a0 xa1 x1 fu (0 : Int32) s10
        (fun s13 =>
          some (x6, s13)
        )
    )
def F_X10_greater (σ : Sto) (a0 : Nat) (xa1 : Int32) (xa2 : Int32) : Option Sto :=
  chk σ a0 10 <|
  (F_X10_of σ a0 xa1).bind fun x1 =>
  if xa2 ≤ x1 then (
    some σ
  ) else (
    (F_X10_set σ a0 xa1 xa2).bind fun s2 =>
    some s2
  )
def F_X10_raises_L3 (pL0 : Nat) (xL1 : Int32) (xL2 : Int32) (xL3 : Int32) (xL4 : Int32) : Nat → Int32 → Sto → (Sto → Option Sto) → Option Sto
  | 0, _, _, _ => none
  | f + 1, xL5, sL, k46 =>
    (F_X10_of sL pL0 (0 : Int32)).bind fun x1 =>
    if x1 ≤ xL5 then (
      k46 sL
    ) else (
      (F_X10_cellOf xL1 xL2 xL5).bind fun x2 =>
      (F_X10_of sL pL0 (((xL3 + (122 : Int32)) + ((5 : Int32) * xL4)) + xL5)).bind fun x3 =>
      (F_X10_greater sL pL0 x2 x3).bind fun s4 =>
      F_X10_raises_L3 pL0 xL1 xL2 xL3 xL4 f (xL5 + (1 : Int32)) s4 k46
    )
def F_X10_raises (σ : Sto) (a0 : Nat) (xa1 : Int32) (xa2 : Int32) (xa3 : Int32) (xa4 : Int32) : Option Sto :=
  chk σ a0 10 <|
  F_X10_raises_L3 a0 xa1 xa2 xa3 xa4 fu (0 : Int32) σ
    (fun s5 =>
      some s5
    )
def F_X10_tables_L40 (pL0 : Nat) (xL1 : Int32) (xL3 : Int32) (xL4 : Int32) : Nat → Int32 → Sto → (Sto → Option Sto) → Option Sto
  | 0, _, _, _ => none
  | f + 1, xL5, sL, k71 =>
    (F_X10_of sL pL0 (0 : Int32)).bind fun x6 =>
    if x6 ≤ xL5 then (
      k71 sL
    ) else (
      if xL4 = 0 then (
        (F_X10_raises sL pL0 xL3 xL5 xL1 xL5).bind fun s7 =>
        F_X10_tables_L40 pL0 xL1 xL3 xL4 f (xL5 + (1 : Int32)) s7 k71
      ) else (
        k71 sL
      )
    )
def F_X10_tables_L74 (pL0 : Nat) (xL1 : Int32) (xL2 : Int32) (xL3 : Int32) (xL4 : Int32) : Nat → Int32 → Sto → (Sto → Option Sto) → Option Sto
  | 0, _, _, _ => none
  | f + 1, xL5, sL, k152 =>
    (F_X10_of sL pL0 (xL1 + (1 : Int32))).bind fun x9 =>
    if x9 ≤ xL5 then (
      k152 sL
    ) else (
      if xL4 = (2 : Int32) then (
        (F_X10_of sL pL0 ((xL1 + (2 : Int32)) + xL5)).bind fun x10 =>
        (F_X10_siteOf sL pL0 x10).bind fun x11 =>
        (F_X10_cellOf xL3 xL3 x11).bind fun x12 =>
        (F_X10_timeOf sL pL0 x10).bind fun x13 =>
        (F_X10_greater sL pL0 x12 x13).bind fun s14 =>
        (F_X10_siteOf s14 pL0 x10).bind fun x15 =>
        (F_X10_cellOf xL3 xL2 x15).bind fun x16 =>
        (F_X10_timeOf s14 pL0 x10).bind fun x17 =>
        (F_X10_greater s14 pL0 x16 x17).bind fun s18 =>
        F_X10_tables_L74 pL0 xL1 xL2 xL3 xL4 f (xL5 + (1 : Int32)) s18 k152
      ) else (
        k152 sL
      )
    )
def F_X10_tables (σ : Sto) (a0 : Nat) (xa1 : Int32) (xa2 : Int32) (xa3 : Int32) : Option Sto :=
  chk σ a0 10 <|
  (F_X10_of σ a0 (xa1 + (0 : Int32))).bind fun x1 =>
  jn (fun (s3 : Sto) =>
    jn (fun (s5 : Sto) =>
      F_X10_tables_L40 a0 xa1 xa3 x1 fu (0 : Int32) s5
        (fun s8 =>
          F_X10_tables_L74 a0 xa1 xa2 xa3 x1 fu (0 : Int32) s8
            (fun s19 =>
              some s19
            )
        )
    ) fun j4 =>
    if x1 = (1 : Int32) then (
      (F_X10_raises s3 a0 xa3 xa2 xa1 xa2).bind fun s20 =>
      j4 s20
    ) else (
      j4 s3
    )
  ) fun j2 =>
  if (2 : Int32) ≤ x1 then (
    j2 σ
  ) else (
    (F_X10_raises σ a0 xa3 xa3 xa1 xa2).bind fun s21 =>
    j2 s21
  )
def F_X10_isKnownToAll_L2 (sL : Sto) (pL0 : Nat) (xL1 : Int32) (xL2 : Int32) : Nat → Int32 → (Option Int32) → Option Int32
  | 0, _, _ => none
  | f + 1, xL3, k29 =>
    (F_X10_of sL pL0 (0 : Int32)).bind fun x1 =>
    if x1 ≤ xL3 then (
      k29
    ) else (
      (F_X10_isKnown sL pL0 xL1 xL3 xL2).bind fun x2 =>
      if x2 = 0 then (
        some (0 : Int32)
      ) else (
        F_X10_isKnownToAll_L2 sL pL0 xL1 xL2 f (xL3 + (1 : Int32)) k29
      )
    )
def F_X10_isKnownToAll (σ : Sto) (a0 : Nat) (xa1 : Int32) (xa2 : Int32) : Option Int32 :=
  chk σ a0 10 <|
  F_X10_isKnownToAll_L2 σ a0 xa1 xa2 fu (0 : Int32)
    (
      some (1 : Int32)
    )
def F_X10_drops_L10 (pL0 : Nat) (xL1 : Int32) (xL2 : Int32) : Nat → Int32 → Int32 → Sto → (Int32 → Sto → Option Sto) → Option Sto
  | 0, _, _, _, _ => none
  | f + 1, xL3, xL4, sL, k70 =>
    (F_X10_of sL pL0 (xL2 + (33 : Int32))).bind fun x2 =>
    if x2 ≤ xL4 then (
      k70 xL3 sL
    ) else (
      (F_X10_of sL pL0 ((xL2 + (34 : Int32)) + xL4)).bind fun x3 =>
      (F_X10_isKnownToAll sL pL0 xL1 x3).bind fun x4 =>
      if x4 = 0 then (
        (F_X10_set sL pL0 ((xL2 + (34 : Int32)) + xL3) x3).bind fun s5 =>
        F_X10_drops_L10 pL0 xL1 xL2 f (xL3 + (1 : Int32)) (xL4 + (1 : Int32)) s5 k70
      ) else (
        F_X10_drops_L10 pL0 xL1 xL2 f xL3 (xL4 + (1 : Int32)) sL k70
      )
    )
def F_X10_drops (σ : Sto) (a0 : Nat) (xa1 : Int32) : Option Sto :=
  chk σ a0 10 <|
  (F_X10_stateOf xa1).bind fun x1 =>
  F_X10_drops_L10 a0 xa1 x1 fu (0 : Int32) (0 : Int32) σ
    (fun x6 s7 =>
      (F_X10_set s7 a0 (x1 + (33 : Int32)) x6).bind fun s8 =>
      some s8
    )
def F_X10_comes_L6 (pL0 : Nat) (xL1 : Int32) (xL3 : Int32) : Nat → Int32 → Int32 → Sto → (Int32 → Sto → Option (Int32 × Sto)) → Option (Int32 × Sto)
  | 0, _, _, _, _ => none
  | f + 1, xL4, xL5, sL, k62 =>
    (F_X10_of sL pL0 (xL1 + (1 : Int32))).bind fun x1 =>
    if x1 ≤ xL5 then (
      k62 xL4 sL
    ) else (
      (F_X10_of sL pL0 ((xL1 + (2 : Int32)) + xL5)).bind fun x2 =>
      (F_X10_isKnown sL pL0 xL3 xL3 x2).bind fun x3 =>
      if x3 = 0 then (
        (gR sL pL0 10 6).bind fun p4 =>
        (iast sL p4 xL4 x2).bind fun s5 =>
        F_X10_comes_L6 pL0 xL1 xL3 f (xL4 + (1 : Int32)) (xL5 + (1 : Int32)) s5 k62
      ) else (
        F_X10_comes_L6 pL0 xL1 xL3 f xL4 (xL5 + (1 : Int32)) sL k62
      )
    )
def F_X10_comes_L74 (pL0 : Nat) (xL4 : Int32) (xL5 : Int32) : Nat → Int32 → Sto → (Sto → Option (Int32 × Sto)) → Option (Int32 × Sto)
  | 0, _, _, _ => none
  | f + 1, xL6, sL, k115 =>
    if xL4 ≤ xL6 then (
      k115 sL
    ) else (
      (gR sL pL0 10 6).bind fun p9 =>
      (iald sL p9 xL6).bind fun x10 =>
      (F_X10_isOut sL pL0 x10).bind fun x11 =>
      if x11 = 0 then (
        (gR sL pL0 10 6).bind fun p12 =>
        (iald sL p12 xL6).bind fun x13 =>
        (F_X10_sets sL pL0 xL5 x13 (1 : Int32)).bind fun s14 =>
        F_X10_comes_L74 pL0 xL4 xL5 f (xL6 + (1 : Int32)) s14 k115
      ) else (
        F_X10_comes_L74 pL0 xL4 xL5 f (xL6 + (1 : Int32)) sL k115
      )
    )
def F_X10_comes_L118 (pL0 : Nat) (xL4 : Int32) (xL5 : Int32) : Nat → Int32 → Sto → (Sto → Option (Int32 × Sto)) → Option (Int32 × Sto)
  | 0, _, _, _ => none
  | f + 1, xL6, sL, k163 =>
    if xL4 ≤ xL6 then (
      k163 sL
    ) else (
      (gR sL pL0 10 6).bind fun p16 =>
      (iald sL p16 xL6).bind fun x17 =>
      (F_X10_isOut sL pL0 x17).bind fun x18 =>
      if x18 = 0 then (
        F_X10_comes_L118 pL0 xL4 xL5 f (xL6 + (1 : Int32)) sL k163
      ) else (
        (gR sL pL0 10 6).bind fun p19 =>
        (iald sL p19 xL6).bind fun x20 =>
        (F_X10_markOf sL pL0 x20).bind fun x21 =>
        (F_X10_sets sL pL0 xL5 x21 (0 : Int32)).bind fun s22 =>
        F_X10_comes_L118 pL0 xL4 xL5 f (xL6 + (1 : Int32)) s22 k163
      )
    )
def F_X10_comes_L166 (pL0 : Nat) (xL2 : Int32) (xL3 : Int32) (xL4 : Int32) : Nat → Int32 → Sto → (Sto → Option (Int32 × Sto)) → Option (Int32 × Sto)
  | 0, _, _, _ => none
  | f + 1, xL6, sL, k192 =>
    if xL4 ≤ xL6 then (
      k192 sL
    ) else (
      (gR sL pL0 10 6).bind fun p24 =>
      (iald sL p24 xL6).bind fun x25 =>
      (F_X10_comesToHave sL pL0 xL3 x25 xL2).bind fun s26 =>
      F_X10_comes_L166 pL0 xL2 xL3 xL4 f (xL6 + (1 : Int32)) s26 k192
    )
def F_X10_comes_L202 (pL0 : Nat) (xL3 : Int32) (xL4 : Int32) : Nat → Int32 → Sto → (Sto → Option (Int32 × Sto)) → Option (Int32 × Sto)
  | 0, _, _, _ => none
  | f + 1, xL6, sL, k227 =>
    if xL4 ≤ xL6 then (
      k227 sL
    ) else (
      (gR sL pL0 10 6).bind fun p29 =>
      (iald sL p29 xL6).bind fun x30 =>
      (F_X10_logs sL pL0 xL3 x30).bind fun s31 =>
      F_X10_comes_L202 pL0 xL3 xL4 f (xL6 + (1 : Int32)) s31 k227
    )
def F_X10_comes (σ : Sto) (a0 : Nat) (xa1 : Int32) (xa2 : Int32) (xa3 : Int32) : Option (Int32 × Sto) :=
  chk σ a0 10 <|
  F_X10_comes_L6 a0 xa1 xa3 fu (0 : Int32) (0 : Int32) σ
    (fun x6 s7 =>
      (F_X10_stateOf xa3).bind fun x8 =>
      F_X10_comes_L74 a0 x6 (x8 + (29 : Int32)) fu (0 : Int32) s7
        (fun s15 =>
          F_X10_comes_L118 a0 x6 (x8 + (29 : Int32)) fu (0 : Int32) s15
            (fun s23 =>
              F_X10_comes_L166 a0 xa2 xa3 x6 fu (0 : Int32) s23
                (fun s27 =>
                  (F_X10_tables s27 a0 xa1 xa2 xa3).bind fun s28 =>
                  F_X10_comes_L202 a0 xa3 x6 fu (0 : Int32) s28
                    (fun s32 =>
                      (F_X10_drops s32 a0 xa3).bind fun s33 =>
                      some (x6, s33)
                    )
                )
            )
        )
    )
def F_X10_waits (σ : Sto) (a0 : Nat) (xa1 : Int32) (xa2 : Int32) : Option Int32 :=
  chk σ a0 10 <|
  (gR σ a0 10 1).bind fun p1 =>
  (F_X10_couple xa1 xa2).bind fun x2 =>
  (iald σ p1 ((5153 : Int32) + x2)).bind fun x3 =>
  some x3
def F_X10_isGone_L34 (pL0 : Nat) (xL1 : Int32) (xL2 : Int32) (xL4 : Int32) : Nat → Int32 → Sto → (Sto → Option Sto) → Option Sto
  | 0, _, _, _ => none
  | f + 1, xL5, sL, k70 =>
    (F_X10_letterOf xL1 xL2 xL4).bind fun x6 =>
    if x6 ≤ xL5 then (
      k70 sL
    ) else (
      (gR sL pL0 10 1).bind fun p7 =>
      (gR sL pL0 10 1).bind fun p8 =>
      (iald sL p8 (xL5 + (147 : Int32))).bind fun x9 =>
      (iast sL p7 xL5 x9).bind fun s10 =>
      F_X10_isGone_L34 pL0 xL1 xL2 xL4 f (xL5 + (1 : Int32)) s10 k70
    )
def F_X10_isGone (σ : Sto) (a0 : Nat) (xa1 : Int32) (xa2 : Int32) (xa3 : Int32) : Option Sto :=
  chk σ a0 10 <|
  (F_X10_waits σ a0 xa1 xa2).bind fun x1 =>
  (gR σ a0 10 1).bind fun p2 =>
  (F_X10_couple xa1 xa2).bind fun x3 =>
  (iast σ p2 ((5153 : Int32) + x3) (x1 - (1 : Int32))).bind fun s4 =>
  (F_X10_letterOf xa1 xa2 xa3).bind fun x5 =>
  F_X10_isGone_L34 a0 xa1 xa2 (x1 - (1 : Int32)) fu x5 s4
    (fun s11 =>
      some s11
    )
def F_X10_linkOf (xa0 : Int32) (xa1 : Int32) : Option Int32 :=
  if xa1 ≤ xa0 then (
    (F_X10_couple xa1 xa0).bind fun x1 =>
    some x1
  ) else (
    (F_X10_couple xa0 xa1).bind fun x2 =>
    some x2
  )
def F_X10_isCut (σ : Sto) (a0 : Nat) (xa1 : Int32) (xa2 : Int32) : Option Int32 :=
  chk σ a0 10 <|
  (F_X10_of σ a0 (7 : Int32)).bind fun x1 =>
  (F_X10_linkOf xa1 xa2).bind fun x2 =>
  if ((x1 >>> (x2 &&& 31)) &&& (1 : Int32)) = (1 : Int32) then (
    some (1 : Int32)
  ) else (
    some (0 : Int32)
  )
def F_X10_canWrite (σ : Sto) (a0 : Nat) (xa1 : Int32) (xa2 : Int32) : Option (Int32 × Sto) :=
  chk σ a0 10 <|
  (sV σ a0 10 3 (.int (0 : Int32))).bind fun s1 =>
  (F_X10_waits s1 a0 xa1 xa2).bind fun x2 =>
  if (12 : Int32) ≤ x2 then (
    some ((0 : Int32), s1)
  ) else (
    (F_X10_isCut s1 a0 xa1 xa2).bind fun x3 =>
    if x3 = 0 then (
      some ((1 : Int32), s1)
    ) else (
      some ((0 : Int32), s1)
    )
  )
def F_X10_writes (σ : Sto) (a0 : Nat) (xa1 : Int32) (xa2 : Int32) : Option (Int32 × Sto) :=
  chk σ a0 10 <|
  (F_X10_steps σ a0).bind fun s1 =>
  (F_X10_waits s1 a0 xa1 xa2).bind fun x2 =>
  (F_X10_letterOf xa1 xa2 x2).bind fun x3 =>
  wb (F_X10_lays s1 a0 x3 xa1 xa2) fun x5 s4 =>
  (gR s4 a0 10 1).bind fun p6 =>
  (F_X10_couple xa1 xa2).bind fun x7 =>
  (iald s4 p6 ((5153 : Int32) + x7)).bind fun x8 =>
  (iast s4 p6 ((5153 : Int32) + x7) (x8 + (1 : Int32))).bind fun s9 =>
  (gR s9 a0 10 1).bind fun p10 =>
  (iald s9 p10 (3 : Int32)).bind fun x11 =>
  (iast s9 p10 (3 : Int32) (x11 + (1 : Int32))).bind fun s12 =>
  (gR s12 a0 10 1).bind fun p13 =>
  (iald s12 p13 (4 : Int32)).bind fun x14 =>
  (iast s12 p13 (4 : Int32) (x14 + x5)).bind fun s15 =>
  wb (F_X10_notes s15 a0 (2 : Int32) xa1 x5) fun x17 s16 =>
  some (x17, s16)
def F_X10_comesNow_L7 (pL0 : Nat) (xL1 : Int32) (xL2 : Int32) (xL3 : Int32) : Nat → Int32 → Sto → (Sto → Option (Int32 × Sto)) → Option (Int32 × Sto)
  | 0, _, _, _ => none
  | f + 1, xL4, sL, k45 =>
    if (147 : Int32) ≤ xL4 then (
      k45 sL
    ) else (
      (gR sL pL0 10 1).bind fun p2 =>
      (gR sL pL0 10 1).bind fun p3 =>
      (F_X10_letterOf xL1 xL2 xL3).bind fun x4 =>
      (iald sL p3 (x4 + xL4)).bind fun x5 =>
      (iast sL p2 ((49278 : Int32) + xL4) x5).bind fun s6 =>
      F_X10_comesNow_L7 pL0 xL1 xL2 xL3 f (xL4 + (1 : Int32)) s6 k45
    )
def F_X10_comesNow (σ : Sto) (a0 : Nat) (xa1 : Int32) (xa2 : Int32) (xa3 : Int32) : Option (Int32 × Sto) :=
  chk σ a0 10 <|
  (F_X10_steps σ a0).bind fun s1 =>
  F_X10_comesNow_L7 a0 xa1 xa2 xa3 fu (0 : Int32) s1
    (fun s7 =>
      (F_X10_isGone s7 a0 xa1 xa2 xa3).bind fun s8 =>
      wb (F_X10_comes s8 a0 (49278 : Int32) xa1 xa2) fun x10 s9 =>
      (gR s9 a0 10 1).bind fun p11 =>
      (iald s9 p11 (5 : Int32)).bind fun x12 =>
      (gR s9 a0 10 1).bind fun p13 =>
      (iald s9 p13 (49279 : Int32)).bind fun x14 =>
      (iast s9 p11 (5 : Int32) (x12 + (x14 - x10))).bind fun s15 =>
      wb (F_X10_notes s15 a0 (3 : Int32) xa1 x10) fun x17 s16 =>
      some (x17, s16)
    )
def F_X10_write (σ : Sto) (a0 : Nat) (xa1 : Int32) (xa2 : Int32) : Option (Int32 × Sto) :=
  chk σ a0 10 <|
  (sV σ a0 10 0 (.int (0 : Int32))).bind fun s1 =>
  (F_X10_areTwo s1 a0 xa1 xa2).bind fun x2 =>
  if x2 = 0 then (
    wb (F_X10_fails s1 a0 (1 : Int32)) fun x10 s9 =>
    some (x10, s9)
  ) else (
    wb (F_X10_canWrite s1 a0 xa1 xa2) fun x4 s3 =>
    if x4 = 0 then (
      wb (F_X10_fails s3 a0 (2 : Int32)) fun x6 s5 =>
      some (x6, s5)
    ) else (
      wb (F_X10_writes s3 a0 xa1 xa2) fun x8 s7 =>
      some (x8, s7)
    )
  )
def F_X10_whyNot (σ : Sto) (a0 : Nat) (xa1 : Int32) (xa2 : Int32) (xa3 : Int32) : Option (Int32 × Sto) :=
  chk σ a0 10 <|
  (sV σ a0 10 3 (.int (0 : Int32))).bind fun s1 =>
  (F_X10_areTwo s1 a0 xa1 xa2).bind fun x2 =>
  if x2 = 0 then (
    some ((1 : Int32), s1)
  ) else (
    (F_X10_waits s1 a0 xa1 xa2).bind fun x3 =>
    (F_X10_isIn xa3.toInt64 (0 : Int64) (x3 - (1 : Int32)).toInt64).bind fun x4 =>
    if x4 = 0 then (
      some ((2 : Int32), s1)
    ) else (
      some ((0 : Int32), s1)
    )
  )
def F_X10_come (σ : Sto) (a0 : Nat) (xa1 : Int32) (xa2 : Int32) (xa3 : Int32) : Option (Int32 × Sto) :=
  chk σ a0 10 <|
  (sV σ a0 10 0 (.int (0 : Int32))).bind fun s1 =>
  wb (F_X10_whyNot s1 a0 xa1 xa2 xa3) fun x3 s2 =>
  jn (fun (x5 : Int32) =>
    if x5 = 0 then (
      wb (F_X10_comesNow s2 a0 xa1 xa2 xa3) fun x7 s6 =>
      some (x7, s6)
    ) else (
      wb (F_X10_fails s2 a0 x5) fun x9 s8 =>
      some (x9, s8)
    )
  ) fun j4 =>
  if x3 = 0 then (
    (F_X10_isCut s2 a0 xa1 xa2).bind fun x10 =>
    if x10 = 0 then (
      j4 x3
    ) else (
      j4 (3 : Int32)
    )
  ) else (
    j4 x3
  )
def F_X10_lose (σ : Sto) (a0 : Nat) (xa1 : Int32) (xa2 : Int32) (xa3 : Int32) : Option (Int32 × Sto) :=
  chk σ a0 10 <|
  (sV σ a0 10 0 (.int (0 : Int32))).bind fun s1 =>
  wb (F_X10_whyNot s1 a0 xa1 xa2 xa3) fun x3 s2 =>
  if x3 = 0 then (
    (F_X10_steps s2 a0).bind fun s4 =>
    (F_X10_isGone s4 a0 xa1 xa2 xa3).bind fun s5 =>
    (F_X10_waits s5 a0 xa1 xa2).bind fun x6 =>
    wb (F_X10_notes s5 a0 (4 : Int32) xa1 x6) fun x8 s7 =>
    some (x8, s7)
  ) else (
    wb (F_X10_fails s2 a0 x3) fun x10 s9 =>
    some (x10, s9)
  )
def F_X10_twice_L65 (pL0 : Nat) (xL1 : Int32) (xL2 : Int32) (xL3 : Int32) (xL5 : Int32) : Nat → Int32 → Sto → (Sto → Option (Int32 × Sto)) → Option (Int32 × Sto)
  | 0, _, _, _ => none
  | f + 1, xL6, sL, k103 =>
    if (147 : Int32) ≤ xL6 then (
      k103 sL
    ) else (
      (gR sL pL0 10 1).bind fun p9 =>
      (gR sL pL0 10 1).bind fun p10 =>
      (F_X10_letterOf xL1 xL2 xL3).bind fun x11 =>
      (iald sL p10 (x11 + xL6)).bind fun x12 =>
      (iast sL p9 (xL5 + xL6) x12).bind fun s13 =>
      F_X10_twice_L65 pL0 xL1 xL2 xL3 xL5 f (xL6 + (1 : Int32)) s13 k103
    )
def F_X10_twice (σ : Sto) (a0 : Nat) (xa1 : Int32) (xa2 : Int32) (xa3 : Int32) : Option (Int32 × Sto) :=
  chk σ a0 10 <|
  (sV σ a0 10 0 (.int (0 : Int32))).bind fun s1 =>
  wb (F_X10_whyNot s1 a0 xa1 xa2 xa3) fun x3 s2 =>
  jn (fun (x5 : Int32) =>
    if x5 = 0 then (
      (F_X10_steps s2 a0).bind fun s6 =>
      (F_X10_waits s6 a0 xa1 xa2).bind fun x7 =>
      (F_X10_letterOf xa1 xa2 x7).bind fun x8 =>
      F_X10_twice_L65 a0 xa1 xa2 xa3 x8 fu (0 : Int32) s6
        (fun s14 =>
          (gR s14 a0 10 1).bind fun p15 =>
          (F_X10_couple xa1 xa2).bind fun x16 =>
          (iald s14 p15 ((5153 : Int32) + x16)).bind fun x17 =>
          (iast s14 p15 ((5153 : Int32) + x16) (x17 + (1 : Int32))).bind fun s18 =>
          (F_X10_waits s18 a0 xa1 xa2).bind fun x19 =>
          wb (F_X10_notes s18 a0 (5 : Int32) xa1 x19) fun x21 s20 =>
          some (x21, s20)
        )
    ) else (
      wb (F_X10_fails s2 a0 x5) fun x23 s22 =>
      some (x23, s22)
    )
  ) fun j4 =>
  if x3 = 0 then (
    (F_X10_waits s2 a0 xa1 xa2).bind fun x24 =>
    if x24 = (12 : Int32) then (
      j4 (3 : Int32)
    ) else (
      j4 x3
    )
  ) else (
    j4 x3
  )
def F_X10_waiting (σ : Sto) (a0 : Nat) (xa1 : Int32) (xa2 : Int32) : Option (Int32 × Sto) :=
  chk σ a0 10 <|
  (sV σ a0 10 0 (.int (0 : Int32))).bind fun s1 =>
  (F_X10_areTwo s1 a0 xa1 xa2).bind fun x2 =>
  if x2 = 0 then (
    wb (F_X10_fails s1 a0 (1 : Int32)) fun x4 s3 =>
    some (x4, s3)
  ) else (
    (F_X10_waits s1 a0 xa1 xa2).bind fun x5 =>
    some (x5, s1)
  )
def F_X10_hadOf_L5 (sL : Sto) (pL0 : Nat) (xL1 : Int32) (xL2 : Int32) : Nat → Int32 → Int32 → (Int32 → Option Int32) → Option Int32
  | 0, _, _, _ => none
  | f + 1, xL3, xL4, k45 =>
    (F_X10_of sL pL0 (xL1 + (1 : Int32))).bind fun x1 =>
    if x1 ≤ xL4 then (
      k45 xL3
    ) else (
      (F_X10_of sL pL0 ((xL1 + (2 : Int32)) + xL4)).bind fun x2 =>
      (F_X10_doesHave sL pL0 xL2 x2 (1 : Int32)).bind fun x3 =>
      (F_X10_flag x3).bind fun x4 =>
      F_X10_hadOf_L5 sL pL0 xL1 xL2 f (xL3 + x4) (xL4 + (1 : Int32)) k45
    )
def F_X10_hadOf (σ : Sto) (a0 : Nat) (xa1 : Int32) (xa2 : Int32) : Option Int32 :=
  chk σ a0 10 <|
  F_X10_hadOf_L5 σ a0 xa1 xa2 fu (0 : Int32) (0 : Int32)
    (fun x5 =>
      some x5
    )
def F_X10_letter (σ : Sto) (a0 : Nat) (xa1 : Int32) (xa2 : Int32) (xa3 : Int32) (xa4 : Int32) : Option (Int32 × Sto) :=
  chk σ a0 10 <|
  (sV σ a0 10 0 (.int (0 : Int32))).bind fun s1 =>
  wb (F_X10_whyNot s1 a0 xa1 xa2 xa3) fun x3 s2 =>
  jn (fun (x5 : Int32) =>
    if x5 = 0 then (
      (F_X10_letterOf xa1 xa2 xa3).bind fun x6 =>
      if xa4 = 0 then (
        (gR s2 a0 10 1).bind fun p10 =>
        (iald s2 p10 (x6 + (1 : Int32))).bind fun x11 =>
        some (x11, s2)
      ) else (
        if xa4 = (1 : Int32) then (
          (gR s2 a0 10 1).bind fun p8 =>
          (iald s2 p8 (x6 + (0 : Int32))).bind fun x9 =>
          some (x9, s2)
        ) else (
          (F_X10_hadOf s2 a0 x6 xa2).bind fun x7 =>
          some (x7, s2)
        )
      )
    ) else (
      wb (F_X10_fails s2 a0 x5) fun x13 s12 =>
      some (x13, s12)
    )
  ) fun j4 =>
  if x3 = 0 then (
    (F_X10_isIn xa4.toInt64 (0 : Int64) (2 : Int64)).bind fun x14 =>
    if x14 = 0 then (
      j4 (3 : Int32)
    ) else (
      j4 x3
    )
  ) else (
    j4 x3
  )
def F_X10_inLetter (σ : Sto) (a0 : Nat) (xa1 : Int32) (xa2 : Int32) (xa3 : Int32) (xa4 : Int32) : Option (Int32 × Sto) :=
  chk σ a0 10 <|
  (sV σ a0 10 0 (.int (0 : Int32))).bind fun s1 =>
  wb (F_X10_whyNot s1 a0 xa1 xa2 xa3) fun x3 s2 =>
  if x3 = 0 then (
    (F_X10_letterOf xa1 xa2 xa3).bind fun x4 =>
    (gR s2 a0 10 1).bind fun p5 =>
    (iald s2 p5 (x4 + (1 : Int32))).bind fun x6 =>
    (F_X10_isIn xa4.toInt64 (0 : Int64) (x6 - (1 : Int32)).toInt64).bind fun x7 =>
    if x7 = 0 then (
      wb (F_X10_fails s2 a0 (2 : Int32)) fun x9 s8 =>
      some (x9, s8)
    ) else (
      (gR s2 a0 10 1).bind fun p10 =>
      (iald s2 p10 ((x4 + (2 : Int32)) + xa4)).bind fun x11 =>
      some (x11, s2)
    )
  ) else (
    wb (F_X10_fails s2 a0 x3) fun x13 s12 =>
    some (x13, s12)
  )
def F_X10_copiesState_L2 (pL0 : Nat) (xL1 : Int32) (xL2 : Int32) : Nat → Int32 → Sto → (Sto → Option Sto) → Option Sto
  | 0, _, _, _ => none
  | f + 1, xL3, sL, k29 =>
    if (394 : Int32) ≤ xL3 then (
      k29 sL
    ) else (
      (F_X10_of sL pL0 (xL1 + xL3)).bind fun x1 =>
      (F_X10_set sL pL0 (xL2 + xL3) x1).bind fun s2 =>
      F_X10_copiesState_L2 pL0 xL1 xL2 f (xL3 + (1 : Int32)) s2 k29
    )
def F_X10_copiesState (σ : Sto) (a0 : Nat) (xa1 : Int32) (xa2 : Int32) : Option Sto :=
  chk σ a0 10 <|
  F_X10_copiesState_L2 a0 xa1 xa2 fu (0 : Int32) σ
    (fun s3 =>
      some s3
    )
def F_X10_hasMany (σ : Sto) (a0 : Nat) (xa1 : Int32) : Option Int32 :=
  chk σ a0 10 <|
  (F_X10_stateOf xa1).bind fun x1 =>
  (F_X10_bitsOf σ a0 (x1 + (25 : Int32))).bind fun x2 =>
  some x2
def F_X10_save (σ : Sto) (a0 : Nat) (xa1 : Int32) : Option (Int32 × Sto) :=
  chk σ a0 10 <|
  (sV σ a0 10 0 (.int (0 : Int32))).bind fun s1 =>
  (F_X10_isSite s1 a0 xa1).bind fun x2 =>
  if x2 = 0 then (
    wb (F_X10_fails s1 a0 (1 : Int32)) fun x11 s10 =>
    some (x11, s10)
  ) else (
    (F_X10_steps s1 a0).bind fun s3 =>
    (F_X10_stateOf xa1).bind fun x4 =>
    (F_X10_stateOf xa1).bind fun x5 =>
    (F_X10_copiesState s3 a0 x4 ((x5 + (395 : Int32)) - (1 : Int32))).bind fun s6 =>
    (F_X10_hasMany s6 a0 xa1).bind fun x7 =>
    wb (F_X10_notes s6 a0 (6 : Int32) xa1 x7) fun x9 s8 =>
    some (x9, s8)
  )
def F_X10_falls (σ : Sto) (a0 : Nat) (xa1 : Int32) : Option Sto :=
  chk σ a0 10 <|
  (F_X10_stateOf xa1).bind fun x1 =>
  (F_X10_stateOf xa1).bind fun x2 =>
  (F_X10_copiesState σ a0 ((x1 + (395 : Int32)) - (1 : Int32)) x2).bind fun s3 =>
  some s3
def F_X10_fall_L33 (sL : Sto) (pL0 : Nat) (xL2 : Int32) : Nat → Int32 → Int32 → (Int32 → Option (Int32 × Sto)) → Option (Int32 × Sto)
  | 0, _, _, _ => none
  | f + 1, xL3, xL4, k93 =>
    (gR sL pL0 10 1).bind fun p5 =>
    (iald sL p5 (2 : Int32)).bind fun x6 =>
    if x6 ≤ xL4 then (
      k93 xL3
    ) else (
      (F_X10_isOf sL pL0 (xL2 + (25 : Int32)) xL4).bind fun x7 =>
      jn (fun (x9 : Int32) =>
        (F_X10_flag x9).bind fun x10 =>
        F_X10_fall_L33 sL pL0 xL2 f (xL3 + x10) (xL4 + (1 : Int32)) k93
      ) fun j8 =>
      if x7 = 0 then (
        j8 (0 : Int32)
      ) else (
        (F_X10_isOf sL pL0 (((xL2 + (395 : Int32)) - (1 : Int32)) + (25 : Int32)) xL4).bind fun x11 =>
        if x11 = 0 then (
          j8 (1 : Int32)
        ) else (
          j8 (0 : Int32)
        )
      )
    )
def F_X10_fall (σ : Sto) (a0 : Nat) (xa1 : Int32) : Option (Int32 × Sto) :=
  chk σ a0 10 <|
  (sV σ a0 10 0 (.int (0 : Int32))).bind fun s1 =>
  (F_X10_isSite s1 a0 xa1).bind fun x2 =>
  if x2 = 0 then (
    wb (F_X10_fails s1 a0 (1 : Int32)) fun x17 s16 =>
    some (x17, s16)
  ) else (
    (F_X10_steps s1 a0).bind fun s3 =>
    (F_X10_stateOf xa1).bind fun x4 =>
    F_X10_fall_L33 s3 a0 x4 fu (0 : Int32) (0 : Int32)
      (fun x12 =>
        (F_X10_falls s3 a0 xa1).bind fun s13 =>
        wb (F_X10_notes s13 a0 (7 : Int32) xa1 x12) fun x15 s14 =>
        some (x15, s14)
      )
  )
def F_X10_joins_L14 (pL0 : Nat) (xL1 : Int32) (xL2 : Int32) (xL4 : Int32) : Nat → Int32 → Sto → (Sto → Option Sto) → Option Sto
  | 0, _, _, _ => none
  | f + 1, xL5, sL, k52 =>
    (F_X10_of sL pL0 (2 : Int32)).bind fun x3 =>
    if x3 ≤ xL5 then (
      k52 sL
    ) else (
      (F_X10_isOf sL pL0 (xL4 + (25 : Int32)) xL5).bind fun x4 =>
      if x4 = 0 then (
        F_X10_joins_L14 pL0 xL1 xL2 xL4 f (xL5 + (1 : Int32)) sL k52
      ) else (
        (F_X10_comesToHave sL pL0 xL1 xL5 xL2).bind fun s5 =>
        F_X10_joins_L14 pL0 xL1 xL2 xL4 f (xL5 + (1 : Int32)) s5 k52
      )
    )
def F_X10_joins_L55 (pL0 : Nat) (xL3 : Int32) (xL4 : Int32) : Nat → Int32 → Sto → (Sto → Option Sto) → Option Sto
  | 0, _, _, _ => none
  | f + 1, xL5, sL, k86 =>
    if (154 : Int32) ≤ xL5 then (
      k86 sL
    ) else (
      (F_X10_of sL pL0 (xL4 + xL5)).bind fun x7 =>
      (F_X10_set sL pL0 (xL3 + xL5) x7).bind fun s8 =>
      F_X10_joins_L55 pL0 xL3 xL4 f (xL5 + (1 : Int32)) s8 k86
    )
def F_X10_joins_L89 (pL0 : Nat) (xL1 : Int32) (xL2 : Int32) : Nat → Int32 → Sto → (Sto → Option Sto) → Option Sto
  | 0, _, _, _ => none
  | f + 1, xL5, sL, k127 =>
    (F_X10_of sL pL0 (0 : Int32)).bind fun x10 =>
    if x10 ≤ xL5 then (
      k127 sL
    ) else (
      (F_X10_cellOf xL1 xL1 xL5).bind fun x11 =>
      (F_X10_cellOf xL2 xL2 xL5).bind fun x12 =>
      (F_X10_of sL pL0 x12).bind fun x13 =>
      (F_X10_set sL pL0 x11 x13).bind fun s14 =>
      F_X10_joins_L89 pL0 xL1 xL2 f (xL5 + (1 : Int32)) s14 k127
    )
def F_X10_joins (σ : Sto) (a0 : Nat) (xa1 : Int32) (xa2 : Int32) : Option Sto :=
  chk σ a0 10 <|
  (F_X10_stateOf xa1).bind fun x1 =>
  (F_X10_stateOf xa2).bind fun x2 =>
  F_X10_joins_L14 a0 xa1 xa2 x2 fu (0 : Int32) σ
    (fun s6 =>
      F_X10_joins_L55 a0 x1 x2 fu (0 : Int32) s6
        (fun s9 =>
          F_X10_joins_L89 a0 xa1 xa2 fu (0 : Int32) s9
            (fun s15 =>
              (F_X10_cellOf xa1 xa1 xa1).bind fun x16 =>
              (F_X10_clockOf xa1).bind fun x17 =>
              (F_X10_of s15 a0 x17).bind fun x18 =>
              (F_X10_set s15 a0 x16 x18).bind fun s19 =>
              some s19
            )
        )
    )
def F_X10_join (σ : Sto) (a0 : Nat) (xa1 : Int32) (xa2 : Int32) : Option (Int32 × Sto) :=
  chk σ a0 10 <|
  (sV σ a0 10 0 (.int (0 : Int32))).bind fun s1 =>
  (F_X10_areTwo s1 a0 xa1 xa2).bind fun x2 =>
  if x2 = 0 then (
    wb (F_X10_fails s1 a0 (1 : Int32)) fun x9 s8 =>
    some (x9, s8)
  ) else (
    (F_X10_steps s1 a0).bind fun s3 =>
    (F_X10_joins s3 a0 xa1 xa2).bind fun s4 =>
    (F_X10_hasMany s4 a0 xa1).bind fun x5 =>
    wb (F_X10_notes s4 a0 (8 : Int32) xa1 x5) fun x7 s6 =>
    some (x7, s6)
  )
def F_X10_draw (σ : Sto) (a0 : Nat) (xa1 : Int32) : Option (Int32 × Sto) :=
  chk σ a0 10 <|
  (gL σ a0 10 7).bind fun y1 =>
  (sV σ a0 10 7 (.long ((((1103515245 : Int64) * y1) + (12345 : Int64)) - (((1103515245 : Int64) * y1) + (12345 : Int64)) / (2147483648 : Int64) * (2147483648 : Int64)))).bind fun s2 =>
  (gL s2 a0 10 7).bind fun y3 =>
  if xa1.toInt64 = 0 then none else
  some (((y3 / (64 : Int64)) - (y3 / (64 : Int64)) / xa1.toInt64 * xa1.toInt64).toInt32, s2)
def F_X10_kthOf_L5 (sL : Sto) (pL0 : Nat) (xL1 : Int32) : Nat → Int32 → Int32 → (Option Int32) → Option Int32
  | 0, _, _, _ => none
  | f + 1, xL3, xL4, k44 =>
    (F_X10_of sL pL0 (2 : Int32)).bind fun x1 =>
    if x1 ≤ xL4 then (
      k44
    ) else (
      (F_X10_isOf sL pL0 xL1 xL4).bind fun x2 =>
      if x2 = 0 then (
        F_X10_kthOf_L5 sL pL0 xL1 f xL3 (xL4 + (1 : Int32)) k44
      ) else (
        if xL3 = 0 then (
          some xL4
        ) else (
          F_X10_kthOf_L5 sL pL0 xL1 f (xL3 + (-1 : Int32)) (xL4 + (1 : Int32)) k44
        )
      )
    )
def F_X10_kthOf (σ : Sto) (a0 : Nat) (xa1 : Int32) (xa2 : Int32) : Option Int32 :=
  chk σ a0 10 <|
  F_X10_kthOf_L5 σ a0 xa1 fu xa2 (0 : Int32)
    (
      some (-1 : Int32)
    )
def F_X10_takesByDraw (σ : Sto) (a0 : Nat) (xa1 : Int32) : Option Sto :=
  chk σ a0 10 <|
  (F_X10_stateOf xa1).bind fun x1 =>
  (F_X10_bitsOf σ a0 (x1 + (29 : Int32))).bind fun x2 =>
  if x2 = 0 then (
    some σ
  ) else (
    (F_X10_stateOf xa1).bind fun x3 =>
    wb (F_X10_draw σ a0 x2) fun x5 s4 =>
    (F_X10_kthOf s4 a0 (x3 + (29 : Int32)) x5).bind fun x6 =>
    (gR s4 a0 10 1).bind fun p7 =>
    (iald s4 p7 (2 : Int32)).bind fun x8 =>
    if (120 : Int32) ≤ x8 then (
      some s4
    ) else (
      wb (F_X10_takes s4 a0 xa1 x6) fun x10 s9 =>
      some s9
    )
  )
def F_X10_letterByDraw (σ : Sto) (a0 : Nat) (xa1 : Int32) (xa2 : Int32) : Option Sto :=
  chk σ a0 10 <|
  (gR σ a0 10 1).bind fun p1 =>
  (iald σ p1 (0 : Int32)).bind fun x2 =>
  wb (F_X10_draw σ a0 x2) fun x4 s3 =>
  jn (fun (x6 : Int32) =>
    if (6 : Int32) ≤ xa1 then (
      (F_X10_waits s3 a0 xa2 x6).bind fun x7 =>
      if x7 = 0 then (
        some s3
      ) else (
        (F_X10_waits s3 a0 xa2 x6).bind fun x8 =>
        wb (F_X10_draw s3 a0 x8) fun x10 s9 =>
        (F_X10_isCut s9 a0 xa2 x6).bind fun x11 =>
        if x11 = 0 then (
          wb (F_X10_comesNow s9 a0 xa2 x6 x10) fun x13 s12 =>
          some s12
        ) else (
          some s9
        )
      )
    ) else (
      wb (F_X10_canWrite s3 a0 xa2 x6) fun x15 s14 =>
      if x15 = 0 then (
        some s14
      ) else (
        wb (F_X10_writes s14 a0 xa2 x6) fun x17 s16 =>
        some s16
      )
    )
  ) fun j5 =>
  if x4 = xa2 then (
    (gR s3 a0 10 1).bind fun p18 =>
    (iald s3 p18 (0 : Int32)).bind fun x19 =>
    if x19 = 0 then none else
    j5 ((xa2 + (1 : Int32)) - (xa2 + (1 : Int32)) / x19 * x19)
  ) else (
    j5 x4
  )
def F_X10_chance_L48 (pL0 : Nat) (xL2 : Int32) : Nat → Int32 → Sto → (Sto → Option (Int32 × Sto)) → Option (Int32 × Sto)
  | 0, _, _, _ => none
  | f + 1, xL4, sL, k140 =>
    if xL2 ≤ xL4 then (
      k140 sL
    ) else (
      wb (F_X10_draw sL pL0 (8 : Int32)) fun x10 s9 =>
      (gR s9 pL0 10 1).bind fun p11 =>
      (iald s9 p11 (0 : Int32)).bind fun x12 =>
      wb (F_X10_draw s9 pL0 x12) fun x14 s13 =>
      if (2 : Int32) ≤ x10 then (
        if x10 = (2 : Int32) then (
          (F_X10_takesByDraw s13 pL0 x14).bind fun s16 =>
          F_X10_chance_L48 pL0 xL2 f (xL4 + (1 : Int32)) s16 k140
        ) else (
          (F_X10_letterByDraw s13 pL0 x10 x14).bind fun s15 =>
          F_X10_chance_L48 pL0 xL2 f (xL4 + (1 : Int32)) s15 k140
        )
      ) else (
        wb (F_X10_draw s13 pL0 (100 : Int32)) fun x18 s17 =>
        (gR s17 pL0 10 1).bind fun p19 =>
        (iald s17 p19 (2 : Int32)).bind fun x20 =>
        if (120 : Int32) ≤ x20 then (
          F_X10_chance_L48 pL0 xL2 f (xL4 + (1 : Int32)) s17 k140
        ) else (
          wb (F_X10_adds s17 pL0 x14 x18) fun x22 s21 =>
          F_X10_chance_L48 pL0 xL2 f (xL4 + (1 : Int32)) s21 k140
        )
      )
    )
def F_X10_chance (σ : Sto) (a0 : Nat) (xa1 : Int32) (xa2 : Int32) : Option (Int32 × Sto) :=
  chk σ a0 10 <|
  (sV σ a0 10 0 (.int (0 : Int32))).bind fun s1 =>
  if xa1 < 0 then (
    wb (F_X10_fails s1 a0 (1 : Int32)) fun x3 s2 =>
    some (x3, s2)
  ) else (
    (F_X10_isIn xa2.toInt64 (0 : Int64) (60 : Int64)).bind fun x4 =>
    if x4 = 0 then (
      wb (F_X10_fails s1 a0 (1 : Int32)) fun x27 s26 =>
      some (x27, s26)
    ) else (
      (sV s1 a0 10 3 (.int (0 : Int32))).bind fun s5 =>
      (sV s5 a0 10 7 (.long xa1.toInt64)).bind fun s6 =>
      (gR s6 a0 10 1).bind fun p7 =>
      (iald s6 p7 (2 : Int32)).bind fun x8 =>
      F_X10_chance_L48 a0 xa2 fu (0 : Int32) s6
        (fun s23 =>
          (gR s23 a0 10 1).bind fun p24 =>
          (iald s23 p24 (2 : Int32)).bind fun x25 =>
          some ((x25 - x8), s23)
        )
    )
  )
def F_X10_keep (σ : Sto) (a0 : Nat) (xa1 : Int32) : Option (Int32 × Sto) :=
  chk σ a0 10 <|
  (sV σ a0 10 0 (.int (0 : Int32))).bind fun s1 =>
  (F_X10_isIn xa1.toInt64 (0 : Int64) (1 : Int64)).bind fun x2 =>
  if x2 = 0 then (
    wb (F_X10_fails s1 a0 (1 : Int32)) fun x9 s8 =>
    some (x9, s8)
  ) else (
    (F_X10_copies s1 a0 (0 : Int32) ((98850 : Int32) + ((49425 : Int32) * xa1))).bind fun s3 =>
    (gR s3 a0 10 2).bind fun p4 =>
    (zast s3 p4 xa1 (1 : Int32)).bind fun s5 =>
    (gR s5 a0 10 1).bind fun p6 =>
    (iald s5 p6 (2 : Int32)).bind fun x7 =>
    some (x7, s5)
  )
def F_X10_back (σ : Sto) (a0 : Nat) (xa1 : Int32) : Option (Int32 × Sto) :=
  chk σ a0 10 <|
  (sV σ a0 10 0 (.int (0 : Int32))).bind fun s1 =>
  (F_X10_isIn xa1.toInt64 (0 : Int64) (1 : Int64)).bind fun x2 =>
  if x2 = 0 then (
    wb (F_X10_fails s1 a0 (1 : Int32)) fun x12 s11 =>
    some (x12, s11)
  ) else (
    (gR s1 a0 10 2).bind fun p3 =>
    (zald s1 p3 xa1).bind fun x4 =>
    if x4 = 0 then (
      wb (F_X10_fails s1 a0 (2 : Int32)) fun x10 s9 =>
      some (x10, s9)
    ) else (
      (F_X10_copies s1 a0 ((98850 : Int32) + ((49425 : Int32) * xa1)) (0 : Int32)).bind fun s5 =>
      (sV s5 a0 10 5 (.int (0 : Int32))).bind fun s6 =>
      (gR s6 a0 10 1).bind fun p7 =>
      (iald s6 p7 (2 : Int32)).bind fun x8 =>
      some (x8, s6)
    )
  )
def F_X10_cut (σ : Sto) (a0 : Nat) (xa1 : Int32) (xa2 : Int32) (xa3 : Int32) : Option (Int32 × Sto) :=
  chk σ a0 10 <|
  (sV σ a0 10 0 (.int (0 : Int32))).bind fun s1 =>
  (sV s1 a0 10 3 (.int (0 : Int32))).bind fun s2 =>
  (F_X10_areTwo s2 a0 xa1 xa2).bind fun x3 =>
  if x3 = 0 then (
    wb (F_X10_fails s2 a0 (1 : Int32)) fun x13 s12 =>
    if x13 = 0 then (
      some ((0 : Int32), s12)
    ) else (
      some ((1 : Int32), s12)
    )
  ) else (
    (F_X10_isCut s2 a0 xa1 xa2).bind fun x4 =>
    if x4 = xa3 then (
      some ((0 : Int32), s2)
    ) else (
      (F_X10_steps s2 a0).bind fun s5 =>
      (gR s5 a0 10 1).bind fun p6 =>
      (iald s5 p6 (7 : Int32)).bind fun x7 =>
      (F_X10_linkOf xa1 xa2).bind fun x8 =>
      (iast s5 p6 (7 : Int32) (x7 ^^^ ((1 : Int32) <<< (x8 &&& 31)))).bind fun s9 =>
      wb (F_X10_notes s9 a0 (9 : Int32) xa1 (1 : Int32)) fun x11 s10 =>
      if x11 = (1 : Int32) then (
        some ((1 : Int32), s10)
      ) else (
        some ((0 : Int32), s10)
      )
    )
  )
def F_X10_view (σ : Sto) (a0 : Nat) (xa1 : Int32) (xa2 : Int32) (xa3 : Int32) : Option (Int32 × Sto) :=
  chk σ a0 10 <|
  (sV σ a0 10 0 (.int (0 : Int32))).bind fun s1 =>
  (sV s1 a0 10 3 (.int (0 : Int32))).bind fun s2 =>
  (F_X10_isSite s2 a0 xa1).bind fun x3 =>
  if x3 = 0 then (
    wb (F_X10_fails s2 a0 (1 : Int32)) fun x17 s16 =>
    some (x17, s16)
  ) else (
    jn (fun (x5 : Int32) =>
      if x5 = (-1 : Int32) then (
        wb (F_X10_fails s2 a0 (2 : Int32)) fun x13 s12 =>
        some (x13, s12)
      ) else (
        (F_X10_isIn xa3.toInt64 (0 : Int64) (1 : Int64)).bind fun x6 =>
        if x6 = 0 then (
          wb (F_X10_fails s2 a0 (3 : Int32)) fun x11 s10 =>
          some (x11, s10)
        ) else (
          if xa3 = 0 then (
            some (x5, s2)
          ) else (
            (gR s2 a0 10 1).bind fun p7 =>
            (F_X10_eventOf x5).bind fun x8 =>
            (iald s2 p7 (x8 + (4 : Int32))).bind fun x9 =>
            some (x9, s2)
          )
        )
      )
    ) fun j4 =>
    if 0 ≤ xa2 then (
      (F_X10_stateOf xa1).bind fun x14 =>
      (F_X10_kthOf s2 a0 (x14 + (29 : Int32)) xa2).bind fun x15 =>
      j4 x15
    ) else (
      j4 (-1 : Int32)
    )
  )
def F_X10_named_L66 (sL : Sto) (pL0 : Nat) (xL1 : Int32) (xL2 : Int32) : Nat → Int32 → Int32 → Int32 → Int32 → (Int32 → Int32 → Int32 → Option (Int32 × Sto)) → Option (Int32 × Sto)
  | 0, _, _, _, _, _ => none
  | f + 1, xL4, xL5, xL6, xL7, k135 =>
    (gR sL pL0 10 1).bind fun p8 =>
    (iald sL p8 (2 : Int32)).bind fun x9 =>
    if x9 ≤ xL7 then (
      k135 xL4 xL5 xL6
    ) else (
      (F_X10_stateOf xL1).bind fun x10 =>
      (F_X10_isOf sL pL0 (x10 + (29 : Int32)) xL7).bind fun x11 =>
      if x11 = 0 then (
        F_X10_named_L66 sL pL0 xL1 xL2 f xL4 xL5 xL6 (xL7 + (1 : Int32)) k135
      ) else (
        (gR sL pL0 10 1).bind fun p12 =>
        (F_X10_eventOf xL7).bind fun x13 =>
        (iald sL p12 (x13 + (4 : Int32))).bind fun x14 =>
        if x14 = xL2 then (
          if xL5 = (-1 : Int32) then (
            F_X10_named_L66 sL pL0 xL1 xL2 f (xL4 + (1 : Int32)) xL7 xL7 (xL7 + (1 : Int32)) k135
          ) else (
            F_X10_named_L66 sL pL0 xL1 xL2 f (xL4 + (1 : Int32)) xL5 xL7 (xL7 + (1 : Int32)) k135
          )
        ) else (
          F_X10_named_L66 sL pL0 xL1 xL2 f xL4 xL5 xL6 (xL7 + (1 : Int32)) k135
        )
      )
    )
def F_X10_named (σ : Sto) (a0 : Nat) (xa1 : Int32) (xa2 : Int32) (xa3 : Int32) : Option (Int32 × Sto) :=
  chk σ a0 10 <|
  (sV σ a0 10 0 (.int (0 : Int32))).bind fun s1 =>
  (sV s1 a0 10 3 (.int (0 : Int32))).bind fun s2 =>
  (F_X10_isSite s2 a0 xa1).bind fun x3 =>
  if x3 = 0 then (
    wb (F_X10_fails s2 a0 (1 : Int32)) fun x21 s20 =>
    some (x21, s20)
  ) else (
    (F_X10_isIn xa2.toInt64 (0 : Int64) (99 : Int64)).bind fun x4 =>
    if x4 = 0 then (
      wb (F_X10_fails s2 a0 (2 : Int32)) fun x6 s5 =>
      some (x6, s5)
    ) else (
      (F_X10_isIn xa3.toInt64 (0 : Int64) (2 : Int64)).bind fun x7 =>
      if x7 = 0 then (
        wb (F_X10_fails s2 a0 (2 : Int32)) fun x19 s18 =>
        some (x19, s18)
      ) else (
        F_X10_named_L66 s2 a0 xa1 xa2 fu (0 : Int32) (-1 : Int32) (-1 : Int32) (0 : Int32)
          (fun x15 x16 x17 =>
            if xa3 = 0 then (
              some (x15, s2)
            ) else (
              if xa3 = (1 : Int32) then (
                some (x16, s2)
              ) else (
                some (x17, s2)
              )
            )
          )
      )
    )
  )
def F_X10_log (σ : Sto) (a0 : Nat) (xa1 : Int32) (xa2 : Int32) : Option (Int32 × Sto) :=
  chk σ a0 10 <|
  (sV σ a0 10 0 (.int (0 : Int32))).bind fun s1 =>
  (F_X10_isSite s1 a0 xa1).bind fun x2 =>
  if x2 = 0 then (
    wb (F_X10_fails s1 a0 (1 : Int32)) fun x13 s12 =>
    some (x13, s12)
  ) else (
    (gR s1 a0 10 1).bind fun p3 =>
    (F_X10_stateOf xa1).bind fun x4 =>
    (iald s1 p3 (x4 + (33 : Int32))).bind fun x5 =>
    (F_X10_isIn xa2.toInt64 (0 : Int64) (x5 - (1 : Int32)).toInt64).bind fun x6 =>
    if x6 = 0 then (
      wb (F_X10_fails s1 a0 (2 : Int32)) fun x8 s7 =>
      some (x8, s7)
    ) else (
      (gR s1 a0 10 1).bind fun p9 =>
      (F_X10_stateOf xa1).bind fun x10 =>
      (iald s1 p9 ((x10 + (34 : Int32)) + xa2)).bind fun x11 =>
      some (x11, s1)
    )
  )
def F_X10_table (σ : Sto) (a0 : Nat) (xa1 : Int32) (xa2 : Int32) (xa3 : Int32) : Option (Int32 × Sto) :=
  chk σ a0 10 <|
  (sV σ a0 10 0 (.int (0 : Int32))).bind fun s1 =>
  (F_X10_isSite s1 a0 xa1).bind fun x2 =>
  if x2 = 0 then (
    wb (F_X10_fails s1 a0 (1 : Int32)) fun x4 s3 =>
    some (x4, s3)
  ) else (
    (F_X10_isSite s1 a0 xa2).bind fun x5 =>
    if x5 = 0 then (
      wb (F_X10_fails s1 a0 (1 : Int32)) fun x7 s6 =>
      some (x7, s6)
    ) else (
      (F_X10_isSite s1 a0 xa3).bind fun x8 =>
      if x8 = 0 then (
        wb (F_X10_fails s1 a0 (1 : Int32)) fun x10 s9 =>
        some (x10, s9)
      ) else (
        (gR s1 a0 10 1).bind fun p11 =>
        (F_X10_cellOf xa1 xa2 xa3).bind fun x12 =>
        (iald s1 p11 x12).bind fun x13 =>
        some (x13, s1)
      )
    )
  )
def F_X10_knows (σ : Sto) (a0 : Nat) (xa1 : Int32) (xa2 : Int32) (xa3 : Int32) : Option (Int32 × Sto) :=
  chk σ a0 10 <|
  (sV σ a0 10 0 (.int (0 : Int32))).bind fun s1 =>
  (sV s1 a0 10 3 (.int (0 : Int32))).bind fun s2 =>
  (F_X10_isSite s2 a0 xa1).bind fun x3 =>
  if x3 = 0 then (
    wb (F_X10_fails s2 a0 (1 : Int32)) fun x5 s4 =>
    if x5 = 0 then (
      some ((0 : Int32), s4)
    ) else (
      some ((1 : Int32), s4)
    )
  ) else (
    (F_X10_isSite s2 a0 xa2).bind fun x6 =>
    if x6 = 0 then (
      wb (F_X10_fails s2 a0 (1 : Int32)) fun x8 s7 =>
      if x8 = 0 then (
        some ((0 : Int32), s7)
      ) else (
        some ((1 : Int32), s7)
      )
    ) else (
      (F_X10_isEvent s2 a0 xa3).bind fun x9 =>
      if x9 = 0 then (
        wb (F_X10_fails s2 a0 (1 : Int32)) fun x12 s11 =>
        if x12 = 0 then (
          some ((0 : Int32), s11)
        ) else (
          some ((1 : Int32), s11)
        )
      ) else (
        (F_X10_isKnown s2 a0 xa1 xa2 xa3).bind fun x10 =>
        if x10 = 0 ∨ x10 = 1 then some (x10, s2) else none
      )
    )
  )
def F_X10_has (σ : Sto) (a0 : Nat) (xa1 : Int32) (xa2 : Int32) : Option (Int32 × Sto) :=
  chk σ a0 10 <|
  (sV σ a0 10 0 (.int (0 : Int32))).bind fun s1 =>
  (sV s1 a0 10 3 (.int (0 : Int32))).bind fun s2 =>
  (F_X10_isSite s2 a0 xa1).bind fun x3 =>
  if x3 = 0 then (
    wb (F_X10_fails s2 a0 (1 : Int32)) fun x5 s4 =>
    if x5 = 0 then (
      some ((0 : Int32), s4)
    ) else (
      some ((1 : Int32), s4)
    )
  ) else (
    (F_X10_isEvent s2 a0 xa2).bind fun x6 =>
    if x6 = 0 then (
      wb (F_X10_fails s2 a0 (1 : Int32)) fun x9 s8 =>
      if x9 = 0 then (
        some ((0 : Int32), s8)
      ) else (
        some ((1 : Int32), s8)
      )
    ) else (
      (F_X10_doesHave s2 a0 xa1 xa2 (1 : Int32)).bind fun x7 =>
      if x7 = 0 ∨ x7 = 1 then some (x7, s2) else none
    )
  )
def F_X10_isOverstated_L15 (sL : Sto) (pL0 : Nat) (xL2 : Int32) (xL3 : Int32) (xL4 : Int32) : Nat → Int32 → (Option Int32) → Option Int32
  | 0, _, _ => none
  | f + 1, xL5, k65 =>
    (F_X10_of sL pL0 (2 : Int32)).bind fun x3 =>
    if x3 ≤ xL5 then (
      k65
    ) else (
      (F_X10_siteOf sL pL0 xL5).bind fun x4 =>
      if x4 = xL3 then (
        (F_X10_timeOf sL pL0 xL5).bind fun x5 =>
        if xL4 < x5 then (
          F_X10_isOverstated_L15 sL pL0 xL2 xL3 xL4 f (xL5 + (1 : Int32)) k65
        ) else (
          (F_X10_doesHave sL pL0 xL2 xL5 (0 : Int32)).bind fun x6 =>
          if x6 = 0 then (
            F_X10_isOverstated_L15 sL pL0 xL2 xL3 xL4 f (xL5 + (1 : Int32)) k65
          ) else (
            some (1 : Int32)
          )
        )
      ) else (
        F_X10_isOverstated_L15 sL pL0 xL2 xL3 xL4 f (xL5 + (1 : Int32)) k65
      )
    )
def F_X10_isOverstated (σ : Sto) (a0 : Nat) (xa1 : Int32) (xa2 : Int32) (xa3 : Int32) : Option Int32 :=
  chk σ a0 10 <|
  (F_X10_cellOf xa1 xa2 xa3).bind fun x1 =>
  (F_X10_of σ a0 x1).bind fun x2 =>
  F_X10_isOverstated_L15 σ a0 xa2 xa3 x2 fu (0 : Int32)
    (
      some (0 : Int32)
    )
def F_X10_overstatedOf_L16 (sL : Sto) (pL0 : Nat) (xL1 : Int32) (xL3 : Int32) : Nat → Int32 → Int32 → (Int32 → Option Int32) → Option Int32
  | 0, _, _, _ => none
  | f + 1, xL2, xL4, k46 =>
    (F_X10_of sL pL0 (0 : Int32)).bind fun x2 =>
    if x2 ≤ xL4 then (
      k46 xL2
    ) else (
      (F_X10_isOverstated sL pL0 xL1 xL3 xL4).bind fun x3 =>
      (F_X10_flag x3).bind fun x4 =>
      F_X10_overstatedOf_L16 sL pL0 xL1 xL3 f (xL2 + x4) (xL4 + (1 : Int32)) k46
    )
def F_X10_overstatedOf_L4 (sL : Sto) (pL0 : Nat) (xL1 : Int32) : Nat → Int32 → Int32 → (Int32 → Option Int32) → Option Int32
  | 0, _, _, _ => none
  | f + 1, xL2, xL3, k52 =>
    (F_X10_of sL pL0 (0 : Int32)).bind fun x1 =>
    if x1 ≤ xL3 then (
      k52 xL2
    ) else (
      F_X10_overstatedOf_L16 sL pL0 xL1 xL3 fu xL2 (0 : Int32)
        (fun x5 =>
          F_X10_overstatedOf_L4 sL pL0 xL1 f x5 (xL3 + (1 : Int32)) k52
        )
    )
def F_X10_overstatedOf (σ : Sto) (a0 : Nat) (xa1 : Int32) : Option Int32 :=
  chk σ a0 10 <|
  F_X10_overstatedOf_L4 σ a0 xa1 fu (0 : Int32) (0 : Int32)
    (fun x6 =>
      some x6
    )
def F_X10_overstatedAll_L4 (sL : Sto) (pL0 : Nat) : Nat → Int32 → Int32 → (Int32 → Option Int32) → Option Int32
  | 0, _, _, _ => none
  | f + 1, xL1, xL2, k27 =>
    (F_X10_of sL pL0 (0 : Int32)).bind fun x1 =>
    if x1 ≤ xL2 then (
      k27 xL1
    ) else (
      (F_X10_overstatedOf sL pL0 xL2).bind fun x2 =>
      F_X10_overstatedAll_L4 sL pL0 f (xL1 + x2) (xL2 + (1 : Int32)) k27
    )
def F_X10_overstatedAll (σ : Sto) (a0 : Nat) : Option Int32 :=
  chk σ a0 10 <|
  F_X10_overstatedAll_L4 σ a0 fu (0 : Int32) (0 : Int32)
    (fun x3 =>
      some x3
    )
def F_X10_laysLetter_L2 (pL0 : Nat) (xL1 : Int32) (xL2 : Int32) : Nat → Int32 → Sto → (Sto → Option Sto) → Option Sto
  | 0, _, _, _ => none
  | f + 1, xL3, sL, k49 =>
    (F_X10_of sL pL0 (xL1 + (1 : Int32))).bind fun x1 =>
    if x1 ≤ xL3 then (
      k49 sL
    ) else (
      (F_X10_of sL pL0 ((xL1 + (2 : Int32)) + xL3)).bind fun x2 =>
      (F_X10_isKnown sL pL0 xL2 xL2 x2).bind fun x3 =>
      if x3 = 0 then (
        (gR sL pL0 10 8).bind fun p4 =>
        (zast sL p4 x2 (1 : Int32)).bind fun s5 =>
        F_X10_laysLetter_L2 pL0 xL1 xL2 f (xL3 + (1 : Int32)) s5 k49
      ) else (
        F_X10_laysLetter_L2 pL0 xL1 xL2 f (xL3 + (1 : Int32)) sL k49
      )
    )
def F_X10_laysLetter (σ : Sto) (a0 : Nat) (xa1 : Int32) (xa2 : Int32) : Option Sto :=
  chk σ a0 10 <|
  F_X10_laysLetter_L2 a0 xa1 xa2 fu (0 : Int32) σ
    (fun s6 =>
      some s6
    )
def F_X10_laysReaches_L2 (pL0 : Nat) : Nat → Int32 → Sto → (Sto → Option Sto) → Option Sto
  | 0, _, _, _ => none
  | f + 1, xL2, sL, k21 =>
    if (120 : Int32) ≤ xL2 then (
      k21 sL
    ) else (
      (gR sL pL0 10 8).bind fun p1 =>
      (zast sL p1 xL2 (0 : Int32)).bind fun s2 =>
      F_X10_laysReaches_L2 pL0 f (xL2 + (1 : Int32)) s2 k21
    )
def F_X10_laysReaches_L40 (pL0 : Nat) (xL1 : Int32) (xL2 : Int32) (xL3 : Int32) : Nat → Int32 → Sto → (Sto → Option Sto) → Option Sto
  | 0, _, _, _ => none
  | f + 1, xL4, sL, k96 =>
    (F_X10_of sL pL0 (xL3 + (33 : Int32))).bind fun x6 =>
    if x6 ≤ xL4 then (
      k96 sL
    ) else (
      (F_X10_of sL pL0 ((xL3 + (34 : Int32)) + xL4)).bind fun x7 =>
      (F_X10_isKnown sL pL0 xL2 xL1 x7).bind fun x8 =>
      if x8 = 0 then (
        (gR sL pL0 10 8).bind fun p9 =>
        (F_X10_of sL pL0 ((xL3 + (34 : Int32)) + xL4)).bind fun x10 =>
        (zast sL p9 x10 (1 : Int32)).bind fun s11 =>
        F_X10_laysReaches_L40 pL0 xL1 xL2 xL3 f (xL4 + (1 : Int32)) s11 k96
      ) else (
        F_X10_laysReaches_L40 pL0 xL1 xL2 xL3 f (xL4 + (1 : Int32)) sL k96
      )
    )
def F_X10_laysReaches_L99 (pL0 : Nat) (xL1 : Int32) (xL2 : Int32) : Nat → Int32 → Sto → (Sto → Option Sto) → Option Sto
  | 0, _, _, _ => none
  | f + 1, xL4, sL, k135 =>
    (F_X10_couple xL2 xL1).bind fun x13 =>
    (F_X10_of sL pL0 ((5153 : Int32) + x13)).bind fun x14 =>
    if x14 ≤ xL4 then (
      k135 sL
    ) else (
      (F_X10_letterOf xL2 xL1 xL4).bind fun x15 =>
      (F_X10_laysLetter sL pL0 x15 xL1).bind fun s16 =>
      F_X10_laysReaches_L99 pL0 xL1 xL2 f (xL4 + (1 : Int32)) s16 k135
    )
def F_X10_laysReaches_L23 (pL0 : Nat) (xL1 : Int32) : Nat → Int32 → Sto → (Sto → Option Sto) → Option Sto
  | 0, _, _, _ => none
  | f + 1, xL2, sL, k141 =>
    (F_X10_of sL pL0 (0 : Int32)).bind fun x4 =>
    if x4 ≤ xL2 then (
      k141 sL
    ) else (
      (F_X10_stateOf xL2).bind fun x5 =>
      F_X10_laysReaches_L40 pL0 xL1 xL2 x5 fu (0 : Int32) sL
        (fun s12 =>
          F_X10_laysReaches_L99 pL0 xL1 xL2 fu (0 : Int32) s12
            (fun s17 =>
              F_X10_laysReaches_L23 pL0 xL1 f (xL2 + (1 : Int32)) s17 k141
            )
        )
    )
def F_X10_laysReaches (σ : Sto) (a0 : Nat) (xa1 : Int32) : Option Sto :=
  chk σ a0 10 <|
  F_X10_laysReaches_L2 a0 fu (0 : Int32) σ
    (fun s3 =>
      F_X10_laysReaches_L23 a0 xa1 fu (0 : Int32) s3
        (fun s18 =>
          some s18
        )
    )
def F_X10_lostTo_L9 (sL : Sto) (pL0 : Nat) (xL1 : Int32) : Nat → Int32 → Int32 → (Int32 → Option (Int32 × Sto)) → Option (Int32 × Sto)
  | 0, _, _, _ => none
  | f + 1, xL2, xL3, k54 =>
    (F_X10_of sL pL0 (2 : Int32)).bind fun x2 =>
    if x2 ≤ xL3 then (
      k54 xL2
    ) else (
      (gR sL pL0 10 8).bind fun p3 =>
      (zald sL p3 xL3).bind fun x4 =>
      jn (fun (x6 : Int32) =>
        (F_X10_flag x6).bind fun x7 =>
        F_X10_lostTo_L9 sL pL0 xL1 f (xL2 + x7) (xL3 + (1 : Int32)) k54
      ) fun j5 =>
      if x4 = 0 then (
        (F_X10_doesHave sL pL0 xL1 xL3 (0 : Int32)).bind fun x8 =>
        if x8 = 0 then (
          j5 (0 : Int32)
        ) else (
          j5 (1 : Int32)
        )
      ) else (
        j5 (0 : Int32)
      )
    )
def F_X10_lostTo (σ : Sto) (a0 : Nat) (xa1 : Int32) : Option (Int32 × Sto) :=
  chk σ a0 10 <|
  (F_X10_laysReaches σ a0 xa1).bind fun s1 =>
  F_X10_lostTo_L9 s1 a0 xa1 fu (0 : Int32) (0 : Int32)
    (fun x9 =>
      some (x9, s1)
    )
def F_X10_allHave_L2 (sL : Sto) (pL0 : Nat) (xL1 : Int32) : Nat → Int32 → (Option Int32) → Option Int32
  | 0, _, _ => none
  | f + 1, xL2, k29 =>
    (F_X10_of sL pL0 (0 : Int32)).bind fun x1 =>
    if x1 ≤ xL2 then (
      k29
    ) else (
      (F_X10_doesHave sL pL0 xL2 xL1 (0 : Int32)).bind fun x2 =>
      if x2 = 0 then (
        F_X10_allHave_L2 sL pL0 xL1 f (xL2 + (1 : Int32)) k29
      ) else (
        some (0 : Int32)
      )
    )
def F_X10_allHave (σ : Sto) (a0 : Nat) (xa1 : Int32) : Option Int32 :=
  chk σ a0 10 <|
  F_X10_allHave_L2 σ a0 xa1 fu (0 : Int32)
    (
      some (1 : Int32)
    )
def F_X10_isLogged_L8 (sL : Sto) (pL0 : Nat) (xL2 : Int32) (xL3 : Int32) : Nat → Int32 → (Option Int32) → Option Int32
  | 0, _, _ => none
  | f + 1, xL4, k44 =>
    (F_X10_of sL pL0 (xL3 + (33 : Int32))).bind fun x2 =>
    if x2 ≤ xL4 then (
      k44
    ) else (
      (F_X10_of sL pL0 ((xL3 + (34 : Int32)) + xL4)).bind fun x3 =>
      if x3 = xL2 then (
        some (1 : Int32)
      ) else (
        F_X10_isLogged_L8 sL pL0 xL2 xL3 f (xL4 + (1 : Int32)) k44
      )
    )
def F_X10_isLogged (σ : Sto) (a0 : Nat) (xa1 : Int32) (xa2 : Int32) : Option Int32 :=
  chk σ a0 10 <|
  (F_X10_stateOf xa1).bind fun x1 =>
  F_X10_isLogged_L8 σ a0 xa2 x1 fu (0 : Int32)
    (
      some (0 : Int32)
    )
def F_X10_commonOf_L5 (sL : Sto) (pL0 : Nat) (xL1 : Int32) (xL2 : Int32) : Nat → Int32 → Int32 → (Int32 → Option Int32) → Option Int32
  | 0, _, _, _ => none
  | f + 1, xL3, xL4, k55 =>
    (F_X10_of sL pL0 (2 : Int32)).bind fun x1 =>
    if x1 ≤ xL4 then (
      k55 xL3
    ) else (
      (F_X10_allHave sL pL0 xL4).bind fun x2 =>
      jn (fun (x4 : Int32) =>
        (F_X10_flag x4).bind fun x5 =>
        F_X10_commonOf_L5 sL pL0 xL1 xL2 f (xL3 + x5) (xL4 + (1 : Int32)) k55
      ) fun j3 =>
      if x2 = 0 then (
        j3 (0 : Int32)
      ) else (
        if xL2 = 0 then (
          j3 (1 : Int32)
        ) else (
          (F_X10_isLogged sL pL0 xL1 xL4).bind fun x6 =>
          if x6 = 0 then (
            j3 (0 : Int32)
          ) else (
            j3 (1 : Int32)
          )
        )
      )
    )
def F_X10_commonOf (σ : Sto) (a0 : Nat) (xa1 : Int32) (xa2 : Int32) : Option Int32 :=
  chk σ a0 10 <|
  F_X10_commonOf_L5 σ a0 xa1 xa2 fu (0 : Int32) (0 : Int32)
    (fun x7 =>
      some x7
    )
def F_X10_site (σ : Sto) (a0 : Nat) (xa1 : Int32) (xa2 : Int32) : Option (Int32 × Sto) :=
  chk σ a0 10 <|
  (sV σ a0 10 0 (.int (0 : Int32))).bind fun s1 =>
  (sV s1 a0 10 3 (.int (0 : Int32))).bind fun s2 =>
  (F_X10_isSite s2 a0 xa1).bind fun x3 =>
  if x3 = 0 then (
    wb (F_X10_fails s2 a0 (1 : Int32)) fun x20 s19 =>
    some (x20, s19)
  ) else (
    (F_X10_stateOf xa1).bind fun x4 =>
    if xa2 = (0 : Int32) then (
      (gR s2 a0 10 1).bind fun p5 =>
      (F_X10_clockOf xa1).bind fun x6 =>
      (iald s2 p5 x6).bind fun x7 =>
      some (x7, s2)
    ) else (
    if xa2 = (1 : Int32) then (
      (F_X10_bitsOf s2 a0 (x4 + (29 : Int32))).bind fun x8 =>
      some (x8, s2)
    ) else (
    if xa2 = (2 : Int32) then (
      (gR s2 a0 10 1).bind fun p9 =>
      (iald s2 p9 (x4 + (33 : Int32))).bind fun x10 =>
      some (x10, s2)
    ) else (
    if xa2 = (3 : Int32) then (
      (F_X10_hasMany s2 a0 xa1).bind fun x11 =>
      some (x11, s2)
    ) else (
    if xa2 = (4 : Int32) then (
      (F_X10_overstatedOf s2 a0 xa1).bind fun x12 =>
      some (x12, s2)
    ) else (
    if xa2 = (5 : Int32) then (
      wb (F_X10_lostTo s2 a0 xa1) fun x14 s13 =>
      some (x14, s13)
    ) else (
    if xa2 = (6 : Int32) then (
      (F_X10_commonOf s2 a0 xa1 (0 : Int32)).bind fun x15 =>
      some (x15, s2)
    ) else (
    if xa2 = (7 : Int32) then (
      (F_X10_commonOf s2 a0 xa1 (1 : Int32)).bind fun x16 =>
      some (x16, s2)
    ) else (
      wb (F_X10_fails s2 a0 (2 : Int32)) fun x18 s17 =>
      some (x18, s17)
    ))))))))
  )
def F_X10_isOnly (σ : Sto) (a0 : Nat) (xa1 : Int32) (xa2 : Int32) (xa3 : Int32) : Option Int32 :=
  chk σ a0 10 <|
  (F_X10_stateOf xa1).bind fun x1 =>
  (F_X10_isOf σ a0 (x1 + (29 : Int32)) xa3).bind fun x2 =>
  if x2 = 0 then (
    some (0 : Int32)
  ) else (
    (F_X10_stateOf xa2).bind fun x3 =>
    (F_X10_isOf σ a0 (x3 + (29 : Int32)) xa3).bind fun x4 =>
    if x4 = 0 then (
      some (1 : Int32)
    ) else (
      some (0 : Int32)
    )
  )
def F_X10_unlike_L30 (sL : Sto) (pL0 : Nat) (xL1 : Int32) (xL2 : Int32) : Nat → Int32 → Int32 → (Int32 → Option (Int32 × Sto)) → Option (Int32 × Sto)
  | 0, _, _, _ => none
  | f + 1, xL3, xL4, k61 =>
    (gR sL pL0 10 1).bind fun p4 =>
    (iald sL p4 (2 : Int32)).bind fun x5 =>
    if x5 ≤ xL4 then (
      k61 xL3
    ) else (
      (F_X10_isOnly sL pL0 xL1 xL2 xL4).bind fun x6 =>
      (F_X10_flag x6).bind fun x7 =>
      F_X10_unlike_L30 sL pL0 xL1 xL2 f (xL3 + x7) (xL4 + (1 : Int32)) k61
    )
def F_X10_unlike (σ : Sto) (a0 : Nat) (xa1 : Int32) (xa2 : Int32) : Option (Int32 × Sto) :=
  chk σ a0 10 <|
  (sV σ a0 10 0 (.int (0 : Int32))).bind fun s1 =>
  (sV s1 a0 10 3 (.int (0 : Int32))).bind fun s2 =>
  (F_X10_areTwo s2 a0 xa1 xa2).bind fun x3 =>
  if x3 = 0 then (
    wb (F_X10_fails s2 a0 (1 : Int32)) fun x10 s9 =>
    some (x10, s9)
  ) else (
    F_X10_unlike_L30 s2 a0 xa1 xa2 fu (0 : Int32) (0 : Int32)
      (fun x8 =>
        some (x8, s2)
      )
  )
def F_X10_only_L31 (sL : Sto) (pL0 : Nat) (xL1 : Int32) (xL2 : Int32) : Nat → Int32 → Int32 → (Option (Int32 × Sto)) → Option (Int32 × Sto)
  | 0, _, _, _ => none
  | f + 1, xL4, xL5, k73 =>
    (gR sL pL0 10 1).bind fun p4 =>
    (iald sL p4 (2 : Int32)).bind fun x5 =>
    if x5 ≤ xL5 then (
      k73
    ) else (
      (F_X10_isOnly sL pL0 xL1 xL2 xL5).bind fun x6 =>
      if x6 = 0 then (
        F_X10_only_L31 sL pL0 xL1 xL2 f xL4 (xL5 + (1 : Int32)) k73
      ) else (
        if xL4 = 0 then (
          some (xL5, sL)
        ) else (
          F_X10_only_L31 sL pL0 xL1 xL2 f (xL4 + (-1 : Int32)) (xL5 + (1 : Int32)) k73
        )
      )
    )
def F_X10_only (σ : Sto) (a0 : Nat) (xa1 : Int32) (xa2 : Int32) (xa3 : Int32) : Option (Int32 × Sto) :=
  chk σ a0 10 <|
  (sV σ a0 10 0 (.int (0 : Int32))).bind fun s1 =>
  (sV s1 a0 10 3 (.int (0 : Int32))).bind fun s2 =>
  (F_X10_areTwo s2 a0 xa1 xa2).bind fun x3 =>
  if x3 = 0 then (
    wb (F_X10_fails s2 a0 (1 : Int32)) fun x8 s7 =>
    some (x8, s7)
  ) else (
    F_X10_only_L31 s2 a0 xa1 xa2 fu xa3 (0 : Int32)
      (
        some ((-1 : Int32), s2)
      )
  )
def F_X10_isInHand_L2 (sL : Sto) (pL0 : Nat) (xL1 : Int32) : Nat → Int32 → (Option Int32) → Option Int32
  | 0, _, _ => none
  | f + 1, xL2, k33 =>
    (F_X10_of sL pL0 (49279 : Int32)).bind fun x1 =>
    if x1 ≤ xL2 then (
      k33
    ) else (
      (F_X10_of sL pL0 ((49280 : Int32) + xL2)).bind fun x2 =>
      if x2 = xL1 then (
        some (1 : Int32)
      ) else (
        F_X10_isInHand_L2 sL pL0 xL1 f (xL2 + (1 : Int32)) k33
      )
    )
def F_X10_isInHand (σ : Sto) (a0 : Nat) (xa1 : Int32) : Option Int32 :=
  chk σ a0 10 <|
  F_X10_isInHand_L2 σ a0 xa1 fu (0 : Int32)
    (
      some (0 : Int32)
    )
def F_X10_would_L81 (sL : Sto) (pL0 : Nat) (xL1 : Int32) (xL2 : Int32) : Nat → Int32 → Int32 → (Int32 → Option (Int32 × Sto)) → Option (Int32 × Sto)
  | 0, _, _, _ => none
  | f + 1, xL5, xL6, k142 =>
    (gR sL pL0 10 1).bind fun p7 =>
    (iald sL p7 (2 : Int32)).bind fun x8 =>
    if x8 ≤ xL6 then (
      k142 xL5
    ) else (
      (F_X10_doesHave sL pL0 xL1 xL6 (1 : Int32)).bind fun x9 =>
      jn (fun (x11 : Int32) =>
        (F_X10_flag x11).bind fun x12 =>
        F_X10_would_L81 sL pL0 xL1 xL2 f (xL5 + x12) (xL6 + (1 : Int32)) k142
      ) fun j10 =>
      if x9 = 0 then (
        j10 (0 : Int32)
      ) else (
        (F_X10_doesHave sL pL0 xL2 xL6 (0 : Int32)).bind fun x13 =>
        if x13 = 0 then (
          j10 (0 : Int32)
        ) else (
          (F_X10_isInHand sL pL0 xL6).bind fun x14 =>
          if x14 = 0 then (
            j10 (1 : Int32)
          ) else (
            j10 (0 : Int32)
          )
        )
      )
    )
def F_X10_would (σ : Sto) (a0 : Nat) (xa1 : Int32) (xa2 : Int32) (xa3 : Int32) : Option (Int32 × Sto) :=
  chk σ a0 10 <|
  (sV σ a0 10 0 (.int (0 : Int32))).bind fun s1 =>
  (sV s1 a0 10 3 (.int (0 : Int32))).bind fun s2 =>
  (F_X10_areTwo s2 a0 xa1 xa2).bind fun x3 =>
  if x3 = 0 then (
    wb (F_X10_fails s2 a0 (1 : Int32)) fun x20 s19 =>
    some (x20, s19)
  ) else (
    (F_X10_isIn xa3.toInt64 (0 : Int64) (2 : Int64)).bind fun x4 =>
    if x4 = 0 then (
      wb (F_X10_fails s2 a0 (2 : Int32)) fun x18 s17 =>
      some (x18, s17)
    ) else (
      wb (F_X10_lays s2 a0 (49278 : Int32) xa1 xa2) fun x6 s5 =>
      if (2 : Int32) ≤ xa3 then (
        F_X10_would_L81 s5 a0 xa1 xa2 fu (0 : Int32) (0 : Int32)
          (fun x15 =>
            some (x15, s5)
          )
      ) else (
        if xa3 = 0 then (
          some (x6, s5)
        ) else (
          (F_X10_hadOf s5 a0 (49278 : Int32) xa2).bind fun x16 =>
          some (x16, s5)
        )
      )
    )
  )
def F_X10_isAhead (σ : Sto) (a0 : Nat) (xa1 : Int32) (xa2 : Int32) : Option Int32 :=
  chk σ a0 10 <|
  (F_X10_eventOf xa2).bind fun x1 =>
  (F_X10_isOf σ a0 (x1 + (6 : Int32)) xa1).bind fun x2 =>
  if x2 = 0 ∨ x2 = 1 then some x2 else none
def F_X10_isBefore (σ : Sto) (a0 : Nat) (xa1 : Int32) (xa2 : Int32) : Option Int32 :=
  chk σ a0 10 <|
  (gR σ a0 10 10).bind fun p1 =>
  (iald σ p1 xa1).bind fun x2 =>
  jn (fun (x4 : Int32) =>
    (gR σ a0 10 10).bind fun p5 =>
    (iald σ p5 xa2).bind fun x6 =>
    jn (fun (x8 : Int32) =>
      if x4 = x8 then (
        if xa2 ≤ xa1 then (
          some (0 : Int32)
        ) else (
          some (1 : Int32)
        )
      ) else (
        if x8 ≤ x4 then (
          some (0 : Int32)
        ) else (
          some (1 : Int32)
        )
      )
    ) fun j7 =>
    if x6 = (-1 : Int32) then (
      j7 (0 : Int32)
    ) else (
      (gR σ a0 10 11).bind fun p9 =>
      (gR σ a0 10 10).bind fun p10 =>
      (iald σ p10 xa2).bind fun x11 =>
      (iald σ p9 x11).bind fun x12 =>
      j7 x12
    )
  ) fun j3 =>
  if x2 = (-1 : Int32) then (
    j3 (0 : Int32)
  ) else (
    (gR σ a0 10 11).bind fun p13 =>
    (gR σ a0 10 10).bind fun p14 =>
    (iald σ p14 xa1).bind fun x15 =>
    (iald σ p13 x15).bind fun x16 =>
    j3 x16
  )
def F_X10_laysRanks_L34 (pL0 : Nat) (xL1 : Int32) (xL2 : Int32) : Nat → Int32 → Sto → (Sto → Option Sto) → Option Sto
  | 0, _, _, _ => none
  | f + 1, xL3, sL, k103 =>
    if xL2 ≤ xL3 then (
      k103 sL
    ) else (
      (gR sL pL0 10 9).bind fun p7 =>
      (iald sL p7 xL3).bind fun x8 =>
      if x8 = (xL1 - (1 : Int32)) then (
        (F_X10_isAhead sL pL0 xL3 xL2).bind fun x9 =>
        if x9 = 0 then (
          F_X10_laysRanks_L34 pL0 xL1 xL2 f (xL3 + (1 : Int32)) sL k103
        ) else (
          (gR sL pL0 10 10).bind fun p10 =>
          (iald sL p10 xL2).bind fun x11 =>
          if x11 = (-1 : Int32) then (
            (gR sL pL0 10 10).bind fun p12 =>
            (iast sL p12 xL2 xL3).bind fun s13 =>
            F_X10_laysRanks_L34 pL0 xL1 xL2 f (xL3 + (1 : Int32)) s13 k103
          ) else (
            (gR sL pL0 10 11).bind fun p14 =>
            (iald sL p14 xL3).bind fun x15 =>
            (gR sL pL0 10 11).bind fun p16 =>
            (gR sL pL0 10 10).bind fun p17 =>
            (iald sL p17 xL2).bind fun x18 =>
            (iald sL p16 x18).bind fun x19 =>
            if x19 ≤ x15 then (
              F_X10_laysRanks_L34 pL0 xL1 xL2 f (xL3 + (1 : Int32)) sL k103
            ) else (
              (gR sL pL0 10 10).bind fun p20 =>
              (iast sL p20 xL2 xL3).bind fun s21 =>
              F_X10_laysRanks_L34 pL0 xL1 xL2 f (xL3 + (1 : Int32)) s21 k103
            )
          )
        )
      ) else (
        F_X10_laysRanks_L34 pL0 xL1 xL2 f (xL3 + (1 : Int32)) sL k103
      )
    )
def F_X10_laysRanks_L2 (pL0 : Nat) (xL1 : Int32) : Nat → Int32 → Sto → (Sto → Option Sto) → Option Sto
  | 0, _, _, _ => none
  | f + 1, xL2, sL, k109 =>
    (gR sL pL0 10 1).bind fun p1 =>
    (iald sL p1 (2 : Int32)).bind fun x2 =>
    if x2 ≤ xL2 then (
      k109 sL
    ) else (
      (gR sL pL0 10 9).bind fun p3 =>
      (iald sL p3 xL2).bind fun x4 =>
      if x4 = xL1 then (
        (gR sL pL0 10 10).bind fun p5 =>
        (iast sL p5 xL2 (-1 : Int32)).bind fun s6 =>
        F_X10_laysRanks_L34 pL0 xL1 xL2 fu (0 : Int32) s6
          (fun s22 =>
            F_X10_laysRanks_L2 pL0 xL1 f (xL2 + (1 : Int32)) s22 k109
          )
      ) else (
        F_X10_laysRanks_L2 pL0 xL1 f (xL2 + (1 : Int32)) sL k109
      )
    )
def F_X10_laysRanks_L143 (pL0 : Nat) (xL1 : Int32) (xL2 : Int32) : Nat → Int32 → Sto → (Sto → Option Sto) → Option Sto
  | 0, _, _, _ => none
  | f + 1, xL3, sL, k195 =>
    (gR sL pL0 10 1).bind fun p30 =>
    (iald sL p30 (2 : Int32)).bind fun x31 =>
    if x31 ≤ xL3 then (
      k195 sL
    ) else (
      (gR sL pL0 10 11).bind fun p32 =>
      (iald sL p32 xL2).bind fun x33 =>
      (gR sL pL0 10 9).bind fun p34 =>
      (iald sL p34 xL3).bind fun x35 =>
      jn (fun (x37 : Int32) =>
        (F_X10_flag x37).bind fun x38 =>
        (iast sL p32 xL2 (x33 + x38)).bind fun s39 =>
        F_X10_laysRanks_L143 pL0 xL1 xL2 f (xL3 + (1 : Int32)) s39 k195
      ) fun j36 =>
      if x35 = xL1 then (
        (F_X10_isBefore sL pL0 xL3 xL2).bind fun x40 =>
        if x40 = 0 then (
          j36 (0 : Int32)
        ) else (
          j36 (1 : Int32)
        )
      ) else (
        j36 (0 : Int32)
      )
    )
def F_X10_laysRanks_L111 (pL0 : Nat) (xL1 : Int32) : Nat → Int32 → Sto → (Sto → Option Sto) → Option Sto
  | 0, _, _, _ => none
  | f + 1, xL2, sL, k201 =>
    (gR sL pL0 10 1).bind fun p24 =>
    (iald sL p24 (2 : Int32)).bind fun x25 =>
    if x25 ≤ xL2 then (
      k201 sL
    ) else (
      (gR sL pL0 10 9).bind fun p26 =>
      (iald sL p26 xL2).bind fun x27 =>
      if x27 = xL1 then (
        (gR sL pL0 10 11).bind fun p28 =>
        (iast sL p28 xL2 (0 : Int32)).bind fun s29 =>
        F_X10_laysRanks_L143 pL0 xL1 xL2 fu (0 : Int32) s29
          (fun s41 =>
            F_X10_laysRanks_L111 pL0 xL1 f (xL2 + (1 : Int32)) s41 k201
          )
      ) else (
        F_X10_laysRanks_L111 pL0 xL1 f (xL2 + (1 : Int32)) sL k201
      )
    )
def F_X10_laysRanks (σ : Sto) (a0 : Nat) (xa1 : Int32) : Option Sto :=
  chk σ a0 10 <|
  F_X10_laysRanks_L2 a0 xa1 fu (0 : Int32) σ
    (fun s23 =>
      F_X10_laysRanks_L111 a0 xa1 fu (0 : Int32) s23
        (fun s42 =>
          some s42
        )
    )
def F_X10_laysHeights_L28 (pL0 : Nat) (xL2 : Int32) : Nat → Int32 → Sto → (Sto → Option Sto) → Option Sto
  | 0, _, _, _ => none
  | f + 1, xL3, sL, k77 =>
    if xL2 ≤ xL3 then (
      k77 sL
    ) else (
      (F_X10_isAhead sL pL0 xL3 xL2).bind fun x6 =>
      if x6 = 0 then (
        F_X10_laysHeights_L28 pL0 xL2 f (xL3 + (1 : Int32)) sL k77
      ) else (
        (gR sL pL0 10 9).bind fun p7 =>
        (iald sL p7 xL3).bind fun x8 =>
        (gR sL pL0 10 9).bind fun p9 =>
        (iald sL p9 xL2).bind fun x10 =>
        if x8 < x10 then (
          F_X10_laysHeights_L28 pL0 xL2 f (xL3 + (1 : Int32)) sL k77
        ) else (
          (gR sL pL0 10 9).bind fun p11 =>
          (gR sL pL0 10 9).bind fun p12 =>
          (iald sL p12 xL3).bind fun x13 =>
          (iast sL p11 xL2 (x13 + (1 : Int32))).bind fun s14 =>
          F_X10_laysHeights_L28 pL0 xL2 f (xL3 + (1 : Int32)) s14 k77
        )
      )
    )
def F_X10_laysHeights_L9 (pL0 : Nat) : Nat → Int32 → Int32 → Sto → (Int32 → Sto → Option Sto) → Option Sto
  | 0, _, _, _, _ => none
  | f + 1, xL1, xL2, sL, k104 =>
    (gR sL pL0 10 1).bind fun p2 =>
    (iald sL p2 (2 : Int32)).bind fun x3 =>
    if x3 ≤ xL2 then (
      k104 xL1 sL
    ) else (
      (gR sL pL0 10 9).bind fun p4 =>
      (iast sL p4 xL2 (1 : Int32)).bind fun s5 =>
      F_X10_laysHeights_L28 pL0 xL2 fu (0 : Int32) s5
        (fun s15 =>
          (gR s15 pL0 10 9).bind fun p16 =>
          (iald s15 p16 xL2).bind fun x17 =>
          if x17 ≤ xL1 then (
            F_X10_laysHeights_L9 pL0 f xL1 (xL2 + (1 : Int32)) s15 k104
          ) else (
            (gR s15 pL0 10 9).bind fun p18 =>
            (iald s15 p18 xL2).bind fun x19 =>
            F_X10_laysHeights_L9 pL0 f x19 (xL2 + (1 : Int32)) s15 k104
          )
        )
    )
def F_X10_laysHeights_L106 (pL0 : Nat) (xL1 : Int32) : Nat → Int32 → Sto → (Sto → Option Sto) → Option Sto
  | 0, _, _, _ => none
  | f + 1, xL2, sL, k122 =>
    if xL1 < xL2 then (
      k122 sL
    ) else (
      (F_X10_laysRanks sL pL0 xL2).bind fun s22 =>
      F_X10_laysHeights_L106 pL0 xL1 f (xL2 + (1 : Int32)) s22 k122
    )
def F_X10_laysHeights (σ : Sto) (a0 : Nat) : Option Sto :=
  chk σ a0 10 <|
  (sV σ a0 10 3 (.int (0 : Int32))).bind fun s1 =>
  F_X10_laysHeights_L9 a0 fu (0 : Int32) (0 : Int32) s1
    (fun x20 s21 =>
      F_X10_laysHeights_L106 a0 x20 fu (1 : Int32) s21
        (fun s23 =>
          some s23
        )
    )
def F_X10_isConcurrent (σ : Sto) (a0 : Nat) (xa1 : Int32) (xa2 : Int32) : Option Int32 :=
  chk σ a0 10 <|
  if xa1 = xa2 then (
    some (0 : Int32)
  ) else (
    (F_X10_isAhead σ a0 xa1 xa2).bind fun x1 =>
    if x1 = 0 then (
      (F_X10_isAhead σ a0 xa2 xa1).bind fun x2 =>
      if x2 = 0 then (
        some (1 : Int32)
      ) else (
        some (0 : Int32)
      )
    ) else (
      some (0 : Int32)
    )
  )
def F_X10_concurrentOf_L4 (sL : Sto) (pL0 : Nat) (xL1 : Int32) : Nat → Int32 → Int32 → (Int32 → Option Int32) → Option Int32
  | 0, _, _, _ => none
  | f + 1, xL2, xL3, k32 =>
    (gR sL pL0 10 1).bind fun p1 =>
    (iald sL p1 (2 : Int32)).bind fun x2 =>
    if x2 ≤ xL3 then (
      k32 xL2
    ) else (
      (F_X10_isConcurrent sL pL0 xL1 xL3).bind fun x3 =>
      (F_X10_flag x3).bind fun x4 =>
      F_X10_concurrentOf_L4 sL pL0 xL1 f (xL2 + x4) (xL3 + (1 : Int32)) k32
    )
def F_X10_concurrentOf (σ : Sto) (a0 : Nat) (xa1 : Int32) : Option Int32 :=
  chk σ a0 10 <|
  F_X10_concurrentOf_L4 σ a0 xa1 fu (0 : Int32) (0 : Int32)
    (fun x5 =>
      some x5
    )
def F_X10_heightOf (σ : Sto) (a0 : Nat) (xa1 : Int32) : Option (Int32 × Sto) :=
  chk σ a0 10 <|
  (F_X10_laysHeights σ a0).bind fun s1 =>
  (gR s1 a0 10 9).bind fun p2 =>
  (iald s1 p2 xa1).bind fun x3 =>
  some (x3, s1)
def F_X10_event_L83 (sL : Sto) (pL0 : Nat) (xL1 : Int32) : Nat → Int32 → Int32 → (Int32 → Option (Int32 × Sto)) → Option (Int32 × Sto)
  | 0, _, _, _ => none
  | f + 1, xL3, xL4, k114 =>
    (gR sL pL0 10 1).bind fun p5 =>
    (iald sL p5 (0 : Int32)).bind fun x6 =>
    if x6 ≤ xL4 then (
      k114 xL3
    ) else (
      (F_X10_doesHave sL pL0 xL4 xL1 (1 : Int32)).bind fun x7 =>
      (F_X10_flag x7).bind fun x8 =>
      F_X10_event_L83 sL pL0 xL1 f (xL3 + x8) (xL4 + (1 : Int32)) k114
    )
def F_X10_event_L119 (sL : Sto) (pL0 : Nat) (xL1 : Int32) : Nat → Int32 → Int32 → (Int32 → Option (Int32 × Sto)) → Option (Int32 × Sto)
  | 0, _, _, _ => none
  | f + 1, xL3, xL4, k149 =>
    (gR sL pL0 10 1).bind fun p10 =>
    (iald sL p10 (0 : Int32)).bind fun x11 =>
    if x11 ≤ xL4 then (
      k149 xL3
    ) else (
      (F_X10_isLogged sL pL0 xL4 xL1).bind fun x12 =>
      (F_X10_flag x12).bind fun x13 =>
      F_X10_event_L119 sL pL0 xL1 f (xL3 + x13) (xL4 + (1 : Int32)) k149
    )
def F_X10_event (σ : Sto) (a0 : Nat) (xa1 : Int32) (xa2 : Int32) : Option (Int32 × Sto) :=
  chk σ a0 10 <|
  (sV σ a0 10 0 (.int (0 : Int32))).bind fun s1 =>
  (sV s1 a0 10 3 (.int (0 : Int32))).bind fun s2 =>
  (F_X10_isEvent s2 a0 xa1).bind fun x3 =>
  if x3 = 0 then (
    wb (F_X10_fails s2 a0 (1 : Int32)) fun x24 s23 =>
    some (x24, s23)
  ) else (
    (F_X10_isIn xa2.toInt64 (0 : Int64) (4 : Int64)).bind fun x4 =>
    if x4 = 0 then (
      if xa2 = (5 : Int32) then (
        F_X10_event_L83 s2 a0 xa1 fu (0 : Int32) (0 : Int32)
          (fun x9 =>
            some (x9, s2)
          )
      ) else (
      if xa2 = (6 : Int32) then (
        F_X10_event_L119 s2 a0 xa1 fu (0 : Int32) (0 : Int32)
          (fun x14 =>
            some (x14, s2)
          )
      ) else (
      if xa2 = (7 : Int32) then (
        wb (F_X10_heightOf s2 a0 xa1) fun x16 s15 =>
        some (x16, s15)
      ) else (
      if xa2 = (8 : Int32) then (
        (F_X10_concurrentOf s2 a0 xa1).bind fun x17 =>
        some (x17, s2)
      ) else (
        wb (F_X10_fails s2 a0 (2 : Int32)) fun x19 s18 =>
        some (x19, s18)
      ))))
    ) else (
      (gR s2 a0 10 1).bind fun p20 =>
      (F_X10_eventOf xa1).bind fun x21 =>
      (iald s2 p20 (x21 + xa2)).bind fun x22 =>
      some (x22, s2)
    )
  )
def F_X10_ahead (σ : Sto) (a0 : Nat) (xa1 : Int32) (xa2 : Int32) : Option (Int32 × Sto) :=
  chk σ a0 10 <|
  (sV σ a0 10 0 (.int (0 : Int32))).bind fun s1 =>
  (sV s1 a0 10 3 (.int (0 : Int32))).bind fun s2 =>
  (F_X10_isEvent s2 a0 xa1).bind fun x3 =>
  if x3 = 0 then (
    wb (F_X10_fails s2 a0 (1 : Int32)) fun x5 s4 =>
    if x5 = 0 then (
      some ((0 : Int32), s4)
    ) else (
      some ((1 : Int32), s4)
    )
  ) else (
    (F_X10_isEvent s2 a0 xa2).bind fun x6 =>
    if x6 = 0 then (
      wb (F_X10_fails s2 a0 (1 : Int32)) fun x9 s8 =>
      if x9 = 0 then (
        some ((0 : Int32), s8)
      ) else (
        some ((1 : Int32), s8)
      )
    ) else (
      (F_X10_isAhead s2 a0 xa1 xa2).bind fun x7 =>
      if x7 = 0 ∨ x7 = 1 then some (x7, s2) else none
    )
  )
def F_X10_wide_L34 (sL : Sto) (pL0 : Nat) : Nat → Int32 → Int32 → Int32 → (Int32 → Int32 → Option (Int32 × Sto)) → Option (Int32 × Sto)
  | 0, _, _, _, _ => none
  | f + 1, xL2, xL3, xL4, k84 =>
    (gR sL pL0 10 1).bind fun p4 =>
    (iald sL p4 (2 : Int32)).bind fun x5 =>
    if x5 ≤ xL4 then (
      k84 xL2 xL3
    ) else (
      (F_X10_concurrentOf sL pL0 xL4).bind fun x6 =>
      if xL3 = (-1 : Int32) then (
        F_X10_wide_L34 sL pL0 f (xL2 + x6) xL4 (xL4 + (1 : Int32)) k84
      ) else (
        (gR sL pL0 10 9).bind fun p7 =>
        (iald sL p7 xL4).bind fun x8 =>
        (gR sL pL0 10 9).bind fun p9 =>
        (iald sL p9 xL3).bind fun x10 =>
        if x8 ≤ x10 then (
          F_X10_wide_L34 sL pL0 f (xL2 + x6) xL3 (xL4 + (1 : Int32)) k84
        ) else (
          F_X10_wide_L34 sL pL0 f (xL2 + x6) xL4 (xL4 + (1 : Int32)) k84
        )
      )
    )
def F_X10_wide (σ : Sto) (a0 : Nat) (xa1 : Int32) : Option (Int32 × Sto) :=
  chk σ a0 10 <|
  (sV σ a0 10 0 (.int (0 : Int32))).bind fun s1 =>
  (F_X10_isIn xa1.toInt64 (0 : Int64) (2 : Int64)).bind fun x2 =>
  if x2 = 0 then (
    wb (F_X10_fails s1 a0 (1 : Int32)) fun x16 s15 =>
    some (x16, s15)
  ) else (
    (F_X10_laysHeights s1 a0).bind fun s3 =>
    F_X10_wide_L34 s3 a0 fu (0 : Int32) (-1 : Int32) (0 : Int32)
      (fun x11 x12 =>
        if xa1 = 0 then (
          some ((x11 / (2 : Int32)), s3)
        ) else (
          if xa1 = (2 : Int32) then (
            some (x12, s3)
          ) else (
            if x12 = (-1 : Int32) then (
              some ((0 : Int32), s3)
            ) else (
              (gR s3 a0 10 9).bind fun p13 =>
              (iald s3 p13 x12).bind fun x14 =>
              some (x14, s3)
            )
          )
        )
      )
  )
def F_X10_came (σ : Sto) (a0 : Nat) (xa1 : Int32) (xa2 : Int32) (xa3 : Int32) : Option (Int32 × Sto) :=
  chk σ a0 10 <|
  (sV σ a0 10 0 (.int (0 : Int32))).bind fun s1 =>
  (sV s1 a0 10 3 (.int (0 : Int32))).bind fun s2 =>
  (F_X10_isSite s2 a0 xa1).bind fun x3 =>
  if x3 = 0 then (
    wb (F_X10_fails s2 a0 (1 : Int32)) fun x5 s4 =>
    some (x5, s4)
  ) else (
    (F_X10_isEvent s2 a0 xa2).bind fun x6 =>
    if x6 = 0 then (
      wb (F_X10_fails s2 a0 (1 : Int32)) fun x17 s16 =>
      some (x17, s16)
    ) else (
      (F_X10_isIn xa3.toInt64 (0 : Int64) (1 : Int64)).bind fun x7 =>
      if x7 = 0 then (
        wb (F_X10_fails s2 a0 (2 : Int32)) fun x15 s14 =>
        some (x15, s14)
      ) else (
        (F_X10_doesHave s2 a0 xa1 xa2 (0 : Int32)).bind fun x8 =>
        if x8 = 0 then (
          (gR s2 a0 10 1).bind fun p9 =>
          (F_X10_stateOf xa1).bind fun x10 =>
          jn (fun (x12 : Int32) =>
            (iald s2 p9 ((x10 + x12) + xa2)).bind fun x13 =>
            some (x13, s2)
          ) fun j11 =>
          if xa3 = 0 then (
            j11 (154 : Int32)
          ) else (
            j11 (274 : Int32)
          )
        ) else (
          some ((-1 : Int32), s2)
        )
      )
    )
  )
def F_X10_way_L58 (sL : Sto) (pL0 : Nat) (xL2 : Int32) (xL3 : Int32) : Nat → Int32 → Int32 → Int32 → (Int32 → Option (Int32 × Sto)) → Option (Int32 × Sto)
  | 0, _, _, _, _ => none
  | f + 1, xL4, xL5, xL6, k136 =>
    if xL6 = 0 then (
      k136 xL5
    ) else (
      if xL5 = xL3 then (
        some (xL4, sL)
      ) else (
        (gR sL pL0 10 1).bind fun p8 =>
        (F_X10_stateOf xL4).bind fun x9 =>
        (iald sL p8 ((x9 + (274 : Int32)) + xL2)).bind fun x10 =>
        (F_X10_doesHave sL pL0 xL4 xL2 (1 : Int32)).bind fun x11 =>
        if x11 = 0 then (
          F_X10_way_L58 sL pL0 xL2 xL3 f x10 (xL5 + (1 : Int32)) (0 : Int32) k136
        ) else (
          if x10 = xL4 then (
            F_X10_way_L58 sL pL0 xL2 xL3 f x10 (xL5 + (1 : Int32)) (0 : Int32) k136
          ) else (
            (gR sL pL0 10 1).bind fun p12 =>
            (iald sL p12 (0 : Int32)).bind fun x13 =>
            if x13 ≤ (xL5 + (1 : Int32)) then (
              F_X10_way_L58 sL pL0 xL2 xL3 f x10 (xL5 + (1 : Int32)) (0 : Int32) k136
            ) else (
              F_X10_way_L58 sL pL0 xL2 xL3 f x10 (xL5 + (1 : Int32)) (1 : Int32) k136
            )
          )
        )
      )
    )
def F_X10_way (σ : Sto) (a0 : Nat) (xa1 : Int32) (xa2 : Int32) (xa3 : Int32) : Option (Int32 × Sto) :=
  chk σ a0 10 <|
  (sV σ a0 10 0 (.int (0 : Int32))).bind fun s1 =>
  (sV s1 a0 10 3 (.int (0 : Int32))).bind fun s2 =>
  (F_X10_isSite s2 a0 xa1).bind fun x3 =>
  if x3 = 0 then (
    wb (F_X10_fails s2 a0 (1 : Int32)) fun x5 s4 =>
    some (x5, s4)
  ) else (
    (F_X10_isEvent s2 a0 xa2).bind fun x6 =>
    if x6 = 0 then (
      wb (F_X10_fails s2 a0 (1 : Int32)) fun x16 s15 =>
      some (x16, s15)
    ) else (
      (F_X10_doesHave s2 a0 xa1 xa2 (0 : Int32)).bind fun x7 =>
      if x7 = 0 then (
        if (-1 : Int32) ≤ xa3 then (
          F_X10_way_L58 s2 a0 xa2 xa3 fu xa1 (0 : Int32) (1 : Int32)
            (fun x14 =>
              if xa3 = (-1 : Int32) then (
                some (x14, s2)
              ) else (
                some ((-1 : Int32), s2)
              )
            )
        ) else (
          some ((-1 : Int32), s2)
        )
      ) else (
        some ((-1 : Int32), s2)
      )
    )
  )
def F_X10_slowest_L62 (sL : Sto) (pL0 : Nat) (xL4 : Int32) : Nat → Int32 → Int32 → (Int32 → Option (Int32 × Sto)) → Option (Int32 × Sto)
  | 0, _, _, _ => none
  | f + 1, xL5, xL6, k125 =>
    (gR sL pL0 10 1).bind fun p7 =>
    (iald sL p7 (0 : Int32)).bind fun x8 =>
    if x8 ≤ xL6 then (
      k125 xL5
    ) else (
      (gR sL pL0 10 1).bind fun p9 =>
      (F_X10_stateOf xL6).bind fun x10 =>
      (iald sL p9 ((x10 + (154 : Int32)) + xL4)).bind fun x11 =>
      if x11 ≤ xL5 then (
        F_X10_slowest_L62 sL pL0 xL4 f xL5 (xL6 + (1 : Int32)) k125
      ) else (
        (gR sL pL0 10 1).bind fun p12 =>
        (F_X10_stateOf xL6).bind fun x13 =>
        (iald sL p12 ((x13 + (154 : Int32)) + xL4)).bind fun x14 =>
        F_X10_slowest_L62 sL pL0 xL4 f x14 (xL6 + (1 : Int32)) k125
      )
    )
def F_X10_slowest_L33 (sL : Sto) (pL0 : Nat) : Nat → Int32 → Int32 → Int32 → (Int32 → Int32 → Option (Int32 × Sto)) → Option (Int32 × Sto)
  | 0, _, _, _, _ => none
  | f + 1, xL2, xL3, xL4, k168 =>
    (gR sL pL0 10 1).bind fun p4 =>
    (iald sL p4 (2 : Int32)).bind fun x5 =>
    if x5 ≤ xL4 then (
      k168 xL2 xL3
    ) else (
      (F_X10_allHave sL pL0 xL4).bind fun x6 =>
      if x6 = 0 then (
        F_X10_slowest_L33 sL pL0 f xL2 xL3 (xL4 + (1 : Int32)) k168
      ) else (
        F_X10_slowest_L62 sL pL0 xL4 fu (0 : Int32) (0 : Int32)
          (fun x15 =>
            (gR sL pL0 10 1).bind fun p16 =>
            (F_X10_eventOf xL4).bind fun x17 =>
            (iald sL p16 (x17 + (5 : Int32))).bind fun x18 =>
            if xL2 = (-1 : Int32) then (
              F_X10_slowest_L33 sL pL0 f xL4 (x15 - x18) (xL4 + (1 : Int32)) k168
            ) else (
              if xL3 < (x15 - x18) then (
                F_X10_slowest_L33 sL pL0 f xL4 (x15 - x18) (xL4 + (1 : Int32)) k168
              ) else (
                F_X10_slowest_L33 sL pL0 f xL2 xL3 (xL4 + (1 : Int32)) k168
              )
            )
          )
      )
    )
def F_X10_slowest (σ : Sto) (a0 : Nat) (xa1 : Int32) : Option (Int32 × Sto) :=
  chk σ a0 10 <|
  (sV σ a0 10 0 (.int (0 : Int32))).bind fun s1 =>
  (sV s1 a0 10 3 (.int (0 : Int32))).bind fun s2 =>
  (F_X10_isIn xa1.toInt64 (0 : Int64) (1 : Int64)).bind fun x3 =>
  if x3 = 0 then (
    wb (F_X10_fails s2 a0 (1 : Int32)) fun x22 s21 =>
    some (x22, s21)
  ) else (
    F_X10_slowest_L33 s2 a0 fu (-1 : Int32) (-1 : Int32) (0 : Int32)
      (fun x19 x20 =>
        if xa1 = 0 then (
          some (x20, s2)
        ) else (
          some (x19, s2)
        )
      )
  )
def F_X10_chain_L50 (sL : Sto) (pL0 : Nat) (xL2 : Int32) : Nat → Int32 → (Int32 → Option (Int32 × Sto)) → Option (Int32 × Sto)
  | 0, _, _ => none
  | f + 1, xL3, k72 =>
    (gR sL pL0 10 9).bind fun p8 =>
    (iald sL p8 xL3).bind fun x9 =>
    if x9 ≤ (xL2 + (1 : Int32)) then (
      k72 xL3
    ) else (
      (gR sL pL0 10 10).bind fun p10 =>
      (iald sL p10 xL3).bind fun x11 =>
      F_X10_chain_L50 sL pL0 xL2 f x11 k72
    )
def F_X10_chain (σ : Sto) (a0 : Nat) (xa1 : Int32) (xa2 : Int32) : Option (Int32 × Sto) :=
  chk σ a0 10 <|
  (sV σ a0 10 0 (.int (0 : Int32))).bind fun s1 =>
  (sV s1 a0 10 3 (.int (0 : Int32))).bind fun s2 =>
  (F_X10_isEvent s2 a0 xa1).bind fun x3 =>
  if x3 = 0 then (
    wb (F_X10_fails s2 a0 (1 : Int32)) fun x14 s13 =>
    some (x14, s13)
  ) else (
    (F_X10_laysHeights s2 a0).bind fun s4 =>
    (gR s4 a0 10 9).bind fun p5 =>
    (iald s4 p5 xa1).bind fun x6 =>
    (F_X10_isIn xa2.toInt64 (0 : Int64) (x6 - (1 : Int32)).toInt64).bind fun x7 =>
    if x7 = 0 then (
      some ((-1 : Int32), s4)
    ) else (
      F_X10_chain_L50 s4 a0 xa2 fu xa1
        (fun x12 =>
          some (x12, s4)
        )
    )
  )
def F_X10_between_L37 (sL : Sto) (pL0 : Nat) (xL1 : Int32) (xL2 : Int32) : Nat → Int32 → Int32 → (Int32 → Option (Int32 × Sto)) → Option (Int32 × Sto)
  | 0, _, _, _ => none
  | f + 1, xL3, xL4, k85 =>
    (gR sL pL0 10 1).bind fun p7 =>
    (iald sL p7 (2 : Int32)).bind fun x8 =>
    if x8 ≤ xL4 then (
      k85 xL3
    ) else (
      (F_X10_isAhead sL pL0 xL1 xL4).bind fun x9 =>
      jn (fun (x11 : Int32) =>
        (F_X10_flag x11).bind fun x12 =>
        F_X10_between_L37 sL pL0 xL1 xL2 f (xL3 + x12) (xL4 + (1 : Int32)) k85
      ) fun j10 =>
      if x9 = 0 then (
        j10 (0 : Int32)
      ) else (
        (F_X10_isAhead sL pL0 xL4 xL2).bind fun x13 =>
        if x13 = 0 then (
          j10 (0 : Int32)
        ) else (
          j10 (1 : Int32)
        )
      )
    )
def F_X10_between (σ : Sto) (a0 : Nat) (xa1 : Int32) (xa2 : Int32) : Option (Int32 × Sto) :=
  chk σ a0 10 <|
  (sV σ a0 10 0 (.int (0 : Int32))).bind fun s1 =>
  (sV s1 a0 10 3 (.int (0 : Int32))).bind fun s2 =>
  (F_X10_isEvent s2 a0 xa1).bind fun x3 =>
  if x3 = 0 then (
    wb (F_X10_fails s2 a0 (1 : Int32)) fun x5 s4 =>
    some (x5, s4)
  ) else (
    (F_X10_isEvent s2 a0 xa2).bind fun x6 =>
    if x6 = 0 then (
      wb (F_X10_fails s2 a0 (1 : Int32)) fun x16 s15 =>
      some (x16, s15)
    ) else (
      F_X10_between_L37 s2 a0 xa1 xa2 fu (0 : Int32) (0 : Int32)
        (fun x14 =>
          some (x14, s2)
        )
    )
  )
def F_X10_isFront_L14 (sL : Sto) (pL0 : Nat) (xL1 : Int32) (xL2 : Int32) : Nat → Int32 → (Option Int32) → Option Int32
  | 0, _, _ => none
  | f + 1, xL3, k51 =>
    (gR sL pL0 10 1).bind fun p2 =>
    (iald sL p2 (2 : Int32)).bind fun x3 =>
    if x3 ≤ xL3 then (
      k51
    ) else (
      (F_X10_doesHave sL pL0 xL1 xL3 (1 : Int32)).bind fun x4 =>
      if x4 = 0 then (
        F_X10_isFront_L14 sL pL0 xL1 xL2 f (xL3 + (1 : Int32)) k51
      ) else (
        (F_X10_isAhead sL pL0 xL2 xL3).bind fun x5 =>
        if x5 = 0 then (
          F_X10_isFront_L14 sL pL0 xL1 xL2 f (xL3 + (1 : Int32)) k51
        ) else (
          some (0 : Int32)
        )
      )
    )
def F_X10_isFront (σ : Sto) (a0 : Nat) (xa1 : Int32) (xa2 : Int32) : Option Int32 :=
  chk σ a0 10 <|
  (F_X10_doesHave σ a0 xa1 xa2 (0 : Int32)).bind fun x1 =>
  if x1 = 0 then (
    F_X10_isFront_L14 σ a0 xa1 xa2 fu (0 : Int32)
      (
        some (1 : Int32)
      )
  ) else (
    some (0 : Int32)
  )
def F_X10_front_L36 (sL : Sto) (pL0 : Nat) (xL1 : Int32) (xL2 : Int32) : Nat → Int32 → Int32 → (Int32 → Option (Int32 × Sto)) → Option (Int32 × Sto)
  | 0, _, _, _ => none
  | f + 1, xL3, xL4, k77 =>
    (gR sL pL0 10 1).bind fun p4 =>
    (iald sL p4 (2 : Int32)).bind fun x5 =>
    if x5 ≤ xL4 then (
      k77 xL3
    ) else (
      (F_X10_isFront sL pL0 xL1 xL4).bind fun x6 =>
      if x6 = 0 then (
        F_X10_front_L36 sL pL0 xL1 xL2 f xL3 (xL4 + (1 : Int32)) k77
      ) else (
        if xL3 = xL2 then (
          some (xL4, sL)
        ) else (
          F_X10_front_L36 sL pL0 xL1 xL2 f (xL3 + (1 : Int32)) (xL4 + (1 : Int32)) k77
        )
      )
    )
def F_X10_front (σ : Sto) (a0 : Nat) (xa1 : Int32) (xa2 : Int32) : Option (Int32 × Sto) :=
  chk σ a0 10 <|
  (sV σ a0 10 0 (.int (0 : Int32))).bind fun s1 =>
  (sV s1 a0 10 3 (.int (0 : Int32))).bind fun s2 =>
  (F_X10_isSite s2 a0 xa1).bind fun x3 =>
  if x3 = 0 then (
    wb (F_X10_fails s2 a0 (1 : Int32)) fun x9 s8 =>
    some (x9, s8)
  ) else (
    if (-1 : Int32) ≤ xa2 then (
      F_X10_front_L36 s2 a0 xa1 xa2 fu (0 : Int32) (0 : Int32)
        (fun x7 =>
          if xa2 = (-1 : Int32) then (
            some (x7, s2)
          ) else (
            some ((-1 : Int32), s2)
          )
        )
    ) else (
      some ((-1 : Int32), s2)
    )
  )
def F_X10_knownTo_L5 (sL : Sto) (pL0 : Nat) (xL1 : Int32) (xL2 : Int32) : Nat → Int32 → Int32 → (Int32 → Option Int32) → Option Int32
  | 0, _, _, _ => none
  | f + 1, xL3, xL4, k36 =>
    (gR sL pL0 10 1).bind fun p1 =>
    (iald sL p1 (0 : Int32)).bind fun x2 =>
    if x2 ≤ xL4 then (
      k36 xL3
    ) else (
      (F_X10_isKnown sL pL0 xL1 xL4 xL2).bind fun x3 =>
      (F_X10_flag x3).bind fun x4 =>
      F_X10_knownTo_L5 sL pL0 xL1 xL2 f (xL3 + x4) (xL4 + (1 : Int32)) k36
    )
def F_X10_knownTo (σ : Sto) (a0 : Nat) (xa1 : Int32) (xa2 : Int32) : Option Int32 :=
  chk σ a0 10 <|
  F_X10_knownTo_L5 σ a0 xa1 xa2 fu (0 : Int32) (0 : Int32)
    (fun x5 =>
      some x5
    )
def F_X10_sure_L51 (sL : Sto) (pL0 : Nat) (xL1 : Int32) (xL2 : Int32) : Nat → Int32 → Int32 → (Int32 → Option (Int32 × Sto)) → Option (Int32 × Sto)
  | 0, _, _, _ => none
  | f + 1, xL3, xL4, k101 =>
    (gR sL pL0 10 1).bind fun p7 =>
    (iald sL p7 (2 : Int32)).bind fun x8 =>
    if x8 ≤ xL4 then (
      k101 xL3
    ) else (
      (F_X10_doesHave sL pL0 xL1 xL4 (1 : Int32)).bind fun x9 =>
      jn (fun (x11 : Int32) =>
        (F_X10_flag x11).bind fun x12 =>
        F_X10_sure_L51 sL pL0 xL1 xL2 f (xL3 + x12) (xL4 + (1 : Int32)) k101
      ) fun j10 =>
      if x9 = 0 then (
        j10 (0 : Int32)
      ) else (
        (F_X10_knownTo sL pL0 xL1 xL4).bind fun x13 =>
        if x13 < xL2 then (
          j10 (0 : Int32)
        ) else (
          j10 (1 : Int32)
        )
      )
    )
def F_X10_sure (σ : Sto) (a0 : Nat) (xa1 : Int32) (xa2 : Int32) : Option (Int32 × Sto) :=
  chk σ a0 10 <|
  (sV σ a0 10 0 (.int (0 : Int32))).bind fun s1 =>
  (sV s1 a0 10 3 (.int (0 : Int32))).bind fun s2 =>
  (F_X10_isSite s2 a0 xa1).bind fun x3 =>
  if x3 = 0 then (
    wb (F_X10_fails s2 a0 (1 : Int32)) fun x18 s17 =>
    some (x18, s17)
  ) else (
    (gR s2 a0 10 1).bind fun p4 =>
    (iald s2 p4 (0 : Int32)).bind fun x5 =>
    (F_X10_isIn xa2.toInt64 (0 : Int64) x5.toInt64).bind fun x6 =>
    if x6 = 0 then (
      wb (F_X10_fails s2 a0 (2 : Int32)) fun x16 s15 =>
      some (x16, s15)
    ) else (
      F_X10_sure_L51 s2 a0 xa1 xa2 fu (0 : Int32) (0 : Int32)
        (fun x14 =>
          some (x14, s2)
        )
    )
  )
def F_X10_partOf_L33 (sL : Sto) (pL0 : Nat) (xL4 : Int32) : Nat → Int32 → Int32 → (Int32 → Option Int32) → Option Int32
  | 0, _, _, _ => none
  | f + 1, xL2, xL5, k85 =>
    (gR sL pL0 10 1).bind fun p5 =>
    (iald sL p5 (0 : Int32)).bind fun x6 =>
    if x6 ≤ xL5 then (
      k85 xL2
    ) else (
      if xL4 = xL5 then (
        F_X10_partOf_L33 sL pL0 xL4 f xL2 (xL5 + (1 : Int32)) k85
      ) else (
        if ((xL2 >>> (xL4 &&& 31)) &&& (1 : Int32)) = (1 : Int32) then (
          (F_X10_isCut sL pL0 xL4 xL5).bind fun x7 =>
          if x7 = 0 then (
            F_X10_partOf_L33 sL pL0 xL4 f (xL2 ||| ((1 : Int32) <<< (xL5 &&& 31))) (xL5 + (1 : Int32)) k85
          ) else (
            F_X10_partOf_L33 sL pL0 xL4 f xL2 (xL5 + (1 : Int32)) k85
          )
        ) else (
          F_X10_partOf_L33 sL pL0 xL4 f xL2 (xL5 + (1 : Int32)) k85
        )
      )
    )
def F_X10_partOf_L19 (sL : Sto) (pL0 : Nat) : Nat → Int32 → Int32 → (Int32 → Option Int32) → Option Int32
  | 0, _, _, _ => none
  | f + 1, xL2, xL4, k91 =>
    (gR sL pL0 10 1).bind fun p3 =>
    (iald sL p3 (0 : Int32)).bind fun x4 =>
    if x4 ≤ xL4 then (
      k91 xL2
    ) else (
      F_X10_partOf_L33 sL pL0 xL4 fu xL2 (0 : Int32)
        (fun x8 =>
          F_X10_partOf_L19 sL pL0 f x8 (xL4 + (1 : Int32)) k91
        )
    )
def F_X10_partOf_L6 (sL : Sto) (pL0 : Nat) : Nat → Int32 → Int32 → (Int32 → Option Int32) → Option Int32
  | 0, _, _, _ => none
  | f + 1, xL2, xL3, k97 =>
    (gR sL pL0 10 1).bind fun p1 =>
    (iald sL p1 (0 : Int32)).bind fun x2 =>
    if x2 ≤ xL3 then (
      k97 xL2
    ) else (
      F_X10_partOf_L19 sL pL0 fu xL2 (0 : Int32)
        (fun x9 =>
          F_X10_partOf_L6 sL pL0 f x9 (xL3 + (1 : Int32)) k97
        )
    )
def F_X10_partOf (σ : Sto) (a0 : Nat) (xa1 : Int32) : Option Int32 :=
  chk σ a0 10 <|
  F_X10_partOf_L6 σ a0 fu ((1 : Int32) <<< (xa1 &&& 31)) (0 : Int32)
    (fun x10 =>
      some x10
    )
def F_X10_part_L44 (sL : Sto) (pL0 : Nat) : Nat → Int32 → Int32 → (Int32 → Option (Int32 × Sto)) → Option (Int32 × Sto)
  | 0, _, _, _ => none
  | f + 1, xL2, xL3, k85 =>
    (gR sL pL0 10 1).bind fun p3 =>
    (iald sL p3 (0 : Int32)).bind fun x4 =>
    if x4 ≤ xL3 then (
      k85 xL2
    ) else (
      (F_X10_partOf sL pL0 xL3).bind fun x5 =>
      jn (fun (x7 : Int32) =>
        (F_X10_flag x7).bind fun x8 =>
        F_X10_part_L44 sL pL0 f (xL2 + x8) (xL3 + (1 : Int32)) k85
      ) fun j6 =>
      if (x5 &&& (((1 : Int32) <<< (xL3 &&& 31)) - (1 : Int32))) = 0 then (
        j6 (1 : Int32)
      ) else (
        j6 (0 : Int32)
      )
    )
def F_X10_part (σ : Sto) (a0 : Nat) (xa1 : Int32) : Option (Int32 × Sto) :=
  chk σ a0 10 <|
  (sV σ a0 10 0 (.int (0 : Int32))).bind fun s1 =>
  (sV s1 a0 10 3 (.int (0 : Int32))).bind fun s2 =>
  if xa1 = (-1 : Int32) then (
    if xa1 = (-1 : Int32) then (
      F_X10_part_L44 s2 a0 fu (0 : Int32) (0 : Int32)
        (fun x9 =>
          some (x9, s2)
        )
    ) else (
      (F_X10_partOf s2 a0 xa1).bind fun x10 =>
      some (x10, s2)
    )
  ) else (
    (F_X10_isSite s2 a0 xa1).bind fun x11 =>
    if x11 = 0 then (
      wb (F_X10_fails s2 a0 (1 : Int32)) fun x21 s20 =>
      some (x21, s20)
    ) else (
      if xa1 = (-1 : Int32) then (
        F_X10_part_L44 s2 a0 fu (0 : Int32) (0 : Int32)
          (fun x18 =>
            some (x18, s2)
          )
      ) else (
        (F_X10_partOf s2 a0 xa1).bind fun x19 =>
        some (x19, s2)
      )
    )
  )
def F_X10_areLike_L13 (sL : Sto) (pL0 : Nat) (xL1 : Int32) : Nat → Int32 → (Option Int32) → Option Int32
  | 0, _, _ => none
  | f + 1, xL2, k55 =>
    if (4 : Int32) ≤ xL2 then (
      k55
    ) else (
      (F_X10_stateOf xL1).bind fun x2 =>
      (F_X10_of sL pL0 ((x2 + (25 : Int32)) + xL2)).bind fun x3 =>
      (F_X10_stateOf (0 : Int32)).bind fun x4 =>
      (F_X10_of sL pL0 ((x4 + (25 : Int32)) + xL2)).bind fun x5 =>
      if x3 = x5 then (
        F_X10_areLike_L13 sL pL0 xL1 f (xL2 + (1 : Int32)) k55
      ) else (
        some (0 : Int32)
      )
    )
def F_X10_areLike_L2 (sL : Sto) (pL0 : Nat) : Nat → Int32 → (Option Int32) → Option Int32
  | 0, _, _ => none
  | f + 1, xL1, k61 =>
    (F_X10_of sL pL0 (0 : Int32)).bind fun x1 =>
    if x1 ≤ xL1 then (
      k61
    ) else (
      F_X10_areLike_L13 sL pL0 xL1 fu (0 : Int32)
        (
          F_X10_areLike_L2 sL pL0 f (xL1 + (1 : Int32)) k61
        )
    )
def F_X10_areLike (σ : Sto) (a0 : Nat) : Option Int32 :=
  chk σ a0 10 <|
  F_X10_areLike_L2 σ a0 fu (1 : Int32)
    (
      some (1 : Int32)
    )
def F_X10_areEmpty_L2 (sL : Sto) (pL0 : Nat) : Nat → Int32 → (Option Int32) → Option Int32
  | 0, _, _ => none
  | f + 1, xL1, k33 =>
    (F_X10_of sL pL0 (0 : Int32)).bind fun x1 =>
    if x1 ≤ xL1 then (
      k33
    ) else (
      (F_X10_stateOf xL1).bind fun x2 =>
      (F_X10_of sL pL0 (x2 + (33 : Int32))).bind fun x3 =>
      if x3 ≤ 0 then (
        F_X10_areEmpty_L2 sL pL0 f (xL1 + (1 : Int32)) k33
      ) else (
        some (0 : Int32)
      )
    )
def F_X10_areEmpty (σ : Sto) (a0 : Nat) : Option Int32 :=
  chk σ a0 10 <|
  F_X10_areEmpty_L2 σ a0 fu (0 : Int32)
    (
      some (1 : Int32)
    )
def F_X10_round_L2 (pL0 : Nat) : Nat → Int32 → Sto → (Sto → Option Sto) → Option Sto
  | 0, _, _, _ => none
  | f + 1, xL1, sL, k77 =>
    (F_X10_of sL pL0 (0 : Int32)).bind fun x1 =>
    if x1 ≤ xL1 then (
      k77 sL
    ) else (
      (F_X10_of sL pL0 (0 : Int32)).bind fun x2 =>
      if x2 = 0 then none else
      (F_X10_isCut sL pL0 xL1 ((xL1 + (1 : Int32)) - (xL1 + (1 : Int32)) / x2 * x2)).bind fun x3 =>
      if x3 = 0 then (
        wb (F_X10_lays sL pL0 (49278 : Int32) xL1 ((xL1 + (1 : Int32)) - (xL1 + (1 : Int32)) / x2 * x2)) fun x5 s4 =>
        (gI s4 pL0 10 12).bind fun x6 =>
        (sV s4 pL0 10 12 (.int (x6 + x5))).bind fun s7 =>
        (gI s7 pL0 10 13).bind fun x8 =>
        wb (F_X10_comes s7 pL0 (49278 : Int32) xL1 ((xL1 + (1 : Int32)) - (xL1 + (1 : Int32)) / x2 * x2)) fun x10 s9 =>
        (sV s9 pL0 10 13 (.int (x8 + (x5 - x10)))).bind fun s11 =>
        F_X10_round_L2 pL0 f (xL1 + (1 : Int32)) s11 k77
      ) else (
        F_X10_round_L2 pL0 f (xL1 + (1 : Int32)) sL k77
      )
    )
def F_X10_round (σ : Sto) (a0 : Nat) : Option Sto :=
  chk σ a0 10 <|
  F_X10_round_L2 a0 fu (0 : Int32) σ
    (fun s12 =>
      some s12
    )
def F_X10_gossip_L66 (pL0 : Nat) : Nat → Int32 → Int32 → Int32 → Sto → (Int32 → Int32 → Sto → Option (Int32 × Sto)) → Option (Int32 × Sto)
  | 0, _, _, _, _, _ => none
  | f + 1, xL2, xL3, xL4, sL, k113 =>
    if (12 : Int32) < xL4 then (
      k113 xL2 xL3 sL
    ) else (
      (F_X10_round sL pL0).bind fun s12 =>
      jn (fun (x14 : Int32) =>
        if xL3 = (-1 : Int32) then (
          (F_X10_areEmpty s12 pL0).bind fun x15 =>
          if x15 = 0 then (
            F_X10_gossip_L66 pL0 f x14 xL3 (xL4 + (1 : Int32)) s12 k113
          ) else (
            F_X10_gossip_L66 pL0 f x14 xL4 (xL4 + (1 : Int32)) s12 k113
          )
        ) else (
          F_X10_gossip_L66 pL0 f x14 xL3 (xL4 + (1 : Int32)) s12 k113
        )
      ) fun j13 =>
      if xL2 = (-1 : Int32) then (
        (F_X10_areLike s12 pL0).bind fun x16 =>
        if x16 = 0 then (
          j13 xL2
        ) else (
          j13 xL4
        )
      ) else (
        j13 xL2
      )
    )
def F_X10_gossip (σ : Sto) (a0 : Nat) (xa1 : Int32) : Option (Int32 × Sto) :=
  chk σ a0 10 <|
  (sV σ a0 10 0 (.int (0 : Int32))).bind fun s1 =>
  (F_X10_isIn xa1.toInt64 (0 : Int64) (3 : Int64)).bind fun x2 =>
  if x2 = 0 then (
    wb (F_X10_fails s1 a0 (1 : Int32)) fun x24 s23 =>
    some (x24, s23)
  ) else (
    (F_X10_onPaper s1 a0).bind fun s3 =>
    (sV s3 a0 10 12 (.int (0 : Int32))).bind fun s4 =>
    (sV s4 a0 10 13 (.int (0 : Int32))).bind fun s5 =>
    (F_X10_areLike s5 a0).bind fun x6 =>
    jn (fun (x8 : Int32) =>
      (F_X10_areEmpty s5 a0).bind fun x9 =>
      jn (fun (x11 : Int32) =>
        F_X10_gossip_L66 a0 fu x8 x11 (1 : Int32) s5
          (fun x17 x18 s19 =>
            (sV s19 a0 10 3 (.int (0 : Int32))).bind fun s20 =>
            if xa1 = 0 then (
              some (x17, s20)
            ) else (
              if xa1 = (1 : Int32) then (
                some (x18, s20)
              ) else (
                if xa1 = (2 : Int32) then (
                  (gI s20 a0 10 12).bind fun x22 =>
                  some (x22, s20)
                ) else (
                  (gI s20 a0 10 13).bind fun x21 =>
                  some (x21, s20)
                )
              )
            )
          )
      ) fun j10 =>
      if x9 = 0 then (
        j10 (-1 : Int32)
      ) else (
        j10 (0 : Int32)
      )
    ) fun j7 =>
    if x6 = 0 then (
      j7 (-1 : Int32)
    ) else (
      j7 (0 : Int32)
    )
  )
def F_X10_toldOnPaper (σ : Sto) (a0 : Nat) (xa1 : Int32) (xa2 : Int32) : Option (Int32 × Sto) :=
  chk σ a0 10 <|
  jn (fun (x2 : Int32) (s3 : Sto) =>
    (sV s3 a0 10 3 (.int (0 : Int32))).bind fun s4 =>
    some (x2, s4)
  ) fun j1 =>
  if xa2 = 0 then (
    (F_X10_hasMany σ a0 xa1).bind fun x9 =>
    j1 x9 σ
  ) else (
    if xa2 = (1 : Int32) then (
      wb (F_X10_lostTo σ a0 xa1) fun x8 s7 =>
      j1 x8 s7
    ) else (
      if xa2 = (2 : Int32) then (
        (F_X10_overstatedOf σ a0 xa1).bind fun x6 =>
        j1 x6 σ
      ) else (
        (F_X10_overstatedAll σ a0).bind fun x5 =>
        j1 x5 σ
      )
    )
  )
def F_X10_falling (σ : Sto) (a0 : Nat) (xa1 : Int32) (xa2 : Int32) : Option (Int32 × Sto) :=
  chk σ a0 10 <|
  (sV σ a0 10 0 (.int (0 : Int32))).bind fun s1 =>
  (F_X10_isSite s1 a0 xa1).bind fun x2 =>
  if x2 = 0 then (
    wb (F_X10_fails s1 a0 (1 : Int32)) fun x11 s10 =>
    some (x11, s10)
  ) else (
    (F_X10_isIn xa2.toInt64 (0 : Int64) (3 : Int64)).bind fun x3 =>
    if x3 = 0 then (
      wb (F_X10_fails s1 a0 (2 : Int32)) fun x9 s8 =>
      some (x9, s8)
    ) else (
      (F_X10_onPaper s1 a0).bind fun s4 =>
      (F_X10_falls s4 a0 xa1).bind fun s5 =>
      wb (F_X10_toldOnPaper s5 a0 xa1 xa2) fun x7 s6 =>
      some (x7, s6)
    )
  )
def F_X10_joiningNow (σ : Sto) (a0 : Nat) (xa1 : Int32) (xa2 : Int32) (xa3 : Int32) : Option (Int32 × Sto) :=
  chk σ a0 10 <|
  (F_X10_onPaper σ a0).bind fun s1 =>
  (F_X10_joins s1 a0 xa1 xa2).bind fun s2 =>
  wb (F_X10_toldOnPaper s2 a0 xa1 xa3) fun x4 s3 =>
  some (x4, s3)
def F_X10_joining (σ : Sto) (a0 : Nat) (xa1 : Int32) (xa2 : Int32) (xa3 : Int32) : Option (Int32 × Sto) :=
  chk σ a0 10 <|
  (sV σ a0 10 0 (.int (0 : Int32))).bind fun s1 =>
  (F_X10_areTwo s1 a0 xa1 xa2).bind fun x2 =>
  if x2 = 0 then (
    wb (F_X10_fails s1 a0 (1 : Int32)) fun x9 s8 =>
    some (x9, s8)
  ) else (
    (F_X10_isIn xa3.toInt64 (0 : Int64) (3 : Int64)).bind fun x3 =>
    if x3 = 0 then (
      wb (F_X10_fails s1 a0 (2 : Int32)) fun x5 s4 =>
      some (x5, s4)
    ) else (
      wb (F_X10_joiningNow s1 a0 xa1 xa2 xa3) fun x7 s6 =>
      some (x7, s6)
    )
  )
def F_X10_best_L29 (pL0 : Nat) (xL1 : Int32) : Nat → Int32 → Int32 → Int32 → Int32 → Sto → (Int32 → Sto → Option (Int32 × Sto)) → Option (Int32 × Sto)
  | 0, _, _, _, _, _, _ => none
  | f + 1, xL2, xL3, xL4, xL5, sL, k112 =>
    (gR sL pL0 10 1).bind fun p3 =>
    (iald sL p3 (0 : Int32)).bind fun x4 =>
    if x4 ≤ xL5 then (
      k112 xL2 sL
    ) else (
      if xL5 = xL1 then (
        F_X10_best_L29 pL0 xL1 f xL2 xL3 xL4 (xL5 + (1 : Int32)) sL k112
      ) else (
        wb (F_X10_joiningNow sL pL0 xL1 xL5 (1 : Int32)) fun x6 s5 =>
        wb (F_X10_joiningNow s5 pL0 xL1 xL5 (0 : Int32)) fun x8 s7 =>
        if xL2 = (-1 : Int32) then (
          F_X10_best_L29 pL0 xL1 f xL5 x6 x8 (xL5 + (1 : Int32)) s7 k112
        ) else (
          if xL3 < x6 then (
            F_X10_best_L29 pL0 xL1 f xL2 xL3 xL4 (xL5 + (1 : Int32)) s7 k112
          ) else (
            if x6 = xL3 then (
              if xL4 < x8 then (
                F_X10_best_L29 pL0 xL1 f xL5 x6 x8 (xL5 + (1 : Int32)) s7 k112
              ) else (
                F_X10_best_L29 pL0 xL1 f xL2 xL3 xL4 (xL5 + (1 : Int32)) s7 k112
              )
            ) else (
              F_X10_best_L29 pL0 xL1 f xL5 x6 x8 (xL5 + (1 : Int32)) s7 k112
            )
          )
        )
      )
    )
def F_X10_best (σ : Sto) (a0 : Nat) (xa1 : Int32) : Option (Int32 × Sto) :=
  chk σ a0 10 <|
  (sV σ a0 10 0 (.int (0 : Int32))).bind fun s1 =>
  (F_X10_isSite s1 a0 xa1).bind fun x2 =>
  if x2 = 0 then (
    wb (F_X10_fails s1 a0 (1 : Int32)) fun x12 s11 =>
    some (x12, s11)
  ) else (
    F_X10_best_L29 a0 xa1 fu (-1 : Int32) (0 : Int32) (0 : Int32) (0 : Int32) s1
      (fun x9 s10 =>
        some (x9, s10)
      )
  )
def F_X10_maskIn (xa0 : Int32) (xa1 : Int32) : Option Int32 :=
  some (((((xa0 >>> (((3 : Int32) * xa1) &&& 31)) &&& (7 : Int32)) &&& (((1 : Int32) <<< (xa1 &&& 31)) - (1 : Int32))) ||| ((1 : Int32) <<< (xa1 &&& 31))) ||| ((((xa0 >>> (((3 : Int32) * xa1) &&& 31)) &&& (7 : Int32)) >>> (xa1 &&& 31)) <<< ((xa1 + (1 : Int32)) &&& 31)))
def F_X10_withMask (xa0 : Int32) (xa1 : Int32) (xa2 : Int32) : Option Int32 :=
  some ((xa0 &&& (((7 : Int32) <<< (((3 : Int32) * xa1) &&& 31)) ^^^ (-1 : Int32))) ||| (((xa2 &&& (((1 : Int32) <<< (xa1 &&& 31)) - (1 : Int32))) ||| ((xa2 >>> ((xa1 + (1 : Int32)) &&& 31)) <<< (xa1 &&& 31))) <<< (((3 : Int32) * xa1) &&& 31)))
def F_X10_wordOf_L5 (sL : Sto) (pL0 : Nat) (xL1 : Int32) (xL2 : Int32) : Nat → Int32 → Int32 → (Int32 → Option Int32) → Option Int32
  | 0, _, _, _ => none
  | f + 1, xL3, xL4, k50 =>
    (gR sL pL0 10 1).bind fun p1 =>
    (iald sL p1 (0 : Int32)).bind fun x2 =>
    if x2 ≤ xL4 then (
      k50 xL3
    ) else (
      if ((xL1 >>> (xL4 &&& 31)) &&& (1 : Int32)) = (1 : Int32) then (
        (gR sL pL0 10 1).bind fun p3 =>
        (F_X10_stateOf xL4).bind fun x4 =>
        (iald sL p3 ((x4 + (25 : Int32)) + xL2)).bind fun x5 =>
        F_X10_wordOf_L5 sL pL0 xL1 xL2 f (xL3 ||| x5) (xL4 + (1 : Int32)) k50
      ) else (
        F_X10_wordOf_L5 sL pL0 xL1 xL2 f xL3 (xL4 + (1 : Int32)) k50
      )
    )
def F_X10_wordOf (σ : Sto) (a0 : Nat) (xa1 : Int32) (xa2 : Int32) : Option Int32 :=
  chk σ a0 10 <|
  F_X10_wordOf_L5 σ a0 xa1 xa2 fu (0 : Int32) (0 : Int32)
    (fun x6 =>
      some x6
    )
def F_X10_isAlike_L14 (sL : Sto) (pL0 : Nat) (xL1 : Int32) (xL2 : Int32) : Nat → Int32 → (Option Int32) → Option Int32
  | 0, _, _ => none
  | f + 1, xL3, k50 =>
    if (4 : Int32) ≤ xL3 then (
      k50
    ) else (
      (F_X10_maskIn xL1 xL2).bind fun x3 =>
      (F_X10_wordOf sL pL0 x3 xL3).bind fun x4 =>
      (F_X10_maskIn xL1 (0 : Int32)).bind fun x5 =>
      (F_X10_wordOf sL pL0 x5 xL3).bind fun x6 =>
      if x4 = x6 then (
        F_X10_isAlike_L14 sL pL0 xL1 xL2 f (xL3 + (1 : Int32)) k50
      ) else (
        some (0 : Int32)
      )
    )
def F_X10_isAlike_L2 (sL : Sto) (pL0 : Nat) (xL1 : Int32) : Nat → Int32 → (Option Int32) → Option Int32
  | 0, _, _ => none
  | f + 1, xL2, k56 =>
    (gR sL pL0 10 1).bind fun p1 =>
    (iald sL p1 (0 : Int32)).bind fun x2 =>
    if x2 ≤ xL2 then (
      k56
    ) else (
      F_X10_isAlike_L14 sL pL0 xL1 xL2 fu (0 : Int32)
        (
          F_X10_isAlike_L2 sL pL0 xL1 f (xL2 + (1 : Int32)) k56
        )
    )
def F_X10_isAlike (σ : Sto) (a0 : Nat) (xa1 : Int32) : Option Int32 :=
  chk σ a0 10 <|
  F_X10_isAlike_L2 σ a0 xa1 fu (1 : Int32)
    (
      some (1 : Int32)
    )
def F_X10_search_L2 (pL0 : Nat) : Nat → Int32 → Sto → (Sto → Option (Int32 × Sto)) → Option (Int32 × Sto)
  | 0, _, _, _ => none
  | f + 1, xL1, sL, k22 =>
    if (4096 : Int32) ≤ xL1 then (
      k22 sL
    ) else (
      (gR sL pL0 10 14).bind fun p1 =>
      (zast sL p1 xL1 (0 : Int32)).bind fun s2 =>
      F_X10_search_L2 pL0 f (xL1 + (1 : Int32)) s2 k22
    )
def F_X10_search_L72 (pL0 : Nat) (xL3 : Int32) : Nat → Int32 → Int32 → Sto → (Int32 → Sto → Option (Int32 × Sto)) → Option (Int32 × Sto)
  | 0, _, _, _, _ => none
  | f + 1, xL1, xL4, sL, k204 =>
    (gR sL pL0 10 1).bind fun p13 =>
    (iald sL p13 (0 : Int32)).bind fun x14 =>
    if ((5 : Int32) * x14) ≤ xL4 then (
      k204 xL1 sL
    ) else (
      (F_X10_areTwo sL pL0 (xL4 / (5 : Int32)) (xL4 - xL4 / (5 : Int32) * (5 : Int32))).bind fun x15 =>
      if x15 = 0 then (
        F_X10_search_L72 pL0 xL3 f xL1 (xL4 + (1 : Int32)) sL k204
      ) else (
        (F_X10_isCut sL pL0 (xL4 / (5 : Int32)) (xL4 - xL4 / (5 : Int32) * (5 : Int32))).bind fun x16 =>
        if x16 = 0 then (
          (F_X10_maskIn xL3 (xL4 / (5 : Int32))).bind fun x17 =>
          (F_X10_maskIn xL3 (xL4 - xL4 / (5 : Int32) * (5 : Int32))).bind fun x18 =>
          (F_X10_withMask xL3 (xL4 - xL4 / (5 : Int32) * (5 : Int32)) (x17 ||| x18)).bind fun x19 =>
          (gR sL pL0 10 14).bind fun p20 =>
          (zald sL p20 x19).bind fun x21 =>
          if x21 = 0 then (
            (gR sL pL0 10 14).bind fun p22 =>
            (zast sL p22 x19 (1 : Int32)).bind fun s23 =>
            (gR s23 pL0 10 15).bind fun p24 =>
            (iast s23 p24 x19 xL3).bind fun s25 =>
            (gR s25 pL0 10 16).bind fun p26 =>
            (iast s25 p26 x19 (((10 : Int32) * (xL4 / (5 : Int32))) + (xL4 - xL4 / (5 : Int32) * (5 : Int32)))).bind fun s27 =>
            (gR s27 pL0 10 17).bind fun p28 =>
            (iast s27 p28 xL1 x19).bind fun s29 =>
            F_X10_search_L72 pL0 xL3 f (xL1 + (1 : Int32)) (xL4 + (1 : Int32)) s29 k204
          ) else (
            F_X10_search_L72 pL0 xL3 f xL1 (xL4 + (1 : Int32)) sL k204
          )
        ) else (
          F_X10_search_L72 pL0 xL3 f xL1 (xL4 + (1 : Int32)) sL k204
        )
      )
    )
def F_X10_search_L47 (pL0 : Nat) : Nat → Int32 → Int32 → Sto → (Sto → Option (Int32 × Sto)) → Option (Int32 × Sto)
  | 0, _, _, _, _ => none
  | f + 1, xL1, xL2, sL, k210 =>
    if xL1 ≤ xL2 then (
      k210 sL
    ) else (
      (gR sL pL0 10 17).bind fun p10 =>
      (iald sL p10 xL2).bind fun x11 =>
      (F_X10_isAlike sL pL0 x11).bind fun x12 =>
      if x12 = 0 then (
        F_X10_search_L72 pL0 x11 fu xL1 (0 : Int32) sL
          (fun x30 s31 =>
            F_X10_search_L47 pL0 f x30 (xL2 + (1 : Int32)) s31 k210
          )
      ) else (
        some (x11, sL)
      )
    )
def F_X10_search (σ : Sto) (a0 : Nat) : Option (Int32 × Sto) :=
  chk σ a0 10 <|
  F_X10_search_L2 a0 fu (0 : Int32) σ
    (fun s3 =>
      (gR s3 a0 10 14).bind fun p4 =>
      (zast s3 p4 (0 : Int32) (1 : Int32)).bind fun s5 =>
      (gR s5 a0 10 15).bind fun p6 =>
      (iast s5 p6 (0 : Int32) (-1 : Int32)).bind fun s7 =>
      (gR s7 a0 10 17).bind fun p8 =>
      (iast s7 p8 (0 : Int32) (0 : Int32)).bind fun s9 =>
      F_X10_search_L47 a0 fu (1 : Int32) (0 : Int32) s9
        (fun s32 =>
          some ((-1 : Int32), s32)
        )
    )
def F_X10_fewest_L44 (pL0 : Nat) : Nat → Int32 → Int32 → Sto → (Int32 → Sto → Option (Int32 × Sto)) → Option (Int32 × Sto)
  | 0, _, _, _, _ => none
  | f + 1, xL3, xL4, sL, k83 =>
    (gR sL pL0 10 15).bind fun p7 =>
    (iald sL p7 xL4).bind fun x8 =>
    if x8 = (-1 : Int32) then (
      k83 xL3 sL
    ) else (
      (gR sL pL0 10 18).bind fun p9 =>
      (gR sL pL0 10 16).bind fun p10 =>
      (iald sL p10 xL4).bind fun x11 =>
      (iast sL p9 xL3 x11).bind fun s12 =>
      (gR s12 pL0 10 15).bind fun p13 =>
      (iald s12 p13 xL4).bind fun x14 =>
      F_X10_fewest_L44 pL0 f (xL3 + (1 : Int32)) x14 s12 k83
    )
def F_X10_fewest (σ : Sto) (a0 : Nat) (xa1 : Int32) : Option (Int32 × Sto) :=
  chk σ a0 10 <|
  (sV σ a0 10 0 (.int (0 : Int32))).bind fun s1 =>
  (sV s1 a0 10 3 (.int (0 : Int32))).bind fun s2 =>
  (gR s2 a0 10 1).bind fun p3 =>
  (iald s2 p3 (0 : Int32)).bind fun x4 =>
  if x4 = (5 : Int32) then (
    some ((-1 : Int32), s2)
  ) else (
    if (-1 : Int32) ≤ xa1 then (
      wb (F_X10_search s2 a0) fun x6 s5 =>
      if x6 = (-1 : Int32) then (
        some ((-1 : Int32), s5)
      ) else (
        F_X10_fewest_L44 a0 fu (0 : Int32) x6 s5
          (fun x15 s16 =>
            if xa1 = (-1 : Int32) then (
              some (x15, s16)
            ) else (
              if x15 ≤ xa1 then (
                some ((-1 : Int32), s16)
              ) else (
                (gR s16 a0 10 18).bind fun p17 =>
                (iald s16 p17 ((x15 - (1 : Int32)) - xa1)).bind fun x18 =>
                some (x18, s16)
              )
            )
          )
      )
    ) else (
      some ((-1 : Int32), s2)
    )
  )
def F_X10_waitingAll_L4 (sL : Sto) (pL0 : Nat) : Nat → Int32 → Int32 → (Int32 → Option Int32) → Option Int32
  | 0, _, _, _ => none
  | f + 1, xL1, xL2, k29 =>
    if (25 : Int32) ≤ xL2 then (
      k29 xL1
    ) else (
      (gR sL pL0 10 1).bind fun p1 =>
      (iald sL p1 ((5153 : Int32) + xL2)).bind fun x2 =>
      F_X10_waitingAll_L4 sL pL0 f (xL1 + x2) (xL2 + (1 : Int32)) k29
    )
def F_X10_waitingAll (σ : Sto) (a0 : Nat) : Option Int32 :=
  chk σ a0 10 <|
  F_X10_waitingAll_L4 σ a0 fu (0 : Int32) (0 : Int32)
    (fun x3 =>
      some x3
    )
def F_X10_firstOverstated_L26 (sL : Sto) (pL0 : Nat) (xL1 : Int32) (xL2 : Int32) : Nat → Int32 → (Option Int32) → Option Int32
  | 0, _, _ => none
  | f + 1, xL3, k64 =>
    (gR sL pL0 10 1).bind fun p5 =>
    (iald sL p5 (0 : Int32)).bind fun x6 =>
    if x6 ≤ xL3 then (
      k64
    ) else (
      (F_X10_isOverstated sL pL0 xL1 xL2 xL3).bind fun x7 =>
      if x7 = 0 then (
        F_X10_firstOverstated_L26 sL pL0 xL1 xL2 f (xL3 + (1 : Int32)) k64
      ) else (
        some ((((100 : Int32) * xL1) + ((10 : Int32) * xL2)) + xL3)
      )
    )
def F_X10_firstOverstated_L14 (sL : Sto) (pL0 : Nat) (xL1 : Int32) : Nat → Int32 → (Option Int32) → Option Int32
  | 0, _, _ => none
  | f + 1, xL2, k70 =>
    (gR sL pL0 10 1).bind fun p3 =>
    (iald sL p3 (0 : Int32)).bind fun x4 =>
    if x4 ≤ xL2 then (
      k70
    ) else (
      F_X10_firstOverstated_L26 sL pL0 xL1 xL2 fu (0 : Int32)
        (
          F_X10_firstOverstated_L14 sL pL0 xL1 f (xL2 + (1 : Int32)) k70
        )
    )
def F_X10_firstOverstated_L2 (sL : Sto) (pL0 : Nat) : Nat → Int32 → (Option Int32) → Option Int32
  | 0, _, _ => none
  | f + 1, xL1, k76 =>
    (gR sL pL0 10 1).bind fun p1 =>
    (iald sL p1 (0 : Int32)).bind fun x2 =>
    if x2 ≤ xL1 then (
      k76
    ) else (
      F_X10_firstOverstated_L14 sL pL0 xL1 fu (0 : Int32)
        (
          F_X10_firstOverstated_L2 sL pL0 f (xL1 + (1 : Int32)) k76
        )
    )
def F_X10_firstOverstated (σ : Sto) (a0 : Nat) : Option Int32 :=
  chk σ a0 10 <|
  F_X10_firstOverstated_L2 σ a0 fu (0 : Int32)
    (
      some (-1 : Int32)
    )
def F_X10_lostAll_L4 (pL0 : Nat) : Nat → Int32 → Int32 → Sto → (Int32 → Sto → Option (Int32 × Sto)) → Option (Int32 × Sto)
  | 0, _, _, _, _ => none
  | f + 1, xL1, xL2, sL, k28 =>
    (gR sL pL0 10 1).bind fun p1 =>
    (iald sL p1 (0 : Int32)).bind fun x2 =>
    if x2 ≤ xL2 then (
      k28 xL1 sL
    ) else (
      wb (F_X10_lostTo sL pL0 xL2) fun x4 s3 =>
      F_X10_lostAll_L4 pL0 f (xL1 + x4) (xL2 + (1 : Int32)) s3 k28
    )
def F_X10_lostAll (σ : Sto) (a0 : Nat) : Option (Int32 × Sto) :=
  chk σ a0 10 <|
  F_X10_lostAll_L4 a0 fu (0 : Int32) (0 : Int32) σ
    (fun x5 s6 =>
      some (x5, s6)
    )
def F_X10_areViewsLike_L14 (sL : Sto) (pL0 : Nat) (xL1 : Int32) : Nat → Int32 → (Option Int32) → Option Int32
  | 0, _, _ => none
  | f + 1, xL2, k58 =>
    if (4 : Int32) ≤ xL2 then (
      k58
    ) else (
      (gR sL pL0 10 1).bind fun p3 =>
      (F_X10_stateOf xL1).bind fun x4 =>
      (iald sL p3 ((x4 + (29 : Int32)) + xL2)).bind fun x5 =>
      (gR sL pL0 10 1).bind fun p6 =>
      (F_X10_stateOf (0 : Int32)).bind fun x7 =>
      (iald sL p6 ((x7 + (29 : Int32)) + xL2)).bind fun x8 =>
      if x5 = x8 then (
        F_X10_areViewsLike_L14 sL pL0 xL1 f (xL2 + (1 : Int32)) k58
      ) else (
        some (0 : Int32)
      )
    )
def F_X10_areViewsLike_L2 (sL : Sto) (pL0 : Nat) : Nat → Int32 → (Option Int32) → Option Int32
  | 0, _, _ => none
  | f + 1, xL1, k64 =>
    (gR sL pL0 10 1).bind fun p1 =>
    (iald sL p1 (0 : Int32)).bind fun x2 =>
    if x2 ≤ xL1 then (
      k64
    ) else (
      F_X10_areViewsLike_L14 sL pL0 xL1 fu (0 : Int32)
        (
          F_X10_areViewsLike_L2 sL pL0 f (xL1 + (1 : Int32)) k64
        )
    )
def F_X10_areViewsLike (σ : Sto) (a0 : Nat) : Option Int32 :=
  chk σ a0 10 <|
  F_X10_areViewsLike_L2 σ a0 fu (1 : Int32)
    (
      some (1 : Int32)
    )
def F_X10_cutMany_L4 (sL : Sto) (pL0 : Nat) : Nat → Int32 → Int32 → (Int32 → Option Int32) → Option Int32
  | 0, _, _, _ => none
  | f + 1, xL1, xL2, k30 =>
    if (25 : Int32) ≤ xL2 then (
      k30 xL1
    ) else (
      (gR sL pL0 10 1).bind fun p1 =>
      (iald sL p1 (7 : Int32)).bind fun x2 =>
      F_X10_cutMany_L4 sL pL0 f (xL1 + ((x2 >>> (xL2 &&& 31)) &&& (1 : Int32))) (xL2 + (1 : Int32)) k30
    )
def F_X10_cutMany (σ : Sto) (a0 : Nat) : Option Int32 :=
  chk σ a0 10 <|
  F_X10_cutMany_L4 σ a0 fu (0 : Int32) (0 : Int32)
    (fun x3 =>
      some x3
    )
def F_X10_count (σ : Sto) (a0 : Nat) (xa1 : Int32) : Option (Int32 × Sto) :=
  chk σ a0 10 <|
  (sV σ a0 10 0 (.int (0 : Int32))).bind fun s1 =>
  (sV s1 a0 10 3 (.int (0 : Int32))).bind fun s2 =>
  (F_X10_isIn xa1.toInt64 (0 : Int64) (2 : Int64)).bind fun x3 =>
  if x3 = 0 then (
    (F_X10_isIn xa1.toInt64 (4 : Int64) (6 : Int64)).bind fun x4 =>
    if x4 = 0 then (
      if xa1 = (3 : Int32) then (
        (F_X10_waitingAll s2 a0).bind fun x5 =>
        some (x5, s2)
      ) else (
      if xa1 = (4 : Int32) then (
        some ((-1 : Int32), s2)
      ) else (
      if xa1 = (5 : Int32) then (
        some ((-1 : Int32), s2)
      ) else (
      if xa1 = (6 : Int32) then (
        some ((-1 : Int32), s2)
      ) else (
      if xa1 = (7 : Int32) then (
        (F_X10_overstatedAll s2 a0).bind fun x6 =>
        some (x6, s2)
      ) else (
      if xa1 = (8 : Int32) then (
        (F_X10_firstOverstated s2 a0).bind fun x7 =>
        some (x7, s2)
      ) else (
      if xa1 = (9 : Int32) then (
        wb (F_X10_lostAll s2 a0) fun x9 s8 =>
        some (x9, s8)
      ) else (
      if xa1 = (10 : Int32) then (
        (F_X10_commonOf s2 a0 (0 : Int32) (0 : Int32)).bind fun x10 =>
        some (x10, s2)
      ) else (
      if xa1 = (11 : Int32) then (
        (F_X10_areViewsLike s2 a0).bind fun x11 =>
        (F_X10_flag x11).bind fun x12 =>
        some (x12, s2)
      ) else (
      if xa1 = (12 : Int32) then (
        (gR s2 a0 10 1).bind fun p13 =>
        (iald s2 p13 (6 : Int32)).bind fun x14 =>
        some (x14, s2)
      ) else (
      if xa1 = (13 : Int32) then (
        (F_X10_cutMany s2 a0).bind fun x15 =>
        some (x15, s2)
      ) else (
        some ((-1 : Int32), s2)
      )))))))))))
    ) else (
      (gR s2 a0 10 1).bind fun p16 =>
      (iald s2 p16 (((3 : Int32) + xa1) - (4 : Int32))).bind fun x17 =>
      some (x17, s2)
    )
  ) else (
    (gR s2 a0 10 1).bind fun p18 =>
    (iald s2 p18 xa1).bind fun x19 =>
    some (x19, s2)
  )
