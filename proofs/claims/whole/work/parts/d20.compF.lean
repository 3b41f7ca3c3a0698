/-! ===== FUNCTIONS of the methods (d20.comp); printed by wip/whole/gen/emit.py ===== -/
def F_X0_init (σ : Sto) (a0 : Nat) (pa1 : Nat) : Option Sto :=
  nw_ σ (.inr (0, ((6 : Int32).toNatClampNeg, .inl (fun _ => 0)))) (6 : Int32).toNatClampNeg fun p2 s1 =>
  (sV s1 a0 0 3 (.ref p2)).bind fun s3 =>
  nw_ s3 (.inr (0, ((6 : Int32).toNatClampNeg, .inl (fun _ => 0)))) (6 : Int32).toNatClampNeg fun p5 s4 =>
  (sV s4 a0 0 4 (.ref p5)).bind fun s6 =>
  nw_ s6 (.inr (0, ((28 : Int32).toNatClampNeg, .inl (fun _ => 0)))) (28 : Int32).toNatClampNeg fun p8 s7 =>
  (sV s7 a0 0 5 (.ref p8)).bind fun s9 =>
  (sV s9 a0 0 2 (.ref pa1)).bind fun s10 =>
  some s10
def F_X0_told (σ : Sto) (a0 : Nat) (xa1 : Int32) : Option Int32 :=
  chk σ a0 0 <|
  (gR σ a0 0 3).bind fun p1 =>
  (iald σ p1 xa1).bind fun x2 =>
  (gR σ a0 0 4).bind fun p3 =>
  (iald σ p3 xa1).bind fun x4 =>
  some (((10 : Int32) * x2) + x4)
def F_X1_holds (σ : Sto) (a0 : Nat) (xa1 : Int32) : Option Int32 :=
  chk σ a0 1 <|
  jn (fun (y2 : Int64) =>
    if (lg_cmp (y2 &&& (1 : Int64)) (0 : Int64)) = 0 then (
      some (0 : Int32)
    ) else (
      some (1 : Int32)
    )
  ) fun j1 =>
  if (64 : Int32) ≤ xa1 then (
    (gL σ a0 1 1).bind fun y3 =>
    j1 (y3.toUInt64 >>> ((xa1 - (64 : Int32)).toInt64.toUInt64 &&& Int64.toUInt64 63)).toInt64
  ) else (
    (gL σ a0 1 0).bind fun y4 =>
    j1 (y4.toUInt64 >>> (xa1.toInt64.toUInt64 &&& Int64.toUInt64 63)).toInt64
  )
def F_X0_findKinds_L25 (sL : Sto) (pL0 : Nat) (xL1 : Int32) : Nat → Int32 → Int32 → (Int32 → Option Sto) → Option Sto
  | 0, _, _, _ => none
  | f + 1, xL2, xL3, k67 =>
    (gR sL pL0 0 2).bind fun p5 =>
    (gI sL p5 8 0).bind fun x6 =>
    if x6 ≤ xL3 then (
      k67 xL2
    ) else (
      (gR sL pL0 0 2).bind fun p7 =>
      (gR sL p7 8 7).bind fun p8 =>
      (aaldR sL p8 4 xL3).bind fun p9 =>
      (gR sL p9 6 1).bind fun p10 =>
      (F_X1_holds sL p10 xL1).bind fun x11 =>
      if x11 = 0 then (
        F_X0_findKinds_L25 sL pL0 xL1 f xL2 (xL3 + (1 : Int32)) k67
      ) else (
        F_X0_findKinds_L25 sL pL0 xL1 f (xL2 ||| ((1 : Int32) <<< (xL3 &&& 31))) (xL3 + (1 : Int32)) k67
      )
    )
def F_X0_findKinds_L7 (pL0 : Nat) : Nat → Int32 → Sto → (Sto → Option Sto) → Option Sto
  | 0, _, _, _ => none
  | f + 1, xL1, sL, k93 =>
    (gR sL pL0 0 2).bind fun p2 =>
    (gR sL p2 8 6).bind fun p3 =>
    (gI sL p3 2 0).bind fun x4 =>
    if x4 ≤ xL1 then (
      k93 sL
    ) else (
      F_X0_findKinds_L25 sL pL0 xL1 fu (0 : Int32) (0 : Int32)
        (fun x12 =>
          (gI sL pL0 0 1).bind fun x13 =>
          if x12 = 0 then (
            (sV sL pL0 0 1 (.int (x13 ||| (0 : Int32)))).bind fun s15 =>
            F_X0_findKinds_L7 pL0 f (xL1 + (1 : Int32)) s15 k93
          ) else (
            (sV sL pL0 0 1 (.int (x13 ||| ((1 : Int32) <<< (x12 &&& 31))))).bind fun s14 =>
            F_X0_findKinds_L7 pL0 f (xL1 + (1 : Int32)) s14 k93
          )
        )
    )
def F_X0_findKinds_L115 (pL0 : Nat) (xL1 : Int32) : Nat → Int32 → Sto → (Sto → Option Sto) → Option Sto
  | 0, _, _, _ => none
  | f + 1, xL2, sL, k159 =>
    (gR sL pL0 0 2).bind fun p21 =>
    (gI sL p21 8 0).bind fun x22 =>
    if ((1 : Int32) <<< (x22 &&& 31)) ≤ xL2 then (
      k159 sL
    ) else (
      if ((xL2 >>> (xL1 &&& 31)) &&& (1 : Int32)) = 0 then (
        F_X0_findKinds_L115 pL0 xL1 f (xL2 + (1 : Int32)) sL k159
      ) else (
        (gR sL pL0 0 5).bind fun p23 =>
        (iald sL p23 xL1).bind fun x24 =>
        (gI sL pL0 0 1).bind fun x25 =>
        (iast sL p23 xL1 (x24 ||| (x25 &&& ((1 : Int32) <<< (xL2 &&& 31))))).bind fun s26 =>
        F_X0_findKinds_L115 pL0 xL1 f (xL2 + (1 : Int32)) s26 k159
      )
    )
def F_X0_findKinds_L95 (pL0 : Nat) : Nat → Int32 → Sto → (Sto → Option Sto) → Option Sto
  | 0, _, _, _ => none
  | f + 1, xL1, sL, k165 =>
    (gR sL pL0 0 2).bind fun p17 =>
    (gI sL p17 8 0).bind fun x18 =>
    if x18 ≤ xL1 then (
      k165 sL
    ) else (
      (gR sL pL0 0 5).bind fun p19 =>
      (iast sL p19 xL1 (0 : Int32)).bind fun s20 =>
      F_X0_findKinds_L115 pL0 xL1 fu (1 : Int32) s20
        (fun s27 =>
          F_X0_findKinds_L95 pL0 f (xL1 + (1 : Int32)) s27 k165
        )
    )
def F_X0_findKinds (σ : Sto) (a0 : Nat) : Option Sto :=
  chk σ a0 0 <|
  (sV σ a0 0 1 (.int (0 : Int32))).bind fun s1 =>
  F_X0_findKinds_L7 a0 fu (0 : Int32) s1
    (fun s16 =>
      F_X0_findKinds_L95 a0 fu (0 : Int32) s16
        (fun s28 =>
          some s28
        )
    )
def F_X9_cell (xa0 : Int32) (xa1 : Int32) : Option Int32 :=
  some ((xa0 * (5 : Int32)) + xa1)
def F_X8_isCut (σ : Sto) (a0 : Nat) (xa1 : Int32) (xa2 : Int32) : Option Int32 :=
  chk σ a0 8 <|
  (gR σ a0 8 10).bind fun p1 =>
  (F_X9_cell xa1 xa2).bind fun x2 =>
  (zald σ p1 x2).bind fun x3 =>
  if x3 = 0 ∨ x3 = 1 then some x3 else none
def F_X8_linkedWith_L4 (sL : Sto) (pL0 : Nat) (xL1 : Int32) : Nat → Int32 → Int32 → (Int32 → Option Int32) → Option Int32
  | 0, _, _, _ => none
  | f + 1, xL2, xL3, k33 =>
    (gI sL pL0 8 0).bind fun x1 =>
    if x1 ≤ xL3 then (
      k33 xL2
    ) else (
      (F_X8_isCut sL pL0 xL1 xL3).bind fun x2 =>
      if x2 = 0 then (
        F_X8_linkedWith_L4 sL pL0 xL1 f (xL2 ||| ((1 : Int32) <<< (xL3 &&& 31))) (xL3 + (1 : Int32)) k33
      ) else (
        F_X8_linkedWith_L4 sL pL0 xL1 f xL2 (xL3 + (1 : Int32)) k33
      )
    )
def F_X8_linkedWith (σ : Sto) (a0 : Nat) (xa1 : Int32) : Option Int32 :=
  chk σ a0 8 <|
  F_X8_linkedWith_L4 σ a0 xa1 fu (0 : Int32) (0 : Int32)
    (fun x3 =>
      some x3
    )
def F_X8_partOf_L17 (sL : Sto) (pL0 : Nat) : Nat → Int32 → Int32 → (Int32 → Option Int32) → Option Int32
  | 0, _, _, _ => none
  | f + 1, xL2, xL4, k50 =>
    (gI sL pL0 8 0).bind fun x2 =>
    if x2 ≤ xL4 then (
      k50 xL2
    ) else (
      if ((xL2 >>> (xL4 &&& 31)) &&& (1 : Int32)) = 0 then (
        F_X8_partOf_L17 sL pL0 f xL2 (xL4 + (1 : Int32)) k50
      ) else (
        (F_X8_linkedWith sL pL0 xL4).bind fun x3 =>
        F_X8_partOf_L17 sL pL0 f (xL2 ||| x3) (xL4 + (1 : Int32)) k50
      )
    )
def F_X8_partOf_L6 (sL : Sto) (pL0 : Nat) : Nat → Int32 → Int32 → (Int32 → Option Int32) → Option Int32
  | 0, _, _, _ => none
  | f + 1, xL2, xL3, k56 =>
    (gI sL pL0 8 0).bind fun x1 =>
    if x1 ≤ xL3 then (
      k56 xL2
    ) else (
      F_X8_partOf_L17 sL pL0 fu xL2 (0 : Int32)
        (fun x4 =>
          F_X8_partOf_L6 sL pL0 f x4 (xL3 + (1 : Int32)) k56
        )
    )
def F_X8_partOf (σ : Sto) (a0 : Nat) (xa1 : Int32) : Option Int32 :=
  chk σ a0 8 <|
  F_X8_partOf_L6 σ a0 fu ((1 : Int32) <<< (xa1 &&& 31)) (0 : Int32)
    (fun x5 =>
      some x5
    )
def F_X0_joined_L5 (sL : Sto) (pL0 : Nat) (xL1 : Int32) (xL2 : Int32) : Nat → Int32 → Int32 → (Int32 → Option Int32) → Option Int32
  | 0, _, _, _ => none
  | f + 1, xL3, xL4, k46 =>
    (gR sL pL0 0 2).bind fun p1 =>
    (gI sL p1 8 0).bind fun x2 =>
    if x2 ≤ xL4 then (
      k46 xL3
    ) else (
      if ((xL2 >>> (xL4 &&& 31)) &&& (1 : Int32)) = 0 then (
        F_X0_joined_L5 sL pL0 xL1 xL2 f xL3 (xL4 + (1 : Int32)) k46
      ) else (
        (gR sL pL0 0 5).bind fun p3 =>
        (iald sL p3 ((xL1 * (4 : Int32)) + xL4)).bind fun x4 =>
        F_X0_joined_L5 sL pL0 xL1 xL2 f (xL3 ||| x4) (xL4 + (1 : Int32)) k46
      )
    )
def F_X0_joined (σ : Sto) (a0 : Nat) (xa1 : Int32) (xa2 : Int32) : Option Int32 :=
  chk σ a0 0 <|
  F_X0_joined_L5 σ a0 xa1 xa2 fu (0 : Int32) (0 : Int32)
    (fun x5 =>
      some x5
    )
def F_X0_eachPartHasAll_L2 (sL : Sto) (pL0 : Nat) : Nat → Int32 → (Option Int32) → Option Int32
  | 0, _, _ => none
  | f + 1, xL1, k41 =>
    (gR sL pL0 0 2).bind fun p1 =>
    (gI sL p1 8 0).bind fun x2 =>
    if x2 ≤ xL1 then (
      k41
    ) else (
      (gR sL pL0 0 2).bind fun p3 =>
      (F_X8_partOf sL p3 xL1).bind fun x4 =>
      (F_X0_joined sL pL0 (0 : Int32) x4).bind fun x5 =>
      (gI sL pL0 0 1).bind fun x6 =>
      if x5 = x6 then (
        F_X0_eachPartHasAll_L2 sL pL0 f (xL1 + (1 : Int32)) k41
      ) else (
        some (0 : Int32)
      )
    )
def F_X0_eachPartHasAll (σ : Sto) (a0 : Nat) : Option Int32 :=
  chk σ a0 0 <|
  F_X0_eachPartHasAll_L2 σ a0 fu (0 : Int32)
    (
      some (1 : Int32)
    )
def F_X0_leastFrom_L4 (sL : Sto) (pL0 : Nat) (xL1 : Int32) : Nat → Int32 → Int32 → (Int32 → Option Int32) → Option Int32
  | 0, _, _, _ => none
  | f + 1, xL2, xL3, k41 =>
    (gR sL pL0 0 2).bind fun p1 =>
    (gI sL p1 8 0).bind fun x2 =>
    if x2 ≤ xL3 then (
      k41 xL2
    ) else (
      (gR sL pL0 0 5).bind fun p3 =>
      (iald sL p3 ((xL1 * (4 : Int32)) + xL3)).bind fun x4 =>
      (gI sL pL0 0 1).bind fun x5 =>
      if x4 = x5 then (
        F_X0_leastFrom_L4 sL pL0 xL1 f xL2 (xL3 + (1 : Int32)) k41
      ) else (
        F_X0_leastFrom_L4 sL pL0 xL1 f (xL2 + (1 : Int32)) (xL3 + (1 : Int32)) k41
      )
    )
def F_X0_leastFrom_L65 (sL : Sto) (pL0 : Nat) (xL1 : Int32) : Nat → Int32 → Int32 → (Int32 → Option Int32) → Option Int32
  | 0, _, _, _ => none
  | f + 1, xL3, xL4, k109 =>
    (gR sL pL0 0 2).bind fun p11 =>
    (gI sL p11 8 0).bind fun x12 =>
    if ((1 : Int32) <<< (x12 &&& 31)) ≤ xL4 then (
      k109 xL3
    ) else (
      (F_X0_joined sL pL0 xL1 xL4).bind fun x13 =>
      (gI sL pL0 0 1).bind fun x14 =>
      if x13 = x14 then (
        (F_J6_bitCount_0f7a4 xL4).bind fun x15 =>
        F_X0_leastFrom_L65 sL pL0 xL1 f (if x15 < xL3 then x15 else xL3) (xL4 + (1 : Int32)) k109
      ) else (
        F_X0_leastFrom_L65 sL pL0 xL1 f xL3 (xL4 + (1 : Int32)) k109
      )
    )
def F_X0_leastFrom (σ : Sto) (a0 : Nat) (xa1 : Int32) : Option Int32 :=
  chk σ a0 0 <|
  F_X0_leastFrom_L4 σ a0 xa1 fu (0 : Int32) (0 : Int32)
    (fun x6 =>
      (gR σ a0 0 2).bind fun p7 =>
      (gI σ p7 8 0).bind fun x8 =>
      if x8 ≤ x6 then (
        (gR σ a0 0 2).bind fun p9 =>
        (gI σ p9 8 0).bind fun x10 =>
        F_X0_leastFrom_L65 σ a0 xa1 fu x10 (1 : Int32)
          (fun x16 =>
            some (((x16 - (1 : Int32)) + x6) - (1 : Int32))
          )
      ) else (
        some x6
      )
    )
def F_X0_tell_L68 (pL0 : Nat) (xL4 : Int32) (xL5 : Int32) : Nat → Int32 → Sto → (Sto → Option (Int32 × Sto)) → Option (Int32 × Sto)
  | 0, _, _, _ => none
  | f + 1, xL7, sL, k106 =>
    (gR sL pL0 0 2).bind fun p9 =>
    (gI sL p9 8 0).bind fun x10 =>
    if x10 ≤ xL7 then (
      k106 sL
    ) else (
      (gR sL pL0 0 5).bind fun p11 =>
      (gR sL pL0 0 5).bind fun p12 =>
      (iald sL p12 (xL4 + xL7)).bind fun x13 =>
      (iast sL p11 (xL5 + xL7) x13).bind fun s14 =>
      F_X0_tell_L68 pL0 xL4 xL5 f (xL7 + (1 : Int32)) s14 k106
    )
def F_X0_tell (σ : Sto) (a0 : Nat) (xa1 : Int32) (xa2 : Int32) (xa3 : Int32) : Option (Int32 × Sto) :=
  chk σ a0 0 <|
  (gR σ a0 0 5).bind fun p1 =>
  (iald σ p1 ((xa1 * (4 : Int32)) + xa2)).bind fun x2 =>
  (gR σ a0 0 5).bind fun p3 =>
  (iald σ p3 ((xa1 * (4 : Int32)) + xa3)).bind fun x4 =>
  if xa2 = xa3 then (
    some ((0 : Int32), σ)
  ) else (
    (gR σ a0 0 2).bind fun p5 =>
    (F_X8_isCut σ p5 xa2 xa3).bind fun x6 =>
    if x6 = 0 then (
      (gR σ a0 0 5).bind fun p7 =>
      (iald σ p7 ((xa1 * (4 : Int32)) + xa3)).bind fun x8 =>
      if (x2 ||| x4) = x8 then (
        some ((0 : Int32), σ)
      ) else (
        F_X0_tell_L68 a0 (xa1 * (4 : Int32)) ((xa1 * (4 : Int32)) + (4 : Int32)) fu (0 : Int32) σ
          (fun s15 =>
            (gR s15 a0 0 5).bind fun p16 =>
            (iast s15 p16 (((xa1 * (4 : Int32)) + (4 : Int32)) + xa3) (x2 ||| x4)).bind fun s17 =>
            (gR s17 a0 0 3).bind fun p18 =>
            (iast s17 p18 xa1 xa2).bind fun s19 =>
            (gR s19 a0 0 4).bind fun p20 =>
            (iast s19 p20 xa1 xa3).bind fun s21 =>
            some ((1 : Int32), s21)
          )
      )
    ) else (
      some ((0 : Int32), σ)
    )
  )
def F_X1_init (σ : Sto) (a0 : Nat) : Option Unit :=
  some ()
def F_X1_clear (σ : Sto) (a0 : Nat) : Option Sto :=
  chk σ a0 1 <|
  (sV σ a0 1 0 (.long (0 : Int64))).bind fun s1 =>
  (sV s1 a0 1 1 (.long (0 : Int64))).bind fun s2 =>
  some s2
def F_X1_copyOf (σ : Sto) (a0 : Nat) (pa1 : Nat) : Option Sto :=
  chk σ a0 1 <|
  (gL σ pa1 1 0).bind fun y1 =>
  (sV σ a0 1 0 (.long y1)).bind fun s2 =>
  (gL s2 pa1 1 1).bind fun y3 =>
  (sV s2 a0 1 1 (.long y3)).bind fun s4 =>
  some s4
def F_X1_insert (σ : Sto) (a0 : Nat) (xa1 : Int32) : Option Sto :=
  chk σ a0 1 <|
  if (64 : Int32) ≤ xa1 then (
    (gL σ a0 1 1).bind fun y1 =>
    (sV σ a0 1 1 (.long (y1 ||| ((1 : Int64) <<< ((xa1 - (64 : Int32)).toInt64 &&& 63))))).bind fun s2 =>
    some s2
  ) else (
    (gL σ a0 1 0).bind fun y3 =>
    (sV σ a0 1 0 (.long (y3 ||| ((1 : Int64) <<< (xa1.toInt64 &&& 63))))).bind fun s4 =>
    some s4
  )
def F_X1_remove (σ : Sto) (a0 : Nat) (xa1 : Int32) : Option Sto :=
  chk σ a0 1 <|
  if (64 : Int32) ≤ xa1 then (
    (gL σ a0 1 1).bind fun y1 =>
    (sV σ a0 1 1 (.long (y1 &&& (((1 : Int64) <<< ((xa1 - (64 : Int32)).toInt64 &&& 63)) ^^^ (-1 : Int64))))).bind fun s2 =>
    some s2
  ) else (
    (gL σ a0 1 0).bind fun y3 =>
    (sV σ a0 1 0 (.long (y3 &&& (((1 : Int64) <<< (xa1.toInt64 &&& 63)) ^^^ (-1 : Int64))))).bind fun s4 =>
    some s4
  )
def F_X1_insertAll (σ : Sto) (a0 : Nat) (pa1 : Nat) : Option Sto :=
  chk σ a0 1 <|
  (gL σ a0 1 0).bind fun y1 =>
  (gL σ pa1 1 0).bind fun y2 =>
  (sV σ a0 1 0 (.long (y1 ||| y2))).bind fun s3 =>
  (gL s3 a0 1 1).bind fun y4 =>
  (gL s3 pa1 1 1).bind fun y5 =>
  (sV s3 a0 1 1 (.long (y4 ||| y5))).bind fun s6 =>
  some s6
def F_X1_removeAll (σ : Sto) (a0 : Nat) (pa1 : Nat) : Option Sto :=
  chk σ a0 1 <|
  (gL σ a0 1 0).bind fun y1 =>
  (gL σ pa1 1 0).bind fun y2 =>
  (sV σ a0 1 0 (.long (y1 &&& (y2 ^^^ (-1 : Int64))))).bind fun s3 =>
  (gL s3 a0 1 1).bind fun y4 =>
  (gL s3 pa1 1 1).bind fun y5 =>
  (sV s3 a0 1 1 (.long (y4 &&& (y5 ^^^ (-1 : Int64))))).bind fun s6 =>
  some s6
def F_X1_retainAll (σ : Sto) (a0 : Nat) (pa1 : Nat) : Option Sto :=
  chk σ a0 1 <|
  (gL σ a0 1 0).bind fun y1 =>
  (gL σ pa1 1 0).bind fun y2 =>
  (sV σ a0 1 0 (.long (y1 &&& y2))).bind fun s3 =>
  (gL s3 a0 1 1).bind fun y4 =>
  (gL s3 pa1 1 1).bind fun y5 =>
  (sV s3 a0 1 1 (.long (y4 &&& y5))).bind fun s6 =>
  some s6
def F_X1_sameAs (σ : Sto) (a0 : Nat) (pa1 : Nat) : Option Int32 :=
  chk σ a0 1 <|
  (gL σ a0 1 0).bind fun y1 =>
  (gL σ pa1 1 0).bind fun y2 =>
  if (lg_cmp y1 y2) = 0 then (
    (gL σ a0 1 1).bind fun y3 =>
    (gL σ pa1 1 1).bind fun y4 =>
    if (lg_cmp y3 y4) = 0 then (
      some (1 : Int32)
    ) else (
      some (0 : Int32)
    )
  ) else (
    some (0 : Int32)
  )
def F_X1_size (σ : Sto) (a0 : Nat) : Option Int32 :=
  chk σ a0 1 <|
  (gL σ a0 1 0).bind fun y1 =>
  (F_J13_bitCount_95d88 y1).bind fun x2 =>
  (gL σ a0 1 1).bind fun y3 =>
  (F_J13_bitCount_95d88 y3).bind fun x4 =>
  some (x2 + x4)
def F_X1_shared (σ : Sto) (a0 : Nat) (pa1 : Nat) : Option Int32 :=
  chk σ a0 1 <|
  (gL σ a0 1 0).bind fun y1 =>
  (gL σ pa1 1 0).bind fun y2 =>
  (F_J13_bitCount_95d88 (y1 &&& y2)).bind fun x3 =>
  (gL σ a0 1 1).bind fun y4 =>
  (gL σ pa1 1 1).bind fun y5 =>
  (F_J13_bitCount_95d88 (y4 &&& y5)).bind fun x6 =>
  some (x3 + x6)
def F_X1_nth_L4 (sL : Sto) (pL0 : Nat) : Nat → Int32 → Int32 → (Option Int32) → Option Int32
  | 0, _, _, _ => none
  | f + 1, xL2, xL3, k37 =>
    if (120 : Int32) ≤ xL3 then (
      k37
    ) else (
      if xL2 < 0 then (
        k37
      ) else (
        (F_X1_holds sL pL0 xL3).bind fun x1 =>
        if x1 = 0 then (
          F_X1_nth_L4 sL pL0 f xL2 (xL3 + (1 : Int32)) k37
        ) else (
          if xL2 = 0 then (
            some xL3
          ) else (
            F_X1_nth_L4 sL pL0 f (xL2 + (-1 : Int32)) (xL3 + (1 : Int32)) k37
          )
        )
      )
    )
def F_X1_nth (σ : Sto) (a0 : Nat) (xa1 : Int32) : Option Int32 :=
  chk σ a0 1 <|
  F_X1_nth_L4 σ a0 fu xa1 (0 : Int32)
    (
      some (-1 : Int32)
    )
def F_X2_init_L70 (pL0 : Nat) : Nat → Int32 → Sto → (Sto → Option Sto) → Option Sto
  | 0, _, _, _ => none
  | f + 1, xL1, sL, k95 =>
    if (120 : Int32) ≤ xL1 then (
      k95 sL
    ) else (
      (gR sL pL0 2 8).bind fun p25 =>
      nw_ sL (.inl (1, dfl_1)) 2 fun p27 s26 =>
      (F_X1_init s26 p27).bind fun _ =>
      (aast s26 p25 3 xL1 p27).bind fun s28 =>
      F_X2_init_L70 pL0 f (xL1 + (1 : Int32)) s28 k95
    )
def F_X2_init (σ : Sto) (a0 : Nat) : Option Sto :=
  nw_ σ (.inr (0, ((5 : Int32).toNatClampNeg, .inl (fun _ => 0)))) (5 : Int32).toNatClampNeg fun p2 s1 =>
  (sV s1 a0 2 1 (.ref p2)).bind fun s3 =>
  nw_ s3 (.inr (0, ((120 : Int32).toNatClampNeg, .inl (fun _ => 0)))) (120 : Int32).toNatClampNeg fun p5 s4 =>
  (sV s4 a0 2 2 (.ref p5)).bind fun s6 =>
  nw_ s6 (.inr (0, ((120 : Int32).toNatClampNeg, .inl (fun _ => 0)))) (120 : Int32).toNatClampNeg fun p8 s7 =>
  (sV s7 a0 2 3 (.ref p8)).bind fun s9 =>
  nw_ s9 (.inr (0, ((120 : Int32).toNatClampNeg, .inl (fun _ => 0)))) (120 : Int32).toNatClampNeg fun p11 s10 =>
  (sV s10 a0 2 4 (.ref p11)).bind fun s12 =>
  nw_ s12 (.inr (0, ((120 : Int32).toNatClampNeg, .inl (fun _ => 0)))) (120 : Int32).toNatClampNeg fun p14 s13 =>
  (sV s13 a0 2 5 (.ref p14)).bind fun s15 =>
  nw_ s15 (.inr (0, ((120 : Int32).toNatClampNeg, .inl (fun _ => 0)))) (120 : Int32).toNatClampNeg fun p17 s16 =>
  (sV s16 a0 2 6 (.ref p17)).bind fun s18 =>
  nw_ s18 (.inr (0, ((120 : Int32).toNatClampNeg, .inl (fun _ => 0)))) (120 : Int32).toNatClampNeg fun p20 s19 =>
  (sV s19 a0 2 7 (.ref p20)).bind fun s21 =>
  nw_ s21 (.inr (3, ((120 : Int32).toNatClampNeg, .inr (.inr (.inr (.inr (fun _ => none))))))) (120 : Int32).toNatClampNeg fun p23 s22 =>
  (sV s22 a0 2 8 (.ref p23)).bind fun s24 =>
  F_X2_init_L70 a0 fu (0 : Int32) s24
    (fun s29 =>
      some s29
    )
def F_X2_clear_L7 (pL0 : Nat) : Nat → Int32 → Sto → (Sto → Option Sto) → Option Sto
  | 0, _, _, _ => none
  | f + 1, xL1, sL, k25 =>
    if (5 : Int32) ≤ xL1 then (
      k25 sL
    ) else (
      (gR sL pL0 2 1).bind fun p2 =>
      (iast sL p2 xL1 (0 : Int32)).bind fun s3 =>
      F_X2_clear_L7 pL0 f (xL1 + (1 : Int32)) s3 k25
    )
def F_X2_clear (σ : Sto) (a0 : Nat) : Option Sto :=
  chk σ a0 2 <|
  (sV σ a0 2 0 (.int (0 : Int32))).bind fun s1 =>
  F_X2_clear_L7 a0 fu (0 : Int32) s1
    (fun s4 =>
      some s4
    )
def F_X2_copyOf_L126 (pL0 : Nat) (pL1 : Nat) : Nat → Int32 → Sto → (Sto → Option Sto) → Option Sto
  | 0, _, _, _ => none
  | f + 1, xL2, sL, k155 =>
    (gI sL pL0 2 0).bind fun x30 =>
    if x30 ≤ xL2 then (
      k155 sL
    ) else (
      (gR sL pL0 2 8).bind fun p31 =>
      (aaldR sL p31 3 xL2).bind fun p32 =>
      (gR sL pL1 2 8).bind fun p33 =>
      (aaldR sL p33 3 xL2).bind fun p34 =>
      (F_X1_copyOf sL p32 p34).bind fun s35 =>
      F_X2_copyOf_L126 pL0 pL1 f (xL2 + (1 : Int32)) s35 k155
    )
def F_X2_copyOf (σ : Sto) (a0 : Nat) (pa1 : Nat) : Option Sto :=
  chk σ a0 2 <|
  (gI σ pa1 2 0).bind fun x1 =>
  (sV σ a0 2 0 (.int x1)).bind fun s2 =>
  (gR s2 pa1 2 1).bind fun p3 =>
  (gR s2 a0 2 1).bind fun p4 =>
  (acp s2 p3 (0 : Int32) p4 (0 : Int32) (5 : Int32)).bind fun s5 =>
  (gR s5 pa1 2 2).bind fun p6 =>
  (gR s5 a0 2 2).bind fun p7 =>
  (gI s5 a0 2 0).bind fun x8 =>
  (acp s5 p6 (0 : Int32) p7 (0 : Int32) x8).bind fun s9 =>
  (gR s9 pa1 2 3).bind fun p10 =>
  (gR s9 a0 2 3).bind fun p11 =>
  (gI s9 a0 2 0).bind fun x12 =>
  (acp s9 p10 (0 : Int32) p11 (0 : Int32) x12).bind fun s13 =>
  (gR s13 pa1 2 4).bind fun p14 =>
  (gR s13 a0 2 4).bind fun p15 =>
  (gI s13 a0 2 0).bind fun x16 =>
  (acp s13 p14 (0 : Int32) p15 (0 : Int32) x16).bind fun s17 =>
  (gR s17 pa1 2 5).bind fun p18 =>
  (gR s17 a0 2 5).bind fun p19 =>
  (gI s17 a0 2 0).bind fun x20 =>
  (acp s17 p18 (0 : Int32) p19 (0 : Int32) x20).bind fun s21 =>
  (gR s21 pa1 2 6).bind fun p22 =>
  (gR s21 a0 2 6).bind fun p23 =>
  (gI s21 a0 2 0).bind fun x24 =>
  (acp s21 p22 (0 : Int32) p23 (0 : Int32) x24).bind fun s25 =>
  (gR s25 pa1 2 7).bind fun p26 =>
  (gR s25 a0 2 7).bind fun p27 =>
  (gI s25 a0 2 0).bind fun x28 =>
  (acp s25 p26 (0 : Int32) p27 (0 : Int32) x28).bind fun s29 =>
  F_X2_copyOf_L126 a0 pa1 fu (0 : Int32) s29
    (fun s36 =>
      some s36
    )
def F_X2_contains (σ : Sto) (a0 : Nat) (xa1 : Int32) : Option Int32 :=
  chk σ a0 2 <|
  if xa1 < 0 then (
    some (0 : Int32)
  ) else (
    (gI σ a0 2 0).bind fun x1 =>
    if x1 ≤ xa1 then (
      some (0 : Int32)
    ) else (
      some (1 : Int32)
    )
  )
def F_X2_isFull (σ : Sto) (a0 : Nat) : Option Int32 :=
  chk σ a0 2 <|
  (gI σ a0 2 0).bind fun x1 =>
  if x1 < (120 : Int32) then (
    some (0 : Int32)
  ) else (
    some (1 : Int32)
  )
def F_X2_isOut (σ : Sto) (a0 : Nat) (xa1 : Int32) : Option Int32 :=
  chk σ a0 2 <|
  (gR σ a0 2 4).bind fun p1 =>
  (iald σ p1 xa1).bind fun x2 =>
  if x2 = xa1 then (
    some (0 : Int32)
  ) else (
    some (1 : Int32)
  )
def F_X2_isAhead (σ : Sto) (a0 : Nat) (xa1 : Int32) (xa2 : Int32) : Option Int32 :=
  chk σ a0 2 <|
  (gR σ a0 2 8).bind fun p1 =>
  (aaldR σ p1 3 xa2).bind fun p2 =>
  (F_X1_holds σ p2 xa1).bind fun x3 =>
  if x3 = 0 ∨ x3 = 1 then some x3 else none
def F_X2_append_L95 (pL0 : Nat) (pL5 : Nat) (xL6 : Int32) : Nat → Int32 → Sto → (Sto → Option (Int32 × Sto)) → Option (Int32 × Sto)
  | 0, _, _, _ => none
  | f + 1, xL7, sL, k151 =>
    if xL6 ≤ xL7 then (
      k151 sL
    ) else (
      (gR sL pL0 2 7).bind fun p24 =>
      (iald sL p24 xL7).bind fun x25 =>
      (gR sL pL0 2 7).bind fun p26 =>
      (iald sL p26 xL6).bind fun x27 =>
      if x25 < x27 then (
        F_X2_append_L95 pL0 pL5 xL6 f (xL7 + (1 : Int32)) sL k151
      ) else (
        (F_X1_holds sL pL5 xL7).bind fun x28 =>
        if x28 = 0 then (
          F_X2_append_L95 pL0 pL5 xL6 f (xL7 + (1 : Int32)) sL k151
        ) else (
          (gR sL pL0 2 7).bind fun p29 =>
          (gR sL pL0 2 7).bind fun p30 =>
          (iald sL p30 xL7).bind fun x31 =>
          (iast sL p29 xL6 (x31 + (1 : Int32))).bind fun s32 =>
          F_X2_append_L95 pL0 pL5 xL6 f (xL7 + (1 : Int32)) s32 k151
        )
      )
    )
def F_X2_append (σ : Sto) (a0 : Nat) (xa1 : Int32) (xa2 : Int32) (xa3 : Int32) (xa4 : Int32) (pa5 : Nat) : Option (Int32 × Sto) :=
  chk σ a0 2 <|
  (gI σ a0 2 0).bind fun x1 =>
  (gI σ a0 2 0).bind fun x2 =>
  (sV σ a0 2 0 (.int (x2 + (1 : Int32)))).bind fun s3 =>
  (gR s3 a0 2 1).bind fun p4 =>
  (iald s3 p4 xa1).bind fun x5 =>
  (iast s3 p4 xa1 (x5 + (1 : Int32))).bind fun s6 =>
  (gR s6 a0 2 2).bind fun p7 =>
  (iast s6 p7 x1 xa1).bind fun s8 =>
  (gR s8 a0 2 3).bind fun p9 =>
  (gR s8 a0 2 1).bind fun p10 =>
  (iald s8 p10 xa1).bind fun x11 =>
  (iast s8 p9 x1 x11).bind fun s12 =>
  (gR s12 a0 2 4).bind fun p13 =>
  (iast s12 p13 x1 xa2).bind fun s14 =>
  (gR s14 a0 2 5).bind fun p15 =>
  (iast s14 p15 x1 xa3).bind fun s16 =>
  (gR s16 a0 2 6).bind fun p17 =>
  (iast s16 p17 x1 xa4).bind fun s18 =>
  (gR s18 a0 2 8).bind fun p19 =>
  (aaldR s18 p19 3 x1).bind fun p20 =>
  (F_X1_copyOf s18 p20 pa5).bind fun s21 =>
  (gR s21 a0 2 7).bind fun p22 =>
  (iast s21 p22 x1 (1 : Int32)).bind fun s23 =>
  F_X2_append_L95 a0 pa5 x1 fu (0 : Int32) s23
    (fun s33 =>
      some (x1, s33)
    )
def F_X2_concurrentWith_L16 (sL : Sto) (pL0 : Nat) (xL1 : Int32) : Nat → Int32 → Int32 → (Int32 → Option Int32) → Option Int32
  | 0, _, _, _ => none
  | f + 1, xL2, xL3, k46 =>
    (gI sL pL0 2 0).bind fun x4 =>
    if x4 ≤ xL3 then (
      k46 xL2
    ) else (
      (gR sL pL0 2 8).bind fun p5 =>
      (aaldR sL p5 3 xL3).bind fun p6 =>
      (F_X1_holds sL p6 xL1).bind fun x7 =>
      if x7 = 0 then (
        F_X2_concurrentWith_L16 sL pL0 xL1 f (xL2 + (1 : Int32)) (xL3 + (1 : Int32)) k46
      ) else (
        F_X2_concurrentWith_L16 sL pL0 xL1 f xL2 (xL3 + (1 : Int32)) k46
      )
    )
def F_X2_concurrentWith (σ : Sto) (a0 : Nat) (xa1 : Int32) : Option Int32 :=
  chk σ a0 2 <|
  (gR σ a0 2 8).bind fun p1 =>
  (aaldR σ p1 3 xa1).bind fun p2 =>
  (F_X1_size σ p2).bind fun x3 =>
  F_X2_concurrentWith_L16 σ a0 xa1 fu (xa1 - x3) (xa1 + (1 : Int32))
    (fun x8 =>
      some x8
    )
def F_X2_concurrentCouples_L4 (sL : Sto) (pL0 : Nat) : Nat → Int32 → Int32 → (Int32 → Option Int32) → Option Int32
  | 0, _, _, _ => none
  | f + 1, xL1, xL2, k32 =>
    (gI sL pL0 2 0).bind fun x1 =>
    if x1 ≤ xL2 then (
      k32 xL1
    ) else (
      (gR sL pL0 2 8).bind fun p2 =>
      (aaldR sL p2 3 xL2).bind fun p3 =>
      (F_X1_size sL p3).bind fun x4 =>
      F_X2_concurrentCouples_L4 sL pL0 f (xL1 + (xL2 - x4)) (xL2 + (1 : Int32)) k32
    )
def F_X2_concurrentCouples (σ : Sto) (a0 : Nat) : Option Int32 :=
  chk σ a0 2 <|
  F_X2_concurrentCouples_L4 σ a0 fu (0 : Int32) (0 : Int32)
    (fun x5 =>
      some x5
    )
def F_X2_highest_L4 (sL : Sto) (pL0 : Nat) : Nat → Int32 → Int32 → (Int32 → Option Int32) → Option Int32
  | 0, _, _, _ => none
  | f + 1, xL1, xL2, k40 =>
    (gI sL pL0 2 0).bind fun x1 =>
    if x1 ≤ xL2 then (
      k40 xL1
    ) else (
      if xL1 = (-1 : Int32) then (
        F_X2_highest_L4 sL pL0 f xL2 (xL2 + (1 : Int32)) k40
      ) else (
        (gR sL pL0 2 7).bind fun p2 =>
        (iald sL p2 xL2).bind fun x3 =>
        (gR sL pL0 2 7).bind fun p4 =>
        (iald sL p4 xL1).bind fun x5 =>
        if x3 ≤ x5 then (
          F_X2_highest_L4 sL pL0 f xL1 (xL2 + (1 : Int32)) k40
        ) else (
          F_X2_highest_L4 sL pL0 f xL2 (xL2 + (1 : Int32)) k40
        )
      )
    )
def F_X2_highest (σ : Sto) (a0 : Nat) : Option Int32 :=
  chk σ a0 2 <|
  F_X2_highest_L4 σ a0 fu (-1 : Int32) (0 : Int32)
    (fun x6 =>
      some x6
    )
def F_X3_init (σ : Sto) (a0 : Nat) (pa1 : Nat) : Option Sto :=
  nw_ σ (.inr (0, ((120 : Int32).toNatClampNeg, .inl (fun _ => 0)))) (120 : Int32).toNatClampNeg fun p2 s1 =>
  (sV s1 a0 3 4 (.ref p2)).bind fun s3 =>
  nw_ s3 (.inr (0, ((25 : Int32).toNatClampNeg, .inl (fun _ => 0)))) (25 : Int32).toNatClampNeg fun p5 s4 =>
  (sV s4 a0 3 6 (.ref p5)).bind fun s6 =>
  (sV s6 a0 3 5 (.ref pa1)).bind fun s7 =>
  some s7
def F_X3_copyOf (σ : Sto) (a0 : Nat) (pa1 : Nat) : Option Sto :=
  chk σ a0 3 <|
  (gI σ pa1 3 0).bind fun x1 =>
  (sV σ a0 3 0 (.int x1)).bind fun s2 =>
  (gI s2 pa1 3 1).bind fun x3 =>
  (sV s2 a0 3 1 (.int x3)).bind fun s4 =>
  (gI s4 pa1 3 2).bind fun x5 =>
  (sV s4 a0 3 2 (.int x5)).bind fun s6 =>
  (gI s6 pa1 3 3).bind fun x7 =>
  (sV s6 a0 3 3 (.int x7)).bind fun s8 =>
  (gR s8 pa1 3 4).bind fun p9 =>
  (gR s8 a0 3 4).bind fun p10 =>
  (gI s8 a0 3 3).bind fun x11 =>
  (acp s8 p9 (0 : Int32) p10 (0 : Int32) x11).bind fun s12 =>
  (gR s12 a0 3 5).bind fun p13 =>
  (gR s12 pa1 3 5).bind fun p14 =>
  (F_X1_copyOf s12 p13 p14).bind fun s15 =>
  (gR s15 pa1 3 6).bind fun p16 =>
  (gR s15 a0 3 6).bind fun p17 =>
  (acp s15 p16 (0 : Int32) p17 (0 : Int32) (25 : Int32)).bind fun s18 =>
  some s18
def F_X6_isKnown (σ : Sto) (a0 : Nat) (pa1 : Nat) (xa2 : Int32) (xa3 : Int32) : Option Int32 :=
  chk σ a0 6 <|
  (gR σ a0 6 4).bind fun p1 =>
  (gR σ pa1 2 2).bind fun p2 =>
  (iald σ p2 xa3).bind fun x3 =>
  (iald σ p1 ((xa2 * (5 : Int32)) + x3)).bind fun x4 =>
  (gR σ pa1 2 3).bind fun p5 =>
  (iald σ p5 xa3).bind fun x6 =>
  if x4 < x6 then (
    some (0 : Int32)
  ) else (
    some (1 : Int32)
  )
def F_X3_compose_L32 (pL0 : Nat) (pL1 : Nat) (pL2 : Nat) (xL4 : Int32) : Nat → Int32 → Sto → (Sto → Option Sto) → Option Sto
  | 0, _, _, _ => none
  | f + 1, xL6, sL, k104 =>
    (gI sL pL1 6 3).bind fun x7 =>
    if x7 ≤ xL6 then (
      k104 sL
    ) else (
      (gR sL pL1 6 2).bind fun p8 =>
      (iald sL p8 xL6).bind fun x9 =>
      (F_X6_isKnown sL pL1 pL2 xL4 x9).bind fun x10 =>
      if x10 = 0 then (
        (gR sL pL0 3 4).bind fun p11 =>
        (gI sL pL0 3 3).bind fun x12 =>
        (gR sL pL1 6 2).bind fun p13 =>
        (iald sL p13 xL6).bind fun x14 =>
        (iast sL p11 x12 x14).bind fun s15 =>
        (gI s15 pL0 3 3).bind fun x16 =>
        (sV s15 pL0 3 3 (.int (x16 + (1 : Int32)))).bind fun s17 =>
        (gR s17 pL0 3 5).bind fun p18 =>
        (gR s17 pL1 6 2).bind fun p19 =>
        (iald s17 p19 xL6).bind fun x20 =>
        (F_X1_insert s17 p18 x20).bind fun s21 =>
        F_X3_compose_L32 pL0 pL1 pL2 xL4 f (xL6 + (1 : Int32)) s21 k104
      ) else (
        F_X3_compose_L32 pL0 pL1 pL2 xL4 f (xL6 + (1 : Int32)) sL k104
      )
    )
def F_X3_compose (σ : Sto) (a0 : Nat) (pa1 : Nat) (pa2 : Nat) (xa3 : Int32) (xa4 : Int32) (xa5 : Int32) : Option Sto :=
  chk σ a0 3 <|
  (sV σ a0 3 0 (.int xa3)).bind fun s1 =>
  (sV s1 a0 3 1 (.int xa4)).bind fun s2 =>
  (sV s2 a0 3 2 (.int xa5)).bind fun s3 =>
  (sV s3 a0 3 3 (.int (0 : Int32))).bind fun s4 =>
  (gR s4 a0 3 5).bind fun p5 =>
  (F_X1_clear s4 p5).bind fun s6 =>
  F_X3_compose_L32 a0 pa1 pa2 xa4 fu (0 : Int32) s6
    (fun s22 =>
      (gR s22 pa1 6 4).bind fun p23 =>
      (gR s22 a0 3 6).bind fun p24 =>
      (acp s22 p23 (0 : Int32) p24 (0 : Int32) (25 : Int32)).bind fun s25 =>
      some s25
    )
def F_X4_init (σ : Sto) (a0 : Nat) : Option Sto :=
  nw_ σ (.inr (6, ((12 : Int32).toNatClampNeg, .inr (.inr (.inr (.inr (fun _ => none))))))) (12 : Int32).toNatClampNeg fun p2 s1 =>
  (sV s1 a0 4 1 (.ref p2)).bind fun s3 =>
  some s3
def F_X4_at (σ : Sto) (a0 : Nat) (xa1 : Int32) : Option (Nat × Sto) :=
  chk σ a0 4 <|
  (gR σ a0 4 1).bind fun p1 =>
  (aald σ p1 6 xa1).bind fun p2 =>
  oe p2 (
    nw_ σ (.inl (3, dfl_3)) 7 fun p5 s4 =>
    nw_ s4 (.inl (1, dfl_1)) 2 fun p7 s6 =>
    (F_X1_init s6 p7).bind fun _ =>
    (F_X3_init s6 p5 p7).bind fun s8 =>
    (gR s8 a0 4 1).bind fun p9 =>
    (aast s8 p9 6 xa1 p5).bind fun s10 =>
    some (p5, s10)
  ) (fun p3 =>
    some (p3, σ)
  )
def F_X4_append (σ : Sto) (a0 : Nat) : Option (Nat × Sto) :=
  chk σ a0 4 <|
  (gI σ a0 4 0).bind fun x1 =>
  (sV σ a0 4 0 (.int (x1 + (1 : Int32)))).bind fun s2 =>
  (gI s2 a0 4 0).bind fun x3 =>
  wb (F_X4_at s2 a0 (x3 - (1 : Int32))) fun p5 s4 =>
  some (p5, s4)
def F_X4_copyOf_L7 (pL0 : Nat) (pL1 : Nat) : Nat → Int32 → Sto → (Sto → Option Sto) → Option Sto
  | 0, _, _, _ => none
  | f + 1, xL2, sL, k33 =>
    (gI sL pL1 4 0).bind fun x2 =>
    if x2 ≤ xL2 then (
      k33 sL
    ) else (
      wb (F_X4_append sL pL0) fun p4 s3 =>
      wb (F_X4_at s3 pL1 xL2) fun p6 s5 =>
      (F_X3_copyOf s5 p4 p6).bind fun s7 =>
      F_X4_copyOf_L7 pL0 pL1 f (xL2 + (1 : Int32)) s7 k33
    )
def F_X4_copyOf (σ : Sto) (a0 : Nat) (pa1 : Nat) : Option Sto :=
  chk σ a0 4 <|
  (sV σ a0 4 0 (.int (0 : Int32))).bind fun s1 =>
  F_X4_copyOf_L7 a0 pa1 fu (0 : Int32) s1
    (fun s8 =>
      some s8
    )
def F_X4_isFull (σ : Sto) (a0 : Nat) : Option Int32 :=
  chk σ a0 4 <|
  (gI σ a0 4 0).bind fun x1 =>
  if x1 < (12 : Int32) then (
    some (0 : Int32)
  ) else (
    some (1 : Int32)
  )
def F_X4_remove_L9 (pL0 : Nat) : Nat → Int32 → Sto → (Sto → Option Sto) → Option Sto
  | 0, _, _, _ => none
  | f + 1, xL3, sL, k39 =>
    (gI sL pL0 4 0).bind fun x3 =>
    if x3 ≤ (xL3 + (1 : Int32)) then (
      k39 sL
    ) else (
      (gR sL pL0 4 1).bind fun p4 =>
      (gR sL pL0 4 1).bind fun p5 =>
      (aaldR sL p5 6 (xL3 + (1 : Int32))).bind fun p6 =>
      (aast sL p4 6 xL3 p6).bind fun s7 =>
      F_X4_remove_L9 pL0 f (xL3 + (1 : Int32)) s7 k39
    )
def F_X4_remove (σ : Sto) (a0 : Nat) (xa1 : Int32) : Option Sto :=
  chk σ a0 4 <|
  (gR σ a0 4 1).bind fun p1 =>
  (aaldR σ p1 6 xa1).bind fun p2 =>
  F_X4_remove_L9 a0 fu xa1 σ
    (fun s8 =>
      (gI s8 a0 4 0).bind fun x9 =>
      (sV s8 a0 4 0 (.int (x9 - (1 : Int32)))).bind fun s10 =>
      (gR s10 a0 4 1).bind fun p11 =>
      (gI s10 a0 4 0).bind fun x12 =>
      (aast s10 p11 6 x12 p2).bind fun s13 =>
      some s13
    )
def F_X6_init (σ : Sto) (a0 : Nat) : Option Sto :=
  nw_ σ (.inl (1, dfl_1)) 2 fun p2 s1 =>
  (F_X1_init s1 p2).bind fun _ =>
  (sV s1 a0 6 0 (.ref p2)).bind fun s3 =>
  nw_ s3 (.inl (1, dfl_1)) 2 fun p5 s4 =>
  (F_X1_init s4 p5).bind fun _ =>
  (sV s4 a0 6 1 (.ref p5)).bind fun s6 =>
  nw_ s6 (.inr (0, ((120 : Int32).toNatClampNeg, .inl (fun _ => 0)))) (120 : Int32).toNatClampNeg fun p8 s7 =>
  (sV s7 a0 6 2 (.ref p8)).bind fun s9 =>
  nw_ s9 (.inr (0, ((25 : Int32).toNatClampNeg, .inl (fun _ => 0)))) (25 : Int32).toNatClampNeg fun p11 s10 =>
  (sV s10 a0 6 4 (.ref p11)).bind fun s12 =>
  nw_ s12 (.inr (0, ((120 : Int32).toNatClampNeg, .inl (fun _ => 0)))) (120 : Int32).toNatClampNeg fun p14 s13 =>
  (sV s13 a0 6 5 (.ref p14)).bind fun s15 =>
  nw_ s15 (.inr (0, ((120 : Int32).toNatClampNeg, .inl (fun _ => 0)))) (120 : Int32).toNatClampNeg fun p17 s16 =>
  (sV s16 a0 6 6 (.ref p17)).bind fun s18 =>
  some s18
def F_X5_init_L67 (pL0 : Nat) : Nat → Int32 → Sto → (Sto → Option Sto) → Option Sto
  | 0, _, _, _ => none
  | f + 1, xL2, sL, k91 =>
    if (5 : Int32) ≤ xL2 then (
      k91 sL
    ) else (
      (gR sL pL0 5 1).bind fun p20 =>
      nw_ sL (.inl (6, dfl_6)) 7 fun p22 s21 =>
      (F_X6_init s21 p22).bind fun s23 =>
      (aast s23 p20 4 xL2 p22).bind fun s24 =>
      F_X5_init_L67 pL0 f (xL2 + (1 : Int32)) s24 k91
    )
def F_X5_init (σ : Sto) (a0 : Nat) (pa1 : Nat) : Option Sto :=
  nw_ σ (.inr (4, ((5 : Int32).toNatClampNeg, .inr (.inr (.inr (.inr (fun _ => none))))))) (5 : Int32).toNatClampNeg fun p2 s1 =>
  (sV s1 a0 5 1 (.ref p2)).bind fun s3 =>
  nw_ s3 (.inl (3, dfl_3)) 7 fun p5 s4 =>
  nw_ s4 (.inl (1, dfl_1)) 2 fun p7 s6 =>
  (F_X1_init s6 p7).bind fun _ =>
  (F_X3_init s6 p5 p7).bind fun s8 =>
  (sV s8 a0 5 2 (.ref p5)).bind fun s9 =>
  nw_ s9 (.inl (1, dfl_1)) 2 fun p11 s10 =>
  (F_X1_init s10 p11).bind fun _ =>
  (sV s10 a0 5 3 (.ref p11)).bind fun s12 =>
  nw_ s12 (.inl (1, dfl_1)) 2 fun p14 s13 =>
  (F_X1_init s13 p14).bind fun _ =>
  (sV s13 a0 5 4 (.ref p14)).bind fun s15 =>
  nw_ s15 (.inr (0, ((25 : Int32).toNatClampNeg, .inl (fun _ => 0)))) (25 : Int32).toNatClampNeg fun p17 s16 =>
  (sV s16 a0 5 5 (.ref p17)).bind fun s18 =>
  (sV s18 a0 5 0 (.ref pa1)).bind fun s19 =>
  F_X5_init_L67 a0 fu (0 : Int32) s19
    (fun s25 =>
      some s25
    )
def F_X5_findMissing_L2 (pL0 : Nat) : Nat → Int32 → Sto → (Sto → Option Sto) → Option Sto
  | 0, _, _, _ => none
  | f + 1, xL1, sL, k21 =>
    if (25 : Int32) ≤ xL1 then (
      k21 sL
    ) else (
      (gR sL pL0 5 5).bind fun p1 =>
      (iast sL p1 xL1 (0 : Int32)).bind fun s2 =>
      F_X5_findMissing_L2 pL0 f (xL1 + (1 : Int32)) s2 k21
    )
def F_X5_findMissing_L36 (pL0 : Nat) (xL1 : Int32) : Nat → Int32 → Sto → (Sto → Option Sto) → Option Sto
  | 0, _, _, _ => none
  | f + 1, xL2, sL, k119 =>
    (gR sL pL0 5 0).bind fun p6 =>
    (gR sL p6 8 6).bind fun p7 =>
    (gI sL p7 2 0).bind fun x8 =>
    if x8 ≤ xL2 then (
      k119 sL
    ) else (
      (gR sL pL0 5 0).bind fun p9 =>
      (gR sL p9 8 6).bind fun p10 =>
      (gR sL p10 2 2).bind fun p11 =>
      (iald sL p11 xL2).bind fun x12 =>
      (F_X9_cell xL1 x12).bind fun x13 =>
      (gR sL pL0 5 5).bind fun p14 =>
      (iald sL p14 x13).bind fun x15 =>
      if x15 = 0 then (
        (gR sL pL0 5 0).bind fun p16 =>
        (gR sL p16 8 7).bind fun p17 =>
        (aaldR sL p17 4 xL1).bind fun p18 =>
        (gR sL p18 6 1).bind fun p19 =>
        (F_X1_holds sL p19 xL2).bind fun x20 =>
        if x20 = 0 then (
          (gR sL pL0 5 5).bind fun p21 =>
          (gR sL pL0 5 0).bind fun p22 =>
          (gR sL p22 8 6).bind fun p23 =>
          (gR sL p23 2 3).bind fun p24 =>
          (iald sL p24 xL2).bind fun x25 =>
          (iast sL p21 x13 x25).bind fun s26 =>
          F_X5_findMissing_L36 pL0 xL1 f (xL2 + (1 : Int32)) s26 k119
        ) else (
          F_X5_findMissing_L36 pL0 xL1 f (xL2 + (1 : Int32)) sL k119
        )
      ) else (
        F_X5_findMissing_L36 pL0 xL1 f (xL2 + (1 : Int32)) sL k119
      )
    )
def F_X5_findMissing_L23 (pL0 : Nat) : Nat → Int32 → Sto → (Sto → Option Sto) → Option Sto
  | 0, _, _, _ => none
  | f + 1, xL1, sL, k125 =>
    (gR sL pL0 5 0).bind fun p4 =>
    (gI sL p4 8 0).bind fun x5 =>
    if x5 ≤ xL1 then (
      k125 sL
    ) else (
      F_X5_findMissing_L36 pL0 xL1 fu (0 : Int32) sL
        (fun s27 =>
          F_X5_findMissing_L23 pL0 f (xL1 + (1 : Int32)) s27 k125
        )
    )
def F_X5_findMissing (σ : Sto) (a0 : Nat) : Option Sto :=
  chk σ a0 5 <|
  F_X5_findMissing_L2 a0 fu (0 : Int32) σ
    (fun s3 =>
      F_X5_findMissing_L23 a0 fu (0 : Int32) s3
        (fun s28 =>
          some s28
        )
    )
def F_X5_isOverstated (σ : Sto) (a0 : Nat) (xa1 : Int32) (xa2 : Int32) : Option Int32 :=
  chk σ a0 5 <|
  (gR σ a0 5 5).bind fun p1 =>
  (iald σ p1 xa2).bind fun x2 =>
  if x2 ≤ 0 then (
    some (0 : Int32)
  ) else (
    (gR σ a0 5 0).bind fun p3 =>
    (gR σ p3 8 7).bind fun p4 =>
    (aaldR σ p4 4 xa1).bind fun p5 =>
    (gR σ p5 6 4).bind fun p6 =>
    (iald σ p6 xa2).bind fun x7 =>
    (gR σ a0 5 5).bind fun p8 =>
    (iald σ p8 xa2).bind fun x9 =>
    if x7 < x9 then (
      some (0 : Int32)
    ) else (
      some (1 : Int32)
    )
  )
def F_X5_countOverstated_L4 (sL : Sto) (pL0 : Nat) (xL1 : Int32) : Nat → Int32 → Int32 → (Int32 → Option Int32) → Option Int32
  | 0, _, _, _ => none
  | f + 1, xL2, xL3, k28 =>
    if (25 : Int32) ≤ xL3 then (
      k28 xL2
    ) else (
      (F_X5_isOverstated sL pL0 xL1 xL3).bind fun x1 =>
      if x1 = 0 then (
        F_X5_countOverstated_L4 sL pL0 xL1 f xL2 (xL3 + (1 : Int32)) k28
      ) else (
        F_X5_countOverstated_L4 sL pL0 xL1 f (xL2 + (1 : Int32)) (xL3 + (1 : Int32)) k28
      )
    )
def F_X5_countOverstated (σ : Sto) (a0 : Nat) (xa1 : Int32) : Option Int32 :=
  chk σ a0 5 <|
  F_X5_countOverstated_L4 σ a0 xa1 fu (0 : Int32) (0 : Int32)
    (fun x2 =>
      some x2
    )
def F_X5_overstatedAt (σ : Sto) (a0 : Nat) (xa1 : Int32) : Option (Int32 × Sto) :=
  chk σ a0 5 <|
  (F_X5_findMissing σ a0).bind fun s1 =>
  (F_X5_countOverstated s1 a0 xa1).bind fun x2 =>
  some (x2, s1)
def F_X5_overstatedCells_L8 (sL : Sto) (pL0 : Nat) : Nat → Int32 → Int32 → (Int32 → Option (Int32 × Sto)) → Option (Int32 × Sto)
  | 0, _, _, _ => none
  | f + 1, xL1, xL2, k33 =>
    (gR sL pL0 5 0).bind fun p2 =>
    (gI sL p2 8 0).bind fun x3 =>
    if x3 ≤ xL2 then (
      k33 xL1
    ) else (
      (F_X5_countOverstated sL pL0 xL2).bind fun x4 =>
      F_X5_overstatedCells_L8 sL pL0 f (xL1 + x4) (xL2 + (1 : Int32)) k33
    )
def F_X5_overstatedCells (σ : Sto) (a0 : Nat) : Option (Int32 × Sto) :=
  chk σ a0 5 <|
  (F_X5_findMissing σ a0).bind fun s1 =>
  F_X5_overstatedCells_L8 s1 a0 fu (0 : Int32) (0 : Int32)
    (fun x5 =>
      some (x5, s1)
    )
def F_X5_firstOverstated_L32 (sL : Sto) (pL0 : Nat) (xL1 : Int32) (xL2 : Int32) : Nat → Int32 → (Option (Int32 × Sto)) → Option (Int32 × Sto)
  | 0, _, _ => none
  | f + 1, xL3, k74 =>
    (gR sL pL0 5 0).bind fun p6 =>
    (gI sL p6 8 0).bind fun x7 =>
    if x7 ≤ xL3 then (
      k74
    ) else (
      (F_X9_cell xL2 xL3).bind fun x8 =>
      (F_X5_isOverstated sL pL0 xL1 x8).bind fun x9 =>
      if x9 = 0 then (
        F_X5_firstOverstated_L32 sL pL0 xL1 xL2 f (xL3 + (1 : Int32)) k74
      ) else (
        some (((((100 : Int32) * xL1) + ((10 : Int32) * xL2)) + xL3), sL)
      )
    )
def F_X5_firstOverstated_L19 (sL : Sto) (pL0 : Nat) (xL1 : Int32) : Nat → Int32 → (Option (Int32 × Sto)) → Option (Int32 × Sto)
  | 0, _, _ => none
  | f + 1, xL2, k80 =>
    (gR sL pL0 5 0).bind fun p4 =>
    (gI sL p4 8 0).bind fun x5 =>
    if x5 ≤ xL2 then (
      k80
    ) else (
      F_X5_firstOverstated_L32 sL pL0 xL1 xL2 fu (0 : Int32)
        (
          F_X5_firstOverstated_L19 sL pL0 xL1 f (xL2 + (1 : Int32)) k80
        )
    )
def F_X5_firstOverstated_L6 (sL : Sto) (pL0 : Nat) : Nat → Int32 → (Option (Int32 × Sto)) → Option (Int32 × Sto)
  | 0, _, _ => none
  | f + 1, xL1, k86 =>
    (gR sL pL0 5 0).bind fun p2 =>
    (gI sL p2 8 0).bind fun x3 =>
    if x3 ≤ xL1 then (
      k86
    ) else (
      F_X5_firstOverstated_L19 sL pL0 xL1 fu (0 : Int32)
        (
          F_X5_firstOverstated_L6 sL pL0 f (xL1 + (1 : Int32)) k86
        )
    )
def F_X5_firstOverstated (σ : Sto) (a0 : Nat) : Option (Int32 × Sto) :=
  chk σ a0 5 <|
  (F_X5_findMissing σ a0).bind fun s1 =>
  F_X5_firstOverstated_L6 s1 a0 fu (0 : Int32)
    (
      some ((-1 : Int32), s1)
    )
def F_X5_findStillToBeTold_L13 (pL0 : Nat) (xL2 : Int32) (pL3 : Nat) : Nat → Int32 → Sto → (Sto → Option Sto) → Option Sto
  | 0, _, _, _ => none
  | f + 1, xL4, sL, k64 =>
    (gI sL pL3 6 3).bind fun x4 =>
    if x4 ≤ xL4 then (
      k64 sL
    ) else (
      (gR sL pL0 5 0).bind fun p5 =>
      (gR sL p5 8 6).bind fun p6 =>
      (gR sL pL3 6 2).bind fun p7 =>
      (iald sL p7 xL4).bind fun x8 =>
      (F_X6_isKnown sL pL3 p6 xL2 x8).bind fun x9 =>
      if x9 = 0 then (
        (gR sL pL0 5 3).bind fun p10 =>
        (gR sL pL3 6 2).bind fun p11 =>
        (iald sL p11 xL4).bind fun x12 =>
        (F_X1_insert sL p10 x12).bind fun s13 =>
        F_X5_findStillToBeTold_L13 pL0 xL2 pL3 f (xL4 + (1 : Int32)) s13 k64
      ) else (
        F_X5_findStillToBeTold_L13 pL0 xL2 pL3 f (xL4 + (1 : Int32)) sL k64
      )
    )
def F_X5_findStillToBeTold (σ : Sto) (a0 : Nat) (xa1 : Int32) (xa2 : Int32) : Option Sto :=
  chk σ a0 5 <|
  (gR σ a0 5 0).bind fun p1 =>
  (gR σ p1 8 7).bind fun p2 =>
  (aaldR σ p2 4 xa1).bind fun p3 =>
  F_X5_findStillToBeTold_L13 a0 xa2 p3 fu (0 : Int32) σ
    (fun s14 =>
      some s14
    )
def F_X8_row (σ : Sto) (a0 : Nat) (xa1 : Int32) (xa2 : Int32) : Option Nat :=
  chk σ a0 8 <|
  (gR σ a0 8 9).bind fun p1 =>
  (F_X9_cell xa1 xa2).bind fun x2 =>
  (aaldR σ p1 5 x2).bind fun p3 =>
  some p3
def F_X5_findOnTheWay_L33 (pL0 : Nat) (pL3 : Nat) : Nat → Int32 → Sto → (Sto → Option Sto) → Option Sto
  | 0, _, _, _ => none
  | f + 1, xL4, sL, k64 =>
    (gI sL pL3 4 0).bind fun x7 =>
    if x7 ≤ xL4 then (
      k64 sL
    ) else (
      (gR sL pL0 5 4).bind fun p8 =>
      wb (F_X4_at sL pL3 xL4) fun p10 s9 =>
      (gR s9 p10 3 5).bind fun p11 =>
      (F_X1_insertAll s9 p8 p11).bind fun s12 =>
      F_X5_findOnTheWay_L33 pL0 pL3 f (xL4 + (1 : Int32)) s12 k64
    )
def F_X5_findOnTheWay_L9 (pL0 : Nat) (xL1 : Int32) : Nat → Int32 → Sto → (Sto → Option Sto) → Option Sto
  | 0, _, _, _ => none
  | f + 1, xL2, sL, k70 =>
    (gR sL pL0 5 0).bind fun p3 =>
    (gI sL p3 8 0).bind fun x4 =>
    if x4 ≤ xL2 then (
      k70 sL
    ) else (
      (gR sL pL0 5 0).bind fun p5 =>
      (F_X8_row sL p5 xL2 xL1).bind fun p6 =>
      F_X5_findOnTheWay_L33 pL0 p6 fu (0 : Int32) sL
        (fun s13 =>
          F_X5_findOnTheWay_L9 pL0 xL1 f (xL2 + (1 : Int32)) s13 k70
        )
    )
def F_X5_findOnTheWay_L72 (pL0 : Nat) (xL1 : Int32) : Nat → Int32 → Sto → (Sto → Option Sto) → Option Sto
  | 0, _, _, _ => none
  | f + 1, xL2, sL, k135 =>
    (gR sL pL0 5 0).bind fun p15 =>
    (gR sL p15 8 6).bind fun p16 =>
    (gI sL p16 2 0).bind fun x17 =>
    if x17 ≤ xL2 then (
      k135 sL
    ) else (
      (gR sL pL0 5 4).bind fun p18 =>
      (F_X1_holds sL p18 xL2).bind fun x19 =>
      if x19 = 0 then (
        F_X5_findOnTheWay_L72 pL0 xL1 f (xL2 + (1 : Int32)) sL k135
      ) else (
        (gR sL pL0 5 0).bind fun p20 =>
        (gR sL p20 8 7).bind fun p21 =>
        (aaldR sL p21 4 xL1).bind fun p22 =>
        (gR sL pL0 5 0).bind fun p23 =>
        (gR sL p23 8 6).bind fun p24 =>
        (F_X6_isKnown sL p22 p24 xL1 xL2).bind fun x25 =>
        if x25 = 0 then (
          (gR sL pL0 5 3).bind fun p26 =>
          (F_X1_insert sL p26 xL2).bind fun s27 =>
          F_X5_findOnTheWay_L72 pL0 xL1 f (xL2 + (1 : Int32)) s27 k135
        ) else (
          F_X5_findOnTheWay_L72 pL0 xL1 f (xL2 + (1 : Int32)) sL k135
        )
      )
    )
def F_X5_findOnTheWay (σ : Sto) (a0 : Nat) (xa1 : Int32) : Option Sto :=
  chk σ a0 5 <|
  (gR σ a0 5 4).bind fun p1 =>
  (F_X1_clear σ p1).bind fun s2 =>
  F_X5_findOnTheWay_L9 a0 xa1 fu (0 : Int32) s2
    (fun s14 =>
      F_X5_findOnTheWay_L72 a0 xa1 fu (0 : Int32) s14
        (fun s28 =>
          some s28
        )
    )
def F_X5_lostTo_L9 (pL0 : Nat) (xL1 : Int32) : Nat → Int32 → Sto → (Sto → Option (Int32 × Sto)) → Option (Int32 × Sto)
  | 0, _, _, _ => none
  | f + 1, xL2, sL, k32 =>
    (gR sL pL0 5 0).bind fun p3 =>
    (gI sL p3 8 0).bind fun x4 =>
    if x4 ≤ xL2 then (
      k32 sL
    ) else (
      (F_X5_findStillToBeTold sL pL0 xL2 xL1).bind fun s5 =>
      F_X5_lostTo_L9 pL0 xL1 f (xL2 + (1 : Int32)) s5 k32
    )
def F_X5_lostTo (σ : Sto) (a0 : Nat) (xa1 : Int32) : Option (Int32 × Sto) :=
  chk σ a0 5 <|
  (gR σ a0 5 3).bind fun p1 =>
  (F_X1_clear σ p1).bind fun s2 =>
  F_X5_lostTo_L9 a0 xa1 fu (0 : Int32) s2
    (fun s6 =>
      (F_X5_findOnTheWay s6 a0 xa1).bind fun s7 =>
      (gR s7 a0 5 3).bind fun p8 =>
      (gR s7 a0 5 0).bind fun p9 =>
      (gR s7 p9 8 7).bind fun p10 =>
      (aaldR s7 p10 4 xa1).bind fun p11 =>
      (gR s7 p11 6 1).bind fun p12 =>
      (F_X1_insertAll s7 p8 p12).bind fun s13 =>
      (gR s13 a0 5 0).bind fun p14 =>
      (gR s13 p14 8 6).bind fun p15 =>
      (gI s13 p15 2 0).bind fun x16 =>
      (gR s13 a0 5 3).bind fun p17 =>
      (F_X1_size s13 p17).bind fun x18 =>
      some ((x16 - x18), s13)
    )
def F_X5_lostInAll_L4 (pL0 : Nat) : Nat → Int32 → Int32 → Sto → (Int32 → Sto → Option (Int32 × Sto)) → Option (Int32 × Sto)
  | 0, _, _, _, _ => none
  | f + 1, xL1, xL2, sL, k29 =>
    (gR sL pL0 5 0).bind fun p1 =>
    (gI sL p1 8 0).bind fun x2 =>
    if x2 ≤ xL2 then (
      k29 xL1 sL
    ) else (
      wb (F_X5_lostTo sL pL0 xL2) fun x4 s3 =>
      F_X5_lostInAll_L4 pL0 f (xL1 + x4) (xL2 + (1 : Int32)) s3 k29
    )
def F_X5_lostInAll (σ : Sto) (a0 : Nat) : Option (Int32 × Sto) :=
  chk σ a0 5 <|
  F_X5_lostInAll_L4 a0 fu (0 : Int32) (0 : Int32) σ
    (fun x5 s6 =>
      some (x5, s6)
    )
def F_X5_heldByAll_L21 (pL0 : Nat) : Nat → Int32 → Sto → (Sto → Option (Int32 × Sto)) → Option (Int32 × Sto)
  | 0, _, _, _ => none
  | f + 1, xL1, sL, k57 =>
    (gR sL pL0 5 0).bind fun p7 =>
    (gI sL p7 8 0).bind fun x8 =>
    if x8 ≤ xL1 then (
      k57 sL
    ) else (
      (gR sL pL0 5 3).bind fun p9 =>
      (gR sL pL0 5 0).bind fun p10 =>
      (gR sL p10 8 7).bind fun p11 =>
      (aaldR sL p11 4 xL1).bind fun p12 =>
      (gR sL p12 6 1).bind fun p13 =>
      (F_X1_retainAll sL p9 p13).bind fun s14 =>
      F_X5_heldByAll_L21 pL0 f (xL1 + (1 : Int32)) s14 k57
    )
def F_X5_heldByAll (σ : Sto) (a0 : Nat) : Option (Int32 × Sto) :=
  chk σ a0 5 <|
  (gR σ a0 5 3).bind fun p1 =>
  (gR σ a0 5 0).bind fun p2 =>
  (gR σ p2 8 7).bind fun p3 =>
  (aaldR σ p3 4 (0 : Int32)).bind fun p4 =>
  (gR σ p4 6 1).bind fun p5 =>
  (F_X1_copyOf σ p1 p5).bind fun s6 =>
  F_X5_heldByAll_L21 a0 fu (1 : Int32) s6
    (fun s15 =>
      (gR s15 a0 5 3).bind fun p16 =>
      (F_X1_size s15 p16).bind fun x17 =>
      some (x17, s15)
    )
def F_X5_heldByAllInLog_L20 (sL : Sto) (pL0 : Nat) (pL3 : Nat) : Nat → Int32 → Int32 → (Int32 → Option (Int32 × Sto)) → Option (Int32 × Sto)
  | 0, _, _, _ => none
  | f + 1, xL2, xL4, k55 =>
    (gI sL pL3 6 3).bind fun x6 =>
    if x6 ≤ xL4 then (
      k55 xL2
    ) else (
      (gR sL pL0 5 3).bind fun p7 =>
      (gR sL pL3 6 2).bind fun p8 =>
      (iald sL p8 xL4).bind fun x9 =>
      (F_X1_holds sL p7 x9).bind fun x10 =>
      if x10 = 0 then (
        F_X5_heldByAllInLog_L20 sL pL0 pL3 f xL2 (xL4 + (1 : Int32)) k55
      ) else (
        F_X5_heldByAllInLog_L20 sL pL0 pL3 f (xL2 + (1 : Int32)) (xL4 + (1 : Int32)) k55
      )
    )
def F_X5_heldByAllInLog (σ : Sto) (a0 : Nat) (xa1 : Int32) : Option (Int32 × Sto) :=
  chk σ a0 5 <|
  wb (F_X5_heldByAll σ a0) fun x2 s1 =>
  (gR s1 a0 5 0).bind fun p3 =>
  (gR s1 p3 8 7).bind fun p4 =>
  (aaldR s1 p4 4 xa1).bind fun p5 =>
  F_X5_heldByAllInLog_L20 s1 a0 p5 fu (0 : Int32) (0 : Int32)
    (fun x11 =>
      some (x11, s1)
    )
def F_X5_frontOf_L23 (pL0 : Nat) (pL2 : Nat) : Nat → Int32 → Sto → (Sto → Option (Nat × Sto)) → Option (Nat × Sto)
  | 0, _, _, _ => none
  | f + 1, xL3, sL, k70 =>
    (gR sL pL0 5 0).bind fun p7 =>
    (gR sL p7 8 6).bind fun p8 =>
    (gI sL p8 2 0).bind fun x9 =>
    if x9 ≤ xL3 then (
      k70 sL
    ) else (
      (F_X1_holds sL pL2 xL3).bind fun x10 =>
      if x10 = 0 then (
        F_X5_frontOf_L23 pL0 pL2 f (xL3 + (1 : Int32)) sL k70
      ) else (
        (gR sL pL0 5 3).bind fun p11 =>
        (gR sL pL0 5 0).bind fun p12 =>
        (gR sL p12 8 6).bind fun p13 =>
        (gR sL p13 2 8).bind fun p14 =>
        (aaldR sL p14 3 xL3).bind fun p15 =>
        (F_X1_removeAll sL p11 p15).bind fun s16 =>
        F_X5_frontOf_L23 pL0 pL2 f (xL3 + (1 : Int32)) s16 k70
      )
    )
def F_X5_frontOf (σ : Sto) (a0 : Nat) (xa1 : Int32) : Option (Nat × Sto) :=
  chk σ a0 5 <|
  (gR σ a0 5 0).bind fun p1 =>
  (gR σ p1 8 7).bind fun p2 =>
  (aaldR σ p2 4 xa1).bind fun p3 =>
  (gR σ p3 6 1).bind fun p4 =>
  (gR σ a0 5 3).bind fun p5 =>
  (F_X1_copyOf σ p5 p4).bind fun s6 =>
  F_X5_frontOf_L23 a0 p4 fu (0 : Int32) s6
    (fun s17 =>
      (gR s17 a0 5 3).bind fun p18 =>
      some (p18, s17)
    )
def F_X5_onlyAt (σ : Sto) (a0 : Nat) (xa1 : Int32) (xa2 : Int32) : Option (Nat × Sto) :=
  chk σ a0 5 <|
  (gR σ a0 5 3).bind fun p1 =>
  (gR σ a0 5 0).bind fun p2 =>
  (gR σ p2 8 7).bind fun p3 =>
  (aaldR σ p3 4 xa1).bind fun p4 =>
  (gR σ p4 6 0).bind fun p5 =>
  (F_X1_copyOf σ p1 p5).bind fun s6 =>
  (gR s6 a0 5 3).bind fun p7 =>
  (gR s6 a0 5 0).bind fun p8 =>
  (gR s6 p8 8 7).bind fun p9 =>
  (aaldR s6 p9 4 xa2).bind fun p10 =>
  (gR s6 p10 6 0).bind fun p11 =>
  (F_X1_removeAll s6 p7 p11).bind fun s12 =>
  (gR s12 a0 5 3).bind fun p13 =>
  some (p13, s12)
def F_X5_wouldCarry (σ : Sto) (a0 : Nat) (xa1 : Int32) (xa2 : Int32) (xa3 : Int32) : Option (Int32 × Sto) :=
  chk σ a0 5 <|
  (gR σ a0 5 2).bind fun p1 =>
  (gR σ a0 5 0).bind fun p2 =>
  (gR σ p2 8 7).bind fun p3 =>
  (aaldR σ p3 4 xa1).bind fun p4 =>
  (gR σ a0 5 0).bind fun p5 =>
  (gR σ p5 8 6).bind fun p6 =>
  (gR σ a0 5 0).bind fun p7 =>
  (gI σ p7 8 1).bind fun x8 =>
  (F_X3_compose σ p1 p4 p6 xa1 xa2 x8).bind fun s9 =>
  if xa3 = 0 then (
    (gR s9 a0 5 2).bind fun p35 =>
    (gI s9 p35 3 3).bind fun x36 =>
    some (x36, s9)
  ) else (
    if xa3 = (1 : Int32) then (
      (gR s9 a0 5 2).bind fun p28 =>
      (gR s9 p28 3 5).bind fun p29 =>
      (gR s9 a0 5 0).bind fun p30 =>
      (gR s9 p30 8 7).bind fun p31 =>
      (aaldR s9 p31 4 xa2).bind fun p32 =>
      (gR s9 p32 6 1).bind fun p33 =>
      (F_X1_shared s9 p29 p33).bind fun x34 =>
      some (x34, s9)
    ) else (
      (gR s9 a0 5 3).bind fun p10 =>
      (gR s9 a0 5 0).bind fun p11 =>
      (gR s9 p11 8 7).bind fun p12 =>
      (aaldR s9 p12 4 xa1).bind fun p13 =>
      (gR s9 p13 6 1).bind fun p14 =>
      (F_X1_copyOf s9 p10 p14).bind fun s15 =>
      (gR s15 a0 5 3).bind fun p16 =>
      (gR s15 a0 5 0).bind fun p17 =>
      (gR s15 p17 8 7).bind fun p18 =>
      (aaldR s15 p18 4 xa2).bind fun p19 =>
      (gR s15 p19 6 1).bind fun p20 =>
      (F_X1_removeAll s15 p16 p20).bind fun s21 =>
      (gR s21 a0 5 3).bind fun p22 =>
      (gR s21 a0 5 2).bind fun p23 =>
      (gR s21 p23 3 5).bind fun p24 =>
      (F_X1_removeAll s21 p22 p24).bind fun s25 =>
      (gR s25 a0 5 3).bind fun p26 =>
      (F_X1_size s25 p26).bind fun x27 =>
      some (x27, s25)
    )
  )
def F_X5_findLongestRows_L46 (pL0 : Nat) (pL2 : Nat) (xL3 : Int32) : Nat → Int32 → Sto → (Sto → Option Sto) → Option Sto
  | 0, _, _, _ => none
  | f + 1, xL4, sL, k95 =>
    if xL3 ≤ xL4 then (
      k95 sL
    ) else (
      (F_X2_isAhead sL pL2 xL4 xL3).bind fun x9 =>
      if x9 = 0 then (
        F_X5_findLongestRows_L46 pL0 pL2 xL3 f (xL4 + (1 : Int32)) sL k95
      ) else (
        (gR sL pL2 2 7).bind fun p10 =>
        (iald sL p10 xL4).bind fun x11 =>
        (gR sL pL2 2 7).bind fun p12 =>
        (iald sL p12 xL3).bind fun x13 =>
        if x11 = (x13 - (1 : Int32)) then (
          (gR sL pL0 5 3).bind fun p14 =>
          (F_X1_insert sL p14 xL4).bind fun s15 =>
          F_X5_findLongestRows_L46 pL0 pL2 xL3 f (xL4 + (1 : Int32)) s15 k95
        ) else (
          F_X5_findLongestRows_L46 pL0 pL2 xL3 f (xL4 + (1 : Int32)) sL k95
        )
      )
    )
def F_X5_findLongestRows_L25 (pL0 : Nat) (pL2 : Nat) : Nat → Int32 → Sto → (Sto → Option Sto) → Option Sto
  | 0, _, _, _ => none
  | f + 1, xL3, sL, k101 =>
    if xL3 ≤ 0 then (
      k101 sL
    ) else (
      (gR sL pL0 5 3).bind fun p7 =>
      (F_X1_holds sL p7 xL3).bind fun x8 =>
      if x8 = 0 then (
        F_X5_findLongestRows_L25 pL0 pL2 f (xL3 + (-1 : Int32)) sL k101
      ) else (
        F_X5_findLongestRows_L46 pL0 pL2 xL3 fu (0 : Int32) sL
          (fun s16 =>
            F_X5_findLongestRows_L25 pL0 pL2 f (xL3 + (-1 : Int32)) s16 k101
          )
      )
    )
def F_X5_findLongestRows (σ : Sto) (a0 : Nat) (xa1 : Int32) : Option Sto :=
  chk σ a0 5 <|
  (gR σ a0 5 0).bind fun p1 =>
  (gR σ p1 8 6).bind fun p2 =>
  (gR σ a0 5 3).bind fun p3 =>
  (F_X1_clear σ p3).bind fun s4 =>
  (gR s4 a0 5 3).bind fun p5 =>
  (F_X1_insert s4 p5 xa1).bind fun s6 =>
  F_X5_findLongestRows_L25 a0 p2 fu xa1 s6
    (fun s17 =>
      some s17
    )
def F_X5_inLongestRow_L35 (sL : Sto) (pL0 : Nat) (xL1 : Int32) (xL2 : Int32) : Nat → Int32 → Int32 → Int32 → (Int32 → Option (Int32 × Sto)) → Option (Int32 × Sto)
  | 0, _, _, _, _ => none
  | f + 1, xL3, xL4, xL5, k112 =>
    if xL1 < xL5 then (
      k112 xL3
    ) else (
      if xL2 < xL4 then (
        k112 xL3
      ) else (
        (gR sL pL0 5 3).bind fun p6 =>
        (F_X1_holds sL p6 xL5).bind fun x7 =>
        if x7 = 0 then (
          F_X5_inLongestRow_L35 sL pL0 xL1 xL2 f xL3 xL4 (xL5 + (1 : Int32)) k112
        ) else (
          (gR sL pL0 5 0).bind fun p8 =>
          (gR sL p8 8 6).bind fun p9 =>
          (gR sL p9 2 7).bind fun p10 =>
          (iald sL p10 xL5).bind fun x11 =>
          if x11 = (xL4 + (1 : Int32)) then (
            if xL3 = (-1 : Int32) then (
              F_X5_inLongestRow_L35 sL pL0 xL1 xL2 f xL5 (xL4 + (1 : Int32)) (xL5 + (1 : Int32)) k112
            ) else (
              (gR sL pL0 5 0).bind fun p12 =>
              (gR sL p12 8 6).bind fun p13 =>
              (F_X2_isAhead sL p13 xL3 xL5).bind fun x14 =>
              if x14 = 0 then (
                F_X5_inLongestRow_L35 sL pL0 xL1 xL2 f xL3 xL4 (xL5 + (1 : Int32)) k112
              ) else (
                F_X5_inLongestRow_L35 sL pL0 xL1 xL2 f xL5 (xL4 + (1 : Int32)) (xL5 + (1 : Int32)) k112
              )
            )
          ) else (
            F_X5_inLongestRow_L35 sL pL0 xL1 xL2 f xL3 xL4 (xL5 + (1 : Int32)) k112
          )
        )
      )
    )
def F_X5_inLongestRow (σ : Sto) (a0 : Nat) (xa1 : Int32) (xa2 : Int32) : Option (Int32 × Sto) :=
  chk σ a0 5 <|
  if xa2 < 0 then (
    some ((-1 : Int32), σ)
  ) else (
    (gR σ a0 5 0).bind fun p1 =>
    (gR σ p1 8 6).bind fun p2 =>
    (gR σ p2 2 7).bind fun p3 =>
    (iald σ p3 xa1).bind fun x4 =>
    if xa2 < x4 then (
      (F_X5_findLongestRows σ a0 xa1).bind fun s5 =>
      F_X5_inLongestRow_L35 s5 a0 xa1 xa2 fu (-1 : Int32) (0 : Int32) (0 : Int32)
        (fun x15 =>
          some (x15, s5)
        )
    ) else (
      some ((-1 : Int32), σ)
    )
  )
def F_X6_copyLog (σ : Sto) (a0 : Nat) (pa1 : Nat) : Option Sto :=
  chk σ a0 6 <|
  (gI σ pa1 6 3).bind fun x1 =>
  (sV σ a0 6 3 (.int x1)).bind fun s2 =>
  (gR s2 pa1 6 2).bind fun p3 =>
  (gR s2 a0 6 2).bind fun p4 =>
  (gI s2 a0 6 3).bind fun x5 =>
  (acp s2 p3 (0 : Int32) p4 (0 : Int32) x5).bind fun s6 =>
  some s6
def F_X6_copyOf (σ : Sto) (a0 : Nat) (pa1 : Nat) : Option Sto :=
  chk σ a0 6 <|
  (gR σ a0 6 0).bind fun p1 =>
  (gR σ pa1 6 0).bind fun p2 =>
  (F_X1_copyOf σ p1 p2).bind fun s3 =>
  (gR s3 a0 6 1).bind fun p4 =>
  (gR s3 pa1 6 1).bind fun p5 =>
  (F_X1_copyOf s3 p4 p5).bind fun s6 =>
  (F_X6_copyLog s6 a0 pa1).bind fun s7 =>
  (gR s7 pa1 6 4).bind fun p8 =>
  (gR s7 a0 6 4).bind fun p9 =>
  (acp s7 p8 (0 : Int32) p9 (0 : Int32) (25 : Int32)).bind fun s10 =>
  (gR s10 pa1 6 5).bind fun p11 =>
  (gR s10 a0 6 5).bind fun p12 =>
  (acp s10 p11 (0 : Int32) p12 (0 : Int32) (120 : Int32)).bind fun s13 =>
  (gR s13 pa1 6 6).bind fun p14 =>
  (gR s13 a0 6 6).bind fun p15 =>
  (acp s13 p14 (0 : Int32) p15 (0 : Int32) (120 : Int32)).bind fun s16 =>
  some s16
def F_X5_allLogsAreEmpty_L2 (sL : Sto) (pL0 : Nat) : Nat → Int32 → (Option Int32) → Option Int32
  | 0, _, _ => none
  | f + 1, xL1, k33 =>
    (gR sL pL0 5 0).bind fun p1 =>
    (gI sL p1 8 0).bind fun x2 =>
    if x2 ≤ xL1 then (
      k33
    ) else (
      (gR sL pL0 5 1).bind fun p3 =>
      (aaldR sL p3 4 xL1).bind fun p4 =>
      (gI sL p4 6 3).bind fun x5 =>
      if x5 ≤ 0 then (
        F_X5_allLogsAreEmpty_L2 sL pL0 f (xL1 + (1 : Int32)) k33
      ) else (
        some (0 : Int32)
      )
    )
def F_X5_allLogsAreEmpty (σ : Sto) (a0 : Nat) : Option Int32 :=
  chk σ a0 5 <|
  F_X5_allLogsAreEmpty_L2 σ a0 fu (0 : Int32)
    (
      some (1 : Int32)
    )
def F_X5_allHaveAlike_L2 (sL : Sto) (pL0 : Nat) : Nat → Int32 → (Option Int32) → Option Int32
  | 0, _, _ => none
  | f + 1, xL1, k45 =>
    (gR sL pL0 5 0).bind fun p1 =>
    (gI sL p1 8 0).bind fun x2 =>
    if x2 ≤ xL1 then (
      k45
    ) else (
      (gR sL pL0 5 1).bind fun p3 =>
      (aaldR sL p3 4 xL1).bind fun p4 =>
      (gR sL p4 6 1).bind fun p5 =>
      (gR sL pL0 5 1).bind fun p6 =>
      (aaldR sL p6 4 (0 : Int32)).bind fun p7 =>
      (gR sL p7 6 1).bind fun p8 =>
      (F_X1_sameAs sL p5 p8).bind fun x9 =>
      if x9 = 0 then (
        some (0 : Int32)
      ) else (
        F_X5_allHaveAlike_L2 sL pL0 f (xL1 + (1 : Int32)) k45
      )
    )
def F_X5_allHaveAlike (σ : Sto) (a0 : Nat) : Option Int32 :=
  chk σ a0 5 <|
  F_X5_allHaveAlike_L2 σ a0 fu (1 : Int32)
    (
      some (1 : Int32)
    )
def F_X8_nextSite (σ : Sto) (a0 : Nat) (xa1 : Int32) : Option Int32 :=
  chk σ a0 8 <|
  (gI σ a0 8 0).bind fun x1 =>
  if x1 ≤ (xa1 + (1 : Int32)) then (
    some (0 : Int32)
  ) else (
    some (xa1 + (1 : Int32))
  )
def F_X6_appendToLog (σ : Sto) (a0 : Nat) (xa1 : Int32) : Option Sto :=
  chk σ a0 6 <|
  (gI σ a0 6 3).bind fun x1 =>
  if (120 : Int32) ≤ x1 then (
    some σ
  ) else (
    (gR σ a0 6 2).bind fun p2 =>
    (gI σ a0 6 3).bind fun x3 =>
    (iast σ p2 x3 xa1).bind fun s4 =>
    (gI s4 a0 6 3).bind fun x5 =>
    (sV s4 a0 6 3 (.int (x5 + (1 : Int32)))).bind fun s6 =>
    some s6
  )
def F_X6_gain (σ : Sto) (a0 : Nat) (xa1 : Int32) (xa2 : Int32) (xa3 : Int32) : Option Sto :=
  chk σ a0 6 <|
  (gR σ a0 6 1).bind fun p1 =>
  (F_X1_holds σ p1 xa1).bind fun x2 =>
  if x2 = 0 then (
    (gR σ a0 6 1).bind fun p3 =>
    (F_X1_insert σ p3 xa1).bind fun s4 =>
    (gR s4 a0 6 5).bind fun p5 =>
    (iast s4 p5 xa1 xa2).bind fun s6 =>
    (gR s6 a0 6 6).bind fun p7 =>
    (iast s6 p7 xa1 xa3).bind fun s8 =>
    some s8
  ) else (
    some σ
  )
def F_X6_changeView_L2 (pL0 : Nat) (pL1 : Nat) : Nat → Int32 → Sto → (Sto → Option Sto) → Option Sto
  | 0, _, _, _ => none
  | f + 1, xL3, sL, k42 =>
    (gI sL pL0 6 3).bind fun x1 =>
    if x1 ≤ xL3 then (
      k42 sL
    ) else (
      (gR sL pL0 6 2).bind fun p2 =>
      (iald sL p2 xL3).bind fun x3 =>
      (F_X2_isOut sL pL1 x3).bind fun x4 =>
      if x4 = 0 then (
        (gR sL pL0 6 0).bind fun p5 =>
        (gR sL pL0 6 2).bind fun p6 =>
        (iald sL p6 xL3).bind fun x7 =>
        (F_X1_insert sL p5 x7).bind fun s8 =>
        F_X6_changeView_L2 pL0 pL1 f (xL3 + (1 : Int32)) s8 k42
      ) else (
        F_X6_changeView_L2 pL0 pL1 f (xL3 + (1 : Int32)) sL k42
      )
    )
def F_X6_changeView_L44 (pL0 : Nat) (pL1 : Nat) : Nat → Int32 → Sto → (Sto → Option Sto) → Option Sto
  | 0, _, _, _ => none
  | f + 1, xL3, sL, k89 =>
    (gI sL pL0 6 3).bind fun x10 =>
    if x10 ≤ xL3 then (
      k89 sL
    ) else (
      (gR sL pL0 6 2).bind fun p11 =>
      (iald sL p11 xL3).bind fun x12 =>
      (F_X2_isOut sL pL1 x12).bind fun x13 =>
      if x13 = 0 then (
        F_X6_changeView_L44 pL0 pL1 f (xL3 + (1 : Int32)) sL k89
      ) else (
        (gR sL pL0 6 0).bind fun p14 =>
        (gR sL pL1 2 4).bind fun p15 =>
        (gR sL pL0 6 2).bind fun p16 =>
        (iald sL p16 xL3).bind fun x17 =>
        (iald sL p15 x17).bind fun x18 =>
        (F_X1_remove sL p14 x18).bind fun s19 =>
        F_X6_changeView_L44 pL0 pL1 f (xL3 + (1 : Int32)) s19 k89
      )
    )
def F_X6_changeView (σ : Sto) (a0 : Nat) (pa1 : Nat) (xa2 : Int32) : Option Sto :=
  chk σ a0 6 <|
  F_X6_changeView_L2 a0 pa1 fu xa2 σ
    (fun s9 =>
      F_X6_changeView_L44 a0 pa1 fu xa2 s9
        (fun s20 =>
          some s20
        )
    )
def F_X6_raise (σ : Sto) (a0 : Nat) (xa1 : Int32) (xa2 : Int32) (xa3 : Int32) : Option Sto :=
  chk σ a0 6 <|
  (gR σ a0 6 4).bind fun p1 =>
  (gR σ a0 6 4).bind fun p2 =>
  (iald σ p2 ((xa1 * (5 : Int32)) + xa2)).bind fun x3 =>
  if xa3 ≤ x3 then (
    (gR σ a0 6 4).bind fun p4 =>
    (iald σ p4 ((xa1 * (5 : Int32)) + xa2)).bind fun x5 =>
    (iast σ p1 ((xa1 * (5 : Int32)) + xa2) x5).bind fun s6 =>
    some s6
  ) else (
    (iast σ p1 ((xa1 * (5 : Int32)) + xa2) xa3).bind fun s7 =>
    some s7
  )
def F_X6_raiseRow_L3 (pL0 : Nat) (xL1 : Int32) (pL2 : Nat) (xL3 : Int32) : Nat → Int32 → Sto → (Sto → Option Sto) → Option Sto
  | 0, _, _, _ => none
  | f + 1, xL4, sL, k64 =>
    if (5 : Int32) ≤ xL4 then (
      k64 sL
    ) else (
      (iald sL pL2 ((xL3 * (5 : Int32)) + xL4)).bind fun x1 =>
      (gR sL pL0 6 4).bind fun p2 =>
      (gR sL pL0 6 4).bind fun p3 =>
      (iald sL p3 ((xL1 * (5 : Int32)) + xL4)).bind fun x4 =>
      if x1 ≤ x4 then (
        (gR sL pL0 6 4).bind fun p5 =>
        (iald sL p5 ((xL1 * (5 : Int32)) + xL4)).bind fun x6 =>
        (iast sL p2 ((xL1 * (5 : Int32)) + xL4) x6).bind fun s7 =>
        F_X6_raiseRow_L3 pL0 xL1 pL2 xL3 f (xL4 + (1 : Int32)) s7 k64
      ) else (
        (iast sL p2 ((xL1 * (5 : Int32)) + xL4) x1).bind fun s8 =>
        F_X6_raiseRow_L3 pL0 xL1 pL2 xL3 f (xL4 + (1 : Int32)) s8 k64
      )
    )
def F_X6_raiseRow (σ : Sto) (a0 : Nat) (xa1 : Int32) (pa2 : Nat) (xa3 : Int32) : Option Sto :=
  chk σ a0 6 <|
  F_X6_raiseRow_L3 a0 xa1 pa2 xa3 fu (0 : Int32) σ
    (fun s9 =>
      some s9
    )
def F_X6_learn_L120 (pL0 : Nat) (pL1 : Nat) : Nat → Int32 → Sto → (Sto → Option Sto) → Option Sto
  | 0, _, _, _ => none
  | f + 1, xL3, sL, k141 =>
    if (5 : Int32) ≤ xL3 then (
      k141 sL
    ) else (
      (gR sL pL1 3 6).bind fun p7 =>
      (F_X6_raiseRow sL pL0 xL3 p7 xL3).bind fun s8 =>
      F_X6_learn_L120 pL0 pL1 f (xL3 + (1 : Int32)) s8 k141
    )
def F_X6_learn_L10 (pL0 : Nat) (pL1 : Nat) (pL2 : Nat) : Nat → Int32 → Sto → (Sto → Option Sto) → Option Sto
  | 0, _, _, _ => none
  | f + 1, xL3, sL, k76 =>
    (gI sL pL1 3 3).bind fun x14 =>
    if x14 ≤ xL3 then (
      k76 sL
    ) else (
      (gR sL pL1 3 4).bind fun p15 =>
      (iald sL p15 xL3).bind fun x16 =>
      (gI sL pL1 3 1).bind fun x17 =>
      (gR sL pL2 2 2).bind fun p18 =>
      (iald sL p18 x16).bind fun x19 =>
      (gR sL pL2 2 3).bind fun p20 =>
      (iald sL p20 x16).bind fun x21 =>
      (F_X6_raise sL pL0 x17 x19 x21).bind fun s22 =>
      (gI s22 pL1 3 0).bind fun x23 =>
      (gR s22 pL2 2 2).bind fun p24 =>
      (iald s22 p24 x16).bind fun x25 =>
      (gR s22 pL2 2 3).bind fun p26 =>
      (iald s22 p26 x16).bind fun x27 =>
      (F_X6_raise s22 pL0 x23 x25 x27).bind fun s28 =>
      F_X6_learn_L10 pL0 pL1 pL2 f (xL3 + (1 : Int32)) s28 k76
    )
def F_X6_learn (σ : Sto) (a0 : Nat) (pa1 : Nat) (pa2 : Nat) : Option Sto :=
  chk σ a0 6 <|
  (gI σ pa1 3 2).bind fun x1 =>
  if x1 = (2 : Int32) then (
    F_X6_learn_L10 a0 pa1 pa2 fu (0 : Int32) σ
      (fun s29 =>
        some s29
      )
  ) else (
    (gI σ pa1 3 1).bind fun x2 =>
    (gR σ pa1 3 6).bind fun p3 =>
    (gI σ pa1 3 0).bind fun x4 =>
    (F_X6_raiseRow σ a0 x2 p3 x4).bind fun s5 =>
    (gI s5 pa1 3 2).bind fun x6 =>
    if x6 = (1 : Int32) then (
      (gI s5 pa1 3 0).bind fun x10 =>
      (gR s5 pa1 3 6).bind fun p11 =>
      (gI s5 pa1 3 0).bind fun x12 =>
      (F_X6_raiseRow s5 a0 x10 p11 x12).bind fun s13 =>
      some s13
    ) else (
      F_X6_learn_L120 a0 pa1 fu (0 : Int32) s5
        (fun s9 =>
          some s9
        )
    )
  )
def F_X6_isKnownToAll_L8 (sL : Sto) (pL0 : Nat) (pL1 : Nat) (xL2 : Int32) (xL3 : Int32) : Nat → Int32 → (Option Int32) → Option Int32
  | 0, _, _ => none
  | f + 1, xL4, k40 =>
    if (xL3 * (5 : Int32)) ≤ xL4 then (
      k40
    ) else (
      (gR sL pL0 6 4).bind fun p3 =>
      (iald sL p3 xL4).bind fun x4 =>
      (gR sL pL1 2 3).bind fun p5 =>
      (iald sL p5 xL2).bind fun x6 =>
      if x6 ≤ x4 then (
        F_X6_isKnownToAll_L8 sL pL0 pL1 xL2 xL3 f (xL4 + (5 : Int32)) k40
      ) else (
        some (0 : Int32)
      )
    )
def F_X6_isKnownToAll (σ : Sto) (a0 : Nat) (pa1 : Nat) (xa2 : Int32) (xa3 : Int32) : Option Int32 :=
  chk σ a0 6 <|
  (gR σ pa1 2 2).bind fun p1 =>
  (iald σ p1 xa2).bind fun x2 =>
  F_X6_isKnownToAll_L8 σ a0 pa1 xa2 xa3 fu x2
    (
      some (1 : Int32)
    )
def F_X6_dropKnownToAll_L5 (pL0 : Nat) (pL1 : Nat) (xL2 : Int32) : Nat → Int32 → Int32 → Sto → (Int32 → Sto → Option Sto) → Option Sto
  | 0, _, _, _, _ => none
  | f + 1, xL3, xL4, sL, k52 =>
    (gI sL pL0 6 3).bind fun x1 =>
    if x1 ≤ xL4 then (
      k52 xL3 sL
    ) else (
      (gR sL pL0 6 2).bind fun p2 =>
      (iald sL p2 xL4).bind fun x3 =>
      (F_X6_isKnownToAll sL pL0 pL1 x3 xL2).bind fun x4 =>
      if x4 = 0 then (
        (gR sL pL0 6 2).bind fun p5 =>
        (gR sL pL0 6 2).bind fun p6 =>
        (iald sL p6 xL4).bind fun x7 =>
        (iast sL p5 xL3 x7).bind fun s8 =>
        F_X6_dropKnownToAll_L5 pL0 pL1 xL2 f (xL3 + (1 : Int32)) (xL4 + (1 : Int32)) s8 k52
      ) else (
        F_X6_dropKnownToAll_L5 pL0 pL1 xL2 f xL3 (xL4 + (1 : Int32)) sL k52
      )
    )
def F_X6_dropKnownToAll (σ : Sto) (a0 : Nat) (pa1 : Nat) (xa2 : Int32) : Option Sto :=
  chk σ a0 6 <|
  F_X6_dropKnownToAll_L5 a0 pa1 xa2 fu (0 : Int32) (0 : Int32) σ
    (fun x9 s10 =>
      (sV s10 a0 6 3 (.int x9)).bind fun s11 =>
      some s11
    )
def F_X6_receive_L9 (pL0 : Nat) (pL1 : Nat) (pL2 : Nat) : Nat → Int32 → Sto → (Sto → Option (Int32 × Sto)) → Option (Int32 × Sto)
  | 0, _, _, _ => none
  | f + 1, xL6, sL, k54 =>
    (gI sL pL1 3 3).bind fun x2 =>
    if x2 ≤ xL6 then (
      k54 sL
    ) else (
      (gI sL pL1 3 1).bind fun x3 =>
      (gR sL pL1 3 4).bind fun p4 =>
      (iald sL p4 xL6).bind fun x5 =>
      (F_X6_isKnown sL pL0 pL2 x3 x5).bind fun x6 =>
      if x6 = 0 then (
        (gR sL pL1 3 4).bind fun p7 =>
        (iald sL p7 xL6).bind fun x8 =>
        (F_X6_appendToLog sL pL0 x8).bind fun s9 =>
        F_X6_receive_L9 pL0 pL1 pL2 f (xL6 + (1 : Int32)) s9 k54
      ) else (
        F_X6_receive_L9 pL0 pL1 pL2 f (xL6 + (1 : Int32)) sL k54
      )
    )
def F_X6_receive_L67 (pL0 : Nat) (pL1 : Nat) (xL4 : Int32) : Nat → Int32 → Sto → (Sto → Option (Int32 × Sto)) → Option (Int32 × Sto)
  | 0, _, _, _ => none
  | f + 1, xL7, sL, k99 =>
    (gI sL pL0 6 3).bind fun x12 =>
    if x12 ≤ xL7 then (
      k99 sL
    ) else (
      (gR sL pL0 6 2).bind fun p13 =>
      (iald sL p13 xL7).bind fun x14 =>
      (gI sL pL1 3 0).bind fun x15 =>
      (F_X6_gain sL pL0 x14 xL4 x15).bind fun s16 =>
      F_X6_receive_L67 pL0 pL1 xL4 f (xL7 + (1 : Int32)) s16 k99
    )
def F_X6_receive (σ : Sto) (a0 : Nat) (pa1 : Nat) (pa2 : Nat) (xa3 : Int32) (xa4 : Int32) : Option (Int32 × Sto) :=
  chk σ a0 6 <|
  (gI σ a0 6 3).bind fun x1 =>
  F_X6_receive_L9 a0 pa1 pa2 fu (0 : Int32) σ
    (fun s10 =>
      (gI s10 a0 6 3).bind fun x11 =>
      F_X6_receive_L67 a0 pa1 xa4 fu x1 s10
        (fun s17 =>
          (F_X6_changeView s17 a0 pa2 x1).bind fun s18 =>
          (F_X6_learn s18 a0 pa1 pa2).bind fun s19 =>
          (F_X6_dropKnownToAll s19 a0 pa2 xa3).bind fun s20 =>
          some ((x11 - x1), s20)
        )
    )
def F_X5_tellNext (σ : Sto) (a0 : Nat) (xa1 : Int32) : Option (Int32 × Sto) :=
  chk σ a0 5 <|
  (gR σ a0 5 0).bind fun p1 =>
  (F_X8_nextSite σ p1 xa1).bind fun x2 =>
  (gR σ a0 5 2).bind fun p3 =>
  (gR σ a0 5 1).bind fun p4 =>
  (aaldR σ p4 4 xa1).bind fun p5 =>
  (gR σ a0 5 0).bind fun p6 =>
  (gR σ p6 8 6).bind fun p7 =>
  (gR σ a0 5 0).bind fun p8 =>
  (gI σ p8 8 1).bind fun x9 =>
  (F_X3_compose σ p3 p5 p7 xa1 x2 x9).bind fun s10 =>
  (gR s10 a0 5 1).bind fun p11 =>
  (aaldR s10 p11 4 x2).bind fun p12 =>
  (gR s10 a0 5 2).bind fun p13 =>
  (gR s10 a0 5 0).bind fun p14 =>
  (gR s10 p14 8 6).bind fun p15 =>
  (gR s10 a0 5 0).bind fun p16 =>
  (gI s10 p16 8 0).bind fun x17 =>
  (gR s10 a0 5 0).bind fun p18 =>
  (gI s10 p18 8 2).bind fun x19 =>
  wb (F_X6_receive s10 p12 p13 p15 x17 x19) fun x21 s20 =>
  some (x21, s20)
def F_X5_playGossip_L2 (pL0 : Nat) : Nat → Int32 → Sto → (Sto → Option (Int32 × Sto)) → Option (Int32 × Sto)
  | 0, _, _, _ => none
  | f + 1, xL2, sL, k37 =>
    (gR sL pL0 5 0).bind fun p1 =>
    (gI sL p1 8 0).bind fun x2 =>
    if x2 ≤ xL2 then (
      k37 sL
    ) else (
      (gR sL pL0 5 1).bind fun p3 =>
      (aaldR sL p3 4 xL2).bind fun p4 =>
      (gR sL pL0 5 0).bind fun p5 =>
      (gR sL p5 8 7).bind fun p6 =>
      (aaldR sL p6 4 xL2).bind fun p7 =>
      (F_X6_copyOf sL p4 p7).bind fun s8 =>
      F_X5_playGossip_L2 pL0 f (xL2 + (1 : Int32)) s8 k37
    )
def F_X5_playGossip_L92 (pL0 : Nat) (xL4 : Int32) : Nat → Int32 → Int32 → Int32 → Sto → (Int32 → Int32 → Sto → Option (Int32 × Sto)) → Option (Int32 × Sto)
  | 0, _, _, _, _, _ => none
  | f + 1, xL2, xL3, xL6, sL, k157 =>
    (gR sL pL0 5 0).bind fun p11 =>
    (gI sL p11 8 0).bind fun x12 =>
    if x12 ≤ xL6 then (
      k157 xL2 xL3 sL
    ) else (
      if (12 : Int32) ≤ xL4 then (
        k157 xL2 xL3 sL
      ) else (
        (gR sL pL0 5 0).bind fun p13 =>
        (gR sL pL0 5 0).bind fun p14 =>
        (F_X8_nextSite sL p14 xL6).bind fun x15 =>
        (F_X8_isCut sL p13 xL6 x15).bind fun x16 =>
        if x16 = 0 then (
          wb (F_X5_tellNext sL pL0 xL6) fun x18 s17 =>
          (gR s17 pL0 5 2).bind fun p19 =>
          (gI s17 p19 3 3).bind fun x20 =>
          F_X5_playGossip_L92 pL0 xL4 f (xL2 + x20) (xL3 + x18) (xL6 + (1 : Int32)) s17 k157
        ) else (
          F_X5_playGossip_L92 pL0 xL4 f xL2 xL3 (xL6 + (1 : Int32)) sL k157
        )
      )
    )
def F_X5_playGossip_L44 (pL0 : Nat) (xL1 : Int32) : Nat → Int32 → Int32 → Int32 → Sto → (Int32 → Int32 → Sto → Option (Int32 × Sto)) → Option (Int32 × Sto)
  | 0, _, _, _, _, _ => none
  | f + 1, xL2, xL3, xL4, sL, k163 =>
    if (12 : Int32) < xL4 then (
      k163 xL2 xL3 sL
    ) else (
      (F_X5_allLogsAreEmpty sL pL0).bind fun x10 =>
      if xL1 = 0 then (
        (F_X5_allHaveAlike sL pL0).bind fun x37 =>
        if x37 = 0 then (
          if xL1 = (1 : Int32) then (
            if x10 = 0 then (
              if x10 = 0 then (
                F_X5_playGossip_L92 pL0 xL4 fu xL2 xL3 (0 : Int32) sL
                  (fun x61 x62 s63 =>
                    F_X5_playGossip_L44 pL0 xL1 f x61 x62 (xL4 + (1 : Int32)) s63 k163
                  )
              ) else (
                k163 xL2 xL3 sL
              )
            ) else (
              some (xL4, sL)
            )
          ) else (
            if x10 = 0 then (
              F_X5_playGossip_L92 pL0 xL4 fu xL2 xL3 (0 : Int32) sL
                (fun x48 x49 s50 =>
                  F_X5_playGossip_L44 pL0 xL1 f x48 x49 (xL4 + (1 : Int32)) s50 k163
                )
            ) else (
              k163 xL2 xL3 sL
            )
          )
        ) else (
          some (xL4, sL)
        )
      ) else (
        if xL1 = (1 : Int32) then (
          if x10 = 0 then (
            if x10 = 0 then (
              F_X5_playGossip_L92 pL0 xL4 fu xL2 xL3 (0 : Int32) sL
                (fun x34 x35 s36 =>
                  F_X5_playGossip_L44 pL0 xL1 f x34 x35 (xL4 + (1 : Int32)) s36 k163
                )
            ) else (
              k163 xL2 xL3 sL
            )
          ) else (
            some (xL4, sL)
          )
        ) else (
          if x10 = 0 then (
            F_X5_playGossip_L92 pL0 xL4 fu xL2 xL3 (0 : Int32) sL
              (fun x21 x22 s23 =>
                F_X5_playGossip_L44 pL0 xL1 f x21 x22 (xL4 + (1 : Int32)) s23 k163
              )
          ) else (
            k163 xL2 xL3 sL
          )
        )
      )
    )
def F_X5_playGossip (σ : Sto) (a0 : Nat) (xa1 : Int32) : Option (Int32 × Sto) :=
  chk σ a0 5 <|
  F_X5_playGossip_L2 a0 fu (0 : Int32) σ
    (fun s9 =>
      F_X5_playGossip_L44 a0 xa1 fu (0 : Int32) (0 : Int32) (0 : Int32) s9
        (fun x64 x65 s66 =>
          if (1 : Int32) < xa1 then (
            if xa1 = (2 : Int32) then (
              some (x64, s66)
            ) else (
              some ((x64 - x65), s66)
            )
          ) else (
            some ((-1 : Int32), s66)
          )
        )
    )
def F_X5_reckonWith (σ : Sto) (a0 : Nat) (xa1 : Int32) (xa2 : Int32) : Option (Int32 × Sto) :=
  chk σ a0 5 <|
  (gR σ a0 5 0).bind fun p1 =>
  (gR σ p1 8 7).bind fun p2 =>
  (aaldR σ p2 4 xa1).bind fun p3 =>
  (gR σ a0 5 0).bind fun p4 =>
  (gR σ p4 8 7).bind fun p5 =>
  (gR σ a0 5 1).bind fun p6 =>
  (aaldR σ p6 4 xa1).bind fun p7 =>
  (aast σ p5 4 xa1 p7).bind fun s8 =>
  if xa2 = (0 : Int32) then (
    (gR s8 a0 5 1).bind fun p9 =>
    (aaldR s8 p9 4 xa1).bind fun p10 =>
    (gR s8 p10 6 1).bind fun p11 =>
    (F_X1_size s8 p11).bind fun x12 =>
    (gR s8 a0 5 0).bind fun p13 =>
    (gR s8 p13 8 7).bind fun p14 =>
    (aast s8 p14 4 xa1 p3).bind fun s15 =>
    some (x12, s15)
  ) else (
  if xa2 = (1 : Int32) then (
    wb (F_X5_lostTo s8 a0 xa1) fun x17 s16 =>
    (gR s16 a0 5 0).bind fun p18 =>
    (gR s16 p18 8 7).bind fun p19 =>
    (aast s16 p19 4 xa1 p3).bind fun s20 =>
    some (x17, s20)
  ) else (
  if xa2 = (2 : Int32) then (
    wb (F_X5_overstatedAt s8 a0 xa1) fun x22 s21 =>
    (gR s21 a0 5 0).bind fun p23 =>
    (gR s21 p23 8 7).bind fun p24 =>
    (aast s21 p24 4 xa1 p3).bind fun s25 =>
    some (x22, s25)
  ) else (
    wb (F_X5_overstatedCells s8 a0) fun x27 s26 =>
    (gR s26 a0 5 0).bind fun p28 =>
    (gR s26 p28 8 7).bind fun p29 =>
    (aast s26 p29 4 xa1 p3).bind fun s30 =>
    some (x27, s30)
  )))
def F_X5_ifFallen (σ : Sto) (a0 : Nat) (xa1 : Int32) (xa2 : Int32) : Option (Int32 × Sto) :=
  chk σ a0 5 <|
  (gR σ a0 5 1).bind fun p1 =>
  (aaldR σ p1 4 xa1).bind fun p2 =>
  (gR σ a0 5 0).bind fun p3 =>
  (gR σ p3 8 8).bind fun p4 =>
  (aaldR σ p4 4 xa1).bind fun p5 =>
  (F_X6_copyOf σ p2 p5).bind fun s6 =>
  wb (F_X5_reckonWith s6 a0 xa1 xa2) fun x8 s7 =>
  some (x8, s7)
def F_X6_adopt_L19 (pL0 : Nat) (pL1 : Nat) (xL3 : Int32) (xL5 : Int32) : Nat → Int32 → Sto → (Sto → Option Sto) → Option Sto
  | 0, _, _, _ => none
  | f + 1, xL6, sL, k53 =>
    if (120 : Int32) ≤ xL6 then (
      k53 sL
    ) else (
      (gR sL pL1 6 1).bind fun p5 =>
      (F_X1_holds sL p5 xL6).bind fun x6 =>
      if x6 = 0 then (
        F_X6_adopt_L19 pL0 pL1 xL3 xL5 f (xL6 + (1 : Int32)) sL k53
      ) else (
        (F_X6_gain sL pL0 xL6 xL5 xL3).bind fun s7 =>
        F_X6_adopt_L19 pL0 pL1 xL3 xL5 f (xL6 + (1 : Int32)) s7 k53
      )
    )
def F_X6_adopt (σ : Sto) (a0 : Nat) (pa1 : Nat) (xa2 : Int32) (xa3 : Int32) (xa4 : Int32) (xa5 : Int32) : Option Sto :=
  chk σ a0 6 <|
  (gR σ a0 6 0).bind fun p1 =>
  (gR σ pa1 6 0).bind fun p2 =>
  (F_X1_copyOf σ p1 p2).bind fun s3 =>
  (F_X6_copyLog s3 a0 pa1).bind fun s4 =>
  F_X6_adopt_L19 a0 pa1 xa3 xa5 fu (0 : Int32) s4
    (fun s8 =>
      (gR s8 a0 6 1).bind fun p9 =>
      (gR s8 pa1 6 1).bind fun p10 =>
      (F_X1_copyOf s8 p9 p10).bind fun s11 =>
      (gR s11 pa1 6 4).bind fun p12 =>
      (gR s11 a0 6 4).bind fun p13 =>
      (acp s11 p12 (0 : Int32) p13 (0 : Int32) (25 : Int32)).bind fun s14 =>
      (gR s14 pa1 6 4).bind fun p15 =>
      (F_X9_cell xa3 (0 : Int32)).bind fun x16 =>
      (gR s14 a0 6 4).bind fun p17 =>
      (F_X9_cell xa2 (0 : Int32)).bind fun x18 =>
      (acp s14 p15 x16 p17 x18 (5 : Int32)).bind fun s19 =>
      (gR s19 a0 6 4).bind fun p20 =>
      (F_X9_cell xa2 xa2).bind fun x21 =>
      (iast s19 p20 x21 xa4).bind fun s22 =>
      some s22
    )
def F_X5_joinOnPaper (σ : Sto) (a0 : Nat) (xa1 : Int32) (xa2 : Int32) : Option Sto :=
  chk σ a0 5 <|
  (gR σ a0 5 1).bind fun p1 =>
  (aaldR σ p1 4 xa1).bind fun p2 =>
  (gR σ a0 5 0).bind fun p3 =>
  (gR σ p3 8 7).bind fun p4 =>
  (aaldR σ p4 4 xa2).bind fun p5 =>
  (gR σ a0 5 0).bind fun p6 =>
  (gR σ p6 8 6).bind fun p7 =>
  (gR σ p7 2 1).bind fun p8 =>
  (iald σ p8 xa1).bind fun x9 =>
  (gR σ a0 5 0).bind fun p10 =>
  (gI σ p10 8 2).bind fun x11 =>
  (F_X6_adopt σ p2 p5 xa1 xa2 x9 x11).bind fun s12 =>
  some s12
def F_X5_ifJoined (σ : Sto) (a0 : Nat) (xa1 : Int32) (xa2 : Int32) (xa3 : Int32) : Option (Int32 × Sto) :=
  chk σ a0 5 <|
  (F_X5_joinOnPaper σ a0 xa1 xa2).bind fun s1 =>
  wb (F_X5_reckonWith s1 a0 xa1 xa3) fun x3 s2 =>
  some (x3, s2)
def F_X5_bestToJoin_L21 (pL0 : Nat) (xL1 : Int32) (pL2 : Nat) : Nat → Int32 → Int32 → Int32 → Int32 → Sto → (Int32 → Sto → Option (Int32 × Sto)) → Option (Int32 × Sto)
  | 0, _, _, _, _, _, _ => none
  | f + 1, xL3, xL4, xL5, xL6, sL, k138 =>
    (gR sL pL0 5 0).bind fun p4 =>
    (gI sL p4 8 0).bind fun x5 =>
    if x5 ≤ xL6 then (
      k138 xL3 sL
    ) else (
      if xL6 = xL1 then (
        F_X5_bestToJoin_L21 pL0 xL1 pL2 f xL3 xL4 xL5 (xL6 + (1 : Int32)) sL k138
      ) else (
        (F_X5_joinOnPaper sL pL0 xL1 xL6).bind fun s6 =>
        (gR s6 pL0 5 0).bind fun p7 =>
        (gR s6 p7 8 7).bind fun p8 =>
        (gR s6 pL0 5 1).bind fun p9 =>
        (aaldR s6 p9 4 xL1).bind fun p10 =>
        (aast s6 p8 4 xL1 p10).bind fun s11 =>
        wb (F_X5_lostTo s11 pL0 xL1) fun x13 s12 =>
        (gR s12 pL0 5 0).bind fun p14 =>
        (gR s12 p14 8 7).bind fun p15 =>
        (aast s12 p15 4 xL1 pL2).bind fun s16 =>
        (gR s16 pL0 5 1).bind fun p17 =>
        (aaldR s16 p17 4 xL1).bind fun p18 =>
        (gR s16 p18 6 1).bind fun p19 =>
        (F_X1_size s16 p19).bind fun x20 =>
        if xL3 = (-1 : Int32) then (
          F_X5_bestToJoin_L21 pL0 xL1 pL2 f xL6 x13 x20 (xL6 + (1 : Int32)) s16 k138
        ) else (
          if x13 < xL4 then (
            F_X5_bestToJoin_L21 pL0 xL1 pL2 f xL6 x13 x20 (xL6 + (1 : Int32)) s16 k138
          ) else (
            if x13 = xL4 then (
              if x20 ≤ xL5 then (
                F_X5_bestToJoin_L21 pL0 xL1 pL2 f xL3 xL4 xL5 (xL6 + (1 : Int32)) s16 k138
              ) else (
                F_X5_bestToJoin_L21 pL0 xL1 pL2 f xL6 x13 x20 (xL6 + (1 : Int32)) s16 k138
              )
            ) else (
              F_X5_bestToJoin_L21 pL0 xL1 pL2 f xL3 xL4 xL5 (xL6 + (1 : Int32)) s16 k138
            )
          )
        )
      )
    )
def F_X5_bestToJoin (σ : Sto) (a0 : Nat) (xa1 : Int32) : Option (Int32 × Sto) :=
  chk σ a0 5 <|
  (gR σ a0 5 0).bind fun p1 =>
  (gR σ p1 8 7).bind fun p2 =>
  (aaldR σ p2 4 xa1).bind fun p3 =>
  F_X5_bestToJoin_L21 a0 xa1 p3 fu (-1 : Int32) (0 : Int32) (0 : Int32) (0 : Int32) σ
    (fun x21 s22 =>
      some (x21, s22)
    )
def F_X6_clear_L21 (pL0 : Nat) : Nat → Int32 → Sto → (Sto → Option Sto) → Option Sto
  | 0, _, _, _ => none
  | f + 1, xL1, sL, k40 =>
    if (25 : Int32) ≤ xL1 then (
      k40 sL
    ) else (
      (gR sL pL0 6 4).bind fun p6 =>
      (iast sL p6 xL1 (0 : Int32)).bind fun s7 =>
      F_X6_clear_L21 pL0 f (xL1 + (1 : Int32)) s7 k40
    )
def F_X6_clear (σ : Sto) (a0 : Nat) : Option Sto :=
  chk σ a0 6 <|
  (gR σ a0 6 0).bind fun p1 =>
  (F_X1_clear σ p1).bind fun s2 =>
  (gR s2 a0 6 1).bind fun p3 =>
  (F_X1_clear s2 p3).bind fun s4 =>
  (sV s4 a0 6 3 (.int (0 : Int32))).bind fun s5 =>
  F_X6_clear_L21 a0 fu (0 : Int32) s5
    (fun s8 =>
      some s8
    )
def F_X6_sitesThatKnow_L6 (sL : Sto) (pL0 : Nat) (pL1 : Nat) (xL2 : Int32) (xL3 : Int32) : Nat → Int32 → Int32 → (Int32 → Option Int32) → Option Int32
  | 0, _, _, _ => none
  | f + 1, xL4, xL5, k32 =>
    if xL3 ≤ xL5 then (
      k32 xL4
    ) else (
      (F_X6_isKnown sL pL0 pL1 xL5 xL2).bind fun x1 =>
      if x1 = 0 then (
        F_X6_sitesThatKnow_L6 sL pL0 pL1 xL2 xL3 f xL4 (xL5 + (1 : Int32)) k32
      ) else (
        F_X6_sitesThatKnow_L6 sL pL0 pL1 xL2 xL3 f (xL4 + (1 : Int32)) (xL5 + (1 : Int32)) k32
      )
    )
def F_X6_sitesThatKnow (σ : Sto) (a0 : Nat) (pa1 : Nat) (xa2 : Int32) (xa3 : Int32) : Option Int32 :=
  chk σ a0 6 <|
  F_X6_sitesThatKnow_L6 σ a0 pa1 xa2 xa3 fu (0 : Int32) (0 : Int32)
    (fun x2 =>
      some x2
    )
def F_X6_logHolds_L2 (sL : Sto) (pL0 : Nat) (xL1 : Int32) : Nat → Int32 → (Option Int32) → Option Int32
  | 0, _, _ => none
  | f + 1, xL2, k28 =>
    (gI sL pL0 6 3).bind fun x1 =>
    if x1 ≤ xL2 then (
      k28
    ) else (
      (gR sL pL0 6 2).bind fun p2 =>
      (iald sL p2 xL2).bind fun x3 =>
      if x3 = xL1 then (
        some (1 : Int32)
      ) else (
        F_X6_logHolds_L2 sL pL0 xL1 f (xL2 + (1 : Int32)) k28
      )
    )
def F_X6_logHolds (σ : Sto) (a0 : Nat) (xa1 : Int32) : Option Int32 :=
  chk σ a0 6 <|
  F_X6_logHolds_L2 σ a0 xa1 fu (0 : Int32)
    (
      some (0 : Int32)
    )
def F_X6_ownEvent (σ : Sto) (a0 : Nat) (pa1 : Nat) (xa2 : Int32) : Option Sto :=
  chk σ a0 6 <|
  (gR σ pa1 2 2).bind fun p1 =>
  (iald σ p1 xa2).bind fun x2 =>
  (gR σ a0 6 4).bind fun p3 =>
  (F_X9_cell x2 x2).bind fun x4 =>
  (gR σ pa1 2 3).bind fun p5 =>
  (iald σ p5 xa2).bind fun x6 =>
  (iast σ p3 x4 x6).bind fun s7 =>
  (gR s7 pa1 2 6).bind fun p8 =>
  (iald s7 p8 xa2).bind fun x9 =>
  (F_X6_gain s7 a0 xa2 x9 x2).bind fun s10 =>
  (F_X6_appendToLog s10 a0 xa2).bind fun s11 =>
  some s11
def F_X7_init (σ : Sto) (a0 : Nat) : Option Sto :=
  nw_ σ (.inr (0, ((32 : Int32).toNatClampNeg, .inl (fun _ => 0)))) (32 : Int32).toNatClampNeg fun p2 s1 =>
  (sV s1 a0 7 2 (.ref p2)).bind fun s3 =>
  nw_ s3 (.inr (0, ((32 : Int32).toNatClampNeg, .inl (fun _ => 0)))) (32 : Int32).toNatClampNeg fun p5 s4 =>
  (sV s4 a0 7 3 (.ref p5)).bind fun s6 =>
  nw_ s6 (.inr (0, ((32 : Int32).toNatClampNeg, .inl (fun _ => 0)))) (32 : Int32).toNatClampNeg fun p8 s7 =>
  (sV s7 a0 7 4 (.ref p8)).bind fun s9 =>
  nw_ s9 (.inr (0, ((32 : Int32).toNatClampNeg, .inl (fun _ => 0)))) (32 : Int32).toNatClampNeg fun p11 s10 =>
  (sV s10 a0 7 5 (.ref p11)).bind fun s12 =>
  some s12
def F_X7_forget (σ : Sto) (a0 : Nat) : Option Sto :=
  chk σ a0 7 <|
  (sV σ a0 7 0 (.int (0 : Int32))).bind fun s1 =>
  (sV s1 a0 7 1 (.int (0 : Int32))).bind fun s2 =>
  some s2
def F_X7_record (σ : Sto) (a0 : Nat) (xa1 : Int32) (xa2 : Int32) (xa3 : Int32) (xa4 : Int32) : Option Sto :=
  chk σ a0 7 <|
  (gR σ a0 7 2).bind fun p1 =>
  (gI σ a0 7 1).bind fun x2 =>
  (iast σ p1 x2 xa1).bind fun s3 =>
  (gR s3 a0 7 3).bind fun p4 =>
  (gI s3 a0 7 1).bind fun x5 =>
  (iast s3 p4 x5 xa2).bind fun s6 =>
  (gR s6 a0 7 4).bind fun p7 =>
  (gI s6 a0 7 1).bind fun x8 =>
  (iast s6 p7 x8 xa3).bind fun s9 =>
  (gR s9 a0 7 5).bind fun p10 =>
  (gI s9 a0 7 1).bind fun x11 =>
  (iast s9 p10 x11 xa4).bind fun s12 =>
  (gI s12 a0 7 1).bind fun x13 =>
  jn (fun (x15 : Int32) =>
    (sV s12 a0 7 1 (.int x15)).bind fun s16 =>
    (gI s16 a0 7 0).bind fun x17 =>
    if (32 : Int32) ≤ x17 then (
      (sV s16 a0 7 0 (.int (32 : Int32))).bind fun s18 =>
      some s18
    ) else (
      (gI s16 a0 7 0).bind fun x19 =>
      (sV s16 a0 7 0 (.int (x19 + (1 : Int32)))).bind fun s20 =>
      some s20
    )
  ) fun j14 =>
  if (32 : Int32) ≤ (x13 + (1 : Int32)) then (
    j14 (0 : Int32)
  ) else (
    (gI s12 a0 7 1).bind fun x21 =>
    j14 (x21 + (1 : Int32))
  )
def F_X7_told (σ : Sto) (a0 : Nat) (xa1 : Int32) (xa2 : Int32) : Option Int32 :=
  chk σ a0 7 <|
  (gI σ a0 7 1).bind fun x1 =>
  jn (fun (x3 : Int32) =>
    if xa2 = (0 : Int32) then (
      (gR σ a0 7 2).bind fun p4 =>
      (iald σ p4 x3).bind fun x5 =>
      some x5
    ) else (
    if xa2 = (1 : Int32) then (
      (gR σ a0 7 3).bind fun p6 =>
      (iald σ p6 x3).bind fun x7 =>
      some x7
    ) else (
    if xa2 = (2 : Int32) then (
      (gR σ a0 7 4).bind fun p8 =>
      (iald σ p8 x3).bind fun x9 =>
      some x9
    ) else (
      (gR σ a0 7 5).bind fun p10 =>
      (iald σ p10 x3).bind fun x11 =>
      some x11
    )))
  ) fun j2 =>
  if 0 ≤ ((x1 - (1 : Int32)) - xa1) then (
    j2 ((x1 - (1 : Int32)) - xa1)
  ) else (
    j2 (((x1 - (1 : Int32)) - xa1) + (32 : Int32))
  )
def F_X8_init_L55 (pL0 : Nat) : Nat → Int32 → Sto → (Sto → Option Sto) → Option Sto
  | 0, _, _, _ => none
  | f + 1, xL1, sL, k92 =>
    if (5 : Int32) ≤ xL1 then (
      k92 sL
    ) else (
      (gR sL pL0 8 7).bind fun p18 =>
      nw_ sL (.inl (6, dfl_6)) 7 fun p20 s19 =>
      (F_X6_init s19 p20).bind fun s21 =>
      (aast s21 p18 4 xL1 p20).bind fun s22 =>
      (gR s22 pL0 8 8).bind fun p23 =>
      nw_ s22 (.inl (6, dfl_6)) 7 fun p25 s24 =>
      (F_X6_init s24 p25).bind fun s26 =>
      (aast s26 p23 4 xL1 p25).bind fun s27 =>
      F_X8_init_L55 pL0 f (xL1 + (1 : Int32)) s27 k92
    )
def F_X8_init_L94 (pL0 : Nat) : Nat → Int32 → Sto → (Sto → Option Sto) → Option Sto
  | 0, _, _, _ => none
  | f + 1, xL1, sL, k119 =>
    if (25 : Int32) ≤ xL1 then (
      k119 sL
    ) else (
      (gR sL pL0 8 9).bind fun p29 =>
      nw_ sL (.inl (4, dfl_4)) 2 fun p31 s30 =>
      (F_X4_init s30 p31).bind fun s32 =>
      (aast s32 p29 5 xL1 p31).bind fun s33 =>
      F_X8_init_L94 pL0 f (xL1 + (1 : Int32)) s33 k119
    )
def F_X8_init (σ : Sto) (a0 : Nat) : Option Sto :=
  (sV σ a0 8 0 (.int (3 : Int32))).bind fun s1 =>
  nw_ s1 (.inl (2, dfl_2)) 9 fun p3 s2 =>
  (F_X2_init s2 p3).bind fun s4 =>
  (sV s4 a0 8 6 (.ref p3)).bind fun s5 =>
  nw_ s5 (.inr (4, ((5 : Int32).toNatClampNeg, .inr (.inr (.inr (.inr (fun _ => none))))))) (5 : Int32).toNatClampNeg fun p7 s6 =>
  (sV s6 a0 8 7 (.ref p7)).bind fun s8 =>
  nw_ s8 (.inr (4, ((5 : Int32).toNatClampNeg, .inr (.inr (.inr (.inr (fun _ => none))))))) (5 : Int32).toNatClampNeg fun p10 s9 =>
  (sV s9 a0 8 8 (.ref p10)).bind fun s11 =>
  nw_ s11 (.inr (5, ((25 : Int32).toNatClampNeg, .inr (.inr (.inr (.inr (fun _ => none))))))) (25 : Int32).toNatClampNeg fun p13 s12 =>
  (sV s12 a0 8 9 (.ref p13)).bind fun s14 =>
  nw_ s14 (.inr (2, ((25 : Int32).toNatClampNeg, .inl (fun _ => 0)))) (25 : Int32).toNatClampNeg fun p16 s15 =>
  (sV s15 a0 8 10 (.ref p16)).bind fun s17 =>
  F_X8_init_L55 a0 fu (0 : Int32) s17
    (fun s28 =>
      F_X8_init_L94 a0 fu (0 : Int32) s28
        (fun s34 =>
          some s34
        )
    )
def F_X8_begin_L34 (pL0 : Nat) : Nat → Int32 → Sto → (Sto → Option Sto) → Option Sto
  | 0, _, _, _ => none
  | f + 1, xL2, sL, k63 =>
    if (5 : Int32) ≤ xL2 then (
      k63 sL
    ) else (
      (gR sL pL0 8 7).bind fun p8 =>
      (aaldR sL p8 4 xL2).bind fun p9 =>
      (F_X6_clear sL p9).bind fun s10 =>
      (gR s10 pL0 8 8).bind fun p11 =>
      (aaldR s10 p11 4 xL2).bind fun p12 =>
      (F_X6_clear s10 p12).bind fun s13 =>
      F_X8_begin_L34 pL0 f (xL2 + (1 : Int32)) s13 k63
    )
def F_X8_begin_L65 (pL0 : Nat) : Nat → Int32 → Sto → (Sto → Option Sto) → Option Sto
  | 0, _, _, _ => none
  | f + 1, xL2, sL, k94 =>
    if (25 : Int32) ≤ xL2 then (
      k94 sL
    ) else (
      (gR sL pL0 8 9).bind fun p15 =>
      (aaldR sL p15 5 xL2).bind fun p16 =>
      (sV sL p16 4 0 (.int (0 : Int32))).bind fun s17 =>
      (gR s17 pL0 8 10).bind fun p18 =>
      (zast s17 p18 xL2 (0 : Int32)).bind fun s19 =>
      F_X8_begin_L65 pL0 f (xL2 + (1 : Int32)) s19 k94
    )
def F_X8_begin (σ : Sto) (a0 : Nat) (xa1 : Int32) : Option Sto :=
  chk σ a0 8 <|
  (sV σ a0 8 0 (.int xa1)).bind fun s1 =>
  (sV s1 a0 8 2 (.int (0 : Int32))).bind fun s2 =>
  (sV s2 a0 8 3 (.int (0 : Int32))).bind fun s3 =>
  (sV s3 a0 8 4 (.int (0 : Int32))).bind fun s4 =>
  (sV s4 a0 8 5 (.int (0 : Int32))).bind fun s5 =>
  (gR s5 a0 8 6).bind fun p6 =>
  (F_X2_clear s5 p6).bind fun s7 =>
  F_X8_begin_L34 a0 fu (0 : Int32) s7
    (fun s14 =>
      F_X8_begin_L65 a0 fu (0 : Int32) s14
        (fun s20 =>
          some s20
        )
    )
def F_X8_copyOf_L61 (pL0 : Nat) (pL1 : Nat) : Nat → Int32 → Sto → (Sto → Option Sto) → Option Sto
  | 0, _, _, _ => none
  | f + 1, xL2, sL, k102 =>
    if (5 : Int32) ≤ xL2 then (
      k102 sL
    ) else (
      (gR sL pL0 8 7).bind fun p16 =>
      (aaldR sL p16 4 xL2).bind fun p17 =>
      (gR sL pL1 8 7).bind fun p18 =>
      (aaldR sL p18 4 xL2).bind fun p19 =>
      (F_X6_copyOf sL p17 p19).bind fun s20 =>
      (gR s20 pL0 8 8).bind fun p21 =>
      (aaldR s20 p21 4 xL2).bind fun p22 =>
      (gR s20 pL1 8 8).bind fun p23 =>
      (aaldR s20 p23 4 xL2).bind fun p24 =>
      (F_X6_copyOf s20 p22 p24).bind fun s25 =>
      F_X8_copyOf_L61 pL0 pL1 f (xL2 + (1 : Int32)) s25 k102
    )
def F_X8_copyOf_L104 (pL0 : Nat) (pL1 : Nat) : Nat → Int32 → Sto → (Sto → Option Sto) → Option Sto
  | 0, _, _, _ => none
  | f + 1, xL2, sL, k143 =>
    if (25 : Int32) ≤ xL2 then (
      k143 sL
    ) else (
      (gR sL pL0 8 9).bind fun p27 =>
      (aaldR sL p27 5 xL2).bind fun p28 =>
      (gR sL pL1 8 9).bind fun p29 =>
      (aaldR sL p29 5 xL2).bind fun p30 =>
      (F_X4_copyOf sL p28 p30).bind fun s31 =>
      (gR s31 pL0 8 10).bind fun p32 =>
      (gR s31 pL1 8 10).bind fun p33 =>
      (zald s31 p33 xL2).bind fun x34 =>
      (zast s31 p32 xL2 x34).bind fun s35 =>
      F_X8_copyOf_L104 pL0 pL1 f (xL2 + (1 : Int32)) s35 k143
    )
def F_X8_copyOf (σ : Sto) (a0 : Nat) (pa1 : Nat) : Option Sto :=
  chk σ a0 8 <|
  (gI σ pa1 8 0).bind fun x1 =>
  (sV σ a0 8 0 (.int x1)).bind fun s2 =>
  (gI s2 pa1 8 1).bind fun x3 =>
  (sV s2 a0 8 1 (.int x3)).bind fun s4 =>
  (gI s4 pa1 8 2).bind fun x5 =>
  (sV s4 a0 8 2 (.int x5)).bind fun s6 =>
  (gI s6 pa1 8 3).bind fun x7 =>
  (sV s6 a0 8 3 (.int x7)).bind fun s8 =>
  (gI s8 pa1 8 4).bind fun x9 =>
  (sV s8 a0 8 4 (.int x9)).bind fun s10 =>
  (gI s10 pa1 8 5).bind fun x11 =>
  (sV s10 a0 8 5 (.int x11)).bind fun s12 =>
  (gR s12 a0 8 6).bind fun p13 =>
  (gR s12 pa1 8 6).bind fun p14 =>
  (F_X2_copyOf s12 p13 p14).bind fun s15 =>
  F_X8_copyOf_L61 a0 pa1 fu (0 : Int32) s15
    (fun s26 =>
      F_X8_copyOf_L104 a0 pa1 fu (0 : Int32) s26
        (fun s36 =>
          some s36
        )
    )
def F_X8_canPost (σ : Sto) (a0 : Nat) (xa1 : Int32) (xa2 : Int32) : Option Int32 :=
  chk σ a0 8 <|
  (F_X8_row σ a0 xa1 xa2).bind fun p1 =>
  (F_X4_isFull σ p1).bind fun x2 =>
  if x2 = 0 then (
    (F_X8_isCut σ a0 xa1 xa2).bind fun x3 =>
    if x3 = 0 then (
      some (1 : Int32)
    ) else (
      some (0 : Int32)
    )
  ) else (
    some (0 : Int32)
  )
def F_X8_happen (σ : Sto) (a0 : Nat) (xa1 : Int32) (xa2 : Int32) (xa3 : Int32) : Option (Int32 × Sto) :=
  chk σ a0 8 <|
  (gI σ a0 8 2).bind fun x1 =>
  (sV σ a0 8 2 (.int (x1 + (1 : Int32)))).bind fun s2 =>
  (gR s2 a0 8 6).bind fun p3 =>
  (gI s2 a0 8 2).bind fun x4 =>
  (gR s2 a0 8 7).bind fun p5 =>
  (aaldR s2 p5 4 xa1).bind fun p6 =>
  (gR s2 p6 6 1).bind fun p7 =>
  wb (F_X2_append s2 p3 xa1 xa2 xa3 x4 p7) fun x9 s8 =>
  (gR s8 a0 8 7).bind fun p10 =>
  (aaldR s8 p10 4 xa1).bind fun p11 =>
  (gR s8 a0 8 6).bind fun p12 =>
  (F_X6_ownEvent s8 p11 p12 x9).bind fun s13 =>
  some (x9, s13)
def F_X8_bringIn (σ : Sto) (a0 : Nat) (xa1 : Int32) (xa2 : Int32) : Option (Int32 × Sto) :=
  chk σ a0 8 <|
  (gR σ a0 8 6).bind fun p1 =>
  (gI σ p1 2 0).bind fun x2 =>
  wb (F_X8_happen σ a0 xa1 x2 xa2) fun x4 s3 =>
  (gR s3 a0 8 7).bind fun p5 =>
  (aaldR s3 p5 4 xa1).bind fun p6 =>
  (gR s3 p6 6 0).bind fun p7 =>
  (F_X1_insert s3 p7 x4).bind fun s8 =>
  some (x4, s8)
def F_X8_takeOut (σ : Sto) (a0 : Nat) (xa1 : Int32) (xa2 : Int32) : Option (Int32 × Sto) :=
  chk σ a0 8 <|
  (gR σ a0 8 6).bind fun p1 =>
  (gR σ p1 2 5).bind fun p2 =>
  (iald σ p2 xa2).bind fun x3 =>
  wb (F_X8_happen σ a0 xa1 xa2 x3) fun x5 s4 =>
  (gR s4 a0 8 7).bind fun p6 =>
  (aaldR s4 p6 4 xa1).bind fun p7 =>
  (gR s4 p7 6 0).bind fun p8 =>
  (F_X1_remove s4 p8 xa2).bind fun s9 =>
  some (x5, s9)
def F_X8_post (σ : Sto) (a0 : Nat) (xa1 : Int32) (xa2 : Int32) : Option (Int32 × Sto) :=
  chk σ a0 8 <|
  (gI σ a0 8 2).bind fun x1 =>
  (sV σ a0 8 2 (.int (x1 + (1 : Int32)))).bind fun s2 =>
  (F_X8_row s2 a0 xa1 xa2).bind fun p3 =>
  wb (F_X4_append s2 p3) fun p5 s4 =>
  (gR s4 a0 8 7).bind fun p6 =>
  (aaldR s4 p6 4 xa1).bind fun p7 =>
  (gR s4 a0 8 6).bind fun p8 =>
  (gI s4 a0 8 1).bind fun x9 =>
  (F_X3_compose s4 p5 p7 p8 xa1 xa2 x9).bind fun s10 =>
  (gI s10 a0 8 3).bind fun x11 =>
  (sV s10 a0 8 3 (.int (x11 + (1 : Int32)))).bind fun s12 =>
  (gI s12 a0 8 4).bind fun x13 =>
  (gI s12 p5 3 3).bind fun x14 =>
  (sV s12 a0 8 4 (.int (x13 + x14))).bind fun s15 =>
  (gI s15 p5 3 3).bind fun x16 =>
  some (x16, s15)
def F_X8_deliver (σ : Sto) (a0 : Nat) (xa1 : Int32) (xa2 : Int32) (xa3 : Int32) : Option (Int32 × Sto) :=
  chk σ a0 8 <|
  (gI σ a0 8 2).bind fun x1 =>
  (sV σ a0 8 2 (.int (x1 + (1 : Int32)))).bind fun s2 =>
  (F_X8_row s2 a0 xa1 xa2).bind fun p3 =>
  wb (F_X4_at s2 p3 xa3) fun p5 s4 =>
  (gR s4 a0 8 7).bind fun p6 =>
  (aaldR s4 p6 4 xa2).bind fun p7 =>
  (gR s4 a0 8 6).bind fun p8 =>
  (gI s4 a0 8 0).bind fun x9 =>
  (gI s4 a0 8 2).bind fun x10 =>
  wb (F_X6_receive s4 p7 p5 p8 x9 x10) fun x12 s11 =>
  (gI s11 a0 8 5).bind fun x13 =>
  (gI s11 p5 3 3).bind fun x14 =>
  (sV s11 a0 8 5 (.int (x13 + (x14 - x12)))).bind fun s15 =>
  (F_X8_row s15 a0 xa1 xa2).bind fun p16 =>
  (F_X4_remove s15 p16 xa3).bind fun s17 =>
  some (x12, s17)
def F_X8_discard (σ : Sto) (a0 : Nat) (xa1 : Int32) (xa2 : Int32) (xa3 : Int32) : Option (Int32 × Sto) :=
  chk σ a0 8 <|
  (gI σ a0 8 2).bind fun x1 =>
  (sV σ a0 8 2 (.int (x1 + (1 : Int32)))).bind fun s2 =>
  (F_X8_row s2 a0 xa1 xa2).bind fun p3 =>
  (F_X4_remove s2 p3 xa3).bind fun s4 =>
  (F_X8_row s4 a0 xa1 xa2).bind fun p5 =>
  (gI s4 p5 4 0).bind fun x6 =>
  some (x6, s4)
def F_X8_repeat (σ : Sto) (a0 : Nat) (xa1 : Int32) (xa2 : Int32) (xa3 : Int32) : Option (Int32 × Sto) :=
  chk σ a0 8 <|
  (gI σ a0 8 2).bind fun x1 =>
  (sV σ a0 8 2 (.int (x1 + (1 : Int32)))).bind fun s2 =>
  (F_X8_row s2 a0 xa1 xa2).bind fun p3 =>
  wb (F_X4_at s2 p3 xa3) fun p5 s4 =>
  (F_X8_row s4 a0 xa1 xa2).bind fun p6 =>
  wb (F_X4_append s4 p6) fun p8 s7 =>
  (F_X3_copyOf s7 p8 p5).bind fun s9 =>
  (F_X8_row s9 a0 xa1 xa2).bind fun p10 =>
  (gI s9 p10 4 0).bind fun x11 =>
  some (x11, s9)
def F_X8_store (σ : Sto) (a0 : Nat) (xa1 : Int32) : Option (Int32 × Sto) :=
  chk σ a0 8 <|
  (gI σ a0 8 2).bind fun x1 =>
  (sV σ a0 8 2 (.int (x1 + (1 : Int32)))).bind fun s2 =>
  (gR s2 a0 8 8).bind fun p3 =>
  (aaldR s2 p3 4 xa1).bind fun p4 =>
  (gR s2 a0 8 7).bind fun p5 =>
  (aaldR s2 p5 4 xa1).bind fun p6 =>
  (F_X6_copyOf s2 p4 p6).bind fun s7 =>
  (gR s7 a0 8 7).bind fun p8 =>
  (aaldR s7 p8 4 xa1).bind fun p9 =>
  (gR s7 p9 6 1).bind fun p10 =>
  (F_X1_size s7 p10).bind fun x11 =>
  some (x11, s7)
def F_X8_restore (σ : Sto) (a0 : Nat) (xa1 : Int32) : Option (Int32 × Sto) :=
  chk σ a0 8 <|
  (gI σ a0 8 2).bind fun x1 =>
  (sV σ a0 8 2 (.int (x1 + (1 : Int32)))).bind fun s2 =>
  (gR s2 a0 8 7).bind fun p3 =>
  (aaldR s2 p3 4 xa1).bind fun p4 =>
  (gR s2 p4 6 1).bind fun p5 =>
  (F_X1_size s2 p5).bind fun x6 =>
  (gR s2 a0 8 8).bind fun p7 =>
  (aaldR s2 p7 4 xa1).bind fun p8 =>
  (gR s2 p8 6 1).bind fun p9 =>
  (F_X1_shared s2 p5 p9).bind fun x10 =>
  (gR s2 a0 8 7).bind fun p11 =>
  (aaldR s2 p11 4 xa1).bind fun p12 =>
  (gR s2 a0 8 8).bind fun p13 =>
  (aaldR s2 p13 4 xa1).bind fun p14 =>
  (F_X6_copyOf s2 p12 p14).bind fun s15 =>
  some ((x6 - x10), s15)
def F_X8_adopt (σ : Sto) (a0 : Nat) (xa1 : Int32) (xa2 : Int32) : Option (Int32 × Sto) :=
  chk σ a0 8 <|
  (gI σ a0 8 2).bind fun x1 =>
  (sV σ a0 8 2 (.int (x1 + (1 : Int32)))).bind fun s2 =>
  (gR s2 a0 8 7).bind fun p3 =>
  (aaldR s2 p3 4 xa1).bind fun p4 =>
  (gR s2 a0 8 7).bind fun p5 =>
  (aaldR s2 p5 4 xa2).bind fun p6 =>
  (gR s2 a0 8 6).bind fun p7 =>
  (gR s2 p7 2 1).bind fun p8 =>
  (iald s2 p8 xa1).bind fun x9 =>
  (gI s2 a0 8 2).bind fun x10 =>
  (F_X6_adopt s2 p4 p6 xa1 xa2 x9 x10).bind fun s11 =>
  (gR s11 a0 8 7).bind fun p12 =>
  (aaldR s11 p12 4 xa1).bind fun p13 =>
  (gR s11 p13 6 1).bind fun p14 =>
  (F_X1_size s11 p14).bind fun x15 =>
  some (x15, s11)
def F_X8_setLink (σ : Sto) (a0 : Nat) (xa1 : Int32) (xa2 : Int32) (xa3 : Int32) : Option Sto :=
  chk σ a0 8 <|
  (gI σ a0 8 2).bind fun x1 =>
  (sV σ a0 8 2 (.int (x1 + (1 : Int32)))).bind fun s2 =>
  (gR s2 a0 8 10).bind fun p3 =>
  (F_X9_cell xa1 xa2).bind fun x4 =>
  (zast s2 p3 x4 xa3).bind fun s5 =>
  (gR s5 a0 8 10).bind fun p6 =>
  (F_X9_cell xa2 xa1).bind fun x7 =>
  (zast s5 p6 x7 xa3).bind fun s8 =>
  some s8
def F_X8_holders_L4 (sL : Sto) (pL0 : Nat) (xL1 : Int32) : Nat → Int32 → Int32 → (Int32 → Option Int32) → Option Int32
  | 0, _, _, _ => none
  | f + 1, xL2, xL3, k37 =>
    (gI sL pL0 8 0).bind fun x1 =>
    if x1 ≤ xL3 then (
      k37 xL2
    ) else (
      (gR sL pL0 8 7).bind fun p2 =>
      (aaldR sL p2 4 xL3).bind fun p3 =>
      (gR sL p3 6 1).bind fun p4 =>
      (F_X1_holds sL p4 xL1).bind fun x5 =>
      if x5 = 0 then (
        F_X8_holders_L4 sL pL0 xL1 f xL2 (xL3 + (1 : Int32)) k37
      ) else (
        F_X8_holders_L4 sL pL0 xL1 f (xL2 + (1 : Int32)) (xL3 + (1 : Int32)) k37
      )
    )
def F_X8_holders (σ : Sto) (a0 : Nat) (xa1 : Int32) : Option Int32 :=
  chk σ a0 8 <|
  F_X8_holders_L4 σ a0 xa1 fu (0 : Int32) (0 : Int32)
    (fun x6 =>
      some x6
    )
def F_X8_logsWith_L4 (sL : Sto) (pL0 : Nat) (xL1 : Int32) : Nat → Int32 → Int32 → (Int32 → Option Int32) → Option Int32
  | 0, _, _, _ => none
  | f + 1, xL2, xL3, k34 =>
    (gI sL pL0 8 0).bind fun x1 =>
    if x1 ≤ xL3 then (
      k34 xL2
    ) else (
      (gR sL pL0 8 7).bind fun p2 =>
      (aaldR sL p2 4 xL3).bind fun p3 =>
      (F_X6_logHolds sL p3 xL1).bind fun x4 =>
      if x4 = 0 then (
        F_X8_logsWith_L4 sL pL0 xL1 f xL2 (xL3 + (1 : Int32)) k34
      ) else (
        F_X8_logsWith_L4 sL pL0 xL1 f (xL2 + (1 : Int32)) (xL3 + (1 : Int32)) k34
      )
    )
def F_X8_logsWith (σ : Sto) (a0 : Nat) (xa1 : Int32) : Option Int32 :=
  chk σ a0 8 <|
  F_X8_logsWith_L4 σ a0 xa1 fu (0 : Int32) (0 : Int32)
    (fun x5 =>
      some x5
    )
def F_X8_wayOf_L24 (sL : Sto) (pL0 : Nat) (xL2 : Int32) (xL3 : Int32) : Nat → Int32 → Int32 → (Int32 → Int32 → Option Int32) → Option Int32
  | 0, _, _, _ => none
  | f + 1, xL4, xL5, k95 =>
    (gI sL pL0 8 0).bind fun x5 =>
    if x5 ≤ xL5 then (
      k95 xL4 xL5
    ) else (
      if xL3 = (xL5 - (1 : Int32)) then (
        k95 xL4 xL5
      ) else (
        (gR sL pL0 8 7).bind fun p6 =>
        (aaldR sL p6 4 xL4).bind fun p7 =>
        (gR sL p7 6 1).bind fun p8 =>
        (F_X1_holds sL p8 xL2).bind fun x9 =>
        if x9 = 0 then (
          k95 xL4 xL5
        ) else (
          (gR sL pL0 8 7).bind fun p10 =>
          (aaldR sL p10 4 xL4).bind fun p11 =>
          (gR sL p11 6 6).bind fun p12 =>
          (iald sL p12 xL2).bind fun x13 =>
          if x13 = xL4 then (
            k95 xL4 xL5
          ) else (
            (gR sL pL0 8 7).bind fun p14 =>
            (aaldR sL p14 4 xL4).bind fun p15 =>
            (gR sL p15 6 6).bind fun p16 =>
            (iald sL p16 xL2).bind fun x17 =>
            F_X8_wayOf_L24 sL pL0 xL2 xL3 f x17 (xL5 + (1 : Int32)) k95
          )
        )
      )
    )
def F_X8_wayOf (σ : Sto) (a0 : Nat) (xa1 : Int32) (xa2 : Int32) (xa3 : Int32) : Option Int32 :=
  chk σ a0 8 <|
  (gR σ a0 8 7).bind fun p1 =>
  (aaldR σ p1 4 xa1).bind fun p2 =>
  (gR σ p2 6 1).bind fun p3 =>
  (F_X1_holds σ p3 xa2).bind fun x4 =>
  if x4 = 0 then (
    some (-1 : Int32)
  ) else (
    F_X8_wayOf_L24 σ a0 xa2 xa3 fu xa1 (1 : Int32)
      (fun x18 x19 =>
        if xa3 = (-1 : Int32) then (
          some x19
        ) else (
          if xa3 = (x19 - (1 : Int32)) then (
            some x18
          ) else (
            some (-1 : Int32)
          )
        )
      )
  )
def F_X8_stepsToAll_L12 (sL : Sto) (pL0 : Nat) (xL1 : Int32) : Nat → Int32 → Int32 → (Int32 → Option Int32) → Option Int32
  | 0, _, _, _ => none
  | f + 1, xL2, xL3, k42 =>
    (gI sL pL0 8 0).bind fun x4 =>
    if x4 ≤ xL3 then (
      k42 xL2
    ) else (
      (gR sL pL0 8 7).bind fun p5 =>
      (aaldR sL p5 4 xL3).bind fun p6 =>
      (gR sL p6 6 5).bind fun p7 =>
      (iald sL p7 xL1).bind fun x8 =>
      F_X8_stepsToAll_L12 sL pL0 xL1 f (if xL2 < x8 then x8 else xL2) (xL3 + (1 : Int32)) k42
    )
def F_X8_stepsToAll (σ : Sto) (a0 : Nat) (xa1 : Int32) : Option Int32 :=
  chk σ a0 8 <|
  (gR σ a0 8 6).bind fun p1 =>
  (gR σ p1 2 6).bind fun p2 =>
  (iald σ p2 xa1).bind fun x3 =>
  F_X8_stepsToAll_L12 σ a0 xa1 fu x3 (0 : Int32)
    (fun x9 =>
      (gR σ a0 8 6).bind fun p10 =>
      (gR σ p10 2 6).bind fun p11 =>
      (iald σ p11 xa1).bind fun x12 =>
      some (x9 - x12)
    )
def F_X8_slowestEvent_L4 (sL : Sto) (pL0 : Nat) : Nat → Int32 → Int32 → (Int32 → Option Int32) → Option Int32
  | 0, _, _, _ => none
  | f + 1, xL1, xL2, k53 =>
    (gR sL pL0 8 6).bind fun p1 =>
    (gI sL p1 2 0).bind fun x2 =>
    if x2 ≤ xL2 then (
      k53 xL1
    ) else (
      (F_X8_holders sL pL0 xL2).bind fun x3 =>
      (gI sL pL0 8 0).bind fun x4 =>
      if x3 = x4 then (
        if xL1 = (-1 : Int32) then (
          F_X8_slowestEvent_L4 sL pL0 f xL2 (xL2 + (1 : Int32)) k53
        ) else (
          (F_X8_stepsToAll sL pL0 xL2).bind fun x5 =>
          (F_X8_stepsToAll sL pL0 xL1).bind fun x6 =>
          if x5 ≤ x6 then (
            F_X8_slowestEvent_L4 sL pL0 f xL1 (xL2 + (1 : Int32)) k53
          ) else (
            F_X8_slowestEvent_L4 sL pL0 f xL2 (xL2 + (1 : Int32)) k53
          )
        )
      ) else (
        F_X8_slowestEvent_L4 sL pL0 f xL1 (xL2 + (1 : Int32)) k53
      )
    )
def F_X8_slowestEvent (σ : Sto) (a0 : Nat) : Option Int32 :=
  chk σ a0 8 <|
  F_X8_slowestEvent_L4 σ a0 fu (-1 : Int32) (0 : Int32)
    (fun x7 =>
      some x7
    )
def F_X8_lettersThatWait_L4 (sL : Sto) (pL0 : Nat) : Nat → Int32 → Int32 → (Int32 → Option Int32) → Option Int32
  | 0, _, _, _ => none
  | f + 1, xL1, xL2, k28 =>
    if (25 : Int32) ≤ xL2 then (
      k28 xL1
    ) else (
      (gR sL pL0 8 9).bind fun p1 =>
      (aaldR sL p1 5 xL2).bind fun p2 =>
      (gI sL p2 4 0).bind fun x3 =>
      F_X8_lettersThatWait_L4 sL pL0 f (xL1 + x3) (xL2 + (1 : Int32)) k28
    )
def F_X8_lettersThatWait (σ : Sto) (a0 : Nat) : Option Int32 :=
  chk σ a0 8 <|
  F_X8_lettersThatWait_L4 σ a0 fu (0 : Int32) (0 : Int32)
    (fun x4 =>
      some x4
    )
def F_X8_viewsAreAlike_L2 (sL : Sto) (pL0 : Nat) : Nat → Int32 → (Option Int32) → Option Int32
  | 0, _, _ => none
  | f + 1, xL1, k42 =>
    (gI sL pL0 8 0).bind fun x1 =>
    if x1 ≤ xL1 then (
      k42
    ) else (
      (gR sL pL0 8 7).bind fun p2 =>
      (aaldR sL p2 4 xL1).bind fun p3 =>
      (gR sL p3 6 0).bind fun p4 =>
      (gR sL pL0 8 7).bind fun p5 =>
      (aaldR sL p5 4 (0 : Int32)).bind fun p6 =>
      (gR sL p6 6 0).bind fun p7 =>
      (F_X1_sameAs sL p4 p7).bind fun x8 =>
      if x8 = 0 then (
        some (0 : Int32)
      ) else (
        F_X8_viewsAreAlike_L2 sL pL0 f (xL1 + (1 : Int32)) k42
      )
    )
def F_X8_viewsAreAlike (σ : Sto) (a0 : Nat) : Option Int32 :=
  chk σ a0 8 <|
  F_X8_viewsAreAlike_L2 σ a0 fu (1 : Int32)
    (
      some (1 : Int32)
    )
def F_X8_cutLinks_L16 (sL : Sto) (pL0 : Nat) (xL2 : Int32) : Nat → Int32 → Int32 → (Int32 → Option Int32) → Option Int32
  | 0, _, _, _ => none
  | f + 1, xL1, xL3, k42 =>
    (gI sL pL0 8 0).bind fun x2 =>
    if x2 ≤ xL3 then (
      k42 xL1
    ) else (
      (F_X8_isCut sL pL0 xL2 xL3).bind fun x3 =>
      if x3 = 0 then (
        F_X8_cutLinks_L16 sL pL0 xL2 f xL1 (xL3 + (1 : Int32)) k42
      ) else (
        F_X8_cutLinks_L16 sL pL0 xL2 f (xL1 + (1 : Int32)) (xL3 + (1 : Int32)) k42
      )
    )
def F_X8_cutLinks_L4 (sL : Sto) (pL0 : Nat) : Nat → Int32 → Int32 → (Int32 → Option Int32) → Option Int32
  | 0, _, _, _ => none
  | f + 1, xL1, xL2, k48 =>
    (gI sL pL0 8 0).bind fun x1 =>
    if x1 ≤ xL2 then (
      k48 xL1
    ) else (
      F_X8_cutLinks_L16 sL pL0 xL2 fu xL1 (xL2 + (1 : Int32))
        (fun x4 =>
          F_X8_cutLinks_L4 sL pL0 f x4 (xL2 + (1 : Int32)) k48
        )
    )
def F_X8_cutLinks (σ : Sto) (a0 : Nat) : Option Int32 :=
  chk σ a0 8 <|
  F_X8_cutLinks_L4 σ a0 fu (0 : Int32) (0 : Int32)
    (fun x5 =>
      some x5
    )
def F_X8_parts_L4 (sL : Sto) (pL0 : Nat) : Nat → Int32 → Int32 → (Int32 → Option Int32) → Option Int32
  | 0, _, _, _ => none
  | f + 1, xL1, xL2, k37 =>
    (gI sL pL0 8 0).bind fun x1 =>
    if x1 ≤ xL2 then (
      k37 xL1
    ) else (
      (F_X8_partOf sL pL0 xL2).bind fun x2 =>
      if (x2 &&& (((1 : Int32) <<< (xL2 &&& 31)) - (1 : Int32))) = 0 then (
        F_X8_parts_L4 sL pL0 f (xL1 + (1 : Int32)) (xL2 + (1 : Int32)) k37
      ) else (
        F_X8_parts_L4 sL pL0 f xL1 (xL2 + (1 : Int32)) k37
      )
    )
def F_X8_parts (σ : Sto) (a0 : Nat) : Option Int32 :=
  chk σ a0 8 <|
  F_X8_parts_L4 σ a0 fu (0 : Int32) (0 : Int32)
    (fun x3 =>
      some x3
    )
def F_X9_init (σ : Sto) (a0 : Nat) : Option Sto :=
  nw_ σ (.inl (8, dfl_8)) 11 fun p2 s1 =>
  (F_X8_init s1 p2).bind fun s3 =>
  (sV s3 a0 9 0 (.ref p2)).bind fun s4 =>
  nw_ s4 (.inr (7, ((2 : Int32).toNatClampNeg, .inr (.inr (.inr (.inr (fun _ => none))))))) (2 : Int32).toNatClampNeg fun p6 s5 =>
  (sV s5 a0 9 1 (.ref p6)).bind fun s7 =>
  nw_ s7 (.inl (7, dfl_7)) 6 fun p9 s8 =>
  (F_X7_init s8 p9).bind fun s10 =>
  (sV s10 a0 9 2 (.ref p9)).bind fun s11 =>
  nw_ s11 (.inl (5, dfl_5)) 6 fun p13 s12 =>
  (gR s12 a0 9 0).bind fun p14 =>
  (F_X5_init s12 p13 p14).bind fun s15 =>
  (sV s15 a0 9 3 (.ref p13)).bind fun s16 =>
  nw_ s16 (.inl (0, dfl_0)) 6 fun p18 s17 =>
  (gR s17 a0 9 0).bind fun p19 =>
  (F_X0_init s17 p18 p19).bind fun s20 =>
  (sV s20 a0 9 4 (.ref p18)).bind fun s21 =>
  (sV s21 a0 9 5 (.long (0 : Int64))).bind fun s22 =>
  some s22
def F_X9_sites (σ : Sto) (a0 : Nat) (xa1 : Int32) : Option ((Int32 ⊕ String) × Sto) :=
  chk σ a0 9 <|
  if xa1 < (2 : Int32) then (
    some (.inr "java/lang/IllegalArgumentException", (σ.1 ++ [none], σ.2 + 6))
  ) else (
    if xa1 ≤ (5 : Int32) then (
      (gR σ a0 9 0).bind fun p1 =>
      (F_X8_begin σ p1 xa1).bind fun s2 =>
      (gR s2 a0 9 2).bind fun p3 =>
      (F_X7_forget s2 p3).bind fun s4 =>
      some (.inl xa1, s4)
    ) else (
      some (.inr "java/lang/IllegalArgumentException", (σ.1 ++ [none], σ.2 + 6))
    )
  )
def F_X9_mode (σ : Sto) (a0 : Nat) (xa1 : Int32) : Option ((Int32 ⊕ String) × Sto) :=
  chk σ a0 9 <|
  if xa1 < 0 then (
    some (.inr "java/lang/IllegalArgumentException", (σ.1 ++ [none], σ.2 + 6))
  ) else (
    if xa1 ≤ (2 : Int32) then (
      (gR σ a0 9 0).bind fun p1 =>
      (gI σ p1 8 1).bind fun x2 =>
      (gR σ a0 9 0).bind fun p3 =>
      (sV σ p3 8 1 (.int xa1)).bind fun s4 =>
      some (.inl x2, s4)
    ) else (
      some (.inr "java/lang/IllegalArgumentException", (σ.1 ++ [none], σ.2 + 6))
    )
  )
def F_X9_needSite (σ : Sto) (a0 : Nat) (xa1 : Int32) : Option ((Unit ⊕ String) × Sto) :=
  chk σ a0 9 <|
  if xa1 < 0 then (
    some (.inr "java/lang/IndexOutOfBoundsException", (σ.1 ++ [none], σ.2 + 6))
  ) else (
    (gR σ a0 9 0).bind fun p1 =>
    (gI σ p1 8 0).bind fun x2 =>
    if xa1 < x2 then (
      some (.inl (), σ)
    ) else (
      some (.inr "java/lang/IndexOutOfBoundsException", (σ.1 ++ [none], σ.2 + 6))
    )
  )
def F_X9_needRoomForEvent (σ : Sto) (a0 : Nat) : Option ((Unit ⊕ String) × Sto) :=
  chk σ a0 9 <|
  (gR σ a0 9 0).bind fun p1 =>
  (gR σ p1 8 6).bind fun p2 =>
  (F_X2_isFull σ p2).bind fun x3 =>
  if x3 = 0 then (
    some (.inl (), σ)
  ) else (
    some (.inr "java/lang/IllegalStateException", (σ.1 ++ [none], σ.2 + 6))
  )
def F_X9_needName (σ : Sto) (a0 : Nat) (xa1 : Int32) : Option ((Unit ⊕ String) × Sto) :=
  chk σ a0 9 <|
  if xa1 < 0 then (
    some (.inr "java/lang/IllegalArgumentException", (σ.1 ++ [none], σ.2 + 6))
  ) else (
    if xa1 < (100 : Int32) then (
      some (.inl (), σ)
    ) else (
      some (.inr "java/lang/IllegalArgumentException", (σ.1 ++ [none], σ.2 + 6))
    )
  )
def F_X9_traced (σ : Sto) (a0 : Nat) (xa1 : Int32) (xa2 : Int32) (xa3 : Int32) : Option (Int32 × Sto) :=
  chk σ a0 9 <|
  (gR σ a0 9 2).bind fun p1 =>
  (gR σ a0 9 0).bind fun p2 =>
  (gI σ p2 8 2).bind fun x3 =>
  (F_X7_record σ p1 x3 xa1 xa2 xa3).bind fun s4 =>
  some (xa3, s4)
def F_X9_add (σ : Sto) (a0 : Nat) (xa1 : Int32) (xa2 : Int32) : Option ((Int32 ⊕ String) × Sto) :=
  chk σ a0 9 <|
  tb (F_X9_needSite σ a0 xa1) fun _ s1 =>
  tb (F_X9_needRoomForEvent s1 a0) fun _ s2 =>
  tb (F_X9_needName s2 a0 xa2) fun _ s3 =>
  (gR s3 a0 9 0).bind fun p4 =>
  wb (F_X8_bringIn s3 p4 xa1 xa2) fun x6 s5 =>
  wb (F_X9_traced s5 a0 (0 : Int32) xa1 x6) fun x8 s7 =>
  some (.inl x8, s7)
def F_X9_take (σ : Sto) (a0 : Nat) (xa1 : Int32) (xa2 : Int32) : Option ((Int32 ⊕ String) × Sto) :=
  chk σ a0 9 <|
  tb (F_X9_needSite σ a0 xa1) fun _ s1 =>
  (gR s1 a0 9 0).bind fun p2 =>
  (gR s1 p2 8 6).bind fun p3 =>
  (F_X2_contains s1 p3 xa2).bind fun x4 =>
  if x4 = 0 then (
    some (.inr "java/util/NoSuchElementException", (s1.1 ++ [none], s1.2 + 6))
  ) else (
    (gR s1 a0 9 0).bind fun p5 =>
    (gR s1 p5 8 7).bind fun p6 =>
    (aaldR s1 p6 4 xa1).bind fun p7 =>
    (gR s1 p7 6 0).bind fun p8 =>
    (F_X1_holds s1 p8 xa2).bind fun x9 =>
    if x9 = 0 then (
      some (.inr "java/util/NoSuchElementException", (s1.1 ++ [none], s1.2 + 6))
    ) else (
      tb (F_X9_needRoomForEvent s1 a0) fun _ s10 =>
      (gR s10 a0 9 0).bind fun p11 =>
      wb (F_X8_takeOut s10 p11 xa1 xa2) fun x13 s12 =>
      wb (F_X9_traced s12 a0 (1 : Int32) xa1 x13) fun x15 s14 =>
      some (.inl x15, s14)
    )
  )
def F_X9_needTwoSites (σ : Sto) (a0 : Nat) (xa1 : Int32) (xa2 : Int32) : Option ((Unit ⊕ String) × Sto) :=
  chk σ a0 9 <|
  if xa1 < 0 then (
    some (.inr "java/lang/IndexOutOfBoundsException", (σ.1 ++ [none], σ.2 + 6))
  ) else (
    (gR σ a0 9 0).bind fun p1 =>
    (gI σ p1 8 0).bind fun x2 =>
    if x2 ≤ xa1 then (
      some (.inr "java/lang/IndexOutOfBoundsException", (σ.1 ++ [none], σ.2 + 6))
    ) else (
      if xa2 < 0 then (
        some (.inr "java/lang/IndexOutOfBoundsException", (σ.1 ++ [none], σ.2 + 6))
      ) else (
        (gR σ a0 9 0).bind fun p3 =>
        (gI σ p3 8 0).bind fun x4 =>
        if x4 ≤ xa2 then (
          some (.inr "java/lang/IndexOutOfBoundsException", (σ.1 ++ [none], σ.2 + 6))
        ) else (
          if xa1 = xa2 then (
            some (.inr "java/lang/IndexOutOfBoundsException", (σ.1 ++ [none], σ.2 + 6))
          ) else (
            some (.inl (), σ)
          )
        )
      )
    )
  )
def F_X9_write (σ : Sto) (a0 : Nat) (xa1 : Int32) (xa2 : Int32) : Option ((Int32 ⊕ String) × Sto) :=
  chk σ a0 9 <|
  tb (F_X9_needTwoSites σ a0 xa1 xa2) fun _ s1 =>
  (gR s1 a0 9 0).bind fun p2 =>
  (F_X8_canPost s1 p2 xa1 xa2).bind fun x3 =>
  if x3 = 0 then (
    some (.inr "java/lang/IllegalStateException", (s1.1 ++ [none], s1.2 + 6))
  ) else (
    (gR s1 a0 9 0).bind fun p4 =>
    wb (F_X8_post s1 p4 xa1 xa2) fun x6 s5 =>
    wb (F_X9_traced s5 a0 (2 : Int32) xa1 x6) fun x8 s7 =>
    some (.inl x8, s7)
  )
def F_X9_needLetter (σ : Sto) (a0 : Nat) (xa1 : Int32) (xa2 : Int32) (xa3 : Int32) : Option ((Unit ⊕ String) × Sto) :=
  chk σ a0 9 <|
  if xa3 < 0 then (
    some (.inr "java/util/NoSuchElementException", (σ.1 ++ [none], σ.2 + 6))
  ) else (
    (gR σ a0 9 0).bind fun p1 =>
    (F_X8_row σ p1 xa1 xa2).bind fun p2 =>
    (gI σ p2 4 0).bind fun x3 =>
    if xa3 < x3 then (
      some (.inl (), σ)
    ) else (
      some (.inr "java/util/NoSuchElementException", (σ.1 ++ [none], σ.2 + 6))
    )
  )
def F_X9_come (σ : Sto) (a0 : Nat) (xa1 : Int32) (xa2 : Int32) (xa3 : Int32) : Option ((Int32 ⊕ String) × Sto) :=
  chk σ a0 9 <|
  tb (F_X9_needTwoSites σ a0 xa1 xa2) fun _ s1 =>
  tb (F_X9_needLetter s1 a0 xa1 xa2 xa3) fun _ s2 =>
  (gR s2 a0 9 0).bind fun p3 =>
  (F_X8_isCut s2 p3 xa1 xa2).bind fun x4 =>
  if x4 = 0 then (
    (gR s2 a0 9 0).bind fun p5 =>
    wb (F_X8_deliver s2 p5 xa1 xa2 xa3) fun x7 s6 =>
    wb (F_X9_traced s6 a0 (3 : Int32) xa1 x7) fun x9 s8 =>
    some (.inl x9, s8)
  ) else (
    some (.inr "java/lang/IllegalStateException", (s2.1 ++ [none], s2.2 + 6))
  )
def F_X9_lose (σ : Sto) (a0 : Nat) (xa1 : Int32) (xa2 : Int32) (xa3 : Int32) : Option ((Int32 ⊕ String) × Sto) :=
  chk σ a0 9 <|
  tb (F_X9_needTwoSites σ a0 xa1 xa2) fun _ s1 =>
  tb (F_X9_needLetter s1 a0 xa1 xa2 xa3) fun _ s2 =>
  (gR s2 a0 9 0).bind fun p3 =>
  wb (F_X8_discard s2 p3 xa1 xa2 xa3) fun x5 s4 =>
  wb (F_X9_traced s4 a0 (4 : Int32) xa1 x5) fun x7 s6 =>
  some (.inl x7, s6)
def F_X9_twice (σ : Sto) (a0 : Nat) (xa1 : Int32) (xa2 : Int32) (xa3 : Int32) : Option ((Int32 ⊕ String) × Sto) :=
  chk σ a0 9 <|
  tb (F_X9_needTwoSites σ a0 xa1 xa2) fun _ s1 =>
  tb (F_X9_needLetter s1 a0 xa1 xa2 xa3) fun _ s2 =>
  (gR s2 a0 9 0).bind fun p3 =>
  (F_X8_row s2 p3 xa1 xa2).bind fun p4 =>
  (F_X4_isFull s2 p4).bind fun x5 =>
  if x5 = 0 then (
    (gR s2 a0 9 0).bind fun p6 =>
    wb (F_X8_repeat s2 p6 xa1 xa2 xa3) fun x8 s7 =>
    wb (F_X9_traced s7 a0 (5 : Int32) xa1 x8) fun x10 s9 =>
    some (.inl x10, s9)
  ) else (
    some (.inr "java/lang/IllegalStateException", (s2.1 ++ [none], s2.2 + 6))
  )
def F_X9_waiting (σ : Sto) (a0 : Nat) (xa1 : Int32) (xa2 : Int32) : Option ((Int32 ⊕ String) × Sto) :=
  chk σ a0 9 <|
  tb (F_X9_needTwoSites σ a0 xa1 xa2) fun _ s1 =>
  (gR s1 a0 9 0).bind fun p2 =>
  (F_X8_row s1 p2 xa1 xa2).bind fun p3 =>
  (gI s1 p3 4 0).bind fun x4 =>
  some (.inl x4, s1)
def F_X9_needWhat (σ : Sto) (a0 : Nat) (xa1 : Int32) (xa2 : Int32) : Option ((Unit ⊕ String) × Sto) :=
  chk σ a0 9 <|
  if xa1 < 0 then (
    some (.inr "java/lang/IllegalArgumentException", (σ.1 ++ [none], σ.2 + 6))
  ) else (
    if xa1 < xa2 then (
      some (.inl (), σ)
    ) else (
      some (.inr "java/lang/IllegalArgumentException", (σ.1 ++ [none], σ.2 + 6))
    )
  )
def F_X9_letter (σ : Sto) (a0 : Nat) (xa1 : Int32) (xa2 : Int32) (xa3 : Int32) (xa4 : Int32) : Option ((Int32 ⊕ String) × Sto) :=
  chk σ a0 9 <|
  tb (F_X9_needTwoSites σ a0 xa1 xa2) fun _ s1 =>
  tb (F_X9_needLetter s1 a0 xa1 xa2 xa3) fun _ s2 =>
  tb (F_X9_needWhat s2 a0 xa4 (3 : Int32)) fun _ s3 =>
  (gR s3 a0 9 0).bind fun p4 =>
  (F_X8_row s3 p4 xa1 xa2).bind fun p5 =>
  wb (F_X4_at s3 p5 xa3) fun p7 s6 =>
  if xa4 = 0 then (
    (gI s6 p7 3 3).bind fun x15 =>
    some (.inl x15, s6)
  ) else (
    if xa4 = (1 : Int32) then (
      (gI s6 p7 3 2).bind fun x14 =>
      some (.inl x14, s6)
    ) else (
      (gR s6 p7 3 5).bind fun p8 =>
      (gR s6 a0 9 0).bind fun p9 =>
      (gR s6 p9 8 7).bind fun p10 =>
      (aaldR s6 p10 4 xa2).bind fun p11 =>
      (gR s6 p11 6 1).bind fun p12 =>
      (F_X1_shared s6 p8 p12).bind fun x13 =>
      some (.inl x13, s6)
    )
  )
def F_X9_inLetter (σ : Sto) (a0 : Nat) (xa1 : Int32) (xa2 : Int32) (xa3 : Int32) (xa4 : Int32) : Option ((Int32 ⊕ String) × Sto) :=
  chk σ a0 9 <|
  tb (F_X9_needTwoSites σ a0 xa1 xa2) fun _ s1 =>
  tb (F_X9_needLetter s1 a0 xa1 xa2 xa3) fun _ s2 =>
  (gR s2 a0 9 0).bind fun p3 =>
  (F_X8_row s2 p3 xa1 xa2).bind fun p4 =>
  wb (F_X4_at s2 p4 xa3) fun p6 s5 =>
  if xa4 < 0 then (
    some (.inr "java/util/NoSuchElementException", (s5.1 ++ [none], s5.2 + 6))
  ) else (
    (gI s5 p6 3 3).bind fun x7 =>
    if xa4 < x7 then (
      (gR s5 p6 3 4).bind fun p8 =>
      (iald s5 p8 xa4).bind fun x9 =>
      some (.inl x9, s5)
    ) else (
      some (.inr "java/util/NoSuchElementException", (s5.1 ++ [none], s5.2 + 6))
    )
  )
def F_X9_save (σ : Sto) (a0 : Nat) (xa1 : Int32) : Option ((Int32 ⊕ String) × Sto) :=
  chk σ a0 9 <|
  tb (F_X9_needSite σ a0 xa1) fun _ s1 =>
  (gR s1 a0 9 0).bind fun p2 =>
  wb (F_X8_store s1 p2 xa1) fun x4 s3 =>
  wb (F_X9_traced s3 a0 (6 : Int32) xa1 x4) fun x6 s5 =>
  some (.inl x6, s5)
def F_X9_fall (σ : Sto) (a0 : Nat) (xa1 : Int32) : Option ((Int32 ⊕ String) × Sto) :=
  chk σ a0 9 <|
  tb (F_X9_needSite σ a0 xa1) fun _ s1 =>
  (gR s1 a0 9 0).bind fun p2 =>
  wb (F_X8_restore s1 p2 xa1) fun x4 s3 =>
  wb (F_X9_traced s3 a0 (7 : Int32) xa1 x4) fun x6 s5 =>
  some (.inl x6, s5)
def F_X9_join (σ : Sto) (a0 : Nat) (xa1 : Int32) (xa2 : Int32) : Option ((Int32 ⊕ String) × Sto) :=
  chk σ a0 9 <|
  tb (F_X9_needTwoSites σ a0 xa1 xa2) fun _ s1 =>
  (gR s1 a0 9 0).bind fun p2 =>
  wb (F_X8_adopt s1 p2 xa1 xa2) fun x4 s3 =>
  wb (F_X9_traced s3 a0 (8 : Int32) xa1 x4) fun x6 s5 =>
  some (.inl x6, s5)
def F_X9_draw (σ : Sto) (a0 : Nat) (xa1 : Int32) : Option (Int32 × Sto) :=
  chk σ a0 9 <|
  (gL σ a0 9 5).bind fun y1 =>
  (sV σ a0 9 5 (.long ((((1103515245 : Int64) * y1) + (12345 : Int64)) &&& (2147483647 : Int64)))).bind fun s2 =>
  if xa1 ≤ 0 then (
    some ((0 : Int32), s2)
  ) else (
    (gL s2 a0 9 5).bind fun y3 =>
    if xa1.toInt64 = 0 then none else
    some (((y3 >>> ((6 : Int32).toInt64 &&& 63)) - (y3 >>> ((6 : Int32).toInt64 &&& 63)) / xa1.toInt64 * xa1.toInt64).toInt32, s2)
  )
def F_X9_inByChance (σ : Sto) (a0 : Nat) (xa1 : Int32) : Option Sto :=
  chk σ a0 9 <|
  wb (F_X9_draw σ a0 (100 : Int32)) fun x2 s1 =>
  (gR s1 a0 9 0).bind fun p3 =>
  (gR s1 p3 8 6).bind fun p4 =>
  (F_X2_isFull s1 p4).bind fun x5 =>
  if x5 = 0 then (
    (gR s1 a0 9 0).bind fun p6 =>
    wb (F_X8_bringIn s1 p6 xa1 x2) fun x8 s7 =>
    wb (F_X9_traced s7 a0 (0 : Int32) xa1 x8) fun x10 s9 =>
    some s9
  ) else (
    some s1
  )
def F_X9_outByChance (σ : Sto) (a0 : Nat) (xa1 : Int32) : Option Sto :=
  chk σ a0 9 <|
  (gR σ a0 9 0).bind fun p1 =>
  (gR σ p1 8 7).bind fun p2 =>
  (aaldR σ p2 4 xa1).bind fun p3 =>
  (gR σ p3 6 0).bind fun p4 =>
  (F_X1_size σ p4).bind fun x5 =>
  if x5 = 0 then (
    some σ
  ) else (
    (gR σ a0 9 0).bind fun p6 =>
    (gR σ p6 8 7).bind fun p7 =>
    (aaldR σ p7 4 xa1).bind fun p8 =>
    (gR σ p8 6 0).bind fun p9 =>
    wb (F_X9_draw σ a0 x5) fun x11 s10 =>
    (F_X1_nth s10 p9 x11).bind fun x12 =>
    if x12 = (-1 : Int32) then (
      some s10
    ) else (
      (gR s10 a0 9 0).bind fun p13 =>
      (gR s10 p13 8 6).bind fun p14 =>
      (F_X2_isFull s10 p14).bind fun x15 =>
      if x15 = 0 then (
        (gR s10 a0 9 0).bind fun p16 =>
        wb (F_X8_takeOut s10 p16 xa1 x12) fun x18 s17 =>
        wb (F_X9_traced s17 a0 (1 : Int32) xa1 x18) fun x20 s19 =>
        some s19
      ) else (
        some s10
      )
    )
  )
def F_X9_letterByChance (σ : Sto) (a0 : Nat) (xa1 : Int32) (xa2 : Int32) : Option Sto :=
  chk σ a0 9 <|
  (gR σ a0 9 0).bind fun p1 =>
  (F_X8_canPost σ p1 xa1 xa2).bind fun x2 =>
  if x2 = 0 then (
    some σ
  ) else (
    (gR σ a0 9 0).bind fun p3 =>
    wb (F_X8_post σ p3 xa1 xa2) fun x5 s4 =>
    wb (F_X9_traced s4 a0 (2 : Int32) xa1 x5) fun x7 s6 =>
    some s6
  )
def F_X9_comingByChance (σ : Sto) (a0 : Nat) (xa1 : Int32) (xa2 : Int32) : Option Sto :=
  chk σ a0 9 <|
  (gR σ a0 9 0).bind fun p1 =>
  (F_X8_row σ p1 xa1 xa2).bind fun p2 =>
  (gI σ p2 4 0).bind fun x3 =>
  if x3 = 0 then (
    some σ
  ) else (
    wb (F_X9_draw σ a0 x3) fun x5 s4 =>
    (gR s4 a0 9 0).bind fun p6 =>
    (F_X8_isCut s4 p6 xa1 xa2).bind fun x7 =>
    if x7 = 0 then (
      (gR s4 a0 9 0).bind fun p8 =>
      wb (F_X8_deliver s4 p8 xa1 xa2 x5) fun x10 s9 =>
      wb (F_X9_traced s9 a0 (3 : Int32) xa1 x10) fun x12 s11 =>
      some s11
    ) else (
      some s4
    )
  )
def F_X9_doByChance (σ : Sto) (a0 : Nat) : Option Sto :=
  chk σ a0 9 <|
  wb (F_X9_draw σ a0 (8 : Int32)) fun x2 s1 =>
  (gR s1 a0 9 0).bind fun p3 =>
  (gI s1 p3 8 0).bind fun x4 =>
  wb (F_X9_draw s1 a0 x4) fun x6 s5 =>
  if (1 : Int32) < x2 then (
    if x2 = (2 : Int32) then (
      (F_X9_outByChance s5 a0 x6).bind fun s17 =>
      some s17
    ) else (
      (gR s5 a0 9 0).bind fun p7 =>
      (gI s5 p7 8 0).bind fun x8 =>
      wb (F_X9_draw s5 a0 x8) fun x10 s9 =>
      jn (fun (x12 : Int32) =>
        if (5 : Int32) < x2 then (
          (F_X9_comingByChance s9 a0 x6 x12).bind fun s13 =>
          some s13
        ) else (
          (F_X9_letterByChance s9 a0 x6 x12).bind fun s14 =>
          some s14
        )
      ) fun j11 =>
      if x10 = x6 then (
        (gR s9 a0 9 0).bind fun p15 =>
        (F_X8_nextSite s9 p15 x6).bind fun x16 =>
        j11 x16
      ) else (
        j11 x10
      )
    )
  ) else (
    (F_X9_inByChance s5 a0 x6).bind fun s18 =>
    some s18
  )
def F_X9_chance_L44 (pL0 : Nat) (xL2 : Int32) : Nat → Int32 → Sto → (Sto → Option ((Int32 ⊕ String) × Sto)) → Option ((Int32 ⊕ String) × Sto)
  | 0, _, _, _ => none
  | f + 1, xL4, sL, k60 =>
    if xL2 ≤ xL4 then (
      k60 sL
    ) else (
      (F_X9_doByChance sL pL0).bind fun s5 =>
      F_X9_chance_L44 pL0 xL2 f (xL4 + (1 : Int32)) s5 k60
    )
def F_X9_chance (σ : Sto) (a0 : Nat) (xa1 : Int32) (xa2 : Int32) : Option ((Int32 ⊕ String) × Sto) :=
  chk σ a0 9 <|
  if xa1 < 0 then (
    some (.inr "java/lang/IllegalArgumentException", (σ.1 ++ [none], σ.2 + 6))
  ) else (
    if xa2 < 0 then (
      some (.inr "java/lang/IllegalArgumentException", (σ.1 ++ [none], σ.2 + 6))
    ) else (
      if xa2 ≤ (60 : Int32) then (
        (sV σ a0 9 5 (.long xa1.toInt64)).bind fun s1 =>
        (gR s1 a0 9 0).bind fun p2 =>
        (gR s1 p2 8 6).bind fun p3 =>
        (gI s1 p3 2 0).bind fun x4 =>
        F_X9_chance_L44 a0 xa2 fu (0 : Int32) s1
          (fun s6 =>
            (gR s6 a0 9 0).bind fun p7 =>
            (gR s6 p7 8 6).bind fun p8 =>
            (gI s6 p8 2 0).bind fun x9 =>
            some (.inl (x9 - x4), s6)
          )
      ) else (
        some (.inr "java/lang/IllegalArgumentException", (σ.1 ++ [none], σ.2 + 6))
      )
    )
  )
def F_X9_needImage (σ : Sto) (a0 : Nat) (xa1 : Int32) : Option ((Unit ⊕ String) × Sto) :=
  chk σ a0 9 <|
  if xa1 < 0 then (
    some (.inr "java/lang/IllegalArgumentException", (σ.1 ++ [none], σ.2 + 6))
  ) else (
    if xa1 < (2 : Int32) then (
      some (.inl (), σ)
    ) else (
      some (.inr "java/lang/IllegalArgumentException", (σ.1 ++ [none], σ.2 + 6))
    )
  )
def F_X9_keep (σ : Sto) (a0 : Nat) (xa1 : Int32) : Option ((Int32 ⊕ String) × Sto) :=
  chk σ a0 9 <|
  tb (F_X9_needImage σ a0 xa1) fun _ s1 =>
  (gR s1 a0 9 1).bind fun p2 =>
  (aald s1 p2 7 xa1).bind fun p3 =>
  oe p3 (
    nw_ s1 (.inl (8, dfl_8)) 11 fun p6 s5 =>
    (F_X8_init s5 p6).bind fun s7 =>
    (gR s7 a0 9 1).bind fun p8 =>
    (aast s7 p8 7 xa1 p6).bind fun s9 =>
    (gR s9 a0 9 0).bind fun p10 =>
    (F_X8_copyOf s9 p6 p10).bind fun s11 =>
    (gR s11 a0 9 0).bind fun p12 =>
    (gR s11 p12 8 6).bind fun p13 =>
    (gI s11 p13 2 0).bind fun x14 =>
    some (.inl x14, s11)
  ) (fun p4 =>
    (gR s1 a0 9 0).bind fun p15 =>
    (F_X8_copyOf s1 p4 p15).bind fun s16 =>
    (gR s16 a0 9 0).bind fun p17 =>
    (gR s16 p17 8 6).bind fun p18 =>
    (gI s16 p18 2 0).bind fun x19 =>
    some (.inl x19, s16)
  )
def F_X9_back (σ : Sto) (a0 : Nat) (xa1 : Int32) : Option ((Int32 ⊕ String) × Sto) :=
  chk σ a0 9 <|
  tb (F_X9_needImage σ a0 xa1) fun _ s1 =>
  (gR s1 a0 9 1).bind fun p2 =>
  (aald s1 p2 7 xa1).bind fun p3 =>
  oe p3 (
    some (.inr "java/util/NoSuchElementException", (s1.1 ++ [none], s1.2 + 6))
  ) (fun p4 =>
    (gR s1 a0 9 0).bind fun p5 =>
    (F_X8_copyOf s1 p5 p4).bind fun s6 =>
    (gR s6 a0 9 2).bind fun p7 =>
    (F_X7_forget s6 p7).bind fun s8 =>
    (gR s8 a0 9 0).bind fun p9 =>
    (gR s8 p9 8 6).bind fun p10 =>
    (gI s8 p10 2 0).bind fun x11 =>
    some (.inl x11, s8)
  )
def F_X9_cut (σ : Sto) (a0 : Nat) (xa1 : Int32) (xa2 : Int32) (xa3 : Int32) : Option ((Int32 ⊕ String) × Sto) :=
  chk σ a0 9 <|
  tb (F_X9_needTwoSites σ a0 xa1 xa2) fun _ s1 =>
  (gR s1 a0 9 0).bind fun p2 =>
  (F_X8_isCut s1 p2 xa1 xa2).bind fun x3 =>
  if x3 = xa3 then (
    some (.inl (0 : Int32), s1)
  ) else (
    (gR s1 a0 9 0).bind fun p4 =>
    (F_X8_setLink s1 p4 xa1 xa2 xa3).bind fun s5 =>
    wb (F_X9_traced s5 a0 (9 : Int32) xa1 (1 : Int32)) fun x7 s6 =>
    some (.inl (1 : Int32), s6)
  )
def F_X9_view (σ : Sto) (a0 : Nat) (xa1 : Int32) (xa2 : Int32) (xa3 : Int32) : Option ((Int32 ⊕ String) × Sto) :=
  chk σ a0 9 <|
  tb (F_X9_needSite σ a0 xa1) fun _ s1 =>
  (gR s1 a0 9 0).bind fun p2 =>
  (gR s1 p2 8 7).bind fun p3 =>
  (aaldR s1 p3 4 xa1).bind fun p4 =>
  (gR s1 p4 6 0).bind fun p5 =>
  (F_X1_nth s1 p5 xa2).bind fun x6 =>
  if x6 = (-1 : Int32) then (
    some (.inr "java/util/NoSuchElementException", (s1.1 ++ [none], s1.2 + 6))
  ) else (
    tb (F_X9_needWhat s1 a0 xa3 (2 : Int32)) fun _ s7 =>
    if xa3 = 0 then (
      some (.inl x6, s7)
    ) else (
      (gR s7 a0 9 0).bind fun p8 =>
      (gR s7 p8 8 6).bind fun p9 =>
      (gR s7 p9 2 5).bind fun p10 =>
      (iald s7 p10 x6).bind fun x11 =>
      some (.inl x11, s7)
    )
  )
def F_X9_named_L28 (sL : Sto) (pL0 : Nat) (xL1 : Int32) (xL2 : Int32) : Nat → Int32 → Int32 → Int32 → Int32 → (Int32 → Int32 → Int32 → Option ((Int32 ⊕ String) × Sto)) → Option ((Int32 ⊕ String) × Sto)
  | 0, _, _, _, _, _ => none
  | f + 1, xL4, xL5, xL6, xL7, k108 =>
    (gR sL pL0 9 0).bind fun p4 =>
    (gR sL p4 8 6).bind fun p5 =>
    (gI sL p5 2 0).bind fun x6 =>
    if x6 ≤ xL7 then (
      k108 xL4 xL5 xL6
    ) else (
      (gR sL pL0 9 0).bind fun p7 =>
      (gR sL p7 8 7).bind fun p8 =>
      (aaldR sL p8 4 xL1).bind fun p9 =>
      (gR sL p9 6 0).bind fun p10 =>
      (F_X1_holds sL p10 xL7).bind fun x11 =>
      if x11 = 0 then (
        F_X9_named_L28 sL pL0 xL1 xL2 f xL4 xL5 xL6 (xL7 + (1 : Int32)) k108
      ) else (
        (gR sL pL0 9 0).bind fun p12 =>
        (gR sL p12 8 6).bind fun p13 =>
        (gR sL p13 2 5).bind fun p14 =>
        (iald sL p14 xL7).bind fun x15 =>
        if x15 = xL2 then (
          jn (fun (x17 : Int32) =>
            F_X9_named_L28 sL pL0 xL1 xL2 f (xL4 + (1 : Int32)) x17 xL7 (xL7 + (1 : Int32)) k108
          ) fun j16 =>
          if xL5 = (-1 : Int32) then (
            j16 xL7
          ) else (
            j16 xL5
          )
        ) else (
          F_X9_named_L28 sL pL0 xL1 xL2 f xL4 xL5 xL6 (xL7 + (1 : Int32)) k108
        )
      )
    )
def F_X9_named (σ : Sto) (a0 : Nat) (xa1 : Int32) (xa2 : Int32) (xa3 : Int32) : Option ((Int32 ⊕ String) × Sto) :=
  chk σ a0 9 <|
  tb (F_X9_needSite σ a0 xa1) fun _ s1 =>
  tb (F_X9_needName s1 a0 xa2) fun _ s2 =>
  tb (F_X9_needWhat s2 a0 xa3 (3 : Int32)) fun _ s3 =>
  F_X9_named_L28 s3 a0 xa1 xa2 fu (0 : Int32) (-1 : Int32) (-1 : Int32) (0 : Int32)
    (fun x18 x19 x20 =>
      if xa3 = 0 then (
        some (.inl x18, s3)
      ) else (
        if xa3 = (1 : Int32) then (
          some (.inl x19, s3)
        ) else (
          some (.inl x20, s3)
        )
      )
    )
def F_X9_log (σ : Sto) (a0 : Nat) (xa1 : Int32) (xa2 : Int32) : Option ((Int32 ⊕ String) × Sto) :=
  chk σ a0 9 <|
  tb (F_X9_needSite σ a0 xa1) fun _ s1 =>
  if xa2 < 0 then (
    some (.inr "java/util/NoSuchElementException", (s1.1 ++ [none], s1.2 + 6))
  ) else (
    (gR s1 a0 9 0).bind fun p2 =>
    (gR s1 p2 8 7).bind fun p3 =>
    (aaldR s1 p3 4 xa1).bind fun p4 =>
    (gI s1 p4 6 3).bind fun x5 =>
    if xa2 < x5 then (
      (gR s1 a0 9 0).bind fun p6 =>
      (gR s1 p6 8 7).bind fun p7 =>
      (aaldR s1 p7 4 xa1).bind fun p8 =>
      (gR s1 p8 6 2).bind fun p9 =>
      (iald s1 p9 xa2).bind fun x10 =>
      some (.inl x10, s1)
    ) else (
      some (.inr "java/util/NoSuchElementException", (s1.1 ++ [none], s1.2 + 6))
    )
  )
def F_X9_table (σ : Sto) (a0 : Nat) (xa1 : Int32) (xa2 : Int32) (xa3 : Int32) : Option ((Int32 ⊕ String) × Sto) :=
  chk σ a0 9 <|
  tb (F_X9_needSite σ a0 xa1) fun _ s1 =>
  tb (F_X9_needSite s1 a0 xa2) fun _ s2 =>
  tb (F_X9_needSite s2 a0 xa3) fun _ s3 =>
  (gR s3 a0 9 0).bind fun p4 =>
  (gR s3 p4 8 7).bind fun p5 =>
  (aaldR s3 p5 4 xa1).bind fun p6 =>
  (gR s3 p6 6 4).bind fun p7 =>
  (F_X9_cell xa2 xa3).bind fun x8 =>
  (iald s3 p7 x8).bind fun x9 =>
  some (.inl x9, s3)
def F_X9_needEvent (σ : Sto) (a0 : Nat) (xa1 : Int32) : Option ((Unit ⊕ String) × Sto) :=
  chk σ a0 9 <|
  (gR σ a0 9 0).bind fun p1 =>
  (gR σ p1 8 6).bind fun p2 =>
  (F_X2_contains σ p2 xa1).bind fun x3 =>
  if x3 = 0 then (
    some (.inr "java/lang/IndexOutOfBoundsException", (σ.1 ++ [none], σ.2 + 6))
  ) else (
    some (.inl (), σ)
  )
def F_X9_knows (σ : Sto) (a0 : Nat) (xa1 : Int32) (xa2 : Int32) (xa3 : Int32) : Option ((Int32 ⊕ String) × Sto) :=
  chk σ a0 9 <|
  tb (F_X9_needSite σ a0 xa1) fun _ s1 =>
  tb (F_X9_needSite s1 a0 xa2) fun _ s2 =>
  tb (F_X9_needEvent s2 a0 xa3) fun _ s3 =>
  (gR s3 a0 9 0).bind fun p4 =>
  (gR s3 p4 8 7).bind fun p5 =>
  (aaldR s3 p5 4 xa1).bind fun p6 =>
  (gR s3 a0 9 0).bind fun p7 =>
  (gR s3 p7 8 6).bind fun p8 =>
  (F_X6_isKnown s3 p6 p8 xa2 xa3).bind fun x9 =>
  if x9 = 0 ∨ x9 = 1 then some (.inl x9, s3) else none
def F_X9_has (σ : Sto) (a0 : Nat) (xa1 : Int32) (xa2 : Int32) : Option ((Int32 ⊕ String) × Sto) :=
  chk σ a0 9 <|
  tb (F_X9_needSite σ a0 xa1) fun _ s1 =>
  tb (F_X9_needEvent s1 a0 xa2) fun _ s2 =>
  (gR s2 a0 9 0).bind fun p3 =>
  (gR s2 p3 8 7).bind fun p4 =>
  (aaldR s2 p4 4 xa1).bind fun p5 =>
  (gR s2 p5 6 1).bind fun p6 =>
  (F_X1_holds s2 p6 xa2).bind fun x7 =>
  if x7 = 0 ∨ x7 = 1 then some (.inl x7, s2) else none
def F_X9_site (σ : Sto) (a0 : Nat) (xa1 : Int32) (xa2 : Int32) : Option ((Int32 ⊕ String) × Sto) :=
  chk σ a0 9 <|
  tb (F_X9_needSite σ a0 xa1) fun _ s1 =>
  tb (F_X9_needWhat s1 a0 xa2 (8 : Int32)) fun _ s2 =>
  (gR s2 a0 9 0).bind fun p3 =>
  (gR s2 p3 8 7).bind fun p4 =>
  (aaldR s2 p4 4 xa1).bind fun p5 =>
  if xa2 = (0 : Int32) then (
    (gR s2 a0 9 0).bind fun p6 =>
    (gR s2 p6 8 6).bind fun p7 =>
    (gR s2 p7 2 1).bind fun p8 =>
    (iald s2 p8 xa1).bind fun x9 =>
    some (.inl x9, s2)
  ) else (
  if xa2 = (1 : Int32) then (
    (gR s2 p5 6 0).bind fun p10 =>
    (F_X1_size s2 p10).bind fun x11 =>
    some (.inl x11, s2)
  ) else (
  if xa2 = (2 : Int32) then (
    (gI s2 p5 6 3).bind fun x12 =>
    some (.inl x12, s2)
  ) else (
  if xa2 = (3 : Int32) then (
    (gR s2 p5 6 1).bind fun p13 =>
    (F_X1_size s2 p13).bind fun x14 =>
    some (.inl x14, s2)
  ) else (
  if xa2 = (4 : Int32) then (
    (gR s2 a0 9 3).bind fun p15 =>
    wb (F_X5_overstatedAt s2 p15 xa1) fun x17 s16 =>
    some (.inl x17, s16)
  ) else (
  if xa2 = (5 : Int32) then (
    (gR s2 a0 9 3).bind fun p18 =>
    wb (F_X5_lostTo s2 p18 xa1) fun x20 s19 =>
    some (.inl x20, s19)
  ) else (
  if xa2 = (6 : Int32) then (
    (gR s2 a0 9 3).bind fun p21 =>
    wb (F_X5_heldByAll s2 p21) fun x23 s22 =>
    some (.inl x23, s22)
  ) else (
    (gR s2 a0 9 3).bind fun p24 =>
    wb (F_X5_heldByAllInLog s2 p24 xa1) fun x26 s25 =>
    some (.inl x26, s25)
  )))))))
def F_X9_unlike (σ : Sto) (a0 : Nat) (xa1 : Int32) (xa2 : Int32) : Option ((Int32 ⊕ String) × Sto) :=
  chk σ a0 9 <|
  tb (F_X9_needTwoSites σ a0 xa1 xa2) fun _ s1 =>
  (gR s1 a0 9 0).bind fun p2 =>
  (gR s1 p2 8 7).bind fun p3 =>
  (aaldR s1 p3 4 xa1).bind fun p4 =>
  (gR s1 p4 6 0).bind fun p5 =>
  (F_X1_size s1 p5).bind fun x6 =>
  (gR s1 a0 9 0).bind fun p7 =>
  (gR s1 p7 8 7).bind fun p8 =>
  (aaldR s1 p8 4 xa2).bind fun p9 =>
  (gR s1 p9 6 0).bind fun p10 =>
  (F_X1_shared s1 p5 p10).bind fun x11 =>
  some (.inl (x6 - x11), s1)
def F_X9_would (σ : Sto) (a0 : Nat) (xa1 : Int32) (xa2 : Int32) (xa3 : Int32) : Option ((Int32 ⊕ String) × Sto) :=
  chk σ a0 9 <|
  tb (F_X9_needTwoSites σ a0 xa1 xa2) fun _ s1 =>
  tb (F_X9_needWhat s1 a0 xa3 (3 : Int32)) fun _ s2 =>
  (gR s2 a0 9 3).bind fun p3 =>
  wb (F_X5_wouldCarry s2 p3 xa1 xa2 xa3) fun x5 s4 =>
  some (.inl x5, s4)
def F_X9_event (σ : Sto) (a0 : Nat) (xa1 : Int32) (xa2 : Int32) : Option ((Int32 ⊕ String) × Sto) :=
  chk σ a0 9 <|
  tb (F_X9_needEvent σ a0 xa1) fun _ s1 =>
  tb (F_X9_needWhat s1 a0 xa2 (9 : Int32)) fun _ s2 =>
  (gR s2 a0 9 0).bind fun p3 =>
  (gR s2 p3 8 6).bind fun p4 =>
  if xa2 = (0 : Int32) then (
    (gR s2 p4 2 2).bind fun p5 =>
    (iald s2 p5 xa1).bind fun x6 =>
    some (.inl x6, s2)
  ) else (
  if xa2 = (1 : Int32) then (
    (gR s2 p4 2 3).bind fun p7 =>
    (iald s2 p7 xa1).bind fun x8 =>
    some (.inl x8, s2)
  ) else (
  if xa2 = (2 : Int32) then (
    (F_X2_isOut s2 p4 xa1).bind fun x9 =>
    if x9 = 0 then (
      some (.inl (0 : Int32), s2)
    ) else (
      some (.inl (1 : Int32), s2)
    )
  ) else (
  if xa2 = (3 : Int32) then (
    (gR s2 p4 2 4).bind fun p10 =>
    (iald s2 p10 xa1).bind fun x11 =>
    some (.inl x11, s2)
  ) else (
  if xa2 = (4 : Int32) then (
    (gR s2 p4 2 5).bind fun p12 =>
    (iald s2 p12 xa1).bind fun x13 =>
    some (.inl x13, s2)
  ) else (
  if xa2 = (5 : Int32) then (
    (gR s2 a0 9 0).bind fun p14 =>
    (F_X8_holders s2 p14 xa1).bind fun x15 =>
    some (.inl x15, s2)
  ) else (
  if xa2 = (6 : Int32) then (
    (gR s2 a0 9 0).bind fun p16 =>
    (F_X8_logsWith s2 p16 xa1).bind fun x17 =>
    some (.inl x17, s2)
  ) else (
  if xa2 = (7 : Int32) then (
    (gR s2 p4 2 7).bind fun p18 =>
    (iald s2 p18 xa1).bind fun x19 =>
    some (.inl x19, s2)
  ) else (
    (F_X2_concurrentWith s2 p4 xa1).bind fun x20 =>
    some (.inl x20, s2)
  ))))))))
def F_X9_ahead (σ : Sto) (a0 : Nat) (xa1 : Int32) (xa2 : Int32) : Option ((Int32 ⊕ String) × Sto) :=
  chk σ a0 9 <|
  tb (F_X9_needEvent σ a0 xa1) fun _ s1 =>
  tb (F_X9_needEvent s1 a0 xa2) fun _ s2 =>
  (gR s2 a0 9 0).bind fun p3 =>
  (gR s2 p3 8 6).bind fun p4 =>
  (F_X2_isAhead s2 p4 xa1 xa2).bind fun x5 =>
  if x5 = 0 ∨ x5 = 1 then some (.inl x5, s2) else none
def F_X9_wide (σ : Sto) (a0 : Nat) (xa1 : Int32) : Option ((Int32 ⊕ String) × Sto) :=
  chk σ a0 9 <|
  tb (F_X9_needWhat σ a0 xa1 (3 : Int32)) fun _ s1 =>
  if xa1 = 0 then (
    (gR s1 a0 9 0).bind fun p9 =>
    (gR s1 p9 8 6).bind fun p10 =>
    (F_X2_concurrentCouples s1 p10).bind fun x11 =>
    some (.inl x11, s1)
  ) else (
    (gR s1 a0 9 0).bind fun p2 =>
    (gR s1 p2 8 6).bind fun p3 =>
    (F_X2_highest s1 p3).bind fun x4 =>
    if xa1 = (2 : Int32) then (
      some (.inl x4, s1)
    ) else (
      if x4 = (-1 : Int32) then (
        some (.inl (0 : Int32), s1)
      ) else (
        (gR s1 a0 9 0).bind fun p5 =>
        (gR s1 p5 8 6).bind fun p6 =>
        (gR s1 p6 2 7).bind fun p7 =>
        (iald s1 p7 x4).bind fun x8 =>
        some (.inl x8, s1)
      )
    )
  )
def F_X9_came (σ : Sto) (a0 : Nat) (xa1 : Int32) (xa2 : Int32) (xa3 : Int32) : Option ((Int32 ⊕ String) × Sto) :=
  chk σ a0 9 <|
  tb (F_X9_needSite σ a0 xa1) fun _ s1 =>
  tb (F_X9_needEvent s1 a0 xa2) fun _ s2 =>
  tb (F_X9_needWhat s2 a0 xa3 (2 : Int32)) fun _ s3 =>
  (gR s3 a0 9 0).bind fun p4 =>
  (gR s3 p4 8 7).bind fun p5 =>
  (aaldR s3 p5 4 xa1).bind fun p6 =>
  (gR s3 p6 6 1).bind fun p7 =>
  (F_X1_holds s3 p7 xa2).bind fun x8 =>
  if x8 = 0 then (
    some (.inl (-1 : Int32), s3)
  ) else (
    if xa3 = 0 then (
      (gR s3 p6 6 5).bind fun p11 =>
      (iald s3 p11 xa2).bind fun x12 =>
      some (.inl x12, s3)
    ) else (
      (gR s3 p6 6 6).bind fun p9 =>
      (iald s3 p9 xa2).bind fun x10 =>
      some (.inl x10, s3)
    )
  )
def F_X9_way (σ : Sto) (a0 : Nat) (xa1 : Int32) (xa2 : Int32) (xa3 : Int32) : Option ((Int32 ⊕ String) × Sto) :=
  chk σ a0 9 <|
  tb (F_X9_needSite σ a0 xa1) fun _ s1 =>
  tb (F_X9_needEvent s1 a0 xa2) fun _ s2 =>
  (gR s2 a0 9 0).bind fun p3 =>
  (F_X8_wayOf s2 p3 xa1 xa2 xa3).bind fun x4 =>
  some (.inl x4, s2)
def F_X9_slowest (σ : Sto) (a0 : Nat) (xa1 : Int32) : Option ((Int32 ⊕ String) × Sto) :=
  chk σ a0 9 <|
  tb (F_X9_needWhat σ a0 xa1 (2 : Int32)) fun _ s1 =>
  (gR s1 a0 9 0).bind fun p2 =>
  (F_X8_slowestEvent s1 p2).bind fun x3 =>
  if x3 = (-1 : Int32) then (
    some (.inl x3, s1)
  ) else (
    if xa1 = (1 : Int32) then (
      some (.inl x3, s1)
    ) else (
      (gR s1 a0 9 0).bind fun p4 =>
      (F_X8_stepsToAll s1 p4 x3).bind fun x5 =>
      some (.inl x5, s1)
    )
  )
def F_X9_chain (σ : Sto) (a0 : Nat) (xa1 : Int32) (xa2 : Int32) : Option ((Int32 ⊕ String) × Sto) :=
  chk σ a0 9 <|
  tb (F_X9_needEvent σ a0 xa1) fun _ s1 =>
  (gR s1 a0 9 3).bind fun p2 =>
  wb (F_X5_inLongestRow s1 p2 xa1 xa2) fun x4 s3 =>
  some (.inl x4, s3)
def F_X9_between_L15 (sL : Sto) (pL0 : Nat) (xL1 : Int32) (xL2 : Int32) : Nat → Int32 → Int32 → (Int32 → Option ((Int32 ⊕ String) × Sto)) → Option ((Int32 ⊕ String) × Sto)
  | 0, _, _, _ => none
  | f + 1, xL3, xL4, k71 =>
    (gR sL pL0 9 0).bind fun p3 =>
    (gR sL p3 8 6).bind fun p4 =>
    (gI sL p4 2 0).bind fun x5 =>
    if x5 ≤ xL4 then (
      k71 xL3
    ) else (
      (gR sL pL0 9 0).bind fun p6 =>
      (gR sL p6 8 6).bind fun p7 =>
      (F_X2_isAhead sL p7 xL1 xL4).bind fun x8 =>
      if x8 = 0 then (
        F_X9_between_L15 sL pL0 xL1 xL2 f xL3 (xL4 + (1 : Int32)) k71
      ) else (
        (gR sL pL0 9 0).bind fun p9 =>
        (gR sL p9 8 6).bind fun p10 =>
        (F_X2_isAhead sL p10 xL4 xL2).bind fun x11 =>
        if x11 = 0 then (
          F_X9_between_L15 sL pL0 xL1 xL2 f xL3 (xL4 + (1 : Int32)) k71
        ) else (
          F_X9_between_L15 sL pL0 xL1 xL2 f (xL3 + (1 : Int32)) (xL4 + (1 : Int32)) k71
        )
      )
    )
def F_X9_between (σ : Sto) (a0 : Nat) (xa1 : Int32) (xa2 : Int32) : Option ((Int32 ⊕ String) × Sto) :=
  chk σ a0 9 <|
  tb (F_X9_needEvent σ a0 xa1) fun _ s1 =>
  tb (F_X9_needEvent s1 a0 xa2) fun _ s2 =>
  F_X9_between_L15 s2 a0 xa1 xa2 fu (0 : Int32) (0 : Int32)
    (fun x12 =>
      some (.inl x12, s2)
    )
def F_X9_front (σ : Sto) (a0 : Nat) (xa1 : Int32) (xa2 : Int32) : Option ((Int32 ⊕ String) × Sto) :=
  chk σ a0 9 <|
  tb (F_X9_needSite σ a0 xa1) fun _ s1 =>
  (gR s1 a0 9 3).bind fun p2 =>
  wb (F_X5_frontOf s1 p2 xa1) fun p4 s3 =>
  if xa2 = (-1 : Int32) then (
    (F_X1_size s3 p4).bind fun x6 =>
    some (.inl x6, s3)
  ) else (
    (F_X1_nth s3 p4 xa2).bind fun x5 =>
    some (.inl x5, s3)
  )
def F_X9_only (σ : Sto) (a0 : Nat) (xa1 : Int32) (xa2 : Int32) (xa3 : Int32) : Option ((Int32 ⊕ String) × Sto) :=
  chk σ a0 9 <|
  tb (F_X9_needTwoSites σ a0 xa1 xa2) fun _ s1 =>
  (gR s1 a0 9 3).bind fun p2 =>
  wb (F_X5_onlyAt s1 p2 xa1 xa2) fun p4 s3 =>
  (F_X1_nth s3 p4 xa3).bind fun x5 =>
  some (.inl x5, s3)
def F_X9_sure_L36 (sL : Sto) (pL0 : Nat) (xL1 : Int32) (xL2 : Int32) : Nat → Int32 → Int32 → (Int32 → Option ((Int32 ⊕ String) × Sto)) → Option ((Int32 ⊕ String) × Sto)
  | 0, _, _, _ => none
  | f + 1, xL3, xL4, k112 =>
    (gR sL pL0 9 0).bind fun p4 =>
    (gR sL p4 8 6).bind fun p5 =>
    (gI sL p5 2 0).bind fun x6 =>
    if x6 ≤ xL4 then (
      k112 xL3
    ) else (
      (gR sL pL0 9 0).bind fun p7 =>
      (gR sL p7 8 7).bind fun p8 =>
      (aaldR sL p8 4 xL1).bind fun p9 =>
      (gR sL p9 6 1).bind fun p10 =>
      (F_X1_holds sL p10 xL4).bind fun x11 =>
      if x11 = 0 then (
        F_X9_sure_L36 sL pL0 xL1 xL2 f xL3 (xL4 + (1 : Int32)) k112
      ) else (
        (gR sL pL0 9 0).bind fun p12 =>
        (gR sL p12 8 7).bind fun p13 =>
        (aaldR sL p13 4 xL1).bind fun p14 =>
        (gR sL pL0 9 0).bind fun p15 =>
        (gR sL p15 8 6).bind fun p16 =>
        (gR sL pL0 9 0).bind fun p17 =>
        (gI sL p17 8 0).bind fun x18 =>
        (F_X6_sitesThatKnow sL p14 p16 xL4 x18).bind fun x19 =>
        if x19 < xL2 then (
          F_X9_sure_L36 sL pL0 xL1 xL2 f xL3 (xL4 + (1 : Int32)) k112
        ) else (
          F_X9_sure_L36 sL pL0 xL1 xL2 f (xL3 + (1 : Int32)) (xL4 + (1 : Int32)) k112
        )
      )
    )
def F_X9_sure (σ : Sto) (a0 : Nat) (xa1 : Int32) (xa2 : Int32) : Option ((Int32 ⊕ String) × Sto) :=
  chk σ a0 9 <|
  tb (F_X9_needSite σ a0 xa1) fun _ s1 =>
  if xa2 < 0 then (
    some (.inr "java/lang/IllegalArgumentException", (s1.1 ++ [none], s1.2 + 6))
  ) else (
    (gR s1 a0 9 0).bind fun p2 =>
    (gI s1 p2 8 0).bind fun x3 =>
    if xa2 ≤ x3 then (
      F_X9_sure_L36 s1 a0 xa1 xa2 fu (0 : Int32) (0 : Int32)
        (fun x20 =>
          some (.inl x20, s1)
        )
    ) else (
      some (.inr "java/lang/IllegalArgumentException", (s1.1 ++ [none], s1.2 + 6))
    )
  )
def F_X9_part (σ : Sto) (a0 : Nat) (xa1 : Int32) : Option ((Int32 ⊕ String) × Sto) :=
  chk σ a0 9 <|
  if xa1 = (-1 : Int32) then (
    (gR σ a0 9 0).bind fun p4 =>
    (F_X8_parts σ p4).bind fun x5 =>
    some (.inl x5, σ)
  ) else (
    tb (F_X9_needSite σ a0 xa1) fun _ s1 =>
    (gR s1 a0 9 0).bind fun p2 =>
    (F_X8_partOf s1 p2 xa1).bind fun x3 =>
    some (.inl x3, s1)
  )
def F_X9_trace (σ : Sto) (a0 : Nat) (xa1 : Int32) (xa2 : Int32) : Option ((Int32 ⊕ String) × Sto) :=
  chk σ a0 9 <|
  if xa1 < 0 then (
    some (.inr "java/util/NoSuchElementException", (σ.1 ++ [none], σ.2 + 6))
  ) else (
    (gR σ a0 9 2).bind fun p1 =>
    (gI σ p1 7 0).bind fun x2 =>
    if xa1 < x2 then (
      tb (F_X9_needWhat σ a0 xa2 (4 : Int32)) fun _ s3 =>
      (gR s3 a0 9 2).bind fun p4 =>
      (F_X7_told s3 p4 xa1 xa2).bind fun x5 =>
      some (.inl x5, s3)
    ) else (
      some (.inr "java/util/NoSuchElementException", (σ.1 ++ [none], σ.2 + 6))
    )
  )
def F_X9_gossip (σ : Sto) (a0 : Nat) (xa1 : Int32) : Option ((Int32 ⊕ String) × Sto) :=
  chk σ a0 9 <|
  tb (F_X9_needWhat σ a0 xa1 (4 : Int32)) fun _ s1 =>
  (gR s1 a0 9 3).bind fun p2 =>
  wb (F_X5_playGossip s1 p2 xa1) fun x4 s3 =>
  some (.inl x4, s3)
def F_X9_falling (σ : Sto) (a0 : Nat) (xa1 : Int32) (xa2 : Int32) : Option ((Int32 ⊕ String) × Sto) :=
  chk σ a0 9 <|
  tb (F_X9_needSite σ a0 xa1) fun _ s1 =>
  tb (F_X9_needWhat s1 a0 xa2 (4 : Int32)) fun _ s2 =>
  (gR s2 a0 9 3).bind fun p3 =>
  wb (F_X5_ifFallen s2 p3 xa1 xa2) fun x5 s4 =>
  some (.inl x5, s4)
def F_X9_joining (σ : Sto) (a0 : Nat) (xa1 : Int32) (xa2 : Int32) (xa3 : Int32) : Option ((Int32 ⊕ String) × Sto) :=
  chk σ a0 9 <|
  tb (F_X9_needTwoSites σ a0 xa1 xa2) fun _ s1 =>
  tb (F_X9_needWhat s1 a0 xa3 (4 : Int32)) fun _ s2 =>
  (gR s2 a0 9 3).bind fun p3 =>
  wb (F_X5_ifJoined s2 p3 xa1 xa2 xa3) fun x5 s4 =>
  some (.inl x5, s4)
def F_X9_best (σ : Sto) (a0 : Nat) (xa1 : Int32) : Option ((Int32 ⊕ String) × Sto) :=
  chk σ a0 9 <|
  tb (F_X9_needSite σ a0 xa1) fun _ s1 =>
  (gR s1 a0 9 3).bind fun p2 =>
  wb (F_X5_bestToJoin s1 p2 xa1) fun x4 s3 =>
  some (.inl x4, s3)
def F_X9_count (σ : Sto) (a0 : Nat) (xa1 : Int32) : Option (Int32 × Sto) :=
  chk σ a0 9 <|
  if xa1 = (0 : Int32) then (
    (gR σ a0 9 0).bind fun p1 =>
    (gI σ p1 8 0).bind fun x2 =>
    some (x2, σ)
  ) else (
  if xa1 = (1 : Int32) then (
    (gR σ a0 9 0).bind fun p3 =>
    (gI σ p3 8 1).bind fun x4 =>
    some (x4, σ)
  ) else (
  if xa1 = (2 : Int32) then (
    (gR σ a0 9 0).bind fun p5 =>
    (gR σ p5 8 6).bind fun p6 =>
    (gI σ p6 2 0).bind fun x7 =>
    some (x7, σ)
  ) else (
  if xa1 = (3 : Int32) then (
    (gR σ a0 9 0).bind fun p8 =>
    (F_X8_lettersThatWait σ p8).bind fun x9 =>
    some (x9, σ)
  ) else (
  if xa1 = (4 : Int32) then (
    (gR σ a0 9 0).bind fun p10 =>
    (gI σ p10 8 3).bind fun x11 =>
    some (x11, σ)
  ) else (
  if xa1 = (5 : Int32) then (
    (gR σ a0 9 0).bind fun p12 =>
    (gI σ p12 8 4).bind fun x13 =>
    some (x13, σ)
  ) else (
  if xa1 = (6 : Int32) then (
    (gR σ a0 9 0).bind fun p14 =>
    (gI σ p14 8 5).bind fun x15 =>
    some (x15, σ)
  ) else (
  if xa1 = (7 : Int32) then (
    (gR σ a0 9 3).bind fun p16 =>
    wb (F_X5_overstatedCells σ p16) fun x18 s17 =>
    some (x18, s17)
  ) else (
  if xa1 = (8 : Int32) then (
    (gR σ a0 9 3).bind fun p19 =>
    wb (F_X5_firstOverstated σ p19) fun x21 s20 =>
    some (x21, s20)
  ) else (
  if xa1 = (9 : Int32) then (
    (gR σ a0 9 3).bind fun p22 =>
    wb (F_X5_lostInAll σ p22) fun x24 s23 =>
    some (x24, s23)
  ) else (
  if xa1 = (10 : Int32) then (
    (gR σ a0 9 3).bind fun p25 =>
    wb (F_X5_heldByAll σ p25) fun x27 s26 =>
    some (x27, s26)
  ) else (
  if xa1 = (11 : Int32) then (
    (gR σ a0 9 0).bind fun p28 =>
    (F_X8_viewsAreAlike σ p28).bind fun x29 =>
    if x29 = 0 then (
      some ((0 : Int32), σ)
    ) else (
      some ((1 : Int32), σ)
    )
  ) else (
  if xa1 = (12 : Int32) then (
    (gR σ a0 9 0).bind fun p30 =>
    (gI σ p30 8 2).bind fun x31 =>
    some (x31, σ)
  ) else (
  if xa1 = (13 : Int32) then (
    (gR σ a0 9 0).bind fun p32 =>
    (F_X8_cutLinks σ p32).bind fun x33 =>
    some (x33, σ)
  ) else (
    some ((-1 : Int32), σ)
  ))))))))))))))
