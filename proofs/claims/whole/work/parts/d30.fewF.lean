/-! ===== FUNCTIONS of the methods (d30.few); printed by wip/whole/gen/emit.py ===== -/
def F_X0_search_L54 (rec : Sto → Nat → Int32 → Int32 → Option (Int32 × Sto)) (pL0 : Nat) (xL1 : Int32) (xL2 : Int32) (xL4 : Int32) : Nat → Int32 → Sto → (Sto → Option (Int32 × Sto)) → Option (Int32 × Sto)
  | 0, _, _, _ => none
  | f + 1, xL5, sL, k97 =>
    (gR sL pL0 0 2).bind fun p4 =>
    (gI sL p4 8 0).bind fun x5 =>
    if x5 ≤ xL5 then (
      k97 sL
    ) else (
      wb (F_X0_tell sL pL0 xL1 xL4 xL5) fun x7 s6 =>
      if x7 = 0 then (
        F_X0_search_L54 rec pL0 xL1 xL2 xL4 f (xL5 + (1 : Int32)) s6 k97
      ) else (
        wb (rec s6 pL0 (xL1 + (1 : Int32)) xL2) fun x9 s8 =>
        if x9 = 0 then (
          F_X0_search_L54 rec pL0 xL1 xL2 xL4 f (xL5 + (1 : Int32)) s8 k97
        ) else (
          some ((1 : Int32), s8)
        )
      )
    )
def F_X0_search_L39 (rec : Sto → Nat → Int32 → Int32 → Option (Int32 × Sto)) (pL0 : Nat) (xL1 : Int32) (xL2 : Int32) : Nat → Int32 → Sto → (Sto → Option (Int32 × Sto)) → Option (Int32 × Sto)
  | 0, _, _, _ => none
  | f + 1, xL4, sL, k103 =>
    (gR sL pL0 0 2).bind fun p2 =>
    (gI sL p2 8 0).bind fun x3 =>
    if x3 ≤ xL4 then (
      k103 sL
    ) else (
      F_X0_search_L54 rec pL0 xL1 xL2 xL4 fu (0 : Int32) sL
        (fun s10 =>
          F_X0_search_L39 rec pL0 xL1 xL2 f (xL4 + (1 : Int32)) s10 k103
        )
    )
def F_X0_search_B (rec : Sto → Nat → Int32 → Int32 → Option (Int32 × Sto)) (σ : Sto) (pa0 : Nat) (xa1 : Int32) (xa2 : Int32) : Option (Int32 × Sto) :=
  (F_X0_leastFrom σ pa0 xa1).bind fun x1 =>
  if x1 = 0 then (
    if xa1 = xa2 then (
      some ((1 : Int32), σ)
    ) else (
      some ((0 : Int32), σ)
    )
  ) else (
    if (6 : Int32) ≤ xa1 then (
      some ((0 : Int32), σ)
    ) else (
      if (xa1 + x1) ≤ xa2 then (
        F_X0_search_L39 rec pa0 xa1 xa2 fu (0 : Int32) σ
          (fun s11 =>
            some ((0 : Int32), s11)
          )
      ) else (
        some ((0 : Int32), σ)
      )
    )
  )
def F_X0_search : Nat → Sto → Nat → Int32 → Int32 → Option (Int32 × Sto)
  | 0, _, _, _, _ => none
  | n + 1, σ, p, x, y => F_X0_search_B (F_X0_search n) σ p x y
def F_X0_find_L35 (pL0 : Nat) : Nat → Int32 → Sto → (Sto → Option Sto) → Option Sto
  | 0, _, _, _ => none
  | f + 1, xL1, sL, k69 =>
    if (6 : Int32) < xL1 then (
      k69 sL
    ) else (
      (gI sL pL0 0 0).bind fun x7 =>
      if x7 = (-1 : Int32) then (
        wb (F_X0_search 8 sL pL0 (0 : Int32) xL1) fun x9 s8 =>
        if x9 = 0 then (
          F_X0_find_L35 pL0 f (xL1 + (1 : Int32)) s8 k69
        ) else (
          (sV s8 pL0 0 0 (.int xL1)).bind fun s10 =>
          F_X0_find_L35 pL0 f (xL1 + (1 : Int32)) s10 k69
        )
      ) else (
        k69 sL
      )
    )
def F_X0_find (σ : Sto) (a0 : Nat) : Option Sto :=
  chk σ a0 0 <|
  (sV σ a0 0 0 (.int (-1 : Int32))).bind fun s1 =>
  (gR s1 a0 0 2).bind fun p2 =>
  (gI s1 p2 8 0).bind fun x3 =>
  if x3 ≤ (4 : Int32) then (
    (F_X0_findKinds s1 a0).bind fun s4 =>
    (F_X0_eachPartHasAll s4 a0).bind fun x5 =>
    if x5 = 0 then (
      some s4
    ) else (
      (F_X0_leastFrom s4 a0 (0 : Int32)).bind fun x6 =>
      F_X0_find_L35 a0 fu x6 s4
        (fun s11 =>
          some s11
        )
    )
  ) else (
    some s1
  )
def F_X9_fewest (σ : Sto) (a0 : Nat) (xa1 : Int32) : Option (Int32 × Sto) :=
  chk σ a0 9 <|
  (gR σ a0 9 4).bind fun p1 =>
  (F_X0_find σ p1).bind fun s2 =>
  if xa1 = (-1 : Int32) then (
    (gR s2 a0 9 4).bind fun p7 =>
    (gI s2 p7 0 0).bind fun x8 =>
    some (x8, s2)
  ) else (
    if xa1 < 0 then (
      some ((-1 : Int32), s2)
    ) else (
      (gR s2 a0 9 4).bind fun p3 =>
      (gI s2 p3 0 0).bind fun x4 =>
      if xa1 < x4 then (
        (gR s2 a0 9 4).bind fun p5 =>
        (F_X0_told s2 p5 xa1).bind fun x6 =>
        some (x6, s2)
      ) else (
        some ((-1 : Int32), s2)
      )
    )
  )
