/-! what the methods of the reference compute, laid by program out of the bytecode -/
def fX5_in (a0 : Int64) (a2 : Int64) (a4 : Int64) (σ : kS) : Option (Int32 × kS) :=
  if (lg_cmp a0 a2) < 0 then
    some (0, σ)
  else
    if 0 < (lg_cmp a0 a4) then
      some (0, σ)
    else
      some (1, σ)
def fX5_lost  (σ : kS) : Option (Int64 × kS) :=
  some ((-9223372036854775808), σ)
def fX5_isIn (a0 : Int32) (a1 : Int32) (σ : kS) : Option (Int32 × kS) :=
  if ((a0 >>> (a1 &&& 31)) &&& 1) = 1 then
    some (1, σ)
  else
    some (0, σ)
def fX5_bits_L4  : Nat → Int32 → Int32 → kS → Option (Int32 × kS)
  | 0, _, _, _ => none
  | n + 1, a1, a2, σ =>
    if a2 ≤ 0 then
      some (a1, σ)
    else
      klet (a1 + (a2 &&& 1)) fun v2 =>
      klet (a2 >>> ((1 : Int32) &&& 31)) fun v3 =>
      fX5_bits_L4 n v2 v3 σ
def fX5_bits (a0 : Int32) (σ : kS) : Option (Int32 × kS) :=
  fX5_bits_L4 1000 0 a0 σ
def fX5_apart (a0 : Int32) (a1 : Int32) (σ : kS) : Option (Int32 × kS) :=
  if a0 ≤ a1 then
    some (a1 - a0, σ)
  else
    some (a0 - a1, σ)
def fX5_share_L6  : Nat → Int64 → Int64 → Int32 → Int64 → Int64 → kS → Option (Int64 × kS)
  | 0, _, _, _, _, _, _ => none
  | n + 1, a0, a2, a4, a5, a7, σ =>
    if (lg_cmp a7 0) = 0 then
      if a4 = 0 then
        if ¬ a5 = 0 then
        some (a0 / a5, σ)
        else none
      else
        if ¬ a5 = 0 then
        some (a2 / a5, σ)
        else none
    else
      if ¬ a7 = 0 then
      klet (a5 - a5 / a7 * a7) fun v6 =>
      fX5_share_L6 n a0 a2 a4 a7 v6 σ
      else none
def fX5_share (a0 : Int64) (a2 : Int64) (a4 : Int32) (σ : kS) : Option (Int64 × kS) :=
  fX5_share_L6 1000 a0 a2 a4 a0 a2 σ
def fX5_refused (a1 : Int32) (σ : kS) : Option (Int32 × kS) :=
  some (a1, kup σ 0 0 0)
def fX5_failed (a1 : Int32) (σ : kS) : Option (Int32 × kS) :=
  some ((-10) - a1, kup σ 0 0 a1)
def fX5_failedLong (a1 : Int32) (σ : kS) : Option (Int64 × kS) :=
  kbl (fX5_lost (kup σ 0 0 a1)) fun r3 σ2 =>
  some (r3, σ2)
def fX5_noPerson (a1 : Int32) (σ : kS) : Option (Int32 × kS) :=
  kbi (fX5_in (Int32.toInt64 a1) (0 : Int64) ((Int32.toInt64 (σ 0 1)) - 1) σ) fun r3 σ2 =>
  if r3 = 0 then
    some (1, σ2)
  else
    some (0, σ2)
def fX5_codeAt (a1 : Int32) (a2 : Int32) (σ : kS) : Option (Int32 × kS) :=
  if a2 ≤ (σ 0 9) then
    some ((-9), σ)
  else
    if inb (a1 + (σ 0 9)) 240 then
    some (σ 19 (Int32.toNatClampNeg (a1 + (σ 0 9))), σ)
    else none
def fX5_figure_J18  (a4 : Int32) (as0 : Int32) (σ : kS) : Option (Int32 × kS) :=
    kbi (fX5_in (Int32.toInt64 as0) (0 : Int64) (Int32.toInt64 a4) σ) fun r7 σ6 =>
    if r7 = 0 then
      if r7 = 0 then
        some ((-9), kup σ6 0 9 ((σ6 0 9) + 0))
      else
        some (as0, kup σ6 0 9 ((σ6 0 9) + 0))
    else
      if r7 = 0 then
        some ((-9), kup σ6 0 9 ((σ6 0 9) + 1))
      else
        some (as0, kup σ6 0 9 ((σ6 0 9) + 1))
def fX5_figure (a1 : Int32) (a2 : Int32) (a3 : Int32) (a4 : Int32) (σ : kS) : Option (Int32 × kS) :=
  if 0 ≤ a3 then
    kbi (fX5_codeAt a1 a2 σ) fun r4 σ3 =>
    fX5_figure_J18 a4 (r4 - 48) σ3
  else
    fX5_figure_J18 a4 (-9) σ
def fX5_readsPerson_J133  (a4 : Int32) (a5 : Int32) (a6 : Int32) (as2 : Int32) (as1 : Int32) (σ : kS) : Option (Int32 × kS) :=
    if inb as1 6 then
    if inb ((kup σ 5 (Int32.toNatClampNeg as1) as2) 0 10) 6 then
    if inb ((kup (kup σ 5 (Int32.toNatClampNeg as1) as2) 6 (Int32.toNatClampNeg ((kup σ 5 (Int32.toNatClampNeg as1) as2) 0 10)) a4) 0 10) 6 then
    if inb ((kup (kup (kup σ 5 (Int32.toNatClampNeg as1) as2) 6 (Int32.toNatClampNeg ((kup σ 5 (Int32.toNatClampNeg as1) as2) 0 10)) a4) 7 (Int32.toNatClampNeg ((kup (kup σ 5 (Int32.toNatClampNeg as1) as2) 6 (Int32.toNatClampNeg ((kup σ 5 (Int32.toNatClampNeg as1) as2) 0 10)) a4) 0 10)) a5) 0 10) 6 then
    if a6 < 0 then
      some (0, kup (kup (kup (kup (kup σ 5 (Int32.toNatClampNeg as1) as2) 6 (Int32.toNatClampNeg ((kup σ 5 (Int32.toNatClampNeg as1) as2) 0 10)) a4) 7 (Int32.toNatClampNeg ((kup (kup σ 5 (Int32.toNatClampNeg as1) as2) 6 (Int32.toNatClampNeg ((kup σ 5 (Int32.toNatClampNeg as1) as2) 0 10)) a4) 0 10)) a5) 8 (Int32.toNatClampNeg ((kup (kup (kup σ 5 (Int32.toNatClampNeg as1) as2) 6 (Int32.toNatClampNeg ((kup σ 5 (Int32.toNatClampNeg as1) as2) 0 10)) a4) 7 (Int32.toNatClampNeg ((kup (kup σ 5 (Int32.toNatClampNeg as1) as2) 6 (Int32.toNatClampNeg ((kup σ 5 (Int32.toNatClampNeg as1) as2) 0 10)) a4) 0 10)) a5) 0 10)) a6) 0 10 (((kup (kup (kup (kup σ 5 (Int32.toNatClampNeg as1) as2) 6 (Int32.toNatClampNeg ((kup σ 5 (Int32.toNatClampNeg as1) as2) 0 10)) a4) 7 (Int32.toNatClampNeg ((kup (kup σ 5 (Int32.toNatClampNeg as1) as2) 6 (Int32.toNatClampNeg ((kup σ 5 (Int32.toNatClampNeg as1) as2) 0 10)) a4) 0 10)) a5) 8 (Int32.toNatClampNeg ((kup (kup (kup σ 5 (Int32.toNatClampNeg as1) as2) 6 (Int32.toNatClampNeg ((kup σ 5 (Int32.toNatClampNeg as1) as2) 0 10)) a4) 7 (Int32.toNatClampNeg ((kup (kup σ 5 (Int32.toNatClampNeg as1) as2) 6 (Int32.toNatClampNeg ((kup σ 5 (Int32.toNatClampNeg as1) as2) 0 10)) a4) 0 10)) a5) 0 10)) a6) 0 10) + 1))
    else
      some (1, kup (kup (kup (kup (kup σ 5 (Int32.toNatClampNeg as1) as2) 6 (Int32.toNatClampNeg ((kup σ 5 (Int32.toNatClampNeg as1) as2) 0 10)) a4) 7 (Int32.toNatClampNeg ((kup (kup σ 5 (Int32.toNatClampNeg as1) as2) 6 (Int32.toNatClampNeg ((kup σ 5 (Int32.toNatClampNeg as1) as2) 0 10)) a4) 0 10)) a5) 8 (Int32.toNatClampNeg ((kup (kup (kup σ 5 (Int32.toNatClampNeg as1) as2) 6 (Int32.toNatClampNeg ((kup σ 5 (Int32.toNatClampNeg as1) as2) 0 10)) a4) 7 (Int32.toNatClampNeg ((kup (kup σ 5 (Int32.toNatClampNeg as1) as2) 6 (Int32.toNatClampNeg ((kup σ 5 (Int32.toNatClampNeg as1) as2) 0 10)) a4) 0 10)) a5) 0 10)) a6) 0 10 (((kup (kup (kup (kup σ 5 (Int32.toNatClampNeg as1) as2) 6 (Int32.toNatClampNeg ((kup σ 5 (Int32.toNatClampNeg as1) as2) 0 10)) a4) 7 (Int32.toNatClampNeg ((kup (kup σ 5 (Int32.toNatClampNeg as1) as2) 6 (Int32.toNatClampNeg ((kup σ 5 (Int32.toNatClampNeg as1) as2) 0 10)) a4) 0 10)) a5) 8 (Int32.toNatClampNeg ((kup (kup (kup σ 5 (Int32.toNatClampNeg as1) as2) 6 (Int32.toNatClampNeg ((kup σ 5 (Int32.toNatClampNeg as1) as2) 0 10)) a4) 7 (Int32.toNatClampNeg ((kup (kup σ 5 (Int32.toNatClampNeg as1) as2) 6 (Int32.toNatClampNeg ((kup σ 5 (Int32.toNatClampNeg as1) as2) 0 10)) a4) 0 10)) a5) 0 10)) a6) 0 10) + 1))
    else none
    else none
    else none
    else none
def fX5_readsPerson_J59  (a1 : Int32) (a2 : Int32) (a3 : Int32) (σ : kS) : Option (Int32 × kS) :=
    kbi (fX5_figure a1 a2 (0 : Int32) (7 : Int32) (kup σ 0 9 ((σ 0 9) + 1))) fun r14 σ13 =>
    kbi (fX5_figure a1 a2 r14 (7 : Int32) σ13) fun r17 σ16 =>
    kbi (fX5_figure a1 a2 r17 (9 : Int32) σ16) fun r20 σ19 =>
    if a3 = 112 then
      fX5_readsPerson_J133 r14 r17 r20 0 (σ19 0 10) σ19
    else
      if a3 = 114 then
        fX5_readsPerson_J133 r14 r17 r20 1 (σ19 0 10) σ19
      else
        fX5_readsPerson_J133 r14 r17 r20 2 (σ19 0 10) σ19
def fX5_readsPerson (a1 : Int32) (a2 : Int32) (σ : kS) : Option (Int32 × kS) :=
  if (σ 0 10) = 6 then
    some (0, σ)
  else
    kbi (fX5_codeAt a1 a2 σ) fun r4 σ3 =>
    if r4 = 59 then
      kbi (fX5_codeAt a1 a2 (kup σ3 0 9 ((σ3 0 9) + 1))) fun r8 σ7 =>
      if r8 = 112 then
        fX5_readsPerson_J59 a1 a2 r8 σ7
      else
        if r8 = 114 then
          fX5_readsPerson_J59 a1 a2 r8 σ7
        else
          if r8 = 107 then
            fX5_readsPerson_J59 a1 a2 r8 σ7
          else
            some (0, σ7)
    else
      some (0, σ3)
def fX5_readsMoor_L74  : Nat → Int32 → Int32 → Int32 → kS → Option (Int32 × kS)
  | 0, _, _, _, _ => none
  | n + 1, a1, a2, a3, σ =>
    if a3 = 0 then
      some (a3, σ)
    else
      if (σ 0 10) < 2 then
        kbi (fX5_readsPerson a1 a2 σ) fun r16 σ15 =>
        fX5_readsMoor_L74 n a1 a2 r16 σ15
      else
        if a2 ≤ (σ 0 9) then
          some (a3, σ)
        else
          kbi (fX5_readsPerson a1 a2 σ) fun r21 σ20 =>
          fX5_readsMoor_L74 n a1 a2 r21 σ20
def fX5_readsMoor (a1 : Int32) (a2 : Int32) (σ : kS) : Option (Int32 × kS) :=
  kbi (fX5_codeAt a1 a2 (kup (kup σ 0 9 0) 0 10 0)) fun r3 σ2 =>
  if r3 = 100 then
    kbi (fX5_figure a1 a2 (0 : Int32) (9 : Int32) (kup σ2 0 9 ((σ2 0 9) + 1))) fun r7 σ6 =>
    kbi (fX5_figure a1 a2 ((kup σ6 0 15 r7) 0 15) (3 : Int32) (kup σ6 0 15 r7)) fun r10 σ9 =>
    if ((kup σ9 0 16 r10) 0 16) < 0 then
      fX5_readsMoor_L74 1000 a1 a2 0 (kup σ9 0 16 r10)
    else
      fX5_readsMoor_L74 1000 a1 a2 1 (kup σ9 0 16 r10)
  else
    some (0, σ2)
def fX5_isBeyond (a0 : Int32) (a1 : Int64) (a3 : Int32) (σ : kS) : Option (Int32 × kS) :=
  if a0 < 0 then
    some (1, σ)
  else
    if (lg_cmp a1 0) < 0 then
      some (1, σ)
    else
      if (lg_cmp ((Int32.toInt64 a0) + a1) (Int32.toInt64 a3)) ≤ 0 then
        some (0, σ)
      else
        some (1, σ)
def fX5_cellsBarred_J25  (a1 : Int32) (a3 : Int32) (a4 : Int64) (σ : kS) : Option (Int32 × kS) :=
    if inb a1 4 then
    if 0 ≤ (σ 17 (Int32.toNatClampNeg a1)) then
      if 0 ≤ (lg_cmp a4 0) then
        if inb a1 4 then
        kbi (fX5_isBeyond a3 a4 (σ 17 (Int32.toNatClampNeg a1)) σ) fun r14 σ13 =>
        if r14 = 0 then
          some (0, σ13)
        else
          kbi (fX5_failed (3 : Int32) σ13) fun r19 σ18 =>
          some (r19, σ18)
        else none
      else
        kbi (fX5_failed (4 : Int32) σ) fun r22 σ21 =>
        some (r22, σ21)
    else
      kbi (fX5_failed (1 : Int32) σ) fun r25 σ24 =>
      some (r25, σ24)
    else none
def fX5_cellsBarred (a1 : Int32) (a2 : Int32) (a3 : Int32) (a4 : Int64) (σ : kS) : Option (Int32 × kS) :=
  if inb a1 4 then
  if (σ 17 (Int32.toNatClampNeg a1)) < 0 then
    fX5_cellsBarred_J25 a1 a3 a4 σ
  else
    if inb a1 4 then
    if (σ 18 (Int32.toNatClampNeg a1)) = a2 then
      fX5_cellsBarred_J25 a1 a3 a4 σ
    else
      kbi (fX5_failed (2 : Int32) σ) fun r7 σ6 =>
      some (r7, σ6)
    else none
  else none
def fX5_noSheet (a0 : Int32) (σ : kS) : Option (Int32 × kS) :=
  kbi (fX5_in (Int32.toInt64 a0) (0 : Int64) (3 : Int64) σ) fun r3 σ2 =>
  if r3 = 0 then
    some (1, σ2)
  else
    some (0, σ2)
def fX5_moor_L111  : Nat → Int32 → kS → Option (Int32 × kS)
  | 0, _, _ => none
  | n + 1, a6, σ =>
    if (σ 0 1) ≤ a6 then
      kbi (fX5_refused ((kup σ 0 23 0) 0 1) (kup σ 0 23 0)) fun r32 σ31 =>
      some (r32, σ31)
    else
      if inb a6 6 then
      if inb a6 6 then
      if inb a6 6 then
      if inb a6 6 then
      if inb a6 6 then
      if inb a6 6 then
      if inb a6 6 then
      if inb a6 6 then
      klet (a6 + 1) fun v41 =>
      fX5_moor_L111 n v41 (kup (kup (kup (kup σ 1 (Int32.toNatClampNeg a6) (σ 5 (Int32.toNatClampNeg a6))) 2 (Int32.toNatClampNeg a6) ((kup σ 1 (Int32.toNatClampNeg a6) (σ 5 (Int32.toNatClampNeg a6))) 6 (Int32.toNatClampNeg a6))) 3 (Int32.toNatClampNeg a6) ((kup (kup σ 1 (Int32.toNatClampNeg a6) (σ 5 (Int32.toNatClampNeg a6))) 2 (Int32.toNatClampNeg a6) ((kup σ 1 (Int32.toNatClampNeg a6) (σ 5 (Int32.toNatClampNeg a6))) 6 (Int32.toNatClampNeg a6))) 7 (Int32.toNatClampNeg a6))) 4 (Int32.toNatClampNeg a6) ((kup (kup (kup σ 1 (Int32.toNatClampNeg a6) (σ 5 (Int32.toNatClampNeg a6))) 2 (Int32.toNatClampNeg a6) ((kup σ 1 (Int32.toNatClampNeg a6) (σ 5 (Int32.toNatClampNeg a6))) 6 (Int32.toNatClampNeg a6))) 3 (Int32.toNatClampNeg a6) ((kup (kup σ 1 (Int32.toNatClampNeg a6) (σ 5 (Int32.toNatClampNeg a6))) 2 (Int32.toNatClampNeg a6) ((kup σ 1 (Int32.toNatClampNeg a6) (σ 5 (Int32.toNatClampNeg a6))) 6 (Int32.toNatClampNeg a6))) 7 (Int32.toNatClampNeg a6))) 8 (Int32.toNatClampNeg a6)))
      else none
      else none
      else none
      else none
      else none
      else none
      else none
      else none
def fX5_moor (a1 : Int32) (a2 : Int32) (a3 : Int32) (a4 : Int32) (σ : kS) : Option (Int32 × kS) :=
  kbi (fX5_noSheet a1 σ) fun r3 σ2 =>
  if r3 = 0 then
    kbi (fX5_in (Int32.toInt64 a2) (0 : Int64) (2 : Int64) σ2) fun r8 σ7 =>
    if r8 = 0 then
      kbi (fX5_refused ((-2) : Int32) σ7) fun r25 σ24 =>
      some (r25, σ24)
    else
      kbi (fX5_cellsBarred a1 a2 a3 (Int32.toInt64 a4) σ7) fun r13 σ12 =>
      if 0 ≤ r13 then
        kbi (fX5_readsMoor ((60 * a1) + a3) a4 σ12) fun r17 σ16 =>
        if r17 = 0 then
          kbi (fX5_refused ((-100) - (σ16 0 9)) σ16) fun r22 σ21 =>
          some (r22, σ21)
        else
          fX5_moor_L111 1000 0 (kup (kup (kup (kup σ16 0 1 (σ16 0 10)) 0 2 ((kup σ16 0 1 (σ16 0 10)) 0 15)) 0 3 ((kup (kup σ16 0 1 (σ16 0 10)) 0 2 ((kup σ16 0 1 (σ16 0 10)) 0 15)) 0 16)) 0 4 0)
      else
        some (r13, σ12)
  else
    kbi (fX5_refused ((-1) : Int32) σ2) fun r28 σ27 =>
    some (r28, σ27)
def fX5_scentOf (a1 : Int32) (σ : kS) : Option (Int32 × kS) :=
  if inb a1 6 then
  kbi (fX5_bits (σ 2 (Int32.toNatClampNeg a1)) σ) fun r4 σ3 =>
  if inb a1 6 then
  if (σ3 1 (Int32.toNatClampNeg a1)) = 0 then
    some (r4, σ3)
  else
    if inb a1 6 then
    if (σ3 1 (Int32.toNatClampNeg a1)) = 1 then
      some (r4 + 1, σ3)
    else
      some ((2 * r4) + 2, σ3)
    else none
  else none
  else none
def fX5_wayTo (a1 : Int32) (σ : kS) : Option (Int32 × kS) :=
  if inb a1 6 then
  kbi (fX5_apart (σ 4 (Int32.toNatClampNeg a1)) (σ 0 2) σ) fun r4 σ3 =>
  some (r4, σ3)
  else none
def fX5_isSmelt (a1 : Int32) (σ : kS) : Option (Int32 × kS) :=
  kbi (fX5_wayTo a1 σ) fun r3 σ2 =>
  kbi (fX5_scentOf a1 σ2) fun r6 σ5 =>
  if r6 < r3 then
    some (0, σ5)
  else
    some (1, σ5)
def fX5_goesTo_J103 (k13 : Int32 → Int32 → Int32 → Int32 → kS → Option (Int32 × kS)) (a1 : Int32) (a3 : Int32) (a4 : Int32) (a5 : Int32) (as0 : Int32) (σ : kS) : Option (Int32 × kS) :=
    if a3 ≤ a5 then
      klet (a4 + 1) fun v31 =>
      k13 a1 as0 a3 v31 σ
    else
      klet (a4 + 1) fun v32 =>
      k13 a1 as0 a5 v32 σ
def fX5_goesTo_J53 (k13 : Int32 → Int32 → Int32 → Int32 → kS → Option (Int32 × kS)) (a1 : Int32) (a2 : Int32) (a3 : Int32) (a4 : Int32) (as0 : Int32) (σ : kS) : Option (Int32 × kS) :=
    if a2 < 0 then
      if as0 < a3 then
        fX5_goesTo_J103 k13 a1 a3 a4 as0 a4 σ
      else
        if (0 : Int32) = 0 then
          fX5_goesTo_J103 k13 a1 a3 a4 as0 a2 σ
        else
          fX5_goesTo_J103 k13 a1 a3 a4 as0 a4 σ
    else
      if as0 = a3 then
        kbi (fX5_wayTo a4 σ) fun r21 σ20 =>
        kbi (fX5_wayTo a2 σ20) fun r24 σ23 =>
        if r24 ≤ r21 then
          if as0 < a3 then
            fX5_goesTo_J103 k13 a1 a3 a4 as0 a4 σ23
          else
            if (0 : Int32) = 0 then
              fX5_goesTo_J103 k13 a1 a3 a4 as0 a2 σ23
            else
              fX5_goesTo_J103 k13 a1 a3 a4 as0 a4 σ23
        else
          if as0 < a3 then
            fX5_goesTo_J103 k13 a1 a3 a4 as0 a4 σ23
          else
            if (1 : Int32) = 0 then
              fX5_goesTo_J103 k13 a1 a3 a4 as0 a2 σ23
            else
              fX5_goesTo_J103 k13 a1 a3 a4 as0 a4 σ23
      else
        if as0 < a3 then
          fX5_goesTo_J103 k13 a1 a3 a4 as0 a4 σ
        else
          if (0 : Int32) = 0 then
            fX5_goesTo_J103 k13 a1 a3 a4 as0 a2 σ
          else
            fX5_goesTo_J103 k13 a1 a3 a4 as0 a4 σ
def fX5_goesTo_L13  : Nat → Int32 → Int32 → Int32 → Int32 → kS → Option (Int32 × kS)
  | 0, _, _, _, _, _ => none
  | n + 1, a1, a2, a3, a4, σ =>
    if (σ 0 1) ≤ a4 then
      some (a2, σ)
    else
      kbi (fX5_isSmelt a4 σ) fun r5 σ4 =>
      if r5 = 0 then
        fX5_goesTo_J53 (fX5_goesTo_L13 n) a1 a2 a3 a4 9 σ4
      else
        if inb a4 6 then
        if inb a1 6 then
        kbi (fX5_bits ((σ4 2 (Int32.toNatClampNeg a4)) ^^^ (σ4 3 (Int32.toNatClampNeg a1))) σ4) fun r12 σ11 =>
        fX5_goesTo_J53 (fX5_goesTo_L13 n) a1 a2 a3 a4 r12 σ11
        else none
        else none
def fX5_goesTo (a1 : Int32) (σ : kS) : Option (Int32 × kS) :=
  klet ((σ 0 3) + 1) fun v1 =>
  fX5_goesTo_L13 1000 a1 (-9) v1 0 σ
def fX5_ofPerson (a1 : Int32) (a2 : Int32) (σ : kS) : Option (Int32 × kS) :=
  kbi (fX5_noPerson a1 σ) fun r3 σ2 =>
  if r3 = 0 then
    if a2 = 0 then
      if inb a1 6 then
      some (σ2 1 (Int32.toNatClampNeg a1), σ2)
      else none
    else
      if a2 = 1 then
        if inb a1 6 then
        some (σ2 2 (Int32.toNatClampNeg a1), σ2)
        else none
      else
        if a2 = 2 then
          if inb a1 6 then
          some (σ2 3 (Int32.toNatClampNeg a1), σ2)
          else none
        else
          if a2 = 3 then
            if inb a1 6 then
            some (σ2 4 (Int32.toNatClampNeg a1), σ2)
            else none
          else
            if a2 = 4 then
              kbi (fX5_scentOf a1 σ2) fun r17 σ16 =>
              some (r17, σ16)
            else
              if a2 = 5 then
                kbi (fX5_isSmelt a1 σ2) fun r21 σ20 =>
                if r21 = 0 then
                  some (0, σ20)
                else
                  some (1, σ20)
              else
                if a2 = 6 then
                  kbi (fX5_goesTo a1 σ2) fun r27 σ26 =>
                  some (r27, σ26)
                else
                  some ((-2), σ2)
  else
    some ((-1), σ2)
def fX5_post (a1 : Int32) (σ : kS) : Option (Int32 × kS) :=
  if (σ 0 1) = 0 then
    some ((-3), σ)
  else
    kbi (fX5_in (Int32.toInt64 a1) (0 : Int64) (9 : Int64) σ) fun r4 σ3 =>
    if r4 = 0 then
      some ((-2), σ3)
    else
      klet (σ3 0 2) fun v7 =>
      some (v7, kup σ3 0 2 a1)
def fX5_lax (a1 : Int32) (σ : kS) : Option (Int32 × kS) :=
  if (σ 0 1) = 0 then
    some ((-3), σ)
  else
    kbi (fX5_in (Int32.toInt64 a1) (0 : Int64) (3 : Int64) σ) fun r4 σ3 =>
    if r4 = 0 then
      some ((-2), σ3)
    else
      klet (σ3 0 3) fun v7 =>
      some (v7, kup σ3 0 3 a1)
def fX5_bathe (a1 : Int32) (a2 : Int32) (σ : kS) : Option (Int32 × kS) :=
  kbi (fX5_noPerson a1 σ) fun r3 σ2 =>
  if r3 = 0 then
    kbi (fX5_in (Int32.toInt64 a2) (0 : Int64) (7 : Int64) σ2) fun r8 σ7 =>
    if r8 = 0 then
      some ((-2), σ7)
    else
      if inb a1 6 then
      klet (σ7 2 (Int32.toNatClampNeg a1)) fun v12 =>
      if inb a1 6 then
      some (v12, kup σ7 2 (Int32.toNatClampNeg a1) a2)
      else none
      else none
  else
    some ((-1), σ2)
def fX5_moves (a1 : Int32) (a2 : Int32) (σ : kS) : Option (Int32 × kS) :=
  kbi (fX5_noPerson a1 σ) fun r3 σ2 =>
  if r3 = 0 then
    kbi (fX5_in (Int32.toInt64 a2) (0 : Int64) (9 : Int64) σ2) fun r8 σ7 =>
    if r8 = 0 then
      some ((-2), σ7)
    else
      if inb a1 6 then
      klet (σ7 4 (Int32.toNatClampNeg a1)) fun v12 =>
      if inb a1 6 then
      some (v12, kup σ7 4 (Int32.toNatClampNeg a1) a2)
      else none
      else none
  else
    some ((-1), σ2)
def fX5_sent (a1 : Int32) (σ : kS) : Option (Int32 × kS) :=
  kbi (fX5_goesTo a1 σ) fun r3 σ2 =>
  if r3 < 0 then
    some (r3, σ2)
  else
    if inb r3 6 then
    if inb r3 6 then
    some (r3, kup σ2 3 (Int32.toNatClampNeg r3) (σ2 2 (Int32.toNatClampNeg r3)))
    else none
    else none
def fX5_send (a1 : Int32) (σ : kS) : Option (Int32 × kS) :=
  kbi (fX5_noPerson a1 σ) fun r3 σ2 =>
  if r3 = 0 then
    kbi (fX5_sent a1 (kup σ2 0 4 ((σ2 0 4) + 1))) fun r8 σ7 =>
    some (r8, σ7)
  else
    some ((-1), σ2)
def fX5_comes_J63 (k30 : Int32 → Int32 → Int32 → Int32 → kS → Option (Int32 × kS)) (a1 : Int32) (a3 : Int32) (a4 : Int32) (a5 : Int32) (as1 : Int32) (as0 : Int32) (σ : kS) : Option (Int32 × kS) :=
    klet (as0 ||| as1) fun v13 =>
    if 0 ≤ a5 then
      klet (a3 ||| ((1 : Int32) <<< (a5 &&& 31))) fun v15 =>
      klet (a4 + 1) fun v16 =>
      k30 a1 v13 v15 v16 σ
    else
      klet (a3 ||| 0) fun v17 =>
      klet (a4 + 1) fun v18 =>
      k30 a1 v13 v17 v18 σ
def fX5_comes_L30  : Nat → Int32 → Int32 → Int32 → Int32 → kS → Option (Int32 × kS)
  | 0, _, _, _, _, _ => none
  | n + 1, a1, a2, a3, a4, σ =>
    if (σ 0 1) ≤ a4 then
      if a1 = 0 then
        some (a2, σ)
      else
        some (a3, σ)
    else
      kbi (fX5_goesTo a4 σ) fun r11 σ10 =>
      if r11 = a4 then
        fX5_comes_J63 (fX5_comes_L30 n) a1 a3 a4 r11 ((1 : Int32) <<< (a4 &&& 31)) a2 σ10
      else
        fX5_comes_J63 (fX5_comes_L30 n) a1 a3 a4 r11 0 a2 σ10
def fX5_comes (a1 : Int32) (σ : kS) : Option (Int32 × kS) :=
  if (σ 0 1) = 0 then
    some ((-3), σ)
  else
    kbi (fX5_in (Int32.toInt64 a1) (0 : Int64) (1 : Int64) σ) fun r4 σ3 =>
    if r4 = 0 then
      some ((-2), σ3)
    else
      fX5_comes_L30 1000 a1 0 0 0 σ3
def fX5_keepAll_L2  : Nat → Int32 → kS → Option kS
  | 0, _, _ => none
  | n + 1, a1, σ =>
    if (σ 0 1) ≤ a1 then
      some σ
    else
      if inb a1 6 then
      if inb a1 6 then
      if inb a1 6 then
      if inb a1 6 then
      if inb a1 6 then
      if inb a1 6 then
      klet (a1 + 1) fun v8 =>
      fX5_keepAll_L2 n v8 (kup (kup (kup σ 9 (Int32.toNatClampNeg a1) (σ 2 (Int32.toNatClampNeg a1))) 10 (Int32.toNatClampNeg a1) ((kup σ 9 (Int32.toNatClampNeg a1) (σ 2 (Int32.toNatClampNeg a1))) 3 (Int32.toNatClampNeg a1))) 11 (Int32.toNatClampNeg a1) ((kup (kup σ 9 (Int32.toNatClampNeg a1) (σ 2 (Int32.toNatClampNeg a1))) 10 (Int32.toNatClampNeg a1) ((kup σ 9 (Int32.toNatClampNeg a1) (σ 2 (Int32.toNatClampNeg a1))) 3 (Int32.toNatClampNeg a1))) 4 (Int32.toNatClampNeg a1)))
      else none
      else none
      else none
      else none
      else none
      else none
def fX5_keepAll  (σ : kS) : Option kS :=
  fX5_keepAll_L2 1000 0 σ
def fX5_bringBack_L2  : Nat → Int32 → kS → Option kS
  | 0, _, _ => none
  | n + 1, a1, σ =>
    if (σ 0 1) ≤ a1 then
      some σ
    else
      if inb a1 6 then
      if inb a1 6 then
      if inb a1 6 then
      if inb a1 6 then
      if inb a1 6 then
      if inb a1 6 then
      klet (a1 + 1) fun v8 =>
      fX5_bringBack_L2 n v8 (kup (kup (kup σ 2 (Int32.toNatClampNeg a1) (σ 9 (Int32.toNatClampNeg a1))) 3 (Int32.toNatClampNeg a1) ((kup σ 2 (Int32.toNatClampNeg a1) (σ 9 (Int32.toNatClampNeg a1))) 10 (Int32.toNatClampNeg a1))) 4 (Int32.toNatClampNeg a1) ((kup (kup σ 2 (Int32.toNatClampNeg a1) (σ 9 (Int32.toNatClampNeg a1))) 3 (Int32.toNatClampNeg a1) ((kup σ 2 (Int32.toNatClampNeg a1) (σ 9 (Int32.toNatClampNeg a1))) 10 (Int32.toNatClampNeg a1))) 11 (Int32.toNatClampNeg a1)))
      else none
      else none
      else none
      else none
      else none
      else none
def fX5_bringBack  (σ : kS) : Option kS :=
  fX5_bringBack_L2 1000 0 σ
def fX5_pairsBarred_J52 (k2 : Int32 → Int32 → Int32 → kS → Option (Int32 × kS)) (a1 : Int32) (a2 : Int32) (a3 : Int32) (σ : kS) : Option (Int32 × kS) :=
    if inb (a1 + (2 * a3)) 240 then
    kbi (fX5_noPerson (σ 19 (Int32.toNatClampNeg (a1 + (2 * a3)))) σ) fun r17 σ16 =>
    if r17 = 0 then
      klet (a3 + 1) fun v20 =>
      k2 a1 a2 v20 σ16
    else
      some ((-1), σ16)
    else none
def fX5_pairsBarred_L2  : Nat → Int32 → Int32 → Int32 → kS → Option (Int32 × kS)
  | 0, _, _, _, _ => none
  | n + 1, a1, a2, a3, σ =>
    if a2 ≤ a3 then
      some (0, σ)
    else
      if inb ((a1 + (2 * a3)) + 1) 240 then
      klet (σ 19 (Int32.toNatClampNeg ((a1 + (2 * a3)) + 1))) fun v3 =>
      kbi (fX5_in (Int32.toInt64 v3) (0 : Int64) (8 : Int64) σ) fun r6 σ5 =>
      if r6 = 0 then
        kbi (fX5_in (Int32.toInt64 v3) (10 : Int64) (19 : Int64) σ5) fun r11 σ10 =>
        if r11 = 0 then
          some ((-2), σ10)
        else
          fX5_pairsBarred_J52 (fX5_pairsBarred_L2 n) a1 a2 a3 σ10
      else
        fX5_pairsBarred_J52 (fX5_pairsBarred_L2 n) a1 a2 a3 σ5
      else none
def fX5_pairsBarred (a1 : Int32) (a2 : Int32) (σ : kS) : Option (Int32 × kS) :=
  fX5_pairsBarred_L2 1000 a1 a2 0 σ
def fX5_roundBy_J118 (k16 : Int32 → Int32 → Int32 → Int32 → Int32 → Int32 → Int32 → Int32 → kS → Option (Int32 × kS)) (a1 : Int32) (a2 : Int32) (a3 : Int32) (a4 : Int32) (a5 : Int32) (a7 : Int32) (a8 : Int32) (a11 : Int32) (as1 : Int32) (as0 : Int32) (σ : kS) : Option (Int32 × kS) :=
    klet (as0 ||| as1) fun v32 =>
    if 0 ≤ a11 then
      klet (a7 + 0) fun v34 =>
      klet (a8 + 1) fun v35 =>
      k16 a1 a2 a3 a4 a5 v32 v34 v35 σ
    else
      klet (a7 + 1) fun v36 =>
      klet (a8 + 1) fun v37 =>
      k16 a1 a2 a3 a4 a5 v32 v36 v37 σ
def fX5_roundBy_J79 (k16 : Int32 → Int32 → Int32 → Int32 → Int32 → Int32 → Int32 → Int32 → kS → Option (Int32 × kS)) (a1 : Int32) (a2 : Int32) (a3 : Int32) (a5 : Int32) (a6 : Int32) (a7 : Int32) (a8 : Int32) (a9 : Int32) (a11 : Int32) (as1 : Int32) (as0 : Int32) (σ : kS) : Option (Int32 × kS) :=
    klet (as0 + as1) fun v26 =>
    if 0 ≤ a5 then
      if 0 ≤ a11 then
        fX5_roundBy_J118 k16 a1 a2 a3 v26 a5 a7 a8 a11 ((1 : Int32) <<< (a11 &&& 31)) a6 σ
      else
        fX5_roundBy_J118 k16 a1 a2 a3 v26 a5 a7 a8 a11 0 a6 σ
    else
      if a11 = a9 then
        if 0 ≤ a11 then
          fX5_roundBy_J118 k16 a1 a2 a3 v26 a5 a7 a8 a11 ((1 : Int32) <<< (a11 &&& 31)) a6 σ
        else
          fX5_roundBy_J118 k16 a1 a2 a3 v26 a5 a7 a8 a11 0 a6 σ
      else
        if 0 ≤ a11 then
          fX5_roundBy_J118 k16 a1 a2 a3 v26 a8 a7 a8 a11 ((1 : Int32) <<< (a11 &&& 31)) a6 σ
        else
          fX5_roundBy_J118 k16 a1 a2 a3 v26 a8 a7 a8 a11 0 a6 σ
def fX5_roundBy_L16  : Nat → Int32 → Int32 → Int32 → Int32 → Int32 → Int32 → Int32 → Int32 → kS → Option (Int32 × kS)
  | 0, _, _, _, _, _, _, _, _, _ => none
  | n + 1, a1, a2, a3, a4, a5, a6, a7, a8, σ =>
    if a2 ≤ a8 then
      if a3 < 10 then
        if a3 = 0 then
          some (a4, σ)
        else
          if a3 = 1 then
            some (a5, σ)
          else
            if a3 = 2 then
              some (a6, σ)
            else
              some (a7, σ)
      else
        kbi (fX5_noPerson (a3 - 10) σ) fun r8 σ7 =>
        if r8 = 0 then
          if inb (a3 - 10) 6 then
          some (σ7 3 (Int32.toNatClampNeg (a3 - 10)), σ7)
          else none
        else
          some ((-9), σ7)
    else
      if inb (a1 + (2 * a8)) 240 then
      klet (σ 19 (Int32.toNatClampNeg (a1 + (2 * a8)))) fun v13 =>
      if inb ((a1 + (2 * a8)) + 1) 240 then
      klet (σ 19 (Int32.toNatClampNeg ((a1 + (2 * a8)) + 1))) fun v15 =>
      if v15 = 8 then
        kbi (fX5_sent v13 σ) fun r24 σ23 =>
        if r24 = v13 then
          fX5_roundBy_J79 (fX5_roundBy_L16 n) a1 a2 a3 a5 a6 a7 a8 v13 r24 1 a4 σ23
        else
          fX5_roundBy_J79 (fX5_roundBy_L16 n) a1 a2 a3 a5 a6 a7 a8 v13 r24 0 a4 σ23
      else
        if 8 ≤ v15 then
          if inb v13 6 then
          klet (a8 + 1) fun v19 =>
          fX5_roundBy_L16 n a1 a2 a3 a4 a5 a6 a7 v19 (kup σ 4 (Int32.toNatClampNeg v13) (v15 - 10))
          else none
        else
          if inb v13 6 then
          klet (a8 + 1) fun v21 =>
          fX5_roundBy_L16 n a1 a2 a3 a4 a5 a6 a7 v21 (kup σ 2 (Int32.toNatClampNeg v13) v15)
          else none
      else none
      else none
def fX5_roundBy (a1 : Int32) (a2 : Int32) (a3 : Int32) (σ : kS) : Option (Int32 × kS) :=
  fX5_roundBy_L16 1000 a1 a2 a3 0 (-9) 0 0 0 σ
def fX5_round_J73  (a1 : Int32) (a2 : Int32) (a3 : Int32) (a4 : Int32) (a5 : Int32) (σ : kS) : Option (Int32 × kS) :=
    if (σ 0 1) = 0 then
      kbi (fX5_refused ((-3) : Int32) σ) fun r62 σ61 =>
      some (r62, σ61)
    else
      kbi (fX5_cellsBarred a1 a2 a3 (2 * (Int32.toInt64 a4)) σ) fun r41 σ40 =>
      if 0 ≤ r41 then
        kbi (fX5_pairsBarred ((60 * a1) + a3) a4 σ40) fun r45 σ44 =>
        if 0 ≤ r45 then
          kbv (fX5_keepAll σ44) fun σ48 =>
          kbi (fX5_roundBy ((60 * a1) + a3) a4 a5 σ48) fun r51 σ50 =>
          kbv (fX5_bringBack σ50) fun σ53 =>
          kbi (fX5_refused r51 σ53) fun r56 σ55 =>
          some (r56, σ55)
        else
          kbi (fX5_refused r45 σ44) fun r59 σ58 =>
          some (r59, σ58)
      else
        some (r41, σ40)
def fX5_round (a1 : Int32) (a2 : Int32) (a3 : Int32) (a4 : Int32) (a5 : Int32) (σ : kS) : Option (Int32 × kS) :=
  kbi (fX5_noSheet a1 σ) fun r3 σ2 =>
  if r3 = 0 then
    kbi (fX5_in (Int32.toInt64 a2) (0 : Int64) (2 : Int64) σ2) fun r8 σ7 =>
    if r8 = 0 then
      kbi (fX5_refused ((-2) : Int32) σ7) fun r13 σ12 =>
      some (r13, σ12)
    else
      kbi (fX5_in (Int32.toInt64 a4) (0 : Int64) (20 : Int64) σ7) fun r16 σ15 =>
      if r16 = 0 then
        kbi (fX5_refused ((-2) : Int32) σ15) fun r21 σ20 =>
        some (r21, σ20)
      else
        kbi (fX5_in (Int32.toInt64 a5) (0 : Int64) (3 : Int64) σ15) fun r24 σ23 =>
        if r24 = 0 then
          kbi (fX5_in (Int32.toInt64 a5) (10 : Int64) (15 : Int64) σ23) fun r29 σ28 =>
          if r29 = 0 then
            kbi (fX5_refused ((-2) : Int32) σ28) fun r34 σ33 =>
            some (r34, σ33)
          else
            fX5_round_J73 a1 a2 a3 a4 a5 σ28
        else
          fX5_round_J73 a1 a2 a3 a4 a5 σ23
  else
    kbi (fX5_refused ((-1) : Int32) σ2) fun r37 σ36 =>
    some (r37, σ36)
def fX5_strict_L21  : Nat → Int32 → Int32 → Int32 → Int32 → kS → Option (Int32 × kS)
  | 0, _, _, _, _, _ => none
  | n + 1, a1, a2, a3, a4, σ =>
    if a4 < 0 then
      some (a3, kup σ 0 3 a2)
    else
      kbi (fX5_goesTo a1 (kup σ 0 3 a4)) fun r10 σ9 =>
      if r10 = a1 then
        klet (a4 + (-1)) fun v13 =>
        fX5_strict_L21 n a1 a2 a4 v13 σ9
      else
        klet (a4 + (-1)) fun v12 =>
        fX5_strict_L21 n a1 a2 a3 v12 σ9
def fX5_strict (a1 : Int32) (σ : kS) : Option (Int32 × kS) :=
  kbi (fX5_noPerson a1 σ) fun r3 σ2 =>
  if r3 = 0 then
    klet (σ2 0 3) fun v6 =>
    fX5_strict_L21 1000 a1 v6 (-9) 3 σ2
  else
    some ((-1), σ2)
def fX5_comeNow_L4  : Nat → Int32 → Int32 → kS → Option (Int32 × kS)
  | 0, _, _, _ => none
  | n + 1, a1, a2, σ =>
    if (σ 0 1) ≤ a2 then
      some (a1, σ)
    else
      kbi (fX5_goesTo a2 σ) fun r4 σ3 =>
      if r4 = a2 then
        klet (a1 + 1) fun v8 =>
        klet (a2 + 1) fun v9 =>
        fX5_comeNow_L4 n v8 v9 σ3
      else
        klet (a1 + 0) fun v6 =>
        klet (a2 + 1) fun v7 =>
        fX5_comeNow_L4 n v6 v7 σ3
def fX5_comeNow  (σ : kS) : Option (Int32 × kS) :=
  fX5_comeNow_L4 1000 0 0 σ
def fX5_site_J70 (k38 : Int32 → Int32 → Int32 → Int32 → Int32 → kS → Option (Int32 × kS)) (a1 : Int32) (a2 : Int32) (a4 : Int32) (a5 : Int32) (a6 : Int32) (as0 : Int32) (σ : kS) : Option (Int32 × kS) :=
    if a6 ≤ a4 then
      klet (a5 + 1) fun v15 =>
      k38 a1 a2 as0 a4 v15 σ
    else
      klet (a5 + 1) fun v16 =>
      k38 a1 a2 as0 a6 v16 σ
def fX5_site_L38  : Nat → Int32 → Int32 → Int32 → Int32 → Int32 → kS → Option (Int32 × kS)
  | 0, _, _, _, _, _, _ => none
  | n + 1, a1, a2, a3, a4, a5, σ =>
    if 10 ≤ a5 then
      if a1 = 0 then
        some (a3, kup σ 0 2 a2)
      else
        some (a4, kup σ 0 2 a2)
    else
      kbi (fX5_comeNow (kup σ 0 2 a5)) fun r12 σ11 =>
      if r12 ≤ a4 then
        fX5_site_J70 (fX5_site_L38 n) a1 a2 a4 a5 r12 a3 σ11
      else
        fX5_site_J70 (fX5_site_L38 n) a1 a2 a4 a5 r12 a5 σ11
def fX5_site (a1 : Int32) (σ : kS) : Option (Int32 × kS) :=
  if (σ 0 1) = 0 then
    some ((-3), σ)
  else
    kbi (fX5_in (Int32.toInt64 a1) (0 : Int64) (1 : Int64) σ) fun r4 σ3 =>
    if r4 = 0 then
      some ((-2), σ3)
    else
      klet (σ3 0 2) fun v7 =>
      fX5_site_L38 1000 a1 v7 (-9) (-9) 0 σ3
def fX5_exchange (a1 : Int32) (a2 : Int32) (σ : kS) : Option kS :=
  if inb a1 6 then
  klet (σ 12 (Int32.toNatClampNeg a1)) fun v2 =>
  if inb a2 6 then
  if inb a1 6 then
  if inb a2 6 then
  some (kup (kup σ 12 (Int32.toNatClampNeg a1) (σ 12 (Int32.toNatClampNeg a2))) 12 (Int32.toNatClampNeg a2) v2)
  else none
  else none
  else none
  else none
def fX5_nextOrder_L86  : Nat → Int32 → Int32 → kS → Option (Int32 × kS)
  | 0, _, _, _ => none
  | n + 1, a3, a4, σ =>
    if a4 ≤ a3 then
      some (1, σ)
    else
      kbv (fX5_exchange a3 a4 σ) fun σ21 =>
      klet (a3 + 1) fun v22 =>
      klet (a4 + (-1)) fun v23 =>
      fX5_nextOrder_L86 n v22 v23 σ21
def fX5_nextOrder_L47  : Nat → Int32 → Int32 → kS → Option (Int32 × kS)
  | 0, _, _, _ => none
  | n + 1, a1, a2, σ =>
    if inb a2 6 then
    if inb a1 6 then
    if (σ 12 (Int32.toNatClampNeg a1)) ≤ (σ 12 (Int32.toNatClampNeg a2)) then
      kbv (fX5_exchange a1 a2 σ) fun σ15 =>
      klet (a1 + 1) fun v16 =>
      klet ((σ15 0 1) - 1) fun v17 =>
      fX5_nextOrder_L86 1000 v16 v17 σ15
    else
      klet (a2 + (-1)) fun v18 =>
      fX5_nextOrder_L47 n a1 v18 σ
    else none
    else none
def fX5_nextOrder_L7  : Nat → Int32 → kS → Option (Int32 × kS)
  | 0, _, _ => none
  | n + 1, a1, σ =>
    if a1 < 0 then
      if 0 ≤ a1 then
        klet ((σ 0 1) - 1) fun v4 =>
        fX5_nextOrder_L47 1000 a1 v4 σ
      else
        some (0, σ)
    else
      if inb a1 6 then
      if inb (a1 + 1) 6 then
      if (σ 12 (Int32.toNatClampNeg a1)) ≤ (σ 12 (Int32.toNatClampNeg (a1 + 1))) then
        if 0 ≤ a1 then
          klet ((σ 0 1) - 1) fun v9 =>
          fX5_nextOrder_L47 1000 a1 v9 σ
        else
          some (0, σ)
      else
        klet (a1 + (-1)) fun v10 =>
        fX5_nextOrder_L7 n v10 σ
      else none
      else none
def fX5_nextOrder  (σ : kS) : Option (Int32 × kS) :=
  klet ((σ 0 1) - 2) fun v1 =>
  fX5_nextOrder_L7 1000 v1 σ
def fX5_comeInOrder_L4  : Nat → Int32 → Int32 → kS → Option (Int32 × kS)
  | 0, _, _, _ => none
  | n + 1, a1, a2, σ =>
    if (σ 0 1) ≤ a2 then
      kbv (fX5_bringBack σ) fun σ3 =>
      some (a1, σ3)
    else
      if inb a2 6 then
      kbi (fX5_sent (σ 12 (Int32.toNatClampNeg a2)) σ) fun r7 σ6 =>
      if inb a2 6 then
      if r7 = (σ6 12 (Int32.toNatClampNeg a2)) then
        klet (a1 + 1) fun v12 =>
        klet (a2 + 1) fun v13 =>
        fX5_comeInOrder_L4 n v12 v13 σ6
      else
        klet (a1 + 0) fun v10 =>
        klet (a2 + 1) fun v11 =>
        fX5_comeInOrder_L4 n v10 v11 σ6
      else none
      else none
def fX5_comeInOrder  (σ : kS) : Option (Int32 × kS) :=
  fX5_comeInOrder_L4 1000 0 0 σ
def fX5_bestOrder_L44 (k32 : Int32 → Int32 → kS → Option (Int32 × kS)) : Nat → Int32 → Int32 → Int32 → kS → Option (Int32 × kS)
  | 0, _, _, _, _ => none
  | n + 1, a1, a3, a4, σ =>
    if (σ 0 1) ≤ a4 then
      if a3 ≤ a1 then
        kbi (fX5_nextOrder σ) fun r14 σ13 =>
        k32 a1 r14 σ13
      else
        kbi (fX5_nextOrder σ) fun r18 σ17 =>
        k32 a3 r18 σ17
    else
      if a3 ≤ a1 then
        if inb a4 6 then
        if inb a4 6 then
        klet (a4 + 1) fun v23 =>
        fX5_bestOrder_L44 k32 n a1 a3 v23 (kup σ 13 (Int32.toNatClampNeg a4) (σ 13 (Int32.toNatClampNeg a4)))
        else none
        else none
      else
        if inb a4 6 then
        if inb a4 6 then
        klet (a4 + 1) fun v26 =>
        fX5_bestOrder_L44 k32 n a1 a3 v26 (kup σ 13 (Int32.toNatClampNeg a4) (σ 12 (Int32.toNatClampNeg a4)))
        else none
        else none
def fX5_bestOrder_L32  : Nat → Int32 → Int32 → kS → Option (Int32 × kS)
  | 0, _, _, _ => none
  | n + 1, a1, a2, σ =>
    if a2 = 0 then
      some (a1, σ)
    else
      kbi (fX5_comeInOrder σ) fun r9 σ8 =>
      fX5_bestOrder_L44 (fX5_bestOrder_L32 n) 1000 a1 r9 0 σ8
def fX5_bestOrder_L6  : Nat → Int32 → kS → Option (Int32 × kS)
  | 0, _, _ => none
  | n + 1, a1, σ =>
    if (σ 0 1) ≤ a1 then
      fX5_bestOrder_L32 1000 (-9) 1 σ
    else
      if inb a1 6 then
      klet (a1 + 1) fun v5 =>
      fX5_bestOrder_L6 n v5 (kup σ 12 (Int32.toNatClampNeg a1) a1)
      else none
def fX5_bestOrder  (σ : kS) : Option (Int32 × kS) :=
  kbv (fX5_keepAll σ) fun σ2 =>
  fX5_bestOrder_L6 1000 0 σ2
def fX5_order (a1 : Int32) (σ : kS) : Option (Int32 × kS) :=
  if (σ 0 1) = 0 then
    some ((-3), σ)
  else
    kbi (fX5_in (Int32.toInt64 a1) ((-1) : Int64) (5 : Int64) σ) fun r4 σ3 =>
    if r4 = 0 then
      some ((-2), σ3)
    else
      kbi (fX5_bestOrder σ3) fun r9 σ8 =>
      if 0 ≤ a1 then
        if (σ8 0 1) ≤ a1 then
          some ((-9), σ8)
        else
          if inb a1 6 then
          some (σ8 13 (Int32.toNatClampNeg a1), σ8)
          else none
      else
        some (r9, σ8)
def fX5_asMet_L2  : Nat → Int32 → Int32 → kS → Option kS
  | 0, _, _, _ => none
  | n + 1, a1, a2, σ =>
    if (σ 0 1) ≤ a2 then
      some σ
    else
      kbi (fX5_isIn a1 a2 σ) fun r4 σ3 =>
      if r4 = 0 then
        if inb a2 6 then
        if inb a2 6 then
        klet (a2 + 1) fun v9 =>
        fX5_asMet_L2 n a1 v9 (kup σ3 3 (Int32.toNatClampNeg a2) (σ3 10 (Int32.toNatClampNeg a2)))
        else none
        else none
      else
        if inb a2 6 then
        if inb a2 6 then
        klet (a2 + 1) fun v12 =>
        fX5_asMet_L2 n a1 v12 (kup σ3 3 (Int32.toNatClampNeg a2) (σ3 9 (Int32.toNatClampNeg a2)))
        else none
        else none
def fX5_asMet (a1 : Int32) (σ : kS) : Option kS :=
  fX5_asMet_L2 1000 a1 0 σ
def fX5_spreads_J55 (k10 : Int32 → Int32 → Int32 → kS → Option kS) (a1 : Int32) (a2 : Int32) (a3 : Int32) (as0 : Int32) (σ : kS) : Option kS :=
    if inb as0 64 then
    if 0 ≤ (σ 14 (Int32.toNatClampNeg as0)) then
      if inb as0 64 then
      if inb as0 64 then
      klet (a3 + 1) fun v17 =>
      k10 a1 a2 v17 (kup σ 14 (Int32.toNatClampNeg as0) (σ 14 (Int32.toNatClampNeg as0)))
      else none
      else none
    else
      if inb as0 64 then
      klet (a3 + 1) fun v19 =>
      k10 a1 a2 v19 (kup σ 14 (Int32.toNatClampNeg as0) (a1 + 1))
      else none
    else none
def fX5_spreads_L10 (k2 : Int32 → Int32 → kS → Option kS) : Nat → Int32 → Int32 → Int32 → kS → Option kS
  | 0, _, _, _, _ => none
  | n + 1, a1, a2, a3, σ =>
    if (σ 0 1) ≤ a3 then
      klet (a2 + 1) fun v3 =>
      k2 a1 v3 σ
    else
      if inb a2 64 then
      if (σ 14 (Int32.toNatClampNeg a2)) = a1 then
        kbv (fX5_asMet a2 σ) fun σ8 =>
        kbi (fX5_goesTo a3 σ8) fun r11 σ10 =>
        if 0 ≤ r11 then
          fX5_spreads_J55 (fX5_spreads_L10 k2 n) a1 a2 a3 (a2 ||| ((1 : Int32) <<< (r11 &&& 31))) σ10
        else
          fX5_spreads_J55 (fX5_spreads_L10 k2 n) a1 a2 a3 a2 σ10
      else
        klet (a2 + 1) fun v6 =>
        k2 a1 v6 σ
      else none
def fX5_spreads_L2  : Nat → Int32 → Int32 → kS → Option kS
  | 0, _, _, _ => none
  | n + 1, a1, a2, σ =>
    if 64 ≤ a2 then
      some σ
    else
      fX5_spreads_L10 (fX5_spreads_L2 n) 1000 a1 a2 0 σ
def fX5_spreads (a1 : Int32) (σ : kS) : Option kS :=
  fX5_spreads_L2 1000 a1 0 σ
def fX5_ahead_J102 (k68 : Int32 → Int32 → Int32 → kS → Option (Int32 × kS)) (a1 : Int32) (a2 : Int32) (a3 : Int32) (as0 : Int32) (σ : kS) : Option (Int32 × kS) :=
    if as0 = 0 then
      klet (a3 + 1) fun v30 =>
      k68 a1 a2 v30 σ
    else
      if a2 < 0 then
        if inb a3 64 then
        klet (σ 14 (Int32.toNatClampNeg a3)) fun v33 =>
        klet (a3 + 1) fun v34 =>
        k68 a1 v33 v34 σ
        else none
      else
        if inb a3 64 then
        if a2 ≤ (σ 14 (Int32.toNatClampNeg a3)) then
          klet (a3 + 1) fun v37 =>
          k68 a1 a2 v37 σ
        else
          if inb a3 64 then
          klet (σ 14 (Int32.toNatClampNeg a3)) fun v39 =>
          klet (a3 + 1) fun v40 =>
          k68 a1 v39 v40 σ
          else none
        else none
def fX5_ahead_L68  : Nat → Int32 → Int32 → Int32 → kS → Option (Int32 × kS)
  | 0, _, _, _, _ => none
  | n + 1, a1, a2, a3, σ =>
    if 64 ≤ a3 then
      kbv (fX5_bringBack σ) fun σ20 =>
      some (a2, σ20)
    else
      kbv (fX5_asMet a3 σ) fun σ22 =>
      if inb a3 64 then
      if (σ22 14 (Int32.toNatClampNeg a3)) < 0 then
        fX5_ahead_J102 (fX5_ahead_L68 n) a1 a2 a3 0 σ22
      else
        kbi (fX5_goesTo a1 σ22) fun r27 σ26 =>
        if r27 = a1 then
          fX5_ahead_J102 (fX5_ahead_L68 n) a1 a2 a3 1 σ26
        else
          fX5_ahead_J102 (fX5_ahead_L68 n) a1 a2 a3 0 σ26
      else none
def fX5_ahead_L46  : Nat → Int32 → Int32 → kS → Option (Int32 × kS)
  | 0, _, _, _ => none
  | n + 1, a1, a2, σ =>
    if 7 ≤ a2 then
      fX5_ahead_L68 1000 a1 (-9) 0 σ
    else
      kbv (fX5_spreads a2 σ) fun σ16 =>
      klet (a2 + 1) fun v17 =>
      fX5_ahead_L46 n a1 v17 σ16
def fX5_ahead_L16  : Nat → Int32 → Int32 → kS → Option (Int32 × kS)
  | 0, _, _, _ => none
  | n + 1, a1, a2, σ =>
    if 64 ≤ a2 then
      fX5_ahead_L46 1000 a1 0 σ
    else
      if a2 = 0 then
        if inb a2 64 then
        klet (a2 + 1) fun v13 =>
        fX5_ahead_L16 n a1 v13 (kup σ 14 (Int32.toNatClampNeg a2) 0)
        else none
      else
        if inb a2 64 then
        klet (a2 + 1) fun v11 =>
        fX5_ahead_L16 n a1 v11 (kup σ 14 (Int32.toNatClampNeg a2) (-9))
        else none
def fX5_ahead (a1 : Int32) (σ : kS) : Option (Int32 × kS) :=
  kbi (fX5_noPerson a1 σ) fun r3 σ2 =>
  if r3 = 0 then
    kbv (fX5_keepAll σ2) fun σ7 =>
    fX5_ahead_L16 1000 a1 0 σ7
  else
    some ((-1), σ2)
def fX5_reading_J24  (a1 : Int32) (a2 : Int32) (σ : kS) : Option (Int32 × kS) :=
    if (σ 0 23) = 8 then
      some ((-4), σ)
    else
      if inb (σ 0 23) 8 then
      if inb ((kup σ 15 (Int32.toNatClampNeg (σ 0 23)) a1) 0 23) 8 then
      some (((kup (kup (kup σ 15 (Int32.toNatClampNeg (σ 0 23)) a1) 16 (Int32.toNatClampNeg ((kup σ 15 (Int32.toNatClampNeg (σ 0 23)) a1) 0 23)) a2) 0 23 (((kup (kup σ 15 (Int32.toNatClampNeg (σ 0 23)) a1) 16 (Int32.toNatClampNeg ((kup σ 15 (Int32.toNatClampNeg (σ 0 23)) a1) 0 23)) a2) 0 23) + 1)) 0 23) - 1, kup (kup (kup σ 15 (Int32.toNatClampNeg (σ 0 23)) a1) 16 (Int32.toNatClampNeg ((kup σ 15 (Int32.toNatClampNeg (σ 0 23)) a1) 0 23)) a2) 0 23 (((kup (kup σ 15 (Int32.toNatClampNeg (σ 0 23)) a1) 16 (Int32.toNatClampNeg ((kup σ 15 (Int32.toNatClampNeg (σ 0 23)) a1) 0 23)) a2) 0 23) + 1))
      else none
      else none
def fX5_reading (a1 : Int32) (a2 : Int32) (σ : kS) : Option (Int32 × kS) :=
  kbi (fX5_noPerson a1 σ) fun r3 σ2 =>
  if r3 = 0 then
    kbi (fX5_noPerson a2 σ2) fun r8 σ7 =>
    if r8 = 0 then
      fX5_reading_J24 a1 a2 σ7
    else
      if a2 = (-9) then
        fX5_reading_J24 a1 a2 σ7
      else
        some ((-1), σ7)
  else
    some ((-1), σ2)
def fX5_back (a1 : Int32) (σ : kS) : Option (Int32 × kS) :=
  kbi (fX5_in (Int32.toInt64 a1) (0 : Int64) (Int32.toInt64 (σ 0 23)) σ) fun r3 σ2 =>
  if r3 = 0 then
    some ((-2), σ2)
  else
    some ((kup σ2 0 23 ((σ2 0 23) - a1)) 0 23, kup σ2 0 23 ((σ2 0 23) - a1))
def fX5_areSo_L4  : Nat → Int32 → Int32 → kS → Option (Int32 × kS)
  | 0, _, _, _ => none
  | n + 1, a1, a2, σ =>
    if (σ 0 23) ≤ a2 then
      some (a1, σ)
    else
      if a1 = 0 then
        klet (a2 + 1) fun v3 =>
        fX5_areSo_L4 n 0 v3 σ
      else
        if inb a2 8 then
        kbi (fX5_goesTo (σ 15 (Int32.toNatClampNeg a2)) σ) fun r7 σ6 =>
        if inb a2 8 then
        if r7 = (σ6 16 (Int32.toNatClampNeg a2)) then
          klet (a2 + 1) fun v11 =>
          fX5_areSo_L4 n 1 v11 σ6
        else
          klet (a2 + 1) fun v10 =>
          fX5_areSo_L4 n 0 v10 σ6
        else none
        else none
def fX5_areSo  (σ : kS) : Option (Int32 × kS) :=
  fX5_areSo_L4 1000 1 0 σ
def fX5_smells_L22  : Nat → Int32 → Int32 → Int32 → Int32 → kS → Option (Int32 × kS)
  | 0, _, _, _, _, _ => none
  | n + 1, a1, a2, a3, a4, σ =>
    if 8 ≤ a4 then
      if inb a1 6 then
      some (a3, kup σ 2 (Int32.toNatClampNeg a1) a2)
      else none
    else
      if inb a1 6 then
      kbi (fX5_areSo (kup σ 2 (Int32.toNatClampNeg a1) a4)) fun r13 σ12 =>
      if r13 = 0 then
        klet (a3 ||| 0) fun v16 =>
        klet (a4 + 1) fun v17 =>
        fX5_smells_L22 n a1 a2 v16 v17 σ12
      else
        klet (a3 ||| ((1 : Int32) <<< (a4 &&& 31))) fun v18 =>
        klet (a4 + 1) fun v19 =>
        fX5_smells_L22 n a1 a2 v18 v19 σ12
      else none
def fX5_smells (a1 : Int32) (σ : kS) : Option (Int32 × kS) :=
  kbi (fX5_noPerson a1 σ) fun r3 σ2 =>
  if r3 = 0 then
    if inb a1 6 then
    klet (σ2 2 (Int32.toNatClampNeg a1)) fun v7 =>
    fX5_smells_L22 1000 a1 v7 0 0 σ2
    else none
  else
    some ((-1), σ2)
def fX5_pasts_L22  : Nat → Int32 → Int32 → Int32 → Int32 → kS → Option (Int32 × kS)
  | 0, _, _, _, _, _ => none
  | n + 1, a1, a2, a3, a4, σ =>
    if 8 ≤ a4 then
      if inb a1 6 then
      some (a3, kup σ 3 (Int32.toNatClampNeg a1) a2)
      else none
    else
      if inb a1 6 then
      kbi (fX5_areSo (kup σ 3 (Int32.toNatClampNeg a1) a4)) fun r13 σ12 =>
      if r13 = 0 then
        klet (a3 ||| 0) fun v16 =>
        klet (a4 + 1) fun v17 =>
        fX5_pasts_L22 n a1 a2 v16 v17 σ12
      else
        klet (a3 ||| ((1 : Int32) <<< (a4 &&& 31))) fun v18 =>
        klet (a4 + 1) fun v19 =>
        fX5_pasts_L22 n a1 a2 v18 v19 σ12
      else none
def fX5_pasts (a1 : Int32) (σ : kS) : Option (Int32 × kS) :=
  kbi (fX5_noPerson a1 σ) fun r3 σ2 =>
  if r3 = 0 then
    if inb a1 6 then
    klet (σ2 3 (Int32.toNatClampNeg a1)) fun v7 =>
    fX5_pasts_L22 1000 a1 v7 0 0 σ2
    else none
  else
    some ((-1), σ2)
def fX5_kinds_L22  : Nat → Int32 → Int32 → Int32 → Int32 → kS → Option (Int32 × kS)
  | 0, _, _, _, _, _ => none
  | n + 1, a1, a2, a3, a4, σ =>
    if 3 ≤ a4 then
      if inb a1 6 then
      some (a3, kup σ 1 (Int32.toNatClampNeg a1) a2)
      else none
    else
      if inb a1 6 then
      kbi (fX5_areSo (kup σ 1 (Int32.toNatClampNeg a1) a4)) fun r13 σ12 =>
      if r13 = 0 then
        klet (a3 ||| 0) fun v16 =>
        klet (a4 + 1) fun v17 =>
        fX5_kinds_L22 n a1 a2 v16 v17 σ12
      else
        klet (a3 ||| ((1 : Int32) <<< (a4 &&& 31))) fun v18 =>
        klet (a4 + 1) fun v19 =>
        fX5_kinds_L22 n a1 a2 v18 v19 σ12
      else none
def fX5_kinds (a1 : Int32) (σ : kS) : Option (Int32 × kS) :=
  kbi (fX5_noPerson a1 σ) fun r3 σ2 =>
  if r3 = 0 then
    if inb a1 6 then
    klet (σ2 1 (Int32.toNatClampNeg a1)) fun v7 =>
    fX5_kinds_L22 1000 a1 v7 0 0 σ2
    else none
  else
    some ((-1), σ2)
def fX5_odds_L35  : Nat → Int32 → Int32 → Int32 → Int64 → Int32 → kS → Option (Int64 × kS)
  | 0, _, _, _, _, _, _ => none
  | n + 1, a1, a2, a3, a4, a6, σ =>
    if 8 ≤ a6 then
      if inb a1 6 then
      kbl (fX5_share a4 (8 : Int64) a2 (kup σ 2 (Int32.toNatClampNeg a1) a3)) fun r23 σ22 =>
      some (r23, σ22)
      else none
    else
      if inb a1 6 then
      kbi (fX5_goesTo a1 (kup σ 2 (Int32.toNatClampNeg a1) a6)) fun r27 σ26 =>
      if r27 = a1 then
        klet (a4 + 1) fun v31 =>
        klet (a6 + 1) fun v32 =>
        fX5_odds_L35 n a1 a2 a3 v31 v32 σ26
      else
        klet (a4 + 0) fun v29 =>
        klet (a6 + 1) fun v30 =>
        fX5_odds_L35 n a1 a2 a3 v29 v30 σ26
      else none
def fX5_odds (a1 : Int32) (a2 : Int32) (σ : kS) : Option (Int64 × kS) :=
  kbi (fX5_noPerson a1 σ) fun r3 σ2 =>
  if r3 = 0 then
    kbi (fX5_in (Int32.toInt64 a2) (0 : Int64) (1 : Int64) σ2) fun r11 σ10 =>
    if r11 = 0 then
      kbl (fX5_lost σ10) fun r18 σ17 =>
      some (r18, σ17)
    else
      if inb a1 6 then
      klet (σ10 2 (Int32.toNatClampNeg a1)) fun v15 =>
      fX5_odds_L35 1000 a1 a2 v15 0 0 σ10
      else none
  else
    kbl (fX5_lost σ2) fun r8 σ7 =>
    some (r8, σ7)
def fX5_sheet_L65  : Nat → Int32 → Int32 → Int32 → kS → Option (Int32 × kS)
  | 0, _, _, _, _ => none
  | n + 1, a1, a3, a4, σ =>
    if a3 ≤ a4 then
      kbi (fX5_refused (1 : Int32) σ) fun r30 σ29 =>
      some (r30, σ29)
    else
      if inb ((60 * a1) + a4) 240 then
      klet (a4 + 1) fun v32 =>
      fX5_sheet_L65 n a1 a3 v32 (kup σ 19 (Int32.toNatClampNeg ((60 * a1) + a4)) 0)
      else none
def fX5_sheet (a1 : Int32) (a2 : Int32) (a3 : Int32) (σ : kS) : Option (Int32 × kS) :=
  kbi (fX5_noSheet a1 σ) fun r3 σ2 =>
  if r3 = 0 then
    kbi (fX5_in (Int32.toInt64 a2) (0 : Int64) (2 : Int64) σ2) fun r8 σ7 =>
    if r8 = 0 then
      kbi (fX5_refused ((-2) : Int32) σ7) fun r13 σ12 =>
      some (r13, σ12)
    else
      if a3 ≤ 60 then
        if 0 ≤ a3 then
          if inb a1 4 then
          if inb a1 4 then
          fX5_sheet_L65 1000 a1 a3 0 (kup (kup σ7 17 (Int32.toNatClampNeg a1) a3) 18 (Int32.toNatClampNeg a1) a2)
          else none
          else none
        else
          kbi (fX5_failed (4 : Int32) σ7) fun r20 σ19 =>
          some (r20, σ19)
      else
        kbi (fX5_refused ((-2) : Int32) σ7) fun r23 σ22 =>
        some (r23, σ22)
  else
    kbi (fX5_refused ((-1) : Int32) σ2) fun r26 σ25 =>
    some (r26, σ25)
def fX5_lose (a1 : Int32) (σ : kS) : Option (Int32 × kS) :=
  kbi (fX5_noSheet a1 σ) fun r3 σ2 =>
  if r3 = 0 then
    if inb a1 4 then
    if 0 ≤ (σ2 17 (Int32.toNatClampNeg a1)) then
      if inb a1 4 then
      some (1, kup σ2 17 (Int32.toNatClampNeg a1) (-1))
      else none
    else
      if inb a1 4 then
      some (0, kup σ2 17 (Int32.toNatClampNeg a1) (-1))
      else none
    else none
  else
    some ((-1), σ2)
def fX5_noCell (a1 : Int32) (a2 : Int32) (σ : kS) : Option (Int32 × kS) :=
  if inb a1 4 then
  if 0 ≤ (σ 17 (Int32.toNatClampNeg a1)) then
    if inb a1 4 then
    kbi (fX5_in (Int32.toInt64 a2) (0 : Int64) ((Int32.toInt64 (σ 17 (Int32.toNatClampNeg a1))) - 1) σ) fun r6 σ5 =>
    if r6 = 0 then
      some (3, σ5)
    else
      some (0, σ5)
    else none
  else
    some (1, σ)
  else none
def fX5_put (a1 : Int32) (a2 : Int32) (a3 : Int32) (σ : kS) : Option (Int32 × kS) :=
  kbi (fX5_noSheet a1 σ) fun r3 σ2 =>
  if r3 = 0 then
    kbi (fX5_noCell a1 a2 σ2) fun r8 σ7 =>
    if r8 ≤ 0 then
      if inb a1 4 then
      if (σ7 18 (Int32.toNatClampNeg a1)) = 0 then
        if inb ((60 * a1) + a2) 240 then
        kbi (fX5_refused (1 : Int32) (kup σ7 19 (Int32.toNatClampNeg ((60 * a1) + a2)) ((Int32.toInt8 a3).toInt32))) fun r25 σ24 =>
        some (r25, σ24)
        else none
      else
        if inb a1 4 then
        if (σ7 18 (Int32.toNatClampNeg a1)) = 1 then
          if inb ((60 * a1) + a2) 240 then
          kbi (fX5_refused (1 : Int32) (kup σ7 19 (Int32.toNatClampNeg ((60 * a1) + a2)) ((Int32.toInt16 a3).toInt32))) fun r21 σ20 =>
          some (r21, σ20)
          else none
        else
          if inb ((60 * a1) + a2) 240 then
          kbi (fX5_refused (1 : Int32) (kup σ7 19 (Int32.toNatClampNeg ((60 * a1) + a2)) a3)) fun r17 σ16 =>
          some (r17, σ16)
          else none
        else none
      else none
    else
      kbi (fX5_noCell a1 a2 σ7) fun r28 σ27 =>
      kbi (fX5_failed r28 σ27) fun r31 σ30 =>
      some (r31, σ30)
  else
    kbi (fX5_refused ((-1) : Int32) σ2) fun r34 σ33 =>
    some (r34, σ33)
def fX5_cell_J53  (a1 : Int32) (a2 : Int32) (σ : kS) : Option (Int64 × kS) :=
    kbi (fX5_noCell a1 a2 σ) fun r26 σ25 =>
    if r26 ≤ 0 then
      if inb ((60 * a1) + a2) 240 then
      some (Int32.toInt64 (σ25 19 (Int32.toNatClampNeg ((60 * a1) + a2))), σ25)
      else none
    else
      kbi (fX5_noCell a1 a2 σ25) fun r31 σ30 =>
      kbl (fX5_failedLong r31 σ30) fun r34 σ33 =>
      some (r34, σ33)
def fX5_cell (a1 : Int32) (a2 : Int32) (a3 : Int32) (σ : kS) : Option (Int64 × kS) :=
  kbi (fX5_noSheet a1 (kup σ 0 0 0)) fun r3 σ2 =>
  if r3 = 0 then
    kbi (fX5_in (Int32.toInt64 a3) (0 : Int64) (2 : Int64) σ2) fun r11 σ10 =>
    if r11 = 0 then
      kbl (fX5_lost σ10) fun r23 σ22 =>
      some (r23, σ22)
    else
      if inb a1 4 then
      if (σ10 17 (Int32.toNatClampNeg a1)) < 0 then
        fX5_cell_J53 a1 a2 σ10
      else
        if inb a1 4 then
        if (σ10 18 (Int32.toNatClampNeg a1)) = a3 then
          fX5_cell_J53 a1 a2 σ10
        else
          kbl (fX5_failedLong (2 : Int32) σ10) fun r20 σ19 =>
          some (r20, σ19)
        else none
      else none
  else
    kbl (fX5_lost σ2) fun r8 σ7 =>
    some (r8, σ7)
def fX5_copy_L144  : Nat → Int32 → Int32 → Int32 → Int32 → kS → Option (Int32 × kS)
  | 0, _, _, _, _, _ => none
  | n + 1, a3, a4, a5, a6, σ =>
    if a5 ≤ a6 then
      kbi (fX5_refused a5 σ) fun r58 σ57 =>
      some (r58, σ57)
    else
      if inb a6 60 then
      if inb (((60 * a3) + a4) + a6) 240 then
      klet (a6 + 1) fun v61 =>
      fX5_copy_L144 n a3 a4 a5 v61 (kup σ 19 (Int32.toNatClampNeg (((60 * a3) + a4) + a6)) (σ 20 (Int32.toNatClampNeg a6)))
      else none
      else none
def fX5_copy_L107  : Nat → Int32 → Int32 → Int32 → Int32 → Int32 → Int32 → kS → Option (Int32 × kS)
  | 0, _, _, _, _, _, _, _ => none
  | n + 1, a1, a2, a3, a4, a5, a6, σ =>
    if a5 ≤ a6 then
      fX5_copy_L144 1000 a3 a4 a5 0 σ
    else
      if inb (((60 * a1) + a2) + a6) 240 then
      if inb a6 60 then
      klet (a6 + 1) fun v54 =>
      fX5_copy_L107 n a1 a2 a3 a4 a5 v54 (kup σ 20 (Int32.toNatClampNeg a6) (σ 19 (Int32.toNatClampNeg (((60 * a1) + a2) + a6))))
      else none
      else none
def fX5_copy (a1 : Int32) (a2 : Int32) (a3 : Int32) (a4 : Int32) (a5 : Int32) (σ : kS) : Option (Int32 × kS) :=
  kbi (fX5_noSheet a1 σ) fun r3 σ2 =>
  if r3 = 0 then
    kbi (fX5_noSheet a3 σ2) fun r11 σ10 =>
    if r11 = 0 then
      if inb a1 4 then
      if (σ10 17 (Int32.toNatClampNeg a1)) < 0 then
        kbi (fX5_failed (1 : Int32) σ10) fun r18 σ17 =>
        some (r18, σ17)
      else
        if inb a3 4 then
        if 0 ≤ (σ10 17 (Int32.toNatClampNeg a3)) then
          if inb a1 4 then
          if inb a3 4 then
          if (σ10 18 (Int32.toNatClampNeg a1)) = (σ10 18 (Int32.toNatClampNeg a3)) then
            if inb a1 4 then
            kbi (fX5_isBeyond a2 (Int32.toInt64 a5) (σ10 17 (Int32.toNatClampNeg a1)) σ10) fun r27 σ26 =>
            if r27 = 0 then
              if inb a3 4 then
              kbi (fX5_isBeyond a4 (Int32.toInt64 a5) (σ26 17 (Int32.toNatClampNeg a3)) σ26) fun r36 σ35 =>
              if r36 = 0 then
                fX5_copy_L107 1000 a1 a2 a3 a4 a5 0 σ35
              else
                kbi (fX5_failed (3 : Int32) σ35) fun r41 σ40 =>
                some (r41, σ40)
              else none
            else
              kbi (fX5_failed (3 : Int32) σ26) fun r32 σ31 =>
              some (r32, σ31)
            else none
          else
            kbi (fX5_failed (2 : Int32) σ10) fun r44 σ43 =>
            some (r44, σ43)
          else none
          else none
        else
          kbi (fX5_failed (1 : Int32) σ10) fun r47 σ46 =>
          some (r47, σ46)
        else none
      else none
    else
      kbi (fX5_refused ((-1) : Int32) σ10) fun r50 σ49 =>
      some (r50, σ49)
  else
    kbi (fX5_refused ((-1) : Int32) σ2) fun r8 σ7 =>
    some (r8, σ7)
def fX5_traced (a1 : Int32) (σ : kS) : Option kS :=
  some (kup σ 0 30 ((31 * (σ 0 30)) + a1))
def fX5_tell_J51  (a1 : Int32) (a2 : Int32) (σ : kS) : Option (Int32 × kS) :=
    if inb a1 6 then
    klet (σ 2 (Int32.toNatClampNeg a1)) fun v25 =>
    if a2 = 0 then
      some (v25, σ)
    else
      if a2 = 1 then
        some (v25 + 100, σ)
      else
        some ((2 * v25) + 100, σ)
    else none
def fX5_tell_J27  (a1 : Int32) (a2 : Int32) (σ : kS) : Option (Int32 × kS) :=
    if a2 ≤ 0 then
      kbv (fX5_traced (1 : Int32) σ) fun σ13 =>
      if a2 = 2 then
        kbv (fX5_traced (1 : Int32) σ13) fun σ16 =>
        fX5_tell_J51 a1 a2 σ16
      else
        fX5_tell_J51 a1 a2 σ13
    else
      kbv (fX5_traced (2 : Int32) σ) fun σ18 =>
      kbv (fX5_traced (1 : Int32) σ18) fun σ20 =>
      if a2 = 2 then
        kbv (fX5_traced (1 : Int32) σ20) fun σ23 =>
        fX5_tell_J51 a1 a2 σ23
      else
        fX5_tell_J51 a1 a2 σ20
def fX5_tell (a1 : Int32) (σ : kS) : Option (Int32 × kS) :=
  kbi (fX5_noPerson a1 σ) fun r3 σ2 =>
  if r3 = 0 then
    if inb a1 6 then
    klet (σ2 1 (Int32.toNatClampNeg a1)) fun v7 =>
    if v7 = 2 then
      kbv (fX5_traced (3 : Int32) σ2) fun σ10 =>
      fX5_tell_J27 a1 v7 σ10
    else
      fX5_tell_J27 a1 v7 σ2
    else none
  else
    some ((-1), σ2)
def fX5_whistle (a1 : Int32) (σ : kS) : Option (Int32 × kS) :=
  kbi (fX5_noPerson a1 σ) fun r3 σ2 =>
  if r3 = 0 then
    if inb a1 6 then
    if (σ2 1 (Int32.toNatClampNeg a1)) = 2 then
      kbv (fX5_traced (5 : Int32) σ2) fun σ13 =>
      if inb a1 6 then
      if (σ13 1 (Int32.toNatClampNeg a1)) = 2 then
        some (70, σ13)
      else
        some (a1, σ13)
      else none
    else
      kbv (fX5_traced (4 : Int32) σ2) fun σ9 =>
      if inb a1 6 then
      if (σ9 1 (Int32.toNatClampNeg a1)) = 2 then
        some (70, σ9)
      else
        some (a1, σ9)
      else none
    else none
  else
    some ((-1), σ2)
def fX5_as (a1 : Int32) (a2 : Int32) (σ : kS) : Option (Int32 × kS) :=
  kbi (fX5_noPerson a1 σ) fun r3 σ2 =>
  if r3 = 0 then
    kbi (fX5_in (Int32.toInt64 a2) (0 : Int64) (2 : Int64) σ2) fun r8 σ7 =>
    if r8 = 0 then
      kbi (fX5_refused ((-2) : Int32) σ7) fun r21 σ20 =>
      some (r21, σ20)
    else
      if inb a1 6 then
      if (σ7 1 (Int32.toNatClampNeg a1)) < a2 then
        kbi (fX5_failed (2 : Int32) σ7) fun r15 σ14 =>
        some (r15, σ14)
      else
        kbi (fX5_refused (1 : Int32) σ7) fun r18 σ17 =>
        some (r18, σ17)
      else none
  else
    kbi (fX5_refused ((-1) : Int32) σ2) fun r24 σ23 =>
    some (r24, σ23)
def fX5_trace  (σ : kS) : Option (Int32 × kS) :=
  some (σ 0 30, σ)
def fX5_fault  (σ : kS) : Option (Int32 × kS) :=
  some (σ 0 0, σ)
def fX5_many (a1 : Int32) (σ : kS) : Option (Int32 × kS) :=
  if a1 = 0 then
    some (σ 0 1, σ)
  else
    if a1 = 1 then
      some (σ 0 2, σ)
    else
      if a1 = 2 then
        some (σ 0 3, σ)
      else
        if a1 = 3 then
          some (σ 0 4, σ)
        else
          if a1 = 4 then
            some (σ 0 23, σ)
          else
            some ((-2), σ)
