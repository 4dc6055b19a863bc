def md_in (a0 : Int32) (a1 : Int32) (a2 : Int32) : Option Bool :=
  if a0 < a1 then
    some false
  else
    if a2 < a0 then
      some false
    else
      some true
def md_isBook (μ : Mm) (a1 : Int32) : Option Bool :=
  if a1 < 0 then
    some false
  else
    if (μ 0 1) ≤ a1 then
      some false
    else
      some true
def md_isStop (μ : Mm) (a1 : Int32) : Option Bool :=
  if a1 < 0 then
    some false
  else
    if (μ 0 2) ≤ a1 then
      some false
    else
      some true
def md_isReader (μ : Mm) (a1 : Int32) : Option Bool :=
  if a1 < 0 then
    some false
  else
    if (μ 0 3) ≤ a1 then
      some false
    else
      some true
def md_isVan (a0 : Int32) : Option Bool :=
  if a0 < 0 then
    some false
  else
    if 3 ≤ a0 then
      some false
    else
      some true
def md_isDay (a0 : Int32) : Option Bool :=
  if a0 < 0 then
    some false
  else
    if 199 < a0 then
      some false
    else
      some true
def md_now (μ : Mm) (a1 : Int32) : Option (Bool × Mm) :=
  mbv (md_in a1 (μ 0 0) 199) <| fun x1 =>
  if (bI x1) = 0 then
    some (false, μ)
  else
    mst μ 0 0 a1 <| fun μ3 =>
    some (true, μ3)
def md_book (μ : Mm) (a1 : Int32) (a2 : Int32) (a3 : Int32) (a4 : Int32) : Option (Int32 × Mm) :=
  mbv (md_in a1 0 7) <| fun x1 =>
  if (bI x1) = 0 then
    some ((-1), μ)
  else
    mbv (md_in a2 1 9) <| fun x3 =>
    if (bI x3) = 0 then
      some ((-1), μ)
    else
      mbv (md_in a3 0 2) <| fun x5 =>
      if (bI x5) = 0 then
        some ((-1), μ)
      else
        mbv (md_in a4 0 1000) <| fun x7 =>
        if (bI x7) = 0 then
          some ((-1), μ)
        else
          if (μ 0 1) = 32 then
            some ((-1), μ)
          else
            mwr μ 1 32 (μ 0 1) a1 <| fun μ10 =>
            mwr μ10 2 32 (μ10 0 1) a2 <| fun μ11 =>
            mwr μ11 3 32 (μ11 0 1) a3 <| fun μ12 =>
            mwr μ12 4 32 (μ12 0 1) a4 <| fun μ13 =>
            mwr μ13 5 32 (μ13 0 1) 0 <| fun μ14 =>
            mwr μ14 6 32 (μ14 0 1) (-1) <| fun μ15 =>
            mst μ15 0 1 ((μ15 0 1) + 1) <| fun μ16 =>
            some (((μ16 0 1) - 1), μ16)
def md_lengthOn_b4 (μ : Mm) (a1 : Int32) (xs2 : Int32) (xs3 : Int32) : Option ((Int32 × Int32) ⊕ (Int32)) :=
  if (μ 0 1) ≤ xs3 then
    some (.inr xs2)
  else
    mrd μ 5 32 xs3 <| fun x2 =>
    if x2 = (1 + a1) then
      mrd μ 2 32 xs3 <| fun x4 =>
      some (.inl ((xs2 + x4), (xs3 + 1)))
    else
      some (.inl ((xs2 + 0), (xs3 + 1)))
def md_lengthOn_l4 (μ : Mm) (a1 : Int32) (xs2 : Int32) (xs3 : Int32) : Option ((Int32)) :=
  miter (fun q => md_lengthOn_b4 μ a1 q.1 q.2) FU (xs2, xs3)
def md_lengthOn (μ : Mm) (a1 : Int32) : Option Int32 :=
  mbv (md_lengthOn_l4 μ a1 0 0) <| fun x5 =>
  some x5
def md_shelf (μ : Mm) (a1 : Int32) (a2 : Int32) : Option (Bool × Mm) :=
  mbv (md_isVan a1) <| fun x1 =>
  if (bI x1) = 0 then
    some (false, μ)
  else
    mbv (md_in a2 0 99) <| fun x3 =>
    if (bI x3) = 0 then
      some (false, μ)
    else
      mbv (md_lengthOn μ a1) <| fun x5 =>
      if x5 ≤ a2 then
        mwr μ 9 3 a1 a2 <| fun μ7 =>
        some (true, μ7)
      else
        some (false, μ)
def md_stop (μ : Mm) (a1 : Int32) (a2 : Int32) (a3 : Int32) : Option (Int32 × Mm) :=
  mbv (md_in a1 0 99) <| fun x1 =>
  if (bI x1) = 0 then
    some ((-1), μ)
  else
    mbv (md_in a2 0 99) <| fun x3 =>
    if (bI x3) = 0 then
      some ((-1), μ)
    else
      mbv (md_in a3 1 200) <| fun x5 =>
      if (bI x5) = 0 then
        some ((-1), μ)
      else
        if (μ 0 2) = 10 then
          some ((-1), μ)
        else
          mwr μ 10 10 (μ 0 2) a1 <| fun μ8 =>
          mwr μ8 11 10 (μ8 0 2) a2 <| fun μ9 =>
          mwr μ9 12 10 (μ9 0 2) a3 <| fun μ10 =>
          mwr μ10 13 10 (μ10 0 2) (-1) <| fun μ11 =>
          mwr μ11 24 10 (μ11 0 2) (-1) <| fun μ12 =>
          mst μ12 0 2 ((μ12 0 2) + 1) <| fun μ13 =>
          some (((μ13 0 2) - 1), μ13)
def md_visit_j20 (μ : Mm) (a1 : Int32) (a2 : Int32) (a3 : Int32) : Option (Bool × Mm) :=
  mbv (md_in a3 0 13) <| fun x4 =>
  if (bI x4) = 0 then
    some (false, μ)
  else
    mwr μ 13 10 a1 a2 <| fun μ6 =>
    mwr μ6 14 10 a1 a3 <| fun μ7 =>
    some (true, μ7)
def md_visit (μ : Mm) (a1 : Int32) (a2 : Int32) (a3 : Int32) : Option (Bool × Mm) :=
  mbv (md_isStop μ a1) <| fun x1 =>
  if (bI x1) = 0 then
    some (false, μ)
  else
    if a2 = (-1) then
      md_visit_j20 μ a1 a2 a3
    else
      mbv (md_isVan a2) <| fun x8 =>
      if (bI x8) = 0 then
        some (false, μ)
      else
        md_visit_j20 μ a1 a2 a3
def md_reader_b50 (μ : Mm) (xs3 : Int32) : Option ((Int32 × Mm) ⊕ (Mm)) :=
  if 32 ≤ xs3 then
    some (.inr μ)
  else
    mwr μ 20 512 ((32 * (μ 0 3)) + xs3) (-1) <| fun μ9 =>
    some (.inl ((xs3 + 1), μ9))
def md_reader_l50 (μ : Mm) (xs3 : Int32) : Option ((Mm)) :=
  miter (fun q => md_reader_b50 q.2 q.1) FU (xs3, μ)
def md_reader (μ : Mm) (a1 : Int32) (a2 : Int32) : Option (Int32 × Mm) :=
  mbv (md_isStop μ a1) <| fun x1 =>
  if (bI x1) = 0 then
    some ((-1), μ)
  else
    mbv (md_in a2 0 2) <| fun x3 =>
    if (bI x3) = 0 then
      some ((-1), μ)
    else
      if (μ 0 3) = 16 then
        some ((-1), μ)
      else
        mwr μ 15 16 (μ 0 3) a1 <| fun μ6 =>
        mwr μ6 16 16 (μ6 0 3) a2 <| fun μ7 =>
        mbv (md_reader_l50 μ7 0) <| fun μ10 =>
        mst μ10 0 3 ((μ10 0 3) + 1) <| fun μ11 =>
        some (((μ11 0 3) - 1), μ11)
def md_taste (μ : Mm) (a1 : Int32) (a2 : Int32) (a3 : Int32) : Option (Bool × Mm) :=
  mbv (md_isReader μ a1) <| fun x1 =>
  if (bI x1) = 0 then
    some (false, μ)
  else
    mbv (md_in a2 0 7) <| fun x3 =>
    if (bI x3) = 0 then
      some (false, μ)
    else
      mbv (md_in a3 0 9) <| fun x5 =>
      if (bI x5) = 0 then
        some (false, μ)
      else
        mwr μ 17 128 ((8 * a1) + a2) a3 <| fun μ7 =>
        some (true, μ7)
def md_had (μ : Mm) (a1 : Int32) (a2 : Int32) : Option (Bool × Mm) :=
  mbv (md_isReader μ a1) <| fun x1 =>
  if (bI x1) = 0 then
    some (false, μ)
  else
    mbv (md_isBook μ a2) <| fun x3 =>
    if (bI x3) = 0 then
      some (false, μ)
    else
      mrd μ 21 512 ((32 * a1) + a2) <| fun x5 =>
      if x5 = 0 then
        mwr μ 21 512 ((32 * a1) + a2) (vp_nar .boolean 1) <| fun μ7 =>
        some (true, μ7)
      else
        some (false, μ)
def md_types_b2 (μ : Mm) (a1 : Int32) (xs2 : Int32) : Option ((Int32 × Mm) ⊕ (Mm)) :=
  if xs2 < 0 then
    some (.inr μ)
  else
    mwr μ 30 400 (μ 0 38) (vp_nar .byte (((a1 >>> ((8 * xs2) &&& 31))).toInt8.toInt32)) <| fun μ2 =>
    mst μ2 0 38 ((μ2 0 38) + 1) <| fun μ3 =>
    some (.inl ((xs2 + (-1)), μ3))
def md_types_l2 (μ : Mm) (a1 : Int32) (xs2 : Int32) : Option ((Mm)) :=
  miter (fun q => md_types_b2 q.2 a1 q.1) FU (xs2, μ)
def md_types (μ : Mm) (a1 : Int32) : Option Mm :=
  mbv (md_types_l2 μ a1 3) <| fun μ4 =>
  some μ4
def md_feed (μ : Mm) (a1 : Int32) (a2 : Int32) (a3 : Int32) (a4 : Int32) (a5 : Int32) : Option (Int32 × Mm) :=
  if ((μ 0 38) + 20) ≤ 400 then
    mbv (md_types μ a1) <| fun μ3 =>
    mbv (md_types μ3 a2) <| fun μ5 =>
    mbv (md_types μ5 a3) <| fun μ7 =>
    mbv (md_types μ7 a4) <| fun μ9 =>
    mbv (md_types μ9 a5) <| fun μ11 =>
    some ((μ11 0 38), μ11)
  else
    some ((-1), μ)
def md_here (μ : Mm) : Option Int32 :=
  if (μ 0 40) ≤ (μ 0 39) then
    some (-1)
  else
    mrd μ 30 400 (μ 0 39) <| fun x2 =>
    some (x2 &&& 255)
def md_isDigit (μ : Mm) : Option Bool :=
  mbv (md_here μ) <| fun x1 =>
  if x1 < 48 then
    some false
  else
    mbv (md_here μ) <| fun x3 =>
    if 57 < x3 then
      some false
    else
      some true
def md_wrong (μ : Mm) (a1 : Int32) (a2 : Int32) : Option (Bool × Mm) :=
  mst μ 0 41 (((-1000) * a1) - a2) <| fun μ1 =>
  some (false, μ1)
def md_takes (μ : Mm) (a1 : Int32) : Option (Bool × Mm) :=
  mbv (md_here μ) <| fun x1 =>
  if x1 = a1 then
    mst μ 0 39 ((μ 0 39) + 1) <| fun μ3 =>
    some (true, μ3)
  else
    mbm (md_wrong μ 1 (μ 0 39)) <| fun x4 μ5 =>
    some (x4, μ5)
def md_readsNumber_b10 (μ : Mm) (a1 : Int32) : Option ((Mm) ⊕ ((Mm) ⊕ (Mm))) :=
  mbv (md_isDigit μ) <| fun x2 =>
  if (bI x2) = 0 then
    some (.inr (.inr μ))
  else
    if (μ 0 39) = (a1 + 5) then
      some (.inr (.inl μ))
    else
      mbv (md_here μ) <| fun x5 =>
      mst μ 0 46 (((10 * (μ 0 46)) + x5) - 48) <| fun μ6 =>
      mst μ6 0 39 ((μ6 0 39) + 1) <| fun μ7 =>
      some (.inl μ7)
def md_readsNumber_l10 (μ : Mm) (a1 : Int32) : Option ((Mm) ⊕ (Mm)) :=
  miter (fun q => md_readsNumber_b10 q a1) FU μ
def md_readsNumber (μ : Mm) : Option (Bool × Mm) :=
  mst μ 0 46 0 <| fun μ1 =>
  msum2 (md_readsNumber_l10 μ1 (μ 0 39))
    (fun μ9 =>
      mbm (md_wrong μ9 2 (μ9 0 39)) <| fun x10 μ11 =>
      some (x10, μ11))
    (fun μ12 =>
      some (true, μ12))
def md_says (μ : Mm) (a1 : Int32) (a2 : Int32) : Option Mm :=
  mwr μ 31 220 (μ 0 43) ((1048576 * a1) + a2) <| fun μ1 =>
  mst μ1 0 43 ((μ1 0 43) + 1) <| fun μ2 =>
  some μ2
def md_opens (μ : Mm) (a1 : Int32) : Option (Bool × Mm) :=
  if (μ 0 42) = 6 then
    mbm (md_wrong μ 5 (μ 0 39)) <| fun x6 μ7 =>
    some (x6, μ7)
  else
    mst μ 0 42 ((μ 0 42) + 1) <| fun μ2 =>
    mwr μ2 32 220 (μ2 0 44) (1048576 * a1) <| fun μ3 =>
    mst μ3 0 44 ((μ3 0 44) + 1) <| fun μ4 =>
    mst μ4 0 39 ((μ4 0 39) + 1) <| fun μ5 =>
    some (true, μ5)
def md_top (μ : Mm) : Option Int32 :=
  if (μ 0 44) = 0 then
    some (-1)
  else
    mrd μ 32 220 ((μ 0 44) - 1) <| fun x2 =>
    some (x2 / 1048576)
def md_factOf (a0 : Int32) : Option Int32 :=
  if a0 = 98 then
    some 8
  else
  if a0 = 99 then
    some (-1)
  else
  if a0 = 100 then
    some (-1)
  else
  if a0 = 101 then
    some (-1)
  else
  if a0 = 102 then
    some 3
  else
  if a0 = 103 then
    some (-1)
  else
  if a0 = 104 then
    some 6
  else
  if a0 = 105 then
    some (-1)
  else
  if a0 = 106 then
    some (-1)
  else
  if a0 = 107 then
    some 1
  else
  if a0 = 108 then
    some 2
  else
  if a0 = 109 then
    some (-1)
  else
  if a0 = 110 then
    some 5
  else
  if a0 = 111 then
    some (-1)
  else
  if a0 = 112 then
    some 4
  else
  if a0 = 113 then
    some (-1)
  else
  if a0 = 114 then
    some 11
  else
  if a0 = 115 then
    some 7
  else
  if a0 = 116 then
    some 0
  else
  if a0 = 117 then
    some (-1)
  else
  if a0 = 118 then
    some (-1)
  else
  if a0 = 119 then
    some (-1)
  else
  if a0 = 120 then
    some 10
  else
  if a0 = 121 then
    some 9
  else
  some (-1)
def md_sumSign (a0 : Int32) : Option Int32 :=
  if a0 = 43 then
    some 2
  else
    if a0 = 45 then
      some 3
    else
      if a0 = 42 then
        some 4
      else
        if a0 = 47 then
          some 5
        else
          if a0 = 37 then
            some 6
          else
            some (-1)
def md_closesSums_j17 (μ : Mm) (a1 : Int32) : Option ((Mm) ⊕ (Mm)) :=
  if a1 = 0 then
    some (.inr μ)
  else
    mbv (md_top μ) <| fun x4 =>
    if x4 = 2 then
      mbv (md_top μ) <| fun x6 =>
      mbv (md_says μ x6 0) <| fun μ8 =>
      mst μ8 0 44 ((μ8 0 44) - 1) <| fun μ9 =>
      some (.inl μ9)
    else
      mbv (md_top μ) <| fun x10 =>
      if x10 = 3 then
        mbv (md_top μ) <| fun x12 =>
        mbv (md_says μ x12 0) <| fun μ14 =>
        mst μ14 0 44 ((μ14 0 44) - 1) <| fun μ15 =>
        some (.inl μ15)
      else
        some (.inr μ)
def md_closesSums_b0 (μ : Mm) (a1 : Int32) : Option ((Mm) ⊕ (Mm)) :=
  mbv (md_top μ) <| fun x1 =>
  if x1 < 4 then
    md_closesSums_j17 μ a1
  else
    mbv (md_top μ) <| fun x16 =>
    if x16 ≤ 6 then
      mbv (md_top μ) <| fun x18 =>
      mbv (md_says μ x18 0) <| fun μ20 =>
      mst μ20 0 44 ((μ20 0 44) - 1) <| fun μ21 =>
      some (.inl μ21)
    else
      md_closesSums_j17 μ a1
def md_closesSums_l0 (μ : Mm) (a1 : Int32) : Option ((Mm)) :=
  miter (fun q => md_closesSums_b0 q a1) FU μ
def md_closesSums (μ : Mm) (a1 : Int32) : Option Mm :=
  mbv (md_closesSums_l0 μ a1) <| fun μ22 =>
  some μ22
def md_readsFactor_b0 (μ : Mm) : Option ((Mm) ⊕ ((Mm) ⊕ (Mm))) :=
  mbv (md_here μ) <| fun x1 =>
  if x1 = 91 then
    mbm (md_opens μ 14) <| fun x3 μ4 =>
    if (bI x3) = 0 then
      some (.inr (.inl μ4))
    else
      some (.inl μ4)
  else
    some (.inr (.inr μ))
def md_readsFactor_l0 (μ : Mm) : Option ((Mm) ⊕ (Mm)) :=
  miter (fun q => md_readsFactor_b0 q) FU μ
def md_readsFactor (μ : Mm) : Option (Bool × Mm) :=
  msum2 (md_readsFactor_l0 μ)
    (fun μ7 =>
      some (false, μ7))
    (fun μ8 =>
      mbv (md_isDigit μ8) <| fun x9 =>
      if (bI x9) = 0 then
        mbv (md_here μ8) <| fun x11 =>
        mbv (md_factOf x11) <| fun x12 =>
        if x12 = (-1) then
          mbm (md_wrong μ8 1 (μ8 0 39)) <| fun x17 μ18 =>
          some (x17, μ18)
        else
          mbv (md_says μ8 1 x12) <| fun μ15 =>
          mst μ15 0 39 ((μ15 0 39) + 1) <| fun μ16 =>
          some (true, μ16)
      else
        mbm (md_readsNumber μ8) <| fun x19 μ20 =>
        if (bI x19) = 0 then
          some (false, μ20)
        else
          mbv (md_says μ20 0 (μ20 0 46)) <| fun μ23 =>
          some (true, μ23))
def md_hasOpenSum_b2 (μ : Mm) (xs2 : Int32) : Option ((Int32) ⊕ ((Unit) ⊕ (Unit))) :=
  if (μ 0 44) ≤ xs2 then
    some (.inr (.inr ()))
  else
    mrd μ 32 220 xs2 <| fun x2 =>
    if (x2 / 1048576) = 14 then
      some (.inr (.inl ()))
    else
      some (.inl (xs2 + 1))
def md_hasOpenSum_l2 (μ : Mm) (xs2 : Int32) : Option ((Unit) ⊕ (Unit)) :=
  miter (fun q => md_hasOpenSum_b2 μ q) FU xs2
def md_hasOpenSum (μ : Mm) (a1 : Int32) : Option Bool :=
  msum2 (md_hasOpenSum_l2 μ a1)
    (fun _ =>
      some true)
    (fun _ =>
      some false)
def md_readsSum_j38 (μ : Mm) (a1 : Int32) (a2 : Int32) (y1 : Int32) : Option ((Mm) ⊕ ((Mm) ⊕ (Mm))) :=
  mbv (md_closesSums μ y1) <| fun μ18 =>
  mwr μ18 32 220 (μ18 0 44) (1048576 * a2) <| fun μ19 =>
  mst μ19 0 44 ((μ19 0 44) + 1) <| fun μ20 =>
  mst μ20 0 39 ((μ20 0 39) + 1) <| fun μ21 =>
  mbm (md_readsFactor μ21) <| fun x22 μ23 =>
  if (bI x22) = 0 then
    some (.inr (.inl μ23))
  else
    some (.inl μ23)
def md_readsSum_b14 (μ : Mm) (a1 : Int32) : Option ((Mm) ⊕ ((Mm) ⊕ (Mm))) :=
  mbv (md_here μ) <| fun x4 =>
  mbv (md_sumSign x4) <| fun x5 =>
  if x5 = (-1) then
    mbv (md_here μ) <| fun x7 =>
    if x7 = 93 then
      mbv (md_hasOpenSum μ a1) <| fun x9 =>
      if (bI x9) = 0 then
        some (.inr (.inr μ))
      else
        mbv (md_closesSums μ 1) <| fun μ12 =>
        mst μ12 0 44 ((μ12 0 44) - 1) <| fun μ13 =>
        mst μ13 0 42 ((μ13 0 42) - 1) <| fun μ14 =>
        mst μ14 0 39 ((μ14 0 39) + 1) <| fun μ15 =>
        some (.inl μ15)
    else
      some (.inr (.inr μ))
  else
    if 4 ≤ x5 then
      md_readsSum_j38 μ a1 x5 0
    else
      md_readsSum_j38 μ a1 x5 1
def md_readsSum_l14 (μ : Mm) (a1 : Int32) : Option ((Mm) ⊕ (Mm)) :=
  miter (fun q => md_readsSum_b14 q a1) FU μ
def md_readsSum_j138 (μ : Mm) (a1 : Int32) : Option (Bool × Mm) :=
  mbv (md_hasOpenSum μ a1) <| fun x28 =>
  if (bI x28) = 0 then
    mbv (md_closesSums μ 1) <| fun μ31 =>
    some (true, μ31)
  else
    mbm (md_wrong μ 1 (μ 0 39)) <| fun x32 μ33 =>
    some (x32, μ33)
def md_readsSum (μ : Mm) : Option (Bool × Mm) :=
  mbm (md_readsFactor μ) <| fun x1 μ2 =>
  if (bI x1) = 0 then
    some (false, μ2)
  else
    msum2 (md_readsSum_l14 μ2 (μ 0 44))
      (fun μ26 =>
        some (false, μ26))
      (fun μ27 =>
        md_readsSum_j138 μ27 (μ 0 44))
def md_endsPiece_b0 (μ : Mm) : Option ((Mm) ⊕ (Mm)) :=
  mbv (md_top μ) <| fun x1 =>
  if x1 = 10 then
    mbv (md_says μ 10 0) <| fun μ4 =>
    mst μ4 0 44 ((μ4 0 44) - 1) <| fun μ5 =>
    mst μ5 0 42 ((μ5 0 42) - 1) <| fun μ6 =>
    some (.inl μ6)
  else
    some (.inr μ)
def md_endsPiece_l0 (μ : Mm) : Option ((Mm)) :=
  miter (fun q => md_endsPiece_b0 q) FU μ
def md_endsPiece (μ : Mm) : Option Mm :=
  mbv (md_endsPiece_l0 μ) <| fun μ7 =>
  some μ7
def md_lands_j22 (μ : Mm) (a1 : Int32) : Option ((Mm) ⊕ (Mm)) :=
  mrd μ 32 220 ((μ 0 44) - 1) <| fun x3 =>
  mrd μ 31 220 (x3 - x3 / 1048576 * 1048576) <| fun x4 =>
  mwr μ 31 220 (x3 - x3 / 1048576 * 1048576) ((1048576 * (x4 / 1048576)) + (μ 0 43)) <| fun μ5 =>
  mst μ5 0 44 ((μ5 0 44) - 1) <| fun μ6 =>
  some (.inl μ6)
def md_lands_b0 (μ : Mm) (a1 : Int32) : Option ((Mm) ⊕ (Mm)) :=
  mbv (md_top μ) <| fun x1 =>
  if x1 = 11 then
    md_lands_j22 μ a1
  else
    if a1 = 0 then
      some (.inr μ)
    else
      mbv (md_top μ) <| fun x8 =>
      if x8 = 12 then
        md_lands_j22 μ a1
      else
        some (.inr μ)
def md_lands_l0 (μ : Mm) (a1 : Int32) : Option ((Mm)) :=
  miter (fun q => md_lands_b0 q a1) FU μ
def md_lands (μ : Mm) (a1 : Int32) : Option Mm :=
  mbv (md_lands_l0 μ a1) <| fun μ10 =>
  some μ10
def md_jumps (μ : Mm) (a1 : Int32) : Option Mm :=
  mwr μ 32 220 (μ 0 44) ((1048576 * a1) + (μ 0 43)) <| fun μ1 =>
  mst μ1 0 44 ((μ1 0 44) + 1) <| fun μ2 =>
  mbv (md_says μ2 a1 0) <| fun μ4 =>
  mst μ4 0 39 ((μ4 0 39) + 1) <| fun μ5 =>
  some μ5
def md_readsCompared_j52 (μ : Mm) (y0 : Int32) : Option (Bool × Mm) :=
  if y0 = (-1) then
    mbm (md_wrong μ 1 (μ 0 39)) <| fun x19 μ20 =>
    some (x19, μ20)
  else
    mst μ 0 39 ((μ 0 39) + 1) <| fun μ11 =>
    mbm (md_readsSum μ11) <| fun x12 μ13 =>
    if (bI x12) = 0 then
      some (false, μ13)
    else
      mbv (md_says μ13 y0 0) <| fun μ16 =>
      mbv (md_endsPiece μ16) <| fun μ18 =>
      some (true, μ18)
def md_readsCompared (μ : Mm) : Option (Bool × Mm) :=
  mbm (md_readsSum μ) <| fun x1 μ2 =>
  if (bI x1) = 0 then
    some (false, μ2)
  else
    mbv (md_here μ2) <| fun x4 =>
    if x4 = 60 then
      md_readsCompared_j52 μ2 7
    else
      mbv (md_here μ2) <| fun x6 =>
      if x6 = 62 then
        md_readsCompared_j52 μ2 8
      else
        mbv (md_here μ2) <| fun x8 =>
        if x8 = 61 then
          md_readsCompared_j52 μ2 9
        else
          md_readsCompared_j52 μ2 (-1)
def md_readsCondition_b92 (μ : Mm) : Option ((Mm) ⊕ ((Mm) ⊕ (Mm))) :=
  mbv (md_here μ) <| fun x23 =>
  if x23 = 41 then
    mbv (md_lands μ 1) <| fun μ26 =>
    mst μ26 0 44 ((μ26 0 44) - 1) <| fun μ27 =>
    mst μ27 0 42 ((μ27 0 42) - 1) <| fun μ28 =>
    mst μ28 0 39 ((μ28 0 39) + 1) <| fun μ29 =>
    if (μ29 0 44) = 0 then
      some (.inr (.inl μ29))
    else
      mbv (md_endsPiece μ29) <| fun μ32 =>
      some (.inl μ32)
  else
    some (.inr (.inr μ))
def md_readsCondition_l92 (μ : Mm) : Option ((Mm) ⊕ (Mm)) :=
  miter (fun q => md_readsCondition_b92 q) FU μ
def md_readsCondition_j180 (μ : Mm) : Option ((Mm) ⊕ ((Mm) ⊕ (Mm) ⊕ (Mm) ⊕ (Mm))) :=
  mbv (md_here μ) <| fun x38 =>
  if x38 = 124 then
    mbv (md_lands μ 1) <| fun μ49 =>
    mbv (md_here μ49) <| fun x50 =>
    if x50 = 38 then
      mbv (md_jumps μ49 11) <| fun μ55 =>
      some (.inl μ55)
    else
      mbv (md_jumps μ49 12) <| fun μ53 =>
      some (.inl μ53)
  else
    mbv (md_lands μ 0) <| fun μ41 =>
    mbv (md_here μ41) <| fun x42 =>
    if x42 = 38 then
      mbv (md_jumps μ41 11) <| fun μ47 =>
      some (.inl μ47)
    else
      mbv (md_jumps μ41 12) <| fun μ45 =>
      some (.inl μ45)
def md_readsCondition_b40 (μ : Mm) : Option ((Mm) ⊕ ((Mm) ⊕ (Mm) ⊕ (Mm) ⊕ (Mm))) :=
  mbv (md_here μ) <| fun x8 =>
  if x8 = 33 then
    mbv (md_here μ) <| fun x10 =>
    if x10 = 33 then
      mbm (md_opens μ 10) <| fun x15 μ16 =>
      if (bI x15) = 0 then
        some (.inr (.inl μ16))
      else
        some (.inl μ16)
    else
      mbm (md_opens μ 13) <| fun x12 μ13 =>
      if (bI x12) = 0 then
        some (.inr (.inl μ13))
      else
        some (.inl μ13)
  else
    mbv (md_here μ) <| fun x18 =>
    if x18 = 40 then
      mbv (md_here μ) <| fun x58 =>
      if x58 = 33 then
        mbm (md_opens μ 10) <| fun x63 μ64 =>
        if (bI x63) = 0 then
          some (.inr (.inl μ64))
        else
          some (.inl μ64)
      else
        mbm (md_opens μ 13) <| fun x60 μ61 =>
        if (bI x60) = 0 then
          some (.inr (.inl μ61))
        else
          some (.inl μ61)
    else
      mbm (md_readsCompared μ) <| fun x20 μ21 =>
      if (bI x20) = 0 then
        some (.inr (.inr (.inl μ21)))
      else
        msum2 (md_readsCondition_l92 μ21)
          (fun μ34 =>
            some (.inr (.inr (.inr (.inl μ34)))))
          (fun μ35 =>
            mbv (md_here μ35) <| fun x36 =>
            if x36 = 38 then
              md_readsCondition_j180 μ35
            else
              mbv (md_here μ35) <| fun x56 =>
              if x56 = 124 then
                md_readsCondition_j180 μ35
              else
                some (.inr (.inr (.inr (.inr μ35)))))
def md_readsCondition_l40 (μ : Mm) : Option ((Mm) ⊕ (Mm) ⊕ (Mm) ⊕ (Mm)) :=
  miter (fun q => md_readsCondition_b40 q) FU μ
def md_readsCondition (μ : Mm) : Option (Bool × Mm) :=
  mbv (md_here μ) <| fun x1 =>
  if x1 = 40 then
    mst μ 0 42 0 <| fun μ3 =>
    mst μ3 0 44 0 <| fun μ4 =>
    mbm (md_opens μ4 13) <| fun x5 μ6 =>
    if (bI x5) = 0 then
      some (false, μ6)
    else
      msum4 (md_readsCondition_l40 μ6)
        (fun μ67 =>
          some (false, μ67))
        (fun μ68 =>
          some (false, μ68))
        (fun μ69 =>
          some (true, μ69))
        (fun μ70 =>
          mbm (md_wrong μ70 1 (μ70 0 39)) <| fun x71 μ72 =>
          some (x71, μ72))
  else
    mbm (md_wrong μ 1 (μ 0 39)) <| fun x73 μ74 =>
    some (x73, μ74)
def md_readsClause_j33 (μ : Mm) (a1 : Int32) : Option (Bool × Mm) :=
  if (μ 0 45) = 14 then
    mbm (md_wrong μ 4 (μ 0 39)) <| fun x18 μ19 =>
    some (x18, μ19)
  else
    mwr μ 33 14 (μ 0 45) a1 <| fun μ4 =>
    mst μ4 0 39 ((μ4 0 39) + 1) <| fun μ5 =>
    mwr μ5 34 14 (μ5 0 45) (μ5 0 43) <| fun μ6 =>
    mst μ6 0 42 0 <| fun μ7 =>
    mst μ7 0 44 0 <| fun μ8 =>
    mbm (md_readsSum μ8) <| fun x9 μ10 =>
    if (bI x9) = 0 then
      some (false, μ10)
    else
      mwr μ10 35 14 (μ10 0 45) (μ10 0 43) <| fun μ12 =>
      mbm (md_readsCondition μ12) <| fun x13 μ14 =>
      if (bI x13) = 0 then
        some (false, μ14)
      else
        mwr μ14 36 14 (μ14 0 45) (μ14 0 43) <| fun μ16 =>
        mst μ16 0 45 ((μ16 0 45) + 1) <| fun μ17 =>
        some (true, μ17)
def md_readsClause (μ : Mm) : Option (Bool × Mm) :=
  mbv (md_here μ) <| fun x1 =>
  if x1 = 119 then
    md_readsClause_j33 μ x1
  else
    if x1 = 100 then
      md_readsClause_j33 μ x1
    else
      if x1 = 102 then
        md_readsClause_j33 μ x1
      else
        mbm (md_wrong μ 1 (μ 0 39)) <| fun x22 μ23 =>
        some (x22, μ23)
def md_law_b46 (μ : Mm) (xs2 : Int32) : Option ((Int32 × Mm) ⊕ (Int32 × Mm)) :=
  if xs2 = 0 then
    some (.inr (xs2, μ))
  else
    if (μ 0 40) ≤ (μ 0 39) then
      some (.inr (xs2, μ))
    else
      mbm (md_takes μ 59) <| fun x12 μ13 =>
      if (bI x12) = 0 then
        some (.inl (0, μ13))
      else
        mbm (md_readsClause μ13) <| fun x15 μ16 =>
        if (bI x15) = 0 then
          some (.inl (0, μ16))
        else
          some (.inl (1, μ16))
def md_law_l46 (μ : Mm) (xs2 : Int32) : Option ((Int32 × Mm)) :=
  miter (fun q => md_law_b46 q.2 q.1) FU (xs2, μ)
def md_law_b110 (μ : Mm) (xs3 : Int32) : Option ((Int32 × Mm) ⊕ (Mm)) :=
  if (μ 0 43) ≤ xs3 then
    some (.inr μ)
  else
    mrd μ 31 220 xs3 <| fun x24 =>
    mwr μ 37 220 xs3 x24 <| fun μ25 =>
    some (.inl ((xs3 + 1), μ25))
def md_law_l110 (μ : Mm) (xs3 : Int32) : Option ((Mm)) :=
  miter (fun q => md_law_b110 q.2 q.1) FU (xs3, μ)
def md_law_b138 (μ : Mm) (xs3 : Int32) : Option ((Int32 × Mm) ⊕ (Mm)) :=
  if (μ 0 45) ≤ xs3 then
    some (.inr μ)
  else
    mrd μ 33 14 xs3 <| fun x28 =>
    mwr μ 38 14 xs3 x28 <| fun μ29 =>
    mrd μ29 34 14 xs3 <| fun x30 =>
    mwr μ29 39 14 xs3 x30 <| fun μ31 =>
    mrd μ31 35 14 xs3 <| fun x32 =>
    mwr μ31 40 14 xs3 x32 <| fun μ33 =>
    mrd μ33 36 14 xs3 <| fun x34 =>
    mwr μ33 41 14 xs3 x34 <| fun μ35 =>
    some (.inl ((xs3 + 1), μ35))
def md_law_l138 (μ : Mm) (xs3 : Int32) : Option ((Mm)) :=
  miter (fun q => md_law_b138 q.2 q.1) FU (xs3, μ)
def md_law_j86 (μ : Mm) (a2 : Int32) : Option (Int32 × Mm) :=
  mst μ 0 38 0 <| fun μ20 =>
  if a2 = 0 then
    some ((μ20 0 41), μ20)
  else
    mst μ20 0 58 (μ20 0 45) <| fun μ22 =>
    mbv (md_law_l110 μ22 0) <| fun μ26 =>
    mbv (md_law_l138 μ26 0) <| fun μ36 =>
    some ((μ36 0 45), μ36)
def md_law (μ : Mm) (a1 : Int32) : Option (Int32 × Mm) :=
  mbv (md_in a1 1 200) <| fun x1 =>
  if (bI x1) = 0 then
    some ((-1), μ)
  else
    if a1 ≤ (μ 0 38) then
      mst μ 0 39 0 <| fun μ4 =>
      mst μ4 0 40 a1 <| fun μ5 =>
      mst μ5 0 43 0 <| fun μ6 =>
      mst μ6 0 45 0 <| fun μ7 =>
      mbm (md_readsClause μ7) <| fun x8 μ9 =>
      mbv (md_law_l46 μ9 (bI x8)) <| un2 fun x18 μ19 =>
      md_law_j86 μ19 x18
    else
      some ((-1), μ)
def md_reckon (a0 : Int32) (a1 : Int32) (a2 : Int32) : Option Int32 :=
  if a0 = 2 then
    some (a1 + a2)
  else
  if a0 = 3 then
    some (a1 - a2)
  else
  if a0 = 4 then
    some (a1 * a2)
  else
  if a0 = 5 then
    mdv a2 <|
    some (a1 / a2)
  else
  if a0 = 6 then
    mdv a2 <|
    some (a1 - a1 / a2 * a2)
  else
  if a0 = 7 then
    if a2 ≤ a1 then
      some 0
    else
      some 1
  else
  if a0 = 8 then
    if a1 ≤ a2 then
      some 0
    else
      some 1
  else
  if a1 = a2 then
    some 1
  else
    some 0
def md_comesTo_j63 (μ : Mm) (a2 : Int32) (a3 : Int32) (a4 : Int32) (a5 : Int32) (a6 : Int32) (a7 : Int32) : Option ((Int32 × Int32 × Mm) ⊕ ((Mm) ⊕ (Mm))) :=
  if a6 = 0 then
    mwr μ 42 220 a3 a7 <| fun μ8 =>
    some (.inl ((a3 + 1), a5, μ8))
  else
    mrd μ 43 12 a7 <| fun x6 =>
    mwr μ 42 220 a3 x6 <| fun μ7 =>
    some (.inl ((a3 + 1), a5, μ7))
def md_comesTo_j135 (μ : Mm) (a2 : Int32) (a3 : Int32) (a4 : Int32) (a5 : Int32) (a6 : Int32) (a7 : Int32) : Option ((Int32 × Int32 × Mm) ⊕ ((Mm) ⊕ (Mm))) :=
  mrd μ 42 220 (a3 - 1) <| fun x12 =>
  if a6 = 12 then
    if x12 = 1 then
      some (.inl (a3, (a4 + a7), μ))
    else
      some (.inl ((a3 - 1), a5, μ))
  else
    if x12 = 0 then
      some (.inl (a3, (a4 + a7), μ))
    else
      some (.inl ((a3 - 1), a5, μ))
def md_comesTo_j203 (μ : Mm) (a2 : Int32) (a3 : Int32) (a4 : Int32) (a5 : Int32) (a6 : Int32) : Option ((Int32 × Int32 × Mm) ⊕ ((Mm) ⊕ (Mm))) :=
  mrd μ 42 220 (a3 - 1) <| fun x20 =>
  mrd μ 42 220 a3 <| fun x21 =>
  mbv (md_reckon a6 x20 x21) <| fun x22 =>
  mwr μ 42 220 (a3 - 1) x22 <| fun μ23 =>
  some (.inl (a3, a5, μ23))
def md_comesTo_j192 (μ : Mm) (a2 : Int32) (a3 : Int32) (a4 : Int32) (a5 : Int32) (a6 : Int32) : Option ((Int32 × Int32 × Mm) ⊕ ((Mm) ⊕ (Mm))) :=
  mrd μ 42 220 a3 <| fun x18 =>
  if x18 = 0 then
    some (.inr (.inl μ))
  else
    md_comesTo_j203 μ a2 a3 a4 a5 a6
def md_comesTo_b16 (μ : Mm) (a2 : Int32) (a4 : Int32) (xs3 : Int32) (xs5 : Int32) : Option ((Int32 × Int32 × Mm) ⊕ ((Mm) ⊕ (Mm))) :=
  if a2 ≤ xs5 then
    some (.inr (.inr μ))
  else
    mrd μ 37 220 xs5 <| fun x2 =>
    mrd μ 37 220 xs5 <| fun x3 =>
    if (x2 / 1048576) = 0 then
      md_comesTo_j63 μ a2 xs3 a4 (xs5 + 1) (x2 / 1048576) (x3 - x3 / 1048576 * 1048576)
    else
      if (x2 / 1048576) = 1 then
        md_comesTo_j63 μ a2 xs3 a4 (xs5 + 1) (x2 / 1048576) (x3 - x3 / 1048576 * 1048576)
      else
        if (x2 / 1048576) = 10 then
          mrd μ 42 220 (xs3 - 1) <| fun x25 =>
          mwr μ 42 220 (xs3 - 1) (1 - x25) <| fun μ26 =>
          some (.inl (xs3, (xs5 + 1), μ26))
        else
          if (x2 / 1048576) = 11 then
            md_comesTo_j135 μ a2 xs3 a4 (xs5 + 1) (x2 / 1048576) (x3 - x3 / 1048576 * 1048576)
          else
            if (x2 / 1048576) = 12 then
              md_comesTo_j135 μ a2 xs3 a4 (xs5 + 1) (x2 / 1048576) (x3 - x3 / 1048576 * 1048576)
            else
              if (x2 / 1048576) = 5 then
                md_comesTo_j192 μ a2 (xs3 - 1) a4 (xs5 + 1) (x2 / 1048576)
              else
                if (x2 / 1048576) = 6 then
                  md_comesTo_j192 μ a2 (xs3 - 1) a4 (xs5 + 1) (x2 / 1048576)
                else
                  md_comesTo_j203 μ a2 (xs3 - 1) a4 (xs5 + 1) (x2 / 1048576)
def md_comesTo_l16 (μ : Mm) (a2 : Int32) (a4 : Int32) (xs3 : Int32) (xs5 : Int32) : Option ((Mm) ⊕ (Mm)) :=
  miter (fun q => md_comesTo_b16 q.2.2 a2 a4 q.1 q.2.1) FU (xs3, xs5, μ)
def md_comesTo (μ : Mm) (a1 : Int32) (a2 : Int32) : Option (Int32 × Mm) :=
  msum2 (md_comesTo_l16 μ a2 (220 * (a1 / 220)) 0 a1)
    (fun μ28 =>
      some (0, μ28))
    (fun μ29 =>
      mrd μ29 42 220 0 <| fun x30 =>
      some (x30, μ29))
def md_byLaw_b3 (μ : Mm) (a1 : Int32) (a2 : Int32) (a3 : Int32) (a4 : Int32) (xs5 : Int32) : Option ((Int32 × Mm) ⊕ ((Int32 × Mm) ⊕ (Mm))) :=
  if (μ 0 58) ≤ xs5 then
    some (.inr (.inr μ))
  else
    mrd μ 38 14 xs5 <| fun x2 =>
    if x2 = a1 then
      mrd μ 40 14 xs5 <| fun x4 =>
      mrd μ 41 14 xs5 <| fun x5 =>
      mbm (md_comesTo μ x4 x5) <| fun x6 μ7 =>
      if x6 = 1 then
        some (.inr (.inl (xs5, μ7)))
      else
        some (.inl ((xs5 + 1), μ7))
    else
      some (.inl ((xs5 + 1), μ))
def md_byLaw_l3 (μ : Mm) (a1 : Int32) (a2 : Int32) (a3 : Int32) (a4 : Int32) (xs5 : Int32) : Option ((Int32 × Mm) ⊕ (Mm)) :=
  miter (fun q => md_byLaw_b3 q.2 a1 a2 a3 a4 q.1) FU (xs5, μ)
def md_byLaw (μ : Mm) (a1 : Int32) (a2 : Int32) (a3 : Int32) (a4 : Int32) : Option (Int32 × Mm) :=
  msum2 (md_byLaw_l3 μ a1 a2 a3 a4 0)
    (un2 fun x10 μ11 =>
      mrd μ11 39 14 x10 <| fun x12 =>
      mrd μ11 40 14 x10 <| fun x13 =>
      mbm (md_comesTo μ11 x12 x13) <| fun x14 μ15 =>
      if a2 ≤ x14 then
        if x14 ≤ a3 then
          some (x14, μ15)
        else
          some (a3, μ15)
      else
        some (a2, μ15))
    (fun μ18 =>
      some (a4, μ18))
def md_outWith_b4 (μ : Mm) (a1 : Int32) (xs2 : Int32) (xs3 : Int32) : Option ((Int32 × Int32) ⊕ (Int32)) :=
  if (μ 0 1) ≤ xs3 then
    some (.inr xs2)
  else
    mrd μ 5 32 xs3 <| fun x2 =>
    if x2 = (10 + a1) then
      some (.inl ((xs2 + 1), (xs3 + 1)))
    else
      some (.inl ((xs2 + 0), (xs3 + 1)))
def md_outWith_l4 (μ : Mm) (a1 : Int32) (xs2 : Int32) (xs3 : Int32) : Option ((Int32)) :=
  miter (fun q => md_outWith_b4 μ a1 q.1 q.2) FU (xs2, xs3)
def md_outWith (μ : Mm) (a1 : Int32) : Option Int32 :=
  mbv (md_outWith_l4 μ a1 0 0) <| fun x4 =>
  some x4
def md_feels_b6 (μ : Mm) (a1 : Int32) (a2 : Int32) (a3 : Int32) (xs4 : Int32) (xs5 : Int32) : Option ((Int32 × Int32) ⊕ (Int32)) :=
  if (μ 0 1) ≤ xs5 then
    some (.inr xs4)
  else
    mrd μ 21 512 ((32 * a1) + xs5) <| fun x2 =>
    if x2 = 0 then
      some (.inl ((xs4 + 0), (xs5 + 1)))
    else
      mrd μ 1 32 xs5 <| fun x4 =>
      mrd μ 1 32 a2 <| fun x5 =>
      if x4 = x5 then
        some (.inl ((xs4 + 1), (xs5 + 1)))
      else
        some (.inl ((xs4 + 0), (xs5 + 1)))
def md_feels_l6 (μ : Mm) (a1 : Int32) (a2 : Int32) (a3 : Int32) (xs4 : Int32) (xs5 : Int32) : Option ((Int32)) :=
  miter (fun q => md_feels_b6 μ a1 a2 a3 q.1 q.2) FU (xs4, xs5)
def md_feels_b68 (μ : Mm) (a1 : Int32) (a2 : Int32) (a3 : Int32) (a4 : Int32) (xs5 : Int32) (xs6 : Int32) : Option ((Int32 × Int32) ⊕ (Int32)) :=
  if (μ 0 3) ≤ xs6 then
    some (.inr xs5)
  else
    mrd μ 15 16 xs6 <| fun x9 =>
    mrd μ 15 16 a1 <| fun x10 =>
    if x9 = x10 then
      mrd μ 21 512 ((32 * xs6) + a2) <| fun x12 =>
      if x12 = 0 then
        some (.inl ((xs5 + 0), (xs6 + 1)))
      else
        some (.inl ((xs5 + 1), (xs6 + 1)))
    else
      some (.inl ((xs5 + 0), (xs6 + 1)))
def md_feels_l68 (μ : Mm) (a1 : Int32) (a2 : Int32) (a3 : Int32) (a4 : Int32) (xs5 : Int32) (xs6 : Int32) : Option ((Int32)) :=
  miter (fun q => md_feels_b68 μ a1 a2 a3 a4 q.1 q.2) FU (xs5, xs6)
def md_feels (μ : Mm) (a1 : Int32) (a2 : Int32) (a3 : Int32) : Option Mm :=
  mbv (md_feels_l6 μ a1 a2 a3 0 0) <| fun x7 =>
  mbv (md_feels_l68 μ a1 a2 a3 x7 0 0) <| fun x14 =>
  mrd μ 1 32 a2 <| fun x15 =>
  mrd μ 17 128 ((8 * a1) + x15) <| fun x16 =>
  mwr μ 43 12 0 x16 <| fun μ17 =>
  mrd μ17 1 32 a2 <| fun x18 =>
  mwr μ17 43 12 1 x18 <| fun μ19 =>
  mrd μ19 2 32 a2 <| fun x20 =>
  mwr μ19 43 12 2 x20 <| fun μ21 =>
  mrd μ21 3 32 a2 <| fun x22 =>
  mwr μ21 43 12 3 x22 <| fun μ23 =>
  mrd μ23 4 32 a2 <| fun x24 =>
  mwr μ23 43 12 4 x24 <| fun μ25 =>
  mwr μ25 43 12 5 x7 <| fun μ26 =>
  mbv (md_outWith μ26 a1) <| fun x27 =>
  mwr μ26 43 12 6 x27 <| fun μ28 =>
  mrd μ28 15 16 a1 <| fun x29 =>
  mwr μ28 43 12 7 x29 <| fun μ30 =>
  mwr μ30 43 12 8 a2 <| fun μ31 =>
  mwr μ31 43 12 9 (μ31 0 0) <| fun μ32 =>
  mwr μ32 43 12 10 a3 <| fun μ33 =>
  mwr μ33 43 12 11 x14 <| fun μ34 =>
  some μ34
def md_wantsBy_j18 (μ : Mm) (a1 : Int32) (a2 : Int32) : Option (Int32 × Mm) :=
  mrd μ 16 16 a1 <| fun x3 =>
  if x3 = 0 then
    mbv (md_feels μ a1 a2 0) <| fun μ6 =>
    mbm (md_byLaw μ6 119 0 1000 0) <| fun x7 μ8 =>
    some (x7, μ8)
  else
    mrd μ 16 16 a1 <| fun x9 =>
    mrd μ 3 32 a2 <| fun x10 =>
    if x9 = x10 then
      mbv (md_feels μ a1 a2 0) <| fun μ13 =>
      mbm (md_byLaw μ13 119 0 1000 0) <| fun x14 μ15 =>
      some (x14, μ15)
    else
      some (0, μ)
def md_wantsBy (μ : Mm) (a1 : Int32) (a2 : Int32) (a3 : Int32) : Option (Int32 × Mm) :=
  mrd μ 21 512 ((32 * a1) + a2) <| fun x1 =>
  if x1 = 0 then
    md_wantsBy_j18 μ a1 a2
  else
    if a3 = 0 then
      some (0, μ)
    else
      md_wantsBy_j18 μ a1 a2
def md_wants (μ : Mm) (a1 : Int32) (a2 : Int32) (a3 : Int32) : Option (Int32 × Mm) :=
  mbv (md_isReader μ a1) <| fun x1 =>
  if (bI x1) = 0 then
    some ((-1), μ)
  else
    mbv (md_isBook μ a2) <| fun x3 =>
    if (bI x3) = 0 then
      some ((-1), μ)
    else
      mbm (md_wantsBy μ a1 a2 a3) <| fun x5 μ6 =>
      some (x5, μ6)
def md_putAt (a0 : Int32) (a1 : Int32) (a2 : Int32) : Option Int32 :=
  some (((2000 * a0) + (10 * a1)) + a2)
def md_isVisited (μ : Mm) (a1 : Int32) (a2 : Int32) (a3 : Int32) : Option Bool :=
  mrd μ 22 600 ((200 * a1) + a3) <| fun x1 =>
  if x1 = 0 then
    mrd μ 13 10 a2 <| fun x3 =>
    if x3 = a1 then
      mrd μ 14 10 a2 <| fun x8 =>
      if (a3 - a3 / 14 * 14) = x8 then
        some true
      else
        mbv (md_putAt a1 a3 a2) <| fun x10 =>
        mrd μ 23 6000 x10 <| fun x11 =>
        if x11 = 0 then
          some false
        else
          some true
    else
      mbv (md_putAt a1 a3 a2) <| fun x5 =>
      mrd μ 23 6000 x5 <| fun x6 =>
      if x6 = 0 then
        some false
      else
        some true
  else
    some false
def md_isVisitedByAny_b2 (μ : Mm) (a1 : Int32) (a2 : Int32) (xs3 : Int32) : Option ((Int32) ⊕ ((Unit) ⊕ (Unit))) :=
  if 3 ≤ xs3 then
    some (.inr (.inr ()))
  else
    mbv (md_isVisited μ xs3 a1 a2) <| fun x2 =>
    if (bI x2) = 0 then
      some (.inl (xs3 + 1))
    else
      some (.inr (.inl ()))
def md_isVisitedByAny_l2 (μ : Mm) (a1 : Int32) (a2 : Int32) (xs3 : Int32) : Option ((Unit) ⊕ (Unit)) :=
  miter (fun q => md_isVisitedByAny_b2 μ a1 a2 q) FU xs3
def md_isVisitedByAny (μ : Mm) (a1 : Int32) (a2 : Int32) : Option Bool :=
  msum2 (md_isVisitedByAny_l2 μ a1 a2 0)
    (fun _ =>
      some true)
    (fun _ =>
      some false)
def md_visits (μ : Mm) (a1 : Int32) (a2 : Int32) (a3 : Int32) : Option Int32 :=
  mbv (md_isVan a1) <| fun x1 =>
  if (bI x1) = 0 then
    some (-1)
  else
    mbv (md_isStop μ a2) <| fun x3 =>
    if (bI x3) = 0 then
      some (-1)
    else
      mbv (md_isDay a3) <| fun x5 =>
      if (bI x5) = 0 then
        some (-1)
      else
        mbv (md_isVisited μ a1 a2 a3) <| fun x7 =>
        if (bI x7) = 0 then
          some 0
        else
          some 1
def md_logs (μ : Mm) (a1 : Int32) (a2 : Int32) : Option Mm :=
  mwr μ 44 200 (μ 0 61) a1 <| fun μ1 =>
  mwr μ1 45 200 (μ1 0 61) (μ1 0 0) <| fun μ2 =>
  mwr μ2 46 200 (μ2 0 61) ((μ2 0 0) + (μ2 0 5)) <| fun μ3 =>
  mwr μ3 47 200 (μ3 0 61) a2 <| fun μ4 =>
  mst μ4 0 61 ((μ4 0 61) + 1) <| fun μ5 =>
  mwr μ5 5 32 a1 a2 <| fun μ6 =>
  some μ6
def md_fits (μ : Mm) (a1 : Int32) (a2 : Int32) : Option Bool :=
  mbv (md_lengthOn μ a2) <| fun x1 =>
  mrd μ 2 32 a1 <| fun x2 =>
  mrd μ 9 3 a2 <| fun x3 =>
  if x3 < (x1 + x2) then
    some false
  else
    some true
def md_move_j20 (μ : Mm) (a1 : Int32) (a2 : Int32) : Option (Bool × Mm) :=
  mrd μ 5 32 a1 <| fun x4 =>
  if 10 ≤ x4 then
    some (false, μ)
  else
    mrd μ 5 32 a1 <| fun x6 =>
    if x6 = (1 + a2) then
      some (false, μ)
    else
      if a2 = (-1) then
        if (μ 0 61) = 200 then
          some (false, μ)
        else
          mbv (md_logs μ a1 (1 + a2)) <| fun μ11 =>
          some (true, μ11)
      else
        mbv (md_fits μ a1 a2) <| fun x12 =>
        if (bI x12) = 0 then
          some (false, μ)
        else
          if (μ 0 61) = 200 then
            some (false, μ)
          else
            mbv (md_logs μ a1 (1 + a2)) <| fun μ16 =>
            some (true, μ16)
def md_move (μ : Mm) (a1 : Int32) (a2 : Int32) : Option (Bool × Mm) :=
  mbv (md_isBook μ a1) <| fun x1 =>
  if (bI x1) = 0 then
    some (false, μ)
  else
    if a2 = (-1) then
      md_move_j20 μ a1 a2
    else
      mbv (md_isVan a2) <| fun x17 =>
      if (bI x17) = 0 then
        some (false, μ)
      else
        md_move_j20 μ a1 a2
def md_lend (μ : Mm) (a1 : Int32) (a2 : Int32) : Option (Int32 × Mm) :=
  mbv (md_isBook μ a1) <| fun x1 =>
  if (bI x1) = 0 then
    some ((-1), μ)
  else
    mbv (md_isReader μ a2) <| fun x3 =>
    if (bI x3) = 0 then
      some ((-1), μ)
    else
      mrd μ 5 32 a1 <| fun x5 =>
      mbv (md_in x5 1 3) <| fun x6 =>
      if (bI x6) = 0 then
        some ((-1), μ)
      else
        mrd μ 5 32 a1 <| fun x8 =>
        mrd μ 15 16 a2 <| fun x9 =>
        mbv (md_isVisited μ (x8 - 1) x9 (μ 0 0)) <| fun x10 =>
        if (bI x10) = 0 then
          some ((-1), μ)
        else
          if (μ 0 61) = 200 then
            some ((-1), μ)
          else
            mrd μ 5 32 a1 <| fun x13 =>
            mbv (md_feels μ a2 a1 0) <| fun μ15 =>
            mbm (md_byLaw μ15 100 1 60 14) <| fun x16 μ17 =>
            mwr μ17 6 32 a1 ((μ15 0 0) + x16) <| fun μ18 =>
            mbv (md_logs μ18 a1 (10 + a2)) <| fun μ20 =>
            mwr μ20 21 512 ((32 * a2) + a1) (vp_nar .boolean 1) <| fun μ21 =>
            mwr μ21 20 512 ((32 * a2) + a1) (-1) <| fun μ22 =>
            mrd μ22 7 32 a1 <| fun x23 =>
            mwr μ22 7 32 a1 (x23 + 1) <| fun μ24 =>
            mrd μ24 19 16 a2 <| fun x25 =>
            mwr μ24 19 16 a2 (x25 + 1) <| fun μ26 =>
            mrd μ26 15 16 a2 <| fun x27 =>
            mrd μ26 15 16 a2 <| fun x28 =>
            mrd μ26 26 10 x28 <| fun x29 =>
            mwr μ26 26 10 x27 (x29 + 1) <| fun μ30 =>
            mrd μ30 1 32 a1 <| fun x31 =>
            mrd μ30 1 32 a1 <| fun x32 =>
            mrd μ30 27 8 x32 <| fun x33 =>
            mwr μ30 27 8 x31 (x33 + 1) <| fun μ34 =>
            mrd μ34 28 3 (x13 - 1) <| fun x35 =>
            mwr μ34 28 3 (x13 - 1) (x35 + 1) <| fun μ36 =>
            mst μ36 0 35 ((μ36 0 35) + 1) <| fun μ37 =>
            mrd μ37 6 32 a1 <| fun x38 =>
            some (x38, μ37)
def md_isOut (μ : Mm) (a1 : Int32) : Option Bool :=
  mbv (md_isBook μ a1) <| fun x1 =>
  if (bI x1) = 0 then
    some false
  else
    mrd μ 5 32 a1 <| fun x3 =>
    mbv (md_in x3 10 25) <| fun x4 =>
    if (bI x4) = 0 then
      some false
    else
      some true
def md_back_j105 (μ : Mm) (a1 : Int32) (a2 : Int32) (a3 : Int32) (a4 : Int32) (y1 : Int32) (y2 : Int32) (y3 : Int32) : Option (Int32 × Mm) :=
  mbv (md_feels μ y1 y2 y3) <| fun μ17 =>
  mbm (md_byLaw μ17 102 0 10000 0) <| fun x18 μ19 =>
  mrd μ19 18 16 a4 <| fun x20 =>
  mwr μ19 18 16 a4 (x20 + x18) <| fun μ21 =>
  if a4 = a3 then
    mwr μ21 6 32 a1 (-1) <| fun μ23 =>
    mbv (md_logs μ23 a1 (1 + a2)) <| fun μ25 =>
    some (x18, μ25)
  else
    mrd μ21 8 32 a1 <| fun x26 =>
    mwr μ21 8 32 a1 (x26 + 1) <| fun μ27 =>
    mrd μ27 15 16 a3 <| fun x28 =>
    mrd μ27 15 16 a3 <| fun x29 =>
    mrd μ27 29 10 x29 <| fun x30 =>
    mwr μ27 29 10 x28 (x30 + 1) <| fun μ31 =>
    mwr μ31 6 32 a1 (-1) <| fun μ32 =>
    mbv (md_logs μ32 a1 (1 + a2)) <| fun μ34 =>
    some (x18, μ34)
def md_back (μ : Mm) (a1 : Int32) (a2 : Int32) (a3 : Int32) : Option (Int32 × Mm) :=
  mbv (md_isOut μ a1) <| fun x1 =>
  if (bI x1) = 0 then
    some ((-1), μ)
  else
    mbv (md_isVan a2) <| fun x3 =>
    if (bI x3) = 0 then
      some ((-1), μ)
    else
      mbv (md_isReader μ a3) <| fun x5 =>
      if (bI x5) = 0 then
        some ((-1), μ)
      else
        mrd μ 15 16 a3 <| fun x7 =>
        mbv (md_isVisited μ a2 x7 (μ 0 0)) <| fun x8 =>
        if (bI x8) = 0 then
          some ((-1), μ)
        else
          mbv (md_fits μ a1 a2) <| fun x10 =>
          if (bI x10) = 0 then
            some ((-1), μ)
          else
            if (μ 0 61) = 200 then
              some ((-1), μ)
            else
              mrd μ 5 32 a1 <| fun x13 =>
              mrd μ 6 32 a1 <| fun x14 =>
              if (μ 0 0) ≤ x14 then
                md_back_j105 μ a1 a2 a3 (x13 - 10) (x13 - 10) a1 0
              else
                mrd μ 6 32 a1 <| fun x35 =>
                md_back_j105 μ a1 a2 a3 (x13 - 10) (x13 - 10) a1 ((μ 0 0) - x35)
def md_lost (μ : Mm) (a1 : Int32) : Option (Int32 × Mm) :=
  mbv (md_isOut μ a1) <| fun x1 =>
  if (bI x1) = 0 then
    some ((-1), μ)
  else
    if (μ 0 61) = 200 then
      some ((-1), μ)
    else
      mrd μ 5 32 a1 <| fun x4 =>
      mrd μ 18 16 (x4 - 10) <| fun x5 =>
      mrd μ 4 32 a1 <| fun x6 =>
      mwr μ 18 16 (x4 - 10) (x5 + x6) <| fun μ7 =>
      mwr μ7 6 32 a1 (-1) <| fun μ8 =>
      mbv (md_logs μ8 a1 40) <| fun μ10 =>
      mrd μ10 4 32 a1 <| fun x11 =>
      some (x11, μ10)
def md_whoHad_b4 (μ : Mm) (a1 : Int32) (xs2 : Int32) (xs3 : Int32) : Option ((Int32 × Int32) ⊕ (Int32)) :=
  if (μ 0 3) ≤ xs3 then
    some (.inr xs2)
  else
    mrd μ 21 512 ((32 * xs3) + a1) <| fun x2 =>
    if x2 = 0 then
      some (.inl ((xs2 + 0), (xs3 + 1)))
    else
      some (.inl ((xs2 + 1), (xs3 + 1)))
def md_whoHad_l4 (μ : Mm) (a1 : Int32) (xs2 : Int32) (xs3 : Int32) : Option ((Int32)) :=
  miter (fun q => md_whoHad_b4 μ a1 q.1 q.2) FU (xs2, xs3)
def md_whoHad (μ : Mm) (a1 : Int32) : Option Int32 :=
  mbv (md_whoHad_l4 μ a1 0 0) <| fun x4 =>
  some x4
def md_bookIs (μ : Mm) (a1 : Int32) (a2 : Int32) : Option Int32 :=
  mbv (md_isBook μ a1) <| fun x1 =>
  if (bI x1) = 0 then
    some (-1)
  else
    if a2 = 0 then
      mrd μ 5 32 a1 <| fun x4 =>
      some x4
    else
    if a2 = 1 then
      mrd μ 6 32 a1 <| fun x6 =>
      some x6
    else
    if a2 = 2 then
      mrd μ 7 32 a1 <| fun x8 =>
      some x8
    else
    if a2 = 3 then
      mrd μ 8 32 a1 <| fun x10 =>
      some x10
    else
    if a2 = 4 then
      mbv (md_whoHad μ a1) <| fun x12 =>
      some x12
    else
    some (-1)
def md_asksOf_b4 (μ : Mm) (a1 : Int32) (xs2 : Int32) (xs3 : Int32) : Option ((Int32 × Int32) ⊕ (Int32)) :=
  if (μ 0 1) ≤ xs3 then
    some (.inr xs2)
  else
    mrd μ 20 512 ((32 * a1) + xs3) <| fun x2 =>
    if x2 = (-1) then
      some (.inl ((xs2 + 0), (xs3 + 1)))
    else
      some (.inl ((xs2 + 1), (xs3 + 1)))
def md_asksOf_l4 (μ : Mm) (a1 : Int32) (xs2 : Int32) (xs3 : Int32) : Option ((Int32)) :=
  miter (fun q => md_asksOf_b4 μ a1 q.1 q.2) FU (xs2, xs3)
def md_asksOf (μ : Mm) (a1 : Int32) : Option Int32 :=
  mbv (md_asksOf_l4 μ a1 0 0) <| fun x4 =>
  some x4
def md_readerIs_b69 (μ : Mm) (a1 : Int32) (xs3 : Int32) (xs4 : Int32) : Option ((Int32 × Int32) ⊕ (Int32)) :=
  if (μ 0 1) ≤ xs4 then
    some (.inr xs3)
  else
    mrd μ 21 512 ((32 * a1) + xs4) <| fun x11 =>
    if x11 = 0 then
      some (.inl ((xs3 + 0), (xs4 + 1)))
    else
      some (.inl ((xs3 + 1), (xs4 + 1)))
def md_readerIs_l69 (μ : Mm) (a1 : Int32) (xs3 : Int32) (xs4 : Int32) : Option ((Int32)) :=
  miter (fun q => md_readerIs_b69 μ a1 q.1 q.2) FU (xs3, xs4)
def md_readerIs (μ : Mm) (a1 : Int32) (a2 : Int32) : Option Int32 :=
  mbv (md_isReader μ a1) <| fun x1 =>
  if (bI x1) = 0 then
    some (-1)
  else
    if a2 = 0 then
      mbv (md_outWith μ a1) <| fun x4 =>
      some x4
    else
    if a2 = 1 then
      mrd μ 19 16 a1 <| fun x6 =>
      some x6
    else
    if a2 = 2 then
      mrd μ 18 16 a1 <| fun x8 =>
      some x8
    else
    if a2 = 3 then
      mbv (md_readerIs_l69 μ a1 0 0) <| fun x13 =>
      some x13
    else
    if a2 = 4 then
      mbv (md_asksOf μ a1) <| fun x16 =>
      some x16
    else
    some (-1)
def md_pays (μ : Mm) (a1 : Int32) (a2 : Int32) : Option (Int32 × Mm) :=
  mbv (md_isReader μ a1) <| fun x1 =>
  if (bI x1) = 0 then
    some ((-1), μ)
  else
    mrd μ 18 16 a1 <| fun x3 =>
    mbv (md_in a2 1 x3) <| fun x4 =>
    if (bI x4) = 0 then
      some ((-1), μ)
    else
      mrd μ 18 16 a1 <| fun x6 =>
      mwr μ 18 16 a1 (x6 - a2) <| fun μ7 =>
      mrd μ7 18 16 a1 <| fun x8 =>
      some (x8, μ7)
def md_ask (μ : Mm) (a1 : Int32) (a2 : Int32) (a3 : Int32) : Option (Bool × Mm) :=
  mbv (md_isReader μ a1) <| fun x1 =>
  if (bI x1) = 0 then
    some (false, μ)
  else
    mbv (md_isBook μ a2) <| fun x3 =>
    if (bI x3) = 0 then
      some (false, μ)
    else
      mbv (md_in a3 (μ 0 0) 199) <| fun x5 =>
      if (bI x5) = 0 then
        some (false, μ)
      else
        mrd μ 20 512 ((32 * a1) + a2) <| fun x7 =>
        if x7 = (-1) then
          mrd μ 5 32 a2 <| fun x9 =>
          if x9 = (10 + a1) then
            some (false, μ)
          else
            mrd μ 15 16 a1 <| fun x11 =>
            mbv (md_isVisitedByAny μ x11 a3) <| fun x12 =>
            if (bI x12) = 0 then
              some (false, μ)
            else
              mwr μ 20 512 ((32 * a1) + a2) a3 <| fun μ14 =>
              some (true, μ14)
        else
          some (false, μ)
def md_unask (μ : Mm) (a1 : Int32) (a2 : Int32) : Option (Bool × Mm) :=
  mbv (md_isReader μ a1) <| fun x1 =>
  if (bI x1) = 0 then
    some (false, μ)
  else
    mbv (md_isBook μ a2) <| fun x3 =>
    if (bI x3) = 0 then
      some (false, μ)
    else
      mrd μ 20 512 ((32 * a1) + a2) <| fun x5 =>
      if x5 = (-1) then
        some (false, μ)
      else
        mwr μ 20 512 ((32 * a1) + a2) (-1) <| fun μ7 =>
        some (true, μ7)
def md_aboardOf_b36 (μ : Mm) (a1 : Int32) (a2 : Int32) (a5 : Int32) (xs3 : Int64) (xs6 : Int32) : Option ((Int64 × Int32) ⊕ (Int64)) :=
  if (μ 0 1) ≤ xs6 then
    some (.inr xs3)
  else
    mrd μ 20 512 ((32 * a5) + xs6) <| fun x6 =>
    if x6 = a1 then
      some (.inl ((xs3 ||| ((1 : Int64) <<< ((xs6 : Int32).toInt64 &&& 63))), (xs6 + 1)))
    else
      some (.inl (xs3, (xs6 + 1)))
def md_aboardOf_l36 (μ : Mm) (a1 : Int32) (a2 : Int32) (a5 : Int32) (xs3 : Int64) (xs6 : Int32) : Option ((Int64)) :=
  miter (fun q => md_aboardOf_b36 μ a1 a2 a5 q.1 q.2) FU (xs3, xs6)
def md_aboardOf_b5 (μ : Mm) (a1 : Int32) (a2 : Int32) (xs3 : Int64) (xs5 : Int32) : Option ((Int64 × Int32) ⊕ (Int64)) :=
  if (μ 0 3) ≤ xs5 then
    some (.inr xs3)
  else
    mrd μ 15 16 xs5 <| fun x2 =>
    mbv (md_isVisited μ a2 x2 a1) <| fun x3 =>
    if (bI x3) = 0 then
      some (.inl (xs3, (xs5 + 1)))
    else
      mbv (md_aboardOf_l36 μ a1 a2 xs5 xs3 0) <| fun x8 =>
      some (.inl (x8, (xs5 + 1)))
def md_aboardOf_l5 (μ : Mm) (a1 : Int32) (a2 : Int32) (xs3 : Int64) (xs5 : Int32) : Option ((Int64)) :=
  miter (fun q => md_aboardOf_b5 μ a1 a2 q.1 q.2) FU (xs3, xs5)
def md_aboardOf (μ : Mm) (a1 : Int32) (a2 : Int32) : Option Int64 :=
  mbv (md_aboardOf_l5 μ a1 a2 0 0) <| fun x10 =>
  some x10
def md_aboard (μ : Mm) (a1 : Int32) (a2 : Int32) : Option Int64 :=
  mbv (md_isDay a1) <| fun x1 =>
  if (bI x1) = 0 then
    some (-1)
  else
    mbv (md_isVan a2) <| fun x3 =>
    if (bI x3) = 0 then
      some (-1)
    else
      mbv (md_aboardOf μ a1 a2) <| fun x5 =>
      some x5
def md_firstVisit_b2 (μ : Mm) (a1 : Int32) (xs3 : Int32) : Option ((Int32) ⊕ ((Int32) ⊕ (Unit))) :=
  if 199 < xs3 then
    some (.inr (.inr ()))
  else
    mbv (md_isVisitedByAny μ a1 xs3) <| fun x2 =>
    if (bI x2) = 0 then
      some (.inl (xs3 + 1))
    else
      some (.inr (.inl xs3))
def md_firstVisit_l2 (μ : Mm) (a1 : Int32) (xs3 : Int32) : Option ((Int32) ⊕ (Unit)) :=
  miter (fun q => md_firstVisit_b2 μ a1 q) FU xs3
def md_firstVisit (μ : Mm) (a1 : Int32) (a2 : Int32) : Option Int32 :=
  msum2 (md_firstVisit_l2 μ a1 a2)
    (fun x5 =>
      some x5)
    (fun _ =>
      some (-2))
def md_promised_j122 (μ : Mm) (a3 : Int32) (a5 : Int32) (y1 : Int32) (y2 : Int32) : Option Int32 :=
  mbv (md_firstVisit μ y1 y2) <| fun x10 =>
  if x10 = (-2) then
    some (-2)
  else
    if a5 = a3 then
      mbv (md_firstVisit μ a3 x10) <| fun x14 =>
      some x14
    else
      mbv (md_firstVisit μ a3 (x10 + 1)) <| fun x13 =>
      some x13
def md_promised (μ : Mm) (a1 : Int32) (a2 : Int32) : Option Int32 :=
  mrd μ 15 16 a1 <| fun x1 =>
  mrd μ 5 32 a2 <| fun x2 =>
  if x2 = 40 then
    some (-2)
  else
    if x2 = 0 then
      mbv (md_firstVisit μ x1 (μ 0 0)) <| fun x18 =>
      some x18
    else
      if 3 < x2 then
        mrd μ 15 16 (x2 - 10) <| fun x6 =>
        mrd μ 6 32 a2 <| fun x7 =>
        if (μ 0 0) ≤ x7 then
          mrd μ 6 32 a2 <| fun x9 =>
          md_promised_j122 μ x1 x6 x6 x9
        else
          md_promised_j122 μ x1 x6 x6 (μ 0 0)
      else
        mbv (md_isVisited μ (x2 - 1) x1 (μ 0 0)) <| fun x15 =>
        if (bI x15) = 0 then
          mbv (md_firstVisit μ x1 ((μ 0 0) + 1)) <| fun x17 =>
          some x17
        else
          some (μ 0 0)
def md_promise (μ : Mm) (a1 : Int32) (a2 : Int32) : Option Int32 :=
  mbv (md_isReader μ a1) <| fun x1 =>
  if (bI x1) = 0 then
    some (-1)
  else
    mbv (md_isBook μ a2) <| fun x3 =>
    if (bI x3) = 0 then
      some (-1)
    else
      mbv (md_promised μ a1 a2) <| fun x5 =>
      some x5
def md_isAskedAhead_b3 (μ : Mm) (a1 : Int32) (a2 : Int32) (a3 : Int32) (xs4 : Int32) : Option ((Int32) ⊕ ((Unit) ⊕ (Unit))) :=
  if (μ 0 3) ≤ xs4 then
    some (.inr (.inr ()))
  else
    mrd μ 20 512 ((32 * xs4) + a2) <| fun x2 =>
    if xs4 = a1 then
      some (.inl (xs4 + 1))
    else
      if x2 < (μ 0 0) then
        some (.inl (xs4 + 1))
      else
        if x2 < a3 then
          some (.inr (.inl ()))
        else
          if x2 = a3 then
            if a1 ≤ xs4 then
              some (.inl (xs4 + 1))
            else
              some (.inr (.inl ()))
          else
            some (.inl (xs4 + 1))
def md_isAskedAhead_l3 (μ : Mm) (a1 : Int32) (a2 : Int32) (a3 : Int32) (xs4 : Int32) : Option ((Unit) ⊕ (Unit)) :=
  miter (fun q => md_isAskedAhead_b3 μ a1 a2 a3 q) FU xs4
def md_isAskedAhead (μ : Mm) (a1 : Int32) (a2 : Int32) (a3 : Int32) : Option Bool :=
  msum2 (md_isAskedAhead_l3 μ a1 a2 a3 0)
    (fun _ =>
      some true)
    (fun _ =>
      some false)
def md_lengthOfSet_b5 (μ : Mm) (a1 : Int64) (xs3 : Int32) (xs4 : Int32) : Option ((Int32 × Int32) ⊕ (Int32)) :=
  if (μ 0 1) ≤ xs4 then
    some (.inr xs3)
  else
    if (lg_cmp ((a1 >>> ((xs4 : Int32).toInt64 &&& 63)) &&& 1) 1) = 0 then
      mrd μ 2 32 xs4 <| fun x3 =>
      some (.inl ((xs3 + x3), (xs4 + 1)))
    else
      some (.inl ((xs3 + 0), (xs4 + 1)))
def md_lengthOfSet_l5 (μ : Mm) (a1 : Int64) (xs3 : Int32) (xs4 : Int32) : Option ((Int32)) :=
  miter (fun q => md_lengthOfSet_b5 μ a1 q.1 q.2) FU (xs3, xs4)
def md_lengthOfSet (μ : Mm) (a1 : Int64) : Option Int32 :=
  mbv (md_lengthOfSet_l5 μ a1 0 0) <| fun x4 =>
  some x4
def md_whyNot_b164 (μ : Mm) (a1 : Int32) (a3 : Int32) (xs5 : Int32) : Option ((Int32) ⊕ (Int32)) :=
  mrd μ 15 16 a1 <| fun x17 =>
  mbv (md_isVisited μ xs5 x17 a3) <| fun x18 =>
  if (bI x18) = 0 then
    some (.inl (xs5 + 1))
  else
    some (.inr xs5)
def md_whyNot_l164 (μ : Mm) (a1 : Int32) (a3 : Int32) (xs5 : Int32) : Option ((Int32)) :=
  miter (fun q => md_whyNot_b164 μ a1 a3 q) FU xs5
def md_whyNot_j149 (μ : Mm) (a1 : Int32) (a2 : Int32) (a3 : Int32) : Option Int32 :=
  mbv (md_isAskedAhead μ a1 a2 a3) <| fun x15 =>
  if (bI x15) = 0 then
    mbv (md_whyNot_l164 μ a1 a3 0) <| fun x20 =>
    mbv (md_aboardOf μ a3 x20) <| fun x21 =>
    mbv (md_lengthOfSet μ x21) <| fun x22 =>
    mrd μ 9 3 x20 <| fun x23 =>
    if x22 ≤ x23 then
      some 0
    else
      some 6
  else
    some 5
def md_whyNot_j108 (μ : Mm) (a1 : Int32) (a2 : Int32) (a3 : Int32) (a4 : Int32) : Option Int32 :=
  if a3 = (μ 0 0) then
    mbv (md_in a4 1 3) <| fun x26 =>
    if (bI x26) = 0 then
      md_whyNot_j149 μ a1 a2 a3
    else
      mrd μ 15 16 a1 <| fun x28 =>
      mbv (md_isVisited μ (a4 - 1) x28 (μ 0 0)) <| fun x29 =>
      if (bI x29) = 0 then
        some 4
      else
        md_whyNot_j149 μ a1 a2 a3
  else
    md_whyNot_j149 μ a1 a2 a3
def md_whyNot (μ : Mm) (a1 : Int32) (a2 : Int32) : Option Int32 :=
  mbv (md_isReader μ a1) <| fun x1 =>
  if (bI x1) = 0 then
    some (-1)
  else
    mbv (md_isBook μ a2) <| fun x3 =>
    if (bI x3) = 0 then
      some (-1)
    else
      mrd μ 20 512 ((32 * a1) + a2) <| fun x5 =>
      if x5 = (-1) then
        some (-1)
      else
        if (μ 0 0) ≤ x5 then
          mrd μ 5 32 a2 <| fun x8 =>
          if x8 = 40 then
            some 1
          else
            mrd μ 15 16 a1 <| fun x10 =>
            mbv (md_isVisitedByAny μ x10 x5) <| fun x11 =>
            if (bI x11) = 0 then
              some 2
            else
              if x8 < 10 then
                md_whyNot_j108 μ a1 a2 x5 x8
              else
                mbv (md_promised μ a1 a2) <| fun x31 =>
                if x31 = (-2) then
                  some 3
                else
                  if x31 ≤ x5 then
                    md_whyNot_j108 μ a1 a2 x5 x8
                  else
                    some 3
        else
          some (-1)
def md_asksFrom_b2 (μ : Mm) (a1 : Int32) (a2 : Int32) (xs3 : Int32) : Option ((Int32) ⊕ ((Unit) ⊕ (Unit))) :=
  if (μ 0 1) ≤ xs3 then
    some (.inr (.inr ()))
  else
    mrd μ 20 512 ((32 * a1) + xs3) <| fun x2 =>
    if x2 = (-1) then
      some (.inl (xs3 + 1))
    else
      mrd μ 5 32 xs3 <| fun x4 =>
      if x4 = (10 + a2) then
        some (.inr (.inl ()))
      else
        some (.inl (xs3 + 1))
def md_asksFrom_l2 (μ : Mm) (a1 : Int32) (a2 : Int32) (xs3 : Int32) : Option ((Unit) ⊕ (Unit)) :=
  miter (fun q => md_asksFrom_b2 μ a1 a2 q) FU xs3
def md_asksFrom (μ : Mm) (a1 : Int32) (a2 : Int32) : Option Bool :=
  msum2 (md_asksFrom_l2 μ a1 a2 0)
    (fun _ =>
      some true)
    (fun _ =>
      some false)
def md_measures_b2 (μ : Mm) (a1 : Int32) (xs2 : Int32) : Option ((Int32 × Mm) ⊕ (Mm)) :=
  if 16 ≤ xs2 then
    some (.inr μ)
  else
    mwr μ 48 16 xs2 (-1) <| fun μ2 =>
    some (.inl ((xs2 + 1), μ2))
def md_measures_l2 (μ : Mm) (a1 : Int32) (xs2 : Int32) : Option ((Mm)) :=
  miter (fun q => md_measures_b2 q.2 a1 q.1) FU (xs2, μ)
def md_measures_b51 (μ : Mm) (a1 : Int32) (a2 : Int32) (a3 : Int32) (xs4 : Int32) : Option ((Int32 × Mm) ⊕ (Mm)) :=
  if (μ 0 3) ≤ xs4 then
    some (.inr μ)
  else
    mrd μ 48 16 xs4 <| fun x8 =>
    if x8 = (-1) then
      some (.inl ((xs4 + 1), μ))
    else
      if xs4 = a3 then
        some (.inl ((xs4 + 1), μ))
      else
        mbv (md_asksFrom μ a3 xs4) <| fun x11 =>
        if (bI x11) = 0 then
          some (.inl ((xs4 + 1), μ))
        else
          mrd μ 48 16 a3 <| fun x13 =>
          if x13 = (-1) then
            mrd μ 48 16 xs4 <| fun x15 =>
            mwr μ 48 16 a3 (x15 + 1) <| fun μ16 =>
            some (.inl ((xs4 + 1), μ16))
          else
            mrd μ 48 16 xs4 <| fun x17 =>
            mrd μ 48 16 a3 <| fun x18 =>
            if x18 ≤ (x17 + 1) then
              mrd μ 48 16 a3 <| fun x20 =>
              mwr μ 48 16 a3 x20 <| fun μ21 =>
              some (.inl ((xs4 + 1), μ21))
            else
              mrd μ 48 16 xs4 <| fun x22 =>
              mwr μ 48 16 a3 (x22 + 1) <| fun μ23 =>
              some (.inl ((xs4 + 1), μ23))
def md_measures_l51 (μ : Mm) (a1 : Int32) (a2 : Int32) (a3 : Int32) (xs4 : Int32) : Option ((Mm)) :=
  miter (fun q => md_measures_b51 q.2 a1 a2 a3 q.1) FU (xs4, μ)
def md_measures_b40 (μ : Mm) (a1 : Int32) (a2 : Int32) (xs3 : Int32) : Option ((Int32 × Mm) ⊕ (Mm)) :=
  if (μ 0 3) ≤ xs3 then
    some (.inr μ)
  else
    mbv (md_measures_l51 μ a1 a2 xs3 a1) <| fun μ24 =>
    some (.inl ((xs3 + 1), μ24))
def md_measures_l40 (μ : Mm) (a1 : Int32) (a2 : Int32) (xs3 : Int32) : Option ((Mm)) :=
  miter (fun q => md_measures_b40 q.2 a1 a2 q.1) FU (xs3, μ)
def md_measures_b30 (μ : Mm) (a1 : Int32) (xs2 : Int32) : Option ((Int32 × Mm) ⊕ (Mm)) :=
  if 16 ≤ xs2 then
    some (.inr μ)
  else
    mbv (md_measures_l40 μ a1 xs2 (a1 + 1)) <| fun μ26 =>
    some (.inl ((xs2 + 1), μ26))
def md_measures_l30 (μ : Mm) (a1 : Int32) (xs2 : Int32) : Option ((Mm)) :=
  miter (fun q => md_measures_b30 q.2 a1 q.1) FU (xs2, μ)
def md_measures (μ : Mm) (a1 : Int32) : Option Mm :=
  mbv (md_measures_l2 μ a1 0) <| fun μ3 =>
  mwr μ3 48 16 a1 0 <| fun μ4 =>
  mbv (md_measures_l30 μ4 a1 0) <| fun μ28 =>
  some μ28
def md_ringFrom_b11 (μ : Mm) (a1 : Int32) (xs2 : Int32) (xs3 : Int32) : Option ((Int32 × Int32) ⊕ (Int32)) :=
  if (μ 0 3) ≤ xs3 then
    some (.inr xs2)
  else
    mrd μ 48 16 xs3 <| fun x4 =>
    if x4 = (-1) then
      some (.inl (xs2, (xs3 + 1)))
    else
      mbv (md_asksFrom μ a1 xs3) <| fun x6 =>
      if (bI x6) = 0 then
        some (.inl (xs2, (xs3 + 1)))
      else
        if xs2 = (-1) then
          mrd μ 48 16 xs3 <| fun x9 =>
          some (.inl ((x9 + 1), (xs3 + 1)))
        else
          mrd μ 48 16 xs3 <| fun x10 =>
          if xs2 ≤ (x10 + 1) then
            some (.inl (xs2, (xs3 + 1)))
          else
            mrd μ 48 16 xs3 <| fun x12 =>
            some (.inl ((x12 + 1), (xs3 + 1)))
def md_ringFrom_l11 (μ : Mm) (a1 : Int32) (xs2 : Int32) (xs3 : Int32) : Option ((Int32)) :=
  miter (fun q => md_ringFrom_b11 μ a1 q.1 q.2) FU (xs2, xs3)
def md_ringFrom_b115 (μ : Mm) (a1 : Int32) (a2 : Int32) (a3 : Int32) (xs4 : Int32) : Option ((Int32) ⊕ (Int32)) :=
  mrd μ 48 16 xs4 <| fun x19 =>
  if x19 = (a2 - a3) then
    mrd μ 49 16 (a3 - 1) <| fun x21 =>
    mbv (md_asksFrom μ x21 xs4) <| fun x22 =>
    if (bI x22) = 0 then
      some (.inl (xs4 + 1))
    else
      some (.inr xs4)
  else
    some (.inl (xs4 + 1))
def md_ringFrom_l115 (μ : Mm) (a1 : Int32) (a2 : Int32) (a3 : Int32) (xs4 : Int32) : Option ((Int32)) :=
  miter (fun q => md_ringFrom_b115 μ a1 a2 a3 q) FU xs4
def md_ringFrom_b105 (μ : Mm) (a1 : Int32) (a2 : Int32) (xs3 : Int32) : Option ((Int32 × Mm) ⊕ (Mm)) :=
  if a2 ≤ xs3 then
    some (.inr μ)
  else
    mbv (md_ringFrom_l115 μ a1 a2 xs3 (a1 + 1)) <| fun x24 =>
    mwr μ 49 16 xs3 x24 <| fun μ25 =>
    some (.inl ((xs3 + 1), μ25))
def md_ringFrom_l105 (μ : Mm) (a1 : Int32) (a2 : Int32) (xs3 : Int32) : Option ((Mm)) :=
  miter (fun q => md_ringFrom_b105 q.2 a1 a2 q.1) FU (xs3, μ)
def md_ringFrom_j91 (μ : Mm) (a1 : Int32) (a2 : Int32) : Option Mm :=
  mst μ 0 68 a2 <| fun μ16 =>
  mwr μ16 49 16 0 a1 <| fun μ17 =>
  mbv (md_ringFrom_l105 μ17 a1 a2 1) <| fun μ27 =>
  some μ27
def md_ringFrom (μ : Mm) (a1 : Int32) : Option Mm :=
  mbv (md_measures μ a1) <| fun μ2 =>
  mbv (md_ringFrom_l11 μ2 a1 (-1) (a1 + 1)) <| fun x13 =>
  if x13 = (-1) then
    some μ2
  else
    if (μ2 0 68) ≤ 0 then
      md_ringFrom_j91 μ2 a1 x13
    else
      if x13 < (μ2 0 68) then
        md_ringFrom_j91 μ2 a1 x13
      else
        some μ2
def md_ring_b7 (μ : Mm) (a1 : Int32) (xs2 : Int32) : Option ((Int32 × Mm) ⊕ (Mm)) :=
  if (μ 0 3) ≤ xs2 then
    some (.inr μ)
  else
    mbv (md_ringFrom μ xs2) <| fun μ4 =>
    some (.inl ((xs2 + 1), μ4))
def md_ring_l7 (μ : Mm) (a1 : Int32) (xs2 : Int32) : Option ((Mm)) :=
  miter (fun q => md_ring_b7 q.2 a1 q.1) FU (xs2, μ)
def md_ring (μ : Mm) (a1 : Int32) : Option (Int32 × Mm) :=
  mst μ 0 68 0 <| fun μ1 =>
  mbv (md_ring_l7 μ1 a1 0) <| fun μ5 =>
  if a1 = (-1) then
    some ((μ5 0 68), μ5)
  else
    mbv (md_in a1 0 ((μ5 0 68) - 1)) <| fun x7 =>
    if (bI x7) = 0 then
      some ((-1), μ5)
    else
      mrd μ5 49 16 a1 <| fun x9 =>
      some (x9, μ5)
def md_isToday (μ : Mm) (a1 : Int32) (a2 : Int32) : Option Bool :=
  mrd μ 15 16 a1 <| fun x1 =>
  mbv (md_isVisited μ a2 x1 (μ 0 0)) <| fun x2 =>
  some x2
def md_wishes_b21 (μ : Mm) (a1 : Int32) (a2 : Int32) (a3 : Int32) (a4 : Int32) (xs5 : Int32) : Option ((Int32 × Mm) ⊕ (Mm)) :=
  if (μ 0 1) ≤ xs5 then
    some (.inr μ)
  else
    if a4 = 0 then
      mwr μ 50 512 ((32 * a3) + xs5) (vp_nar .boolean 0) <| fun μ5 =>
      some (.inl ((xs5 + 1), μ5))
    else
      mbm (md_wantsBy μ a3 xs5 0) <| fun x6 μ7 =>
      if x6 < a2 then
        mwr μ7 50 512 ((32 * a3) + xs5) (vp_nar .boolean 0) <| fun μ9 =>
        some (.inl ((xs5 + 1), μ9))
      else
        mwr μ7 50 512 ((32 * a3) + xs5) (vp_nar .boolean 1) <| fun μ10 =>
        some (.inl ((xs5 + 1), μ10))
def md_wishes_l21 (μ : Mm) (a1 : Int32) (a2 : Int32) (a3 : Int32) (a4 : Int32) (xs5 : Int32) : Option ((Mm)) :=
  miter (fun q => md_wishes_b21 q.2 a1 a2 a3 a4 q.1) FU (xs5, μ)
def md_wishes_b2 (μ : Mm) (a1 : Int32) (a2 : Int32) (xs3 : Int32) : Option ((Int32 × Mm) ⊕ (Mm)) :=
  if (μ 0 3) ≤ xs3 then
    some (.inr μ)
  else
    mbv (md_isToday μ xs3 a1) <| fun x2 =>
    mbv (md_wishes_l21 μ a1 a2 xs3 (bI x2) 0) <| fun μ11 =>
    some (.inl ((xs3 + 1), μ11))
def md_wishes_l2 (μ : Mm) (a1 : Int32) (a2 : Int32) (xs3 : Int32) : Option ((Mm)) :=
  miter (fun q => md_wishes_b2 q.2 a1 a2 q.1) FU (xs3, μ)
def md_wishes (μ : Mm) (a1 : Int32) (a2 : Int32) : Option Mm :=
  mbv (md_wishes_l2 μ a1 a2 0) <| fun μ13 =>
  some μ13
def md_passesOn_b2 (μ : Mm) (xs2 : Int32) : Option ((Int32 × Mm) ⊕ (Mm)) :=
  if xs2 = (-1) then
    some (.inr μ)
  else
    mrd μ 53 16 xs2 <| fun x2 =>
    mrd μ 52 32 x2 <| fun x3 =>
    mwr μ 51 16 xs2 x2 <| fun μ4 =>
    mwr μ4 52 32 x2 xs2 <| fun μ5 =>
    some (.inl (x3, μ5))
def md_passesOn_l2 (μ : Mm) (xs2 : Int32) : Option ((Mm)) :=
  miter (fun q => md_passesOn_b2 q.2 q.1) FU (xs2, μ)
def md_passesOn (μ : Mm) (a1 : Int32) : Option Mm :=
  mbv (md_passesOn_l2 μ a1) <| fun μ6 =>
  some μ6
def md_finds_b2 (μ : Mm) (a1 : Int32) (xs2 : Int32) : Option ((Int32 × Mm) ⊕ (Mm)) :=
  if (μ 0 3) ≤ xs2 then
    some (.inr μ)
  else
    mwr μ 53 16 xs2 (-1) <| fun μ2 =>
    some (.inl ((xs2 + 1), μ2))
def md_finds_l2 (μ : Mm) (a1 : Int32) (xs2 : Int32) : Option ((Mm)) :=
  miter (fun q => md_finds_b2 q.2 a1 q.1) FU (xs2, μ)
def md_finds_b42 (μ : Mm) (a3 : Int32) (xs2 : Int32) (xs4 : Int32) : Option ((Int32 × Int32 × Mm) ⊕ ((Int32 × Mm) ⊕ (Int32 × Mm))) :=
  if (μ 0 3) ≤ xs4 then
    some (.inr (.inr (xs2, μ)))
  else
    mrd μ 54 32 a3 <| fun x7 =>
    mrd μ 50 512 ((32 * xs4) + x7) <| fun x8 =>
    if x8 = 0 then
      some (.inl (xs2, (xs4 + 1), μ))
    else
      mrd μ 53 16 xs4 <| fun x10 =>
      if x10 = (-1) then
        mrd μ 54 32 a3 <| fun x12 =>
        mwr μ 53 16 xs4 x12 <| fun μ13 =>
        mrd μ13 51 16 xs4 <| fun x14 =>
        if x14 = (-1) then
          some (.inr (.inl (xs4, μ13)))
        else
          mrd μ13 51 16 xs4 <| fun x16 =>
          mwr μ13 54 32 xs2 x16 <| fun μ17 =>
          some (.inl ((xs2 + 1), (xs4 + 1), μ17))
      else
        some (.inl (xs2, (xs4 + 1), μ))
def md_finds_l42 (μ : Mm) (a3 : Int32) (xs2 : Int32) (xs4 : Int32) : Option ((Int32 × Mm) ⊕ (Int32 × Mm)) :=
  miter (fun q => md_finds_b42 q.2.2 a3 q.1 q.2.1) FU (xs2, xs4, μ)
def md_finds_b34 (μ : Mm) (xs2 : Int32) (xs3 : Int32) : Option ((Int32 × Int32 × Mm) ⊕ ((Int32 × Mm) ⊕ (Mm))) :=
  if xs2 ≤ xs3 then
    some (.inr (.inr μ))
  else
    msum2 (md_finds_l42 μ xs3 xs2 0)
      (un2 fun x19 μ20 =>
        some (.inr (.inl (x19, μ20))))
      (un2 fun x21 μ22 =>
        some (.inl (x21, (xs3 + 1), μ22)))
def md_finds_l34 (μ : Mm) (xs2 : Int32) (xs3 : Int32) : Option ((Int32 × Mm) ⊕ (Mm)) :=
  miter (fun q => md_finds_b34 q.2.2 q.1 q.2.1) FU (xs2, xs3, μ)
def md_finds (μ : Mm) (a1 : Int32) : Option (Bool × Mm) :=
  mbv (md_finds_l2 μ a1 0) <| fun μ3 =>
  mwr μ3 54 32 0 a1 <| fun μ4 =>
  msum2 (md_finds_l34 μ4 1 0)
    (un2 fun x24 μ25 =>
      mbv (md_passesOn μ25 x24) <| fun μ27 =>
      some (true, μ27))
    (fun μ28 =>
      some (false, μ28))
def md_paired_b2 (μ : Mm) (a1 : Int64) (xs3 : Int32) : Option ((Int32 × Mm) ⊕ (Mm)) :=
  if (μ 0 3) ≤ xs3 then
    some (.inr μ)
  else
    mwr μ 51 16 xs3 (-1) <| fun μ2 =>
    some (.inl ((xs3 + 1), μ2))
def md_paired_l2 (μ : Mm) (a1 : Int64) (xs3 : Int32) : Option ((Mm)) :=
  miter (fun q => md_paired_b2 q.2 a1 q.1) FU (xs3, μ)
def md_paired_b25 (μ : Mm) (a1 : Int64) (xs3 : Int32) : Option ((Int32 × Mm) ⊕ (Mm)) :=
  if (μ 0 1) ≤ xs3 then
    some (.inr μ)
  else
    mwr μ 52 32 xs3 (-1) <| fun μ5 =>
    some (.inl ((xs3 + 1), μ5))
def md_paired_l25 (μ : Mm) (a1 : Int64) (xs3 : Int32) : Option ((Mm)) :=
  miter (fun q => md_paired_b25 q.2 a1 q.1) FU (xs3, μ)
def md_paired_b51 (μ : Mm) (a1 : Int64) (xs3 : Int32) (xs4 : Int32) : Option ((Int32 × Int32 × Mm) ⊕ (Int32 × Mm)) :=
  if (μ 0 1) ≤ xs4 then
    some (.inr (xs3, μ))
  else
    if (lg_cmp ((a1 >>> ((xs4 : Int32).toInt64 &&& 63)) &&& 1) 1) = 0 then
      mbm (md_finds μ xs4) <| fun x9 μ10 =>
      if (bI x9) = 0 then
        some (.inl (xs3, (xs4 + 1), μ10))
      else
        some (.inl ((xs3 + 1), (xs4 + 1), μ10))
    else
      some (.inl (xs3, (xs4 + 1), μ))
def md_paired_l51 (μ : Mm) (a1 : Int64) (xs3 : Int32) (xs4 : Int32) : Option ((Int32 × Mm)) :=
  miter (fun q => md_paired_b51 q.2.2 a1 q.1 q.2.1) FU (xs3, xs4, μ)
def md_paired (μ : Mm) (a1 : Int64) : Option (Int32 × Mm) :=
  mbv (md_paired_l2 μ a1 0) <| fun μ3 =>
  mbv (md_paired_l25 μ3 a1 0) <| fun μ6 =>
  mbv (md_paired_l51 μ6 a1 0 0) <| un2 fun x12 μ13 =>
  some (x12, μ13)
def md_isWantedToday_b2 (μ : Mm) (a1 : Int32) (xs2 : Int32) : Option ((Int32) ⊕ ((Unit) ⊕ (Unit))) :=
  if (μ 0 3) ≤ xs2 then
    some (.inr (.inr ()))
  else
    mrd μ 50 512 ((32 * xs2) + a1) <| fun x2 =>
    if x2 = 0 then
      some (.inl (xs2 + 1))
    else
      some (.inr (.inl ()))
def md_isWantedToday_l2 (μ : Mm) (a1 : Int32) (xs2 : Int32) : Option ((Unit) ⊕ (Unit)) :=
  miter (fun q => md_isWantedToday_b2 μ a1 q) FU xs2
def md_isWantedToday (μ : Mm) (a1 : Int32) : Option Bool :=
  msum2 (md_isWantedToday_l2 μ a1 0)
    (fun _ =>
      some true)
    (fun _ =>
      some false)
def md_bits_b4 (a0 : Int32) (xs1 : Int32) (xs2 : Int32) : Option ((Int32 × Int32) ⊕ (Int32)) :=
  if 16 ≤ xs2 then
    some (.inr xs1)
  else
    some (.inl ((xs1 + ((a0 >>> (xs2 &&& 31)) &&& 1)), (xs2 + 1)))
def md_bits_l4 (a0 : Int32) (xs1 : Int32) (xs2 : Int32) : Option ((Int32)) :=
  miter (fun q => md_bits_b4 a0 q.1 q.2) FU (xs1, xs2)
def md_bits (a0 : Int32) : Option Int32 :=
  mbv (md_bits_l4 a0 0 0) <| fun x2 =>
  some x2
def md_load_j173 (μ : Mm) (a1 : Int32) (a3 : Int32) (a4 : Int32) (a5 : Int64) (a7 : Int32) (a9 : Int32) (a10 : Int32) (y0 : Int32) : Option ((Int32 × Int32 × Int32 × Int32 × Mm) ⊕ (Int32 × Int32 × Int32 × Mm)) :=
  mrd μ 1 32 a10 <| fun x20 =>
  some (.inl ((a7 + 1), y0, (a9 ||| ((1 : Int32) <<< (x20 &&& 31))), (a10 + 1), μ))
def md_load_j147 (μ : Mm) (a1 : Int32) (a3 : Int32) (a4 : Int32) (a5 : Int64) (a7 : Int32) (a8 : Int32) (a9 : Int32) (a10 : Int32) (a11 : Int32) : Option ((Int32 × Int32 × Int32 × Int32 × Mm) ⊕ (Int32 × Int32 × Int32 × Mm)) :=
  mwr μ 55 12 a7 a10 <| fun μ18 =>
  if a11 = 0 then
    md_load_j173 μ18 a1 a3 a4 a5 a7 a9 a10 a8
  else
    md_load_j173 μ18 a1 a3 a4 a5 a7 a9 a10 (a8 ||| ((1 : Int32) <<< (a7 &&& 31)))
def md_load_j130 (μ : Mm) (a1 : Int32) (a3 : Int32) (a4 : Int32) (a5 : Int64) (a7 : Int32) (a8 : Int32) (a9 : Int32) (a10 : Int32) (a11 : Int32) : Option ((Int32 × Int32 × Int32 × Int32 × Mm) ⊕ (Int32 × Int32 × Int32 × Mm)) :=
  if a11 = 0 then
    mbv (md_isWantedToday μ a10) <| fun x21 =>
    if (bI x21) = 0 then
      some (.inl (a7, a8, a9, (a10 + 1), μ))
    else
      md_load_j147 μ a1 a3 a4 a5 a7 a8 a9 a10 a11
  else
    md_load_j147 μ a1 a3 a4 a5 a7 a8 a9 a10 a11
def md_load_j105 (μ : Mm) (a1 : Int32) (a3 : Int32) (a4 : Int32) (a5 : Int64) (a7 : Int32) (a8 : Int32) (a9 : Int32) (a10 : Int32) (y0 : Int32) : Option ((Int32 × Int32 × Int32 × Int32 × Mm) ⊕ (Int32 × Int32 × Int32 × Mm)) :=
  mrd μ 5 32 a10 <| fun x15 =>
  if x15 = 0 then
    md_load_j130 μ a1 a3 a4 a5 a7 a8 a9 a10 y0
  else
    mrd μ 5 32 a10 <| fun x23 =>
    if x23 = (1 + a1) then
      md_load_j130 μ a1 a3 a4 a5 a7 a8 a9 a10 y0
    else
      some (.inl (a7, a8, a9, (a10 + 1), μ))
def md_load_b72 (μ : Mm) (a1 : Int32) (a3 : Int32) (a4 : Int32) (a5 : Int64) (xs7 : Int32) (xs8 : Int32) (xs9 : Int32) (xs10 : Int32) : Option ((Int32 × Int32 × Int32 × Int32 × Mm) ⊕ (Int32 × Int32 × Int32 × Mm)) :=
  if (μ 0 1) ≤ xs10 then
    some (.inr (xs7, xs8, xs9, μ))
  else
    if 12 ≤ xs7 then
      some (.inr (xs7, xs8, xs9, μ))
    else
      if (lg_cmp ((a5 >>> ((xs10 : Int32).toInt64 &&& 63)) &&& 1) 1) = 0 then
        md_load_j105 μ a1 a3 a4 a5 xs7 xs8 xs9 xs10 1
      else
        md_load_j105 μ a1 a3 a4 a5 xs7 xs8 xs9 xs10 0
def md_load_l72 (μ : Mm) (a1 : Int32) (a3 : Int32) (a4 : Int32) (a5 : Int64) (xs7 : Int32) (xs8 : Int32) (xs9 : Int32) (xs10 : Int32) : Option ((Int32 × Int32 × Int32 × Mm)) :=
  miter (fun q => md_load_b72 q.2.2.2.2 a1 a3 a4 a5 q.1 q.2.1 q.2.2.1 q.2.2.2.1) FU (xs7, xs8, xs9, xs10, μ)
def md_load_b246 (μ : Mm) (a1 : Int32) (a3 : Int32) (a4 : Int32) (a7 : Int32) (a8 : Int32) (a9 : Int32) (a10 : Int64) (a12 : Int32) (a13 : Int32) (a14 : Int32) (xs15 : Int64) (xs17 : Int32) (xs18 : Int32) : Option ((Int64 × Int32 × Int32) ⊕ (Int64 × Int32)) :=
  if a7 ≤ xs18 then
    some (.inr (xs15, xs17))
  else
    if ((a14 >>> (xs18 &&& 31)) &&& 1) = 0 then
      some (.inl (xs15, xs17, (xs18 + 1)))
    else
      mrd μ 55 12 xs18 <| fun x33 =>
      mrd μ 55 12 xs18 <| fun x34 =>
      mrd μ 1 32 x34 <| fun x35 =>
      some (.inl ((xs15 ||| ((1 : Int64) <<< ((x33 : Int32).toInt64 &&& 63))), (xs17 ||| ((1 : Int32) <<< (x35 &&& 31))), (xs18 + 1)))
def md_load_l246 (μ : Mm) (a1 : Int32) (a3 : Int32) (a4 : Int32) (a7 : Int32) (a8 : Int32) (a9 : Int32) (a10 : Int64) (a12 : Int32) (a13 : Int32) (a14 : Int32) (xs15 : Int64) (xs17 : Int32) (xs18 : Int32) : Option ((Int64 × Int32)) :=
  miter (fun q => md_load_b246 μ a1 a3 a4 a7 a8 a9 a10 a12 a13 a14 q.1 q.2.1 q.2.2) FU (xs15, xs17, xs18)
def md_load_j361 (μ : Mm) (a1 : Int32) (a3 : Int32) (a4 : Int32) (a7 : Int32) (a8 : Int32) (a9 : Int32) (a10 : Int64) (a12 : Int32) (a13 : Int32) (a14 : Int32) (a15 : Int64) (a18 : Int32) : Option ((Int64 × Int32 × Int32 × Int32 × Mm) ⊕ (Int64 × Int32 × Int32 × Mm)) :=
  mbm (md_paired μ a15) <| fun x43 μ44 =>
  if (lg_cmp a10 (-2)) = 0 then
    some (.inl (a15, x43, a18, (a14 + 1), μ44))
  else
    if x43 < a12 then
      some (.inl (a10, a12, a13, (a14 + 1), μ44))
    else
      if x43 = a12 then
        if a18 < a13 then
          some (.inl (a15, x43, a18, (a14 + 1), μ44))
        else
          some (.inl (a10, a12, a13, (a14 + 1), μ44))
      else
        some (.inl (a15, x43, a18, (a14 + 1), μ44))
def md_load_b215 (μ : Mm) (a1 : Int32) (a3 : Int32) (a4 : Int32) (a7 : Int32) (a8 : Int32) (a9 : Int32) (xs10 : Int64) (xs12 : Int32) (xs13 : Int32) (xs14 : Int32) : Option ((Int64 × Int32 × Int32 × Int32 × Mm) ⊕ (Int64 × Int32 × Int32 × Mm)) :=
  if ((1 : Int32) <<< (a7 &&& 31)) ≤ xs14 then
    some (.inr (xs10, xs12, xs13, μ))
  else
    if (a8 &&& (xs14 ^^^ (-1))) = 0 then
      mbv (md_load_l246 μ a1 a3 a4 a7 a8 a9 xs10 xs12 xs13 xs14 0 0 0) <| un2 fun x36 x37 =>
      mbv (md_lengthOfSet μ x36) <| fun x38 =>
      mrd μ 9 3 a1 <| fun x39 =>
      if x39 < x38 then
        some (.inl (xs10, xs12, xs13, (xs14 + 1), μ))
      else
        if ((a3 &&& a9) &&& (x37 ^^^ (-1))) = 0 then
          if (lg_cmp xs10 (-2)) = 0 then
            md_load_j361 μ a1 a3 a4 a7 a8 a9 xs10 xs12 xs13 xs14 x36 x38
          else
            mbv (md_bits xs14) <| fun x49 =>
            if xs12 ≤ x49 then
              md_load_j361 μ a1 a3 a4 a7 a8 a9 xs10 xs12 xs13 xs14 x36 x38
            else
              some (.inl (xs10, xs12, xs13, (xs14 + 1), μ))
        else
          some (.inl (xs10, xs12, xs13, (xs14 + 1), μ))
    else
      some (.inl (xs10, xs12, xs13, (xs14 + 1), μ))
def md_load_l215 (μ : Mm) (a1 : Int32) (a3 : Int32) (a4 : Int32) (a7 : Int32) (a8 : Int32) (a9 : Int32) (xs10 : Int64) (xs12 : Int32) (xs13 : Int32) (xs14 : Int32) : Option ((Int64 × Int32 × Int32 × Mm)) :=
  miter (fun q => md_load_b215 q.2.2.2.2 a1 a3 a4 a7 a8 a9 q.1 q.2.1 q.2.2.1 q.2.2.2.1) FU (xs10, xs12, xs13, xs14, μ)
def md_load_j201 (μ : Mm) (a1 : Int32) (a3 : Int32) (a4 : Int32) (a7 : Int32) (a8 : Int32) (a9 : Int32) : Option (Int64 × Mm) :=
  mbv (md_load_l215 μ a1 a3 a4 a7 a8 a9 (-2) 0 0 0) <| un4 fun x52 x53 x54 μ55 =>
  if (lg_cmp x52 (-2)) = 0 then
    some ((-2), μ55)
  else
    if a4 = 0 then
      some (x52, μ55)
    else
      if a4 = 1 then
        some (((x53 : Int32).toInt64), μ55)
      else
        some (((x54 : Int32).toInt64), μ55)
def md_load (μ : Mm) (a1 : Int32) (a2 : Int32) (a3 : Int32) (a4 : Int32) : Option (Int64 × Mm) :=
  mbv (md_isVan a1) <| fun x1 =>
  if (bI x1) = 0 then
    some ((-1), μ)
  else
    mbv (md_in a2 1 1000) <| fun x3 =>
    if (bI x3) = 0 then
      some ((-1), μ)
    else
      mbv (md_in a3 0 255) <| fun x5 =>
      if (bI x5) = 0 then
        some ((-1), μ)
      else
        mbv (md_in a4 0 2) <| fun x7 =>
        if (bI x7) = 0 then
          some ((-1), μ)
        else
          mbv (md_wishes μ a1 a2) <| fun μ10 =>
          mbv (md_aboardOf μ10 (μ10 0 0) a1) <| fun x11 =>
          mbv (md_load_l72 μ10 a1 a3 a4 x11 0 0 0 0) <| un4 fun x25 x26 x27 μ28 =>
          md_load_j201 μ28 a1 a3 a4 x25 x26 x27
def md_served (μ : Mm) (a1 : Int32) (a2 : Int64) (a4 : Int32) : Option (Int32 × Mm) :=
  mbv (md_isVan a1) <| fun x1 =>
  if (bI x1) = 0 then
    some ((-1), μ)
  else
    if (lg_cmp a2 0) < 0 then
      some ((-1), μ)
    else
      if 0 ≤ (lg_cmp a2 ((1 : Int64) <<< (((μ 0 1) : Int32).toInt64 &&& 63))) then
        some ((-1), μ)
      else
        mbv (md_in a4 1 1000) <| fun x5 =>
        if (bI x5) = 0 then
          some ((-1), μ)
        else
          mbv (md_wishes μ a1 a4) <| fun μ8 =>
          mbm (md_paired μ8 a2) <| fun x9 μ10 =>
          some (x9, μ10)
def md_visitsOf_b15 (μ : Mm) (a1 : Int32) (a3 : Int32) (xs2 : Int32) (xs4 : Int32) : Option ((Int32 × Int32) ⊕ (Int32)) :=
  if 3 ≤ xs4 then
    some (.inr xs2)
  else
    mbv (md_isVisited μ xs4 a1 a3) <| fun x3 =>
    if (bI x3) = 0 then
      some (.inl ((xs2 + 0), (xs4 + 1)))
    else
      some (.inl ((xs2 + 1), (xs4 + 1)))
def md_visitsOf_l15 (μ : Mm) (a1 : Int32) (a3 : Int32) (xs2 : Int32) (xs4 : Int32) : Option ((Int32)) :=
  miter (fun q => md_visitsOf_b15 μ a1 a3 q.1 q.2) FU (xs2, xs4)
def md_visitsOf_b4 (μ : Mm) (a1 : Int32) (xs2 : Int32) (xs3 : Int32) : Option ((Int32 × Int32) ⊕ (Int32)) :=
  if (μ 0 0) < xs3 then
    some (.inr xs2)
  else
    mbv (md_visitsOf_l15 μ a1 xs3 xs2 0) <| fun x5 =>
    some (.inl (x5, (xs3 + 1)))
def md_visitsOf_l4 (μ : Mm) (a1 : Int32) (xs2 : Int32) (xs3 : Int32) : Option ((Int32)) :=
  miter (fun q => md_visitsOf_b4 μ a1 q.1 q.2) FU (xs2, xs3)
def md_visitsOf (μ : Mm) (a1 : Int32) : Option Int32 :=
  mbv (md_visitsOf_l4 μ a1 0 0) <| fun x7 =>
  some x7
def md_least_b18 (μ : Mm) (a1 : Int32) (xs2 : Int32) (xs3 : Int32) (xs4 : Int32) : Option ((Int32 × Int32 × Int32) ⊕ (Int32 × Int32)) :=
  if (μ 0 3) ≤ xs4 then
    some (.inr (xs2, xs3))
  else
    mrd μ 15 16 xs4 <| fun x4 =>
    mbv (md_visitsOf μ x4) <| fun x5 =>
    if x5 = 0 then
      some (.inl (xs2, xs3, (xs4 + 1)))
    else
      if xs2 = (-1) then
        some (.inl (xs4, x5, (xs4 + 1)))
      else
        mrd μ 19 16 xs4 <| fun x8 =>
        mrd μ 19 16 xs2 <| fun x9 =>
        if (x8 * xs3) < (x9 * x5) then
          some (.inl (xs4, x5, (xs4 + 1)))
        else
          some (.inl (xs2, xs3, (xs4 + 1)))
def md_least_l18 (μ : Mm) (a1 : Int32) (xs2 : Int32) (xs3 : Int32) (xs4 : Int32) : Option ((Int32 × Int32)) :=
  miter (fun q => md_least_b18 μ a1 q.1 q.2.1 q.2.2) FU (xs2, xs3, xs4)
def md_least (μ : Mm) (a1 : Int32) : Option Int32 :=
  mbv (md_in a1 0 2) <| fun x1 =>
  if (bI x1) = 0 then
    some (-1)
  else
    mbv (md_least_l18 μ a1 (-1) 0 0) <| un2 fun x11 x12 =>
    if x11 = (-1) then
      some (-1)
    else
      if a1 = 0 then
        some x11
      else
        if a1 = 1 then
          mrd μ 19 16 x11 <| fun x16 =>
          some x16
        else
          some x12
def md_wantedOn_b6 (μ : Mm) (a1 : Int32) (a2 : Int32) (a3 : Int32) (xs4 : Int32) (xs5 : Int32) : Option ((Int32 × Int32 × Mm) ⊕ (Int32 × Mm)) :=
  if (μ 0 3) ≤ xs5 then
    some (.inr (xs4, μ))
  else
    mrd μ 15 16 xs5 <| fun x2 =>
    mrd μ 13 10 x2 <| fun x3 =>
    if x3 = a1 then
      mbm (md_wantsBy μ xs5 a2 0) <| fun x5 μ6 =>
      if x5 < a3 then
        some (.inl ((xs4 + 0), (xs5 + 1), μ6))
      else
        some (.inl ((xs4 + 1), (xs5 + 1), μ6))
    else
      some (.inl ((xs4 + 0), (xs5 + 1), μ))
def md_wantedOn_l6 (μ : Mm) (a1 : Int32) (a2 : Int32) (a3 : Int32) (xs4 : Int32) (xs5 : Int32) : Option ((Int32 × Mm)) :=
  miter (fun q => md_wantedOn_b6 q.2.2 a1 a2 a3 q.1 q.2.1) FU (xs4, xs5, μ)
def md_wantedOn (μ : Mm) (a1 : Int32) (a2 : Int32) (a3 : Int32) : Option (Int32 × Mm) :=
  mbv (md_wantedOn_l6 μ a1 a2 a3 0 0) <| un2 fun x8 μ9 =>
  some (x8, μ9)
def md_dull_b27 (μ : Mm) (a1 : Int32) (a2 : Int32) (xs3 : Int64) (xs5 : Int32) : Option ((Int64 × Int32 × Mm) ⊕ (Int64 × Mm)) :=
  if (μ 0 1) ≤ xs5 then
    some (.inr (xs3, μ))
  else
    mrd μ 5 32 xs5 <| fun x6 =>
    if x6 = (1 + a1) then
      mbm (md_wantedOn μ a1 xs5 a2) <| fun x8 μ9 =>
      if x8 = 0 then
        some (.inl ((xs3 ||| ((1 : Int64) <<< ((xs5 : Int32).toInt64 &&& 63))), (xs5 + 1), μ9))
      else
        some (.inl (xs3, (xs5 + 1), μ9))
    else
      some (.inl (xs3, (xs5 + 1), μ))
def md_dull_l27 (μ : Mm) (a1 : Int32) (a2 : Int32) (xs3 : Int64) (xs5 : Int32) : Option ((Int64 × Mm)) :=
  miter (fun q => md_dull_b27 q.2.2 a1 a2 q.1 q.2.1) FU (xs3, xs5, μ)
def md_dull (μ : Mm) (a1 : Int32) (a2 : Int32) : Option (Int64 × Mm) :=
  mbv (md_isVan a1) <| fun x1 =>
  if (bI x1) = 0 then
    some ((-1), μ)
  else
    mbv (md_in a2 1 1000) <| fun x3 =>
    if (bI x3) = 0 then
      some ((-1), μ)
    else
      mbv (md_dull_l27 μ a1 a2 0 0) <| un2 fun x11 μ12 =>
      some (x11, μ12)
def md_onward_b30 (μ : Mm) (a1 : Int32) (a2 : Int32) (xs3 : Int32) (xs4 : Int32) (xs5 : Int32) : Option ((Int32 × Int32 × Int32 × Mm) ⊕ (Int32 × Mm)) :=
  if 3 ≤ xs5 then
    some (.inr (xs3, μ))
  else
    mbm (md_wantedOn μ xs5 a1 a2) <| fun x6 μ7 =>
    if xs4 < x6 then
      some (.inl (xs5, x6, (xs5 + 1), μ7))
    else
      some (.inl (xs3, xs4, (xs5 + 1), μ7))
def md_onward_l30 (μ : Mm) (a1 : Int32) (a2 : Int32) (xs3 : Int32) (xs4 : Int32) (xs5 : Int32) : Option ((Int32 × Mm)) :=
  miter (fun q => md_onward_b30 q.2.2.2 a1 a2 q.1 q.2.1 q.2.2.1) FU (xs3, xs4, xs5, μ)
def md_onward (μ : Mm) (a1 : Int32) (a2 : Int32) : Option (Int32 × Mm) :=
  mbv (md_isBook μ a1) <| fun x1 =>
  if (bI x1) = 0 then
    some ((-1), μ)
  else
    mbv (md_in a2 1 1000) <| fun x3 =>
    if (bI x3) = 0 then
      some ((-1), μ)
    else
      mbv (md_onward_l30 μ a1 a2 (-2) 0 0) <| un2 fun x9 μ10 =>
      some (x9, μ10)
def md_isKnownAt_b2 (μ : Mm) (a1 : Int32) (a2 : Int32) (xs3 : Int32) : Option ((Int32) ⊕ ((Unit) ⊕ (Unit))) :=
  if (μ 0 3) ≤ xs3 then
    some (.inr (.inr ()))
  else
    mrd μ 15 16 xs3 <| fun x2 =>
    if x2 = a1 then
      mrd μ 21 512 ((32 * xs3) + a2) <| fun x4 =>
      if x4 = 0 then
        some (.inl (xs3 + 1))
      else
        some (.inr (.inl ()))
    else
      some (.inl (xs3 + 1))
def md_isKnownAt_l2 (μ : Mm) (a1 : Int32) (a2 : Int32) (xs3 : Int32) : Option ((Unit) ⊕ (Unit)) :=
  miter (fun q => md_isKnownAt_b2 μ a1 a2 q) FU xs3
def md_isKnownAt (μ : Mm) (a1 : Int32) (a2 : Int32) : Option Bool :=
  msum2 (md_isKnownAt_l2 μ a1 a2 0)
    (fun _ =>
      some true)
    (fun _ =>
      some false)
def md_different_b42 (μ : Mm) (a1 : Int32) (a2 : Int32) (a4 : Int32) (xs3 : Int32) (xs5 : Int32) : Option ((Int32 × Int32) ⊕ (Int32)) :=
  if 3 ≤ xs5 then
    some (.inr xs3)
  else
    mbv (md_isVisited μ xs5 a1 a4) <| fun x8 =>
    if (bI x8) = 0 then
      some (.inl (xs3, (xs5 + 1)))
    else
      some (.inl ((xs3 ||| ((1 : Int32) <<< (xs5 &&& 31))), (xs5 + 1)))
def md_different_l42 (μ : Mm) (a1 : Int32) (a2 : Int32) (a4 : Int32) (xs3 : Int32) (xs5 : Int32) : Option ((Int32)) :=
  miter (fun q => md_different_b42 μ a1 a2 a4 q.1 q.2) FU (xs3, xs5)
def md_different_b22 (μ : Mm) (a1 : Int32) (a2 : Int32) (xs3 : Int32) (xs4 : Int32) : Option ((Int32 × Int32) ⊕ (Int32)) :=
  if (a2 + 14) ≤ xs4 then
    some (.inr xs3)
  else
    if 199 < xs4 then
      some (.inr xs3)
    else
      mbv (md_different_l42 μ a1 a2 xs4 xs3 0) <| fun x10 =>
      some (.inl (x10, (xs4 + 1)))
def md_different_l22 (μ : Mm) (a1 : Int32) (a2 : Int32) (xs3 : Int32) (xs4 : Int32) : Option ((Int32)) :=
  miter (fun q => md_different_b22 μ a1 a2 q.1 q.2) FU (xs3, xs4)
def md_different_b95 (μ : Mm) (a1 : Int32) (a3 : Int32) (xs4 : Int32) (xs5 : Int32) : Option ((Int32 × Int32) ⊕ (Int32)) :=
  if (μ 0 1) ≤ xs5 then
    some (.inr xs4)
  else
    mrd μ 5 32 xs5 <| fun x15 =>
    mbv (md_in x15 1 3) <| fun x16 =>
    if (bI x16) = 0 then
      some (.inl ((xs4 + 0), (xs5 + 1)))
    else
      mrd μ 5 32 xs5 <| fun x18 =>
      if ((a3 >>> ((x18 - 1) &&& 31)) &&& 1) = 1 then
        mbv (md_isKnownAt μ a1 xs5) <| fun x20 =>
        if (bI x20) = 0 then
          some (.inl ((xs4 + 1), (xs5 + 1)))
        else
          some (.inl ((xs4 + 0), (xs5 + 1)))
      else
        some (.inl ((xs4 + 0), (xs5 + 1)))
def md_different_l95 (μ : Mm) (a1 : Int32) (a3 : Int32) (xs4 : Int32) (xs5 : Int32) : Option ((Int32)) :=
  miter (fun q => md_different_b95 μ a1 a3 q.1 q.2) FU (xs4, xs5)
def md_different_j83 (μ : Mm) (a1 : Int32) (a3 : Int32) : Option Int32 :=
  if a3 = 0 then
    some (-1)
  else
    mbv (md_different_l95 μ a1 a3 0 0) <| fun x22 =>
    some x22
def md_different (μ : Mm) (a1 : Int32) (a2 : Int32) : Option Int32 :=
  mbv (md_isStop μ a1) <| fun x1 =>
  if (bI x1) = 0 then
    some (-1)
  else
    mbv (md_isDay a2) <| fun x3 =>
    if (bI x3) = 0 then
      some (-1)
    else
      mbv (md_different_l22 μ a1 a2 0 a2) <| fun x12 =>
      md_different_j83 μ a1 x12
def md_apart_j44 (μ : Mm) (a1 : Int32) (a2 : Int32) (y0 : Int32) : Option Int32 :=
  mrd μ 11 10 a1 <| fun x6 =>
  mrd μ 11 10 a2 <| fun x7 =>
  if x7 ≤ x6 then
    mrd μ 11 10 a1 <| fun x9 =>
    mrd μ 11 10 a2 <| fun x10 =>
    some (y0 + (x9 - x10))
  else
    mrd μ 11 10 a2 <| fun x11 =>
    mrd μ 11 10 a1 <| fun x12 =>
    some (y0 + (x11 - x12))
def md_apart (μ : Mm) (a1 : Int32) (a2 : Int32) : Option Int32 :=
  mrd μ 10 10 a1 <| fun x1 =>
  mrd μ 10 10 a2 <| fun x2 =>
  if x2 ≤ x1 then
    mrd μ 10 10 a1 <| fun x4 =>
    mrd μ 10 10 a2 <| fun x5 =>
    md_apart_j44 μ a1 a2 (x4 - x5)
  else
    mrd μ 10 10 a2 <| fun x13 =>
    mrd μ 10 10 a1 <| fun x14 =>
    md_apart_j44 μ a1 a2 (x13 - x14)
def md_toDepot (μ : Mm) (a1 : Int32) : Option Int32 :=
  mrd μ 10 10 a1 <| fun x1 =>
  mrd μ 11 10 a1 <| fun x2 =>
  some (x1 + x2)
def md_laysVisits_b7 (μ : Mm) (a1 : Int32) (a2 : Int32) (xs3 : Int32) : Option ((Int32 × Mm) ⊕ (Mm)) :=
  if (μ 0 2) ≤ xs3 then
    some (.inr μ)
  else
    mbv (md_isVisited μ a1 xs3 a2) <| fun x3 =>
    if (bI x3) = 0 then
      some (.inl ((xs3 + 1), μ))
    else
      mwr μ 56 10 (μ 0 77) xs3 <| fun μ5 =>
      mst μ5 0 77 ((μ5 0 77) + 1) <| fun μ6 =>
      some (.inl ((xs3 + 1), μ6))
def md_laysVisits_l7 (μ : Mm) (a1 : Int32) (a2 : Int32) (xs3 : Int32) : Option ((Mm)) :=
  miter (fun q => md_laysVisits_b7 q.2 a1 a2 q.1) FU (xs3, μ)
def md_laysVisits (μ : Mm) (a1 : Int32) (a2 : Int32) : Option Mm :=
  mst μ 0 77 0 <| fun μ1 =>
  mbv (md_laysVisits_l7 μ1 a1 a2 0) <| fun μ7 =>
  some μ7
def md_laysTold_b8 (μ : Mm) (a1 : Int32) (a2 : Int32) (a3 : Int32) (xs4 : Int32) : Option ((Int32 × Mm) ⊕ (Mm)) :=
  if (μ 0 2) ≤ xs4 then
    some (.inr μ)
  else
    mrd μ 13 10 xs4 <| fun x3 =>
    if x3 = a1 then
      mrd μ 14 10 xs4 <| fun x5 =>
      if x5 = a2 then
        if xs4 = a3 then
          some (.inl ((xs4 + 1), μ))
        else
          mwr μ 56 10 (μ 0 77) xs4 <| fun μ8 =>
          mst μ8 0 77 ((μ8 0 77) + 1) <| fun μ9 =>
          some (.inl ((xs4 + 1), μ9))
      else
        some (.inl ((xs4 + 1), μ))
    else
      some (.inl ((xs4 + 1), μ))
def md_laysTold_l8 (μ : Mm) (a1 : Int32) (a2 : Int32) (a3 : Int32) (xs4 : Int32) : Option ((Mm)) :=
  miter (fun q => md_laysTold_b8 q.2 a1 a2 a3 q.1) FU (xs4, μ)
def md_laysTold (μ : Mm) (a1 : Int32) (a2 : Int32) (a3 : Int32) : Option Mm :=
  mst μ 0 77 0 <| fun μ1 =>
  mbv (md_laysTold_l8 μ1 a1 a2 a3 0) <| fun μ10 =>
  some μ10
def md_miles_b51 (μ : Mm) (a1 : Int32) (a2 : Int32) (a3 : Int32) (xs4 : Int32) (xs5 : Int32) : Option ((Int32 × Int32) ⊕ (Int32)) :=
  if (μ 0 77) ≤ xs5 then
    some (.inr xs4)
  else
    if ((a2 >>> (xs5 &&& 31)) &&& 1) = 0 then
      some (.inl (xs4, (xs5 + 1)))
    else
      mrd μ 56 10 a3 <| fun x6 =>
      mrd μ 56 10 xs5 <| fun x7 =>
      mbv (md_apart μ x6 x7) <| fun x8 =>
      mrd μ 57 2048 ((8 * (a2 &&& (((1 : Int32) <<< (xs5 &&& 31)) ^^^ (-1)))) + xs5) <| fun x9 =>
      if xs4 ≤ (x8 + x9) then
        some (.inl (xs4, (xs5 + 1)))
      else
        some (.inl ((x8 + x9), (xs5 + 1)))
def md_miles_l51 (μ : Mm) (a1 : Int32) (a2 : Int32) (a3 : Int32) (xs4 : Int32) (xs5 : Int32) : Option ((Int32)) :=
  miter (fun q => md_miles_b51 μ a1 a2 a3 q.1 q.2) FU (xs4, xs5)
def md_miles_j46 (μ : Mm) (a1 : Int32) (a2 : Int32) (a3 : Int32) (y0 : Int32) : Option ((Int32 × Mm) ⊕ (Mm)) :=
  mbv (md_miles_l51 μ a1 a2 a3 y0 0) <| fun x11 =>
  mwr μ 57 2048 ((8 * a2) + a3) x11 <| fun μ12 =>
  some (.inl ((a3 + 1), μ12))
def md_miles_b18 (μ : Mm) (a1 : Int32) (a2 : Int32) (xs3 : Int32) : Option ((Int32 × Mm) ⊕ (Mm)) :=
  if (μ 0 77) ≤ xs3 then
    some (.inr μ)
  else
    if a2 = 0 then
      mrd μ 56 10 xs3 <| fun x14 =>
      mbv (md_toDepot μ x14) <| fun x15 =>
      md_miles_j46 μ a1 a2 xs3 x15
    else
      md_miles_j46 μ a1 a2 xs3 1000000
def md_miles_l18 (μ : Mm) (a1 : Int32) (a2 : Int32) (xs3 : Int32) : Option ((Mm)) :=
  miter (fun q => md_miles_b18 q.2 a1 a2 q.1) FU (xs3, μ)
def md_miles_b11 (μ : Mm) (a1 : Int32) (xs2 : Int32) : Option ((Int32 × Mm) ⊕ (Mm)) :=
  if a1 < xs2 then
    some (.inr μ)
  else
    mbv (md_miles_l18 μ a1 xs2 0) <| fun μ16 =>
    some (.inl ((xs2 + 1), μ16))
def md_miles_l11 (μ : Mm) (a1 : Int32) (xs2 : Int32) : Option ((Mm)) :=
  miter (fun q => md_miles_b11 q.2 a1 q.1) FU (xs2, μ)
def md_miles_b175 (μ : Mm) (a1 : Int32) (xs2 : Int32) (xs3 : Int32) : Option ((Int32 × Int32) ⊕ (Int32)) :=
  if (μ 0 77) ≤ xs3 then
    some (.inr xs2)
  else
    mrd μ 56 10 xs3 <| fun x21 =>
    mbv (md_toDepot μ x21) <| fun x22 =>
    mrd μ 57 2048 ((8 * (a1 &&& (((1 : Int32) <<< (xs3 &&& 31)) ^^^ (-1)))) + xs3) <| fun x23 =>
    if xs2 ≤ (x22 + x23) then
      some (.inl (xs2, (xs3 + 1)))
    else
      some (.inl ((x22 + x23), (xs3 + 1)))
def md_miles_l175 (μ : Mm) (a1 : Int32) (xs2 : Int32) (xs3 : Int32) : Option ((Int32)) :=
  miter (fun q => md_miles_b175 μ a1 q.1 q.2) FU (xs2, xs3)
def md_miles_j172 (μ : Mm) (a1 : Int32) (y0 : Int32) : Option (Int32 × Mm) :=
  mbv (md_miles_l175 μ a1 y0 0) <| fun x25 =>
  some (x25, μ)
def md_miles (μ : Mm) : Option (Int32 × Mm) :=
  mbv (md_miles_l11 μ (((1 : Int32) <<< ((μ 0 77) &&& 31)) - 1) 0) <| fun μ18 =>
  if (μ18 0 77) = 0 then
    md_miles_j172 μ18 (((1 : Int32) <<< ((μ 0 77) &&& 31)) - 1) 0
  else
    md_miles_j172 μ18 (((1 : Int32) <<< ((μ 0 77) &&& 31)) - 1) 1000000
def md_halts_b4 (μ : Mm) (xs1 : Int32) (xs2 : Int32) : Option ((Int32 × Int32) ⊕ (Int32)) :=
  if (μ 0 77) ≤ xs2 then
    some (.inr xs1)
  else
    mrd μ 56 10 xs2 <| fun x2 =>
    mrd μ 12 10 x2 <| fun x3 =>
    some (.inl ((xs1 + x3), (xs2 + 1)))
def md_halts_l4 (μ : Mm) (xs1 : Int32) (xs2 : Int32) : Option ((Int32)) :=
  miter (fun q => md_halts_b4 μ q.1 q.2) FU (xs1, xs2)
def md_halts (μ : Mm) : Option Int32 :=
  mbv (md_halts_l4 μ 0 0) <| fun x4 =>
  some x4
def md_stopAt_j86 (μ : Mm) (a1 : Int32) (a2 : Int32) (a3 : Int32) (a4 : Int32) (a5 : Int32) (a6 : Int32) (a7 : Int32) (y0 : Int32) : Option ((Int32 × Int32 × Int32) ⊕ (Int32)) :=
  mrd μ 57 2048 ((8 * (a2 &&& (((1 : Int32) <<< (a7 &&& 31)) ^^^ (-1)))) + a7) <| fun x8 =>
  if a5 = (-1) then
    some (.inl (a7, (y0 + x8), (a7 + 1)))
  else
    if (y0 + x8) < a6 then
      some (.inl (a7, (y0 + x8), (a7 + 1)))
    else
      some (.inl (a5, a6, (a7 + 1)))
def md_stopAt_b29 (μ : Mm) (a1 : Int32) (a2 : Int32) (a3 : Int32) (a4 : Int32) (xs5 : Int32) (xs6 : Int32) (xs7 : Int32) : Option ((Int32 × Int32 × Int32) ⊕ (Int32)) :=
  if (μ 0 77) ≤ xs7 then
    some (.inr xs5)
  else
    if ((a2 >>> (xs7 &&& 31)) &&& 1) = 0 then
      some (.inl (xs5, xs6, (xs7 + 1)))
    else
      if a3 = (-1) then
        mrd μ 56 10 xs7 <| fun x11 =>
        mbv (md_toDepot μ x11) <| fun x12 =>
        md_stopAt_j86 μ a1 a2 a3 a4 xs5 xs6 xs7 x12
      else
        mrd μ 56 10 a3 <| fun x5 =>
        mrd μ 56 10 xs7 <| fun x6 =>
        mbv (md_apart μ x5 x6) <| fun x7 =>
        md_stopAt_j86 μ a1 a2 a3 a4 xs5 xs6 xs7 x7
def md_stopAt_l29 (μ : Mm) (a1 : Int32) (a2 : Int32) (a3 : Int32) (a4 : Int32) (xs5 : Int32) (xs6 : Int32) (xs7 : Int32) : Option ((Int32)) :=
  miter (fun q => md_stopAt_b29 μ a1 a2 a3 a4 q.1 q.2.1 q.2.2) FU (xs5, xs6, xs7)
def md_stopAt_b14 (μ : Mm) (a1 : Int32) (xs2 : Int32) (xs3 : Int32) (xs4 : Int32) : Option ((Int32 × Int32 × Int32) ⊕ (Int32)) :=
  if a1 < xs4 then
    some (.inr xs3)
  else
    mbv (md_stopAt_l29 μ a1 xs2 xs3 xs4 (-1) 0 0) <| fun x13 =>
    some (.inl ((xs2 &&& (((1 : Int32) <<< (x13 &&& 31)) ^^^ (-1))), x13, (xs4 + 1)))
def md_stopAt_l14 (μ : Mm) (a1 : Int32) (xs2 : Int32) (xs3 : Int32) (xs4 : Int32) : Option ((Int32)) :=
  miter (fun q => md_stopAt_b14 μ a1 q.1 q.2.1 q.2.2) FU (xs2, xs3, xs4)
def md_stopAt (μ : Mm) (a1 : Int32) : Option Int32 :=
  mbv (md_stopAt_l14 μ a1 (((1 : Int32) <<< ((μ 0 77) &&& 31)) - 1) (-1) 0) <| fun x15 =>
  mrd μ 56 10 x15 <| fun x16 =>
  some x16
def md_pace (μ : Mm) (a1 : Int32) : Option (Bool × Mm) :=
  mbv (md_in a1 1 9) <| fun x1 =>
  if (bI x1) = 0 then
    some (false, μ)
  else
    mst μ 0 4 a1 <| fun μ3 =>
    some (true, μ3)
def md_round (μ : Mm) (a1 : Int32) (a2 : Int32) (a3 : Int32) : Option (Int32 × Mm) :=
  mbv (md_isVan a1) <| fun x1 =>
  if (bI x1) = 0 then
    some ((-1), μ)
  else
    mbv (md_isDay a2) <| fun x3 =>
    if (bI x3) = 0 then
      some ((-1), μ)
    else
      mbv (md_in a3 (-1) 8) <| fun x5 =>
      if (bI x5) = 0 then
        some ((-1), μ)
      else
        mbv (md_laysVisits μ a1 a2) <| fun μ8 =>
        if (μ8 0 77) ≤ 8 then
          mbm (md_miles μ8) <| fun x10 μ11 =>
          if a3 = (-1) then
            some (x10, μ11)
          else
            if a3 = 8 then
              mbv (md_halts μ11) <| fun x16 =>
              some (((x10 * (μ11 0 4)) + x16), μ11)
            else
              if a3 < (μ11 0 77) then
                mbv (md_stopAt μ11 a3) <| fun x15 =>
                some (x15, μ11)
              else
                some ((-1), μ11)
        else
          some ((-2), μ8)
def md_readersOf_b4 (μ : Mm) (a1 : Int32) (xs2 : Int32) (xs3 : Int32) : Option ((Int32 × Int32) ⊕ (Int32)) :=
  if (μ 0 3) ≤ xs3 then
    some (.inr xs2)
  else
    mrd μ 15 16 xs3 <| fun x2 =>
    if x2 = a1 then
      some (.inl ((xs2 + 1), (xs3 + 1)))
    else
      some (.inl ((xs2 + 0), (xs3 + 1)))
def md_readersOf_l4 (μ : Mm) (a1 : Int32) (xs2 : Int32) (xs3 : Int32) : Option ((Int32)) :=
  miter (fun q => md_readersOf_b4 μ a1 q.1 q.2) FU (xs2, xs3)
def md_readersOf (μ : Mm) (a1 : Int32) : Option Int32 :=
  mbv (md_readersOf_l4 μ a1 0 0) <| fun x4 =>
  some x4
def md_went (μ : Mm) (a1 : Int32) (a2 : Int32) : Option (Int32 × Mm) :=
  mbv (md_isStop μ a1) <| fun x1 =>
  if (bI x1) = 0 then
    some ((-1), μ)
  else
    mbv (md_in a2 0 2) <| fun x3 =>
    if (bI x3) = 0 then
      some ((-1), μ)
    else
      if a2 = 1 then
        mbv (md_readersOf μ a1) <| fun x23 =>
        some (x23, μ)
      else
        if a2 = 2 then
          mrd μ 26 10 a1 <| fun x22 =>
          some (x22, μ)
        else
          mrd μ 13 10 a1 <| fun x7 =>
          if x7 = (-1) then
            some (0, μ)
          else
            mrd μ 13 10 a1 <| fun x9 =>
            mrd μ 14 10 a1 <| fun x10 =>
            mbv (md_laysTold μ x9 x10 (-1)) <| fun μ12 =>
            if (μ12 0 77) ≤ 8 then
              mbm (md_miles μ12) <| fun x14 μ15 =>
              mrd μ15 13 10 a1 <| fun x16 =>
              mrd μ15 14 10 a1 <| fun x17 =>
              mbv (md_laysTold μ15 x16 x17 a1) <| fun μ19 =>
              mbm (md_miles μ19) <| fun x20 μ21 =>
              some ((x14 - x20), μ21)
            else
              some ((-2), μ12)
def md_growsBy_b67 (μ : Mm) (a3 : Int32) (a4 : Int32) (a5 : Int32) (xs6 : Int32) : Option ((Int32 × Mm) ⊕ (Int32 × Mm)) :=
  if xs6 ≤ 0 then
    some (.inr (xs6, μ))
  else
    mrd μ 56 10 (xs6 - 1) <| fun x12 =>
    if x12 ≤ a3 then
      some (.inr (xs6, μ))
    else
      mrd μ 56 10 (xs6 - 1) <| fun x14 =>
      mwr μ 56 10 xs6 x14 <| fun μ15 =>
      some (.inl ((xs6 - 1), μ15))
def md_growsBy_l67 (μ : Mm) (a3 : Int32) (a4 : Int32) (a5 : Int32) (xs6 : Int32) : Option ((Int32 × Mm)) :=
  miter (fun q => md_growsBy_b67 q.2 a3 a4 a5 q.1) FU (xs6, μ)
def md_growsBy_j110 (μ : Mm) (a3 : Int32) (a4 : Int32) (a5 : Int32) (a6 : Int32) : Option (Int32 × Mm) :=
  mwr μ 56 10 a6 a3 <| fun μ18 =>
  mst μ18 0 77 ((μ18 0 77) + 1) <| fun μ19 =>
  mbm (md_miles μ19) <| fun x20 μ21 =>
  mbv (md_halts μ21) <| fun x22 =>
  if ((x20 * (μ21 0 4)) + x22) ≤ a4 then
    some ((x20 - a5), μ21)
  else
    some ((-1), μ21)
def md_growsBy (μ : Mm) (a1 : Int32) (a2 : Int32) (a3 : Int32) (a4 : Int32) : Option (Int32 × Mm) :=
  mbv (md_laysVisits μ a1 a2) <| fun μ2 =>
  mrd μ2 22 600 ((200 * a1) + a2) <| fun x3 =>
  if x3 = 0 then
    if (μ2 0 77) ≤ 8 then
      mbv (md_isVisited μ2 a1 a3 a2) <| fun x6 =>
      if (bI x6) = 0 then
        if (μ2 0 77) = 8 then
          some ((-1), μ2)
        else
          mbm (md_miles μ2) <| fun x9 μ10 =>
          mbv (md_growsBy_l67 μ10 a3 a4 x9 (μ10 0 77)) <| un2 fun x16 μ17 =>
          md_growsBy_j110 μ17 a3 a4 x9 x16
      else
        some (0, μ2)
    else
      some ((-1), μ2)
  else
    some ((-1), μ2)
def md_putsStop_b34 (μ : Mm) (a1 : Int32) (a2 : Int32) (a3 : Int32) (a4 : Int32) (a6 : Int32) (xs5 : Int32) (xs7 : Int32) : Option ((Int32 × Int32 × Mm) ⊕ (Int32 × Mm)) :=
  if 3 ≤ xs7 then
    some (.inr (xs5, μ))
  else
    mbm (md_growsBy μ xs7 a6 a1 a4) <| fun x5 μ6 =>
    if x5 = (-1) then
      some (.inl (xs5, (xs7 + 1), μ6))
    else
      if xs5 = (-1) then
        mwr μ6 24 10 a1 a6 <| fun μ9 =>
        mwr μ9 25 10 a1 xs7 <| fun μ10 =>
        some (.inl (x5, (xs7 + 1), μ10))
      else
        if x5 < xs5 then
          mwr μ6 24 10 a1 a6 <| fun μ12 =>
          mwr μ12 25 10 a1 xs7 <| fun μ13 =>
          some (.inl (x5, (xs7 + 1), μ13))
        else
          some (.inl (xs5, (xs7 + 1), μ6))
def md_putsStop_l34 (μ : Mm) (a1 : Int32) (a2 : Int32) (a3 : Int32) (a4 : Int32) (a6 : Int32) (xs5 : Int32) (xs7 : Int32) : Option ((Int32 × Mm)) :=
  miter (fun q => md_putsStop_b34 q.2.2 a1 a2 a3 a4 a6 q.1 q.2.1) FU (xs5, xs7, μ)
def md_putsStop_b15 (μ : Mm) (a1 : Int32) (a2 : Int32) (a3 : Int32) (a4 : Int32) (xs5 : Int32) (xs6 : Int32) : Option ((Int32 × Int32 × Mm) ⊕ (Int32 × Mm)) :=
  if (a2 + a3) < xs6 then
    some (.inr (xs5, μ))
  else
    if 199 < xs6 then
      some (.inr (xs5, μ))
    else
      mbv (md_putsStop_l34 μ a1 a2 a3 a4 xs6 xs5 0) <| un2 fun x14 μ15 =>
      some (.inl (x14, (xs6 + 1), μ15))
def md_putsStop_l15 (μ : Mm) (a1 : Int32) (a2 : Int32) (a3 : Int32) (a4 : Int32) (xs5 : Int32) (xs6 : Int32) : Option ((Int32 × Mm)) :=
  miter (fun q => md_putsStop_b15 q.2.2 a1 a2 a3 a4 q.1 q.2.1) FU (xs5, xs6, μ)
def md_putsStop_j107 (μ : Mm) (a1 : Int32) (a5 : Int32) : Option (Bool × Mm) :=
  if a5 = (-1) then
    some (false, μ)
  else
    mrd μ 25 10 a1 <| fun x20 =>
    mrd μ 24 10 a1 <| fun x21 =>
    mbv (md_putAt x20 x21 a1) <| fun x22 =>
    mwr μ 23 6000 x22 (vp_nar .boolean 1) <| fun μ23 =>
    some (true, μ23)
def md_putsStop (μ : Mm) (a1 : Int32) (a2 : Int32) (a3 : Int32) (a4 : Int32) : Option (Bool × Mm) :=
  mwr μ 24 10 a1 (-1) <| fun μ1 =>
  mbv (md_putsStop_l15 μ1 a1 a2 a3 a4 (-1) (a2 + 1)) <| un2 fun x17 μ18 =>
  md_putsStop_j107 μ18 a1 x17
def md_lostDay_b66 (μ : Mm) (a1 : Int32) (a2 : Int32) (a3 : Int32) (a4 : Int32) (xs5 : Int32) (xs6 : Int32) : Option ((Int32 × Int32) ⊕ (Int32)) :=
  if (μ 0 2) ≤ xs6 then
    some (.inr xs5)
  else
    mbv (md_isVisited μ a1 xs6 a2) <| fun x12 =>
    if (bI x12) = 0 then
      some (.inl (xs5, (xs6 + 1)))
    else
      some (.inl ((xs5 ||| ((1 : Int32) <<< (xs6 &&& 31))), (xs6 + 1)))
def md_lostDay_l66 (μ : Mm) (a1 : Int32) (a2 : Int32) (a3 : Int32) (a4 : Int32) (xs5 : Int32) (xs6 : Int32) : Option ((Int32)) :=
  miter (fun q => md_lostDay_b66 μ a1 a2 a3 a4 q.1 q.2) FU (xs5, xs6)
def md_lostDay_b135 (μ : Mm) (a2 : Int32) (a3 : Int32) (a4 : Int32) (a5 : Int32) (xs6 : Int32) (xs7 : Int32) : Option ((Int32 × Int32 × Mm) ⊕ (Int32 × Mm)) :=
  if (μ 0 2) ≤ xs7 then
    some (.inr (xs6, μ))
  else
    if ((a5 >>> (xs7 &&& 31)) &&& 1) = 1 then
      mbm (md_putsStop μ xs7 a2 a3 a4) <| fun x19 μ20 =>
      if (bI x19) = 0 then
        some (.inl (xs6, (xs7 + 1), μ20))
      else
        some (.inl ((xs6 + 1), (xs7 + 1), μ20))
    else
      some (.inl (xs6, (xs7 + 1), μ))
def md_lostDay_l135 (μ : Mm) (a2 : Int32) (a3 : Int32) (a4 : Int32) (a5 : Int32) (xs6 : Int32) (xs7 : Int32) : Option ((Int32 × Mm)) :=
  miter (fun q => md_lostDay_b135 q.2.2 a2 a3 a4 a5 q.1 q.2.1) FU (xs6, xs7, μ)
def md_lostDay (μ : Mm) (a1 : Int32) (a2 : Int32) (a3 : Int32) (a4 : Int32) : Option (Int32 × Mm) :=
  mbv (md_isVan a1) <| fun x1 =>
  if (bI x1) = 0 then
    some ((-1), μ)
  else
    mbv (md_in a2 (μ 0 0) 199) <| fun x3 =>
    if (bI x3) = 0 then
      some ((-1), μ)
    else
      mbv (md_in a3 1 28) <| fun x5 =>
      if (bI x5) = 0 then
        some ((-1), μ)
      else
        mbv (md_in a4 1 1000) <| fun x7 =>
        if (bI x7) = 0 then
          some ((-1), μ)
        else
          mrd μ 22 600 ((200 * a1) + a2) <| fun x9 =>
          if x9 = 0 then
            mbv (md_lostDay_l66 μ a1 a2 a3 a4 0 0) <| fun x14 =>
            mwr μ 22 600 ((200 * a1) + a2) (vp_nar .boolean 1) <| fun μ15 =>
            mst μ15 0 36 ((μ15 0 36) + 1) <| fun μ16 =>
            mbv (md_lostDay_l135 μ16 a2 a3 a4 x14 0 0) <| un2 fun x22 μ23 =>
            some (x22, μ23)
          else
            some ((-1), μ)
def md_put (μ : Mm) (a1 : Int32) (a2 : Int32) : Option Int32 :=
  mbv (md_isStop μ a1) <| fun x1 =>
  if (bI x1) = 0 then
    some (-1)
  else
    mbv (md_in a2 0 1) <| fun x3 =>
    if (bI x3) = 0 then
      some (-1)
    else
      mrd μ 24 10 a1 <| fun x5 =>
      if x5 = (-1) then
        some (-1)
      else
        if a2 = 0 then
          mrd μ 24 10 a1 <| fun x9 =>
          some x9
        else
          mrd μ 25 10 a1 <| fun x8 =>
          some x8
def md_knownIn (μ : Mm) (a1 : Int32) : Option (Bool × Mm) :=
  mbv (md_in a1 0 20) <| fun x1 =>
  if (bI x1) = 0 then
    some (false, μ)
  else
    mst μ 0 5 a1 <| fun μ3 =>
    some (true, μ3)
def md_where_b39 (μ : Mm) (a1 : Int32) (a2 : Int32) (a3 : Int32) (xs4 : Int32) (xs5 : Int32) : Option ((Int32 × Int32) ⊕ (Int32)) :=
  if (μ 0 61) ≤ xs5 then
    some (.inr xs4)
  else
    mrd μ 44 200 xs5 <| fun x8 =>
    if x8 = a1 then
      mrd μ 45 200 xs5 <| fun x10 =>
      if a2 < x10 then
        some (.inl (xs4, (xs5 + 1)))
      else
        mrd μ 46 200 xs5 <| fun x12 =>
        if a3 < x12 then
          some (.inl (xs4, (xs5 + 1)))
        else
          mrd μ 47 200 xs5 <| fun x14 =>
          some (.inl (x14, (xs5 + 1)))
    else
      some (.inl (xs4, (xs5 + 1)))
def md_where_l39 (μ : Mm) (a1 : Int32) (a2 : Int32) (a3 : Int32) (xs4 : Int32) (xs5 : Int32) : Option ((Int32)) :=
  miter (fun q => md_where_b39 μ a1 a2 a3 q.1 q.2) FU (xs4, xs5)
def md_where (μ : Mm) (a1 : Int32) (a2 : Int32) (a3 : Int32) : Option Int32 :=
  mbv (md_isBook μ a1) <| fun x1 =>
  if (bI x1) = 0 then
    some (-1)
  else
    mbv (md_in a2 0 (μ 0 0)) <| fun x3 =>
    if (bI x3) = 0 then
      some (-1)
    else
      mbv (md_in a3 a2 199) <| fun x5 =>
      if (bI x5) = 0 then
        some (-1)
      else
        mbv (md_where_l39 μ a1 a2 a3 0 0) <| fun x15 =>
        some x15
def md_borrowersOf_b4 (μ : Mm) (a1 : Int32) (xs2 : Int32) (xs3 : Int32) : Option ((Int32 × Int32) ⊕ (Int32)) :=
  if (μ 0 3) ≤ xs3 then
    some (.inr xs2)
  else
    mrd μ 15 16 xs3 <| fun x2 =>
    if x2 = a1 then
      mrd μ 19 16 xs3 <| fun x4 =>
      if x4 ≤ 0 then
        some (.inl ((xs2 + 0), (xs3 + 1)))
      else
        some (.inl ((xs2 + 1), (xs3 + 1)))
    else
      some (.inl ((xs2 + 0), (xs3 + 1)))
def md_borrowersOf_l4 (μ : Mm) (a1 : Int32) (xs2 : Int32) (xs3 : Int32) : Option ((Int32)) :=
  miter (fun q => md_borrowersOf_b4 μ a1 q.1 q.2) FU (xs2, xs3)
def md_borrowersOf (μ : Mm) (a1 : Int32) : Option Int32 :=
  mbv (md_borrowersOf_l4 μ a1 0 0) <| fun x6 =>
  some x6
def md_counts (μ : Mm) (a1 : Int32) (a2 : Int32) : Option Int32 :=
  if a1 = 0 then
    mbv (md_isStop μ a2) <| fun x2 =>
    if (bI x2) = 0 then
      some (-1)
    else
      mrd μ 26 10 a2 <| fun x4 =>
      some x4
  else
  if a1 = 1 then
    mbv (md_in a2 0 7) <| fun x6 =>
    if (bI x6) = 0 then
      some (-1)
    else
      mrd μ 27 8 a2 <| fun x8 =>
      some x8
  else
  if a1 = 2 then
    mbv (md_isVan a2) <| fun x10 =>
    if (bI x10) = 0 then
      some (-1)
    else
      mrd μ 28 3 a2 <| fun x12 =>
      some x12
  else
  if a1 = 3 then
    mbv (md_isStop μ a2) <| fun x14 =>
    if (bI x14) = 0 then
      some (-1)
    else
      mbv (md_borrowersOf μ a2) <| fun x16 =>
      some x16
  else
  if a1 = 4 then
    mbv (md_isStop μ a2) <| fun x18 =>
    if (bI x18) = 0 then
      some (-1)
    else
      mrd μ 29 10 a2 <| fun x20 =>
      some x20
  else
  if a1 = 5 then
    if a2 = 0 then
      some (μ 0 35)
    else
      some (-1)
  else
  some (-1)
def md_council (μ : Mm) (a1 : Int32) (a2 : Int32) : Option Int32 :=
  mbv (md_isStop μ a1) <| fun x1 =>
  if (bI x1) = 0 then
    some (-1)
  else
    mbv (md_in a2 1 16) <| fun x3 =>
    if (bI x3) = 0 then
      some (-1)
    else
      mbv (md_readersOf μ a1) <| fun x5 =>
      if a2 ≤ x5 then
        some x5
      else
        some 0
def md_tapeNumber_b6 (μ : Mm) (a1 : Int32) (xs2 : Int32) (xs3 : Int32) : Option ((Int32 × Int32) ⊕ (Int32)) :=
  if ((4 * a1) + 4) ≤ xs3 then
    some (.inr xs2)
  else
    mrd μ 30 400 xs3 <| fun x2 =>
    some (.inl (((xs2 <<< (8 &&& 31)) ||| (x2 &&& 255)), (xs3 + 1)))
def md_tapeNumber_l6 (μ : Mm) (a1 : Int32) (xs2 : Int32) (xs3 : Int32) : Option ((Int32)) :=
  miter (fun q => md_tapeNumber_b6 μ a1 q.1 q.2) FU (xs2, xs3)
def md_tapeNumber (μ : Mm) (a1 : Int32) : Option Int32 :=
  mbv (md_tapeNumber_l6 μ a1 0 (4 * a1)) <| fun x3 =>
  some x3
def md_check_b25 (μ : Mm) (a1 : Int32) (xs2 : Int32) : Option ((Int32) ⊕ ((Int32) ⊕ (Int32) ⊕ (Int32) ⊕ (Unit))) :=
  if (μ 0 1) ≤ xs2 then
    some (.inr (.inr (.inr (.inr ()))))
  else
    if xs2 = a1 then
      some (.inr (.inl xs2))
    else
      mbv (md_tapeNumber μ (3 * xs2)) <| fun x6 =>
      if x6 = xs2 then
        mbv (md_tapeNumber μ ((3 * xs2) + 1)) <| fun x8 =>
        mrd μ 5 32 xs2 <| fun x9 =>
        if x8 = x9 then
          mbv (md_tapeNumber μ ((3 * xs2) + 2)) <| fun x11 =>
          mrd μ 6 32 xs2 <| fun x12 =>
          if x11 = x12 then
            some (.inl (xs2 + 1))
          else
            some (.inr (.inr (.inr (.inl xs2))))
        else
          some (.inr (.inr (.inl xs2)))
      else
        some (.inr (.inl xs2))
def md_check_l25 (μ : Mm) (a1 : Int32) (xs2 : Int32) : Option ((Int32) ⊕ (Int32) ⊕ (Int32) ⊕ (Unit)) :=
  miter (fun q => md_check_b25 μ a1 q) FU xs2
def md_check (μ : Mm) (a1 : Int32) : Option (Int32 × Mm) :=
  if a1 < 0 then
    some ((-2), μ)
  else
    if a1 ≤ ((μ 0 38) / 12) then
      mst μ 0 38 0 <| fun μ3 =>
      msum4 (md_check_l25 μ3 a1 0)
        (fun x15 =>
          some ((3 * x15), μ3))
        (fun x16 =>
          some (((3 * x16) + 1), μ3))
        (fun x17 =>
          some (((3 * x17) + 2), μ3))
        (fun _ =>
          if a1 ≤ (μ3 0 1) then
            some ((-1), μ3)
          else
            some ((3 * (μ3 0 1)), μ3))
    else
      some ((-2), μ)
def md_allAsks_b4 (μ : Mm) (xs1 : Int32) (xs2 : Int32) : Option ((Int32 × Int32) ⊕ (Int32)) :=
  if (μ 0 3) ≤ xs2 then
    some (.inr xs1)
  else
    mbv (md_asksOf μ xs2) <| fun x2 =>
    some (.inl ((xs1 + x2), (xs2 + 1)))
def md_allAsks_l4 (μ : Mm) (xs1 : Int32) (xs2 : Int32) : Option ((Int32)) :=
  miter (fun q => md_allAsks_b4 μ q.1 q.2) FU (xs1, xs2)
def md_allAsks (μ : Mm) : Option Int32 :=
  mbv (md_allAsks_l4 μ 0 0) <| fun x3 =>
  some x3
def md_count (μ : Mm) (a1 : Int32) : Option Int32 :=
  if a1 = 0 then
    some (μ 0 0)
  else
  if a1 = 1 then
    some (μ 0 1)
  else
  if a1 = 2 then
    some (μ 0 2)
  else
  if a1 = 3 then
    some (μ 0 3)
  else
  if a1 = 4 then
    some (μ 0 58)
  else
  if a1 = 5 then
    some (μ 0 38)
  else
  if a1 = 6 then
    some (μ 0 61)
  else
  if a1 = 7 then
    mbv (md_allAsks μ) <| fun x9 =>
    some x9
  else
  if a1 = 8 then
    some (μ 0 36)
  else
  mbv (md_in a1 10 12) <| fun x11 =>
  if (bI x11) = 0 then
    mbv (md_in a1 20 (19 + (μ 0 2))) <| fun x13 =>
    if (bI x13) = 0 then
      some (-1)
    else
      mbv (md_readersOf μ (a1 - 20)) <| fun x15 =>
      some x15
  else
    mbv (md_lengthOn μ (a1 - 10)) <| fun x16 =>
    some x16
