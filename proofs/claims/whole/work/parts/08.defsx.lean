def RF : Nat := 40
def vs_within (a0 : Int32) (a1 : Int32) (a2 : Int32) : Option Bool :=
  if a0 < a1 then
    some false
  else
    if a2 < a0 then
      some false
    else
      some true
def vs_now (μ : Mm) (a1 : Int32) : Option (Bool × Mm) :=
  mbv (vs_within a1 (μ 0 12) 199) <| fun x1 =>
  if (bI x1) = 0 then
    some (false, μ)
  else
    mst μ 0 12 a1 <| fun μ3 =>
    some (true, μ3)
def vs_Books_add (μ : Mm) (a1 : Int32) (a2 : Int32) (a3 : Int32) (a4 : Int32) : Option (Int32 × Mm) :=
  if (μ 2 10) < 32 then
    mwr μ 15 32 (μ 2 10) a1 <| fun μ2 =>
    mwr μ2 16 32 (μ2 2 10) a2 <| fun μ3 =>
    mwr μ3 17 32 (μ3 2 10) a3 <| fun μ4 =>
    mwr μ4 18 32 (μ4 2 10) a4 <| fun μ5 =>
    mwr μ5 19 32 (μ5 2 10) 0 <| fun μ6 =>
    mwr μ6 20 32 (μ6 2 10) (-1) <| fun μ7 =>
    mrd μ7 24 8 a1 <| fun x8 =>
    mwr μ7 24 8 a1 (x8 ||| ((1 : Int32) <<< ((μ7 2 10) &&& 31))) <| fun μ9 =>
    mst μ9 2 10 ((μ9 2 10) + 1) <| fun μ10 =>
    some (((μ10 2 10) - 1), μ10)
  else
    some ((-1), μ)
def vs_book (μ : Mm) (a1 : Int32) (a2 : Int32) (a3 : Int32) (a4 : Int32) : Option (Int32 × Mm) :=
  mbv (vs_within a1 0 7) <| fun x1 =>
  if (bI x1) = 0 then
    some ((-1), μ)
  else
    mbv (vs_within a2 1 9) <| fun x3 =>
    if (bI x3) = 0 then
      some ((-1), μ)
    else
      mbv (vs_within a3 0 2) <| fun x5 =>
      if (bI x5) = 0 then
        some ((-1), μ)
      else
        mbv (vs_within a4 0 1000) <| fun x7 =>
        if (bI x7) = 0 then
          some ((-1), μ)
        else
          mbm (vs_Books_add μ a1 a2 a3 a4) <| fun x9 μ10 =>
          some (x9, μ10)
def vs_isVan (a0 : Int32) : Option Bool :=
  mbv (vs_within a0 0 2) <| fun x1 =>
  some x1
def vs_Books_vanOf (μ : Mm) (a1 : Int32) : Option Int32 :=
  mrd μ 19 32 a1 <| fun x1 =>
  mbv (vs_within x1 1 3) <| fun x2 =>
  if (bI x2) = 0 then
    some (-1)
  else
    mrd μ 19 32 a1 <| fun x4 =>
    some (x4 - 1)
def vs_Books_lengthOn_b4 (μ : Mm) (a1 : Int32) (xs2 : Int32) (xs3 : Int32) : Option ((Int32 × Int32) ⊕ (Int32)) :=
  if (μ 2 10) ≤ xs3 then
    some (.inr xs2)
  else
    mbv (vs_Books_vanOf μ xs3) <| fun x2 =>
    if x2 = a1 then
      mrd μ 16 32 xs3 <| fun x4 =>
      some (.inl ((xs2 + x4), (xs3 + 1)))
    else
      some (.inl (xs2, (xs3 + 1)))
def vs_Books_lengthOn_l4 (μ : Mm) (a1 : Int32) (xs2 : Int32) (xs3 : Int32) : Option ((Int32)) :=
  miter (fun q => vs_Books_lengthOn_b4 μ a1 q.1 q.2) FU (xs2, xs3)
def vs_Books_lengthOn (μ : Mm) (a1 : Int32) : Option Int32 :=
  mbv (vs_Books_lengthOn_l4 μ a1 0 0) <| fun x5 =>
  some x5
def vs_shelf (μ : Mm) (a1 : Int32) (a2 : Int32) : Option (Bool × Mm) :=
  mbv (vs_isVan a1) <| fun x1 =>
  if (bI x1) = 0 then
    some (false, μ)
  else
    mbv (vs_within a2 0 99) <| fun x3 =>
    if (bI x3) = 0 then
      some (false, μ)
    else
      mbv (vs_Books_lengthOn μ a1) <| fun x5 =>
      if x5 ≤ a2 then
        mwr μ 12 3 a1 a2 <| fun μ7 =>
        some (true, μ7)
      else
        some (false, μ)
def vs_Stops_add (μ : Mm) (a1 : Int32) (a2 : Int32) (a3 : Int32) : Option (Int32 × Mm) :=
  if (μ 4 12) < 10 then
    mwr μ 32 10 (μ 4 12) a1 <| fun μ2 =>
    mwr μ2 33 10 (μ2 4 12) a2 <| fun μ3 =>
    mwr μ3 34 10 (μ3 4 12) a3 <| fun μ4 =>
    mwr μ4 35 10 (μ4 4 12) (-1) <| fun μ5 =>
    mwr μ5 37 10 (μ5 4 12) (-1) <| fun μ6 =>
    mwr μ6 38 10 (μ6 4 12) (-1) <| fun μ7 =>
    mst μ7 4 12 ((μ7 4 12) + 1) <| fun μ8 =>
    some (((μ8 4 12) - 1), μ8)
  else
    some ((-1), μ)
def vs_stop (μ : Mm) (a1 : Int32) (a2 : Int32) (a3 : Int32) : Option (Int32 × Mm) :=
  mbv (vs_within a1 0 99) <| fun x1 =>
  if (bI x1) = 0 then
    some ((-1), μ)
  else
    mbv (vs_within a2 0 99) <| fun x3 =>
    if (bI x3) = 0 then
      some ((-1), μ)
    else
      mbv (vs_within a3 1 200) <| fun x5 =>
      if (bI x5) = 0 then
        some ((-1), μ)
      else
        mbm (vs_Stops_add μ a1 a2 a3) <| fun x7 μ8 =>
        some (x7, μ8)
def vs_Stops_has (μ : Mm) (a1 : Int32) : Option Bool :=
  mbv (vs_within a1 0 ((μ 4 12) - 1)) <| fun x1 =>
  some x1
def vs_Stops_tell_j39 (μ : Mm) (a1 : Int32) (a2 : Int32) (a3 : Int32) : Option Mm :=
  if a2 = (-1) then
    mwr μ 35 10 a1 a2 <| fun μ4 =>
    mwr μ4 36 10 a1 a3 <| fun μ5 =>
    some μ5
  else
    mrd μ 41 42 ((a2 * 14) + a3) <| fun x6 =>
    mwr μ 41 42 ((a2 * 14) + a3) (x6 ||| ((1 : Int32) <<< (a1 &&& 31))) <| fun μ7 =>
    mwr μ7 35 10 a1 a2 <| fun μ8 =>
    mwr μ8 36 10 a1 a3 <| fun μ9 =>
    some μ9
def vs_Stops_tell (μ : Mm) (a1 : Int32) (a2 : Int32) (a3 : Int32) : Option Mm :=
  mrd μ 35 10 a1 <| fun x1 =>
  if x1 = (-1) then
    vs_Stops_tell_j39 μ a1 a2 a3
  else
    mrd μ 35 10 a1 <| fun x10 =>
    mrd μ 36 10 a1 <| fun x11 =>
    mrd μ 41 42 ((x10 * 14) + x11) <| fun x12 =>
    mwr μ 41 42 ((x10 * 14) + x11) (x12 &&& (((1 : Int32) <<< (a1 &&& 31)) ^^^ (-1))) <| fun μ13 =>
    vs_Stops_tell_j39 μ13 a1 a2 a3
def vs_visit_j23 (μ : Mm) (a1 : Int32) (a2 : Int32) (a3 : Int32) : Option (Bool × Mm) :=
  mbv (vs_within a3 0 13) <| fun x4 =>
  if (bI x4) = 0 then
    some (false, μ)
  else
    mbv (vs_Stops_tell μ a1 a2 a3) <| fun μ7 =>
    some (true, μ7)
def vs_visit (μ : Mm) (a1 : Int32) (a2 : Int32) (a3 : Int32) : Option (Bool × Mm) :=
  mbv (vs_Stops_has μ a1) <| fun x1 =>
  if (bI x1) = 0 then
    some (false, μ)
  else
    if a2 = (-1) then
      vs_visit_j23 μ a1 a2 a3
    else
      mbv (vs_isVan a2) <| fun x8 =>
      if (bI x8) = 0 then
        some (false, μ)
      else
        vs_visit_j23 μ a1 a2 a3
def vs_Readers_add (μ : Mm) (a1 : Int32) (a2 : Int32) : Option (Int32 × Mm) :=
  if (μ 3 7) < 16 then
    mwr μ 25 16 (μ 3 7) a1 <| fun μ2 =>
    mwr μ2 26 16 (μ2 3 7) a2 <| fun μ3 =>
    mst μ3 3 7 ((μ3 3 7) + 1) <| fun μ4 =>
    some (((μ4 3 7) - 1), μ4)
  else
    some ((-1), μ)
def vs_reader (μ : Mm) (a1 : Int32) (a2 : Int32) : Option (Int32 × Mm) :=
  mbv (vs_Stops_has μ a1) <| fun x1 =>
  if (bI x1) = 0 then
    some ((-1), μ)
  else
    mbv (vs_within a2 0 2) <| fun x3 =>
    if (bI x3) = 0 then
      some ((-1), μ)
    else
      mbm (vs_Readers_add μ a1 a2) <| fun x5 μ6 =>
      if x5 = (-1) then
        some (x5, μ6)
      else
        mrd μ6 39 10 a1 <| fun x8 =>
        mwr μ6 39 10 a1 (x8 ||| ((1 : Int32) <<< (x5 &&& 31))) <| fun μ9 =>
        some (x5, μ9)
def vs_Readers_has (μ : Mm) (a1 : Int32) : Option Bool :=
  mbv (vs_within a1 0 ((μ 3 7) - 1)) <| fun x1 =>
  some x1
def vs_taste (μ : Mm) (a1 : Int32) (a2 : Int32) (a3 : Int32) : Option (Bool × Mm) :=
  mbv (vs_Readers_has μ a1) <| fun x1 =>
  if (bI x1) = 0 then
    some (false, μ)
  else
    mbv (vs_within a2 0 7) <| fun x3 =>
    if (bI x3) = 0 then
      some (false, μ)
    else
      mbv (vs_within a3 0 9) <| fun x5 =>
      if (bI x5) = 0 then
        some (false, μ)
      else
        mwr μ 27 128 ((a1 * 8) + a2) a3 <| fun μ7 =>
        some (true, μ7)
def vs_Books_has (μ : Mm) (a1 : Int32) : Option Bool :=
  mbv (vs_within a1 0 ((μ 2 10) - 1)) <| fun x1 =>
  some x1
def vs_isPair (μ : Mm) (a1 : Int32) (a2 : Int32) : Option Bool :=
  mbv (vs_Readers_has μ a1) <| fun x1 =>
  if (bI x1) = 0 then
    some false
  else
    mbv (vs_Books_has μ a2) <| fun x3 =>
    if (bI x3) = 0 then
      some false
    else
      some true
def vs_hasBit (a0 : Int32) (a1 : Int32) : Option Bool :=
  if ((ush a0 a1) &&& 1) = 0 then
    some false
  else
    some true
def vs_Books_wasHad (μ : Mm) (a1 : Int32) (a2 : Int32) : Option Bool :=
  mrd μ 23 32 a1 <| fun x1 =>
  mbv (vs_hasBit x1 a2) <| fun x2 =>
  some x2
def vs_remember (μ : Mm) (a1 : Int32) (a2 : Int32) : Option Mm :=
  mrd μ 23 32 a2 <| fun x1 =>
  mwr μ 23 32 a2 (x1 ||| ((1 : Int32) <<< (a1 &&& 31))) <| fun μ2 =>
  mrd μ2 28 16 a1 <| fun x3 =>
  mwr μ2 28 16 a1 (x3 ||| ((1 : Int32) <<< (a2 &&& 31))) <| fun μ4 =>
  some μ4
def vs_had (μ : Mm) (a1 : Int32) (a2 : Int32) : Option (Bool × Mm) :=
  mbv (vs_isPair μ a1 a2) <| fun x1 =>
  if (bI x1) = 0 then
    some (false, μ)
  else
    mbv (vs_Books_wasHad μ a2 a1) <| fun x3 =>
    if (bI x3) = 0 then
      mbv (vs_remember μ a1 a2) <| fun μ6 =>
      some (true, μ6)
    else
      some (false, μ)
def vs_Tape_append_b3 (μ : Mm) (a1 : Int32) (xs2 : Int32) : Option ((Int32 × Mm) ⊕ (Mm)) :=
  if xs2 < 0 then
    some (.inr μ)
  else
    if 400 ≤ (μ 1 1) then
      some (.inr μ)
    else
      mwr μ 14 400 (μ 1 1) ((ush a1 xs2) &&& 255) <| fun μ3 =>
      mst μ3 1 1 ((μ3 1 1) + 1) <| fun μ4 =>
      some (.inl ((xs2 + (-8)), μ4))
def vs_Tape_append_l3 (μ : Mm) (a1 : Int32) (xs2 : Int32) : Option ((Mm)) :=
  miter (fun q => vs_Tape_append_b3 q.2 a1 q.1) FU (xs2, μ)
def vs_Tape_append (μ : Mm) (a1 : Int32) : Option Mm :=
  mbv (vs_Tape_append_l3 μ a1 24) <| fun μ5 =>
  some μ5
def vs_feed (μ : Mm) (a1 : Int32) (a2 : Int32) (a3 : Int32) (a4 : Int32) (a5 : Int32) : Option (Int32 × Mm) :=
  if (μ 1 1) ≤ 380 then
    mbv (vs_Tape_append μ a1) <| fun μ3 =>
    mbv (vs_Tape_append μ3 a2) <| fun μ5 =>
    mbv (vs_Tape_append μ5 a3) <| fun μ7 =>
    mbv (vs_Tape_append μ7 a4) <| fun μ9 =>
    mbv (vs_Tape_append μ9 a5) <| fun μ11 =>
    some ((μ11 1 1), μ11)
  else
    some ((-1), μ)
def vs_Integer_bitCount_0f7a4 (a0 : Int32) : Option Int32 :=
  some ((((((((a0 - ((ush a0 1) &&& 1431655765)) &&& 858993459) + ((ush (a0 - ((ush a0 1) &&& 1431655765)) 2) &&& 858993459)) + (ush (((a0 - ((ush a0 1) &&& 1431655765)) &&& 858993459) + ((ush (a0 - ((ush a0 1) &&& 1431655765)) 2) &&& 858993459)) 4)) &&& 252645135) + (ush (((((a0 - ((ush a0 1) &&& 1431655765)) &&& 858993459) + ((ush (a0 - ((ush a0 1) &&& 1431655765)) 2) &&& 858993459)) + (ush (((a0 - ((ush a0 1) &&& 1431655765)) &&& 858993459) + ((ush (a0 - ((ush a0 1) &&& 1431655765)) 2) &&& 858993459)) 4)) &&& 252645135) 8)) + (ush ((((((a0 - ((ush a0 1) &&& 1431655765)) &&& 858993459) + ((ush (a0 - ((ush a0 1) &&& 1431655765)) 2) &&& 858993459)) + (ush (((a0 - ((ush a0 1) &&& 1431655765)) &&& 858993459) + ((ush (a0 - ((ush a0 1) &&& 1431655765)) 2) &&& 858993459)) 4)) &&& 252645135) + (ush (((((a0 - ((ush a0 1) &&& 1431655765)) &&& 858993459) + ((ush (a0 - ((ush a0 1) &&& 1431655765)) 2) &&& 858993459)) + (ush (((a0 - ((ush a0 1) &&& 1431655765)) &&& 858993459) + ((ush (a0 - ((ush a0 1) &&& 1431655765)) 2) &&& 858993459)) 4)) &&& 252645135) 8)) 16)) &&& 63)
def vs_Wishes_look (μ : Mm) (a1 : Int32) (a2 : Int32) (a3 : Int32) (a4 : Int32) : Option Mm :=
  mrd μ 15 32 a2 <| fun x1 =>
  mrd μ 25 16 a1 <| fun x2 =>
  mrd μ 27 128 ((a1 * 8) + x1) <| fun x3 =>
  mwr μ 52 128 116 x3 <| fun μ4 =>
  mwr μ4 52 128 107 x1 <| fun μ5 =>
  mrd μ5 16 32 a2 <| fun x6 =>
  mwr μ5 52 128 108 x6 <| fun μ7 =>
  mrd μ7 17 32 a2 <| fun x8 =>
  mwr μ7 52 128 102 x8 <| fun μ9 =>
  mrd μ9 18 32 a2 <| fun x10 =>
  mwr μ9 52 128 112 x10 <| fun μ11 =>
  mrd μ11 28 16 a1 <| fun x12 =>
  mrd μ11 24 8 x1 <| fun x13 =>
  mbv (vs_Integer_bitCount_0f7a4 (x12 &&& x13)) <| fun x14 =>
  mwr μ11 52 128 110 x14 <| fun μ15 =>
  mrd μ15 29 16 a1 <| fun x16 =>
  mwr μ15 52 128 104 x16 <| fun μ17 =>
  mwr μ17 52 128 115 x2 <| fun μ18 =>
  mwr μ18 52 128 98 a2 <| fun μ19 =>
  mwr μ19 52 128 121 a4 <| fun μ20 =>
  mwr μ20 52 128 120 a3 <| fun μ21 =>
  mrd μ21 23 32 a2 <| fun x22 =>
  mrd μ21 39 10 x2 <| fun x23 =>
  mbv (vs_Integer_bitCount_0f7a4 (x22 &&& x23)) <| fun x24 =>
  mwr μ21 52 128 114 x24 <| fun μ25 =>
  some μ25
def vs_Law_pop (μ : Mm) : Option (Int32 × Mm) :=
  if 1 ≤ (μ 10 9) then
    mst μ 10 9 ((μ 10 9) - 1) <| fun μ2 =>
    mrd μ2 69 64 (μ2 10 9) <| fun x3 =>
    some (x3, μ2)
  else
    mst μ 10 10 1 <| fun μ4 =>
    some (0, μ4)
def vs_Law_reckon (μ : Mm) (a1 : Int32) (a2 : Int32) (a3 : Int32) : Option (Int32 × Mm) :=
  if a1 = 42 then
    some ((a2 * a3), μ)
  else
  if a1 = 43 then
    some ((a2 + a3), μ)
  else
  if a1 = 45 then
    some ((a2 - a3), μ)
  else
  if a1 = 60 then
    if a3 ≤ a2 then
      some (0, μ)
    else
      some (1, μ)
  else
  if a1 = 61 then
    if a2 = a3 then
      some (1, μ)
    else
      some (0, μ)
  else
  if a1 = 62 then
    if a2 ≤ a3 then
      some (0, μ)
    else
      some (1, μ)
  else
  if a3 = 0 then
    mst μ 10 10 1 <| fun μ14 =>
    some (0, μ14)
  else
    if a1 = 47 then
      mdv a3 <|
      some ((a2 / a3), μ)
    else
      mdv a3 <|
      some ((a2 - a2 / a3 * a3), μ)
def vs_Law_push (μ : Mm) (a1 : Int32) : Option Mm :=
  if (μ 10 9) < 64 then
    mwr μ 69 64 (μ 10 9) a1 <| fun μ2 =>
    mst μ2 10 9 ((μ2 10 9) + 1) <| fun μ3 =>
    some μ3
  else
    mst μ 10 10 1 <| fun μ4 =>
    some μ4
def vs_Law_jump (μ : Mm) (a1 : Int32) (a2 : Int32) : Option (Int32 × Mm) :=
  mbm (vs_Law_pop μ) <| fun x1 μ2 =>
  if x1 = 0 then
    if 0 = a2 then
      mbv (vs_Law_push μ2 x1) <| fun μ6 =>
      mrd μ6 64 200 a1 <| fun x7 =>
      some (x7, μ6)
    else
      some ((a1 + 1), μ2)
  else
    if 1 = a2 then
      mbv (vs_Law_push μ2 x1) <| fun μ10 =>
      mrd μ10 64 200 a1 <| fun x11 =>
      some (x11, μ10)
    else
      some ((a1 + 1), μ2)
def vs_Law_run_b16 (μ : Mm) (a2 : Int32) (xs4 : Int32) (xs5 : Int32) : Option ((Int32 × Int32 × Mm) ⊕ (Mm)) :=
  if 200 ≤ xs5 then
    some (.inr μ)
  else
    if a2 ≤ xs4 then
      some (.inr μ)
    else
      if (μ 10 10) = 0 then
        mrd μ 63 200 xs4 <| fun x6 =>
        if x6 = 0 then
          mrd μ 64 200 xs4 <| fun x8 =>
          mbv (vs_Law_push μ x8) <| fun μ10 =>
          some (.inl ((xs4 + 1), (xs5 + 1), μ10))
        else
        if x6 = 1 then
          mrd μ 64 200 xs4 <| fun x12 =>
          mrd μ 52 128 x12 <| fun x13 =>
          mbv (vs_Law_push μ x13) <| fun μ15 =>
          some (.inl ((xs4 + 1), (xs5 + 1), μ15))
        else
        if x6 = 2 then
          mbm (vs_Law_pop μ) <| fun x17 μ18 =>
          mbv (vs_Law_push μ18 (1 - x17)) <| fun μ20 =>
          some (.inl ((xs4 + 1), (xs5 + 1), μ20))
        else
        if x6 = 3 then
          mbm (vs_Law_jump μ xs4 0) <| fun x22 μ23 =>
          some (.inl (x22, (xs5 + 1), μ23))
        else
        if x6 = 4 then
          mbm (vs_Law_jump μ xs4 1) <| fun x25 μ26 =>
          some (.inl (x25, (xs5 + 1), μ26))
        else
        mbm (vs_Law_pop μ) <| fun x27 μ28 =>
        mrd μ28 63 200 xs4 <| fun x29 =>
        mbm (vs_Law_pop μ28) <| fun x30 μ31 =>
        mbm (vs_Law_reckon μ31 x29 x30 x27) <| fun x32 μ33 =>
        mbv (vs_Law_push μ33 x32) <| fun μ35 =>
        some (.inl ((xs4 + 1), (xs5 + 1), μ35))
      else
        some (.inr μ)
def vs_Law_run_l16 (μ : Mm) (a2 : Int32) (xs4 : Int32) (xs5 : Int32) : Option ((Mm)) :=
  miter (fun q => vs_Law_run_b16 q.2.2 a2 q.1 q.2.1) FU (xs4, xs5, μ)
def vs_Law_run (μ : Mm) (a1 : Int32) (a2 : Int32) : Option (Int32 × Mm) :=
  mst μ 10 9 0 <| fun μ1 =>
  mst μ1 10 10 0 <| fun μ2 =>
  mbv (vs_Law_run_l16 μ2 a2 a1 0) <| fun μ36 =>
  if (μ36 10 10) = 0 then
    if (μ36 10 9) = 1 then
      mrd μ36 69 64 0 <| fun x39 =>
      some (x39, μ36)
    else
      some (0, μ36)
  else
    some (0, μ36)
def vs_Law_answer_b3 (μ : Mm) (a1 : Int32) (a3 : Int32) (xs4 : Int32) : Option ((Int32 × Mm) ⊕ ((Int32 × Mm) ⊕ (Mm))) :=
  if (μ 10 8) ≤ xs4 then
    some (.inr (.inr μ))
  else
    mrd μ 65 14 xs4 <| fun x2 =>
    if x2 = a1 then
      mrd μ 67 14 xs4 <| fun x4 =>
      mrd μ 68 14 xs4 <| fun x5 =>
      mbm (vs_Law_run μ x4 x5) <| fun x6 μ7 =>
      if x6 = 0 then
        some (.inl ((xs4 + 1), μ7))
      else
        some (.inr (.inl (xs4, μ7)))
    else
      some (.inl ((xs4 + 1), μ))
def vs_Law_answer_l3 (μ : Mm) (a1 : Int32) (a3 : Int32) (xs4 : Int32) : Option ((Int32 × Mm) ⊕ (Mm)) :=
  miter (fun q => vs_Law_answer_b3 q.2 a1 a3 q.1) FU (xs4, μ)
def vs_Law_answer (μ : Mm) (a1 : Int32) (a3 : Int32) : Option (Int32 × Mm) :=
  msum2 (vs_Law_answer_l3 μ a1 a3 0)
    (un2 fun x10 μ11 =>
      mrd μ11 66 14 x10 <| fun x12 =>
      mrd μ11 67 14 x10 <| fun x13 =>
      mbm (vs_Law_run μ11 x12 x13) <| fun x14 μ15 =>
      some (x14, μ15))
    (fun μ16 =>
      some (a3, μ16))
def vs_Wishes_bounded (a0 : Int32) (a1 : Int32) (a2 : Int32) : Option Int32 :=
  some (jmax a1 (jmin a2 a0))
def vs_Wishes_wish_j61 (μ : Mm) (a1 : Int32) (a2 : Int32) (a4 : Int32) (a5 : Int32) (y0 : Int32) : Option (Int32 × Mm) :=
  if a5 = 0 then
    if y0 = 0 then
      mbv (vs_Wishes_look μ a1 a2 0 a4) <| fun μ7 =>
      mbm (vs_Law_answer μ7 119 0) <| fun x8 μ9 =>
      mbv (vs_Wishes_bounded x8 0 1000) <| fun x10 =>
      some (x10, μ9)
    else
      some (0, μ)
  else
    some (0, μ)
def vs_Wishes_wish_j60 (μ : Mm) (a1 : Int32) (a2 : Int32) (a4 : Int32) (a5 : Int32) : Option (Int32 × Mm) :=
  vs_Wishes_wish_j61 μ a1 a2 a4 a5 0
def vs_Wishes_wish_j21 (μ : Mm) (a1 : Int32) (a2 : Int32) (a4 : Int32) (y0 : Int32) : Option (Int32 × Mm) :=
  mrd μ 26 16 a1 <| fun x2 =>
  if x2 = 0 then
    vs_Wishes_wish_j60 μ a1 a2 a4 y0
  else
    mrd μ 26 16 a1 <| fun x11 =>
    mrd μ 17 32 a2 <| fun x12 =>
    if x11 = x12 then
      vs_Wishes_wish_j60 μ a1 a2 a4 y0
    else
      vs_Wishes_wish_j61 μ a1 a2 a4 y0 1
def vs_Wishes_wish_j20 (μ : Mm) (a1 : Int32) (a2 : Int32) (a4 : Int32) : Option (Int32 × Mm) :=
  vs_Wishes_wish_j21 μ a1 a2 a4 0
def vs_Wishes_wish (μ : Mm) (a1 : Int32) (a2 : Int32) (a3 : Int32) (a4 : Int32) : Option (Int32 × Mm) :=
  if a3 = 0 then
    mbv (vs_Books_wasHad μ a2 a1) <| fun x14 =>
    if (bI x14) = 0 then
      vs_Wishes_wish_j20 μ a1 a2 a4
    else
      vs_Wishes_wish_j21 μ a1 a2 a4 1
  else
    vs_Wishes_wish_j20 μ a1 a2 a4
def vs_wants (μ : Mm) (a1 : Int32) (a2 : Int32) (a3 : Int32) : Option (Int32 × Mm) :=
  mbv (vs_isPair μ a1 a2) <| fun x1 =>
  if (bI x1) = 0 then
    some ((-1), μ)
  else
    mbm (vs_Wishes_wish μ a1 a2 a3 (μ 0 12)) <| fun x3 μ4 =>
    some (x3, μ4)
def vs_isDay (a0 : Int32) : Option Bool :=
  mbv (vs_within a0 0 199) <| fun x1 =>
  some x1
def vs_Stops_isLost (μ : Mm) (a1 : Int32) (a2 : Int32) : Option Bool :=
  mrd μ 43 600 ((a1 * 200) + a2) <| fun x1 =>
  if x1 = 0 then
    some false
  else
    some true
def vs_Stops_stopsOn (μ : Mm) (a1 : Int32) (a2 : Int32) : Option Int32 :=
  mbv (vs_Stops_isLost μ a1 a2) <| fun x1 =>
  if (bI x1) = 0 then
    mrd μ 41 42 ((a1 * 14) + (a2 - a2 / 14 * 14)) <| fun x3 =>
    mrd μ 42 600 ((a1 * 200) + a2) <| fun x4 =>
    some (x3 ||| x4)
  else
    some 0
def vs_Stops_goesTo (μ : Mm) (a1 : Int32) (a2 : Int32) (a3 : Int32) : Option Bool :=
  mbv (vs_Stops_stopsOn μ a1 a3) <| fun x1 =>
  mbv (vs_hasBit x1 a2) <| fun x2 =>
  some x2
def vs_visits (μ : Mm) (a1 : Int32) (a2 : Int32) (a3 : Int32) : Option Int32 :=
  mbv (vs_isVan a1) <| fun x1 =>
  if (bI x1) = 0 then
    some (-1)
  else
    mbv (vs_Stops_has μ a2) <| fun x3 =>
    if (bI x3) = 0 then
      some (-1)
    else
      mbv (vs_isDay a3) <| fun x5 =>
      if (bI x5) = 0 then
        some (-1)
      else
        mbv (vs_Stops_goesTo μ a1 a2 a3) <| fun x7 =>
        if (bI x7) = 0 then
          some 0
        else
          some 1
def vs_Acts_isFull (μ : Mm) : Option Bool :=
  if (μ 6 4) < 200 then
    some false
  else
    some true
def vs_fits (μ : Mm) (a1 : Int32) (a2 : Int32) : Option Bool :=
  mbv (vs_Books_lengthOn μ a2) <| fun x1 =>
  mrd μ 16 32 a1 <| fun x2 =>
  mrd μ 12 3 a2 <| fun x3 =>
  if x3 < (x1 + x2) then
    some false
  else
    some true
def vs_Acts_add (μ : Mm) (a1 : Int32) (a2 : Int32) (a3 : Int32) : Option Mm :=
  mbv (vs_Acts_isFull μ) <| fun x1 =>
  if (bI x1) = 0 then
    mwr μ 48 200 (μ 6 4) a1 <| fun μ3 =>
    mwr μ3 49 200 (μ3 6 4) a2 <| fun μ4 =>
    mwr μ4 50 200 (μ4 6 4) a3 <| fun μ5 =>
    mwr μ5 51 200 (μ5 6 4) (a3 + (μ5 6 5)) <| fun μ6 =>
    mst μ6 6 4 ((μ6 6 4) + 1) <| fun μ7 =>
    some μ7
  else
    some μ
def vs_transfer (μ : Mm) (a1 : Int32) (a2 : Int32) : Option Mm :=
  mwr μ 19 32 a1 a2 <| fun μ1 =>
  mbv (vs_Acts_add μ1 a1 a2 (μ1 0 12)) <| fun μ3 =>
  some μ3
def vs_move_j47 (μ : Mm) (a1 : Int32) (a2 : Int32) (y0 : Int32) : Option (Bool × Mm) :=
  mrd μ 19 32 a1 <| fun x7 =>
  if 10 ≤ x7 then
    some (false, μ)
  else
    if x7 = y0 then
      some (false, μ)
    else
      if a2 = (-1) then
        mbv (vs_transfer μ a1 y0) <| fun μ12 =>
        some (true, μ12)
      else
        mbv (vs_fits μ a1 a2) <| fun x13 =>
        if (bI x13) = 0 then
          some (false, μ)
        else
          mbv (vs_transfer μ a1 y0) <| fun μ16 =>
          some (true, μ16)
def vs_move_j23 (μ : Mm) (a1 : Int32) (a2 : Int32) : Option (Bool × Mm) :=
  mbv (vs_Acts_isFull μ) <| fun x4 =>
  if (bI x4) = 0 then
    if a2 = (-1) then
      vs_move_j47 μ a1 a2 0
    else
      vs_move_j47 μ a1 a2 (1 + a2)
  else
    some (false, μ)
def vs_move (μ : Mm) (a1 : Int32) (a2 : Int32) : Option (Bool × Mm) :=
  mbv (vs_Books_has μ a1) <| fun x1 =>
  if (bI x1) = 0 then
    some (false, μ)
  else
    if a2 = (-1) then
      vs_move_j23 μ a1 a2
    else
      mbv (vs_isVan a2) <| fun x17 =>
      if (bI x17) = 0 then
        some (false, μ)
      else
        vs_move_j23 μ a1 a2
def vs_Wishes_daysLent (μ : Mm) (a1 : Int32) (a2 : Int32) (a3 : Int32) : Option (Int32 × Mm) :=
  mbv (vs_Wishes_look μ a1 a2 0 a3) <| fun μ2 =>
  mbm (vs_Law_answer μ2 100 14) <| fun x3 μ4 =>
  mbv (vs_Wishes_bounded x3 1 60) <| fun x5 =>
  some (x5, μ4)
def vs_Asks_dayOf (μ : Mm) (a1 : Int32) (a2 : Int32) : Option Int32 :=
  mrd μ 44 512 ((a1 * 32) + a2) <| fun x1 =>
  some x1
def vs_Asks_remove (μ : Mm) (a1 : Int32) (a2 : Int32) : Option (Bool × Mm) :=
  mbv (vs_Asks_dayOf μ a1 a2) <| fun x1 =>
  if x1 = (-1) then
    some (false, μ)
  else
    mwr μ 44 512 ((a1 * 32) + a2) (-1) <| fun μ3 =>
    mst μ3 5 4 ((μ3 5 4) - 1) <| fun μ4 =>
    some (true, μ4)
def vs_lend (μ : Mm) (a1 : Int32) (a2 : Int32) : Option (Int32 × Mm) :=
  mbv (vs_isPair μ a2 a1) <| fun x1 =>
  if (bI x1) = 0 then
    some ((-1), μ)
  else
    mbv (vs_Acts_isFull μ) <| fun x3 =>
    if (bI x3) = 0 then
      mbv (vs_Books_vanOf μ a1) <| fun x5 =>
      if x5 = (-1) then
        some ((-1), μ)
      else
        mrd μ 25 16 a2 <| fun x7 =>
        mbv (vs_Stops_goesTo μ x5 x7 (μ 0 12)) <| fun x8 =>
        if (bI x8) = 0 then
          some ((-1), μ)
        else
          mbm (vs_Wishes_daysLent μ a2 a1 (μ 0 12)) <| fun x10 μ11 =>
          mbv (vs_transfer μ11 a1 (10 + a2)) <| fun μ13 =>
          mwr μ13 20 32 a1 ((μ 0 12) + x10) <| fun μ14 =>
          mrd μ14 21 32 a1 <| fun x15 =>
          mwr μ14 21 32 a1 (x15 + 1) <| fun μ16 =>
          mrd μ16 30 16 a2 <| fun x17 =>
          mwr μ16 30 16 a2 (x17 + 1) <| fun μ18 =>
          mrd μ18 29 16 a2 <| fun x19 =>
          mwr μ18 29 16 a2 (x19 + 1) <| fun μ20 =>
          mrd μ20 13 3 x5 <| fun x21 =>
          mwr μ20 13 3 x5 (x21 + 1) <| fun μ22 =>
          mbv (vs_remember μ22 a2 a1) <| fun μ24 =>
          mbm (vs_Asks_remove μ24 a2 a1) <| fun x25 μ26 =>
          some (((μ 0 12) + x10), μ26)
    else
      some ((-1), μ)
def vs_Books_holder (μ : Mm) (a1 : Int32) : Option Int32 :=
  mrd μ 19 32 a1 <| fun x1 =>
  mbv (vs_within x1 10 25) <| fun x2 =>
  if (bI x2) = 0 then
    some (-1)
  else
    mrd μ 19 32 a1 <| fun x4 =>
    some (x4 - 10)
def vs_Wishes_fine (μ : Mm) (a1 : Int32) (a2 : Int32) (a3 : Int32) : Option (Int32 × Mm) :=
  mrd μ 20 32 a2 <| fun x1 =>
  mbv (vs_Wishes_look μ a1 a2 (jmax 0 (a3 - x1)) a3) <| fun μ3 =>
  mbm (vs_Law_answer μ3 102 0) <| fun x4 μ5 =>
  mbv (vs_Wishes_bounded x4 0 10000) <| fun x6 =>
  some (x6, μ5)
def vs_settle (μ : Mm) (a1 : Int32) (a2 : Int32) (a3 : Int32) (a4 : Int32) : Option Mm :=
  mrd μ 31 16 a2 <| fun x1 =>
  mwr μ 31 16 a2 (x1 + a3) <| fun μ2 =>
  mrd μ2 29 16 a2 <| fun x3 =>
  mwr μ2 29 16 a2 (x3 - 1) <| fun μ4 =>
  mwr μ4 20 32 a1 (-1) <| fun μ5 =>
  mbv (vs_transfer μ5 a1 a4) <| fun μ7 =>
  some μ7
def vs_back (μ : Mm) (a1 : Int32) (a2 : Int32) (a3 : Int32) : Option (Int32 × Mm) :=
  mbv (vs_isPair μ a3 a1) <| fun x1 =>
  if (bI x1) = 0 then
    some ((-1), μ)
  else
    mbv (vs_isVan a2) <| fun x3 =>
    if (bI x3) = 0 then
      some ((-1), μ)
    else
      mbv (vs_Acts_isFull μ) <| fun x5 =>
      if (bI x5) = 0 then
        mbv (vs_Books_holder μ a1) <| fun x7 =>
        if x7 = (-1) then
          some ((-1), μ)
        else
          mrd μ 25 16 a3 <| fun x9 =>
          mbv (vs_Stops_goesTo μ a2 x9 (μ 0 12)) <| fun x10 =>
          if (bI x10) = 0 then
            some ((-1), μ)
          else
            mbv (vs_fits μ a1 a2) <| fun x12 =>
            if (bI x12) = 0 then
              some ((-1), μ)
            else
              mbm (vs_Wishes_fine μ x7 a1 (μ 0 12)) <| fun x14 μ15 =>
              if x7 = a3 then
                mbv (vs_settle μ15 a1 x7 x14 (1 + a2)) <| fun μ18 =>
                some (x14, μ18)
              else
                mrd μ15 22 32 a1 <| fun x19 =>
                mwr μ15 22 32 a1 (x19 + 1) <| fun μ20 =>
                mrd μ20 25 16 a3 <| fun x21 =>
                mrd μ20 40 10 x21 <| fun x22 =>
                mwr μ20 40 10 x21 (x22 + 1) <| fun μ23 =>
                mbv (vs_settle μ23 a1 x7 x14 (1 + a2)) <| fun μ25 =>
                some (x14, μ25)
      else
        some ((-1), μ)
def vs_lost (μ : Mm) (a1 : Int32) : Option (Int32 × Mm) :=
  mbv (vs_Books_has μ a1) <| fun x1 =>
  if (bI x1) = 0 then
    some ((-1), μ)
  else
    mbv (vs_Acts_isFull μ) <| fun x3 =>
    if (bI x3) = 0 then
      mbv (vs_Books_holder μ a1) <| fun x5 =>
      if x5 = (-1) then
        some ((-1), μ)
      else
        mrd μ 18 32 a1 <| fun x7 =>
        mbv (vs_settle μ a1 x5 x7 40) <| fun μ9 =>
        mrd μ9 18 32 a1 <| fun x10 =>
        some (x10, μ9)
    else
      some ((-1), μ)
def vs_bookIs (μ : Mm) (a1 : Int32) (a2 : Int32) : Option Int32 :=
  mbv (vs_Books_has μ a1) <| fun x1 =>
  if (bI x1) = 0 then
    some (-1)
  else
    if a2 = 0 then
      mrd μ 19 32 a1 <| fun x4 =>
      some x4
    else
    if a2 = 1 then
      mrd μ 20 32 a1 <| fun x6 =>
      some x6
    else
    if a2 = 2 then
      mrd μ 21 32 a1 <| fun x8 =>
      some x8
    else
    if a2 = 3 then
      mrd μ 22 32 a1 <| fun x10 =>
      some x10
    else
    if a2 = 4 then
      mrd μ 23 32 a1 <| fun x12 =>
      mbv (vs_Integer_bitCount_0f7a4 x12) <| fun x13 =>
      some x13
    else
    some (-1)
def vs_Asks_ofReader_b4 (μ : Mm) (a1 : Int32) (xs2 : Int32) (xs3 : Int32) : Option ((Int32 × Int32) ⊕ (Int32)) :=
  if 32 ≤ xs3 then
    some (.inr xs2)
  else
    mbv (vs_Asks_dayOf μ a1 xs3) <| fun x2 =>
    if x2 = (-1) then
      some (.inl (xs2, (xs3 + 1)))
    else
      some (.inl ((xs2 + 1), (xs3 + 1)))
def vs_Asks_ofReader_l4 (μ : Mm) (a1 : Int32) (xs2 : Int32) (xs3 : Int32) : Option ((Int32)) :=
  miter (fun q => vs_Asks_ofReader_b4 μ a1 q.1 q.2) FU (xs2, xs3)
def vs_Asks_ofReader (μ : Mm) (a1 : Int32) : Option Int32 :=
  mbv (vs_Asks_ofReader_l4 μ a1 0 0) <| fun x4 =>
  some x4
def vs_readerIs (μ : Mm) (a1 : Int32) (a2 : Int32) : Option Int32 :=
  mbv (vs_Readers_has μ a1) <| fun x1 =>
  if (bI x1) = 0 then
    some (-1)
  else
    if a2 = 0 then
      mrd μ 29 16 a1 <| fun x4 =>
      some x4
    else
    if a2 = 1 then
      mrd μ 30 16 a1 <| fun x6 =>
      some x6
    else
    if a2 = 2 then
      mrd μ 31 16 a1 <| fun x8 =>
      some x8
    else
    if a2 = 3 then
      mrd μ 28 16 a1 <| fun x10 =>
      mbv (vs_Integer_bitCount_0f7a4 x10) <| fun x11 =>
      some x11
    else
    if a2 = 4 then
      mbv (vs_Asks_ofReader μ a1) <| fun x13 =>
      some x13
    else
    some (-1)
def vs_pays (μ : Mm) (a1 : Int32) (a2 : Int32) : Option (Int32 × Mm) :=
  mbv (vs_Readers_has μ a1) <| fun x1 =>
  if (bI x1) = 0 then
    some ((-1), μ)
  else
    mrd μ 31 16 a1 <| fun x3 =>
    mbv (vs_within a2 1 x3) <| fun x4 =>
    if (bI x4) = 0 then
      some ((-1), μ)
    else
      mrd μ 31 16 a1 <| fun x6 =>
      mwr μ 31 16 a1 (x6 - a2) <| fun μ7 =>
      mrd μ7 31 16 a1 <| fun x8 =>
      some (x8, μ7)
def vs_Stops_lowestVan_b2 (μ : Mm) (a1 : Int32) (a2 : Int32) (xs3 : Int32) : Option ((Int32) ⊕ ((Int32) ⊕ (Unit))) :=
  if 3 ≤ xs3 then
    some (.inr (.inr ()))
  else
    mbv (vs_Stops_goesTo μ xs3 a1 a2) <| fun x2 =>
    if (bI x2) = 0 then
      some (.inl (xs3 + 1))
    else
      some (.inr (.inl xs3))
def vs_Stops_lowestVan_l2 (μ : Mm) (a1 : Int32) (a2 : Int32) (xs3 : Int32) : Option ((Int32) ⊕ (Unit)) :=
  miter (fun q => vs_Stops_lowestVan_b2 μ a1 a2 q) FU xs3
def vs_Stops_lowestVan (μ : Mm) (a1 : Int32) (a2 : Int32) : Option Int32 :=
  msum2 (vs_Stops_lowestVan_l2 μ a1 a2 0)
    (fun x5 =>
      some x5)
    (fun _ =>
      some (-1))
def vs_Asks_add (μ : Mm) (a1 : Int32) (a2 : Int32) (a3 : Int32) : Option Mm :=
  mwr μ 44 512 ((a1 * 32) + a2) a3 <| fun μ1 =>
  mst μ1 5 4 ((μ1 5 4) + 1) <| fun μ2 =>
  some μ2
def vs_ask_j51 (μ : Mm) (a1 : Int32) (a2 : Int32) (a3 : Int32) (y0 : Int32) : Option (Bool × Mm) :=
  if y0 = 0 then
    some (false, μ)
  else
    mbv (vs_Asks_dayOf μ a1 a2) <| fun x9 =>
    if x9 = (-1) then
      mbv (vs_Books_holder μ a2) <| fun x11 =>
      if x11 = a1 then
        some (false, μ)
      else
        mbv (vs_Asks_add μ a1 a2 a3) <| fun μ14 =>
        some (true, μ14)
    else
      some (false, μ)
def vs_ask (μ : Mm) (a1 : Int32) (a2 : Int32) (a3 : Int32) : Option (Bool × Mm) :=
  mbv (vs_isPair μ a1 a2) <| fun x1 =>
  if (bI x1) = 0 then
    some (false, μ)
  else
    mbv (vs_within a3 (μ 0 12) 199) <| fun x3 =>
    if (bI x3) = 0 then
      some (false, μ)
    else
      mrd μ 25 16 a1 <| fun x5 =>
      mbv (vs_Stops_lowestVan μ x5 a3) <| fun x6 =>
      if x6 = (-1) then
        vs_ask_j51 μ a1 a2 a3 0
      else
        vs_ask_j51 μ a1 a2 a3 1
def vs_unask (μ : Mm) (a1 : Int32) (a2 : Int32) : Option (Bool × Mm) :=
  mbv (vs_isPair μ a1 a2) <| fun x1 =>
  if (bI x1) = 0 then
    some (false, μ)
  else
    mbm (vs_Asks_remove μ a1 a2) <| fun x3 μ4 =>
    if (bI x3) = 0 then
      some (false, μ4)
    else
      some (true, μ4)
def vs_Asks_booksFor_b5 (μ : Mm) (a1 : Int32) (a2 : Int32) (xs3 : Int32) (xs4 : Int32) : Option ((Int32 × Int32) ⊕ (Int32)) :=
  if 32 ≤ xs4 then
    some (.inr xs3)
  else
    mbv (vs_Asks_dayOf μ a1 xs4) <| fun x2 =>
    if x2 = a2 then
      some (.inl ((xs3 ||| ((1 : Int32) <<< (xs4 &&& 31))), (xs4 + 1)))
    else
      some (.inl (xs3, (xs4 + 1)))
def vs_Asks_booksFor_l5 (μ : Mm) (a1 : Int32) (a2 : Int32) (xs3 : Int32) (xs4 : Int32) : Option ((Int32)) :=
  miter (fun q => vs_Asks_booksFor_b5 μ a1 a2 q.1 q.2) FU (xs3, xs4)
def vs_Asks_booksFor (μ : Mm) (a1 : Int32) (a2 : Int32) : Option Int32 :=
  mbv (vs_Asks_booksFor_l5 μ a1 a2 0 0) <| fun x4 =>
  some x4
def vs_boardOf_b16 (μ : Mm) (a1 : Int32) (a3 : Int32) (xs4 : Int32) (xs5 : Int32) : Option ((Int32 × Int32) ⊕ (Int32)) :=
  if (μ 3 7) ≤ xs5 then
    some (.inr xs4)
  else
    mrd μ 25 16 xs5 <| fun x3 =>
    mbv (vs_hasBit a3 x3) <| fun x4 =>
    if (bI x4) = 0 then
      some (.inl (xs4, (xs5 + 1)))
    else
      mbv (vs_Asks_booksFor μ xs5 a1) <| fun x6 =>
      some (.inl ((xs4 ||| x6), (xs5 + 1)))
def vs_boardOf_l16 (μ : Mm) (a1 : Int32) (a3 : Int32) (xs4 : Int32) (xs5 : Int32) : Option ((Int32)) :=
  miter (fun q => vs_boardOf_b16 μ a1 a3 q.1 q.2) FU (xs4, xs5)
def vs_boardOf (μ : Mm) (a1 : Int32) (a2 : Int32) : Option Int32 :=
  mbv (vs_Stops_stopsOn μ a2 a1) <| fun x1 =>
  mbv (vs_boardOf_l16 μ a1 x1 0 0) <| fun x7 =>
  some x7
def vs_asLong (a0 : Int32) : Option Int64 :=
  some (((a0 : Int32).toInt64) &&& 4294967295)
def vs_aboard (μ : Mm) (a1 : Int32) (a2 : Int32) : Option Int64 :=
  mbv (vs_isDay a1) <| fun x1 =>
  if (bI x1) = 0 then
    some (-1)
  else
    mbv (vs_isVan a2) <| fun x3 =>
    if (bI x3) = 0 then
      some (-1)
    else
      mbv (vs_boardOf μ a1 a2) <| fun x5 =>
      mbv (vs_asLong x5) <| fun x6 =>
      some x6
def vs_Stops_firstDay_b2 (μ : Mm) (a1 : Int32) (xs3 : Int32) : Option ((Int32) ⊕ ((Int32) ⊕ (Unit))) :=
  if 199 < xs3 then
    some (.inr (.inr ()))
  else
    mbv (vs_Stops_lowestVan μ a1 xs3) <| fun x2 =>
    if x2 = (-1) then
      some (.inl (xs3 + 1))
    else
      some (.inr (.inl xs3))
def vs_Stops_firstDay_l2 (μ : Mm) (a1 : Int32) (xs3 : Int32) : Option ((Int32) ⊕ (Unit)) :=
  miter (fun q => vs_Stops_firstDay_b2 μ a1 q) FU xs3
def vs_Stops_firstDay (μ : Mm) (a1 : Int32) (a2 : Int32) : Option Int32 :=
  msum2 (vs_Stops_firstDay_l2 μ a1 a2)
    (fun x5 =>
      some x5)
    (fun _ =>
      some (-1))
def vs_isElsewhereToday (μ : Mm) (a1 : Int32) (a2 : Int32) : Option Bool :=
  mbv (vs_Books_vanOf μ a1) <| fun x1 =>
  if x1 = (-1) then
    some false
  else
    mbv (vs_Stops_goesTo μ x1 a2 (μ 0 12)) <| fun x3 =>
    if (bI x3) = 0 then
      some true
    else
      some false
def vs_promisedDay_j112 (μ : Mm) (a3 : Int32) (y0 : Int32) : Option Int32 :=
  mbv (vs_Stops_firstDay μ a3 y0) <| fun x17 =>
  if x17 = (-1) then
    some (-2)
  else
    some x17
def vs_promisedDay (μ : Mm) (a1 : Int32) (a2 : Int32) : Option Int32 :=
  mrd μ 25 16 a1 <| fun x1 =>
  mbv (vs_Books_holder μ a2) <| fun x2 =>
  mrd μ 19 32 a2 <| fun x3 =>
  if x3 = 40 then
    some (-2)
  else
    if x2 = (-1) then
      mbv (vs_isElsewhereToday μ a2 x1) <| fun x6 =>
      if (bI x6) = 0 then
        mbv (vs_Stops_firstDay μ x1 (μ 0 12)) <| fun x8 =>
        if x8 = (-1) then
          some (-2)
        else
          some x8
      else
        mbv (vs_Stops_firstDay μ x1 ((μ 0 12) + 1)) <| fun x10 =>
        if x10 = (-1) then
          some (-2)
        else
          some x10
    else
      mrd μ 25 16 x2 <| fun x12 =>
      mrd μ 20 32 a2 <| fun x13 =>
      mbv (vs_Stops_firstDay μ x12 (jmax x13 (μ 0 12))) <| fun x14 =>
      if x14 = (-1) then
        some (-2)
      else
        if x12 = x1 then
          vs_promisedDay_j112 μ x1 x14
        else
          vs_promisedDay_j112 μ x1 (x14 + 1)
def vs_promise (μ : Mm) (a1 : Int32) (a2 : Int32) : Option Int32 :=
  mbv (vs_isPair μ a1 a2) <| fun x1 =>
  if (bI x1) = 0 then
    some (-1)
  else
    mbv (vs_promisedDay μ a1 a2) <| fun x3 =>
    some x3
def vs_Asks_isBehindAnother_b11 (μ : Mm) (a1 : Int32) (a2 : Int32) (a3 : Int32) (a4 : Int32) (xs5 : Int32) : Option ((Int32) ⊕ ((Unit) ⊕ (Unit))) :=
  if 16 ≤ xs5 then
    some (.inr (.inr ()))
  else
    mbv (vs_Asks_dayOf μ xs5 a2) <| fun x3 =>
    if xs5 = a1 then
      some (.inl (xs5 + 1))
    else
      if x3 < a3 then
        some (.inl (xs5 + 1))
      else
        if x3 < a4 then
          some (.inr (.inl ()))
        else
          if x3 = a4 then
            if a1 ≤ xs5 then
              some (.inl (xs5 + 1))
            else
              some (.inr (.inl ()))
          else
            some (.inl (xs5 + 1))
def vs_Asks_isBehindAnother_l11 (μ : Mm) (a1 : Int32) (a2 : Int32) (a3 : Int32) (a4 : Int32) (xs5 : Int32) : Option ((Unit) ⊕ (Unit)) :=
  miter (fun q => vs_Asks_isBehindAnother_b11 μ a1 a2 a3 a4 q) FU xs5
def vs_Asks_isBehindAnother (μ : Mm) (a1 : Int32) (a2 : Int32) (a3 : Int32) : Option Bool :=
  mbv (vs_Asks_dayOf μ a1 a2) <| fun x1 =>
  msum2 (vs_Asks_isBehindAnother_l11 μ a1 a2 a3 x1 0)
    (fun _ =>
      some true)
    (fun _ =>
      some false)
def vs_Books_lengthOf_b4 (μ : Mm) (a1 : Int32) (xs2 : Int32) (xs3 : Int32) : Option ((Int32 × Int32) ⊕ (Int32)) :=
  if (μ 2 10) ≤ xs3 then
    some (.inr xs2)
  else
    mbv (vs_hasBit a1 xs3) <| fun x2 =>
    if (bI x2) = 0 then
      some (.inl (xs2, (xs3 + 1)))
    else
      mrd μ 16 32 xs3 <| fun x4 =>
      some (.inl ((xs2 + x4), (xs3 + 1)))
def vs_Books_lengthOf_l4 (μ : Mm) (a1 : Int32) (xs2 : Int32) (xs3 : Int32) : Option ((Int32)) :=
  miter (fun q => vs_Books_lengthOf_b4 μ a1 q.1 q.2) FU (xs2, xs3)
def vs_Books_lengthOf (μ : Mm) (a1 : Int32) : Option Int32 :=
  mbv (vs_Books_lengthOf_l4 μ a1 0 0) <| fun x5 =>
  some x5
def vs_hindrance_j102 (μ : Mm) (a1 : Int32) (a2 : Int32) (a3 : Int32) (a5 : Int32) : Option Int32 :=
  mbv (vs_Asks_isBehindAnother μ a1 a2 (μ 0 12)) <| fun x9 =>
  if (bI x9) = 0 then
    mbv (vs_boardOf μ a3 a5) <| fun x11 =>
    mbv (vs_Books_lengthOf μ x11) <| fun x12 =>
    mrd μ 12 3 a5 <| fun x13 =>
    if x12 ≤ x13 then
      some 0
    else
      some 6
  else
    some 5
def vs_hindrance_j82 (μ : Mm) (a1 : Int32) (a2 : Int32) (a3 : Int32) (a4 : Int32) (a5 : Int32) : Option Int32 :=
  if a3 = (μ 0 12) then
    mbv (vs_isElsewhereToday μ a2 a4) <| fun x15 =>
    if (bI x15) = 0 then
      vs_hindrance_j102 μ a1 a2 a3 a5
    else
      some 4
  else
    vs_hindrance_j102 μ a1 a2 a3 a5
def vs_hindrance (μ : Mm) (a1 : Int32) (a2 : Int32) (a3 : Int32) : Option Int32 :=
  mrd μ 25 16 a1 <| fun x1 =>
  mbv (vs_Stops_lowestVan μ x1 a3) <| fun x2 =>
  mrd μ 19 32 a2 <| fun x3 =>
  if x3 = 40 then
    some 1
  else
    if x2 = (-1) then
      some 2
    else
      mbv (vs_Books_holder μ a2) <| fun x6 =>
      if x6 = (-1) then
        vs_hindrance_j82 μ a1 a2 a3 x1 x2
      else
        mbv (vs_promisedDay μ a1 a2) <| fun x17 =>
        if x17 = (-2) then
          some 3
        else
          if x17 ≤ a3 then
            vs_hindrance_j82 μ a1 a2 a3 x1 x2
          else
            some 3
def vs_whyNot (μ : Mm) (a1 : Int32) (a2 : Int32) : Option Int32 :=
  mbv (vs_isPair μ a1 a2) <| fun x1 =>
  if (bI x1) = 0 then
    some (-1)
  else
    mbv (vs_Asks_dayOf μ a1 a2) <| fun x3 =>
    if x3 = (-1) then
      some (-1)
    else
      if (μ 0 12) ≤ x3 then
        mbv (vs_hindrance μ a1 a2 x3) <| fun x6 =>
        some x6
      else
        some (-1)
def vs_Asks_awaited_b5 (μ : Mm) (a1 : Int32) (xs3 : Int32) (xs4 : Int32) : Option ((Int32 × Int32) ⊕ (Int32)) :=
  if (μ 2 10) ≤ xs4 then
    some (.inr xs3)
  else
    mbv (vs_Books_holder μ xs4) <| fun x2 =>
    if x2 = (-1) then
      some (.inl (xs3, (xs4 + 1)))
    else
      mbv (vs_Asks_dayOf μ a1 xs4) <| fun x4 =>
      if x4 = (-1) then
        some (.inl (xs3, (xs4 + 1)))
      else
        some (.inl ((xs3 ||| ((1 : Int32) <<< (x2 &&& 31))), (xs4 + 1)))
def vs_Asks_awaited_l5 (μ : Mm) (a1 : Int32) (xs3 : Int32) (xs4 : Int32) : Option ((Int32)) :=
  miter (fun q => vs_Asks_awaited_b5 μ a1 q.1 q.2) FU (xs3, xs4)
def vs_Asks_awaited (μ : Mm) (a1 : Int32) : Option Int32 :=
  mbv (vs_Asks_awaited_l5 μ a1 0 0) <| fun x6 =>
  some x6
def vs_Arrays_fill_53178_46_b5 (μ : Mm) (a1 : Int32) (a3 : Int32) (xs2 : Int32) : Option ((Int32 × Mm) ⊕ (Mm)) :=
  if a3 ≤ xs2 then
    some (.inr μ)
  else
    mwr μ 46 16 xs2 a1 <| fun μ2 =>
    some (.inl ((xs2 + 1), μ2))
def vs_Arrays_fill_53178_46_l5 (μ : Mm) (a1 : Int32) (a3 : Int32) (xs2 : Int32) : Option ((Mm)) :=
  miter (fun q => vs_Arrays_fill_53178_46_b5 q.2 a1 a3 q.1) FU (xs2, μ)
def vs_Arrays_fill_53178_46 (μ : Mm) (a1 : Int32) : Option Mm :=
  mbv (vs_Arrays_fill_53178_46_l5 μ a1 16 0) <| fun μ3 =>
  some μ3
def vs_Asks_shortestFrom_b36 (μ : Mm) (a1 : Int32) (a2 : Int32) (a3 : Int32) (a4 : Int32) (a5 : Int32) (xs6 : Int32) (xs7 : Int32) : Option ((Int32 × Int32 × Mm) ⊕ (Int32 × Mm)) :=
  if a2 ≤ xs7 then
    some (.inr (xs6, μ))
  else
    mbv (vs_hasBit a4 xs7) <| fun x6 =>
    if (bI x6) = 0 then
      mrd μ 45 16 xs7 <| fun x8 =>
      if (x8 &&& a3) = 0 then
        some (.inl (xs6, (xs7 + 1), μ))
      else
        mwr μ 46 16 xs7 a5 <| fun μ10 =>
        some (.inl ((xs6 ||| ((1 : Int32) <<< (xs7 &&& 31))), (xs7 + 1), μ10))
    else
      some (.inl (xs6, (xs7 + 1), μ))
def vs_Asks_shortestFrom_l36 (μ : Mm) (a1 : Int32) (a2 : Int32) (a3 : Int32) (a4 : Int32) (a5 : Int32) (xs6 : Int32) (xs7 : Int32) : Option ((Int32 × Mm)) :=
  miter (fun q => vs_Asks_shortestFrom_b36 q.2.2 a1 a2 a3 a4 a5 q.1 q.2.1) FU (xs6, xs7, μ)
def vs_Asks_shortestFrom_b18 (μ : Mm) (a1 : Int32) (a2 : Int32) (xs3 : Int32) (xs4 : Int32) (xs5 : Int32) : Option ((Int32 × Int32 × Int32 × Mm) ⊕ ((Int32 × Mm) ⊕ (Mm))) :=
  if a2 ≤ xs5 then
    some (.inr (.inr μ))
  else
    if xs3 = 0 then
      some (.inr (.inr μ))
    else
      mbv (vs_Asks_shortestFrom_l36 μ a1 a2 xs3 xs4 xs5 0 (a1 + 1)) <| un2 fun x11 μ12 =>
      mrd μ12 45 16 a1 <| fun x13 =>
      if (x13 &&& x11) = 0 then
        some (.inl (x11, (xs4 ||| x11), (xs5 + 1), μ12))
      else
        some (.inr (.inl (xs5, μ12)))
def vs_Asks_shortestFrom_l18 (μ : Mm) (a1 : Int32) (a2 : Int32) (xs3 : Int32) (xs4 : Int32) (xs5 : Int32) : Option ((Int32 × Mm) ⊕ (Mm)) :=
  miter (fun q => vs_Asks_shortestFrom_b18 q.2.2.2 a1 a2 q.1 q.2.1 q.2.2.1) FU (xs3, xs4, xs5, μ)
def vs_Asks_shortestFrom (μ : Mm) (a1 : Int32) (a2 : Int32) : Option (Int32 × Mm) :=
  mbv (vs_Arrays_fill_53178_46 μ (-1)) <| fun μ2 =>
  msum2 (vs_Asks_shortestFrom_l18 μ2 a1 a2 ((1 : Int32) <<< (a1 &&& 31)) ((1 : Int32) <<< (a1 &&& 31)) 1)
    (un2 fun x17 μ18 =>
      some ((x17 + 1), μ18))
    (fun μ19 =>
      some ((-1), μ19))
def vs_Asks_lowestNext_b3 (μ : Mm) (a1 : Int32) (a2 : Int32) (a3 : Int32) (xs4 : Int32) : Option ((Int32) ⊕ ((Int32) ⊕ (Unit))) :=
  if a3 ≤ xs4 then
    some (.inr (.inr ()))
  else
    mrd μ 45 16 a1 <| fun x2 =>
    mbv (vs_hasBit x2 xs4) <| fun x3 =>
    if (bI x3) = 0 then
      some (.inl (xs4 + 1))
    else
      mrd μ 46 16 xs4 <| fun x5 =>
      if x5 = a2 then
        some (.inr (.inl xs4))
      else
        some (.inl (xs4 + 1))
def vs_Asks_lowestNext_l3 (μ : Mm) (a1 : Int32) (a2 : Int32) (a3 : Int32) (xs4 : Int32) : Option ((Int32) ⊕ (Unit)) :=
  miter (fun q => vs_Asks_lowestNext_b3 μ a1 a2 a3 q) FU xs4
def vs_Asks_lowestNext (μ : Mm) (a1 : Int32) (a2 : Int32) (a3 : Int32) : Option Int32 :=
  msum2 (vs_Asks_lowestNext_l3 μ a1 a2 a3 0)
    (fun x8 =>
      some x8)
    (fun _ =>
      some a1)
def vs_Asks_tellFrom_b9 (μ : Mm) (a2 : Int32) (xs3 : Int32) : Option ((Int32 × Mm) ⊕ (Mm)) :=
  if (μ 5 5) ≤ xs3 then
    some (.inr μ)
  else
    mrd μ 47 16 (xs3 - 1) <| fun x3 =>
    mbv (vs_Asks_lowestNext μ x3 ((μ 5 5) - xs3) a2) <| fun x4 =>
    mwr μ 47 16 xs3 x4 <| fun μ5 =>
    some (.inl ((xs3 + 1), μ5))
def vs_Asks_tellFrom_l9 (μ : Mm) (a2 : Int32) (xs3 : Int32) : Option ((Mm)) :=
  miter (fun q => vs_Asks_tellFrom_b9 q.2 a2 q.1) FU (xs3, μ)
def vs_Asks_tellFrom (μ : Mm) (a1 : Int32) (a2 : Int32) : Option Mm :=
  mwr μ 47 16 0 a1 <| fun μ1 =>
  mbv (vs_Asks_tellFrom_l9 μ1 a2 1) <| fun μ6 =>
  some μ6
def vs_Asks_findRing_b2 (μ : Mm) (a2 : Int32) (xs3 : Int32) : Option ((Int32 × Mm) ⊕ (Mm)) :=
  if a2 ≤ xs3 then
    some (.inr μ)
  else
    mbv (vs_Asks_awaited μ xs3) <| fun x2 =>
    mwr μ 45 16 xs3 x2 <| fun μ3 =>
    some (.inl ((xs3 + 1), μ3))
def vs_Asks_findRing_l2 (μ : Mm) (a2 : Int32) (xs3 : Int32) : Option ((Mm)) :=
  miter (fun q => vs_Asks_findRing_b2 q.2 a2 q.1) FU (xs3, μ)
def vs_Asks_findRing_b32 (μ : Mm) (a2 : Int32) (xs3 : Int32) : Option ((Int32 × Mm) ⊕ (Mm)) :=
  if a2 ≤ xs3 then
    some (.inr μ)
  else
    mbm (vs_Asks_shortestFrom μ xs3 a2) <| fun x7 μ8 =>
    if x7 = (-1) then
      some (.inl ((xs3 + 1), μ8))
    else
      if (μ8 5 5) = 0 then
        mst μ8 5 5 x7 <| fun μ11 =>
        mbv (vs_Asks_tellFrom μ11 xs3 a2) <| fun μ13 =>
        some (.inl ((xs3 + 1), μ13))
      else
        if (μ8 5 5) ≤ x7 then
          some (.inl ((xs3 + 1), μ8))
        else
          mst μ8 5 5 x7 <| fun μ15 =>
          mbv (vs_Asks_tellFrom μ15 xs3 a2) <| fun μ17 =>
          some (.inl ((xs3 + 1), μ17))
def vs_Asks_findRing_l32 (μ : Mm) (a2 : Int32) (xs3 : Int32) : Option ((Mm)) :=
  miter (fun q => vs_Asks_findRing_b32 q.2 a2 q.1) FU (xs3, μ)
def vs_Asks_findRing (μ : Mm) (a2 : Int32) : Option Mm :=
  mbv (vs_Asks_findRing_l2 μ a2 0) <| fun μ4 =>
  mst μ4 5 5 0 <| fun μ5 =>
  mbv (vs_Asks_findRing_l32 μ5 a2 0) <| fun μ18 =>
  some μ18
def vs_ring (μ : Mm) (a1 : Int32) : Option (Int32 × Mm) :=
  mbv (vs_Asks_findRing μ (μ 3 7)) <| fun μ2 =>
  if a1 = (-1) then
    some ((μ2 5 5), μ2)
  else
    mbv (vs_within a1 0 ((μ2 5 5) - 1)) <| fun x4 =>
    if (bI x4) = 0 then
      some ((-1), μ2)
    else
      mrd μ2 47 16 a1 <| fun x6 =>
      some (x6, μ2)
def vs_isMuch (a0 : Int32) : Option Bool :=
  mbv (vs_within a0 1 1000) <| fun x1 =>
  some x1
def vs_readersOf_b4 (μ : Mm) (a1 : Int32) (xs2 : Int32) (xs3 : Int32) : Option ((Int32 × Int32) ⊕ (Int32)) :=
  if (μ 4 12) ≤ xs3 then
    some (.inr xs2)
  else
    mbv (vs_hasBit a1 xs3) <| fun x2 =>
    if (bI x2) = 0 then
      some (.inl (xs2, (xs3 + 1)))
    else
      mrd μ 39 10 xs3 <| fun x4 =>
      some (.inl ((xs2 ||| x4), (xs3 + 1)))
def vs_readersOf_l4 (μ : Mm) (a1 : Int32) (xs2 : Int32) (xs3 : Int32) : Option ((Int32)) :=
  miter (fun q => vs_readersOf_b4 μ a1 q.1 q.2) FU (xs2, xs3)
def vs_readersOf (μ : Mm) (a1 : Int32) : Option Int32 :=
  mbv (vs_readersOf_l4 μ a1 0 0) <| fun x5 =>
  some x5
def vs_readersToday (μ : Mm) (a1 : Int32) : Option Int32 :=
  mbv (vs_Stops_stopsOn μ a1 (μ 0 12)) <| fun x1 =>
  mbv (vs_readersOf μ x1) <| fun x2 =>
  some x2
def vs_Serving_clear (μ : Mm) : Option Mm :=
  mst μ 9 7 0 <| fun μ1 =>
  mst μ1 9 8 0 <| fun μ2 =>
  some μ2
def vs_wantersOf_b6 (μ : Mm) (a1 : Int32) (a2 : Int32) (a3 : Int32) (xs4 : Int32) (xs5 : Int32) : Option ((Int32 × Int32 × Mm) ⊕ (Int32 × Mm)) :=
  if (μ 3 7) ≤ xs5 then
    some (.inr (xs4, μ))
  else
    mbv (vs_hasBit a2 xs5) <| fun x2 =>
    if (bI x2) = 0 then
      some (.inl (xs4, (xs5 + 1), μ))
    else
      mbm (vs_Wishes_wish μ xs5 a1 0 (μ 0 12)) <| fun x4 μ5 =>
      if x4 < a3 then
        some (.inl (xs4, (xs5 + 1), μ5))
      else
        some (.inl ((xs4 ||| ((1 : Int32) <<< (xs5 &&& 31))), (xs5 + 1), μ5))
def vs_wantersOf_l6 (μ : Mm) (a1 : Int32) (a2 : Int32) (a3 : Int32) (xs4 : Int32) (xs5 : Int32) : Option ((Int32 × Mm)) :=
  miter (fun q => vs_wantersOf_b6 q.2.2 a1 a2 a3 q.1 q.2.1) FU (xs4, xs5, μ)
def vs_wantersOf (μ : Mm) (a1 : Int32) (a2 : Int32) (a3 : Int32) : Option (Int32 × Mm) :=
  mbv (vs_wantersOf_l6 μ a1 a2 a3 0 0) <| un2 fun x7 μ8 =>
  some (x7, μ8)
def vs_Serving_offer (μ : Mm) (a1 : Int32) (a2 : Int32) (a3 : Int32) : Option Mm :=
  if (μ 9 7) < 12 then
    mwr μ 56 12 (μ 9 7) a1 <| fun μ2 =>
    mwr μ2 57 12 (μ2 9 7) a2 <| fun μ3 =>
    mrd μ3 16 32 a1 <| fun x4 =>
    mwr μ3 58 12 (μ3 9 7) x4 <| fun μ5 =>
    mrd μ5 15 32 a1 <| fun x6 =>
    mwr μ5 59 12 (μ5 9 7) x6 <| fun μ7 =>
    if a3 = 0 then
      mst μ7 9 7 ((μ7 9 7) + 1) <| fun μ9 =>
      some μ9
    else
      mst μ7 9 8 ((μ7 9 8) ||| ((1 : Int32) <<< ((μ7 9 7) &&& 31))) <| fun μ10 =>
      mst μ10 9 7 ((μ10 9 7) + 1) <| fun μ11 =>
      some μ11
  else
    some μ
def vs_gatherLoad_j101 (μ : Mm) (a1 : Int32) (a2 : Int32) (a3 : Int32) (a4 : Int32) (a5 : Int32) (a6 : Int32) (y0 : Int32) : Option ((Int32 × Mm) ⊕ (Mm)) :=
  mbv (vs_hasBit a4 a5) <| fun x10 =>
  if a6 = 0 then
    some (.inl ((a5 + 1), μ))
  else
    if (bI x10) = 0 then
      if y0 = 0 then
        some (.inl ((a5 + 1), μ))
      else
        mbv (vs_Serving_offer μ a5 y0 (bI x10)) <| fun μ17 =>
        some (.inl ((a5 + 1), μ17))
    else
      mbv (vs_Serving_offer μ a5 y0 (bI x10)) <| fun μ14 =>
      some (.inl ((a5 + 1), μ14))
def vs_gatherLoad_j82 (μ : Mm) (a1 : Int32) (a2 : Int32) (a3 : Int32) (a4 : Int32) (a5 : Int32) (y0 : Int32) : Option ((Int32 × Mm) ⊕ (Mm)) :=
  if y0 = 0 then
    vs_gatherLoad_j101 μ a1 a2 a3 a4 a5 y0 0
  else
    mbm (vs_wantersOf μ a5 a3 a2) <| fun x18 μ19 =>
    vs_gatherLoad_j101 μ19 a1 a2 a3 a4 a5 y0 x18
def vs_gatherLoad_j77 (μ : Mm) (a1 : Int32) (a2 : Int32) (a3 : Int32) (a4 : Int32) (a5 : Int32) : Option ((Int32 × Mm) ⊕ (Mm)) :=
  vs_gatherLoad_j82 μ a1 a2 a3 a4 a5 1
def vs_gatherLoad_b27 (μ : Mm) (a1 : Int32) (a2 : Int32) (a3 : Int32) (a4 : Int32) (xs5 : Int32) : Option ((Int32 × Mm) ⊕ (Mm)) :=
  if (μ 2 10) ≤ xs5 then
    some (.inr μ)
  else
    if 12 ≤ (μ 9 7) then
      some (.inr μ)
    else
      mrd μ 19 32 xs5 <| fun x7 =>
      if x7 = 0 then
        vs_gatherLoad_j77 μ a1 a2 a3 a4 xs5
      else
        mbv (vs_Books_vanOf μ xs5) <| fun x20 =>
        if x20 = a1 then
          vs_gatherLoad_j77 μ a1 a2 a3 a4 xs5
        else
          vs_gatherLoad_j82 μ a1 a2 a3 a4 xs5 0
def vs_gatherLoad_l27 (μ : Mm) (a1 : Int32) (a2 : Int32) (a3 : Int32) (a4 : Int32) (xs5 : Int32) : Option ((Mm)) :=
  miter (fun q => vs_gatherLoad_b27 q.2 a1 a2 a3 a4 q.1) FU (xs5, μ)
def vs_gatherLoad (μ : Mm) (a1 : Int32) (a2 : Int32) : Option Mm :=
  mbv (vs_readersToday μ a1) <| fun x1 =>
  mbv (vs_boardOf μ (μ 0 12) a1) <| fun x2 =>
  mbv (vs_Serving_clear μ) <| fun μ4 =>
  mbv (vs_gatherLoad_l27 μ4 a1 a2 x1 x2 0) <| fun μ22 =>
  some μ22
def vs_Serving_kindsOffered_b4 (μ : Mm) (xs1 : Int32) (xs2 : Int32) : Option ((Int32 × Int32) ⊕ (Int32)) :=
  if (μ 9 7) ≤ xs2 then
    some (.inr xs1)
  else
    mrd μ 59 12 xs2 <| fun x2 =>
    some (.inl ((xs1 ||| ((1 : Int32) <<< (x2 &&& 31))), (xs2 + 1)))
def vs_Serving_kindsOffered_l4 (μ : Mm) (xs1 : Int32) (xs2 : Int32) : Option ((Int32)) :=
  miter (fun q => vs_Serving_kindsOffered_b4 μ q.1 q.2) FU (xs1, xs2)
def vs_Serving_kindsOffered (μ : Mm) : Option Int32 :=
  mbv (vs_Serving_kindsOffered_l4 μ 0 0) <| fun x3 =>
  some x3
def vs_Serving_weigh_b18 (μ : Mm) (a1 : Int32) (xs2 : Int32) (xs3 : Int32) (xs4 : Int32) : Option ((Int32 × Int32 × Int32 × Mm) ⊕ (Int32 × Int32 × Mm)) :=
  if (μ 9 7) ≤ xs4 then
    some (.inr (xs2, xs3, μ))
  else
    mbv (vs_hasBit a1 xs4) <| fun x4 =>
    if (bI x4) = 0 then
      some (.inl (xs2, xs3, (xs4 + 1), μ))
    else
      mrd μ 57 12 xs4 <| fun x6 =>
      mrd μ 60 4096 (a1 &&& (((1 : Int32) <<< (xs4 &&& 31)) ^^^ (-1))) <| fun x7 =>
      mrd μ 58 12 xs4 <| fun x8 =>
      mst μ 9 9 ((μ 9 9) + x8) <| fun μ9 =>
      mrd μ9 59 12 xs4 <| fun x10 =>
      mst μ9 9 10 ((μ9 9 10) ||| ((1 : Int32) <<< (x10 &&& 31))) <| fun μ11 =>
      some (.inl ((xs2 ||| x6), (jmin xs3 (x7 + 1)), (xs4 + 1), μ11))
def vs_Serving_weigh_l18 (μ : Mm) (a1 : Int32) (xs2 : Int32) (xs3 : Int32) (xs4 : Int32) : Option ((Int32 × Int32 × Mm)) :=
  miter (fun q => vs_Serving_weigh_b18 q.2.2.2 a1 q.1 q.2.1 q.2.2.1) FU (xs2, xs3, xs4, μ)
def vs_Serving_weigh (μ : Mm) (a1 : Int32) : Option Mm :=
  mst μ 9 9 0 <| fun μ1 =>
  mst μ1 9 10 0 <| fun μ2 =>
  mbv (vs_Serving_weigh_l18 μ2 a1 0 16 0) <| un3 fun x12 x13 μ14 =>
  mbv (vs_Integer_bitCount_0f7a4 x12) <| fun x15 =>
  mwr μ14 60 4096 a1 (jmin x13 x15) <| fun μ16 =>
  some μ16
def vs_Serving_isBetter (μ : Mm) (a1 : Int32) : Option Bool :=
  if (μ 9 11) = (-1) then
    some true
  else
    if (μ 9 12) < a1 then
      some true
    else
      if a1 = (μ 9 12) then
        if (μ 9 13) ≤ (μ 9 9) then
          some false
        else
          some true
      else
        some false
def vs_Serving_choose_j76 (μ : Mm) (a1 : Int32) (a3 : Int32) (a4 : Int32) (a5 : Int32) (y0 : Int32) : Option ((Int32 × Mm) ⊕ (Mm)) :=
  if y0 = 0 then
    some (.inl ((a5 + 1), μ))
  else
    mrd μ 60 4096 a5 <| fun x8 =>
    mbv (vs_Serving_isBetter μ x8) <| fun x9 =>
    if (bI x9) = 0 then
      some (.inl ((a5 + 1), μ))
    else
      mst μ 9 11 a5 <| fun μ11 =>
      mrd μ11 60 4096 a5 <| fun x12 =>
      mst μ11 9 12 x12 <| fun μ13 =>
      mst μ13 9 13 (μ13 9 9) <| fun μ14 =>
      some (.inl ((a5 + 1), μ14))
def vs_Serving_choose_j75 (μ : Mm) (a1 : Int32) (a3 : Int32) (a4 : Int32) (a5 : Int32) : Option ((Int32 × Mm) ⊕ (Mm)) :=
  vs_Serving_choose_j76 μ a1 a3 a4 a5 0
def vs_Serving_choose_b25 (μ : Mm) (a1 : Int32) (a3 : Int32) (a4 : Int32) (xs5 : Int32) : Option ((Int32 × Mm) ⊕ (Mm)) :=
  if a3 < xs5 then
    some (.inr μ)
  else
    mbv (vs_Serving_weigh μ xs5) <| fun μ5 =>
    if a1 < (μ5 9 9) then
      vs_Serving_choose_j75 μ5 a1 a3 a4 xs5
    else
      if (xs5 &&& (μ5 9 8)) = (μ5 9 8) then
        if ((μ5 9 10) &&& a4) = a4 then
          vs_Serving_choose_j76 μ5 a1 a3 a4 xs5 1
        else
          vs_Serving_choose_j75 μ5 a1 a3 a4 xs5
      else
        vs_Serving_choose_j75 μ5 a1 a3 a4 xs5
def vs_Serving_choose_l25 (μ : Mm) (a1 : Int32) (a3 : Int32) (a4 : Int32) (xs5 : Int32) : Option ((Mm)) :=
  miter (fun q => vs_Serving_choose_b25 q.2 a1 a3 a4 q.1) FU (xs5, μ)
def vs_Serving_choose (μ : Mm) (a1 : Int32) (a2 : Int32) : Option (Bool × Mm) :=
  mbv (vs_Serving_kindsOffered μ) <| fun x1 =>
  mst μ 9 11 (-1) <| fun μ2 =>
  mbv (vs_Serving_choose_l25 μ2 a1 (((1 : Int32) <<< ((μ 9 7) &&& 31)) - 1) (a2 &&& x1) 0) <| fun μ17 =>
  if (μ17 9 11) = (-1) then
    some (false, μ17)
  else
    some (true, μ17)
def vs_Serving_bestBooks_b4 (μ : Mm) (xs1 : Int32) (xs2 : Int32) : Option ((Int32 × Int32) ⊕ (Int32)) :=
  if (μ 9 7) ≤ xs2 then
    some (.inr xs1)
  else
    mbv (vs_hasBit (μ 9 11) xs2) <| fun x2 =>
    if (bI x2) = 0 then
      some (.inl (xs1, (xs2 + 1)))
    else
      mrd μ 56 12 xs2 <| fun x4 =>
      some (.inl ((xs1 ||| ((1 : Int32) <<< (x4 &&& 31))), (xs2 + 1)))
def vs_Serving_bestBooks_l4 (μ : Mm) (xs1 : Int32) (xs2 : Int32) : Option ((Int32)) :=
  miter (fun q => vs_Serving_bestBooks_b4 μ q.1 q.2) FU (xs1, xs2)
def vs_Serving_bestBooks (μ : Mm) : Option Int32 :=
  mbv (vs_Serving_bestBooks_l4 μ 0 0) <| fun x5 =>
  some x5
def vs_load (μ : Mm) (a1 : Int32) (a2 : Int32) (a3 : Int32) (a4 : Int32) : Option (Int64 × Mm) :=
  mbv (vs_isVan a1) <| fun x1 =>
  if (bI x1) = 0 then
    some ((-1), μ)
  else
    mbv (vs_isMuch a2) <| fun x3 =>
    if (bI x3) = 0 then
      some ((-1), μ)
    else
      mbv (vs_within a3 0 255) <| fun x5 =>
      if (bI x5) = 0 then
        some ((-1), μ)
      else
        mbv (vs_within a4 0 2) <| fun x7 =>
        if (bI x7) = 0 then
          some ((-1), μ)
        else
          mbv (vs_gatherLoad μ a1 a2) <| fun μ10 =>
          mrd μ10 12 3 a1 <| fun x11 =>
          mbm (vs_Serving_choose μ10 x11 a3) <| fun x12 μ13 =>
          if (bI x12) = 0 then
            some ((-2), μ13)
          else
            if a4 = 0 then
              mbv (vs_Serving_bestBooks μ13) <| fun x16 =>
              mbv (vs_asLong x16) <| fun x17 =>
              some (x17, μ13)
            else
            if a4 = 1 then
              some ((((μ13 9 12) : Int32).toInt64), μ13)
            else
            some ((((μ13 9 13) : Int32).toInt64), μ13)
def vs_Books_all (μ : Mm) : Option Int32 :=
  if (μ 2 10) < 32 then
    some (((1 : Int32) <<< ((μ 2 10) &&& 31)) - 1)
  else
    some (-1)
def vs_wantedOf_b6 (μ : Mm) (a1 : Int32) (a2 : Int32) (a3 : Int32) (xs4 : Int32) (xs5 : Int32) : Option ((Int32 × Int32 × Mm) ⊕ (Int32 × Mm)) :=
  if (μ 2 10) ≤ xs5 then
    some (.inr (xs4, μ))
  else
    mbv (vs_hasBit a2 xs5) <| fun x2 =>
    if (bI x2) = 0 then
      some (.inl (xs4, (xs5 + 1), μ))
    else
      mbm (vs_Wishes_wish μ a1 xs5 0 (μ 0 12)) <| fun x4 μ5 =>
      if x4 < a3 then
        some (.inl (xs4, (xs5 + 1), μ5))
      else
        some (.inl ((xs4 ||| ((1 : Int32) <<< (xs5 &&& 31))), (xs5 + 1), μ5))
def vs_wantedOf_l6 (μ : Mm) (a1 : Int32) (a2 : Int32) (a3 : Int32) (xs4 : Int32) (xs5 : Int32) : Option ((Int32 × Mm)) :=
  miter (fun q => vs_wantedOf_b6 q.2.2 a1 a2 a3 q.1 q.2.1) FU (xs4, xs5, μ)
def vs_wantedOf (μ : Mm) (a1 : Int32) (a2 : Int32) (a3 : Int32) : Option (Int32 × Mm) :=
  mbv (vs_wantedOf_l6 μ a1 a2 a3 0 0) <| un2 fun x7 μ8 =>
  some (x7, μ8)
def vs_Arrays_fill_53178_62_b5 (μ : Mm) (a1 : Int32) (a3 : Int32) (xs2 : Int32) : Option ((Int32 × Mm) ⊕ (Mm)) :=
  if a3 ≤ xs2 then
    some (.inr μ)
  else
    mwr μ 62 32 xs2 a1 <| fun μ2 =>
    some (.inl ((xs2 + 1), μ2))
def vs_Arrays_fill_53178_62_l5 (μ : Mm) (a1 : Int32) (a3 : Int32) (xs2 : Int32) : Option ((Mm)) :=
  miter (fun q => vs_Arrays_fill_53178_62_b5 q.2 a1 a3 q.1) FU (xs2, μ)
def vs_Arrays_fill_53178_62 (μ : Mm) (a1 : Int32) : Option Mm :=
  mbv (vs_Arrays_fill_53178_62_l5 μ a1 32 0) <| fun μ3 =>
  some μ3
def vs_Serving_canServe_b10 (rc : Nat → Mm → Int32 → Int32 → Option (Bool × Mm)) (μ : Mm) (a1 : Int32) (a2 : Int32) (xs3 : Int32) : Option ((Int32 × Mm) ⊕ ((Int32 × Mm) ⊕ (Mm))) :=
  if 32 ≤ xs3 then
    some (.inr (.inr μ))
  else
    mrd μ 61 16 a1 <| fun x3 =>
    mbv (vs_hasBit x3 xs3) <| fun x4 =>
    if (bI x4) = 0 then
      some (.inl ((xs3 + 1), μ))
    else
      mbv (vs_hasBit (μ 9 14) xs3) <| fun x6 =>
      if (bI x6) = 0 then
        mst μ 9 14 ((μ 9 14) ||| ((1 : Int32) <<< (xs3 &&& 31))) <| fun μ8 =>
        mrd μ8 62 32 xs3 <| fun x9 =>
        if x9 = (-1) then
          some (.inr (.inl (xs3, μ8)))
        else
          mrd μ8 62 32 xs3 <| fun x11 =>
          mbm (rc 0 μ8 x11 (a2 + 1)) <| fun x12 μ13 =>
          if (bI x12) = 0 then
            some (.inl ((xs3 + 1), μ13))
          else
            some (.inr (.inl (xs3, μ13)))
      else
        some (.inl ((xs3 + 1), μ))
def vs_Serving_canServe_l10 (rc : Nat → Mm → Int32 → Int32 → Option (Bool × Mm)) (μ : Mm) (a1 : Int32) (a2 : Int32) (xs3 : Int32) : Option ((Int32 × Mm) ⊕ (Mm)) :=
  miter (fun q => vs_Serving_canServe_b10 rc q.2 a1 a2 q.1) FU (xs3, μ)
def vs_Serving_canServe_r (rc : Nat → Mm → Int32 → Int32 → Option (Bool × Mm)) (μ : Mm) (a1 : Int32) (a2 : Int32) : Option (Bool × Mm) :=
  if a2 ≤ 16 then
    msum2 (vs_Serving_canServe_l10 rc μ a1 a2 0)
      (un2 fun x16 μ17 =>
        mwr μ17 62 32 x16 a1 <| fun μ18 =>
        some (true, μ18))
      (fun μ19 =>
        some (false, μ19))
  else
    some (false, μ)
def vs_Serving_rec : Nat → Nat → Mm → Int32 → Int32 → Option (Bool × Mm)
  | 0 => fun _ _ _ _ => none
  | n + 1 => fun k μ a1 a2 => match k with
    | _ => vs_Serving_canServe_r (vs_Serving_rec n) μ a1 a2
def vs_Serving_mostReaders_b12 (μ : Mm) (xs1 : Int32) (xs2 : Int32) : Option ((Int32 × Int32 × Mm) ⊕ (Int32 × Mm)) :=
  if 16 ≤ xs2 then
    some (.inr (xs1, μ))
  else
    mst μ 9 14 0 <| fun μ4 =>
    mbm (vs_Serving_rec RF 0 μ4 xs2 0) <| fun x5 μ6 =>
    if (bI x5) = 0 then
      some (.inl (xs1, (xs2 + 1), μ6))
    else
      some (.inl ((xs1 + 1), (xs2 + 1), μ6))
def vs_Serving_mostReaders_l12 (μ : Mm) (xs1 : Int32) (xs2 : Int32) : Option ((Int32 × Mm)) :=
  miter (fun q => vs_Serving_mostReaders_b12 q.2.2 q.1 q.2.1) FU (xs1, xs2, μ)
def vs_Serving_mostReaders (μ : Mm) : Option (Int32 × Mm) :=
  mbv (vs_Arrays_fill_53178_62 μ (-1)) <| fun μ2 =>
  mbv (vs_Serving_mostReaders_l12 μ2 0 0) <| un2 fun x8 μ9 =>
  some (x8, μ9)
def vs_served_b62 (μ : Mm) (a4 : Int32) (a5 : Int32) (a6 : Int32) (xs7 : Int32) : Option ((Int32 × Mm) ⊕ (Mm)) :=
  if 16 ≤ xs7 then
    some (.inr μ)
  else
    mbv (vs_hasBit a6 xs7) <| fun x11 =>
    if (bI x11) = 0 then
      mwr μ 61 16 xs7 0 <| fun μ13 =>
      some (.inl ((xs7 + 1), μ13))
    else
      mbm (vs_wantedOf μ xs7 a5 a4) <| fun x14 μ15 =>
      mwr μ15 61 16 xs7 x14 <| fun μ16 =>
      some (.inl ((xs7 + 1), μ16))
def vs_served_l62 (μ : Mm) (a4 : Int32) (a5 : Int32) (a6 : Int32) (xs7 : Int32) : Option ((Mm)) :=
  miter (fun q => vs_served_b62 q.2 a4 a5 a6 q.1) FU (xs7, μ)
def vs_served (μ : Mm) (a1 : Int32) (a2 : Int64) (a4 : Int32) : Option (Int32 × Mm) :=
  mbv (vs_isVan a1) <| fun x1 =>
  if (bI x1) = 0 then
    some ((-1), μ)
  else
    mbv (vs_isMuch a4) <| fun x3 =>
    if (bI x3) = 0 then
      some ((-1), μ)
    else
      if (lg_cmp a2 0) < 0 then
        some ((-1), μ)
      else
        if (lg_cmp a2 4294967295) ≤ 0 then
          mbv (vs_Books_all μ) <| fun x7 =>
          if (((a2 : Int64).toInt32) &&& (x7 ^^^ (-1))) = 0 then
            mbv (vs_readersToday μ a1) <| fun x9 =>
            mbv (vs_served_l62 μ a4 ((a2 : Int64).toInt32) x9 0) <| fun μ17 =>
            mbm (vs_Serving_mostReaders μ17) <| fun x18 μ19 =>
            some (x18, μ19)
          else
            some ((-1), μ)
        else
          some ((-1), μ)
def vs_Stops_vansAt_b5 (μ : Mm) (a1 : Int32) (a2 : Int32) (xs3 : Int32) (xs4 : Int32) : Option ((Int32 × Int32) ⊕ (Int32)) :=
  if 3 ≤ xs4 then
    some (.inr xs3)
  else
    mbv (vs_Stops_goesTo μ xs4 a1 a2) <| fun x2 =>
    if (bI x2) = 0 then
      some (.inl (xs3, (xs4 + 1)))
    else
      some (.inl ((xs3 ||| ((1 : Int32) <<< (xs4 &&& 31))), (xs4 + 1)))
def vs_Stops_vansAt_l5 (μ : Mm) (a1 : Int32) (a2 : Int32) (xs3 : Int32) (xs4 : Int32) : Option ((Int32)) :=
  miter (fun q => vs_Stops_vansAt_b5 μ a1 a2 q.1 q.2) FU (xs3, xs4)
def vs_Stops_vansAt (μ : Mm) (a1 : Int32) (a2 : Int32) : Option Int32 :=
  mbv (vs_Stops_vansAt_l5 μ a1 a2 0 0) <| fun x4 =>
  some x4
def vs_Stops_visitsUpTo_b5 (μ : Mm) (a1 : Int32) (a2 : Int32) (xs3 : Int32) (xs4 : Int32) : Option ((Int32 × Int32) ⊕ (Int32)) :=
  if a2 < xs4 then
    some (.inr xs3)
  else
    mbv (vs_Stops_vansAt μ a1 xs4) <| fun x2 =>
    mbv (vs_Integer_bitCount_0f7a4 x2) <| fun x3 =>
    some (.inl ((xs3 + x3), (xs4 + 1)))
def vs_Stops_visitsUpTo_l5 (μ : Mm) (a1 : Int32) (a2 : Int32) (xs3 : Int32) (xs4 : Int32) : Option ((Int32)) :=
  miter (fun q => vs_Stops_visitsUpTo_b5 μ a1 a2 q.1 q.2) FU (xs3, xs4)
def vs_Stops_visitsUpTo (μ : Mm) (a1 : Int32) (a2 : Int32) : Option Int32 :=
  mbv (vs_Stops_visitsUpTo_l5 μ a1 a2 0 0) <| fun x4 =>
  some x4
def vs_least_b7 (μ : Mm) (a1 : Int32) (xs2 : Int32) (xs3 : Int32) (xs4 : Int32) : Option ((Int32 × Int32 × Int32) ⊕ (Int32 × Int32)) :=
  if (μ 3 7) ≤ xs4 then
    some (.inr (xs2, xs3))
  else
    mrd μ 25 16 xs4 <| fun x2 =>
    mbv (vs_Stops_visitsUpTo μ x2 (μ 0 12)) <| fun x3 =>
    if x3 ≤ 0 then
      some (.inl (xs2, xs3, (xs4 + 1)))
    else
      if xs2 = (-1) then
        some (.inl (xs4, x3, (xs4 + 1)))
      else
        mrd μ 30 16 xs4 <| fun x6 =>
        mrd μ 30 16 xs2 <| fun x7 =>
        if (x7 * x3) ≤ (x6 * xs3) then
          some (.inl (xs2, xs3, (xs4 + 1)))
        else
          some (.inl (xs4, x3, (xs4 + 1)))
def vs_least_l7 (μ : Mm) (a1 : Int32) (xs2 : Int32) (xs3 : Int32) (xs4 : Int32) : Option ((Int32 × Int32)) :=
  miter (fun q => vs_least_b7 μ a1 q.1 q.2.1 q.2.2) FU (xs2, xs3, xs4)
def vs_least (μ : Mm) (a1 : Int32) : Option Int32 :=
  mbv (vs_least_l7 μ a1 (-1) 0 0) <| un2 fun x9 x10 =>
  if x9 = (-1) then
    some (-1)
  else
    if a1 = 0 then
      some x9
    else
    if a1 = 1 then
      mrd μ 30 16 x9 <| fun x14 =>
      some x14
    else
    if a1 = 2 then
      some x10
    else
    some (-1)
def vs_readersTold_b4 (μ : Mm) (a1 : Int32) (xs2 : Int32) (xs3 : Int32) : Option ((Int32 × Int32) ⊕ (Int32)) :=
  if (μ 4 12) ≤ xs3 then
    some (.inr xs2)
  else
    mrd μ 35 10 xs3 <| fun x2 =>
    if x2 = a1 then
      mrd μ 39 10 xs3 <| fun x4 =>
      some (.inl ((xs2 ||| x4), (xs3 + 1)))
    else
      some (.inl (xs2, (xs3 + 1)))
def vs_readersTold_l4 (μ : Mm) (a1 : Int32) (xs2 : Int32) (xs3 : Int32) : Option ((Int32)) :=
  miter (fun q => vs_readersTold_b4 μ a1 q.1 q.2) FU (xs2, xs3)
def vs_readersTold (μ : Mm) (a1 : Int32) : Option Int32 :=
  mbv (vs_readersTold_l4 μ a1 0 0) <| fun x5 =>
  some x5
def vs_dull_b30 (μ : Mm) (a1 : Int32) (a2 : Int32) (a3 : Int32) (xs4 : Int32) (xs5 : Int32) : Option ((Int32 × Int32 × Mm) ⊕ (Int32 × Mm)) :=
  if (μ 2 10) ≤ xs5 then
    some (.inr (xs4, μ))
  else
    mbv (vs_Books_vanOf μ xs5) <| fun x7 =>
    if x7 = a1 then
      mbm (vs_wantersOf μ xs5 a3 a2) <| fun x9 μ10 =>
      if x9 = 0 then
        some (.inl ((xs4 ||| ((1 : Int32) <<< (xs5 &&& 31))), (xs5 + 1), μ10))
      else
        some (.inl (xs4, (xs5 + 1), μ10))
    else
      some (.inl (xs4, (xs5 + 1), μ))
def vs_dull_l30 (μ : Mm) (a1 : Int32) (a2 : Int32) (a3 : Int32) (xs4 : Int32) (xs5 : Int32) : Option ((Int32 × Mm)) :=
  miter (fun q => vs_dull_b30 q.2.2 a1 a2 a3 q.1 q.2.1) FU (xs4, xs5, μ)
def vs_dull (μ : Mm) (a1 : Int32) (a2 : Int32) : Option (Int64 × Mm) :=
  mbv (vs_isVan a1) <| fun x1 =>
  if (bI x1) = 0 then
    some ((-1), μ)
  else
    mbv (vs_isMuch a2) <| fun x3 =>
    if (bI x3) = 0 then
      some ((-1), μ)
    else
      mbv (vs_readersTold μ a1) <| fun x5 =>
      mbv (vs_dull_l30 μ a1 a2 x5 0 0) <| un2 fun x12 μ13 =>
      mbv (vs_asLong x12) <| fun x14 =>
      some (x14, μ13)
def vs_onward_b29 (μ : Mm) (a1 : Int32) (a2 : Int32) (xs3 : Int32) (xs4 : Int32) (xs5 : Int32) : Option ((Int32 × Int32 × Int32 × Mm) ⊕ (Int32 × Mm)) :=
  if 3 ≤ xs5 then
    some (.inr (xs3, μ))
  else
    mbv (vs_readersTold μ xs5) <| fun x6 =>
    mbm (vs_wantersOf μ a1 x6 a2) <| fun x7 μ8 =>
    mbv (vs_Integer_bitCount_0f7a4 x7) <| fun x9 =>
    if x9 ≤ xs4 then
      some (.inl (xs3, xs4, (xs5 + 1), μ8))
    else
      some (.inl (xs5, x9, (xs5 + 1), μ8))
def vs_onward_l29 (μ : Mm) (a1 : Int32) (a2 : Int32) (xs3 : Int32) (xs4 : Int32) (xs5 : Int32) : Option ((Int32 × Mm)) :=
  miter (fun q => vs_onward_b29 q.2.2.2 a1 a2 q.1 q.2.1 q.2.2.1) FU (xs3, xs4, xs5, μ)
def vs_onward (μ : Mm) (a1 : Int32) (a2 : Int32) : Option (Int32 × Mm) :=
  mbv (vs_Books_has μ a1) <| fun x1 =>
  if (bI x1) = 0 then
    some ((-1), μ)
  else
    mbv (vs_isMuch a2) <| fun x3 =>
    if (bI x3) = 0 then
      some ((-1), μ)
    else
      mbv (vs_onward_l29 μ a1 a2 (-2) 0 0) <| un2 fun x11 μ12 =>
      some (x11, μ12)
def vs_Stops_vansWithin_b6 (μ : Mm) (a1 : Int32) (a3 : Int32) (xs4 : Int32) (xs5 : Int32) : Option ((Int32 × Int32) ⊕ (Int32)) :=
  if a3 < xs5 then
    some (.inr xs4)
  else
    mbv (vs_Stops_vansAt μ a1 xs5) <| fun x2 =>
    some (.inl ((xs4 ||| x2), (xs5 + 1)))
def vs_Stops_vansWithin_l6 (μ : Mm) (a1 : Int32) (a3 : Int32) (xs4 : Int32) (xs5 : Int32) : Option ((Int32)) :=
  miter (fun q => vs_Stops_vansWithin_b6 μ a1 a3 q.1 q.2) FU (xs4, xs5)
def vs_Stops_vansWithin (μ : Mm) (a1 : Int32) (a2 : Int32) (a3 : Int32) : Option Int32 :=
  mbv (vs_Stops_vansWithin_l6 μ a1 a3 0 a2) <| fun x3 =>
  some x3
def vs_different_b54 (μ : Mm) (a1 : Int32) (a3 : Int32) (xs4 : Int32) (xs5 : Int32) : Option ((Int32 × Int32) ⊕ (Int32)) :=
  if (μ 2 10) ≤ xs5 then
    some (.inr xs4)
  else
    mbv (vs_Books_vanOf μ xs5) <| fun x8 =>
    if x8 = (-1) then
      some (.inl (xs4, (xs5 + 1)))
    else
      mbv (vs_hasBit a3 x8) <| fun x10 =>
      if (bI x10) = 0 then
        some (.inl (xs4, (xs5 + 1)))
      else
        mrd μ 23 32 xs5 <| fun x12 =>
        mrd μ 39 10 a1 <| fun x13 =>
        if (x12 &&& x13) = 0 then
          some (.inl ((xs4 + 1), (xs5 + 1)))
        else
          some (.inl (xs4, (xs5 + 1)))
def vs_different_l54 (μ : Mm) (a1 : Int32) (a3 : Int32) (xs4 : Int32) (xs5 : Int32) : Option ((Int32)) :=
  miter (fun q => vs_different_b54 μ a1 a3 q.1 q.2) FU (xs4, xs5)
def vs_different (μ : Mm) (a1 : Int32) (a2 : Int32) : Option Int32 :=
  mbv (vs_Stops_has μ a1) <| fun x1 =>
  if (bI x1) = 0 then
    some (-1)
  else
    mbv (vs_isDay a2) <| fun x3 =>
    if (bI x3) = 0 then
      some (-1)
    else
      mbv (vs_Stops_vansWithin μ a1 a2 (jmin ((a2 + 14) - 1) 199)) <| fun x5 =>
      if x5 = 0 then
        some (-1)
      else
        mbv (vs_different_l54 μ a1 x5 0 0) <| fun x15 =>
        some x15
def vs_pace (μ : Mm) (a1 : Int32) : Option (Bool × Mm) :=
  mbv (vs_within a1 1 9) <| fun x1 =>
  if (bI x1) = 0 then
    some (false, μ)
  else
    mst μ 8 5 a1 <| fun μ3 =>
    some (true, μ3)
def vs_Rounds_xOf (μ : Mm) (a1 : Int32) : Option Int32 :=
  if (μ 8 4) ≤ a1 then
    some 0
  else
    mrd μ 53 8 a1 <| fun x2 =>
    mrd μ 32 10 x2 <| fun x3 =>
    some x3
def vs_Rounds_yOf (μ : Mm) (a1 : Int32) : Option Int32 :=
  if (μ 8 4) ≤ a1 then
    some 0
  else
    mrd μ 53 8 a1 <| fun x2 =>
    mrd μ 33 10 x2 <| fun x3 =>
    some x3
def vs_Rounds_measureWays_b12 (μ : Mm) (a1 : Int32) (xs2 : Int32) : Option ((Int32 × Mm) ⊕ (Mm)) :=
  if (μ 8 4) < xs2 then
    some (.inr μ)
  else
    mbv (vs_Rounds_xOf μ a1) <| fun x3 =>
    mbv (vs_Rounds_xOf μ xs2) <| fun x4 =>
    mbv (vs_Rounds_yOf μ a1) <| fun x5 =>
    mbv (vs_Rounds_yOf μ xs2) <| fun x6 =>
    mwr μ 54 81 ((a1 * 9) + xs2) ((jabs (x3 - x4)) + (jabs (x5 - x6))) <| fun μ7 =>
    some (.inl ((xs2 + 1), μ7))
def vs_Rounds_measureWays_l12 (μ : Mm) (a1 : Int32) (xs2 : Int32) : Option ((Mm)) :=
  miter (fun q => vs_Rounds_measureWays_b12 q.2 a1 q.1) FU (xs2, μ)
def vs_Rounds_measureWays_b2 (μ : Mm) (xs1 : Int32) : Option ((Int32 × Mm) ⊕ (Mm)) :=
  if (μ 8 4) < xs1 then
    some (.inr μ)
  else
    mbv (vs_Rounds_measureWays_l12 μ xs1 0) <| fun μ8 =>
    some (.inl ((xs1 + 1), μ8))
def vs_Rounds_measureWays_l2 (μ : Mm) (xs1 : Int32) : Option ((Mm)) :=
  miter (fun q => vs_Rounds_measureWays_b2 q.2 q.1) FU (xs1, μ)
def vs_Rounds_measureWays (μ : Mm) : Option Mm :=
  mbv (vs_Rounds_measureWays_l2 μ 0) <| fun μ10 =>
  some μ10
def vs_Rounds_nextHome_b8 (μ : Mm) (a1 : Int32) (a2 : Int32) (xs3 : Int32) (xs4 : Int32) (xs5 : Int32) : Option ((Int32 × Int32 × Int32) ⊕ (Int32)) :=
  if (μ 8 4) ≤ xs5 then
    some (.inr xs3)
  else
    mbv (vs_hasBit a1 xs5) <| fun x2 =>
    if (bI x2) = 0 then
      some (.inl (xs3, xs4, (xs5 + 1)))
    else
      mrd μ 54 81 ((a2 * 9) + xs5) <| fun x4 =>
      mrd μ 55 2304 (((a1 &&& (((1 : Int32) <<< (xs5 &&& 31)) ^^^ (-1))) * 9) + xs5) <| fun x5 =>
      if xs4 = (-1) then
        some (.inl (xs5, (x4 + x5), (xs5 + 1)))
      else
        if xs4 ≤ (x4 + x5) then
          some (.inl (xs3, xs4, (xs5 + 1)))
        else
          some (.inl (xs5, (x4 + x5), (xs5 + 1)))
def vs_Rounds_nextHome_l8 (μ : Mm) (a1 : Int32) (a2 : Int32) (xs3 : Int32) (xs4 : Int32) (xs5 : Int32) : Option ((Int32)) :=
  miter (fun q => vs_Rounds_nextHome_b8 μ a1 a2 q.1 q.2.1 q.2.2) FU (xs3, xs4, xs5)
def vs_Rounds_nextHome (μ : Mm) (a1 : Int32) (a2 : Int32) : Option Int32 :=
  mbv (vs_Rounds_nextHome_l8 μ a1 a2 0 (-1) 0) <| fun x8 =>
  some x8
def vs_Rounds_shortestHome (μ : Mm) (a1 : Int32) (a2 : Int32) : Option Int32 :=
  if a1 = 0 then
    mrd μ 54 81 ((a2 * 9) + (μ 8 4)) <| fun x5 =>
    some x5
  else
    mbv (vs_Rounds_nextHome μ a1 a2) <| fun x2 =>
    mrd μ 54 81 ((a2 * 9) + x2) <| fun x3 =>
    mrd μ 55 2304 (((a1 &&& (((1 : Int32) <<< (x2 &&& 31)) ^^^ (-1))) * 9) + x2) <| fun x4 =>
    some (x3 + x4)
def vs_Rounds_shortest_b19 (μ : Mm) (a1 : Int32) (xs2 : Int32) : Option ((Int32 × Mm) ⊕ (Mm)) :=
  if (μ 4 12) ≤ xs2 then
    some (.inr μ)
  else
    if 8 ≤ (μ 8 4) then
      some (.inr μ)
    else
      mbv (vs_hasBit a1 xs2) <| fun x6 =>
      if (bI x6) = 0 then
        some (.inl ((xs2 + 1), μ))
      else
        mwr μ 53 8 (μ 8 4) xs2 <| fun μ8 =>
        mst μ8 8 4 ((μ8 8 4) + 1) <| fun μ9 =>
        some (.inl ((xs2 + 1), μ9))
def vs_Rounds_shortest_l19 (μ : Mm) (a1 : Int32) (xs2 : Int32) : Option ((Mm)) :=
  miter (fun q => vs_Rounds_shortest_b19 q.2 a1 q.1) FU (xs2, μ)
def vs_Rounds_shortest_b96 (μ : Mm) (a2 : Int32) (a3 : Int32) (xs4 : Int32) : Option ((Int32 × Mm) ⊕ (Mm)) :=
  if (μ 8 4) ≤ xs4 then
    some (.inr μ)
  else
    mbv (vs_hasBit a3 xs4) <| fun x15 =>
    if (bI x15) = 0 then
      mbv (vs_Rounds_shortestHome μ a3 xs4) <| fun x17 =>
      mwr μ 55 2304 ((a3 * 9) + xs4) x17 <| fun μ18 =>
      some (.inl ((xs4 + 1), μ18))
    else
      some (.inl ((xs4 + 1), μ))
def vs_Rounds_shortest_l96 (μ : Mm) (a2 : Int32) (a3 : Int32) (xs4 : Int32) : Option ((Mm)) :=
  miter (fun q => vs_Rounds_shortest_b96 q.2 a2 a3 q.1) FU (xs4, μ)
def vs_Rounds_shortest_b88 (μ : Mm) (a2 : Int32) (xs3 : Int32) : Option ((Int32 × Mm) ⊕ (Mm)) :=
  if a2 ≤ xs3 then
    some (.inr μ)
  else
    mbv (vs_Rounds_shortest_l96 μ a2 xs3 0) <| fun μ19 =>
    some (.inl ((xs3 + 1), μ19))
def vs_Rounds_shortest_l88 (μ : Mm) (a2 : Int32) (xs3 : Int32) : Option ((Mm)) :=
  miter (fun q => vs_Rounds_shortest_b88 q.2 a2 q.1) FU (xs3, μ)
def vs_Rounds_shortest_j73 (μ : Mm) : Option (Int32 × Mm) :=
  mbv (vs_Rounds_measureWays μ) <| fun μ12 =>
  mbv (vs_Rounds_shortest_l88 μ12 (((1 : Int32) <<< ((μ12 8 4) &&& 31)) - 1) 0) <| fun μ21 =>
  mbv (vs_Rounds_shortestHome μ21 (((1 : Int32) <<< ((μ12 8 4) &&& 31)) - 1) (μ21 8 4)) <| fun x22 =>
  mwr μ21 55 2304 (((((1 : Int32) <<< ((μ12 8 4) &&& 31)) - 1) * 9) + (μ21 8 4)) x22 <| fun μ23 =>
  mrd μ23 55 2304 (((((1 : Int32) <<< ((μ12 8 4) &&& 31)) - 1) * 9) + (μ23 8 4)) <| fun x24 =>
  some (x24, μ23)
def vs_Rounds_shortest (μ : Mm) (a1 : Int32) : Option (Int32 × Mm) :=
  mst μ 8 4 0 <| fun μ1 =>
  mbv (vs_Integer_bitCount_0f7a4 a1) <| fun x2 =>
  if x2 ≤ 8 then
    mbv (vs_Rounds_shortest_l19 μ1 a1 0) <| fun μ10 =>
    vs_Rounds_shortest_j73 μ10
  else
    some ((-2), μ1)
def vs_Rounds_minutes_b10 (μ : Mm) (a1 : Int32) (xs3 : Int32) (xs4 : Int32) : Option ((Int32 × Int32) ⊕ (Int32)) :=
  if (μ 4 12) ≤ xs4 then
    some (.inr xs3)
  else
    mbv (vs_hasBit a1 xs4) <| fun x2 =>
    if (bI x2) = 0 then
      some (.inl (xs3, (xs4 + 1)))
    else
      mrd μ 34 10 xs4 <| fun x4 =>
      some (.inl ((xs3 + x4), (xs4 + 1)))
def vs_Rounds_minutes_l10 (μ : Mm) (a1 : Int32) (xs3 : Int32) (xs4 : Int32) : Option ((Int32)) :=
  miter (fun q => vs_Rounds_minutes_b10 μ a1 q.1 q.2) FU (xs3, xs4)
def vs_Rounds_minutes (μ : Mm) (a1 : Int32) (a2 : Int32) : Option Int32 :=
  mbv (vs_Rounds_minutes_l10 μ a1 (a2 * (μ 8 5)) 0) <| fun x5 =>
  some x5
def vs_Rounds_stopAt_b27 (μ : Mm) (a1 : Int32) (xs2 : Int32) (xs3 : Int32) (xs4 : Int32) : Option ((Int32 × Int32 × Int32) ⊕ (Int32)) :=
  if a1 < xs4 then
    some (.inr xs3)
  else
    mbv (vs_Rounds_nextHome μ xs2 xs3) <| fun x3 =>
    some (.inl ((xs2 &&& (((1 : Int32) <<< (x3 &&& 31)) ^^^ (-1))), x3, (xs4 + 1)))
def vs_Rounds_stopAt_l27 (μ : Mm) (a1 : Int32) (xs2 : Int32) (xs3 : Int32) (xs4 : Int32) : Option ((Int32)) :=
  miter (fun q => vs_Rounds_stopAt_b27 μ a1 q.1 q.2.1 q.2.2) FU (xs2, xs3, xs4)
def vs_Rounds_stopAt (μ : Mm) (a1 : Int32) : Option Int32 :=
  if a1 < (μ 8 4) then
    mbv (vs_Rounds_stopAt_l27 μ a1 (((1 : Int32) <<< ((μ 8 4) &&& 31)) - 1) (μ 8 4) 0) <| fun x4 =>
    mrd μ 53 8 x4 <| fun x5 =>
    some x5
  else
    some (-1)
def vs_round (μ : Mm) (a1 : Int32) (a2 : Int32) (a3 : Int32) : Option (Int32 × Mm) :=
  mbv (vs_isVan a1) <| fun x1 =>
  if (bI x1) = 0 then
    some ((-1), μ)
  else
    mbv (vs_isDay a2) <| fun x3 =>
    if (bI x3) = 0 then
      some ((-1), μ)
    else
      mbv (vs_within a3 (-1) 8) <| fun x5 =>
      if (bI x5) = 0 then
        some ((-1), μ)
      else
        mbv (vs_Stops_stopsOn μ a1 a2) <| fun x7 =>
        mbm (vs_Rounds_shortest μ x7) <| fun x8 μ9 =>
        if x8 = (-2) then
          some (x8, μ9)
        else
          if a3 = (-1) then
            some (x8, μ9)
          else
            if a3 = 8 then
              mbv (vs_Rounds_minutes μ9 x7 x8) <| fun x14 =>
              some (x14, μ9)
            else
              mbv (vs_Rounds_stopAt μ9 a3) <| fun x13 =>
              some (x13, μ9)
def vs_loansOf_b4 (μ : Mm) (a1 : Int32) (xs2 : Int32) (xs3 : Int32) : Option ((Int32 × Int32) ⊕ (Int32)) :=
  if (μ 3 7) ≤ xs3 then
    some (.inr xs2)
  else
    mrd μ 25 16 xs3 <| fun x2 =>
    if x2 = a1 then
      mrd μ 30 16 xs3 <| fun x4 =>
      some (.inl ((xs2 + x4), (xs3 + 1)))
    else
      some (.inl (xs2, (xs3 + 1)))
def vs_loansOf_l4 (μ : Mm) (a1 : Int32) (xs2 : Int32) (xs3 : Int32) : Option ((Int32)) :=
  miter (fun q => vs_loansOf_b4 μ a1 q.1 q.2) FU (xs2, xs3)
def vs_loansOf (μ : Mm) (a1 : Int32) : Option Int32 :=
  mbv (vs_loansOf_l4 μ a1 0 0) <| fun x5 =>
  some x5
def vs_Stops_toldWith (μ : Mm) (a1 : Int32) : Option Int32 :=
  mrd μ 35 10 a1 <| fun x1 =>
  if x1 = (-1) then
    some 0
  else
    mrd μ 35 10 a1 <| fun x3 =>
    mrd μ 36 10 a1 <| fun x4 =>
    mrd μ 41 42 ((x3 * 14) + x4) <| fun x5 =>
    some x5
def vs_milesSaved (μ : Mm) (a1 : Int32) : Option (Int32 × Mm) :=
  mbv (vs_Stops_toldWith μ a1) <| fun x1 =>
  mbm (vs_Rounds_shortest μ x1) <| fun x2 μ3 =>
  mbm (vs_Rounds_shortest μ3 (x1 &&& (((1 : Int32) <<< (a1 &&& 31)) ^^^ (-1)))) <| fun x4 μ5 =>
  if x2 = (-2) then
    some ((-2), μ5)
  else
    if x4 = (-2) then
      some ((-2), μ5)
    else
      some ((x2 - x4), μ5)
def vs_went (μ : Mm) (a1 : Int32) (a2 : Int32) : Option (Int32 × Mm) :=
  mbv (vs_Stops_has μ a1) <| fun x1 =>
  if (bI x1) = 0 then
    some ((-1), μ)
  else
    if a2 = 0 then
      mbm (vs_milesSaved μ a1) <| fun x4 μ5 =>
      some (x4, μ5)
    else
    if a2 = 1 then
      mrd μ 39 10 a1 <| fun x7 =>
      mbv (vs_Integer_bitCount_0f7a4 x7) <| fun x8 =>
      some (x8, μ)
    else
    if a2 = 2 then
      mbv (vs_loansOf μ a1) <| fun x10 =>
      some (x10, μ)
    else
    some ((-1), μ)
def vs_Stops_lose (μ : Mm) (a1 : Int32) (a2 : Int32) : Option Mm :=
  mwr μ 43 600 ((a1 * 200) + a2) 1 <| fun μ1 =>
  mst μ1 4 13 ((μ1 4 13) + 1) <| fun μ2 =>
  some μ2
def vs_Rounds_growth_j30 (μ : Mm) (a1 : Int32) (a2 : Int32) (a3 : Int32) : Option (Int32 × Mm) :=
  mbv (vs_hasBit a1 a2) <| fun x4 =>
  if (bI x4) = 0 then
    mbm (vs_Rounds_shortest μ (a1 ||| ((1 : Int32) <<< (a2 &&& 31)))) <| fun x6 μ7 =>
    mbv (vs_Rounds_minutes μ7 (a1 ||| ((1 : Int32) <<< (a2 &&& 31))) x6) <| fun x8 =>
    if x8 ≤ a3 then
      mbm (vs_Rounds_shortest μ7 a1) <| fun x10 μ11 =>
      some ((x6 - x10), μ11)
    else
      some ((-1), μ7)
  else
    some (0, μ)
def vs_Rounds_growth (μ : Mm) (a1 : Int32) (a2 : Int32) (a3 : Int32) : Option (Int32 × Mm) :=
  mbv (vs_Integer_bitCount_0f7a4 a1) <| fun x1 =>
  if 8 < x1 then
    some ((-1), μ)
  else
    if x1 = 8 then
      mbv (vs_hasBit a1 a2) <| fun x12 =>
      if (bI x12) = 0 then
        some ((-1), μ)
      else
        vs_Rounds_growth_j30 μ a1 a2 a3
    else
      vs_Rounds_growth_j30 μ a1 a2 a3
def vs_Stops_forgetPut (μ : Mm) (a1 : Int32) : Option Mm :=
  mwr μ 37 10 a1 (-1) <| fun μ1 =>
  mwr μ1 38 10 a1 (-1) <| fun μ2 =>
  some μ2
def vs_Stops_keepPut (μ : Mm) (a1 : Int32) (a2 : Int32) (a3 : Int32) : Option Mm :=
  mwr μ 37 10 a1 a3 <| fun μ1 =>
  mwr μ1 38 10 a1 a2 <| fun μ2 =>
  mrd μ2 42 600 ((a2 * 200) + a3) <| fun x3 =>
  mwr μ2 42 600 ((a2 * 200) + a3) (x3 ||| ((1 : Int32) <<< (a1 &&& 31))) <| fun μ4 =>
  some μ4
def vs_putElsewhere_j66 (μ : Mm) (a1 : Int32) (a3 : Int32) (a4 : Int32) (a5 : Int32) (a6 : Int32) (a7 : Int32) (a8 : Int32) (a9 : Int32) (y0 : Int32) : Option ((Int32 × Int32 × Int32 × Int32 × Mm) ⊕ (Int32 × Int32 × Int32 × Mm)) :=
  if y0 = (-1) then
    some (.inl (a5, a6, a7, (a9 + 1), μ))
  else
    if a5 = (-1) then
      some (.inl (y0, a8, a9, (a9 + 1), μ))
    else
      if a5 ≤ y0 then
        some (.inl (a5, a6, a7, (a9 + 1), μ))
      else
        some (.inl (y0, a8, a9, (a9 + 1), μ))
def vs_putElsewhere_b21 (μ : Mm) (a1 : Int32) (a3 : Int32) (a4 : Int32) (a8 : Int32) (xs5 : Int32) (xs6 : Int32) (xs7 : Int32) (xs9 : Int32) : Option ((Int32 × Int32 × Int32 × Int32 × Mm) ⊕ (Int32 × Int32 × Int32 × Mm)) :=
  if 3 ≤ xs9 then
    some (.inr (xs5, xs6, xs7, μ))
  else
    mbv (vs_Stops_isLost μ xs9 a8) <| fun x3 =>
    if (bI x3) = 0 then
      mbv (vs_Stops_stopsOn μ xs9 a8) <| fun x5 =>
      mbm (vs_Rounds_growth μ x5 a1 a4) <| fun x6 μ7 =>
      vs_putElsewhere_j66 μ7 a1 a3 a4 xs5 xs6 xs7 a8 xs9 x6
    else
      vs_putElsewhere_j66 μ a1 a3 a4 xs5 xs6 xs7 a8 xs9 (-1)
def vs_putElsewhere_l21 (μ : Mm) (a1 : Int32) (a3 : Int32) (a4 : Int32) (a8 : Int32) (xs5 : Int32) (xs6 : Int32) (xs7 : Int32) (xs9 : Int32) : Option ((Int32 × Int32 × Int32 × Mm)) :=
  miter (fun q => vs_putElsewhere_b21 q.2.2.2.2 a1 a3 a4 a8 q.1 q.2.1 q.2.2.1 q.2.2.2.1) FU (xs5, xs6, xs7, xs9, μ)
def vs_putElsewhere_b12 (μ : Mm) (a1 : Int32) (a3 : Int32) (a4 : Int32) (xs5 : Int32) (xs6 : Int32) (xs7 : Int32) (xs8 : Int32) : Option ((Int32 × Int32 × Int32 × Int32 × Mm) ⊕ (Int32 × Int32 × Int32 × Mm)) :=
  if a3 < xs8 then
    some (.inr (xs5, xs6, xs7, μ))
  else
    mbv (vs_putElsewhere_l21 μ a1 a3 a4 xs8 xs5 xs6 xs7 0) <| un4 fun x11 x12 x13 μ14 =>
    some (.inl (x11, x12, x13, (xs8 + 1), μ14))
def vs_putElsewhere_l12 (μ : Mm) (a1 : Int32) (a3 : Int32) (a4 : Int32) (xs5 : Int32) (xs6 : Int32) (xs7 : Int32) (xs8 : Int32) : Option ((Int32 × Int32 × Int32 × Mm)) :=
  miter (fun q => vs_putElsewhere_b12 q.2.2.2.2 a1 a3 a4 q.1 q.2.1 q.2.2.1 q.2.2.2.1) FU (xs5, xs6, xs7, xs8, μ)
def vs_putElsewhere (μ : Mm) (a1 : Int32) (a2 : Int32) (a3 : Int32) (a4 : Int32) : Option (Bool × Mm) :=
  mbv (vs_putElsewhere_l12 μ a1 a3 a4 (-1) (-1) (-1) a2) <| un4 fun x16 x17 x18 μ19 =>
  if x16 = (-1) then
    mbv (vs_Stops_forgetPut μ19 a1) <| fun μ24 =>
    some (false, μ24)
  else
    mbv (vs_Stops_keepPut μ19 a1 x18 x17) <| fun μ22 =>
    some (true, μ22)
def vs_lostDay_b106 (μ : Mm) (a2 : Int32) (a4 : Int32) (a6 : Int32) (a7 : Int32) (xs8 : Int32) (xs9 : Int32) : Option ((Int32 × Int32 × Mm) ⊕ (Int32 × Mm)) :=
  if (μ 4 12) ≤ xs9 then
    some (.inr (xs8, μ))
  else
    mbv (vs_hasBit a6 xs9) <| fun x10 =>
    if (bI x10) = 0 then
      some (.inl (xs8, (xs9 + 1), μ))
    else
      mbm (vs_putElsewhere μ xs9 (a2 + 1) a7 a4) <| fun x12 μ13 =>
      if (bI x12) = 0 then
        some (.inl (xs8, (xs9 + 1), μ13))
      else
        some (.inl ((xs8 + 1), (xs9 + 1), μ13))
def vs_lostDay_l106 (μ : Mm) (a2 : Int32) (a4 : Int32) (a6 : Int32) (a7 : Int32) (xs8 : Int32) (xs9 : Int32) : Option ((Int32 × Mm)) :=
  miter (fun q => vs_lostDay_b106 q.2.2 a2 a4 a6 a7 q.1 q.2.1) FU (xs8, xs9, μ)
def vs_lostDay_j48 (μ : Mm) (a1 : Int32) (a2 : Int32) (a3 : Int32) (a4 : Int32) (y0 : Int32) : Option (Int32 × Mm) :=
  if y0 = 0 then
    some ((-1), μ)
  else
    mbv (vs_Stops_isLost μ a1 a2) <| fun x4 =>
    if (bI x4) = 0 then
      mbv (vs_Stops_stopsOn μ a1 a2) <| fun x6 =>
      mbv (vs_Stops_lose μ a1 a2) <| fun μ8 =>
      mbv (vs_lostDay_l106 μ8 a2 a4 x6 (jmin (a2 + a3) 199) 0 0) <| un2 fun x15 μ16 =>
      some (x15, μ16)
    else
      some ((-1), μ)
def vs_lostDay_j47 (μ : Mm) (a1 : Int32) (a2 : Int32) (a3 : Int32) (a4 : Int32) : Option (Int32 × Mm) :=
  vs_lostDay_j48 μ a1 a2 a3 a4 0
def vs_lostDay (μ : Mm) (a1 : Int32) (a2 : Int32) (a3 : Int32) (a4 : Int32) : Option (Int32 × Mm) :=
  mbv (vs_isVan a1) <| fun x1 =>
  if (bI x1) = 0 then
    vs_lostDay_j47 μ a1 a2 a3 a4
  else
    mbv (vs_within a2 (μ 0 12) 199) <| fun x18 =>
    if (bI x18) = 0 then
      vs_lostDay_j47 μ a1 a2 a3 a4
    else
      mbv (vs_within a3 1 28) <| fun x20 =>
      if (bI x20) = 0 then
        vs_lostDay_j47 μ a1 a2 a3 a4
      else
        mbv (vs_within a4 1 1000) <| fun x22 =>
        if (bI x22) = 0 then
          vs_lostDay_j47 μ a1 a2 a3 a4
        else
          vs_lostDay_j48 μ a1 a2 a3 a4 1
def vs_put (μ : Mm) (a1 : Int32) (a2 : Int32) : Option Int32 :=
  mbv (vs_Stops_has μ a1) <| fun x1 =>
  if (bI x1) = 0 then
    some (-1)
  else
    if a2 = 0 then
      mrd μ 37 10 a1 <| fun x4 =>
      some x4
    else
    if a2 = 1 then
      mrd μ 38 10 a1 <| fun x6 =>
      some x6
    else
    some (-1)
def vs_knownIn (μ : Mm) (a1 : Int32) : Option (Bool × Mm) :=
  mbv (vs_within a1 0 20) <| fun x1 =>
  if (bI x1) = 0 then
    some (false, μ)
  else
    mst μ 6 5 a1 <| fun μ3 =>
    some (true, μ3)
def vs_Acts_placeOf_b6 (μ : Mm) (a1 : Int32) (a2 : Int32) (a3 : Int32) (xs4 : Int32) (xs5 : Int32) : Option ((Int32 × Int32) ⊕ (Int32)) :=
  if (μ 6 4) ≤ xs5 then
    some (.inr xs4)
  else
    mrd μ 48 200 xs5 <| fun x2 =>
    if x2 = a1 then
      mrd μ 50 200 xs5 <| fun x4 =>
      if a2 < x4 then
        some (.inl (xs4, (xs5 + 1)))
      else
        mrd μ 51 200 xs5 <| fun x6 =>
        if a3 < x6 then
          some (.inl (xs4, (xs5 + 1)))
        else
          mrd μ 49 200 xs5 <| fun x8 =>
          some (.inl (x8, (xs5 + 1)))
    else
      some (.inl (xs4, (xs5 + 1)))
def vs_Acts_placeOf_l6 (μ : Mm) (a1 : Int32) (a2 : Int32) (a3 : Int32) (xs4 : Int32) (xs5 : Int32) : Option ((Int32)) :=
  miter (fun q => vs_Acts_placeOf_b6 μ a1 a2 a3 q.1 q.2) FU (xs4, xs5)
def vs_Acts_placeOf (μ : Mm) (a1 : Int32) (a2 : Int32) (a3 : Int32) : Option Int32 :=
  mbv (vs_Acts_placeOf_l6 μ a1 a2 a3 0 0) <| fun x9 =>
  some x9
def vs_where (μ : Mm) (a1 : Int32) (a2 : Int32) (a3 : Int32) : Option Int32 :=
  mbv (vs_Books_has μ a1) <| fun x1 =>
  if (bI x1) = 0 then
    some (-1)
  else
    mbv (vs_within a2 0 (μ 0 12)) <| fun x3 =>
    if (bI x3) = 0 then
      some (-1)
    else
      mbv (vs_within a3 a2 199) <| fun x5 =>
      if (bI x5) = 0 then
        some (-1)
      else
        mbv (vs_Acts_placeOf μ a1 a2 a3) <| fun x7 =>
        some x7
def vs_borrowersOf_b4 (μ : Mm) (a1 : Int32) (xs2 : Int32) (xs3 : Int32) : Option ((Int32 × Int32) ⊕ (Int32)) :=
  if (μ 3 7) ≤ xs3 then
    some (.inr xs2)
  else
    mrd μ 25 16 xs3 <| fun x2 =>
    if x2 = a1 then
      mrd μ 30 16 xs3 <| fun x4 =>
      if x4 ≤ 0 then
        some (.inl (xs2, (xs3 + 1)))
      else
        some (.inl ((xs2 + 1), (xs3 + 1)))
    else
      some (.inl (xs2, (xs3 + 1)))
def vs_borrowersOf_l4 (μ : Mm) (a1 : Int32) (xs2 : Int32) (xs3 : Int32) : Option ((Int32)) :=
  miter (fun q => vs_borrowersOf_b4 μ a1 q.1 q.2) FU (xs2, xs3)
def vs_borrowersOf (μ : Mm) (a1 : Int32) : Option Int32 :=
  mbv (vs_borrowersOf_l4 μ a1 0 0) <| fun x6 =>
  some x6
def vs_Books_loansOfKind_b4 (μ : Mm) (a1 : Int32) (xs2 : Int32) (xs3 : Int32) : Option ((Int32 × Int32) ⊕ (Int32)) :=
  if (μ 2 10) ≤ xs3 then
    some (.inr xs2)
  else
    mrd μ 15 32 xs3 <| fun x2 =>
    if x2 = a1 then
      mrd μ 21 32 xs3 <| fun x4 =>
      some (.inl ((xs2 + x4), (xs3 + 1)))
    else
      some (.inl (xs2, (xs3 + 1)))
def vs_Books_loansOfKind_l4 (μ : Mm) (a1 : Int32) (xs2 : Int32) (xs3 : Int32) : Option ((Int32)) :=
  miter (fun q => vs_Books_loansOfKind_b4 μ a1 q.1 q.2) FU (xs2, xs3)
def vs_Books_loansOfKind (μ : Mm) (a1 : Int32) : Option Int32 :=
  mbv (vs_Books_loansOfKind_l4 μ a1 0 0) <| fun x5 =>
  some x5
def vs_counts (μ : Mm) (a1 : Int32) (a2 : Int32) : Option Int32 :=
  if a1 = 0 then
    mbv (vs_Stops_has μ a2) <| fun x2 =>
    if (bI x2) = 0 then
      some (-1)
    else
      mbv (vs_loansOf μ a2) <| fun x4 =>
      some x4
  else
  if a1 = 1 then
    mbv (vs_within a2 0 7) <| fun x6 =>
    if (bI x6) = 0 then
      some (-1)
    else
      mbv (vs_Books_loansOfKind μ a2) <| fun x8 =>
      some x8
  else
  if a1 = 2 then
    mbv (vs_isVan a2) <| fun x10 =>
    if (bI x10) = 0 then
      some (-1)
    else
      mrd μ 13 3 a2 <| fun x12 =>
      some x12
  else
  if a1 = 3 then
    mbv (vs_Stops_has μ a2) <| fun x14 =>
    if (bI x14) = 0 then
      some (-1)
    else
      mbv (vs_borrowersOf μ a2) <| fun x16 =>
      some x16
  else
  if a1 = 4 then
    mbv (vs_Stops_has μ a2) <| fun x18 =>
    if (bI x18) = 0 then
      some (-1)
    else
      mrd μ 40 10 a2 <| fun x20 =>
      some x20
  else
  if a1 = 5 then
    if a2 = 0 then
      mrd μ 13 3 0 <| fun x23 =>
      mrd μ 13 3 1 <| fun x24 =>
      mrd μ 13 3 2 <| fun x25 =>
      some ((x23 + x24) + x25)
    else
      some (-1)
  else
  some (-1)
def vs_council (μ : Mm) (a1 : Int32) (a2 : Int32) : Option Int32 :=
  mbv (vs_Stops_has μ a1) <| fun x1 =>
  if (bI x1) = 0 then
    some (-1)
  else
    mbv (vs_within a2 1 16) <| fun x3 =>
    if (bI x3) = 0 then
      some (-1)
    else
      mrd μ 39 10 a1 <| fun x5 =>
      mbv (vs_Integer_bitCount_0f7a4 x5) <| fun x6 =>
      if a2 ≤ x6 then
        some x6
      else
        some 0
def vs_Tape_byteAt (μ : Mm) (a1 : Int32) : Option Int32 :=
  mbv (vs_within a1 0 ((μ 1 1) - 1)) <| fun x1 =>
  if (bI x1) = 0 then
    some (-1)
  else
    mrd μ 14 400 a1 <| fun x3 =>
    some x3
def vs_Tape_numberAt_b4 (μ : Mm) (a1 : Int32) (xs2 : Int32) (xs3 : Int32) : Option ((Int32 × Int32) ⊕ (Int32)) :=
  if 4 ≤ xs3 then
    some (.inr xs2)
  else
    mbv (vs_Tape_byteAt μ ((4 * a1) + xs3)) <| fun x2 =>
    some (.inl (((xs2 <<< (8 &&& 31)) ||| (x2 &&& 255)), (xs3 + 1)))
def vs_Tape_numberAt_l4 (μ : Mm) (a1 : Int32) (xs2 : Int32) (xs3 : Int32) : Option ((Int32)) :=
  miter (fun q => vs_Tape_numberAt_b4 μ a1 q.1 q.2) FU (xs2, xs3)
def vs_Tape_numberAt (μ : Mm) (a1 : Int32) : Option Int32 :=
  mbv (vs_Tape_numberAt_l4 μ a1 0 0) <| fun x3 =>
  some x3
def vs_firstWrong_b2 (μ : Mm) (a1 : Int32) (xs2 : Int32) : Option ((Int32) ⊕ ((Int32) ⊕ (Int32) ⊕ (Int32) ⊕ (Unit))) :=
  if a1 ≤ xs2 then
    some (.inr (.inr (.inr (.inr ()))))
  else
    if (μ 2 10) ≤ xs2 then
      some (.inr (.inl xs2))
    else
      mbv (vs_Tape_numberAt μ (3 * xs2)) <| fun x3 =>
      if x3 = xs2 then
        mbv (vs_Tape_numberAt μ ((3 * xs2) + 1)) <| fun x5 =>
        mrd μ 19 32 xs2 <| fun x6 =>
        if x5 = x6 then
          mbv (vs_Tape_numberAt μ ((3 * xs2) + 2)) <| fun x8 =>
          mrd μ 20 32 xs2 <| fun x9 =>
          if x8 = x9 then
            some (.inl (xs2 + 1))
          else
            some (.inr (.inr (.inr (.inl xs2))))
        else
          some (.inr (.inr (.inl xs2)))
      else
        some (.inr (.inl xs2))
def vs_firstWrong_l2 (μ : Mm) (a1 : Int32) (xs2 : Int32) : Option ((Int32) ⊕ (Int32) ⊕ (Int32) ⊕ (Unit)) :=
  miter (fun q => vs_firstWrong_b2 μ a1 q) FU xs2
def vs_firstWrong (μ : Mm) (a1 : Int32) : Option Int32 :=
  msum4 (vs_firstWrong_l2 μ a1 0)
    (fun x12 =>
      some (3 * x12))
    (fun x13 =>
      some ((3 * x13) + 1))
    (fun x14 =>
      some ((3 * x14) + 2))
    (fun _ =>
      if (μ 2 10) ≤ a1 then
        some (-1)
      else
        some (3 * a1))
def vs_Tape_clear (μ : Mm) : Option Mm :=
  mst μ 1 1 0 <| fun μ1 =>
  some μ1
def vs_check (μ : Mm) (a1 : Int32) : Option (Int32 × Mm) :=
  mbv (vs_within a1 0 ((μ 1 1) / 12)) <| fun x1 =>
  if (bI x1) = 0 then
    some ((-2), μ)
  else
    mbv (vs_firstWrong μ a1) <| fun x3 =>
    mbv (vs_Tape_clear μ) <| fun μ5 =>
    some (x3, μ5)
def vs_count (μ : Mm) (a1 : Int32) : Option Int32 :=
  mbv (vs_within a1 10 12) <| fun x1 =>
  if (bI x1) = 0 then
    mbv (vs_within a1 20 ((20 + (μ 4 12)) - 1)) <| fun x3 =>
    if (bI x3) = 0 then
      if a1 = 0 then
        some (μ 0 12)
      else
      if a1 = 1 then
        some (μ 2 10)
      else
      if a1 = 2 then
        some (μ 4 12)
      else
      if a1 = 3 then
        some (μ 3 7)
      else
      if a1 = 4 then
        some (μ 10 8)
      else
      if a1 = 5 then
        some (μ 1 1)
      else
      if a1 = 6 then
        some (μ 6 4)
      else
      if a1 = 7 then
        some (μ 5 4)
      else
      if a1 = 8 then
        some (μ 4 13)
      else
      some (-1)
    else
      mrd μ 39 10 (a1 - 20) <| fun x14 =>
      mbv (vs_Integer_bitCount_0f7a4 x14) <| fun x15 =>
      some x15
  else
    mbv (vs_Books_lengthOn μ (a1 - 10)) <| fun x16 =>
    some x16
def vs_Arrays_fill_53178_f_b5 (μ : Mm) (a1 : Int32) (a3 : Int32) (xs2 : Int32) : Option ((Int32 × Mm) ⊕ (Mm)) :=
  if a3 ≤ xs2 then
    some (.inr μ)
  else
    mwr μ 0 512 xs2 a1 <| fun μ2 =>
    some (.inl ((xs2 + 1), μ2))
def vs_Arrays_fill_53178_f_l5 (μ : Mm) (a1 : Int32) (a3 : Int32) (xs2 : Int32) : Option ((Mm)) :=
  miter (fun q => vs_Arrays_fill_53178_f_b5 q.2 a1 a3 q.1) FU (xs2, μ)
def vs_Arrays_fill_53178_f (μ : Mm) (a1 : Int32) : Option Mm :=
  mbv (vs_Arrays_fill_53178_f_l5 μ a1 512 0) <| fun μ3 =>
  some μ3
def vs_Arrays_fill_53178_h_b5 (μ : Mm) (a1 : Int32) (a3 : Int32) (xs2 : Int32) : Option ((Int32 × Mm) ⊕ (Mm)) :=
  if a3 ≤ xs2 then
    some (.inr μ)
  else
    mwr μ 0 3 xs2 a1 <| fun μ2 =>
    some (.inl ((xs2 + 1), μ2))
def vs_Arrays_fill_53178_h_l5 (μ : Mm) (a1 : Int32) (a3 : Int32) (xs2 : Int32) : Option ((Mm)) :=
  miter (fun q => vs_Arrays_fill_53178_h_b5 q.2 a1 a3 q.1) FU (xs2, μ)
def vs_Arrays_fill_53178_h (μ : Mm) (a1 : Int32) : Option Mm :=
  mbv (vs_Arrays_fill_53178_h_l5 μ a1 3 0) <| fun μ3 =>
  some μ3
def vs_Law_clear_sp (μ : Mm) : Option Mm :=
  mst μ 11 7 0 <| fun μ1 =>
  mst μ1 11 8 0 <| fun μ2 =>
  some μ2
def vs_LawReading_sign (μ : Mm) : Option Int32 :=
  if (μ 77 1) ≤ (μ 77 3) then
    some (-1)
  else
    mrd μ 14 400 (μ 77 3) <| fun x2 =>
    some x2
def vs_LawReading_fail (μ : Mm) (a1 : Int32) : Option (Bool × Mm) :=
  mst μ 77 4 ((1000 * a1) + (μ 77 3)) <| fun μ1 =>
  some (false, μ1)
def vs_Law_emit_sp (μ : Mm) (a1 : Int32) (a2 : Int32) : Option Mm :=
  if 200 ≤ (μ 11 7) then
    some μ
  else
    mwr μ 70 200 (μ 11 7) a1 <| fun μ2 =>
    mwr μ2 71 200 (μ2 11 7) a2 <| fun μ3 =>
    mst μ3 11 7 ((μ3 11 7) + 1) <| fun μ4 =>
    some μ4
def vs_LawReading_open (μ : Mm) (a1 : Int32) : Option (Bool × Mm) :=
  if a1 < 6 then
    mst μ 77 3 ((μ 77 3) + 1) <| fun μ2 =>
    some (true, μ2)
  else
    mbm (vs_LawReading_fail μ 5) <| fun x3 μ4 =>
    some (x3, μ4)
def vs_LawReading_expect (μ : Mm) (a1 : Int32) : Option (Bool × Mm) :=
  mbv (vs_LawReading_sign μ) <| fun x1 =>
  if x1 = a1 then
    mst μ 77 3 ((μ 77 3) + 1) <| fun μ3 =>
    some (true, μ3)
  else
    mbm (vs_LawReading_fail μ 1) <| fun x4 μ5 =>
    some (x4, μ5)
def vs_LawReading_isDigit (a0 : Int32) : Option Bool :=
  mbv (vs_within a0 48 57) <| fun x1 =>
  some x1
def vs_LawReading_readNumber_b4 (μ : Mm) (xs1 : Int32) (xs2 : Int32) : Option ((Int32 × Int32 × Mm) ⊕ ((Mm) ⊕ (Int32 × Mm))) :=
  if 5 < xs2 then
    some (.inr (.inr (xs1, μ)))
  else
    mbv (vs_LawReading_sign μ) <| fun x2 =>
    mbv (vs_LawReading_isDigit x2) <| fun x3 =>
    if (bI x3) = 0 then
      some (.inr (.inr (xs1, μ)))
    else
      if xs2 = 5 then
        some (.inr (.inl μ))
      else
        mbv (vs_LawReading_sign μ) <| fun x6 =>
        mst μ 77 3 ((μ 77 3) + 1) <| fun μ7 =>
        some (.inl ((((xs1 * 10) + x6) - 48), (xs2 + 1), μ7))
def vs_LawReading_readNumber_l4 (μ : Mm) (xs1 : Int32) (xs2 : Int32) : Option ((Mm) ⊕ (Int32 × Mm)) :=
  miter (fun q => vs_LawReading_readNumber_b4 q.2.2 q.1 q.2.1) FU (xs1, xs2, μ)
def vs_LawReading_readNumber (μ : Mm) : Option (Bool × Mm) :=
  msum2 (vs_LawReading_readNumber_l4 μ 0 0)
    (fun μ9 =>
      mbm (vs_LawReading_fail μ9 2) <| fun x10 μ11 =>
      some (x10, μ11))
    (un2 fun x12 μ13 =>
      mbv (vs_Law_emit_sp μ13 0 x12) <| fun μ15 =>
      some (true, μ15))
def vs_LawReading_isFact (a0 : Int32) : Option Bool :=
  if a0 = 98 then
    some true
  else
  if a0 = 99 then
    some false
  else
  if a0 = 100 then
    some false
  else
  if a0 = 101 then
    some false
  else
  if a0 = 102 then
    some true
  else
  if a0 = 103 then
    some false
  else
  if a0 = 104 then
    some true
  else
  if a0 = 105 then
    some false
  else
  if a0 = 106 then
    some false
  else
  if a0 = 107 then
    some true
  else
  if a0 = 108 then
    some true
  else
  if a0 = 109 then
    some false
  else
  if a0 = 110 then
    some true
  else
  if a0 = 111 then
    some false
  else
  if a0 = 112 then
    some true
  else
  if a0 = 113 then
    some false
  else
  if a0 = 114 then
    some true
  else
  if a0 = 115 then
    some true
  else
  if a0 = 116 then
    some true
  else
  if a0 = 117 then
    some false
  else
  if a0 = 118 then
    some false
  else
  if a0 = 119 then
    some false
  else
  if a0 = 120 then
    some true
  else
  if a0 = 121 then
    some true
  else
  some false
def vs_Law_aimHere_sp (μ : Mm) (a1 : Int32) : Option Mm :=
  mbv (vs_within a1 0 199) <| fun x1 =>
  if (bI x1) = 0 then
    some μ
  else
    mwr μ 71 200 a1 (μ 11 7) <| fun μ3 =>
    some μ3
def vs_LawReading_readTest_b8 (rc : Nat → Mm → Int32 → Option (Bool × Mm)) (μ : Mm) (a1 : Int32) (xs2 : Int32) (xs3 : Int32) : Option ((Int32 × Int32 × Mm) ⊕ (Int32 × Mm)) :=
  if 200 ≤ xs3 then
    some (.inr (xs2, μ))
  else
    if xs2 = 0 then
      some (.inr (xs2, μ))
    else
      mbv (vs_LawReading_sign μ) <| fun x5 =>
      if x5 = 124 then
        mst μ 77 3 ((μ 77 3) + 1) <| fun μ7 =>
        mbv (vs_Law_emit_sp μ7 4 0) <| fun μ9 =>
        mbm (rc 1 μ9 a1) <| fun x10 μ11 =>
        mbv (vs_Law_aimHere_sp μ11 (μ 11 7)) <| fun μ13 =>
        some (.inl ((bI x10), (xs3 + 1), μ13))
      else
        some (.inr (xs2, μ))
def vs_LawReading_readTest_l8 (rc : Nat → Mm → Int32 → Option (Bool × Mm)) (μ : Mm) (a1 : Int32) (xs2 : Int32) (xs3 : Int32) : Option ((Int32 × Mm)) :=
  miter (fun q => vs_LawReading_readTest_b8 rc q.2.2 a1 q.1 q.2.1) FU (xs2, xs3, μ)
def vs_LawReading_readTest_r (rc : Nat → Mm → Int32 → Option (Bool × Mm)) (μ : Mm) (a1 : Int32) : Option (Bool × Mm) :=
  mbm (rc 1 μ a1) <| fun x1 μ2 =>
  mbv (vs_LawReading_readTest_l8 rc μ2 a1 (bI x1) 0) <| un2 fun x14 μ15 =>
  mzr x14 <| fun b16 =>
  some (b16, μ15)
def vs_LawReading_readPart_b8 (rc : Nat → Mm → Int32 → Option (Bool × Mm)) (μ : Mm) (a1 : Int32) (xs2 : Int32) (xs3 : Int32) : Option ((Int32 × Int32 × Mm) ⊕ (Int32 × Mm)) :=
  if 200 ≤ xs3 then
    some (.inr (xs2, μ))
  else
    if xs2 = 0 then
      some (.inr (xs2, μ))
    else
      mbv (vs_LawReading_sign μ) <| fun x5 =>
      if x5 = 38 then
        mst μ 77 3 ((μ 77 3) + 1) <| fun μ7 =>
        mbv (vs_Law_emit_sp μ7 3 0) <| fun μ9 =>
        mbm (rc 2 μ9 a1) <| fun x10 μ11 =>
        mbv (vs_Law_aimHere_sp μ11 (μ 11 7)) <| fun μ13 =>
        some (.inl ((bI x10), (xs3 + 1), μ13))
      else
        some (.inr (xs2, μ))
def vs_LawReading_readPart_l8 (rc : Nat → Mm → Int32 → Option (Bool × Mm)) (μ : Mm) (a1 : Int32) (xs2 : Int32) (xs3 : Int32) : Option ((Int32 × Mm)) :=
  miter (fun q => vs_LawReading_readPart_b8 rc q.2.2 a1 q.1 q.2.1) FU (xs2, xs3, μ)
def vs_LawReading_readPart_r (rc : Nat → Mm → Int32 → Option (Bool × Mm)) (μ : Mm) (a1 : Int32) : Option (Bool × Mm) :=
  mbm (rc 2 μ a1) <| fun x1 μ2 =>
  mbv (vs_LawReading_readPart_l8 rc μ2 a1 (bI x1) 0) <| un2 fun x14 μ15 =>
  mzr x14 <| fun b16 =>
  some (b16, μ15)
def vs_LawReading_readPiece_j124 (rc : Nat → Mm → Int32 → Option (Bool × Mm)) (μ : Mm) (a1 : Int32) (a3 : Int32) : Option (Bool × Mm) :=
  mst μ 77 3 ((μ 77 3) + 1) <| fun μ9 =>
  mbm (rc 3 μ9 a1) <| fun x10 μ11 =>
  mbv (vs_Law_emit_sp μ11 a3 0) <| fun μ13 =>
  some (x10, μ13)
def vs_LawReading_readPiece_r (rc : Nat → Mm → Int32 → Option (Bool × Mm)) (μ : Mm) (a1 : Int32) : Option (Bool × Mm) :=
  mbv (vs_LawReading_sign μ) <| fun x1 =>
  if x1 = 33 then
    mbm (vs_LawReading_open μ a1) <| fun x27 μ28 =>
    if (bI x27) = 0 then
      mbv (vs_Law_emit_sp μ28 2 0) <| fun μ31 =>
      some (false, μ31)
    else
      mbm (rc 2 μ28 (a1 + 1)) <| fun x32 μ33 =>
      if (bI x32) = 0 then
        mbv (vs_Law_emit_sp μ33 2 0) <| fun μ36 =>
        some (false, μ36)
      else
        mbv (vs_Law_emit_sp μ33 2 0) <| fun μ38 =>
        some (true, μ38)
  else
    if x1 = 40 then
      mbm (vs_LawReading_open μ a1) <| fun x18 μ19 =>
      if (bI x18) = 0 then
        some (false, μ19)
      else
        mbm (rc 0 μ19 (a1 + 1)) <| fun x21 μ22 =>
        if (bI x21) = 0 then
          some (false, μ22)
        else
          mbm (vs_LawReading_expect μ22 41) <| fun x24 μ25 =>
          if (bI x24) = 0 then
            some (false, μ25)
          else
            some (true, μ25)
    else
      mbm (rc 3 μ a1) <| fun x4 μ5 =>
      if (bI x4) = 0 then
        some (false, μ5)
      else
        mbv (vs_LawReading_sign μ5) <| fun x7 =>
        if x7 = 60 then
          vs_LawReading_readPiece_j124 rc μ5 a1 x7
        else
          if x7 = 62 then
            vs_LawReading_readPiece_j124 rc μ5 a1 x7
          else
            if x7 = 61 then
              vs_LawReading_readPiece_j124 rc μ5 a1 x7
            else
              mbm (vs_LawReading_fail μ5 1) <| fun x16 μ17 =>
              some (x16, μ17)
def vs_LawReading_readSum_j37 (rc : Nat → Mm → Int32 → Option (Bool × Mm)) (μ : Mm) (a1 : Int32) (a3 : Int32) : Option ((Int32 × Int32 × Mm) ⊕ (Int32 × Mm)) :=
  mbv (vs_LawReading_sign μ) <| fun x7 =>
  mst μ 77 3 ((μ 77 3) + 1) <| fun μ8 =>
  mbm (rc 4 μ8 a1) <| fun x9 μ10 =>
  mbv (vs_Law_emit_sp μ10 x7 0) <| fun μ12 =>
  some (.inl ((bI x9), (a3 + 1), μ12))
def vs_LawReading_readSum_b8 (rc : Nat → Mm → Int32 → Option (Bool × Mm)) (μ : Mm) (a1 : Int32) (xs2 : Int32) (xs3 : Int32) : Option ((Int32 × Int32 × Mm) ⊕ (Int32 × Mm)) :=
  if 200 ≤ xs3 then
    some (.inr (xs2, μ))
  else
    if xs2 = 0 then
      some (.inr (xs2, μ))
    else
      mbv (vs_LawReading_sign μ) <| fun x5 =>
      if x5 = 43 then
        vs_LawReading_readSum_j37 rc μ a1 xs3
      else
        mbv (vs_LawReading_sign μ) <| fun x13 =>
        if x13 = 45 then
          vs_LawReading_readSum_j37 rc μ a1 xs3
        else
          some (.inr (xs2, μ))
def vs_LawReading_readSum_l8 (rc : Nat → Mm → Int32 → Option (Bool × Mm)) (μ : Mm) (a1 : Int32) (xs2 : Int32) (xs3 : Int32) : Option ((Int32 × Mm)) :=
  miter (fun q => vs_LawReading_readSum_b8 rc q.2.2 a1 q.1 q.2.1) FU (xs2, xs3, μ)
def vs_LawReading_readSum_r (rc : Nat → Mm → Int32 → Option (Bool × Mm)) (μ : Mm) (a1 : Int32) : Option (Bool × Mm) :=
  mbm (rc 4 μ a1) <| fun x1 μ2 =>
  mbv (vs_LawReading_readSum_l8 rc μ2 a1 (bI x1) 0) <| un2 fun x15 μ16 =>
  mzr x15 <| fun b17 =>
  some (b17, μ16)
def vs_LawReading_readTerm_j46 (rc : Nat → Mm → Int32 → Option (Bool × Mm)) (μ : Mm) (a1 : Int32) (a3 : Int32) : Option ((Int32 × Int32 × Mm) ⊕ (Int32 × Mm)) :=
  mbv (vs_LawReading_sign μ) <| fun x7 =>
  mst μ 77 3 ((μ 77 3) + 1) <| fun μ8 =>
  mbm (rc 5 μ8 a1) <| fun x9 μ10 =>
  mbv (vs_Law_emit_sp μ10 x7 0) <| fun μ12 =>
  some (.inl ((bI x9), (a3 + 1), μ12))
def vs_LawReading_readTerm_b8 (rc : Nat → Mm → Int32 → Option (Bool × Mm)) (μ : Mm) (a1 : Int32) (xs2 : Int32) (xs3 : Int32) : Option ((Int32 × Int32 × Mm) ⊕ (Int32 × Mm)) :=
  if 200 ≤ xs3 then
    some (.inr (xs2, μ))
  else
    if xs2 = 0 then
      some (.inr (xs2, μ))
    else
      mbv (vs_LawReading_sign μ) <| fun x5 =>
      if x5 = 42 then
        vs_LawReading_readTerm_j46 rc μ a1 xs3
      else
        mbv (vs_LawReading_sign μ) <| fun x13 =>
        if x13 = 47 then
          vs_LawReading_readTerm_j46 rc μ a1 xs3
        else
          mbv (vs_LawReading_sign μ) <| fun x15 =>
          if x15 = 37 then
            vs_LawReading_readTerm_j46 rc μ a1 xs3
          else
            some (.inr (xs2, μ))
def vs_LawReading_readTerm_l8 (rc : Nat → Mm → Int32 → Option (Bool × Mm)) (μ : Mm) (a1 : Int32) (xs2 : Int32) (xs3 : Int32) : Option ((Int32 × Mm)) :=
  miter (fun q => vs_LawReading_readTerm_b8 rc q.2.2 a1 q.1 q.2.1) FU (xs2, xs3, μ)
def vs_LawReading_readTerm_r (rc : Nat → Mm → Int32 → Option (Bool × Mm)) (μ : Mm) (a1 : Int32) : Option (Bool × Mm) :=
  mbm (rc 5 μ a1) <| fun x1 μ2 =>
  mbv (vs_LawReading_readTerm_l8 rc μ2 a1 (bI x1) 0) <| un2 fun x17 μ18 =>
  mzr x17 <| fun b19 =>
  some (b19, μ18)
def vs_LawReading_readFactor_r (rc : Nat → Mm → Int32 → Option (Bool × Mm)) (μ : Mm) (a1 : Int32) : Option (Bool × Mm) :=
  mbv (vs_LawReading_sign μ) <| fun x1 =>
  if x1 = 91 then
    mbm (vs_LawReading_open μ a1) <| fun x14 μ15 =>
    if (bI x14) = 0 then
      some (false, μ15)
    else
      mbm (rc 3 μ15 (a1 + 1)) <| fun x17 μ18 =>
      if (bI x17) = 0 then
        some (false, μ18)
      else
        mbm (vs_LawReading_expect μ18 93) <| fun x20 μ21 =>
        if (bI x20) = 0 then
          some (false, μ21)
        else
          some (true, μ21)
  else
    mbv (vs_LawReading_isDigit x1) <| fun x3 =>
    if (bI x3) = 0 then
      mbv (vs_LawReading_isFact x1) <| fun x5 =>
      if (bI x5) = 0 then
        mbm (vs_LawReading_fail μ 1) <| fun x10 μ11 =>
        some (x10, μ11)
      else
        mst μ 77 3 ((μ 77 3) + 1) <| fun μ7 =>
        mbv (vs_Law_emit_sp μ7 1 x1) <| fun μ9 =>
        some (true, μ9)
    else
      mbm (vs_LawReading_readNumber μ) <| fun x12 μ13 =>
      some (x12, μ13)
def vs_LawReading_rec : Nat → Nat → Mm → Int32 → Option (Bool × Mm)
  | 0 => fun _ _ _ => none
  | n + 1 => fun k μ a1 => match k with
    | 0 => vs_LawReading_readTest_r (vs_LawReading_rec n) μ a1
    | 1 => vs_LawReading_readPart_r (vs_LawReading_rec n) μ a1
    | 2 => vs_LawReading_readPiece_r (vs_LawReading_rec n) μ a1
    | 3 => vs_LawReading_readSum_r (vs_LawReading_rec n) μ a1
    | 4 => vs_LawReading_readTerm_r (vs_LawReading_rec n) μ a1
    | _ => vs_LawReading_readFactor_r (vs_LawReading_rec n) μ a1
def vs_LawReading_readClause_j29 (μ : Mm) (a1 : Int32) : Option (Bool × Mm) :=
  if (μ 11 8) < 14 then
    mst μ 77 3 ((μ 77 3) + 1) <| fun μ4 =>
    mwr μ4 72 14 (μ 11 8) a1 <| fun μ5 =>
    mwr μ5 73 14 (μ 11 8) (μ5 11 7) <| fun μ6 =>
    mbm (vs_LawReading_rec RF 3 μ6 0) <| fun x7 μ8 =>
    if (bI x7) = 0 then
      some (false, μ8)
    else
      mwr μ8 74 14 (μ 11 8) (μ8 11 7) <| fun μ10 =>
      mbm (vs_LawReading_expect μ10 40) <| fun x11 μ12 =>
      if (bI x11) = 0 then
        some (false, μ12)
      else
        mbm (vs_LawReading_rec RF 0 μ12 1) <| fun x14 μ15 =>
        if (bI x14) = 0 then
          some (false, μ15)
        else
          mbm (vs_LawReading_expect μ15 41) <| fun x17 μ18 =>
          if (bI x17) = 0 then
            some (false, μ18)
          else
            mwr μ18 75 14 (μ 11 8) (μ18 11 7) <| fun μ20 =>
            mst μ20 11 8 ((μ20 11 8) + 1) <| fun μ21 =>
            some (true, μ21)
  else
    mbm (vs_LawReading_fail μ 4) <| fun x22 μ23 =>
    some (x22, μ23)
def vs_LawReading_readClause (μ : Mm) : Option (Bool × Mm) :=
  mbv (vs_LawReading_sign μ) <| fun x1 =>
  if x1 = 119 then
    vs_LawReading_readClause_j29 μ x1
  else
    if x1 = 100 then
      vs_LawReading_readClause_j29 μ x1
    else
      if x1 = 102 then
        vs_LawReading_readClause_j29 μ x1
      else
        mbm (vs_LawReading_fail μ 1) <| fun x26 μ27 =>
        some (x26, μ27)
def vs_LawReading_read_b7 (μ : Mm) (xs1 : Int32) (xs2 : Int32) : Option ((Int32 × Int32 × Mm) ⊕ (Mm)) :=
  if 200 ≤ xs2 then
    some (.inr μ)
  else
    if xs1 = 0 then
      some (.inr μ)
    else
      if (μ 77 1) ≤ (μ 77 3) then
        some (.inr μ)
      else
        mbm (vs_LawReading_expect μ 59) <| fun x6 μ7 =>
        if (bI x6) = 0 then
          some (.inl (0, (xs2 + 1), μ7))
        else
          mbm (vs_LawReading_readClause μ7) <| fun x9 μ10 =>
          if (bI x9) = 0 then
            some (.inl (0, (xs2 + 1), μ10))
          else
            some (.inl (1, (xs2 + 1), μ10))
def vs_LawReading_read_l7 (μ : Mm) (xs1 : Int32) (xs2 : Int32) : Option ((Mm)) :=
  miter (fun q => vs_LawReading_read_b7 q.2.2 q.1 q.2.1) FU (xs1, xs2, μ)
def vs_LawReading_read (μ : Mm) : Option (Int32 × Mm) :=
  mbm (vs_LawReading_readClause μ) <| fun x1 μ2 =>
  mbv (vs_LawReading_read_l7 μ2 (bI x1) 0) <| fun μ12 =>
  some ((μ12 77 4), μ12)
