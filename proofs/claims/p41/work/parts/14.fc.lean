def fJ3_checkIndex_8e157_L9 (x2 : Option Nat) : Mm → Option (Int32 × Mm) :=
  fail
def fJ3_checkIndex_8e157 (x0 : Int32) (x1 : Int32) : Mm → Option (Int32 × Mm) :=
  if (x0 : Int32) < 0 then
    fail
  else
    if (x0 : Int32) < x1 then
      rtn x0
    else
      fail
def fJ0_checkIndex_df160 (x0 : Int32) (x1 : Int32) : Mm → Option (Unit × Mm) :=
  bnd (fJ3_checkIndex_8e157 x0 x1) fun v2 =>
  rtn ()
def fJ1_charAt_3b067 (x0 : Nat) (x1 : Int32) : Mm → Option (Int32 × Mm) :=
  grd (sbB x0) <|
  bnd (fJ0_checkIndex_df160 x1 (stN x0)) fun _ =>
  grd (sbB x0 && vpB x1 (sW.getD (x0 % 1000) []).length) <|
  grd (nCh (i2c ((stC x0 x1) &&& 255))) (rtn (i2c ((stC x0 x1) &&& 255)))
def fJ0_coder_7d493 (x0 : Nat) : Mm → Option (Int32 × Mm) :=
  if (1 : Int32) = 0 then
    grd ((1 : Int32) == 0 || (1 : Int32) == 1) (rtn 1)
  else
    grd (sbB x0) <|
    grd ((0 : Int32) == 0 || (0 : Int32) == 1) (rtn 0)
def fJ0_isLatin1_aae02 (x0 : Nat) : Mm → Option (Int32 × Mm) :=
  if (1 : Int32) = 0 then
    grd ((0 : Int32) == 0 || (0 : Int32) == 1) (rtn 0)
  else
    grd (sbB x0) <|
    if (0 : Int32) = 0 then
      grd ((1 : Int32) == 0 || (1 : Int32) == 1) (rtn 1)
    else
      grd ((0 : Int32) == 0 || (0 : Int32) == 1) (rtn 0)
def fJ0_length_8abf5 (x0 : Nat) : Mm → Option (Int32 × Mm) :=
  grd (sbB x0) <|
  grd (sbB x0) <|
  grd (sbB x0) <|
  bnd (fJ0_coder_7d493 x0) fun v1 =>
  rtn ((stN x0) >>> (v1 &&& 31))
def fJ0_charAt_5068e (x0 : Nat) (x1 : Int32) : Mm → Option (Int32 × Mm) :=
  grd (sbB x0) <|
  bnd (fJ0_isLatin1_aae02 x0) fun v1 =>
  if (v1 : Int32) = 0 then
    fail
  else
    grd (sbB x0) <|
    bnd (fJ1_charAt_3b067 x0 x1) fun v2 =>
    grd (nCh v2) (rtn v2)
def fX4_init (x0 : Nat) : Mm → Option (Unit × Mm) :=
  rtn ()
def fX0_init (x0 : Nat) : Mm → Option (Unit × Mm) :=
  bnd (pI x0 0 0) fun _ =>
  bnd (pI x0 1 0) fun _ =>
  bnd (nwA 11 41) fun h1 =>
  bnd (pA x0 2 h1) fun _ =>
  bnd (nwA 11 41) fun h2 =>
  bnd (pA x0 3 h2) fun _ =>
  bnd (nwA 11 41) fun h3 =>
  bnd (pA x0 4 h3) fun _ =>
  bnd (nwA 11 41) fun h4 =>
  bnd (pA x0 5 h4) fun _ =>
  bnd (nwO 4) fun h5 =>
  bnd (fX4_init h5) fun _ =>
  bnd (pA x0 6 h5) fun _ =>
  rtn ()
def fX7_allBlack (x0 : Int32) : Mm → Option (Int64 × Mm) :=
  rtn ((lsh 1 x0) - 1)
def fX7_changesOf (x0 : Int64) (x2 : Int32) : Mm → Option (Int64 × Mm) :=
  bnd (fX7_allBlack x2) fun v1 =>
  rtn ((x0 ^^^ (lsh x0 1)) &&& v1)
def fX4_begin (x0 : Nat) (x1 : Int64) (x3 : Int32) : Mm → Option (Unit × Mm) :=
  bnd (pI x0 0 x3) fun _ =>
  bnd (pI x0 1 (-1)) fun _ =>
  bnd (pZ x0 2 0) fun _ =>
  bnd (pJ x0 3 0) fun _ =>
  bnd (pI x0 4 x3) fun _ =>
  bnd (pI x0 5 x3) fun _ =>
  bnd (pJ x0 6 x1) fun _ =>
  bnd (fX7_changesOf x1 x3) fun v1 =>
  bnd (pJ x0 7 v1) fun _ =>
  rtn ()
def fX4_hasEnded (x0 : Nat) : Mm → Option (Int32 × Mm) :=
  bnd (gI x0 1) fun v1 =>
  bnd (gI x0 0) fun v2 =>
  if (v1 : Int32) < v2 then
    grd ((0 : Int32) == 0 || (0 : Int32) == 1) (rtn 0)
  else
    grd ((1 : Int32) == 0 || (1 : Int32) == 1) (rtn 1)
def fJ13_bitCount_95d88 (x0 : Int64) : Mm → Option (Int32 × Mm) :=
  bnd (rtn (x0 - ((lush x0 1) &&& 6148914691236517205))) fun v1 =>
  bnd (rtn ((v1 &&& 3689348814741910323) + ((lush v1 2) &&& 3689348814741910323))) fun v2 =>
  bnd (rtn ((v2 + (lush v2 4)) &&& 1085102592571150095)) fun v3 =>
  bnd (rtn (v3 + (lush v3 8))) fun v4 =>
  bnd (rtn (v4 + (lush v4 16))) fun v5 =>
  bnd (rtn (v5 + (lush v5 32))) fun v6 =>
  rtn (((v6).toInt32) &&& 127)
def fX7_firstBehind (x0 : Int64) (x2 : Int32) (x3 : Int32) : Mm → Option (Int32 × Mm) :=
  bnd (rtn (x0 &&& (lsh (-1) (x2 + 1)))) fun v1 =>
  if ((lg_cmp v1 0) : Int32) = 0 then
    rtn x3
  else
    bnd (fJ13_bitCount_95d88 ((v1 &&& (-v1)) - 1)) fun v2 =>
    rtn v2
def fX4_look_L27 (x0 : Nat) (s0 : Int64) (s1 : Int64) (s2 : Nat) : Mm → Option (Unit × Mm) :=
  bnd (gI x0 1) fun v1 =>
  bnd (gI x0 0) fun v2 =>
  bnd (fX7_firstBehind (s1 &&& s0) v1 v2) fun v3 =>
  bnd (pI s2 4 v3) fun _ =>
  bnd (gJ x0 7) fun v4 =>
  bnd (gI x0 4) fun v5 =>
  bnd (gI x0 0) fun v6 =>
  bnd (fX7_firstBehind v4 v5 v6) fun v7 =>
  bnd (pI x0 5 v7) fun _ =>
  rtn ()
def fX4_look (x0 : Nat) : Mm → Option (Unit × Mm) :=
  bnd (gJ x0 7) fun v8 =>
  bnd (gI x0 2) fun v9 =>
  if (v9 : Int32) = 0 then
    bnd (gJ x0 6) fun v10 =>
    fX4_look_L27 x0 v10 v8 x0
  else
    bnd (gJ x0 6) fun v11 =>
    fX4_look_L27 x0 (v11 ^^^ (-1)) v8 x0
def fX0_putMode (x0 : Nat) (x1 : Int32) (x2 : Int32) (x3 : Int32) (x4 : Int32) : Mm → Option (Unit × Mm) :=
  bnd (gA x0 6) fun v1 =>
  bnd (pI v1 1 x4) fun _ =>
  bnd (gI x0 0) fun v2 =>
  if (v2 : Int32) < 0 then
    rtn ()
  else
    bnd (gI x0 0) fun v3 =>
    if (v3 : Int32) < 41 then
      bnd (gA x0 2) fun v4 =>
      bnd (gI x0 0) fun v5 =>
      bnd (aI v4 v5 x1) fun _ =>
      bnd (gA x0 3) fun v6 =>
      bnd (gI x0 0) fun v7 =>
      bnd (aI v6 v7 x2) fun _ =>
      bnd (gA x0 4) fun v8 =>
      bnd (gI x0 0) fun v9 =>
      bnd (aI v8 v9 x3) fun _ =>
      bnd (gA x0 5) fun v10 =>
      bnd (gI x0 0) fun v11 =>
      bnd (aI v10 v11 x4) fun _ =>
      bnd (gI x0 0) fun v12 =>
      bnd (pI x0 0 (v12 + 1)) fun _ =>
      rtn ()
    else
      rtn ()
def fX0_verticalBits (x0 : Int32) : Mm → Option (Int32 × Mm) :=
  if ((mabs x0) : Int32) = 0 then
    rtn 1
  else if ((mabs x0) : Int32) = 1 then
    rtn 3
  else if ((mabs x0) : Int32) = 2 then
    rtn 6
  else 
    rtn 7
def fX7_numberBits (x0 : Int32) : Mm → Option (Int32 × Mm) :=
  if 8 ≤ (x0 : Int32) then
    rtn 8
  else
    rtn 4
def fX0_addMode_L190 (x0 : Nat) (x3 : Int32) (x4 : Int64) (x8 : Int32) (s0 : Int32) (s1 : Int32) : Mm → Option (Unit × Mm) :=
  bnd (rtn (s1 - s0)) fun v1 =>
  bnd (fX7_firstBehind x4 x8 x3) fun v2 =>
  bnd (fX0_putMode x0 2 v1 (v2 - x8) v2) fun _ =>
  bnd (gI x0 1) fun v3 =>
  bnd (fX7_numberBits v1) fun v4 =>
  bnd (fX7_numberBits (v2 - x8)) fun v5 =>
  bnd (pI x0 1 (v3 + ((3 + v4) + v5))) fun _ =>
  rtn ()
def fX0_addMode_L167 (x0 : Nat) (x3 : Int32) (x4 : Int64) (x8 : Int32) : Mm → Option (Unit × Mm) :=
  bnd (gA x0 6) fun v6 =>
  bnd (gI v6 1) fun v7 =>
  if 0 ≤ (v7 : Int32) then
    bnd (gA x0 6) fun v8 =>
    bnd (gI v8 1) fun v9 =>
    fX0_addMode_L190 x0 x3 x4 x8 v9 x8
  else
    fX0_addMode_L190 x0 x3 x4 x8 0 x8
def fX0_addMode_L161 (s0 : Int32) (s1 : Nat) : Mm → Option (Unit × Mm) :=
  bnd (pZ s1 2 s0) fun _ =>
  rtn ()
def fX0_addMode_L19 (x0 : Nat) (x3 : Int32) (s0 : Int64) : Mm → Option (Unit × Mm) :=
  bnd (fX7_allBlack x3) fun v10 =>
  bnd (rtn (s0 &&& v10)) fun v11 =>
  bnd (fX7_allBlack x3) fun v12 =>
  bnd (rtn ((v11 ^^^ (-1)) &&& v12)) fun v13 =>
  bnd (gA x0 6) fun v14 =>
  bnd (gI v14 1) fun v15 =>
  bnd (fX7_firstBehind v13 v15 x3) fun v16 =>
  bnd (gA x0 6) fun v17 =>
  bnd (gI v17 4) fun v18 =>
  bnd (rtn (v16 - v18)) fun v19 =>
  bnd (gA x0 6) fun v20 =>
  bnd (gI v20 5) fun v21 =>
  if v16 ≤ (v21 : Int32) then
    if (v19 : Int32) < (-3) then
      fX0_addMode_L167 x0 x3 v11 v16
    else
      if 3 < (v19 : Int32) then
        fX0_addMode_L167 x0 x3 v11 v16
      else
        bnd (fX0_putMode x0 1 v19 0 v16) fun _ =>
        bnd (gI x0 1) fun v22 =>
        bnd (fX0_verticalBits v19) fun v23 =>
        bnd (pI x0 1 (v22 + v23)) fun _ =>
        bnd (gA x0 6) fun v24 =>
        bnd (gA x0 6) fun v25 =>
        bnd (gI v25 2) fun v26 =>
        if (v26 : Int32) = 0 then
          fX0_addMode_L161 1 v24
        else
          fX0_addMode_L161 0 v24
  else
    bnd (gA x0 6) fun v27 =>
    bnd (gI v27 5) fun v28 =>
    bnd (fX0_putMode x0 0 0 0 v28) fun _ =>
    bnd (gI x0 1) fun v29 =>
    bnd (pI x0 1 (v29 + 4)) fun _ =>
    rtn ()
def fX0_addMode (x0 : Nat) (x1 : Int64) (x3 : Int32) : Mm → Option (Unit × Mm) :=
  bnd (gA x0 6) fun v30 =>
  bnd (gI v30 2) fun v31 =>
  if (v31 : Int32) = 0 then
    fX0_addMode_L19 x0 x3 (x1 ^^^ (-1))
  else
    fX0_addMode_L19 x0 x3 x1
def fX0_makeFor_L24 : Nat → Nat → Int64 → Int32 → Int32 → Mm → Option (Unit × Mm)
  | 0, _, _, _, _ => fail
  | n + 1, x0, x1, x5, x6 =>
    if (x6 : Int32) ≤ 0 then
      rtn ()
    else
      bnd (gA x0 6) fun v1 =>
      bnd (fX4_hasEnded v1) fun v2 =>
      if (v2 : Int32) = 0 then
        bnd (gA x0 6) fun v3 =>
        bnd (fX4_look v3) fun _ =>
        bnd (fX0_addMode x0 x1 x5) fun _ =>
        fX0_makeFor_L24 n x0 x1 x5 (x6 + (-1))
      else
        rtn ()
def fX0_makeFor (x0 : Nat) (x1 : Int64) (x3 : Int64) (x5 : Int32) : Mm → Option (Unit × Mm) :=
  bnd (pI x0 0 0) fun _ =>
  bnd (pI x0 1 0) fun _ =>
  bnd (gA x0 6) fun v4 =>
  bnd (fX4_begin v4 x3 x5) fun _ =>
  fX0_makeFor_L24 fu x0 x1 x5 41
def fX0_modesOfKind_L25 (k4 : Nat → Int32 → Int32 → Int32 → Mm → Option (Int32 × Mm)) (x0 : Nat) (x1 : Int32) (x2 : Int32) (x3 : Int32) : Mm → Option (Int32 × Mm) :=
  k4 x0 x1 x2 (x3 + 1)
def fX0_modesOfKind_L4 : Nat → Nat → Int32 → Int32 → Int32 → Mm → Option (Int32 × Mm)
  | 0, _, _, _, _ => fail
  | n + 1, x0, x1, x2, x3 =>
    bnd (gI x0 0) fun v1 =>
    if v1 ≤ (x3 : Int32) then
      rtn x2
    else
      bnd (gA x0 2) fun v2 =>
      bnd (lI v2 x3) fun v3 =>
      if (v3 : Int32) = x1 then
        fX0_modesOfKind_L25 (fX0_modesOfKind_L4 n) x0 x1 (x2 + 1) x3
      else
        fX0_modesOfKind_L25 (fX0_modesOfKind_L4 n) x0 x1 x2 x3
def fX0_modesOfKind (x0 : Nat) (x1 : Int32) : Mm → Option (Int32 × Mm) :=
  fX0_modesOfKind_L4 fu x0 x1 0 0
def fX0_modeNumber (x0 : Nat) (x1 : Int32) (x2 : Int32) : Mm → Option (Int32 × Mm) :=
  if (x1 : Int32) < 0 then
    rtn (-9)
  else
    bnd (gI x0 0) fun v1 =>
    if (x1 : Int32) < v1 then
      if (x2 : Int32) = 0 then
        bnd (gA x0 2) fun v2 =>
        bnd (lI v2 x1) fun v3 =>
        rtn v3
      else if (x2 : Int32) = 1 then
        bnd (gA x0 3) fun v4 =>
        bnd (lI v4 x1) fun v5 =>
        rtn v5
      else if (x2 : Int32) = 2 then
        bnd (gA x0 4) fun v6 =>
        bnd (lI v6 x1) fun v7 =>
        rtn v7
      else 
        bnd (gA x0 5) fun v8 =>
        bnd (lI v8 x1) fun v9 =>
        rtn v9
    else
      rtn (-9)
def fX7_span (x0 : Int32) (x1 : Int32) : Mm → Option (Int64 × Mm) :=
  rtn ((lsh 1 x1) - (lsh 1 x0))
def fX4_goTo_L53 (x0 : Nat) (x1 : Int32) (x2 : Int32) : Mm → Option (Int32 × Mm) :=
  bnd (pI x0 1 x1) fun _ =>
  bnd (pZ x0 2 x2) fun _ =>
  grd ((1 : Int32) == 0 || (1 : Int32) == 1) (rtn 1)
def fX4_goTo_L45 (x0 : Nat) (x1 : Int32) (x2 : Int32) (s0 : Int32) (s1 : Int64) (s2 : Nat) : Mm → Option (Int32 × Mm) :=
  bnd (fX7_span s0 x1) fun v1 =>
  bnd (pJ s2 3 (s1 ||| v1)) fun _ =>
  fX4_goTo_L53 x0 x1 x2
def fX4_goTo (x0 : Nat) (x1 : Int32) (x2 : Int32) : Mm → Option (Int32 × Mm) :=
  bnd (gI x0 1) fun v2 =>
  if (x1 : Int32) ≤ v2 then
    grd ((0 : Int32) == 0 || (0 : Int32) == 1) (rtn 0)
  else
    bnd (gI x0 0) fun v3 =>
    if (x1 : Int32) ≤ v3 then
      bnd (gI x0 2) fun v4 =>
      if (v4 : Int32) = 0 then
        fX4_goTo_L53 x0 x1 x2
      else
        bnd (gJ x0 3) fun v5 =>
        bnd (gI x0 1) fun v6 =>
        if 0 ≤ (v6 : Int32) then
          bnd (gI x0 1) fun v7 =>
          fX4_goTo_L45 x0 x1 x2 v7 v5 x0
        else
          fX4_goTo_L45 x0 x1 x2 0 v5 x0
    else
      grd ((0 : Int32) == 0 || (0 : Int32) == 1) (rtn 0)
def fX4_pass (x0 : Nat) : Mm → Option (Int32 × Mm) :=
  bnd (gI x0 5) fun v1 =>
  bnd (gI x0 2) fun v2 =>
  bnd (fX4_goTo x0 v1 v2) fun v3 =>
  grd ((v3 : Int32) == 0 || (v3 : Int32) == 1) (rtn v3)
def fX4_goVertical_L19 (s0 : Int32) (s1 : Int32) (s2 : Nat) : Mm → Option (Int32 × Mm) :=
  bnd (fX4_goTo s2 s1 s0) fun v1 =>
  grd ((v1 : Int32) == 0 || (v1 : Int32) == 1) (rtn v1)
def fX4_goVertical (x0 : Nat) (x1 : Int32) : Mm → Option (Int32 × Mm) :=
  bnd (gI x0 4) fun v2 =>
  bnd (gI x0 2) fun v3 =>
  if (v3 : Int32) = 0 then
    fX4_goVertical_L19 1 (v2 + x1) x0
  else
    fX4_goVertical_L19 0 (v2 + x1) x0
def fX4_goHorizontal_L75 (x0 : Nat) (x5 : Int32) (s0 : Int64) (s1 : Int64) (s2 : Nat) : Mm → Option (Int32 × Mm) :=
  bnd (pJ s2 3 (s1 ||| s0)) fun _ =>
  bnd (pI x0 1 x5) fun _ =>
  grd ((1 : Int32) == 0 || (1 : Int32) == 1) (rtn 1)
def fX4_goHorizontal_L15 (x0 : Nat) (x1 : Int32) (x2 : Int32) (s0 : Int32) : Mm → Option (Int32 × Mm) :=
  bnd (rtn (s0 + x1)) fun v1 =>
  bnd (rtn (v1 + x2)) fun v2 =>
  bnd (gI x0 1) fun v3 =>
  if (v2 : Int32) ≤ v3 then
    grd ((0 : Int32) == 0 || (0 : Int32) == 1) (rtn 0)
  else
    bnd (gI x0 0) fun v4 =>
    if (v2 : Int32) ≤ v4 then
      bnd (gJ x0 3) fun v5 =>
      bnd (gI x0 2) fun v6 =>
      if (v6 : Int32) = 0 then
        bnd (fX7_span v1 v2) fun v7 =>
        fX4_goHorizontal_L75 x0 v2 v7 v5 x0
      else
        bnd (fX7_span s0 v1) fun v8 =>
        fX4_goHorizontal_L75 x0 v2 v8 v5 x0
    else
      grd ((0 : Int32) == 0 || (0 : Int32) == 1) (rtn 0)
def fX4_goHorizontal (x0 : Nat) (x1 : Int32) (x2 : Int32) : Mm → Option (Int32 × Mm) :=
  bnd (gI x0 1) fun v9 =>
  if 0 ≤ (v9 : Int32) then
    bnd (gI x0 1) fun v10 =>
    fX4_goHorizontal_L15 x0 x1 x2 v10
  else
    fX4_goHorizontal_L15 x0 x1 x2 0
def fX0_readUnder_L158 : Mm → Option (Int64 × Mm) :=
  rtn (-1)
def fX0_readUnder_L133 (x0 : Nat) (x4 : Int32) : Mm → Option (Int64 × Mm) :=
  if (x4 : Int32) = 0 then
    fX0_readUnder_L158
  else
    bnd (gA x0 6) fun v1 =>
    bnd (fX4_hasEnded v1) fun v2 =>
    if (v2 : Int32) = 0 then
      fX0_readUnder_L158
    else
      bnd (gA x0 6) fun v3 =>
      bnd (gJ v3 3) fun v4 =>
      rtn v4
def fX0_readUnder_L127 (k15 : Nat → Int32 → Int32 → Mm → Option (Int64 × Mm)) (x0 : Nat) (x4 : Int32) (x5 : Int32) : Mm → Option (Int64 × Mm) :=
  k15 x0 x4 (x5 + 1)
def fX0_readUnder_L15 : Nat → Nat → Int32 → Int32 → Mm → Option (Int64 × Mm)
  | 0, _, _, _ => fail
  | n + 1, x0, x4, x5 =>
    bnd (gI x0 0) fun v5 =>
    if v5 ≤ (x5 : Int32) then
      fX0_readUnder_L133 x0 x4
    else
      if (x4 : Int32) = 0 then
        fX0_readUnder_L133 x0 x4
      else
        bnd (gA x0 6) fun v6 =>
        bnd (fX4_look v6) fun _ =>
        bnd (gA x0 6) fun v7 =>
        bnd (fX4_hasEnded v7) fun v8 =>
        if (v8 : Int32) = 0 then
          bnd (gA x0 2) fun v9 =>
          bnd (lI v9 x5) fun v10 =>
          if (v10 : Int32) = 0 then
            bnd (gA x0 6) fun v23 =>
            bnd (fX4_pass v23) fun v24 =>
            fX0_readUnder_L127 (fX0_readUnder_L15 n) x0 v24 x5
          else
            bnd (gA x0 2) fun v11 =>
            bnd (lI v11 x5) fun v12 =>
            if (v12 : Int32) = 1 then
              bnd (gA x0 6) fun v19 =>
              bnd (gA x0 3) fun v20 =>
              bnd (lI v20 x5) fun v21 =>
              bnd (fX4_goVertical v19 v21) fun v22 =>
              fX0_readUnder_L127 (fX0_readUnder_L15 n) x0 v22 x5
            else
              bnd (gA x0 6) fun v13 =>
              bnd (gA x0 3) fun v14 =>
              bnd (lI v14 x5) fun v15 =>
              bnd (gA x0 4) fun v16 =>
              bnd (lI v16 x5) fun v17 =>
              bnd (fX4_goHorizontal v13 v15 v17) fun v18 =>
              fX0_readUnder_L127 (fX0_readUnder_L15 n) x0 v18 x5
        else
          fX0_readUnder_L127 (fX0_readUnder_L15 n) x0 0 x5
def fX0_readUnder (x0 : Nat) (x1 : Int64) (x3 : Int32) : Mm → Option (Int64 × Mm) :=
  bnd (gA x0 6) fun v25 =>
  bnd (fX4_begin v25 x1 x3) fun _ =>
  fX0_readUnder_L15 fu x0 1 0
def fX1_init (x0 : Nat) : Mm → Option (Unit × Mm) :=
  bnd (pI x0 0 0) fun _ =>
  bnd (pI x0 1 0) fun _ =>
  bnd (nwA 14 10) fun h1 =>
  bnd (pA x0 2 h1) fun _ =>
  rtn ()
def fX2_init_L41 : Nat → Nat → Int32 → Mm → Option (Unit × Mm)
  | 0, _, _ => fail
  | n + 1, x0, x1 =>
    if 6 ≤ (x1 : Int32) then
      rtn ()
    else
      bnd (gA x0 4) fun v1 =>
      bnd (tS 0 x1) fun v2 =>
      bnd (aI v1 x1 v2) fun _ =>
      fX2_init_L41 n x0 (x1 + 1)
def fX2_init (x0 : Nat) : Mm → Option (Unit × Mm) :=
  bnd (nwA 12 20) fun h3 =>
  bnd (pA x0 2 h3) fun _ =>
  bnd (nwA 11 20) fun h4 =>
  bnd (pA x0 3 h4) fun _ =>
  bnd (nwA 11 6) fun h5 =>
  bnd (pA x0 4 h5) fun _ =>
  bnd (pI x0 0 16) fun _ =>
  bnd (pI x0 1 0) fun _ =>
  fX2_init_L41 fu x0 0
def fX2_copyFrom_L56 : Nat → Nat → Nat → Int32 → Mm → Option (Unit × Mm)
  | 0, _, _, _ => fail
  | n + 1, x0, x1, x2 =>
    if 6 ≤ (x2 : Int32) then
      rtn ()
    else
      bnd (gA x0 4) fun v1 =>
      bnd (gA x1 4) fun v2 =>
      bnd (lI v2 x2) fun v3 =>
      bnd (aI v1 x2 v3) fun _ =>
      fX2_copyFrom_L56 n x0 x1 (x2 + 1)
def fX2_copyFrom_L18 : Nat → Nat → Nat → Int32 → Mm → Option (Unit × Mm)
  | 0, _, _, _ => fail
  | n + 1, x0, x1, x2 =>
    if 20 ≤ (x2 : Int32) then
      fX2_copyFrom_L56 fu x0 x1 0
    else
      bnd (gA x0 2) fun v4 =>
      bnd (gA x1 2) fun v5 =>
      bnd (lJ v5 x2) fun v6 =>
      bnd (aJ v4 x2 v6) fun _ =>
      bnd (gA x0 3) fun v7 =>
      bnd (gA x1 3) fun v8 =>
      bnd (lI v8 x2) fun v9 =>
      bnd (aI v7 x2 v9) fun _ =>
      fX2_copyFrom_L18 n x0 x1 (x2 + 1)
def fX2_copyFrom (x0 : Nat) (x1 : Nat) : Mm → Option (Unit × Mm) :=
  bnd (gI x1 0) fun v10 =>
  bnd (pI x0 0 v10) fun _ =>
  bnd (gI x1 1) fun v11 =>
  bnd (pI x0 1 v11) fun _ =>
  fX2_copyFrom_L18 fu x0 x1 0
def fX1_keep_L80 (x0 : Nat) (s0 : Int32) (s1 : Nat) : Mm → Option (Unit × Mm) :=
  bnd (pI s1 1 s0) fun _ =>
  bnd (gI x0 0) fun v1 =>
  bnd (pI x0 0 (mmin (v1 + 1) 10)) fun _ =>
  rtn ()
def fX1_keep_L45 (x0 : Nat) (x1 : Nat) : Mm → Option (Unit × Mm) :=
  bnd (gA x0 2) fun v2 =>
  bnd (gI x0 1) fun v3 =>
  bnd (lQ v2 v3) fun v4 =>
  bnd (nn v4) fun p5 =>
  bnd (fX2_copyFrom p5 x1) fun _ =>
  bnd (gI x0 1) fun v6 =>
  if 10 ≤ ((v6 + 1) : Int32) then
    fX1_keep_L80 x0 0 x0
  else
    bnd (gI x0 1) fun v7 =>
    fX1_keep_L80 x0 (v7 + 1) x0
def fX1_keep (x0 : Nat) (x1 : Nat) : Mm → Option (Unit × Mm) :=
  bnd (gI x0 1) fun v8 =>
  if (v8 : Int32) < 0 then
    rtn ()
  else
    bnd (gI x0 1) fun v9 =>
    if (v9 : Int32) < 10 then
      bnd (gA x0 2) fun v10 =>
      bnd (gI x0 1) fun v11 =>
      bnd (lQ v10 v11) fun v12 =>
      opc v12 (
        bnd (gA x0 2) fun v14 =>
        bnd (gI x0 1) fun v15 =>
        bnd (nwO 2) fun h16 =>
        bnd (fX2_init h16) fun _ =>
        bnd (aA v14 v15 h16) fun _ =>
        fX1_keep_L45 x0 x1) (fun p13 =>
        fX1_keep_L45 x0 x1)
    else
      rtn ()
def fX1_takeBack_L18 (x0 : Nat) (x1 : Nat) (s0 : Int32) : Mm → Option (Int32 × Mm) :=
  bnd (gI x0 0) fun v1 =>
  if (v1 : Int32) ≤ 0 then
    grd ((0 : Int32) == 0 || (0 : Int32) == 1) (rtn 0)
  else
    if 10 ≤ (s0 : Int32) then
      grd ((0 : Int32) == 0 || (0 : Int32) == 1) (rtn 0)
    else
      bnd (gA x0 2) fun v2 =>
      bnd (lQ v2 s0) fun v3 =>
      opc v3 (
        grd ((0 : Int32) == 0 || (0 : Int32) == 1) (rtn 0)) (fun p4 =>
        bnd (gA x0 2) fun v5 =>
        bnd (lQ v5 s0) fun v6 =>
        bnd (nn v6) fun p7 =>
        bnd (fX2_copyFrom x1 p7) fun _ =>
        bnd (pI x0 1 s0) fun _ =>
        bnd (gI x0 0) fun v8 =>
        bnd (pI x0 0 (v8 - 1)) fun _ =>
        grd ((1 : Int32) == 0 || (1 : Int32) == 1) (rtn 1))
def fX1_takeBack (x0 : Nat) (x1 : Nat) : Mm → Option (Int32 × Mm) :=
  bnd (gI x0 1) fun v9 =>
  if (v9 : Int32) ≤ 0 then
    fX1_takeBack_L18 x0 x1 9
  else
    bnd (gI x0 1) fun v10 =>
    fX1_takeBack_L18 x0 x1 (v10 - 1)
def fX1_forget (x0 : Nat) : Mm → Option (Unit × Mm) :=
  bnd (pI x0 0 0) fun _ =>
  rtn ()
def fX2_clear_L41 : Nat → Nat → Int32 → Mm → Option (Unit × Mm)
  | 0, _, _ => fail
  | n + 1, x0, x1 =>
    if 6 ≤ (x1 : Int32) then
      rtn ()
    else
      bnd (gA x0 4) fun v1 =>
      bnd (tS 0 x1) fun v2 =>
      bnd (aI v1 x1 v2) fun _ =>
      fX2_clear_L41 n x0 (x1 + 1)
def fX2_clear_L13 : Nat → Nat → Int32 → Mm → Option (Unit × Mm)
  | 0, _, _ => fail
  | n + 1, x0, x1 =>
    if 20 ≤ (x1 : Int32) then
      fX2_clear_L41 fu x0 0
    else
      bnd (gA x0 2) fun v3 =>
      bnd (aJ v3 x1 0) fun _ =>
      bnd (gA x0 3) fun v4 =>
      bnd (aI v4 x1 0) fun _ =>
      fX2_clear_L13 n x0 (x1 + 1)
def fX2_clear (x0 : Nat) : Mm → Option (Unit × Mm) :=
  bnd (pI x0 0 16) fun _ =>
  bnd (pI x0 1 0) fun _ =>
  fX2_clear_L13 fu x0 0
def fX2_hasLine (x0 : Nat) (x1 : Int32) : Mm → Option (Int32 × Mm) :=
  if (x1 : Int32) < 0 then
    grd ((0 : Int32) == 0 || (0 : Int32) == 1) (rtn 0)
  else
    bnd (gI x0 1) fun v1 =>
    if v1 ≤ (x1 : Int32) then
      grd ((0 : Int32) == 0 || (0 : Int32) == 1) (rtn 0)
    else
      if 20 ≤ (x1 : Int32) then
        grd ((0 : Int32) == 0 || (0 : Int32) == 1) (rtn 0)
      else
        grd ((1 : Int32) == 0 || (1 : Int32) == 1) (rtn 1)
def fX2_rowAt (x0 : Nat) (x1 : Int32) : Mm → Option (Int64 × Mm) :=
  bnd (fX2_hasLine x0 x1) fun v1 =>
  if (v1 : Int32) = 0 then
    rtn 0
  else
    bnd (gA x0 2) fun v2 =>
    bnd (lJ v2 x1) fun v3 =>
    rtn v3
def fX2_putRow (x0 : Nat) (x1 : Int32) (x2 : Int64) : Mm → Option (Unit × Mm) :=
  bnd (fX2_hasLine x0 x1) fun v1 =>
  if (v1 : Int32) = 0 then
    rtn ()
  else
    bnd (gA x0 2) fun v2 =>
    bnd (gI x0 0) fun v3 =>
    bnd (fX7_allBlack v3) fun v4 =>
    bnd (aJ v2 x1 (x2 &&& v4)) fun _ =>
    rtn ()
def fX2_insertRow_L49 (x0 : Nat) (x1 : Int32) (x2 : Int64) : Mm → Option (Unit × Mm) :=
  bnd (gI x0 1) fun v1 =>
  bnd (pI x0 1 (v1 + 1)) fun _ =>
  bnd (fX2_putRow x0 x1 x2) fun _ =>
  rtn ()
def fX2_insertRow_L16 : Nat → Nat → Int32 → Int64 → Int32 → Mm → Option (Unit × Mm)
  | 0, _, _, _, _ => fail
  | n + 1, x0, x1, x2, x4 =>
    if (x4 : Int32) ≤ x1 then
      fX2_insertRow_L49 x0 x1 x2
    else
      if (x4 : Int32) ≤ 0 then
        fX2_insertRow_L49 x0 x1 x2
      else
        bnd (gA x0 2) fun v2 =>
        bnd (gA x0 2) fun v3 =>
        bnd (lJ v3 (x4 - 1)) fun v4 =>
        bnd (aJ v2 x4 v4) fun _ =>
        fX2_insertRow_L16 n x0 x1 x2 (x4 + (-1))
def fX2_insertRow (x0 : Nat) (x1 : Int32) (x2 : Int64) : Mm → Option (Unit × Mm) :=
  bnd (gI x0 1) fun v5 =>
  if (v5 : Int32) < 20 then
    bnd (gI x0 1) fun v6 =>
    fX2_insertRow_L16 fu x0 x1 x2 v6
  else
    rtn ()
def fX2_deleteRow_L21 : Nat → Nat → Int32 → Mm → Option (Unit × Mm)
  | 0, _, _ => fail
  | n + 1, x0, x2 =>
    bnd (gI x0 1) fun v1 =>
    if v1 ≤ (x2 : Int32) then
      rtn ()
    else
      bnd (gA x0 2) fun v2 =>
      bnd (gA x0 2) fun v3 =>
      bnd (lJ v3 (x2 + 1)) fun v4 =>
      bnd (aJ v2 x2 v4) fun _ =>
      fX2_deleteRow_L21 n x0 (x2 + 1)
def fX2_deleteRow (x0 : Nat) (x1 : Int32) : Mm → Option (Unit × Mm) :=
  bnd (fX2_hasLine x0 x1) fun v5 =>
  if (v5 : Int32) = 0 then
    rtn ()
  else
    bnd (gI x0 1) fun v6 =>
    bnd (pI x0 1 (v6 - 1)) fun _ =>
    fX2_deleteRow_L21 fu x0 x1
def fX6_init (x0 : Nat) : Mm → Option (Unit × Mm) :=
  bnd (pI x0 0 0) fun _ =>
  bnd (nwA 10 900) fun h1 =>
  bnd (pA x0 4 h1) fun _ =>
  rtn ()
def fX3_init (x0 : Nat) : Mm → Option (Unit × Mm) :=
  bnd (pI x0 0 0) fun _ =>
  bnd (pI x0 1 (-1)) fun _ =>
  bnd (nwO 6) fun h1 =>
  bnd (fX6_init h1) fun _ =>
  bnd (pA x0 2 h1) fun _ =>
  bnd (nwO 2) fun h2 =>
  bnd (fX2_init h2) fun _ =>
  bnd (pA x0 3 h2) fun _ =>
  bnd (nwO 4) fun h3 =>
  bnd (fX4_init h3) fun _ =>
  bnd (pA x0 4 h3) fun _ =>
  rtn ()
def fX6_byteAt (x0 : Nat) (x1 : Int32) : Mm → Option (Int32 × Mm) :=
  if (x1 : Int32) < 0 then
    rtn (-1)
  else
    bnd (gI x0 0) fun v1 =>
    if v1 ≤ (x1 : Int32) then
      rtn (-1)
    else
      if 900 ≤ (x1 : Int32) then
        rtn (-1)
      else
        bnd (gA x0 4) fun v2 =>
        bnd (lI v2 x1) fun v3 =>
        rtn (v3 &&& 255)
def fX6_isSpace_L12 : Mm → Option (Int32 × Mm) :=
  grd ((1 : Int32) == 0 || (1 : Int32) == 1) (rtn 1)
def fX6_isSpace (x0 : Int32) : Mm → Option (Int32 × Mm) :=
  if (x0 : Int32) = 32 then
    fX6_isSpace_L12
  else
    if (x0 : Int32) = 10 then
      fX6_isSpace_L12
    else
      grd ((0 : Int32) == 0 || (0 : Int32) == 1) (rtn 0)
def fX6_kindOf_L35 (x0 : Int32) : Mm → Option (Int32 × Mm) :=
  if (x0 : Int32) = 46 then
    rtn 3
  else
    if (x0 : Int32) = 35 then
      rtn 3
    else
      if (x0 : Int32) = 45 then
        rtn 4
      else
        if (x0 : Int32) = 59 then
          rtn 5
        else
          rtn 6
def fX6_kindOf_L21 (x0 : Int32) : Mm → Option (Int32 × Mm) :=
  if (x0 : Int32) < 48 then
    fX6_kindOf_L35 x0
  else
    if 57 < (x0 : Int32) then
      fX6_kindOf_L35 x0
    else
      rtn 2
def fX6_kindOf (x0 : Int32) : Mm → Option (Int32 × Mm) :=
  if (x0 : Int32) = (-1) then
    rtn 0
  else
    if (x0 : Int32) < 97 then
      fX6_kindOf_L21 x0
    else
      if 122 < (x0 : Int32) then
        fX6_kindOf_L21 x0
      else
        rtn 1
def fX6_next_L109 : Nat → Nat → Mm → Option (Unit × Mm)
  | 0, _ => fail
  | n + 1, x0 =>
    bnd (gI x0 3) fun v1 =>
    bnd (gI x0 0) fun v2 =>
    if v2 ≤ (v1 : Int32) then
      rtn ()
    else
      bnd (gI x0 3) fun v3 =>
      bnd (fX6_byteAt x0 v3) fun v4 =>
      bnd (fX6_kindOf v4) fun v5 =>
      bnd (gI x0 1) fun v6 =>
      if (v5 : Int32) = v6 then
        bnd (gI x0 3) fun v7 =>
        bnd (pI x0 3 (v7 + 1)) fun _ =>
        fX6_next_L109 n x0
      else
        rtn ()
def fX6_next_L82 (x0 : Nat) (s0 : Int32) (s1 : Nat) : Mm → Option (Unit × Mm) :=
  bnd (pI s1 3 s0) fun _ =>
  bnd (gI x0 1) fun v8 =>
  if (v8 : Int32) = 1 then
    fX6_next_L109 fu x0
  else
    bnd (gI x0 1) fun v9 =>
    if (v9 : Int32) = 2 then
      fX6_next_L109 fu x0
    else
      bnd (gI x0 1) fun v10 =>
      if (v10 : Int32) = 3 then
        fX6_next_L109 fu x0
      else
        rtn ()
def fX6_next_L46 (x0 : Nat) : Mm → Option (Unit × Mm) :=
  bnd (gI x0 2) fun v11 =>
  bnd (fX6_byteAt x0 v11) fun v12 =>
  bnd (fX6_kindOf v12) fun v13 =>
  bnd (pI x0 1 v13) fun _ =>
  bnd (gI x0 1) fun v14 =>
  if (v14 : Int32) = 0 then
    bnd (gI x0 2) fun v16 =>
    fX6_next_L82 x0 v16 x0
  else
    bnd (gI x0 2) fun v15 =>
    fX6_next_L82 x0 (v15 + 1) x0
def fX6_next_L8 : Nat → Nat → Mm → Option (Unit × Mm)
  | 0, _ => fail
  | n + 1, x0 =>
    bnd (gI x0 2) fun v17 =>
    bnd (gI x0 0) fun v18 =>
    if v18 ≤ (v17 : Int32) then
      fX6_next_L46 x0
    else
      bnd (gI x0 2) fun v19 =>
      bnd (fX6_byteAt x0 v19) fun v20 =>
      bnd (fX6_isSpace v20) fun v21 =>
      if (v21 : Int32) = 0 then
        fX6_next_L46 x0
      else
        bnd (gI x0 2) fun v22 =>
        bnd (pI x0 2 (v22 + 1)) fun _ =>
        fX6_next_L8 n x0
def fX6_next (x0 : Nat) : Mm → Option (Unit × Mm) :=
  bnd (gI x0 3) fun v23 =>
  bnd (pI x0 2 v23) fun _ =>
  fX6_next_L8 fu x0
def fX6_begin (x0 : Nat) : Mm → Option (Unit × Mm) :=
  bnd (pI x0 3 0) fun _ =>
  bnd (fX6_next x0) fun _ =>
  rtn ()
def fX6_isWord_L28 : Nat → Nat → Nat → Int32 → Mm → Option (Int32 × Mm)
  | 0, _, _, _ => fail
  | n + 1, x0, x1, x2 =>
    grd (sbB x1) <|
    bnd (fJ0_length_8abf5 x1) fun v1 =>
    if v1 ≤ (x2 : Int32) then
      grd ((1 : Int32) == 0 || (1 : Int32) == 1) (rtn 1)
    else
      bnd (gI x0 2) fun v2 =>
      bnd (fX6_byteAt x0 (v2 + x2)) fun v3 =>
      grd (sbB x1) <|
      bnd (fJ0_charAt_5068e x1 x2) fun v4 =>
      if (v3 : Int32) = v4 then
        fX6_isWord_L28 n x0 x1 (x2 + 1)
      else
        grd ((0 : Int32) == 0 || (0 : Int32) == 1) (rtn 0)
def fX6_isWord (x0 : Nat) (x1 : Nat) : Mm → Option (Int32 × Mm) :=
  bnd (gI x0 1) fun v5 =>
  if (v5 : Int32) = 1 then
    bnd (gI x0 3) fun v6 =>
    bnd (gI x0 2) fun v7 =>
    grd (sbB x1) <|
    bnd (fJ0_length_8abf5 x1) fun v8 =>
    if ((v6 - v7) : Int32) = v8 then
      fX6_isWord_L28 fu x0 x1 0
    else
      grd ((0 : Int32) == 0 || (0 : Int32) == 1) (rtn 0)
  else
    grd ((0 : Int32) == 0 || (0 : Int32) == 1) (rtn 0)
def fX3_failHere (x0 : Nat) (x1 : Int32) : Mm → Option (Int32 × Mm) :=
  bnd (pI x0 0 x1) fun _ =>
  bnd (gA x0 2) fun v1 =>
  bnd (gI v1 2) fun v2 =>
  bnd (pI x0 1 v2) fun _ =>
  grd ((0 : Int32) == 0 || (0 : Int32) == 1) (rtn 0)
def fX6_number_L7 : Nat → Nat → Int32 → Int32 → Mm → Option (Int32 × Mm)
  | 0, _, _, _ => fail
  | n + 1, x0, x1, x2 =>
    bnd (gI x0 3) fun v1 =>
    if v1 ≤ (x2 : Int32) then
      rtn x1
    else
      bnd (fX6_byteAt x0 x2) fun v2 =>
      bnd (rtn (mmin 1000 (((x1 * 10) + v2) - 48))) fun v3 =>
      fX6_number_L7 n x0 v3 (x2 + 1)
def fX6_number (x0 : Nat) : Mm → Option (Int32 × Mm) :=
  bnd (gI x0 2) fun v4 =>
  fX6_number_L7 fu x0 0 v4
def fX3_needNumber_L43 : Mm → Option (Int32 × Mm) :=
  grd ((1 : Int32) == 0 || (1 : Int32) == 1) (rtn 1)
def fX3_needNumber_L35 (x0 : Nat) : Mm → Option (Int32 × Mm) :=
  bnd (fX3_failHere x0 2) fun v1 =>
  if (v1 : Int32) = 0 then
    grd ((0 : Int32) == 0 || (0 : Int32) == 1) (rtn 0)
  else
    fX3_needNumber_L43
def fX3_needNumber (x0 : Nat) (x1 : Int32) (x2 : Int32) : Mm → Option (Int32 × Mm) :=
  bnd (gA x0 2) fun v2 =>
  bnd (gI v2 1) fun v3 =>
  if (v3 : Int32) = 2 then
    bnd (gA x0 2) fun v4 =>
    bnd (fX6_number v4) fun v5 =>
    if (v5 : Int32) < x1 then
      fX3_needNumber_L35 x0
    else
      if (v5 : Int32) ≤ x2 then
        fX3_needNumber_L43
      else
        fX3_needNumber_L35 x0
  else
    bnd (fX3_failHere x0 1) fun v6 =>
    grd ((v6 : Int32) == 0 || (v6 : Int32) == 1) (rtn v6)
def fX3_readSemicolon (x0 : Nat) : Mm → Option (Int32 × Mm) :=
  bnd (gA x0 2) fun v1 =>
  bnd (gI v1 1) fun v2 =>
  if (v2 : Int32) = 5 then
    bnd (gA x0 2) fun v3 =>
    bnd (fX6_next v3) fun _ =>
    grd ((1 : Int32) == 0 || (1 : Int32) == 1) (rtn 1)
  else
    bnd (fX3_failHere x0 1) fun v4 =>
    grd ((v4 : Int32) == 0 || (v4 : Int32) == 1) (rtn v4)
def fX3_readWide (x0 : Nat) : Mm → Option (Int32 × Mm) :=
  bnd (gA x0 2) fun v1 =>
  bnd (fX6_next v1) fun _ =>
  bnd (fX3_needNumber x0 8 40) fun v2 =>
  if (v2 : Int32) = 0 then
    grd ((0 : Int32) == 0 || (0 : Int32) == 1) (rtn 0)
  else
    bnd (gA x0 3) fun v3 =>
    bnd (gA x0 2) fun v4 =>
    bnd (fX6_number v4) fun v5 =>
    bnd (pI v3 0 v5) fun _ =>
    bnd (gA x0 2) fun v6 =>
    bnd (fX6_next v6) fun _ =>
    bnd (fX3_readSemicolon x0) fun v7 =>
    grd ((v7 : Int32) == 0 || (v7 : Int32) == 1) (rtn v7)
def fX3_readSet (x0 : Nat) : Mm → Option (Int32 × Mm) :=
  bnd (gA x0 2) fun v1 =>
  bnd (fX6_next v1) fun _ =>
  bnd (fX3_needNumber x0 0 5) fun v2 =>
  if (v2 : Int32) = 0 then
    grd ((0 : Int32) == 0 || (0 : Int32) == 1) (rtn 0)
  else
    bnd (gA x0 2) fun v3 =>
    bnd (fX6_number v3) fun v4 =>
    bnd (gA x0 2) fun v5 =>
    bnd (fX6_next v5) fun _ =>
    if (v4 : Int32) < 0 then
      grd ((0 : Int32) == 0 || (0 : Int32) == 1) (rtn 0)
    else
      if 6 ≤ (v4 : Int32) then
        grd ((0 : Int32) == 0 || (0 : Int32) == 1) (rtn 0)
      else
        bnd (tS 1 v4) fun v6 =>
        bnd (tS 2 v4) fun v7 =>
        bnd (fX3_needNumber x0 v6 v7) fun v8 =>
        if (v8 : Int32) = 0 then
          grd ((0 : Int32) == 0 || (0 : Int32) == 1) (rtn 0)
        else
          bnd (gA x0 3) fun v9 =>
          bnd (gA v9 4) fun v10 =>
          bnd (gA x0 2) fun v11 =>
          bnd (fX6_number v11) fun v12 =>
          bnd (aI v10 v4 v12) fun _ =>
          bnd (gA x0 2) fun v13 =>
          bnd (fX6_next v13) fun _ =>
          bnd (fX3_readSemicolon x0) fun v14 =>
          grd ((v14 : Int32) == 0 || (v14 : Int32) == 1) (rtn v14)
def fX3_readLoss (x0 : Nat) : Mm → Option (Int32 × Mm) :=
  bnd (gA x0 2) fun v1 =>
  bnd (fX6_next v1) fun _ =>
  bnd (fX3_needNumber x0 0 19) fun v2 =>
  if (v2 : Int32) = 0 then
    grd ((0 : Int32) == 0 || (0 : Int32) == 1) (rtn 0)
  else
    bnd (gA x0 2) fun v3 =>
    bnd (fX6_number v3) fun v4 =>
    bnd (gA x0 2) fun v5 =>
    bnd (fX6_next v5) fun _ =>
    if (v4 : Int32) < 0 then
      grd ((0 : Int32) == 0 || (0 : Int32) == 1) (rtn 0)
    else
      if 20 ≤ (v4 : Int32) then
        grd ((0 : Int32) == 0 || (0 : Int32) == 1) (rtn 0)
      else
        bnd (fX3_needNumber x0 0 5) fun v6 =>
        if (v6 : Int32) = 0 then
          grd ((0 : Int32) == 0 || (0 : Int32) == 1) (rtn 0)
        else
          bnd (gA x0 3) fun v7 =>
          bnd (gA v7 3) fun v8 =>
          bnd (gA x0 2) fun v9 =>
          bnd (fX6_number v9) fun v10 =>
          bnd (aI v8 v4 v10) fun _ =>
          bnd (gA x0 2) fun v11 =>
          bnd (fX6_next v11) fun _ =>
          bnd (fX3_readSemicolon x0) fun v12 =>
          grd ((v12 : Int32) == 0 || (v12 : Int32) == 1) (rtn v12)
def fX6_signs (x0 : Nat) : Mm → Option (Int32 × Mm) :=
  bnd (gI x0 3) fun v1 =>
  bnd (gI x0 2) fun v2 =>
  rtn (v1 - v2)
def fX6_dots_L44 (k4 : Nat → Int64 → Int32 → Mm → Option (Int64 × Mm)) (x0 : Nat) (x1 : Int64) (x3 : Int32) : Mm → Option (Int64 × Mm) :=
  k4 x0 x1 (x3 + 1)
def fX6_dots_L4 : Nat → Nat → Int64 → Int32 → Mm → Option (Int64 × Mm)
  | 0, _, _, _ => fail
  | n + 1, x0, x1, x3 =>
    bnd (gI x0 3) fun v1 =>
    bnd (gI x0 2) fun v2 =>
    if (v1 - v2) ≤ (x3 : Int32) then
      rtn x1
    else
      if 40 ≤ (x3 : Int32) then
        rtn x1
      else
        bnd (gI x0 2) fun v3 =>
        bnd (fX6_byteAt x0 (v3 + x3)) fun v4 =>
        if (v4 : Int32) = 35 then
          bnd (rtn (x1 ||| (lsh 1 x3))) fun v5 =>
          fX6_dots_L44 (fX6_dots_L4 n) x0 v5 x3
        else
          fX6_dots_L44 (fX6_dots_L4 n) x0 x1 x3
def fX6_dots (x0 : Nat) : Mm → Option (Int64 × Mm) :=
  fX6_dots_L4 fu x0 0 0
def fX3_readRow (x0 : Nat) : Mm → Option (Int32 × Mm) :=
  bnd (gA x0 2) fun v1 =>
  bnd (gI v1 1) fun v2 =>
  if (v2 : Int32) = 3 then
    bnd (gA x0 2) fun v3 =>
    bnd (fX6_signs v3) fun v4 =>
    bnd (gA x0 3) fun v5 =>
    bnd (gI v5 0) fun v6 =>
    if (v4 : Int32) = v6 then
      bnd (gA x0 3) fun v7 =>
      bnd (gA x0 3) fun v8 =>
      bnd (gI v8 1) fun v9 =>
      bnd (gA x0 2) fun v10 =>
      bnd (fX6_dots v10) fun v11 =>
      bnd (fX2_insertRow v7 v9 v11) fun _ =>
      bnd (gA x0 2) fun v12 =>
      bnd (fX6_next v12) fun _ =>
      bnd (fX3_readSemicolon x0) fun v13 =>
      grd ((v13 : Int32) == 0 || (v13 : Int32) == 1) (rtn v13)
    else
      bnd (fX3_failHere x0 3) fun v14 =>
      grd ((v14 : Int32) == 0 || (v14 : Int32) == 1) (rtn v14)
  else
    bnd (fX3_failHere x0 1) fun v15 =>
    grd ((v15 : Int32) == 0 || (v15 : Int32) == 1) (rtn v15)
def fX3_endCode (x0 : Nat) (x1 : Int32) (x2 : Int64) : Mm → Option (Int32 × Mm) :=
  bnd (gA x0 2) fun v1 =>
  bnd (gI v1 1) fun v2 =>
  if (v2 : Int32) = 5 then
    if (x1 : Int32) = 0 then
      bnd (fX3_failHere x0 3) fun v7 =>
      grd ((v7 : Int32) == 0 || (v7 : Int32) == 1) (rtn v7)
    else
      bnd (gA x0 3) fun v3 =>
      bnd (gA x0 3) fun v4 =>
      bnd (gI v4 1) fun v5 =>
      bnd (fX2_insertRow v3 v5 x2) fun _ =>
      bnd (gA x0 2) fun v6 =>
      bnd (fX6_next v6) fun _ =>
      grd ((1 : Int32) == 0 || (1 : Int32) == 1) (rtn 1)
  else
    bnd (fX3_failHere x0 1) fun v8 =>
    grd ((v8 : Int32) == 0 || (v8 : Int32) == 1) (rtn v8)
def fX3_readAlone_L165 (x1 : Int64) (s0 : Int32) (s1 : Nat) : Mm → Option (Int32 × Mm) :=
  bnd (fX3_endCode s1 s0 x1) fun v1 =>
  grd ((v1 : Int32) == 0 || (v1 : Int32) == 1) (rtn v1)
def fX3_readAlone_L148 (x0 : Nat) (x1 : Int64) (x3 : Int32) : Mm → Option (Int32 × Mm) :=
  bnd (gA x0 3) fun v2 =>
  bnd (gI v2 0) fun v3 =>
  if (x3 : Int32) = v3 then
    fX3_readAlone_L165 x1 1 x0
  else
    fX3_readAlone_L165 x1 0 x0
def fX3_readAlone_L130 (k36 : Nat → Int64 → Int32 → Int32 → Int32 → Int32 → Mm → Option (Int32 × Mm)) (x0 : Nat) (x1 : Int64) (x3 : Int32) (x6 : Int32) (s0 : Int32) : Mm → Option (Int32 × Mm) :=
  bnd (gA x0 2) fun v4 =>
  bnd (fX6_next v4) fun _ =>
  k36 x0 x1 x3 s0 1 (x6 + (-1))
def fX3_readAlone_L115 (k36 : Nat → Int64 → Int32 → Int32 → Int32 → Int32 → Mm → Option (Int32 × Mm)) (x0 : Nat) (x4 : Int32) (x6 : Int32) (x7 : Int32) (s0 : Int64) (s1 : Int64) : Mm → Option (Int32 × Mm) :=
  bnd (rtn (s1 ||| s0)) fun v5 =>
  if (x4 : Int32) = 0 then
    fX3_readAlone_L130 k36 x0 v5 x7 x6 1
  else
    fX3_readAlone_L130 k36 x0 v5 x7 x6 0
def fX3_readAlone_L36 : Nat → Nat → Int64 → Int32 → Int32 → Int32 → Int32 → Mm → Option (Int32 × Mm)
  | 0, _, _, _, _, _, _ => fail
  | n + 1, x0, x1, x3, x4, x5, x6 =>
    if (x6 : Int32) ≤ 0 then
      fX3_readAlone_L148 x0 x1 x3
    else
      bnd (gA x0 2) fun v6 =>
      bnd (gI v6 1) fun v7 =>
      if (v7 : Int32) = 2 then
        bnd (gA x0 3) fun v8 =>
        bnd (gI v8 0) fun v9 =>
        bnd (fX3_needNumber x0 x5 v9) fun v10 =>
        if (v10 : Int32) = 0 then
          grd ((0 : Int32) == 0 || (0 : Int32) == 1) (rtn 0)
        else
          bnd (gA x0 2) fun v11 =>
          bnd (fX6_number v11) fun v12 =>
          bnd (rtn (x3 + v12)) fun v13 =>
          bnd (gA x0 3) fun v14 =>
          bnd (gI v14 0) fun v15 =>
          if (v13 : Int32) ≤ v15 then
            if (x4 : Int32) = 0 then
              fX3_readAlone_L115 (fX3_readAlone_L36 n) x0 x4 x6 v13 0 x1
            else
              bnd (fX7_span x3 v13) fun v16 =>
              fX3_readAlone_L115 (fX3_readAlone_L36 n) x0 x4 x6 v13 v16 x1
          else
            bnd (fX3_failHere x0 4) fun v17 =>
            grd ((v17 : Int32) == 0 || (v17 : Int32) == 1) (rtn v17)
      else
        fX3_readAlone_L148 x0 x1 x3
def fX3_readAlone (x0 : Nat) : Mm → Option (Int32 × Mm) :=
  bnd (gA x0 3) fun v18 =>
  bnd (gI v18 0) fun v19 =>
  bnd (fX3_needNumber x0 0 v19) fun v20 =>
  if (v20 : Int32) = 0 then
    grd ((0 : Int32) == 0 || (0 : Int32) == 1) (rtn 0)
  else
    bnd (gA x0 2) fun v21 =>
    bnd (gI v21 0) fun v22 =>
    fX3_readAlone_L36 fu x0 0 0 0 0 v22
def fX3_needRead (x0 : Nat) (x1 : Int32) (x2 : Int32) : Mm → Option (Int32 × Mm) :=
  if (x1 : Int32) = 0 then
    bnd (pI x0 0 4) fun _ =>
    bnd (pI x0 1 x2) fun _ =>
    grd ((x1 : Int32) == 0 || (x1 : Int32) == 1) (rtn x1)
  else
    grd ((x1 : Int32) == 0 || (x1 : Int32) == 1) (rtn x1)
def fX3_readPass (x0 : Nat) : Mm → Option (Int32 × Mm) :=
  bnd (gA x0 4) fun v1 =>
  bnd (fX4_hasEnded v1) fun v2 =>
  if (v2 : Int32) = 0 then
    bnd (gA x0 2) fun v3 =>
    bnd (gI v3 2) fun v4 =>
    bnd (gA x0 2) fun v5 =>
    bnd (fX6_next v5) fun _ =>
    bnd (gA x0 4) fun v6 =>
    bnd (fX4_pass v6) fun v7 =>
    bnd (fX3_needRead x0 v7 v4) fun v8 =>
    grd ((v8 : Int32) == 0 || (v8 : Int32) == 1) (rtn v8)
  else
    bnd (fX3_failHere x0 4) fun v9 =>
    grd ((v9 : Int32) == 0 || (v9 : Int32) == 1) (rtn v9)
def fX3_readVertical_L92 (x0 : Nat) (x1 : Int32) (s0 : Int32) : Mm → Option (Int32 × Mm) :=
  bnd (gA x0 2) fun v1 =>
  bnd (fX6_next v1) fun _ =>
  bnd (gA x0 4) fun v2 =>
  bnd (fX4_goVertical v2 s0) fun v3 =>
  bnd (fX3_needRead x0 v3 x1) fun v4 =>
  grd ((v4 : Int32) == 0 || (v4 : Int32) == 1) (rtn v4)
def fX3_readVertical_L59 (x0 : Nat) (x1 : Int32) (x2 : Int32) : Mm → Option (Int32 × Mm) :=
  bnd (fX3_needNumber x0 0 3) fun v5 =>
  if (v5 : Int32) = 0 then
    grd ((0 : Int32) == 0 || (0 : Int32) == 1) (rtn 0)
  else
    if (x2 : Int32) = 0 then
      bnd (gA x0 2) fun v6 =>
      bnd (fX6_number v6) fun v7 =>
      fX3_readVertical_L92 x0 x1 v7
    else
      bnd (gA x0 2) fun v8 =>
      bnd (fX6_number v8) fun v9 =>
      fX3_readVertical_L92 x0 x1 (-v9)
def fX3_readVertical_L47 (x0 : Nat) (x1 : Int32) (s0 : Int32) : Mm → Option (Int32 × Mm) :=
  if (s0 : Int32) = 0 then
    fX3_readVertical_L59 x0 x1 s0
  else
    bnd (gA x0 2) fun v10 =>
    bnd (fX6_next v10) fun _ =>
    fX3_readVertical_L59 x0 x1 s0
def fX3_readVertical (x0 : Nat) : Mm → Option (Int32 × Mm) :=
  bnd (gA x0 4) fun v11 =>
  bnd (fX4_hasEnded v11) fun v12 =>
  if (v12 : Int32) = 0 then
    bnd (gA x0 2) fun v13 =>
    bnd (gI v13 2) fun v14 =>
    bnd (gA x0 2) fun v15 =>
    bnd (fX6_next v15) fun _ =>
    bnd (gA x0 2) fun v16 =>
    bnd (gI v16 1) fun v17 =>
    if (v17 : Int32) = 4 then
      fX3_readVertical_L47 x0 v14 1
    else
      fX3_readVertical_L47 x0 v14 0
  else
    bnd (fX3_failHere x0 4) fun v18 =>
    grd ((v18 : Int32) == 0 || (v18 : Int32) == 1) (rtn v18)
def fX3_readHorizontal (x0 : Nat) : Mm → Option (Int32 × Mm) :=
  bnd (gA x0 4) fun v1 =>
  bnd (fX4_hasEnded v1) fun v2 =>
  if (v2 : Int32) = 0 then
    bnd (gA x0 2) fun v3 =>
    bnd (gI v3 2) fun v4 =>
    bnd (gA x0 2) fun v5 =>
    bnd (fX6_next v5) fun _ =>
    bnd (gA x0 3) fun v6 =>
    bnd (gI v6 0) fun v7 =>
    bnd (fX3_needNumber x0 0 v7) fun v8 =>
    if (v8 : Int32) = 0 then
      grd ((0 : Int32) == 0 || (0 : Int32) == 1) (rtn 0)
    else
      bnd (gA x0 2) fun v9 =>
      bnd (fX6_number v9) fun v10 =>
      bnd (gA x0 2) fun v11 =>
      bnd (fX6_next v11) fun _ =>
      bnd (gA x0 3) fun v12 =>
      bnd (gI v12 0) fun v13 =>
      bnd (fX3_needNumber x0 0 v13) fun v14 =>
      if (v14 : Int32) = 0 then
        grd ((0 : Int32) == 0 || (0 : Int32) == 1) (rtn 0)
      else
        bnd (gA x0 2) fun v15 =>
        bnd (fX6_number v15) fun v16 =>
        bnd (gA x0 2) fun v17 =>
        bnd (fX6_next v17) fun _ =>
        bnd (gA x0 4) fun v18 =>
        bnd (fX4_goHorizontal v18 v10 v16) fun v19 =>
        bnd (fX3_needRead x0 v19 v4) fun v20 =>
        grd ((v20 : Int32) == 0 || (v20 : Int32) == 1) (rtn v20)
  else
    bnd (fX3_failHere x0 4) fun v21 =>
    grd ((v21 : Int32) == 0 || (v21 : Int32) == 1) (rtn v21)
def fX3_readAbove_L138 (x0 : Nat) (x1 : Int32) : Mm → Option (Int32 × Mm) :=
  if (x1 : Int32) = 0 then
    grd ((0 : Int32) == 0 || (0 : Int32) == 1) (rtn 0)
  else
    bnd (gA x0 4) fun v1 =>
    bnd (fX4_hasEnded v1) fun v2 =>
    bnd (gA x0 4) fun v3 =>
    bnd (gJ v3 3) fun v4 =>
    bnd (fX3_endCode x0 v2 v4) fun v5 =>
    if (v5 : Int32) = 0 then
      grd ((0 : Int32) == 0 || (0 : Int32) == 1) (rtn 0)
    else
      grd ((1 : Int32) == 0 || (1 : Int32) == 1) (rtn 1)
def fX3_readAbove_L132 (k40 : Nat → Int32 → Int32 → Mm → Option (Int32 × Mm)) (x0 : Nat) (x1 : Int32) (x2 : Int32) : Mm → Option (Int32 × Mm) :=
  k40 x0 x1 (x2 + (-1))
def fX3_readAbove_L40 : Nat → Nat → Int32 → Int32 → Mm → Option (Int32 × Mm)
  | 0, _, _, _ => fail
  | n + 1, x0, x1, x2 =>
    if (x2 : Int32) ≤ 0 then
      fX3_readAbove_L138 x0 x1
    else
      if (x1 : Int32) = 0 then
        fX3_readAbove_L138 x0 x1
      else
        bnd (gA x0 2) fun v6 =>
        bnd (gI v6 1) fun v7 =>
        if (v7 : Int32) = 1 then
          bnd (gA x0 4) fun v8 =>
          bnd (fX4_look v8) fun _ =>
          bnd (gA x0 2) fun v9 =>
          bnd (fX6_isWord v9 (SB + 6)) fun v10 =>
          if (v10 : Int32) = 0 then
            bnd (gA x0 2) fun v11 =>
            bnd (fX6_isWord v11 (SB + 7)) fun v12 =>
            if (v12 : Int32) = 0 then
              bnd (gA x0 2) fun v13 =>
              bnd (fX6_isWord v13 (SB + 8)) fun v14 =>
              if (v14 : Int32) = 0 then
                bnd (fX3_failHere x0 1) fun v15 =>
                fX3_readAbove_L132 (fX3_readAbove_L40 n) x0 v15 x2
              else
                bnd (fX3_readHorizontal x0) fun v16 =>
                fX3_readAbove_L132 (fX3_readAbove_L40 n) x0 v16 x2
            else
              bnd (fX3_readVertical x0) fun v17 =>
              fX3_readAbove_L132 (fX3_readAbove_L40 n) x0 v17 x2
          else
            bnd (fX3_readPass x0) fun v18 =>
            fX3_readAbove_L132 (fX3_readAbove_L40 n) x0 v18 x2
        else
          fX3_readAbove_L138 x0 x1
def fX3_readAbove (x0 : Nat) : Mm → Option (Int32 × Mm) :=
  bnd (gA x0 4) fun v19 =>
  bnd (gA x0 3) fun v20 =>
  bnd (gA x0 3) fun v21 =>
  bnd (gI v21 1) fun v22 =>
  bnd (fX2_rowAt v20 (v22 - 1)) fun v23 =>
  bnd (gA x0 3) fun v24 =>
  bnd (gI v24 0) fun v25 =>
  bnd (fX4_begin v19 v23 v25) fun _ =>
  bnd (gA x0 2) fun v26 =>
  bnd (gI v26 0) fun v27 =>
  fX3_readAbove_L40 fu x0 1 v27
def fX3_readStatement_L80 (x0 : Nat) (x1 : Int32) (x2 : Int32) : Mm → Option (Int32 × Mm) :=
  bnd (gA x0 3) fun v1 =>
  bnd (gI v1 1) fun v2 =>
  if (v2 : Int32) < 20 then
    bnd (gA x0 2) fun v3 =>
    bnd (fX6_next v3) fun _ =>
    if (x1 : Int32) = 0 then
      if (x2 : Int32) = 0 then
        bnd (fX3_readAbove x0) fun v4 =>
        grd ((v4 : Int32) == 0 || (v4 : Int32) == 1) (rtn v4)
      else
        bnd (fX3_readAlone x0) fun v5 =>
        grd ((v5 : Int32) == 0 || (v5 : Int32) == 1) (rtn v5)
    else
      bnd (fX3_readRow x0) fun v6 =>
      grd ((v6 : Int32) == 0 || (v6 : Int32) == 1) (rtn v6)
  else
    bnd (fX3_failHere x0 5) fun v7 =>
    grd ((v7 : Int32) == 0 || (v7 : Int32) == 1) (rtn v7)
def fX3_readStatement (x0 : Nat) : Mm → Option (Int32 × Mm) :=
  bnd (gA x0 2) fun v8 =>
  bnd (fX6_isWord v8 (SB + 1)) fun v9 =>
  if (v9 : Int32) = 0 then
    bnd (gA x0 2) fun v10 =>
    bnd (fX6_isWord v10 (SB + 2)) fun v11 =>
    if (v11 : Int32) = 0 then
      bnd (gA x0 2) fun v12 =>
      bnd (fX6_isWord v12 (SB + 3)) fun v13 =>
      bnd (gA x0 2) fun v14 =>
      bnd (fX6_isWord v14 (SB + 4)) fun v15 =>
      if (v13 : Int32) = 0 then
        if (v15 : Int32) = 0 then
          bnd (gA x0 2) fun v16 =>
          bnd (fX6_isWord v16 (SB + 5)) fun v17 =>
          if (v17 : Int32) = 0 then
            bnd (fX3_failHere x0 1) fun v18 =>
            grd ((v18 : Int32) == 0 || (v18 : Int32) == 1) (rtn v18)
          else
            fX3_readStatement_L80 x0 v13 v15
        else
          fX3_readStatement_L80 x0 v13 v15
      else
        fX3_readStatement_L80 x0 v13 v15
    else
      bnd (fX3_readLoss x0) fun v19 =>
      grd ((v19 : Int32) == 0 || (v19 : Int32) == 1) (rtn v19)
  else
    bnd (fX3_readSet x0) fun v20 =>
    grd ((v20 : Int32) == 0 || (v20 : Int32) == 1) (rtn v20)
def fX3_readText_L57 : Nat → Nat → Int32 → Int32 → Mm → Option (Int32 × Mm)
  | 0, _, _, _ => fail
  | n + 1, x0, x1, x2 =>
    if (x2 : Int32) ≤ 0 then
      grd ((x1 : Int32) == 0 || (x1 : Int32) == 1) (rtn x1)
    else
      if (x1 : Int32) = 0 then
        grd ((x1 : Int32) == 0 || (x1 : Int32) == 1) (rtn x1)
      else
        bnd (gA x0 2) fun v1 =>
        bnd (gI v1 1) fun v2 =>
        if (v2 : Int32) = 0 then
          grd ((x1 : Int32) == 0 || (x1 : Int32) == 1) (rtn x1)
        else
          bnd (fX3_readStatement x0) fun v3 =>
          fX3_readText_L57 n x0 v3 (x2 + (-1))
def fX3_readText_L48 (x0 : Nat) (s0 : Int32) : Mm → Option (Int32 × Mm) :=
  bnd (gA x0 2) fun v4 =>
  bnd (gI v4 0) fun v5 =>
  fX3_readText_L57 fu x0 s0 v5
def fX3_readText_L43 (x0 : Nat) : Mm → Option (Int32 × Mm) :=
  fX3_readText_L48 x0 1
def fX3_readText (x0 : Nat) : Mm → Option (Int32 × Mm) :=
  bnd (pI x0 0 0) fun _ =>
  bnd (pI x0 1 (-1)) fun _ =>
  bnd (gA x0 3) fun v6 =>
  bnd (fX2_clear v6) fun _ =>
  bnd (gA x0 2) fun v7 =>
  bnd (fX6_begin v7) fun _ =>
  bnd (gA x0 2) fun v8 =>
  bnd (fX6_isWord v8 (SB + 0)) fun v9 =>
  if (v9 : Int32) = 0 then
    fX3_readText_L43 x0
  else
    bnd (fX3_readWide x0) fun v10 =>
    if (v10 : Int32) = 0 then
      fX3_readText_L48 x0 0
    else
      fX3_readText_L43 x0
def fX5_init (x0 : Nat) : Mm → Option (Unit × Mm) :=
  bnd (nwA 12 20) fun h1 =>
  bnd (pA x0 7 h1) fun _ =>
  bnd (nwA 11 20) fun h2 =>
  bnd (pA x0 8 h2) fun _ =>
  bnd (nwA 11 20) fun h3 =>
  bnd (pA x0 9 h3) fun _ =>
  bnd (nwA 11 20) fun h4 =>
  bnd (pA x0 10 h4) fun _ =>
  bnd (nwA 11 20) fun h5 =>
  bnd (pA x0 11 h5) fun _ =>
  bnd (nwA 11 20) fun h6 =>
  bnd (pA x0 12 h6) fun _ =>
  bnd (nwA 11 20) fun h7 =>
  bnd (pA x0 13 h7) fun _ =>
  bnd (nwA 11 20) fun h8 =>
  bnd (pA x0 14 h8) fun _ =>
  bnd (nwO 0) fun h9 =>
  bnd (fX0_init h9) fun _ =>
  bnd (pA x0 15 h9) fun _ =>
  rtn ()
def fX7_lowestOf (x0 : Int64) : Mm → Option (Int32 × Mm) :=
  bnd (fJ13_bitCount_95d88 ((x0 &&& (-x0)) - 1)) fun v1 =>
  rtn v1
def fX7_aloneBits_L63 (x2 : Int32) (x5 : Int32) (x6 : Int32) : Mm → Option (Int32 × Mm) :=
  bnd (fX7_numberBits (x2 - x6)) fun v1 =>
  rtn (x5 + v1)
def fX7_aloneBits_L15 : Nat → Int32 → Int64 → Int32 → Int32 → Int32 → Mm → Option (Int32 × Mm)
  | 0, _, _, _, _, _ => fail
  | n + 1, x2, x3, x5, x6, x7 =>
    if 40 ≤ (x7 : Int32) then
      fX7_aloneBits_L63 x2 x5 x6
    else
      if ((lg_cmp x3 0) : Int32) = 0 then
        fX7_aloneBits_L63 x2 x5 x6
      else
        bnd (fX7_lowestOf x3) fun v2 =>
        bnd (fX7_numberBits (v2 - x6)) fun v3 =>
        bnd (rtn (x5 + v3)) fun v4 =>
        bnd (rtn (x3 &&& (x3 - 1))) fun v5 =>
        fX7_aloneBits_L15 n x2 v5 v4 v2 (x7 + 1)
def fX7_aloneBits (x0 : Int64) (x2 : Int32) : Mm → Option (Int32 × Mm) :=
  bnd (fX7_changesOf x0 x2) fun v6 =>
  fX7_aloneBits_L15 fu x2 v6 0 0 0
def fX5_prepare_L48 : Nat → Nat → Nat → Int32 → Mm → Option (Unit × Mm)
  | 0, _, _, _ => fail
  | n + 1, x0, x1, x2 =>
    bnd (gI x1 1) fun v1 =>
    if v1 ≤ (x2 : Int32) then
      rtn ()
    else
      if 20 ≤ (x2 : Int32) then
        rtn ()
      else
        bnd (gA x0 15) fun v2 =>
        bnd (fX2_rowAt x1 x2) fun v3 =>
        bnd (fX2_rowAt x1 (x2 - 1)) fun v4 =>
        bnd (gI x1 0) fun v5 =>
        bnd (fX0_makeFor v2 v3 v4 v5) fun _ =>
        bnd (gA x0 14) fun v6 =>
        bnd (gA x0 15) fun v7 =>
        bnd (gI v7 1) fun v8 =>
        bnd (aI v6 x2 v8) fun _ =>
        bnd (gA x0 13) fun v9 =>
        bnd (fX2_rowAt x1 x2) fun v10 =>
        bnd (gI x1 0) fun v11 =>
        bnd (fX7_aloneBits v10 v11) fun v12 =>
        bnd (aI v9 x2 v12) fun _ =>
        fX5_prepare_L48 n x0 x1 (x2 + 1)
def fX5_prepare_L22 : Nat → Nat → Nat → Int32 → Mm → Option (Unit × Mm)
  | 0, _, _, _ => fail
  | n + 1, x0, x1, x2 =>
    if 20 ≤ (x2 : Int32) then
      fX5_prepare_L48 fu x0 x1 0
    else
      bnd (gA x0 12) fun v13 =>
      bnd (gA x1 3) fun v14 =>
      bnd (lI v14 x2) fun v15 =>
      bnd (aI v13 x2 v15) fun _ =>
      fX5_prepare_L22 n x0 x1 (x2 + 1)
def fX5_prepare (x0 : Nat) (x1 : Nat) : Mm → Option (Unit × Mm) :=
  bnd (gA x1 4) fun v16 =>
  bnd (lI v16 0) fun v17 =>
  bnd (pI x0 0 v17) fun _ =>
  bnd (gA x1 4) fun v18 =>
  bnd (lI v18 3) fun v19 =>
  bnd (pI x0 1 v19) fun _ =>
  fX5_prepare_L22 fu x0 x1 0
def fX5_loseOnly_L28 (k7 : Nat → Int32 → Int32 → Mm → Option (Unit × Mm)) (x0 : Nat) (x1 : Int32) (x2 : Int32) (s0 : Int32) (s1 : Int32) (s2 : Nat) : Mm → Option (Unit × Mm) :=
  bnd (aI s2 s1 s0) fun _ =>
  k7 x0 x1 (x2 + 1)
def fX5_loseOnly_L7 : Nat → Nat → Int32 → Int32 → Mm → Option (Unit × Mm)
  | 0, _, _, _ => fail
  | n + 1, x0, x1, x2 =>
    if 20 ≤ (x2 : Int32) then
      rtn ()
    else
      bnd (gA x0 12) fun v1 =>
      if (x2 : Int32) = x1 then
        fX5_loseOnly_L28 (fX5_loseOnly_L7 n) x0 x1 x2 1 x2 v1
      else
        fX5_loseOnly_L28 (fX5_loseOnly_L7 n) x0 x1 x2 0 x2 v1
def fX5_loseOnly (x0 : Nat) (x1 : Int32) : Mm → Option (Unit × Mm) :=
  bnd (pI x0 1 0) fun _ =>
  fX5_loseOnly_L7 fu x0 x1 0
def fX5_clear_L27 : Nat → Nat → Int32 → Mm → Option (Unit × Mm)
  | 0, _, _ => fail
  | n + 1, x0, x1 =>
    if 20 ≤ (x1 : Int32) then
      rtn ()
    else
      bnd (gA x0 7) fun v1 =>
      bnd (aJ v1 x1 0) fun _ =>
      bnd (gA x0 8) fun v2 =>
      bnd (aI v2 x1 0) fun _ =>
      bnd (gA x0 9) fun v3 =>
      bnd (aI v3 x1 0) fun _ =>
      bnd (gA x0 10) fun v4 =>
      bnd (aI v4 x1 0) fun _ =>
      bnd (gA x0 11) fun v5 =>
      bnd (aI v5 x1 0) fun _ =>
      fX5_clear_L27 n x0 (x1 + 1)
def fX5_clear (x0 : Nat) : Mm → Option (Unit × Mm) :=
  bnd (pI x0 2 0) fun _ =>
  bnd (pI x0 3 0) fun _ =>
  bnd (pI x0 4 0) fun _ =>
  bnd (pI x0 5 0) fun _ =>
  bnd (pI x0 6 0) fun _ =>
  fX5_clear_L27 fu x0 0
def fX7_isEvery (x0 : Int32) (x1 : Int32) : Mm → Option (Int32 × Mm) :=
  if (x1 : Int32) ≤ 0 then
    grd ((0 : Int32) == 0 || (0 : Int32) == 1) (rtn 0)
  else
    grd (!((x1 : Int32) == 0)) <|
    if ((x0 - x0 / x1 * x1) : Int32) = 0 then
      grd ((1 : Int32) == 0 || (1 : Int32) == 1) (rtn 1)
    else
      grd ((0 : Int32) == 0 || (0 : Int32) == 1) (rtn 0)
def fX5_isSentAlone_L36 : Mm → Option (Int32 × Mm) :=
  grd ((1 : Int32) == 0 || (1 : Int32) == 1) (rtn 1)
def fX5_isSentAlone (x0 : Nat) (x1 : Nat) (x2 : Int32) : Mm → Option (Int32 × Mm) :=
  bnd (gI x0 0) fun v1 =>
  bnd (fX7_isEvery x2 v1) fun v2 =>
  if (v2 : Int32) = 0 then
    bnd (gA x1 4) fun v3 =>
    bnd (lI v3 1) fun v4 =>
    if (v4 : Int32) = 1 then
      bnd (gA x0 13) fun v5 =>
      bnd (lI v5 x2) fun v6 =>
      bnd (gA x0 14) fun v7 =>
      bnd (lI v7 x2) fun v8 =>
      if v8 ≤ (v6 : Int32) then
        grd ((0 : Int32) == 0 || (0 : Int32) == 1) (rtn 0)
      else
        fX5_isSentAlone_L36
    else
      grd ((0 : Int32) == 0 || (0 : Int32) == 1) (rtn 0)
  else
    fX5_isSentAlone_L36
def fX5_rowAbove (x0 : Nat) (x1 : Int32) : Mm → Option (Int64 × Mm) :=
  if (x1 : Int32) ≤ 0 then
    rtn 0
  else
    if 20 < (x1 : Int32) then
      rtn 0
    else
      bnd (gA x0 7) fun v1 =>
      bnd (lJ v1 (x1 - 1)) fun v2 =>
      rtn v2
def fX5_readByAbove (x0 : Nat) (x1 : Nat) (x2 : Int32) : Mm → Option (Int64 × Mm) :=
  bnd (fX5_rowAbove x0 x2) fun v1 =>
  bnd (fX2_rowAt x1 (x2 - 1)) fun v2 =>
  if ((lg_cmp v1 v2) : Int32) = 0 then
    bnd (fX2_rowAt x1 x2) fun v11 =>
    rtn v11
  else
    bnd (gA x0 15) fun v3 =>
    bnd (fX2_rowAt x1 x2) fun v4 =>
    bnd (fX2_rowAt x1 (x2 - 1)) fun v5 =>
    bnd (gI x1 0) fun v6 =>
    bnd (fX0_makeFor v3 v4 v5 v6) fun _ =>
    bnd (gA x0 15) fun v7 =>
    bnd (fX5_rowAbove x0 x2) fun v8 =>
    bnd (gI x1 0) fun v9 =>
    bnd (fX0_readUnder v7 v8 v9) fun v10 =>
    rtn v10
def fX5_stepBack_L37 : Nat → Nat → Nat → Int32 → Mm → Option (Int32 × Mm)
  | 0, _, _, _ => fail
  | n + 1, x0, x1, x3 =>
    if (x3 : Int32) ≤ 0 then
      rtn x3
    else
      bnd (fX5_isSentAlone x0 x1 x3) fun v1 =>
      if (v1 : Int32) = 0 then
        fX5_stepBack_L37 n x0 x1 (x3 + (-1))
      else
        rtn x3
def fX5_stepBack (x0 : Nat) (x1 : Nat) (x2 : Int32) : Mm → Option (Int32 × Mm) :=
  bnd (gI x0 4) fun v2 =>
  bnd (pI x0 4 (v2 + 1)) fun _ =>
  bnd (gA x0 11) fun v3 =>
  bnd (lI v3 x2) fun v4 =>
  bnd (aI v3 x2 (v4 + 1)) fun _ =>
  bnd (gI x0 2) fun v5 =>
  bnd (gA x1 4) fun v6 =>
  bnd (lI v6 5) fun v7 =>
  bnd (pI x0 2 (v5 + v7)) fun _ =>
  fX5_stepBack_L37 fu x0 x1 x2
def fX5_sendOne_L258 (x2 : Int32) (s0 : Int32) (s1 : Int32) (s2 : Nat) : Mm → Option (Int32 × Mm) :=
  bnd (aI s2 s1 s0) fun _ =>
  rtn (x2 + 1)
def fX5_sendOne_L242 (x0 : Nat) (x2 : Int32) (x5 : Int32) (s0 : Int64) (s1 : Int32) (s2 : Nat) : Mm → Option (Int32 × Mm) :=
  bnd (aJ s2 s1 s0) fun _ =>
  bnd (gA x0 8) fun v1 =>
  if (x5 : Int32) = 0 then
    fX5_sendOne_L258 x2 2 x2 v1
  else
    fX5_sendOne_L258 x2 1 x2 v1
def fX5_sendOne_L201 (x0 : Nat) (x1 : Nat) (x2 : Int32) (x5 : Int32) : Mm → Option (Int32 × Mm) :=
  bnd (gI x0 4) fun v2 =>
  bnd (gI x0 1) fun v3 =>
  if v3 ≤ (v2 : Int32) then
    bnd (gA x0 7) fun v4 =>
    bnd (gA x1 4) fun v5 =>
    bnd (lI v5 2) fun v6 =>
    if (v6 : Int32) = 0 then
      bnd (fX5_rowAbove x0 x2) fun v7 =>
      fX5_sendOne_L242 x0 x2 x5 v7 x2 v4
    else
      fX5_sendOne_L242 x0 x2 x5 0 x2 v4
  else
    bnd (fX5_stepBack x0 x1 x2) fun v8 =>
    rtn v8
def fX5_sendOne_L168 (x2 : Int32) (s0 : Int32) (s1 : Int32) (s2 : Nat) : Mm → Option (Int32 × Mm) :=
  bnd (aI s2 s1 s0) fun _ =>
  rtn (x2 + 1)
def fX5_sendOne_L128 (x0 : Nat) (x1 : Nat) (x2 : Int32) (x5 : Int32) (s0 : Int64) : Mm → Option (Int32 × Mm) :=
  if ((lg_cmp s0 (-1)) : Int32) = 0 then
    if (x5 : Int32) = 0 then
      bnd (gI x0 6) fun v9 =>
      bnd (pI x0 6 (v9 + 1)) fun _ =>
      fX5_sendOne_L201 x0 x1 x2 x5
    else
      bnd (gI x0 5) fun v10 =>
      bnd (pI x0 5 (v10 + 1)) fun _ =>
      fX5_sendOne_L201 x0 x1 x2 x5
  else
    bnd (gA x0 7) fun v11 =>
    bnd (aJ v11 x2 s0) fun _ =>
    bnd (gA x0 8) fun v12 =>
    bnd (fX2_rowAt x1 x2) fun v13 =>
    if ((lg_cmp s0 v13) : Int32) = 0 then
      fX5_sendOne_L168 x2 0 x2 v12
    else
      fX5_sendOne_L168 x2 3 x2 v12
def fX5_sendOne_L97 (x0 : Nat) (x1 : Nat) (x2 : Int32) (x3 : Int32) (s0 : Int32) : Mm → Option (Int32 × Mm) :=
  if (s0 : Int32) = 0 then
    if (x3 : Int32) = 0 then
      bnd (fX5_readByAbove x0 x1 x2) fun v14 =>
      fX5_sendOne_L128 x0 x1 x2 s0 v14
    else
      bnd (fX2_rowAt x1 x2) fun v15 =>
      fX5_sendOne_L128 x0 x1 x2 s0 v15
  else
    fX5_sendOne_L128 x0 x1 x2 s0 (-1)
def fX5_sendOne_L32 (x0 : Nat) (x1 : Nat) (x2 : Int32) (x3 : Int32) (s0 : Int32) (s1 : Int32) : Mm → Option (Int32 × Mm) :=
  bnd (rtn (s1 + s0)) fun v16 =>
  bnd (gI x0 3) fun v17 =>
  bnd (pI x0 3 (v17 + 1)) fun _ =>
  bnd (gA x0 9) fun v18 =>
  bnd (lI v18 x2) fun v19 =>
  bnd (aI v18 x2 (v19 + 1)) fun _ =>
  bnd (gA x0 10) fun v20 =>
  bnd (lI v20 x2) fun v21 =>
  bnd (aI v20 x2 (v21 + v16)) fun _ =>
  bnd (gI x0 2) fun v22 =>
  bnd (pI x0 2 (v22 + v16)) fun _ =>
  bnd (gA x0 9) fun v23 =>
  bnd (lI v23 x2) fun v24 =>
  bnd (gA x0 12) fun v25 =>
  bnd (lI v25 x2) fun v26 =>
  if v26 < (v24 : Int32) then
    fX5_sendOne_L97 x0 x1 x2 x3 0
  else
    fX5_sendOne_L97 x0 x1 x2 x3 1
def fX5_sendOne (x0 : Nat) (x1 : Nat) (x2 : Int32) : Mm → Option (Int32 × Mm) :=
  bnd (fX5_isSentAlone x0 x1 x2) fun v27 =>
  bnd (gA x1 4) fun v28 =>
  bnd (lI v28 4) fun v29 =>
  if (v27 : Int32) = 0 then
    bnd (gA x0 14) fun v30 =>
    bnd (lI v30 x2) fun v31 =>
    fX5_sendOne_L32 x0 x1 x2 v27 v31 v29
  else
    bnd (gA x0 13) fun v32 =>
    bnd (lI v32 x2) fun v33 =>
    fX5_sendOne_L32 x0 x1 x2 v27 v33 v29
def fX5_sendPage_L10 : Nat → Nat → Nat → Int32 → Int32 → Mm → Option (Unit × Mm)
  | 0, _, _, _, _ => fail
  | n + 1, x0, x1, x2, x3 =>
    if (x3 : Int32) ≤ 0 then
      rtn ()
    else
      bnd (fX2_hasLine x1 x2) fun v1 =>
      if (v1 : Int32) = 0 then
        rtn ()
      else
        bnd (fX5_sendOne x0 x1 x2) fun v2 =>
        fX5_sendPage_L10 n x0 x1 v2 (x3 + (-1))
def fX5_sendPage (x0 : Nat) (x1 : Nat) : Mm → Option (Unit × Mm) :=
  bnd (fX5_clear x0) fun _ =>
  fX5_sendPage_L10 fu x0 x1 0 1000
def fX5_linesOfState_L32 (k5 : Nat → Int32 → Int32 → Int32 → Int32 → Mm → Option (Int32 × Mm)) (x0 : Nat) (x1 : Int32) (x2 : Int32) (x3 : Int32) (x4 : Int32) : Mm → Option (Int32 × Mm) :=
  k5 x0 x1 x2 x3 (x4 + 1)
def fX5_linesOfState_L5 : Nat → Nat → Int32 → Int32 → Int32 → Int32 → Mm → Option (Int32 × Mm)
  | 0, _, _, _, _, _ => fail
  | n + 1, x0, x1, x2, x3, x4 =>
    if x2 ≤ (x4 : Int32) then
      rtn x3
    else
      if 20 ≤ (x4 : Int32) then
        rtn x3
      else
        bnd (gA x0 8) fun v1 =>
        bnd (lI v1 x4) fun v2 =>
        if (v2 : Int32) = x1 then
          fX5_linesOfState_L32 (fX5_linesOfState_L5 n) x0 x1 x2 (x3 + 1) x4
        else
          fX5_linesOfState_L32 (fX5_linesOfState_L5 n) x0 x1 x2 x3 x4
def fX5_linesOfState (x0 : Nat) (x1 : Int32) (x2 : Int32) : Mm → Option (Int32 × Mm) :=
  fX5_linesOfState_L5 fu x0 x1 x2 0 0
def fX5_wrongDotsOf (x0 : Nat) (x1 : Int32) (x2 : Nat) : Mm → Option (Int32 × Mm) :=
  bnd (fX2_hasLine x2 x1) fun v1 =>
  if (v1 : Int32) = 0 then
    rtn 0
  else
    bnd (gA x0 7) fun v2 =>
    bnd (lJ v2 x1) fun v3 =>
    bnd (fX2_rowAt x2 x1) fun v4 =>
    bnd (fJ13_bitCount_95d88 (v3 ^^^ v4)) fun v5 =>
    rtn v5
def fX5_wrongDots_L4 : Nat → Nat → Nat → Int32 → Int32 → Mm → Option (Int32 × Mm)
  | 0, _, _, _, _ => fail
  | n + 1, x0, x1, x2, x3 =>
    bnd (gI x1 1) fun v1 =>
    if v1 ≤ (x3 : Int32) then
      rtn x2
    else
      bnd (fX5_wrongDotsOf x0 x3 x1) fun v2 =>
      bnd (rtn (x2 + v2)) fun v3 =>
      fX5_wrongDots_L4 n x0 x1 v3 (x3 + 1)
def fX5_wrongDots (x0 : Nat) (x1 : Nat) : Mm → Option (Int32 × Mm) :=
  fX5_wrongDots_L4 fu x0 x1 0 0
def fX5_wrongLines_L24 (k4 : Nat → Nat → Int32 → Int32 → Mm → Option (Int32 × Mm)) (x0 : Nat) (x1 : Nat) (x2 : Int32) (x3 : Int32) : Mm → Option (Int32 × Mm) :=
  k4 x0 x1 x2 (x3 + 1)
def fX5_wrongLines_L4 : Nat → Nat → Nat → Int32 → Int32 → Mm → Option (Int32 × Mm)
  | 0, _, _, _, _ => fail
  | n + 1, x0, x1, x2, x3 =>
    bnd (gI x1 1) fun v1 =>
    if v1 ≤ (x3 : Int32) then
      rtn x2
    else
      bnd (fX5_wrongDotsOf x0 x3 x1) fun v2 =>
      if (v2 : Int32) ≤ 0 then
        fX5_wrongLines_L24 (fX5_wrongLines_L4 n) x0 x1 x2 x3
      else
        fX5_wrongLines_L24 (fX5_wrongLines_L4 n) x0 x1 (x2 + 1) x3
def fX5_wrongLines (x0 : Nat) (x1 : Nat) : Mm → Option (Int32 × Mm) :=
  fX5_wrongLines_L4 fu x0 x1 0 0
def fX5_lastWrongLine_L7 : Nat → Nat → Nat → Int32 → Mm → Option (Int32 × Mm)
  | 0, _, _, _ => fail
  | n + 1, x0, x1, x2 =>
    if (x2 : Int32) < 0 then
      rtn (-1)
    else
      bnd (fX5_wrongDotsOf x0 x2 x1) fun v1 =>
      if (v1 : Int32) ≤ 0 then
        fX5_lastWrongLine_L7 n x0 x1 (x2 + (-1))
      else
        rtn x2
def fX5_lastWrongLine (x0 : Nat) (x1 : Nat) : Mm → Option (Int32 × Mm) :=
  bnd (gI x1 1) fun v2 =>
  bnd (rtn (v2 - 1)) fun v3 =>
  fX5_lastWrongLine_L7 fu x0 x1 v3
def fX6_append (x0 : Nat) (x1 : Int32) : Mm → Option (Unit × Mm) :=
  bnd (gI x0 0) fun v1 =>
  if (v1 : Int32) < 0 then
    rtn ()
  else
    bnd (gI x0 0) fun v2 =>
    if 900 ≤ (v2 : Int32) then
      rtn ()
    else
      bnd (gA x0 4) fun v3 =>
      bnd (gI x0 0) fun v4 =>
      bnd (aB v3 v4 (i2b x1)) fun _ =>
      bnd (gI x0 0) fun v5 =>
      bnd (pI x0 0 (v5 + 1)) fun _ =>
      rtn ()
def fX7_init (x0 : Nat) : Mm → Option (Unit × Mm) :=
  bnd (nwO 2) fun h1 =>
  bnd (fX2_init h1) fun _ =>
  bnd (pA x0 0 h1) fun _ =>
  bnd (nwO 1) fun h2 =>
  bnd (fX1_init h2) fun _ =>
  bnd (pA x0 1 h2) fun _ =>
  bnd (nwA 14 2) fun h3 =>
  bnd (pA x0 2 h3) fun _ =>
  bnd (nwO 3) fun h4 =>
  bnd (fX3_init h4) fun _ =>
  bnd (pA x0 3 h4) fun _ =>
  bnd (nwO 0) fun h5 =>
  bnd (fX0_init h5) fun _ =>
  bnd (pA x0 4 h5) fun _ =>
  bnd (nwO 5) fun h6 =>
  bnd (fX5_init h6) fun _ =>
  bnd (pA x0 5 h6) fun _ =>
  bnd (nwA 10 300) fun h7 =>
  bnd (pA x0 6 h7) fun _ =>
  bnd (pI x0 7 0) fun _ =>
  rtn ()
def fX7_appendText (x0 : Nat) (x1 : Int32) : Mm → Option ((Nat ⊕ Int32) × Mm) :=
  bnd (gA x0 3) fun v1 =>
  bnd (gA v1 2) fun v2 =>
  bnd (gI v2 0) fun v3 =>
  if ((v3 + 4) : Int32) ≤ 900 then
    bnd (gA x0 3) fun v4 =>
    bnd (gA v4 2) fun v5 =>
    bnd (fX6_append v5 (iush x1 24)) fun _ =>
    bnd (gA x0 3) fun v6 =>
    bnd (gA v6 2) fun v7 =>
    bnd (fX6_append v7 (iush x1 16)) fun _ =>
    bnd (gA x0 3) fun v8 =>
    bnd (gA v8 2) fun v9 =>
    bnd (fX6_append v9 (iush x1 8)) fun _ =>
    bnd (gA x0 3) fun v10 =>
    bnd (gA v10 2) fun v11 =>
    bnd (fX6_append v11 x1) fun _ =>
    bnd (gA x0 3) fun v12 =>
    bnd (gA v12 2) fun v13 =>
    bnd (gI v13 0) fun v14 =>
    rtn (.inr v14)
  else
    rtn (.inl 1)
def fX7_truncateText_L18 : Mm → Option ((Nat ⊕ Int32) × Mm) :=
  rtn (.inl 0)
def fX7_truncateText (x0 : Nat) (x1 : Int32) : Mm → Option ((Nat ⊕ Int32) × Mm) :=
  if (x1 : Int32) < 0 then
    fX7_truncateText_L18
  else
    bnd (gA x0 3) fun v1 =>
    bnd (gA v1 2) fun v2 =>
    bnd (gI v2 0) fun v3 =>
    if (x1 : Int32) ≤ v3 then
      bnd (gA x0 3) fun v4 =>
      bnd (gA v4 2) fun v5 =>
      bnd (pI v5 0 x1) fun _ =>
      rtn (.inr x1)
    else
      fX7_truncateText_L18
def fX7_load (x0 : Nat) : Mm → Option (Int32 × Mm) :=
  bnd (gA x0 3) fun v1 =>
  bnd (fX3_readText v1) fun v2 =>
  bnd (gA x0 3) fun v3 =>
  bnd (gA v3 2) fun v4 =>
  bnd (pI v4 0 0) fun _ =>
  if (v2 : Int32) = 0 then
    rtn (-1)
  else
    bnd (gA x0 0) fun v5 =>
    bnd (gA x0 3) fun v6 =>
    bnd (gA v6 3) fun v7 =>
    bnd (fX2_copyFrom v5 v7) fun _ =>
    bnd (gA x0 1) fun v8 =>
    bnd (fX1_forget v8) fun _ =>
    bnd (gA x0 0) fun v9 =>
    bnd (gI v9 1) fun v10 =>
    rtn v10
def fX7_errorCode (x0 : Nat) : Mm → Option (Int32 × Mm) :=
  bnd (gA x0 3) fun v1 =>
  bnd (gI v1 0) fun v2 =>
  rtn v2
def fX7_blackDots_L4 : Nat → Nat → Int32 → Int32 → Mm → Option (Int32 × Mm)
  | 0, _, _, _ => fail
  | n + 1, x0, x1, x2 =>
    bnd (gA x0 0) fun v1 =>
    bnd (gI v1 1) fun v2 =>
    if v2 ≤ (x2 : Int32) then
      rtn x1
    else
      bnd (gA x0 0) fun v3 =>
      bnd (fX2_rowAt v3 x2) fun v4 =>
      bnd (fJ13_bitCount_95d88 v4) fun v5 =>
      bnd (rtn (x1 + v5)) fun v6 =>
      fX7_blackDots_L4 n x0 v6 (x2 + 1)
def fX7_blackDots (x0 : Nat) : Mm → Option (Int32 × Mm) :=
  fX7_blackDots_L4 fu x0 0 0
def fX7_allChanges_L4 : Nat → Nat → Int32 → Int32 → Mm → Option (Int32 × Mm)
  | 0, _, _, _ => fail
  | n + 1, x0, x1, x2 =>
    bnd (gA x0 0) fun v1 =>
    bnd (gI v1 1) fun v2 =>
    if v2 ≤ (x2 : Int32) then
      rtn x1
    else
      bnd (gA x0 0) fun v3 =>
      bnd (fX2_rowAt v3 x2) fun v4 =>
      bnd (gA x0 0) fun v5 =>
      bnd (gI v5 0) fun v6 =>
      bnd (fX7_changesOf v4 v6) fun v7 =>
      bnd (fJ13_bitCount_95d88 v7) fun v8 =>
      bnd (rtn (x1 + v8)) fun v9 =>
      fX7_allChanges_L4 n x0 v9 (x2 + 1)
def fX7_allChanges (x0 : Nat) : Mm → Option (Int32 × Mm) :=
  fX7_allChanges_L4 fu x0 0 0
def fX7_codeLine (x0 : Nat) (x1 : Int32) : Mm → Option (Unit × Mm) :=
  bnd (gA x0 4) fun v1 =>
  bnd (gA x0 0) fun v2 =>
  bnd (fX2_rowAt v2 x1) fun v3 =>
  bnd (gA x0 0) fun v4 =>
  bnd (fX2_rowAt v4 (x1 - 1)) fun v5 =>
  bnd (gA x0 0) fun v6 =>
  bnd (gI v6 0) fun v7 =>
  bnd (fX0_makeFor v1 v3 v5 v7) fun _ =>
  rtn ()
def fX7_isMark (x0 : Nat) (x1 : Int32) : Mm → Option (Int32 × Mm) :=
  bnd (gA x0 0) fun v1 =>
  bnd (gA v1 4) fun v2 =>
  bnd (lI v2 0) fun v3 =>
  bnd (fX7_isEvery x1 v3) fun v4 =>
  if (v4 : Int32) = 0 then
    bnd (gA x0 0) fun v5 =>
    bnd (gA v5 4) fun v6 =>
    bnd (lI v6 1) fun v7 =>
    if (v7 : Int32) = 0 then
      grd ((0 : Int32) == 0 || (0 : Int32) == 1) (rtn 0)
    else
      bnd (fX7_codeLine x0 x1) fun _ =>
      bnd (gA x0 0) fun v8 =>
      bnd (fX2_rowAt v8 x1) fun v9 =>
      bnd (gA x0 0) fun v10 =>
      bnd (gI v10 0) fun v11 =>
      bnd (fX7_aloneBits v9 v11) fun v12 =>
      bnd (gA x0 4) fun v13 =>
      bnd (gI v13 1) fun v14 =>
      if v14 ≤ (v12 : Int32) then
        grd ((0 : Int32) == 0 || (0 : Int32) == 1) (rtn 0)
      else
        grd ((1 : Int32) == 0 || (1 : Int32) == 1) (rtn 1)
  else
    grd ((1 : Int32) == 0 || (1 : Int32) == 1) (rtn 1)
def fX7_marks_L26 (k4 : Nat → Int32 → Int32 → Mm → Option (Int32 × Mm)) (x0 : Nat) (x1 : Int32) (x2 : Int32) : Mm → Option (Int32 × Mm) :=
  k4 x0 x1 (x2 + 1)
def fX7_marks_L4 : Nat → Nat → Int32 → Int32 → Mm → Option (Int32 × Mm)
  | 0, _, _, _ => fail
  | n + 1, x0, x1, x2 =>
    bnd (gA x0 0) fun v1 =>
    bnd (gI v1 1) fun v2 =>
    if v2 ≤ (x2 : Int32) then
      rtn x1
    else
      bnd (fX7_isMark x0 x2) fun v3 =>
      if (v3 : Int32) = 0 then
        fX7_marks_L26 (fX7_marks_L4 n) x0 x1 x2
      else
        fX7_marks_L26 (fX7_marks_L4 n) x0 (x1 + 1) x2
def fX7_marks (x0 : Nat) : Mm → Option (Int32 × Mm) :=
  fX7_marks_L4 fu x0 0 0
def fX7_linesAsAbove_L40 (k4 : Nat → Int32 → Int32 → Mm → Option (Int32 × Mm)) (x0 : Nat) (x1 : Int32) (x2 : Int32) : Mm → Option (Int32 × Mm) :=
  k4 x0 x1 (x2 + 1)
def fX7_linesAsAbove_L4 : Nat → Nat → Int32 → Int32 → Mm → Option (Int32 × Mm)
  | 0, _, _, _ => fail
  | n + 1, x0, x1, x2 =>
    bnd (gA x0 0) fun v1 =>
    bnd (gI v1 1) fun v2 =>
    if v2 ≤ (x2 : Int32) then
      rtn x1
    else
      bnd (gA x0 0) fun v3 =>
      bnd (fX2_rowAt v3 x2) fun v4 =>
      bnd (gA x0 0) fun v5 =>
      bnd (fX2_rowAt v5 (x2 - 1)) fun v6 =>
      if ((lg_cmp v4 v6) : Int32) = 0 then
        fX7_linesAsAbove_L40 (fX7_linesAsAbove_L4 n) x0 (x1 + 1) x2
      else
        fX7_linesAsAbove_L40 (fX7_linesAsAbove_L4 n) x0 x1 x2
def fX7_linesAsAbove (x0 : Nat) : Mm → Option (Int32 × Mm) :=
  fX7_linesAsAbove_L4 fu x0 0 0
def fX7_count_L10 : Mm → Option ((Nat ⊕ Int32) × Mm) :=
  rtn (.inl 0)
def fX7_count (x0 : Nat) (x1 : Int32) : Mm → Option ((Nat ⊕ Int32) × Mm) :=
  if (x1 : Int32) < 0 then
    fX7_count_L10
  else
    if (x1 : Int32) ≤ 12 then
      if 6 ≤ (x1 : Int32) then
        if (x1 : Int32) = 6 then
          bnd (gA x0 0) fun v1 =>
          bnd (gI v1 0) fun v2 =>
          rtn (.inr v2)
        else if (x1 : Int32) = 7 then
          bnd (gA x0 0) fun v3 =>
          bnd (gI v3 1) fun v4 =>
          rtn (.inr v4)
        else if (x1 : Int32) = 8 then
          bnd (fX7_blackDots x0) fun v5 =>
          rtn (.inr v5)
        else if (x1 : Int32) = 9 then
          bnd (fX7_allChanges x0) fun v6 =>
          rtn (.inr v6)
        else if (x1 : Int32) = 10 then
          bnd (fX7_marks x0) fun v7 =>
          rtn (.inr v7)
        else if (x1 : Int32) = 11 then
          bnd (gA x0 1) fun v8 =>
          bnd (gI v8 0) fun v9 =>
          rtn (.inr v9)
        else 
          bnd (fX7_linesAsAbove x0) fun v10 =>
          rtn (.inr v10)
      else
        bnd (gA x0 0) fun v11 =>
        bnd (gA v11 4) fun v12 =>
        bnd (lI v12 x1) fun v13 =>
        rtn (.inr v13)
    else
      fX7_count_L10
def fX7_needDot_L26 : Mm → Option ((Nat ⊕ Unit) × Mm) :=
  rtn (.inl 2)
def fX7_needDot (x0 : Nat) (x1 : Int32) (x2 : Int32) : Mm → Option ((Nat ⊕ Unit) × Mm) :=
  bnd (gA x0 0) fun v1 =>
  bnd (fX2_hasLine v1 x1) fun v2 =>
  if (v2 : Int32) = 0 then
    fX7_needDot_L26
  else
    if (x2 : Int32) < 0 then
      fX7_needDot_L26
    else
      bnd (gA x0 0) fun v3 =>
      bnd (gI v3 0) fun v4 =>
      if (x2 : Int32) < v4 then
        rtn (.inr ())
      else
        fX7_needDot_L26
def fX7_colourAt (x0 : Int64) (x2 : Int32) : Mm → Option (Int32 × Mm) :=
  rtn ((((lush x0 x2) &&& 1)).toInt32)
def fX7_dot (x0 : Nat) (x1 : Int32) (x2 : Int32) : Mm → Option ((Nat ⊕ Int32) × Mm) :=
  bndX (fX7_needDot x0 x1 x2) fun _ =>
  bnd (gA x0 0) fun v1 =>
  bnd (fX2_rowAt v1 x1) fun v2 =>
  bnd (fX7_colourAt v2 x2) fun v3 =>
  rtn (.inr v3)
def fX7_needLine (x0 : Nat) (x1 : Int32) : Mm → Option ((Nat ⊕ Unit) × Mm) :=
  bnd (gA x0 0) fun v1 =>
  bnd (fX2_hasLine v1 x1) fun v2 =>
  if (v2 : Int32) = 0 then
    rtn (.inl 2)
  else
    rtn (.inr ())
def fX7_latestMark_L2 : Nat → Nat → Int32 → Mm → Option (Int32 × Mm)
  | 0, _, _ => fail
  | n + 1, x0, x2 =>
    if (x2 : Int32) ≤ 0 then
      rtn 0
    else
      bnd (fX7_isMark x0 x2) fun v1 =>
      if (v1 : Int32) = 0 then
        fX7_latestMark_L2 n x0 (x2 + (-1))
      else
        rtn x2
def fX7_latestMark (x0 : Nat) (x1 : Int32) : Mm → Option (Int32 × Mm) :=
  fX7_latestMark_L2 fu x0 x1
def fX7_line_L15 : Mm → Option ((Nat ⊕ Int32) × Mm) :=
  rtn (.inl 0)
def fX7_line (x0 : Nat) (x1 : Int32) (x2 : Int32) : Mm → Option ((Nat ⊕ Int32) × Mm) :=
  bndX (fX7_needLine x0 x1) fun _ =>
  if (x2 : Int32) < 0 then
    fX7_line_L15
  else
    if (x2 : Int32) ≤ 11 then
      bnd (fX7_codeLine x0 x1) fun _ =>
      if (x2 : Int32) = 0 then
        bnd (fX7_isMark x0 x1) fun v1 =>
        if (v1 : Int32) = 0 then
          rtn (.inr 0)
        else
          rtn (.inr 1)
      else if (x2 : Int32) = 1 then
        bnd (gA x0 0) fun v2 =>
        bnd (fX2_rowAt v2 x1) fun v3 =>
        bnd (gA x0 0) fun v4 =>
        bnd (gI v4 0) fun v5 =>
        bnd (fX7_aloneBits v3 v5) fun v6 =>
        rtn (.inr v6)
      else if (x2 : Int32) = 2 then
        bnd (gA x0 4) fun v7 =>
        bnd (gI v7 1) fun v8 =>
        rtn (.inr v8)
      else if (x2 : Int32) = 3 then
        bnd (fX7_isMark x0 x1) fun v9 =>
        if (v9 : Int32) = 0 then
          bnd (gA x0 4) fun v10 =>
          bnd (gI v10 1) fun v11 =>
          rtn (.inr v11)
        else
          bnd (gA x0 0) fun v12 =>
          bnd (fX2_rowAt v12 x1) fun v13 =>
          bnd (gA x0 0) fun v14 =>
          bnd (gI v14 0) fun v15 =>
          bnd (fX7_aloneBits v13 v15) fun v16 =>
          rtn (.inr v16)
      else if (x2 : Int32) = 4 then
        bnd (gA x0 0) fun v17 =>
        bnd (fX2_rowAt v17 x1) fun v18 =>
        bnd (gA x0 0) fun v19 =>
        bnd (gI v19 0) fun v20 =>
        bnd (fX7_changesOf v18 v20) fun v21 =>
        bnd (fJ13_bitCount_95d88 v21) fun v22 =>
        rtn (.inr (v22 + 1))
      else if (x2 : Int32) = 5 then
        bnd (gA x0 4) fun v23 =>
        bnd (gI v23 0) fun v24 =>
        rtn (.inr v24)
      else if (x2 : Int32) = 6 then
        bnd (gA x0 4) fun v25 =>
        bnd (fX0_modesOfKind v25 0) fun v26 =>
        rtn (.inr v26)
      else if (x2 : Int32) = 7 then
        bnd (gA x0 4) fun v27 =>
        bnd (fX0_modesOfKind v27 1) fun v28 =>
        rtn (.inr v28)
      else if (x2 : Int32) = 8 then
        bnd (gA x0 4) fun v29 =>
        bnd (fX0_modesOfKind v29 2) fun v30 =>
        rtn (.inr v30)
      else if (x2 : Int32) = 9 then
        bnd (gA x0 0) fun v31 =>
        bnd (gA v31 3) fun v32 =>
        bnd (lI v32 x1) fun v33 =>
        rtn (.inr v33)
      else if (x2 : Int32) = 10 then
        bnd (gA x0 0) fun v34 =>
        bnd (fX2_rowAt v34 x1) fun v35 =>
        bnd (fJ13_bitCount_95d88 v35) fun v36 =>
        rtn (.inr v36)
      else 
        bnd (fX7_latestMark x0 x1) fun v37 =>
        rtn (.inr v37)
    else
      fX7_line_L15
def fX7_needPlace_L15 : Mm → Option ((Nat ⊕ Unit) × Mm) :=
  rtn (.inl 2)
def fX7_needPlace (x0 : Nat) (x1 : Int32) (x2 : Int32) : Mm → Option ((Nat ⊕ Unit) × Mm) :=
  bnd (gA x0 0) fun v1 =>
  bnd (fX2_hasLine v1 x1) fun v2 =>
  if (v2 : Int32) = 0 then
    fX7_needPlace_L15
  else
    if 0 ≤ (x2 : Int32) then
      rtn (.inr ())
    else
      fX7_needPlace_L15
def fX7_changeAt_L29 (x3 : Int64) : Mm → Option (Int32 × Mm) :=
  if ((lg_cmp x3 0) : Int32) = 0 then
    rtn (-1)
  else
    bnd (fX7_lowestOf x3) fun v1 =>
    rtn v1
def fX7_changeAt_L5 : Nat → Int32 → Int64 → Int32 → Mm → Option (Int32 × Mm)
  | 0, _, _, _ => fail
  | n + 1, x2, x3, x5 =>
    if x2 ≤ (x5 : Int32) then
      fX7_changeAt_L29 x3
    else
      if ((lg_cmp x3 0) : Int32) = 0 then
        fX7_changeAt_L29 x3
      else
        bnd (rtn (x3 &&& (x3 - 1))) fun v2 =>
        fX7_changeAt_L5 n x2 v2 (x5 + 1)
def fX7_changeAt (x0 : Int64) (x2 : Int32) : Mm → Option (Int32 × Mm) :=
  fX7_changeAt_L5 fu x2 x0 0
def fX7_runAt_L56 (x6 : Int32) (s0 : Int32) : Mm → Option (Int32 × Mm) :=
  rtn (s0 - x6)
def fX7_runAt_L34 (x2 : Int32) (x3 : Int32) (x4 : Int64) (s0 : Int32) : Mm → Option (Int32 × Mm) :=
  bnd (fX7_changeAt x4 x3) fun v1 =>
  if (v1 : Int32) = (-1) then
    fX7_runAt_L56 s0 x2
  else
    fX7_runAt_L56 s0 v1
def fX7_runAt (x0 : Int64) (x2 : Int32) (x3 : Int32) : Mm → Option (Int32 × Mm) :=
  bnd (fX7_changesOf x0 x2) fun v2 =>
  bnd (fJ13_bitCount_95d88 v2) fun v3 =>
  if (x3 : Int32) ≤ v3 then
    if (x3 : Int32) = 0 then
      fX7_runAt_L34 x2 x3 v2 0
    else
      bnd (fX7_changeAt v2 (x3 - 1)) fun v4 =>
      fX7_runAt_L34 x2 x3 v2 v4
  else
    rtn (-1)
def fX7_run (x0 : Nat) (x1 : Int32) (x2 : Int32) : Mm → Option ((Nat ⊕ Int32) × Mm) :=
  bndX (fX7_needPlace x0 x1 x2) fun _ =>
  bnd (gA x0 0) fun v1 =>
  bnd (fX2_rowAt v1 x1) fun v2 =>
  bnd (gA x0 0) fun v3 =>
  bnd (gI v3 0) fun v4 =>
  bnd (fX7_runAt v2 v4 x2) fun v5 =>
  rtn (.inr v5)
def fX7_mode_L15 : Mm → Option ((Nat ⊕ Int32) × Mm) :=
  rtn (.inl 0)
def fX7_mode (x0 : Nat) (x1 : Int32) (x2 : Int32) (x3 : Int32) : Mm → Option ((Nat ⊕ Int32) × Mm) :=
  bndX (fX7_needPlace x0 x1 x2) fun _ =>
  if (x3 : Int32) < 0 then
    fX7_mode_L15
  else
    if (x3 : Int32) ≤ 3 then
      bnd (fX7_codeLine x0 x1) fun _ =>
      bnd (gA x0 4) fun v1 =>
      bnd (fX0_modeNumber v1 x2 x3) fun v2 =>
      rtn (.inr v2)
    else
      fX7_mode_L15
def fX7_readBelow_L15 (x0 : Nat) (x1 : Int32) (x2 : Int32) : Mm → Option ((Nat ⊕ Int32) × Mm) :=
  bnd (fX7_codeLine x0 x1) fun _ =>
  bnd (gA x0 4) fun v1 =>
  bnd (gA x0 0) fun v2 =>
  bnd (fX2_rowAt v2 x2) fun v3 =>
  bnd (gA x0 0) fun v4 =>
  bnd (gI v4 0) fun v5 =>
  bnd (fX0_readUnder v1 v3 v5) fun v6 =>
  if ((lg_cmp v6 (-1)) : Int32) = 0 then
    rtn (.inr (-1))
  else
    bnd (gA x0 0) fun v7 =>
    bnd (fX2_rowAt v7 x1) fun v8 =>
    bnd (fJ13_bitCount_95d88 (v6 ^^^ v8)) fun v9 =>
    rtn (.inr v9)
def fX7_readBelow (x0 : Nat) (x1 : Int32) (x2 : Int32) : Mm → Option ((Nat ⊕ Int32) × Mm) :=
  bndX (fX7_needLine x0 x1) fun _ =>
  if (x2 : Int32) = (-1) then
    fX7_readBelow_L15 x0 x1 x2
  else
    bndX (fX7_needLine x0 x2) fun _ =>
    fX7_readBelow_L15 x0 x1 x2
def fX7_needSpan_L31 : Mm → Option ((Nat ⊕ Unit) × Mm) :=
  rtn (.inl 0)
def fX7_needSpan (x0 : Nat) (x1 : Int32) (x2 : Int32) : Mm → Option ((Nat ⊕ Unit) × Mm) :=
  if (x1 : Int32) < 0 then
    fX7_needSpan_L31
  else
    bnd (gA x0 0) fun v1 =>
    bnd (gI v1 0) fun v2 =>
    if v2 < (x1 : Int32) then
      fX7_needSpan_L31
    else
      if (x2 : Int32) < x1 then
        fX7_needSpan_L31
      else
        bnd (gA x0 0) fun v3 =>
        bnd (gI v3 0) fun v4 =>
        if (x2 : Int32) ≤ v4 then
          rtn (.inr ())
        else
          fX7_needSpan_L31
def fX7_needColour_L9 : Mm → Option ((Nat ⊕ Unit) × Mm) :=
  rtn (.inl 0)
def fX7_needColour (x0 : Int32) : Mm → Option ((Nat ⊕ Unit) × Mm) :=
  if (x0 : Int32) < 0 then
    fX7_needColour_L9
  else
    if (x0 : Int32) ≤ 1 then
      rtn (.inr ())
    else
      fX7_needColour_L9
def fX7_paint_L66 (x0 : Nat) (x1 : Int32) (x5 : Int64) (s0 : Int64) : Mm → Option ((Nat ⊕ Int32) × Mm) :=
  bnd (gA x0 0) fun v1 =>
  bnd (fX2_putRow v1 x1 s0) fun _ =>
  bnd (fJ13_bitCount_95d88 (x5 ^^^ s0)) fun v2 =>
  rtn (.inr v2)
def fX7_paint (x0 : Nat) (x1 : Int32) (x2 : Int32) (x3 : Int32) (x4 : Int32) : Mm → Option ((Nat ⊕ Int32) × Mm) :=
  bndX (fX7_needLine x0 x1) fun _ =>
  bndX (fX7_needSpan x0 x2 x3) fun _ =>
  bndX (fX7_needColour x4) fun _ =>
  bnd (gA x0 1) fun v3 =>
  bnd (gA x0 0) fun v4 =>
  bnd (fX1_keep v3 v4) fun _ =>
  bnd (gA x0 0) fun v5 =>
  bnd (fX2_rowAt v5 x1) fun v6 =>
  if (x4 : Int32) = 1 then
    bnd (fX7_span x2 x3) fun v8 =>
    fX7_paint_L66 x0 x1 v6 (v6 ||| v8)
  else
    bnd (fX7_span x2 x3) fun v7 =>
    fX7_paint_L66 x0 x1 v6 (v6 &&& (v7 ^^^ (-1)))
def fX7_shift_L66 (x0 : Nat) (x1 : Int32) (s0 : Int64) (s1 : Int32) (s2 : Nat) : Mm → Option ((Nat ⊕ Int32) × Mm) :=
  bnd (fX2_putRow s2 s1 s0) fun _ =>
  bnd (gA x0 0) fun v1 =>
  bnd (fX2_rowAt v1 x1) fun v2 =>
  bnd (fJ13_bitCount_95d88 v2) fun v3 =>
  rtn (.inr v3)
def fX7_shift_L17 : Mm → Option ((Nat ⊕ Int32) × Mm) :=
  rtn (.inl 0)
def fX7_shift (x0 : Nat) (x1 : Int32) (x2 : Int32) : Mm → Option ((Nat ⊕ Int32) × Mm) :=
  bndX (fX7_needLine x0 x1) fun _ =>
  if (x2 : Int32) < (-40) then
    fX7_shift_L17
  else
    if (x2 : Int32) ≤ 40 then
      bnd (gA x0 1) fun v4 =>
      bnd (gA x0 0) fun v5 =>
      bnd (fX1_keep v4 v5) fun _ =>
      bnd (gA x0 0) fun v6 =>
      bnd (fX2_rowAt v6 x1) fun v7 =>
      bnd (gA x0 0) fun v8 =>
      if 0 ≤ (x2 : Int32) then
        fX7_shift_L66 x0 x1 (lsh v7 x2) x1 v8
      else
        fX7_shift_L66 x0 x1 (lush v7 (-x2)) x1 v8
    else
      fX7_shift_L17
def fX7_needRoom (x0 : Nat) : Mm → Option ((Nat ⊕ Unit) × Mm) :=
  bnd (gA x0 0) fun v1 =>
  bnd (gI v1 1) fun v2 =>
  if (v2 : Int32) < 20 then
    rtn (.inr ())
  else
    rtn (.inl 1)
def fX7_copyLine_L20 : Mm → Option ((Nat ⊕ Int32) × Mm) :=
  rtn (.inl 2)
def fX7_copyLine (x0 : Nat) (x1 : Int32) (x2 : Int32) : Mm → Option ((Nat ⊕ Int32) × Mm) :=
  bndX (fX7_needLine x0 x1) fun _ =>
  if (x2 : Int32) < 0 then
    fX7_copyLine_L20
  else
    bnd (gA x0 0) fun v1 =>
    bnd (gI v1 1) fun v2 =>
    if (x2 : Int32) ≤ v2 then
      bndX (fX7_needRoom x0) fun _ =>
      bnd (gA x0 1) fun v3 =>
      bnd (gA x0 0) fun v4 =>
      bnd (fX1_keep v3 v4) fun _ =>
      bnd (gA x0 0) fun v5 =>
      bnd (gA x0 0) fun v6 =>
      bnd (fX2_rowAt v6 x1) fun v7 =>
      bnd (fX2_insertRow v5 x2 v7) fun _ =>
      bnd (gA x0 0) fun v8 =>
      bnd (gI v8 1) fun v9 =>
      rtn (.inr v9)
    else
      fX7_copyLine_L20
def fX7_removeLine (x0 : Nat) (x1 : Int32) : Mm → Option ((Nat ⊕ Int32) × Mm) :=
  bndX (fX7_needLine x0 x1) fun _ =>
  bnd (gA x0 1) fun v1 =>
  bnd (gA x0 0) fun v2 =>
  bnd (fX1_keep v1 v2) fun _ =>
  bnd (gA x0 0) fun v3 =>
  bnd (fX2_deleteRow v3 x1) fun _ =>
  bnd (gA x0 0) fun v4 =>
  bnd (gI v4 1) fun v5 =>
  rtn (.inr v5)
def fX7_invert (x0 : Nat) (x1 : Int32) : Mm → Option ((Nat ⊕ Int32) × Mm) :=
  bndX (fX7_needLine x0 x1) fun _ =>
  bnd (gA x0 1) fun v1 =>
  bnd (gA x0 0) fun v2 =>
  bnd (fX1_keep v1 v2) fun _ =>
  bnd (gA x0 0) fun v3 =>
  bnd (gA x0 0) fun v4 =>
  bnd (fX2_rowAt v4 x1) fun v5 =>
  bnd (fX2_putRow v3 x1 (v5 ^^^ (-1))) fun _ =>
  bnd (gA x0 0) fun v6 =>
  bnd (fX2_rowAt v6 x1) fun v7 =>
  bnd (fJ13_bitCount_95d88 v7) fun v8 =>
  rtn (.inr v8)
def fX7_swap (x0 : Nat) (x1 : Int32) (x2 : Int32) : Mm → Option ((Nat ⊕ Int32) × Mm) :=
  bndX (fX7_needLine x0 x1) fun _ =>
  bndX (fX7_needLine x0 x2) fun _ =>
  bnd (gA x0 1) fun v1 =>
  bnd (gA x0 0) fun v2 =>
  bnd (fX1_keep v1 v2) fun _ =>
  bnd (gA x0 0) fun v3 =>
  bnd (fX2_rowAt v3 x1) fun v4 =>
  bnd (gA x0 0) fun v5 =>
  bnd (fX2_rowAt v5 x2) fun v6 =>
  bnd (gA x0 0) fun v7 =>
  bnd (fX2_putRow v7 x1 v6) fun _ =>
  bnd (gA x0 0) fun v8 =>
  bnd (fX2_putRow v8 x2 v4) fun _ =>
  bnd (fJ13_bitCount_95d88 (v4 ^^^ v6)) fun v9 =>
  rtn (.inr v9)
def fX7_sent_L10 : Mm → Option ((Nat ⊕ Int32) × Mm) :=
  rtn (.inl 0)
def fX7_sent (x0 : Nat) (x1 : Int32) : Mm → Option ((Nat ⊕ Int32) × Mm) :=
  if (x1 : Int32) < 0 then
    fX7_sent_L10
  else
    if (x1 : Int32) ≤ 9 then
      bnd (gA x0 5) fun v1 =>
      bnd (gA x0 0) fun v2 =>
      bnd (fX5_prepare v1 v2) fun _ =>
      bnd (gA x0 5) fun v3 =>
      bnd (gA x0 0) fun v4 =>
      bnd (fX5_sendPage v3 v4) fun _ =>
      if (x1 : Int32) = 0 then
        bnd (gA x0 5) fun v5 =>
        bnd (gI v5 2) fun v6 =>
        rtn (.inr v6)
      else if (x1 : Int32) = 1 then
        bnd (gA x0 5) fun v7 =>
        bnd (gI v7 3) fun v8 =>
        rtn (.inr v8)
      else if (x1 : Int32) = 2 then
        bnd (gA x0 5) fun v9 =>
        bnd (gI v9 4) fun v10 =>
        rtn (.inr v10)
      else if (x1 : Int32) = 3 then
        bnd (gA x0 5) fun v11 =>
        bnd (gA x0 0) fun v12 =>
        bnd (gI v12 1) fun v13 =>
        bnd (fX5_linesOfState v11 (x1 - 3) v13) fun v14 =>
        rtn (.inr v14)
      else if (x1 : Int32) = 4 then
        bnd (gA x0 5) fun v15 =>
        bnd (gA x0 0) fun v16 =>
        bnd (gI v16 1) fun v17 =>
        bnd (fX5_linesOfState v15 (x1 - 3) v17) fun v18 =>
        rtn (.inr v18)
      else if (x1 : Int32) = 5 then
        bnd (gA x0 5) fun v19 =>
        bnd (gA x0 0) fun v20 =>
        bnd (gI v20 1) fun v21 =>
        bnd (fX5_linesOfState v19 (x1 - 3) v21) fun v22 =>
        rtn (.inr v22)
      else if (x1 : Int32) = 6 then
        bnd (gA x0 5) fun v23 =>
        bnd (gA x0 0) fun v24 =>
        bnd (gI v24 1) fun v25 =>
        bnd (fX5_linesOfState v23 (x1 - 3) v25) fun v26 =>
        rtn (.inr v26)
      else if (x1 : Int32) = 7 then
        bnd (gA x0 5) fun v27 =>
        bnd (gA x0 0) fun v28 =>
        bnd (fX5_wrongDots v27 v28) fun v29 =>
        rtn (.inr v29)
      else if (x1 : Int32) = 8 then
        bnd (gA x0 5) fun v30 =>
        bnd (gI v30 5) fun v31 =>
        rtn (.inr v31)
      else if (x1 : Int32) = 9 then
        bnd (gA x0 5) fun v32 =>
        bnd (gI v32 6) fun v33 =>
        rtn (.inr v33)
      else 
        bnd (gA x0 5) fun v34 =>
        bnd (gA x0 0) fun v35 =>
        bnd (gI v35 1) fun v36 =>
        bnd (fX5_linesOfState v34 (x1 - 3) v36) fun v37 =>
        rtn (.inr v37)
    else
      fX7_sent_L10
def fX7_sentLine_L14 : Mm → Option ((Nat ⊕ Int32) × Mm) :=
  rtn (.inl 0)
def fX7_sentLine (x0 : Nat) (x1 : Int32) (x2 : Int32) : Mm → Option ((Nat ⊕ Int32) × Mm) :=
  bndX (fX7_needLine x0 x1) fun _ =>
  if (x2 : Int32) < 0 then
    fX7_sentLine_L14
  else
    if (x2 : Int32) ≤ 4 then
      bnd (gA x0 5) fun v1 =>
      bnd (gA x0 0) fun v2 =>
      bnd (fX5_prepare v1 v2) fun _ =>
      bnd (gA x0 5) fun v3 =>
      bnd (gA x0 0) fun v4 =>
      bnd (fX5_sendPage v3 v4) fun _ =>
      if (x2 : Int32) = 0 then
        bnd (gA x0 5) fun v5 =>
        bnd (gA v5 8) fun v6 =>
        bnd (lI v6 x1) fun v7 =>
        rtn (.inr v7)
      else if (x2 : Int32) = 1 then
        bnd (gA x0 5) fun v8 =>
        bnd (gA v8 9) fun v9 =>
        bnd (lI v9 x1) fun v10 =>
        rtn (.inr v10)
      else if (x2 : Int32) = 2 then
        bnd (gA x0 5) fun v11 =>
        bnd (gA v11 10) fun v12 =>
        bnd (lI v12 x1) fun v13 =>
        rtn (.inr v13)
      else if (x2 : Int32) = 3 then
        bnd (gA x0 5) fun v14 =>
        bnd (gA x0 0) fun v15 =>
        bnd (fX5_wrongDotsOf v14 x1 v15) fun v16 =>
        rtn (.inr v16)
      else 
        bnd (gA x0 5) fun v17 =>
        bnd (gA v17 11) fun v18 =>
        bnd (lI v18 x1) fun v19 =>
        rtn (.inr v19)
    else
      fX7_sentLine_L14
def fX7_received (x0 : Nat) (x1 : Int32) (x2 : Int32) : Mm → Option ((Nat ⊕ Int32) × Mm) :=
  bndX (fX7_needDot x0 x1 x2) fun _ =>
  bnd (gA x0 5) fun v1 =>
  bnd (gA x0 0) fun v2 =>
  bnd (fX5_prepare v1 v2) fun _ =>
  bnd (gA x0 5) fun v3 =>
  bnd (gA x0 0) fun v4 =>
  bnd (fX5_sendPage v3 v4) fun _ =>
  bnd (gA x0 5) fun v5 =>
  bnd (gA v5 7) fun v6 =>
  bnd (lJ v6 x1) fun v7 =>
  bnd (fX7_colourAt v7 x2) fun v8 =>
  rtn (.inr v8)
def fX7_harm_L14 : Mm → Option ((Nat ⊕ Int32) × Mm) :=
  rtn (.inl 0)
def fX7_harm (x0 : Nat) (x1 : Int32) (x2 : Int32) : Mm → Option ((Nat ⊕ Int32) × Mm) :=
  bndX (fX7_needLine x0 x1) fun _ =>
  if (x2 : Int32) < 0 then
    fX7_harm_L14
  else
    if (x2 : Int32) ≤ 2 then
      bnd (gA x0 5) fun v1 =>
      bnd (gA x0 0) fun v2 =>
      bnd (fX5_prepare v1 v2) fun _ =>
      bnd (gA x0 5) fun v3 =>
      bnd (fX5_loseOnly v3 x1) fun _ =>
      bnd (gA x0 5) fun v4 =>
      bnd (gA x0 0) fun v5 =>
      bnd (fX5_sendPage v4 v5) fun _ =>
      if (x2 : Int32) = 0 then
        bnd (gA x0 5) fun v12 =>
        bnd (gA x0 0) fun v13 =>
        bnd (fX5_wrongLines v12 v13) fun v14 =>
        rtn (.inr v14)
      else
        if (x2 : Int32) = 1 then
          bnd (gA x0 5) fun v9 =>
          bnd (gA x0 0) fun v10 =>
          bnd (fX5_wrongDots v9 v10) fun v11 =>
          rtn (.inr v11)
        else
          bnd (gA x0 5) fun v6 =>
          bnd (gA x0 0) fun v7 =>
          bnd (fX5_lastWrongLine v6 v7) fun v8 =>
          rtn (.inr v8)
    else
      fX7_harm_L14
def fX7_worst_L71 (k17 : Nat → Int32 → Int32 → Int32 → Mm → Option (Int32 × Mm)) (x0 : Nat) (x1 : Int32) (x2 : Int32) (x3 : Int32) : Mm → Option (Int32 × Mm) :=
  k17 x0 x1 x2 (x3 + 1)
def fX7_worst_L17 : Nat → Nat → Int32 → Int32 → Int32 → Mm → Option (Int32 × Mm)
  | 0, _, _, _, _ => fail
  | n + 1, x0, x1, x2, x3 =>
    bnd (gA x0 0) fun v1 =>
    bnd (gI v1 1) fun v2 =>
    if v2 ≤ (x3 : Int32) then
      rtn x1
    else
      bnd (gA x0 5) fun v3 =>
      bnd (fX5_loseOnly v3 x3) fun _ =>
      bnd (gA x0 5) fun v4 =>
      bnd (gA x0 0) fun v5 =>
      bnd (fX5_sendPage v4 v5) fun _ =>
      bnd (gA x0 5) fun v6 =>
      bnd (gA x0 0) fun v7 =>
      bnd (fX5_wrongDots v6 v7) fun v8 =>
      if (v8 : Int32) ≤ x2 then
        fX7_worst_L71 (fX7_worst_L17 n) x0 x1 x2 x3
      else
        fX7_worst_L71 (fX7_worst_L17 n) x0 x3 v8 x3
def fX7_worst (x0 : Nat) : Mm → Option (Int32 × Mm) :=
  bnd (gA x0 5) fun v9 =>
  bnd (gA x0 0) fun v10 =>
  bnd (fX5_prepare v9 v10) fun _ =>
  fX7_worst_L17 fu x0 (-1) (-1) 0
def fX7_bestEvery_L109 (k24 : Nat → Int32 → Int32 → Int32 → Int32 → Mm → Option (Int32 × Mm)) (x0 : Nat) (x1 : Int32) (x2 : Int32) (x3 : Int32) (x4 : Int32) : Mm → Option (Int32 × Mm) :=
  k24 x0 x1 x2 x3 (x4 + 1)
def fX7_bestEvery_L95 (k24 : Nat → Int32 → Int32 → Int32 → Int32 → Mm → Option (Int32 × Mm)) (x0 : Nat) (x4 : Int32) (x5 : Int32) : Mm → Option (Int32 × Mm) :=
  bnd (gA x0 5) fun v1 =>
  bnd (gI v1 2) fun v2 =>
  fX7_bestEvery_L109 k24 x0 x4 x5 v2 x4
def fX7_bestEvery_L24 : Nat → Nat → Int32 → Int32 → Int32 → Int32 → Mm → Option (Int32 × Mm)
  | 0, _, _, _, _, _ => fail
  | n + 1, x0, x1, x2, x3, x4 =>
    bnd (tS 2 0) fun v3 =>
    if v3 < (x4 : Int32) then
      rtn x1
    else
      bnd (gA x0 5) fun v4 =>
      bnd (pI v4 0 x4) fun _ =>
      bnd (gA x0 5) fun v5 =>
      bnd (gA x0 0) fun v6 =>
      bnd (fX5_sendPage v5 v6) fun _ =>
      bnd (gA x0 5) fun v7 =>
      bnd (gA x0 0) fun v8 =>
      bnd (fX5_wrongDots v7 v8) fun v9 =>
      if (x1 : Int32) = (-1) then
        fX7_bestEvery_L95 (fX7_bestEvery_L24 n) x0 x4 v9
      else
        if (v9 : Int32) < x2 then
          fX7_bestEvery_L95 (fX7_bestEvery_L24 n) x0 x4 v9
        else
          if (v9 : Int32) = x2 then
            bnd (gA x0 5) fun v10 =>
            bnd (gI v10 2) fun v11 =>
            if x3 ≤ (v11 : Int32) then
              fX7_bestEvery_L109 (fX7_bestEvery_L24 n) x0 x1 x2 x3 x4
            else
              fX7_bestEvery_L95 (fX7_bestEvery_L24 n) x0 x4 v9
          else
            fX7_bestEvery_L109 (fX7_bestEvery_L24 n) x0 x1 x2 x3 x4
def fX7_bestEvery (x0 : Nat) : Mm → Option (Int32 × Mm) :=
  bnd (gA x0 5) fun v12 =>
  bnd (gA x0 0) fun v13 =>
  bnd (fX5_prepare v12 v13) fun _ =>
  bnd (tS 1 0) fun v14 =>
  fX7_bestEvery_L24 fu x0 (-1) 0 0 v14
def fX7_needsSteps_L17 : Nat → Nat → Int32 → Mm → Option (Int32 × Mm)
  | 0, _, _ => fail
  | n + 1, x0, x1 =>
    bnd (tS 2 3) fun v1 =>
    if v1 < (x1 : Int32) then
      rtn (-1)
    else
      bnd (gA x0 5) fun v2 =>
      bnd (pI v2 1 x1) fun _ =>
      bnd (gA x0 5) fun v3 =>
      bnd (gA x0 0) fun v4 =>
      bnd (fX5_sendPage v3 v4) fun _ =>
      bnd (gA x0 5) fun v5 =>
      bnd (gA x0 0) fun v6 =>
      bnd (fX5_wrongDots v5 v6) fun v7 =>
      if (v7 : Int32) = 0 then
        rtn x1
      else
        fX7_needsSteps_L17 n x0 (x1 + 1)
def fX7_needsSteps (x0 : Nat) : Mm → Option (Int32 × Mm) :=
  bnd (gA x0 5) fun v8 =>
  bnd (gA x0 0) fun v9 =>
  bnd (fX5_prepare v8 v9) fun _ =>
  bnd (tS 1 3) fun v10 =>
  fX7_needsSteps_L17 fu x0 v10
def fX7_undo (x0 : Nat) : Mm → Option (Int32 × Mm) :=
  bnd (gA x0 1) fun v1 =>
  bnd (gA x0 0) fun v2 =>
  bnd (fX1_takeBack v1 v2) fun v3 =>
  if (v3 : Int32) = 0 then
    rtn (-1)
  else
    bnd (gA x0 1) fun v4 =>
    bnd (gI v4 0) fun v5 =>
    rtn v5
