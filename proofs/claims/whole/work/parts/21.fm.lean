def fX8_begins_L2 : Nat → Nat → Int32 → Int32 → Mm → Option (Unit × Mm)
  | 0, _, _, _ => fail
  | n + 1, x0, x1, x2 =>
    if 828 ≤ (x2 : Int32) then
      bnd (gA x0 2) fun v1 =>
      bnd (aI v1 0 x1) fun _ =>
      bnd (gA x0 2) fun v2 =>
      bnd (aI v2 2 4) fun _ =>
      bnd (gA x0 2) fun v3 =>
      bnd (aI v3 6 8) fun _ =>
      bnd (gA x0 2) fun v4 =>
      bnd (aI v4 7 16) fun _ =>
      rtn ()
    else
      bnd (gA x0 2) fun v5 =>
      bnd (aI v5 x2 0) fun _ =>
      fX8_begins_L2 n x0 x1 (x2 + 1)
def fX8_begins (x0 : Nat) (x1 : Int32) : Mm → Option (Unit × Mm) :=
  fX8_begins_L2 fu x0 x1 0
def fX8_copies_L3 : Nat → Nat → Int32 → Nat → Int32 → Int32 → Mm → Option (Unit × Mm)
  | 0, _, _, _, _, _ => fail
  | n + 1, x0, x1, x2, x3, x4 =>
    if 828 ≤ (x4 : Int32) then
      rtn ()
    else
      bnd (lI x0 (x1 + x4)) fun v1 =>
      bnd (aI x2 (x3 + x4) v1) fun _ =>
      fX8_copies_L3 n x0 x1 x2 x3 (x4 + 1)
def fX8_copies (x0 : Nat) (x1 : Int32) (x2 : Nat) (x3 : Int32) : Mm → Option (Unit × Mm) :=
  fX8_copies_L3 fu x0 x1 x2 x3 0
def fX8_init (x0 : Nat) : Mm → Option (Unit × Mm) :=
  bnd (nwA 11 828) fun h1 =>
  bnd (pA x0 1 h1) fun _ =>
  bnd (nwA 11 828) fun h2 =>
  bnd (pA x0 2 h2) fun _ =>
  bnd (nwA 11 8280) fun h3 =>
  bnd (pA x0 3 h3) fun _ =>
  bnd (nwA 11 1656) fun h4 =>
  bnd (pA x0 5 h4) fun _ =>
  bnd (nwA 13 2) fun h5 =>
  bnd (pA x0 6 h5) fun _ =>
  bnd (nwA 11 40) fun h6 =>
  bnd (pA x0 7 h6) fun _ =>
  bnd (nwA 11 40) fun h7 =>
  bnd (pA x0 8 h7) fun _ =>
  bnd (nwA 11 48) fun h8 =>
  bnd (pA x0 10 h8) fun _ =>
  bnd (nwA 11 48) fun h9 =>
  bnd (pA x0 11 h9) fun _ =>
  bnd (nwA 11 48) fun h10 =>
  bnd (pA x0 12 h10) fun _ =>
  bnd (nwA 11 48) fun h11 =>
  bnd (pA x0 13 h11) fun _ =>
  bnd (nwA 11 40) fun h12 =>
  bnd (pA x0 15 h12) fun _ =>
  bnd (nwA 11 44) fun h13 =>
  bnd (pA x0 18 h13) fun _ =>
  bnd (nwA 11 800) fun h14 =>
  bnd (pA x0 20 h14) fun _ =>
  bnd (nwA 11 20) fun h15 =>
  bnd (pA x0 21 h15) fun _ =>
  bnd (nwA 11 20) fun h16 =>
  bnd (pA x0 22 h16) fun _ =>
  bnd (nwA 11 20) fun h17 =>
  bnd (pA x0 23 h17) fun _ =>
  bnd (nwA 11 20) fun h18 =>
  bnd (pA x0 24 h18) fun _ =>
  bnd (nwA 11 20) fun h19 =>
  bnd (pA x0 25 h19) fun _ =>
  bnd (nwA 10 900) fun h20 =>
  bnd (pA x0 31 h20) fun _ =>
  bnd (pI x0 38 (-1)) fun _ =>
  bnd (nwA 10 37) fun h21 =>
  bnd (aB h21 0 108) fun _ =>
  bnd (aB h21 1 105) fun _ =>
  bnd (aB h21 2 110) fun _ =>
  bnd (aB h21 3 101) fun _ =>
  bnd (aB h21 4 32) fun _ =>
  bnd (aB h21 5 97) fun _ =>
  bnd (aB h21 6 108) fun _ =>
  bnd (aB h21 7 111) fun _ =>
  bnd (aB h21 8 110) fun _ =>
  bnd (aB h21 9 101) fun _ =>
  bnd (aB h21 10 32) fun _ =>
  bnd (aB h21 11 97) fun _ =>
  bnd (aB h21 12 98) fun _ =>
  bnd (aB h21 13 111) fun _ =>
  bnd (aB h21 14 118) fun _ =>
  bnd (aB h21 15 101) fun _ =>
  bnd (aB h21 16 32) fun _ =>
  bnd (aB h21 17 115) fun _ =>
  bnd (aB h21 18 101) fun _ =>
  bnd (aB h21 19 116) fun _ =>
  bnd (aB h21 20 32) fun _ =>
  bnd (aB h21 21 108) fun _ =>
  bnd (aB h21 22 111) fun _ =>
  bnd (aB h21 23 115) fun _ =>
  bnd (aB h21 24 115) fun _ =>
  bnd (aB h21 25 32) fun _ =>
  bnd (aB h21 26 119) fun _ =>
  bnd (aB h21 27 105) fun _ =>
  bnd (aB h21 28 100) fun _ =>
  bnd (aB h21 29 101) fun _ =>
  bnd (aB h21 30 32) fun _ =>
  bnd (aB h21 31 112) fun _ =>
  bnd (aB h21 32 32) fun _ =>
  bnd (aB h21 33 118) fun _ =>
  bnd (aB h21 34 32) fun _ =>
  bnd (aB h21 35 104) fun _ =>
  bnd (aB h21 36 32) fun _ =>
  bnd (pA x0 39 h21) fun _ =>
  bnd (nwA 10 600) fun h22 =>
  bnd (pA x0 40 h22) fun _ =>
  bnd (fX8_begins x0 16) fun _ =>
  bnd (gA x0 2) fun v23 =>
  bnd (gA x0 1) fun v24 =>
  bnd (fX8_copies v23 0 v24 0) fun _ =>
  rtn ()
def fX8_thrown (x0 : Nat) : Mm → Option (Int32 × Mm) :=
  bnd (gI x0 0) fun v1 =>
  rtn v1
def fX8_in (x0 : Int32) (x1 : Int32) (x2 : Int32) : Mm → Option (Int32 × Mm) :=
  if (x0 : Int32) < x1 then
    grd ((0 : Int32) == 0 || (0 : Int32) == 1) (rtn 0)
  else
    if x2 < (x0 : Int32) then
      grd ((0 : Int32) == 0 || (0 : Int32) == 1) (rtn 0)
    else
      grd ((1 : Int32) == 0 || (1 : Int32) == 1) (rtn 1)
def fX8_dotAt (x0 : Int32) (x1 : Int32) : Mm → Option (Int32 × Mm) :=
  rtn ((28 + (40 * x0)) + x1)
def fX8_laysUpper_L27 (k2 : Nat → Nat → Int32 → Int32 → Mm → Option (Unit × Mm)) (x0 : Nat) (x1 : Nat) (x2 : Int32) (x3 : Int32) (s0 : Int32) (s1 : Int32) (s2 : Nat) : Mm → Option (Unit × Mm) :=
  bnd (aI s2 s1 s0) fun _ =>
  k2 x0 x1 x2 (x3 + 1)
def fX8_laysUpper_L2 : Nat → Nat → Nat → Int32 → Int32 → Mm → Option (Unit × Mm)
  | 0, _, _, _, _ => fail
  | n + 1, x0, x1, x2, x3 =>
    if 40 ≤ (x3 : Int32) then
      rtn ()
    else
      bnd (gA x0 7) fun v1 =>
      if (x2 : Int32) = (-1) then
        fX8_laysUpper_L27 (fX8_laysUpper_L2 n) x0 x1 x2 x3 0 x3 v1
      else
        bnd (lI x1 (x2 + x3)) fun v2 =>
        fX8_laysUpper_L27 (fX8_laysUpper_L2 n) x0 x1 x2 x3 v2 x3 v1
def fX8_laysUpper (x0 : Nat) (x1 : Nat) (x2 : Int32) : Mm → Option (Unit × Mm) :=
  fX8_laysUpper_L2 fu x0 x1 x2 0
def fX8_laysLower_L2 : Nat → Nat → Nat → Int32 → Int32 → Mm → Option (Unit × Mm)
  | 0, _, _, _, _ => fail
  | n + 1, x0, x1, x2, x3 =>
    if 40 ≤ (x3 : Int32) then
      rtn ()
    else
      bnd (gA x0 8) fun v1 =>
      bnd (lI x1 (x2 + x3)) fun v2 =>
      bnd (aI v1 x3 v2) fun _ =>
      fX8_laysLower_L2 n x0 x1 x2 (x3 + 1)
def fX8_laysLower (x0 : Nat) (x1 : Nat) (x2 : Int32) : Mm → Option (Unit × Mm) :=
  fX8_laysLower_L2 fu x0 x1 x2 0
def fX8_laysLine_L30 (x0 : Nat) (x1 : Int32) (s0 : Int32) (s1 : Nat) (s2 : Nat) : Mm → Option (Unit × Mm) :=
  bnd (fX8_laysUpper s2 s1 s0) fun _ =>
  bnd (gA x0 1) fun v1 =>
  bnd (fX8_dotAt x1 0) fun v2 =>
  bnd (fX8_laysLower x0 v1 v2) fun _ =>
  rtn ()
def fX8_laysLine (x0 : Nat) (x1 : Int32) : Mm → Option (Unit × Mm) :=
  bnd (gA x0 1) fun v3 =>
  bnd (lI v3 0) fun v4 =>
  bnd (pI x0 9 v4) fun _ =>
  bnd (gA x0 1) fun v5 =>
  if (x1 : Int32) = 0 then
    fX8_laysLine_L30 x0 x1 (-1) v5 x0
  else
    bnd (fX8_dotAt (x1 - 1) 0) fun v6 =>
    fX8_laysLine_L30 x0 x1 v6 v5 x0
def fX8_isChange_L22 (s0 : Int32) (s1 : Int32) : Mm → Option (Int32 × Mm) :=
  if (s1 : Int32) = s0 then
    grd ((0 : Int32) == 0 || (0 : Int32) == 1) (rtn 0)
  else
    grd ((1 : Int32) == 0 || (1 : Int32) == 1) (rtn 1)
def fX8_isChange (x0 : Nat) (x1 : Int32) : Mm → Option (Int32 × Mm) :=
  bnd (gA x0 7) fun v1 =>
  bnd (lI v1 x1) fun v2 =>
  if (x1 : Int32) = 0 then
    fX8_isChange_L22 0 v2
  else
    bnd (gA x0 7) fun v3 =>
    bnd (lI v3 (x1 - 1)) fun v4 =>
    fX8_isChange_L22 v4 v2
def fX8_changeBehind_L36 (x0 : Nat) (x3 : Int32) : Mm → Option (Int32 × Mm) :=
  bnd (gI x0 9) fun v1 =>
  if v1 ≤ (x3 : Int32) then
    bnd (gI x0 9) fun v2 =>
    rtn v2
  else
    rtn x3
def fX8_changeBehind_L30 (k4 : Nat → Int32 → Int32 → Mm → Option (Int32 × Mm)) (x0 : Nat) (x2 : Int32) (x3 : Int32) : Mm → Option (Int32 × Mm) :=
  k4 x0 x2 (x3 + 1)
def fX8_changeBehind_L4 : Nat → Nat → Int32 → Int32 → Mm → Option (Int32 × Mm)
  | 0, _, _, _ => fail
  | n + 1, x0, x2, x3 =>
    bnd (gI x0 9) fun v3 =>
    if v3 ≤ (x3 : Int32) then
      fX8_changeBehind_L36 x0 x3
    else
      bnd (fX8_isChange x0 x3) fun v4 =>
      if (v4 : Int32) = 0 then
        fX8_changeBehind_L30 (fX8_changeBehind_L4 n) x0 x2 x3
      else
        bnd (gA x0 7) fun v5 =>
        bnd (lI v5 x3) fun v6 =>
        if (v6 : Int32) = x2 then
          fX8_changeBehind_L30 (fX8_changeBehind_L4 n) x0 x2 x3
        else
          fX8_changeBehind_L36 x0 x3
def fX8_changeBehind (x0 : Nat) (x1 : Int32) (x2 : Int32) : Mm → Option (Int32 × Mm) :=
  bnd (rtn (x1 + 1)) fun v7 =>
  fX8_changeBehind_L4 fu x0 x2 v7
def fX8_dotBehind_L28 (x0 : Nat) (x3 : Int32) : Mm → Option (Int32 × Mm) :=
  bnd (gI x0 9) fun v1 =>
  if v1 ≤ (x3 : Int32) then
    bnd (gI x0 9) fun v2 =>
    rtn v2
  else
    rtn x3
def fX8_dotBehind_L4 : Nat → Nat → Int32 → Int32 → Mm → Option (Int32 × Mm)
  | 0, _, _, _ => fail
  | n + 1, x0, x2, x3 =>
    bnd (gI x0 9) fun v3 =>
    if v3 ≤ (x3 : Int32) then
      fX8_dotBehind_L28 x0 x3
    else
      bnd (gA x0 8) fun v4 =>
      bnd (lI v4 x3) fun v5 =>
      if (v5 : Int32) = x2 then
        fX8_dotBehind_L28 x0 x3
      else
        fX8_dotBehind_L4 n x0 x2 (x3 + 1)
def fX8_dotBehind (x0 : Nat) (x1 : Int32) (x2 : Int32) : Mm → Option (Int32 × Mm) :=
  bnd (rtn (x1 + 1)) fun v6 =>
  fX8_dotBehind_L4 fu x0 x2 v6
def fX8_adds (x0 : Nat) (x1 : Int32) (x2 : Int32) (x3 : Int32) (x4 : Int32) : Mm → Option (Unit × Mm) :=
  bnd (gA x0 10) fun v1 =>
  bnd (gI x0 14) fun v2 =>
  bnd (aI v1 v2 x1) fun _ =>
  bnd (gA x0 11) fun v3 =>
  bnd (gI x0 14) fun v4 =>
  bnd (aI v3 v4 x2) fun _ =>
  bnd (gA x0 12) fun v5 =>
  bnd (gI x0 14) fun v6 =>
  bnd (aI v5 v6 x3) fun _ =>
  bnd (gA x0 13) fun v7 =>
  bnd (gI x0 14) fun v8 =>
  bnd (aI v7 v8 x4) fun _ =>
  bnd (gI x0 14) fun v9 =>
  bnd (pI x0 14 (v9 + 1)) fun _ =>
  rtn ()
def fX8_least0 (x0 : Int32) : Mm → Option (Int32 × Mm) :=
  if 0 ≤ (x0 : Int32) then
    rtn x0
  else
    rtn 0
def fX8_codes_L156 (k9 : Nat → Int32 → Int32 → Mm → Option (Unit × Mm)) (x0 : Nat) (x1 : Int32) (x2 : Int32) : Mm → Option (Unit × Mm) :=
  k9 x0 x1 x2
def fX8_codes_L134 (k9 : Nat → Int32 → Int32 → Mm → Option (Unit × Mm)) (x0 : Nat) (x1 : Int32) (x2 : Int32) (x3 : Int32) (s0 : Int32) : Mm → Option (Unit × Mm) :=
  bnd (fX8_least0 x1) fun v1 =>
  bnd (fX8_adds x0 2 (x3 - v1) (s0 - x3) s0) fun _ =>
  fX8_codes_L156 k9 x0 s0 x2
def fX8_codes_L57 (k9 : Nat → Int32 → Int32 → Mm → Option (Unit × Mm)) (x0 : Nat) (x1 : Int32) (x2 : Int32) (x3 : Int32) (x4 : Int32) (s0 : Int32) : Mm → Option (Unit × Mm) :=
  if x3 ≤ (s0 : Int32) then
    bnd (fX8_in (x3 - x4) (-3) 3) fun v2 =>
    if (v2 : Int32) = 0 then
      bnd (gI x0 9) fun v3 =>
      if (x3 : Int32) = v3 then
        bnd (gI x0 9) fun v5 =>
        fX8_codes_L134 k9 x0 x1 x2 x3 v5
      else
        bnd (fX8_dotBehind x0 x3 x2) fun v4 =>
        fX8_codes_L134 k9 x0 x1 x2 x3 v4
    else
      bnd (fX8_adds x0 1 (x3 - x4) 0 x3) fun _ =>
      bnd (rtn (1 - x2)) fun v6 =>
      fX8_codes_L156 k9 x0 x3 v6
  else
    bnd (fX8_adds x0 0 0 0 s0) fun _ =>
    fX8_codes_L156 k9 x0 s0 x2
def fX8_codes_L9 : Nat → Nat → Int32 → Int32 → Mm → Option (Unit × Mm)
  | 0, _, _, _ => fail
  | n + 1, x0, x1, x2 =>
    bnd (gI x0 9) fun v7 =>
    if (x1 : Int32) = v7 then
      rtn ()
    else
      bnd (fX8_dotBehind x0 x1 (1 - x2)) fun v8 =>
      bnd (fX8_changeBehind x0 x1 x2) fun v9 =>
      bnd (gI x0 9) fun v10 =>
      if (v9 : Int32) = v10 then
        bnd (gI x0 9) fun v12 =>
        fX8_codes_L57 (fX8_codes_L9 n) x0 x1 x2 v8 v9 v12
      else
        bnd (fX8_changeBehind x0 v9 2) fun v11 =>
        fX8_codes_L57 (fX8_codes_L9 n) x0 x1 x2 v8 v9 v11
def fX8_codes (x0 : Nat) : Mm → Option (Unit × Mm) :=
  bnd (pI x0 14 0) fun _ =>
  fX8_codes_L9 fu x0 (-1) 0
def fX8_numberBits (x0 : Int32) : Mm → Option (Int32 × Mm) :=
  if 8 ≤ (x0 : Int32) then
    rtn 8
  else
    rtn 4
def fX8_codeBits_L115 (k4 : Nat → Int32 → Int32 → Mm → Option (Int32 × Mm)) (x0 : Nat) (x2 : Int32) (s0 : Int32) (s1 : Int32) : Mm → Option (Int32 × Mm) :=
  bnd (rtn (s1 + s0)) fun v1 =>
  k4 x0 v1 (x2 + 1)
def fX8_codeBits_L37 (k4 : Nat → Int32 → Int32 → Mm → Option (Int32 × Mm)) (x0 : Nat) (x1 : Int32) (x2 : Int32) (s0 : Int32) : Mm → Option (Int32 × Mm) :=
  bnd (gA x0 10) fun v2 =>
  bnd (lI v2 x2) fun v3 =>
  if (v3 : Int32) = 0 then
    fX8_codeBits_L115 k4 x0 x2 4 x1
  else
    bnd (gA x0 10) fun v4 =>
    bnd (lI v4 x2) fun v5 =>
    if (v5 : Int32) = 2 then
      bnd (gA x0 11) fun v6 =>
      bnd (lI v6 x2) fun v7 =>
      bnd (fX8_numberBits v7) fun v8 =>
      bnd (gA x0 12) fun v9 =>
      bnd (lI v9 x2) fun v10 =>
      bnd (fX8_numberBits v10) fun v11 =>
      fX8_codeBits_L115 k4 x0 x2 ((3 + v8) + v11) x1
    else
      if (s0 : Int32) = 0 then
        fX8_codeBits_L115 k4 x0 x2 1 x1
      else
        if (s0 : Int32) = 1 then
          fX8_codeBits_L115 k4 x0 x2 3 x1
        else
          if (s0 : Int32) = 2 then
            fX8_codeBits_L115 k4 x0 x2 6 x1
          else
            fX8_codeBits_L115 k4 x0 x2 7 x1
def fX8_codeBits_L4 : Nat → Nat → Int32 → Int32 → Mm → Option (Int32 × Mm)
  | 0, _, _, _ => fail
  | n + 1, x0, x1, x2 =>
    bnd (gI x0 14) fun v12 =>
    if v12 ≤ (x2 : Int32) then
      rtn x1
    else
      bnd (gA x0 11) fun v13 =>
      bnd (lI v13 x2) fun v14 =>
      if 0 ≤ (v14 : Int32) then
        bnd (gA x0 11) fun v15 =>
        bnd (lI v15 x2) fun v16 =>
        fX8_codeBits_L37 (fX8_codeBits_L4 n) x0 x1 x2 v16
      else
        bnd (gA x0 11) fun v17 =>
        bnd (lI v17 x2) fun v18 =>
        fX8_codeBits_L37 (fX8_codeBits_L4 n) x0 x1 x2 (-v18)
def fX8_codeBits (x0 : Nat) : Mm → Option (Int32 × Mm) :=
  fX8_codeBits_L4 fu x0 0 0
def fX8_startsReading_L12 : Nat → Nat → Int32 → Mm → Option (Unit × Mm)
  | 0, _, _ => fail
  | n + 1, x0, x1 =>
    if 40 ≤ (x1 : Int32) then
      rtn ()
    else
      bnd (gA x0 15) fun v1 =>
      bnd (aI v1 x1 0) fun _ =>
      fX8_startsReading_L12 n x0 (x1 + 1)
def fX8_startsReading (x0 : Nat) : Mm → Option (Unit × Mm) :=
  bnd (pI x0 16 (-1)) fun _ =>
  bnd (pI x0 17 0) fun _ =>
  fX8_startsReading_L12 fu x0 0
def fX8_paints_L3 : Nat → Nat → Int32 → Int32 → Int32 → Mm → Option (Unit × Mm)
  | 0, _, _, _, _ => fail
  | n + 1, x0, x2, x3, x4 =>
    if x2 ≤ (x4 : Int32) then
      rtn ()
    else
      bnd (gA x0 15) fun v1 =>
      bnd (aI v1 x4 x3) fun _ =>
      fX8_paints_L3 n x0 x2 x3 (x4 + 1)
def fX8_paints (x0 : Nat) (x1 : Int32) (x2 : Int32) (x3 : Int32) : Mm → Option (Unit × Mm) :=
  fX8_paints_L3 fu x0 x2 x3 x1
def fX8_readsMode_L190 (s0 : Int32) (s1 : Nat) : Mm → Option (Int32 × Mm) :=
  bnd (pI s1 17 s0) fun _ =>
  grd ((1 : Int32) == 0 || (1 : Int32) == 1) (rtn 1)
def fX8_readsMode_L117 (x0 : Nat) (x1 : Int32) (x4 : Int32) (x6 : Int32) (s0 : Int32) : Mm → Option (Int32 × Mm) :=
  bnd (gI x0 16) fun v1 =>
  if (s0 : Int32) ≤ v1 then
    grd ((0 : Int32) == 0 || (0 : Int32) == 1) (rtn 0)
  else
    bnd (gI x0 9) fun v2 =>
    if (s0 : Int32) ≤ v2 then
      bnd (gI x0 17) fun v3 =>
      bnd (fX8_paints x0 x4 x6 v3) fun _ =>
      bnd (gI x0 17) fun v4 =>
      bnd (fX8_paints x0 x6 s0 (1 - v4)) fun _ =>
      bnd (pI x0 16 s0) fun _ =>
      if (x1 : Int32) = 1 then
        bnd (gI x0 17) fun v6 =>
        fX8_readsMode_L190 (1 - v6) x0
      else
        bnd (gI x0 17) fun v5 =>
        fX8_readsMode_L190 v5 x0
    else
      grd ((0 : Int32) == 0 || (0 : Int32) == 1) (rtn 0)
def fX8_readsMode_L101 (x0 : Nat) (x1 : Int32) (x3 : Int32) (x4 : Int32) (s0 : Int32) : Mm → Option (Int32 × Mm) :=
  if (x1 : Int32) = 1 then
    fX8_readsMode_L117 x0 x1 x4 s0 s0
  else
    fX8_readsMode_L117 x0 x1 x4 s0 (s0 + x3)
def fX8_readsMode_L63 (x0 : Nat) (x4 : Int32) (s0 : Int32) : Mm → Option (Int32 × Mm) :=
  bnd (gI x0 17) fun v7 =>
  bnd (fX8_paints x0 x4 s0 v7) fun _ =>
  bnd (pI x0 16 s0) fun _ =>
  grd ((1 : Int32) == 0 || (1 : Int32) == 1) (rtn 1)
def fX8_readsMode (x0 : Nat) (x1 : Int32) (x2 : Int32) (x3 : Int32) : Mm → Option (Int32 × Mm) :=
  bnd (gI x0 16) fun v8 =>
  bnd (gI x0 9) fun v9 =>
  if (v8 : Int32) = v9 then
    grd ((0 : Int32) == 0 || (0 : Int32) == 1) (rtn 0)
  else
    bnd (gI x0 16) fun v10 =>
    bnd (fX8_least0 v10) fun v11 =>
    bnd (gI x0 16) fun v12 =>
    bnd (gI x0 17) fun v13 =>
    bnd (fX8_changeBehind x0 v12 v13) fun v14 =>
    if (x1 : Int32) = 0 then
      bnd (gI x0 9) fun v15 =>
      if (v14 : Int32) = v15 then
        bnd (gI x0 9) fun v17 =>
        fX8_readsMode_L63 x0 v11 v17
      else
        bnd (fX8_changeBehind x0 v14 2) fun v16 =>
        fX8_readsMode_L63 x0 v11 v16
    else
      if (x1 : Int32) = 1 then
        fX8_readsMode_L101 x0 x1 x3 v11 (v14 + x2)
      else
        fX8_readsMode_L101 x0 x1 x3 v11 (v11 + x2)
def fX8_readsCode_L49 (x0 : Nat) (x1 : Int32) : Mm → Option (Int32 × Mm) :=
  if (x1 : Int32) = 0 then
    grd ((0 : Int32) == 0 || (0 : Int32) == 1) (rtn 0)
  else
    bnd (gI x0 16) fun v1 =>
    bnd (gI x0 9) fun v2 =>
    if (v1 : Int32) = v2 then
      grd ((1 : Int32) == 0 || (1 : Int32) == 1) (rtn 1)
    else
      grd ((0 : Int32) == 0 || (0 : Int32) == 1) (rtn 0)
def fX8_readsCode_L8 : Nat → Nat → Int32 → Int32 → Mm → Option (Int32 × Mm)
  | 0, _, _, _ => fail
  | n + 1, x0, x1, x2 =>
    bnd (gI x0 14) fun v3 =>
    if v3 ≤ (x2 : Int32) then
      fX8_readsCode_L49 x0 x1
    else
      if (x1 : Int32) = 0 then
        fX8_readsCode_L49 x0 x1
      else
        bnd (gA x0 10) fun v4 =>
        bnd (lI v4 x2) fun v5 =>
        bnd (gA x0 11) fun v6 =>
        bnd (lI v6 x2) fun v7 =>
        bnd (gA x0 12) fun v8 =>
        bnd (lI v8 x2) fun v9 =>
        bnd (fX8_readsMode x0 v5 v7 v9) fun v10 =>
        fX8_readsCode_L8 n x0 v10 (x2 + 1)
def fX8_readsCode (x0 : Nat) : Mm → Option (Int32 × Mm) :=
  bnd (fX8_startsReading x0) fun _ =>
  fX8_readsCode_L8 fu x0 1 0
def fX8_codesAlone_L50 (k9 : Nat → Int32 → Int32 → Mm → Option (Unit × Mm)) (x0 : Nat) (x1 : Int32) (x2 : Int32) (x3 : Int32) : Mm → Option (Unit × Mm) :=
  bnd (gA x0 18) fun v1 =>
  bnd (gI x0 19) fun v2 =>
  bnd (aI v1 v2 (x3 - x2)) fun _ =>
  bnd (gI x0 19) fun v3 =>
  bnd (pI x0 19 (v3 + 1)) fun _ =>
  bnd (rtn (1 - x1)) fun v4 =>
  k9 x0 v4 x3
def fX8_codesAlone_L26 (k9 : Nat → Int32 → Int32 → Mm → Option (Unit × Mm)) : Nat → Nat → Int32 → Int32 → Int32 → Mm → Option (Unit × Mm)
  | 0, _, _, _, _ => fail
  | n + 1, x0, x1, x2, x3 =>
    bnd (gI x0 9) fun v5 =>
    if v5 ≤ (x3 : Int32) then
      fX8_codesAlone_L50 k9 x0 x1 x2 x3
    else
      bnd (gA x0 8) fun v6 =>
      bnd (lI v6 x3) fun v7 =>
      if (v7 : Int32) = x1 then
        fX8_codesAlone_L26 k9 n x0 x1 x2 (x3 + 1)
      else
        fX8_codesAlone_L50 k9 x0 x1 x2 x3
def fX8_codesAlone_L24 (k9 : Nat → Int32 → Int32 → Mm → Option (Unit × Mm)) (x0 : Nat) (x1 : Int32) (x2 : Int32) : Mm → Option (Unit × Mm) :=
  fX8_codesAlone_L26 k9 fu x0 x1 x2 x2
def fX8_codesAlone_L9 : Nat → Nat → Int32 → Int32 → Mm → Option (Unit × Mm)
  | 0, _, _, _ => fail
  | n + 1, x0, x1, x2 =>
    bnd (gI x0 9) fun v8 =>
    if (x2 : Int32) < v8 then
      fX8_codesAlone_L24 (fX8_codesAlone_L9 n) x0 x1 x2
    else
      bnd (gI x0 19) fun v9 =>
      if (v9 : Int32) = 0 then
        fX8_codesAlone_L24 (fX8_codesAlone_L9 n) x0 x1 x2
      else
        rtn ()
def fX8_codesAlone (x0 : Nat) : Mm → Option (Unit × Mm) :=
  bnd (pI x0 19 0) fun _ =>
  fX8_codesAlone_L9 fu x0 0 0
def fX8_aloneBits_L4 : Nat → Nat → Int32 → Int32 → Mm → Option (Int32 × Mm)
  | 0, _, _, _ => fail
  | n + 1, x0, x1, x2 =>
    bnd (gI x0 19) fun v1 =>
    if v1 ≤ (x2 : Int32) then
      rtn x1
    else
      bnd (gA x0 18) fun v2 =>
      bnd (lI v2 x2) fun v3 =>
      bnd (fX8_numberBits v3) fun v4 =>
      bnd (rtn (x1 + v4)) fun v5 =>
      fX8_aloneBits_L4 n x0 v5 (x2 + 1)
def fX8_aloneBits (x0 : Nat) : Mm → Option (Int32 × Mm) :=
  fX8_aloneBits_L4 fu x0 0 0
def fX8_codesLine (x0 : Nat) (x1 : Int32) : Mm → Option (Unit × Mm) :=
  bnd (fX8_laysLine x0 x1) fun _ =>
  bnd (fX8_codes x0) fun _ =>
  bnd (fX8_codesAlone x0) fun _ =>
  rtn ()
def fX8_isMark (x0 : Nat) (x1 : Int32) : Mm → Option (Int32 × Mm) :=
  bnd (gA x0 1) fun v1 =>
  bnd (lI v1 2) fun v2 =>
  grd (!((v2 : Int32) == 0)) <|
  if ((x1 - x1 / v2 * v2) : Int32) = 0 then
    grd ((1 : Int32) == 0 || (1 : Int32) == 1) (rtn 1)
  else
    bnd (fX8_codesLine x0 x1) fun _ =>
    bnd (gA x0 1) fun v3 =>
    bnd (lI v3 3) fun v4 =>
    if (v4 : Int32) = 1 then
      bnd (fX8_aloneBits x0) fun v5 =>
      bnd (fX8_codeBits x0) fun v6 =>
      if v6 ≤ (v5 : Int32) then
        grd ((0 : Int32) == 0 || (0 : Int32) == 1) (rtn 0)
      else
        grd ((1 : Int32) == 0 || (1 : Int32) == 1) (rtn 1)
    else
      grd ((0 : Int32) == 0 || (0 : Int32) == 1) (rtn 0)
def fX8_sentBits (x0 : Nat) (x1 : Int32) : Mm → Option (Int32 × Mm) :=
  bnd (fX8_isMark x0 x1) fun v1 =>
  bnd (fX8_codesLine x0 x1) fun _ =>
  if (v1 : Int32) = 0 then
    bnd (fX8_codeBits x0) fun v2 =>
    rtn v2
  else
    bnd (fX8_aloneBits x0) fun v3 =>
    rtn v3
def fX8_markUpTo_L2 : Nat → Nat → Int32 → Mm → Option (Int32 × Mm)
  | 0, _, _ => fail
  | n + 1, x0, x2 =>
    bnd (fX8_isMark x0 x2) fun v1 =>
    if (v1 : Int32) = 0 then
      fX8_markUpTo_L2 n x0 (x2 + (-1))
    else
      rtn x2
def fX8_markUpTo (x0 : Nat) (x1 : Int32) : Mm → Option (Int32 × Mm) :=
  fX8_markUpTo_L2 fu x0 x1
def fX8_blacks_L4 : Nat → Nat → Int32 → Int32 → Int32 → Mm → Option (Int32 × Mm)
  | 0, _, _, _, _ => fail
  | n + 1, x0, x1, x2, x3 =>
    bnd (gA x0 1) fun v1 =>
    bnd (lI v1 0) fun v2 =>
    if v2 ≤ (x3 : Int32) then
      rtn x2
    else
      bnd (gA x0 1) fun v3 =>
      bnd (fX8_dotAt x1 x3) fun v4 =>
      bnd (lI v3 v4) fun v5 =>
      bnd (rtn (x2 + v5)) fun v6 =>
      fX8_blacks_L4 n x0 x1 v6 (x3 + 1)
def fX8_blacks (x0 : Nat) (x1 : Int32) : Mm → Option (Int32 × Mm) :=
  fX8_blacks_L4 fu x0 x1 0 0
def fX8_ahead (x0 : Nat) (x1 : Int32) (x2 : Int32) : Mm → Option (Int32 × Mm) :=
  if (x2 : Int32) = 0 then
    rtn 0
  else
    bnd (gA x0 1) fun v1 =>
    bnd (fX8_dotAt x1 (x2 - 1)) fun v2 =>
    bnd (lI v1 v2) fun v3 =>
    rtn v3
def fX8_changes_L39 (k4 : Nat → Int32 → Int32 → Int32 → Mm → Option (Int32 × Mm)) (x0 : Nat) (x1 : Int32) (x3 : Int32) (s0 : Int32) (s1 : Int32) : Mm → Option (Int32 × Mm) :=
  bnd (rtn (s1 + s0)) fun v1 =>
  k4 x0 x1 v1 (x3 + 1)
def fX8_changes_L4 : Nat → Nat → Int32 → Int32 → Int32 → Mm → Option (Int32 × Mm)
  | 0, _, _, _, _ => fail
  | n + 1, x0, x1, x2, x3 =>
    bnd (gA x0 1) fun v2 =>
    bnd (lI v2 0) fun v3 =>
    if v3 ≤ (x3 : Int32) then
      rtn x2
    else
      bnd (gA x0 1) fun v4 =>
      bnd (fX8_dotAt x1 x3) fun v5 =>
      bnd (lI v4 v5) fun v6 =>
      bnd (fX8_ahead x0 x1 x3) fun v7 =>
      if (v6 : Int32) = v7 then
        fX8_changes_L39 (fX8_changes_L4 n) x0 x1 x3 0 x2
      else
        fX8_changes_L39 (fX8_changes_L4 n) x0 x1 x3 1 x2
def fX8_changes (x0 : Nat) (x1 : Int32) : Mm → Option (Int32 × Mm) :=
  fX8_changes_L4 fu x0 x1 0 0
def fX8_differs_L56 (k5 : Nat → Int32 → Int32 → Int32 → Int32 → Mm → Option (Int32 × Mm)) (x0 : Nat) (x1 : Int32) (x2 : Int32) (x4 : Int32) (s0 : Int32) (s1 : Int32) : Mm → Option (Int32 × Mm) :=
  bnd (rtn (s1 + s0)) fun v1 =>
  k5 x0 x1 x2 v1 (x4 + 1)
def fX8_differs_L48 (k5 : Nat → Int32 → Int32 → Int32 → Int32 → Mm → Option (Int32 × Mm)) (x0 : Nat) (x1 : Int32) (x2 : Int32) (x4 : Int32) (s0 : Int32) (s1 : Int32) (s2 : Int32) : Mm → Option (Int32 × Mm) :=
  if (s1 : Int32) = s0 then
    fX8_differs_L56 k5 x0 x1 x2 x4 0 s2
  else
    fX8_differs_L56 k5 x0 x1 x2 x4 1 s2
def fX8_differs_L5 : Nat → Nat → Int32 → Int32 → Int32 → Int32 → Mm → Option (Int32 × Mm)
  | 0, _, _, _, _, _ => fail
  | n + 1, x0, x1, x2, x3, x4 =>
    bnd (gA x0 1) fun v2 =>
    bnd (lI v2 0) fun v3 =>
    if v3 ≤ (x4 : Int32) then
      rtn x3
    else
      bnd (gA x0 1) fun v4 =>
      bnd (fX8_dotAt x1 x4) fun v5 =>
      bnd (lI v4 v5) fun v6 =>
      if (x2 : Int32) = (-1) then
        fX8_differs_L48 (fX8_differs_L5 n) x0 x1 x2 x4 0 v6 x3
      else
        bnd (gA x0 1) fun v7 =>
        bnd (fX8_dotAt x2 x4) fun v8 =>
        bnd (lI v7 v8) fun v9 =>
        fX8_differs_L48 (fX8_differs_L5 n) x0 x1 x2 x4 v9 v6 x3
def fX8_differs (x0 : Nat) (x1 : Int32) (x2 : Int32) : Mm → Option (Int32 × Mm) :=
  fX8_differs_L5 fu x0 x1 x2 0 0
def fX8_sumOf_L81 (k4 : Nat → Int32 → Int32 → Int32 → Mm → Option (Int32 × Mm)) (x0 : Nat) (x1 : Int32) (x3 : Int32) (s0 : Int32) (s1 : Int32) : Mm → Option (Int32 × Mm) :=
  bnd (rtn (s1 + s0)) fun v1 =>
  k4 x0 x1 v1 (x3 + 1)
def fX8_sumOf_L4 : Nat → Nat → Int32 → Int32 → Int32 → Mm → Option (Int32 × Mm)
  | 0, _, _, _, _ => fail
  | n + 1, x0, x1, x2, x3 =>
    bnd (gA x0 1) fun v2 =>
    bnd (lI v2 1) fun v3 =>
    if v3 ≤ (x3 : Int32) then
      rtn x2
    else
      if (x1 : Int32) = 8 then
        bnd (fX8_blacks x0 x3) fun v7 =>
        fX8_sumOf_L81 (fX8_sumOf_L4 n) x0 x1 x3 v7 x2
      else
        if (x1 : Int32) = 9 then
          bnd (fX8_changes x0 x3) fun v6 =>
          fX8_sumOf_L81 (fX8_sumOf_L4 n) x0 x1 x3 v6 x2
        else
          if (x1 : Int32) = 10 then
            bnd (fX8_isMark x0 x3) fun v5 =>
            if (v5 : Int32) = 0 then
              fX8_sumOf_L81 (fX8_sumOf_L4 n) x0 x1 x3 0 x2
            else
              fX8_sumOf_L81 (fX8_sumOf_L4 n) x0 x1 x3 1 x2
          else
            bnd (fX8_differs x0 x3 (x3 - 1)) fun v4 =>
            if (v4 : Int32) = 0 then
              fX8_sumOf_L81 (fX8_sumOf_L4 n) x0 x1 x3 1 x2
            else
              fX8_sumOf_L81 (fX8_sumOf_L4 n) x0 x1 x3 0 x2
def fX8_sumOf (x0 : Nat) (x1 : Int32) : Mm → Option (Int32 × Mm) :=
  fX8_sumOf_L4 fu x0 x1 0 0
def fX8_count_L31 (x0 : Nat) (x1 : Int32) (s0 : Int32) : Mm → Option (Int32 × Mm) :=
  if (s0 : Int32) = (-1) then
    rtn 0
  else if (s0 : Int32) = 0 then
    bnd (gA x0 1) fun v1 =>
    bnd (lI v1 (2 + x1)) fun v2 =>
    rtn v2
  else if (s0 : Int32) = 1 then
    bnd (gA x0 1) fun v3 =>
    bnd (lI v3 (2 + x1)) fun v4 =>
    rtn v4
  else if (s0 : Int32) = 2 then
    bnd (gA x0 1) fun v5 =>
    bnd (lI v5 (2 + x1)) fun v6 =>
    rtn v6
  else if (s0 : Int32) = 3 then
    bnd (gA x0 1) fun v7 =>
    bnd (lI v7 (2 + x1)) fun v8 =>
    rtn v8
  else if (s0 : Int32) = 4 then
    bnd (gA x0 1) fun v9 =>
    bnd (lI v9 (2 + x1)) fun v10 =>
    rtn v10
  else if (s0 : Int32) = 5 then
    bnd (gA x0 1) fun v11 =>
    bnd (lI v11 (2 + x1)) fun v12 =>
    rtn v12
  else if (s0 : Int32) = 6 then
    bnd (gA x0 1) fun v13 =>
    bnd (lI v13 0) fun v14 =>
    rtn v14
  else if (s0 : Int32) = 7 then
    bnd (gA x0 1) fun v15 =>
    bnd (lI v15 1) fun v16 =>
    rtn v16
  else if (s0 : Int32) = 8 then
    bnd (fX8_sumOf x0 x1) fun v17 =>
    rtn v17
  else if (s0 : Int32) = 9 then
    bnd (fX8_sumOf x0 x1) fun v18 =>
    rtn v18
  else if (s0 : Int32) = 10 then
    bnd (fX8_sumOf x0 x1) fun v19 =>
    rtn v19
  else if (s0 : Int32) = 11 then
    bnd (gI x0 4) fun v20 =>
    rtn v20
  else if (s0 : Int32) = 12 then
    bnd (fX8_sumOf x0 x1) fun v21 =>
    rtn v21
  else 
    bnd (gA x0 1) fun v22 =>
    bnd (lI v22 (2 + x1)) fun v23 =>
    rtn v23
def fX8_count_L16 (x0 : Nat) (x1 : Int32) (s0 : Int32) (s1 : Nat) : Mm → Option (Int32 × Mm) :=
  bnd (pI s1 0 s0) fun _ =>
  bnd (gI x0 0) fun v24 =>
  if (v24 : Int32) ≤ 0 then
    fX8_count_L31 x0 x1 x1
  else
    fX8_count_L31 x0 x1 (-1)
def fX8_count (x0 : Nat) (x1 : Int32) : Mm → Option (Int32 × Mm) :=
  bnd (fX8_in x1 0 12) fun v25 =>
  if (v25 : Int32) = 0 then
    fX8_count_L16 x0 x1 1 x0
  else
    fX8_count_L16 x0 x1 0 x0
def fX8_isLine (x0 : Nat) (x1 : Int32) : Mm → Option (Int32 × Mm) :=
  bnd (gA x0 1) fun v1 =>
  bnd (lI v1 1) fun v2 =>
  bnd (fX8_in x1 0 (v2 - 1)) fun v3 =>
  grd ((v3 : Int32) == 0 || (v3 : Int32) == 1) (rtn v3)
def fX8_isDot (x0 : Nat) (x1 : Int32) (x2 : Int32) : Mm → Option (Int32 × Mm) :=
  bnd (fX8_isLine x0 x1) fun v1 =>
  if (v1 : Int32) = 0 then
    grd ((0 : Int32) == 0 || (0 : Int32) == 1) (rtn 0)
  else
    bnd (gA x0 1) fun v2 =>
    bnd (lI v2 0) fun v3 =>
    bnd (fX8_in x2 0 (v3 - 1)) fun v4 =>
    if (v4 : Int32) = 0 then
      grd ((0 : Int32) == 0 || (0 : Int32) == 1) (rtn 0)
    else
      grd ((1 : Int32) == 0 || (1 : Int32) == 1) (rtn 1)
def fX8_dot_L15 (x0 : Nat) (x1 : Int32) (x2 : Int32) (s0 : Int32) (s1 : Nat) : Mm → Option (Int32 × Mm) :=
  bnd (pI s1 0 s0) fun _ =>
  bnd (gI x0 0) fun v1 =>
  if (v1 : Int32) ≤ 0 then
    bnd (gA x0 1) fun v2 =>
    bnd (fX8_dotAt x1 x2) fun v3 =>
    bnd (lI v2 v3) fun v4 =>
    rtn v4
  else
    rtn 0
def fX8_dot (x0 : Nat) (x1 : Int32) (x2 : Int32) : Mm → Option (Int32 × Mm) :=
  bnd (fX8_isDot x0 x1 x2) fun v5 =>
  if (v5 : Int32) = 0 then
    fX8_dot_L15 x0 x1 x2 1 x0
  else
    fX8_dot_L15 x0 x1 x2 0 x0
def fX8_modesOf_L28 (k4 : Nat → Int32 → Int32 → Int32 → Mm → Option (Int32 × Mm)) (x0 : Nat) (x1 : Int32) (x3 : Int32) (s0 : Int32) (s1 : Int32) : Mm → Option (Int32 × Mm) :=
  bnd (rtn (s1 + s0)) fun v1 =>
  k4 x0 x1 v1 (x3 + 1)
def fX8_modesOf_L4 : Nat → Nat → Int32 → Int32 → Int32 → Mm → Option (Int32 × Mm)
  | 0, _, _, _, _ => fail
  | n + 1, x0, x1, x2, x3 =>
    bnd (gI x0 14) fun v2 =>
    if v2 ≤ (x3 : Int32) then
      rtn x2
    else
      bnd (gA x0 10) fun v3 =>
      bnd (lI v3 x3) fun v4 =>
      if (v4 : Int32) = x1 then
        fX8_modesOf_L28 (fX8_modesOf_L4 n) x0 x1 x3 1 x2
      else
        fX8_modesOf_L28 (fX8_modesOf_L4 n) x0 x1 x3 0 x2
def fX8_modesOf (x0 : Nat) (x1 : Int32) : Mm → Option (Int32 × Mm) :=
  fX8_modesOf_L4 fu x0 x1 0 0
def fX8_line_L28 (x0 : Nat) (x1 : Int32) (x2 : Int32) (s0 : Int32) (s1 : Nat) : Mm → Option (Int32 × Mm) :=
  bnd (pI s1 0 s0) fun _ =>
  bnd (gI x0 0) fun v1 =>
  if (v1 : Int32) ≤ 0 then
    bnd (fX8_codesLine x0 x1) fun _ =>
    if (x2 : Int32) = 0 then
      bnd (fX8_isMark x0 x1) fun v2 =>
      if (v2 : Int32) = 0 then
        rtn 0
      else
        rtn 1
    else if (x2 : Int32) = 1 then
      bnd (fX8_aloneBits x0) fun v3 =>
      rtn v3
    else if (x2 : Int32) = 2 then
      bnd (fX8_codeBits x0) fun v4 =>
      rtn v4
    else if (x2 : Int32) = 3 then
      bnd (fX8_sentBits x0 x1) fun v5 =>
      rtn v5
    else if (x2 : Int32) = 4 then
      bnd (gI x0 19) fun v6 =>
      rtn v6
    else if (x2 : Int32) = 5 then
      bnd (gI x0 14) fun v7 =>
      rtn v7
    else if (x2 : Int32) = 6 then
      bnd (fX8_modesOf x0 (x2 - 6)) fun v8 =>
      rtn v8
    else if (x2 : Int32) = 7 then
      bnd (fX8_modesOf x0 (x2 - 6)) fun v9 =>
      rtn v9
    else if (x2 : Int32) = 8 then
      bnd (fX8_modesOf x0 (x2 - 6)) fun v10 =>
      rtn v10
    else if (x2 : Int32) = 9 then
      bnd (gA x0 1) fun v11 =>
      bnd (lI v11 (8 + x1)) fun v12 =>
      rtn v12
    else if (x2 : Int32) = 10 then
      bnd (fX8_blacks x0 x1) fun v13 =>
      rtn v13
    else if (x2 : Int32) = 11 then
      bnd (fX8_markUpTo x0 x1) fun v14 =>
      rtn v14
    else 
      bnd (fX8_modesOf x0 (x2 - 6)) fun v15 =>
      rtn v15
  else
    rtn 0
def fX8_line (x0 : Nat) (x1 : Int32) (x2 : Int32) : Mm → Option (Int32 × Mm) :=
  bnd (fX8_isLine x0 x1) fun v16 =>
  if (v16 : Int32) = 0 then
    fX8_line_L28 x0 x1 x2 1 x0
  else
    bnd (fX8_in x2 0 11) fun v17 =>
    if (v17 : Int32) = 0 then
      fX8_line_L28 x0 x1 x2 2 x0
    else
      fX8_line_L28 x0 x1 x2 0 x0
def fX8_run_L18 (x0 : Nat) (x1 : Int32) (x2 : Int32) (s0 : Int32) (s1 : Nat) : Mm → Option (Int32 × Mm) :=
  bnd (pI s1 0 s0) fun _ =>
  bnd (gI x0 0) fun v1 =>
  if (v1 : Int32) ≤ 0 then
    bnd (fX8_codesLine x0 x1) fun _ =>
    bnd (gI x0 19) fun v2 =>
    if v2 ≤ (x2 : Int32) then
      rtn (-1)
    else
      bnd (gA x0 18) fun v3 =>
      bnd (lI v3 x2) fun v4 =>
      rtn v4
  else
    rtn 0
def fX8_run_L17 (x0 : Nat) (x1 : Int32) (x2 : Int32) (s0 : Nat) : Mm → Option (Int32 × Mm) :=
  fX8_run_L18 x0 x1 x2 1 s0
def fX8_run (x0 : Nat) (x1 : Int32) (x2 : Int32) : Mm → Option (Int32 × Mm) :=
  bnd (fX8_isLine x0 x1) fun v5 =>
  if (v5 : Int32) = 0 then
    fX8_run_L17 x0 x1 x2 x0
  else
    if (x2 : Int32) < 0 then
      fX8_run_L17 x0 x1 x2 x0
    else
      fX8_run_L18 x0 x1 x2 0 x0
def fX8_mode_L31 (x0 : Nat) (x1 : Int32) (x2 : Int32) (x3 : Int32) (s0 : Int32) (s1 : Nat) : Mm → Option (Int32 × Mm) :=
  bnd (pI s1 0 s0) fun _ =>
  bnd (gI x0 0) fun v1 =>
  if (v1 : Int32) ≤ 0 then
    bnd (fX8_codesLine x0 x1) fun _ =>
    bnd (gI x0 14) fun v2 =>
    if (x2 : Int32) < v2 then
      if (x3 : Int32) = 0 then
        bnd (gA x0 10) fun v9 =>
        bnd (lI v9 x2) fun v10 =>
        rtn v10
      else
        if (x3 : Int32) = 1 then
          bnd (gA x0 11) fun v7 =>
          bnd (lI v7 x2) fun v8 =>
          rtn v8
        else
          if (x3 : Int32) = 2 then
            bnd (gA x0 12) fun v5 =>
            bnd (lI v5 x2) fun v6 =>
            rtn v6
          else
            bnd (gA x0 13) fun v3 =>
            bnd (lI v3 x2) fun v4 =>
            rtn v4
    else
      rtn (-9)
  else
    rtn 0
def fX8_mode_L13 (x0 : Nat) (x1 : Int32) (x2 : Int32) (x3 : Int32) (s0 : Nat) : Mm → Option (Int32 × Mm) :=
  fX8_mode_L31 x0 x1 x2 x3 1 s0
def fX8_mode (x0 : Nat) (x1 : Int32) (x2 : Int32) (x3 : Int32) : Mm → Option (Int32 × Mm) :=
  bnd (fX8_isLine x0 x1) fun v11 =>
  if (v11 : Int32) = 0 then
    fX8_mode_L13 x0 x1 x2 x3 x0
  else
    if 0 ≤ (x2 : Int32) then
      bnd (fX8_in x3 0 3) fun v12 =>
      if (v12 : Int32) = 0 then
        fX8_mode_L31 x0 x1 x2 x3 2 x0
      else
        fX8_mode_L31 x0 x1 x2 x3 0 x0
    else
      fX8_mode_L13 x0 x1 x2 x3 x0
def fX8_change_L103 (x0 : Nat) : Mm → Option (Int32 × Mm) :=
  bnd (gI x0 0) fun v1 =>
  if (v1 : Int32) ≤ 0 then
    rtn (-1)
  else
    rtn 0
def fX8_change_L95 (k26 : Nat → Int32 → Int32 → Int32 → Mm → Option (Int32 × Mm)) (x0 : Nat) (x1 : Int32) (x4 : Int32) (s0 : Int32) (s1 : Int32) : Mm → Option (Int32 × Mm) :=
  bnd (rtn (s1 - s0)) fun v2 =>
  k26 x0 x1 v2 (x4 + 1)
def fX8_change_L84 (k26 : Nat → Int32 → Int32 → Int32 → Mm → Option (Int32 × Mm)) (x0 : Nat) (x1 : Int32) (x3 : Int32) (x4 : Int32) (x5 : Int32) : Mm → Option (Int32 × Mm) :=
  if (x5 : Int32) = 0 then
    fX8_change_L95 k26 x0 x1 x4 0 x3
  else
    fX8_change_L95 k26 x0 x1 x4 1 x3
def fX8_change_L70 (k26 : Nat → Int32 → Int32 → Int32 → Mm → Option (Int32 × Mm)) (x0 : Nat) (x1 : Int32) (x3 : Int32) (x4 : Int32) (s0 : Int32) : Mm → Option (Int32 × Mm) :=
  if (s0 : Int32) = 0 then
    fX8_change_L84 k26 x0 x1 x3 x4 s0
  else
    if (x3 : Int32) = 0 then
      rtn x4
    else
      fX8_change_L84 k26 x0 x1 x3 x4 s0
def fX8_change_L26 : Nat → Nat → Int32 → Int32 → Int32 → Mm → Option (Int32 × Mm)
  | 0, _, _, _, _ => fail
  | n + 1, x0, x1, x3, x4 =>
    bnd (gA x0 1) fun v3 =>
    bnd (lI v3 0) fun v4 =>
    if v4 ≤ (x4 : Int32) then
      fX8_change_L103 x0
    else
      bnd (gI x0 0) fun v5 =>
      if (v5 : Int32) = 0 then
        bnd (gA x0 1) fun v6 =>
        bnd (fX8_dotAt x1 x4) fun v7 =>
        bnd (lI v6 v7) fun v8 =>
        bnd (fX8_ahead x0 x1 x4) fun v9 =>
        if (v8 : Int32) = v9 then
          fX8_change_L70 (fX8_change_L26 n) x0 x1 x3 x4 0
        else
          fX8_change_L70 (fX8_change_L26 n) x0 x1 x3 x4 1
      else
        fX8_change_L103 x0
def fX8_change_L18 (x0 : Nat) (x1 : Int32) (x2 : Int32) (s0 : Int32) (s1 : Nat) : Mm → Option (Int32 × Mm) :=
  bnd (pI s1 0 s0) fun _ =>
  fX8_change_L26 fu x0 x1 x2 0
def fX8_change_L17 (x0 : Nat) (x1 : Int32) (x2 : Int32) (s0 : Nat) : Mm → Option (Int32 × Mm) :=
  fX8_change_L18 x0 x1 x2 1 s0
def fX8_change (x0 : Nat) (x1 : Int32) (x2 : Int32) : Mm → Option (Int32 × Mm) :=
  bnd (fX8_isLine x0 x1) fun v10 =>
  if (v10 : Int32) = 0 then
    fX8_change_L17 x0 x1 x2 x0
  else
    if (x2 : Int32) < 0 then
      fX8_change_L17 x0 x1 x2 x0
    else
      fX8_change_L18 x0 x1 x2 0 x0
def fX8_rowFrom_L35 (x2 : Int32) (x4 : Int32) : Mm → Option (Int32 × Mm) :=
  rtn (x4 - x2)
def fX8_rowFrom_L3 : Nat → Nat → Int32 → Int32 → Int32 → Int32 → Mm → Option (Int32 × Mm)
  | 0, _, _, _, _, _ => fail
  | n + 1, x0, x1, x2, x3, x4 =>
    bnd (gA x0 1) fun v1 =>
    bnd (lI v1 0) fun v2 =>
    if v2 ≤ (x4 : Int32) then
      fX8_rowFrom_L35 x2 x4
    else
      bnd (gA x0 1) fun v3 =>
      bnd (fX8_dotAt x1 x4) fun v4 =>
      bnd (lI v3 v4) fun v5 =>
      if (v5 : Int32) = x3 then
        fX8_rowFrom_L3 n x0 x1 x2 x3 (x4 + 1)
      else
        fX8_rowFrom_L35 x2 x4
def fX8_rowFrom (x0 : Nat) (x1 : Int32) (x2 : Int32) (x3 : Int32) : Mm → Option (Int32 × Mm) :=
  fX8_rowFrom_L3 fu x0 x1 x2 x3 x2
def fX8_beginsRow_L34 : Mm → Option (Int32 × Mm) :=
  grd ((1 : Int32) == 0 || (1 : Int32) == 1) (rtn 1)
def fX8_beginsRow (x0 : Nat) (x1 : Int32) (x2 : Int32) (x3 : Int32) : Mm → Option (Int32 × Mm) :=
  bnd (gA x0 1) fun v1 =>
  bnd (fX8_dotAt x1 x2) fun v2 =>
  bnd (lI v1 v2) fun v3 =>
  if (v3 : Int32) = x3 then
    if (x2 : Int32) = 0 then
      fX8_beginsRow_L34
    else
      bnd (gA x0 1) fun v4 =>
      bnd (fX8_dotAt x1 (x2 - 1)) fun v5 =>
      bnd (lI v4 v5) fun v6 =>
      if (v6 : Int32) = x3 then
        grd ((0 : Int32) == 0 || (0 : Int32) == 1) (rtn 0)
      else
        fX8_beginsRow_L34
  else
    grd ((0 : Int32) == 0 || (0 : Int32) == 1) (rtn 0)
def fX8_longest_L75 (k42 : Nat → Int32 → Int32 → Int32 → Int32 → Mm → Option (Int32 × Mm)) (x0 : Nat) (x1 : Int32) (x3 : Int32) (x4 : Int32) (s0 : Int32) : Mm → Option (Int32 × Mm) :=
  k42 x0 x1 s0 x3 (x4 + 1)
def fX8_longest_L42 (k22 : Nat → Int32 → Int32 → Int32 → Mm → Option (Int32 × Mm)) : Nat → Nat → Int32 → Int32 → Int32 → Int32 → Mm → Option (Int32 × Mm)
  | 0, _, _, _, _, _ => fail
  | n + 1, x0, x1, x2, x3, x4 =>
    bnd (gA x0 1) fun v1 =>
    bnd (lI v1 0) fun v2 =>
    if v2 ≤ (x4 : Int32) then
      k22 x0 x1 x2 (x3 + 1)
    else
      bnd (fX8_rowFrom x0 x3 x4 x1) fun v3 =>
      if (v3 : Int32) ≤ x2 then
        fX8_longest_L75 (fX8_longest_L42 k22 n) x0 x1 x3 x4 x2
      else
        fX8_longest_L75 (fX8_longest_L42 k22 n) x0 x1 x3 x4 v3
def fX8_longest_L22 : Nat → Nat → Int32 → Int32 → Int32 → Mm → Option (Int32 × Mm)
  | 0, _, _, _, _ => fail
  | n + 1, x0, x1, x2, x3 =>
    bnd (gA x0 1) fun v4 =>
    bnd (lI v4 1) fun v5 =>
    if v5 ≤ (x3 : Int32) then
      rtn x2
    else
      bnd (gI x0 0) fun v6 =>
      if (v6 : Int32) = 0 then
        fX8_longest_L42 (fX8_longest_L22 n) fu x0 x1 x2 x3 0
      else
        rtn x2
def fX8_longest_L15 (x0 : Nat) (x1 : Int32) (s0 : Int32) (s1 : Nat) : Mm → Option (Int32 × Mm) :=
  bnd (pI s1 0 s0) fun _ =>
  fX8_longest_L22 fu x0 x1 0 0
def fX8_longest (x0 : Nat) (x1 : Int32) : Mm → Option (Int32 × Mm) :=
  bnd (fX8_in x1 0 1) fun v7 =>
  if (v7 : Int32) = 0 then
    fX8_longest_L15 x0 x1 1 x0
  else
    fX8_longest_L15 x0 x1 0 x0
def fX8_runsOf_L96 (k54 : Nat → Int32 → Int32 → Int32 → Int32 → Int32 → Mm → Option (Int32 × Mm)) (x0 : Nat) (x1 : Int32) (x2 : Int32) (x4 : Int32) (x5 : Int32) (s0 : Int32) (s1 : Int32) : Mm → Option (Int32 × Mm) :=
  bnd (rtn (s1 + s0)) fun v1 =>
  k54 x0 x1 x2 v1 x4 (x5 + 1)
def fX8_runsOf_L95 (k54 : Nat → Int32 → Int32 → Int32 → Int32 → Int32 → Mm → Option (Int32 × Mm)) (x0 : Nat) (x1 : Int32) (x2 : Int32) (x4 : Int32) (x5 : Int32) (s0 : Int32) : Mm → Option (Int32 × Mm) :=
  fX8_runsOf_L96 k54 x0 x1 x2 x4 x5 0 s0
def fX8_runsOf_L54 (k33 : Nat → Int32 → Int32 → Int32 → Int32 → Mm → Option (Int32 × Mm)) : Nat → Nat → Int32 → Int32 → Int32 → Int32 → Int32 → Mm → Option (Int32 × Mm)
  | 0, _, _, _, _, _, _ => fail
  | n + 1, x0, x1, x2, x3, x4, x5 =>
    bnd (gA x0 1) fun v2 =>
    bnd (lI v2 0) fun v3 =>
    if v3 ≤ (x5 : Int32) then
      k33 x0 x1 x2 x3 (x4 + 1)
    else
      bnd (fX8_beginsRow x0 x4 x5 x1) fun v4 =>
      if (v4 : Int32) = 0 then
        fX8_runsOf_L95 (fX8_runsOf_L54 k33 n) x0 x1 x2 x4 x5 x3
      else
        bnd (fX8_rowFrom x0 x4 x5 x1) fun v5 =>
        if (v5 : Int32) = x2 then
          fX8_runsOf_L96 (fX8_runsOf_L54 k33 n) x0 x1 x2 x4 x5 1 x3
        else
          fX8_runsOf_L95 (fX8_runsOf_L54 k33 n) x0 x1 x2 x4 x5 x3
def fX8_runsOf_L33 : Nat → Nat → Int32 → Int32 → Int32 → Int32 → Mm → Option (Int32 × Mm)
  | 0, _, _, _, _, _ => fail
  | n + 1, x0, x1, x2, x3, x4 =>
    bnd (gA x0 1) fun v6 =>
    bnd (lI v6 1) fun v7 =>
    if v7 ≤ (x4 : Int32) then
      rtn x3
    else
      bnd (gI x0 0) fun v8 =>
      if (v8 : Int32) = 0 then
        fX8_runsOf_L54 (fX8_runsOf_L33 n) fu x0 x1 x2 x3 x4 0
      else
        rtn x3
def fX8_runsOf_L25 (x0 : Nat) (x1 : Int32) (x2 : Int32) (s0 : Int32) (s1 : Nat) : Mm → Option (Int32 × Mm) :=
  bnd (pI s1 0 s0) fun _ =>
  fX8_runsOf_L33 fu x0 x1 x2 0 0
def fX8_runsOf_L24 (x0 : Nat) (x1 : Int32) (x2 : Int32) (s0 : Nat) : Mm → Option (Int32 × Mm) :=
  fX8_runsOf_L25 x0 x1 x2 1 s0
def fX8_runsOf (x0 : Nat) (x1 : Int32) (x2 : Int32) : Mm → Option (Int32 × Mm) :=
  bnd (fX8_in x1 0 1) fun v9 =>
  if (v9 : Int32) = 0 then
    fX8_runsOf_L24 x0 x1 x2 x0
  else
    bnd (fX8_in x2 1 40) fun v10 =>
    if (v10 : Int32) = 0 then
      fX8_runsOf_L24 x0 x1 x2 x0
    else
      fX8_runsOf_L25 x0 x1 x2 0 x0
def fX8_readBelow_L112 (k80 : Nat → Int32 → Int32 → Mm → Option (Int32 × Mm)) (x0 : Nat) (x4 : Int32) (s0 : Int32) (s1 : Int32) : Mm → Option (Int32 × Mm) :=
  bnd (rtn (s1 + s0)) fun v1 =>
  k80 x0 v1 (x4 + 1)
def fX8_readBelow_L80 : Nat → Nat → Int32 → Int32 → Mm → Option (Int32 × Mm)
  | 0, _, _, _ => fail
  | n + 1, x0, x3, x4 =>
    bnd (gI x0 9) fun v2 =>
    if v2 ≤ (x4 : Int32) then
      rtn x3
    else
      bnd (gA x0 15) fun v3 =>
      bnd (lI v3 x4) fun v4 =>
      bnd (gA x0 8) fun v5 =>
      bnd (lI v5 x4) fun v6 =>
      if (v4 : Int32) = v6 then
        fX8_readBelow_L112 (fX8_readBelow_L80 n) x0 x4 0 x3
      else
        fX8_readBelow_L112 (fX8_readBelow_L80 n) x0 x4 1 x3
def fX8_readBelow_L63 (x0 : Nat) (s0 : Int32) (s1 : Nat) (s2 : Nat) : Mm → Option (Int32 × Mm) :=
  bnd (fX8_laysUpper s2 s1 s0) fun _ =>
  bnd (fX8_readsCode x0) fun v7 =>
  if (v7 : Int32) = 0 then
    rtn (-1)
  else
    fX8_readBelow_L80 fu x0 0 0
def fX8_readBelow_L27 (x0 : Nat) (x1 : Int32) (x2 : Int32) (s0 : Int32) (s1 : Nat) : Mm → Option (Int32 × Mm) :=
  bnd (pI s1 0 s0) fun _ =>
  bnd (gI x0 0) fun v8 =>
  if (v8 : Int32) ≤ 0 then
    bnd (fX8_codesLine x0 x1) fun _ =>
    bnd (gA x0 1) fun v9 =>
    if (x2 : Int32) = (-1) then
      fX8_readBelow_L63 x0 (-1) v9 x0
    else
      bnd (fX8_dotAt x2 0) fun v10 =>
      fX8_readBelow_L63 x0 v10 v9 x0
  else
    rtn 0
def fX8_readBelow_L26 (x0 : Nat) (x1 : Int32) (x2 : Int32) (s0 : Nat) : Mm → Option (Int32 × Mm) :=
  fX8_readBelow_L27 x0 x1 x2 1 s0
def fX8_readBelow_L22 (x0 : Nat) (x1 : Int32) (x2 : Int32) (s0 : Nat) : Mm → Option (Int32 × Mm) :=
  fX8_readBelow_L27 x0 x1 x2 0 s0
def fX8_readBelow (x0 : Nat) (x1 : Int32) (x2 : Int32) : Mm → Option (Int32 × Mm) :=
  bnd (fX8_isLine x0 x1) fun v11 =>
  if (v11 : Int32) = 0 then
    fX8_readBelow_L26 x0 x1 x2 x0
  else
    if (x2 : Int32) = (-1) then
      fX8_readBelow_L22 x0 x1 x2 x0
    else
      bnd (fX8_isLine x0 x2) fun v12 =>
      if (v12 : Int32) = 0 then
        fX8_readBelow_L26 x0 x1 x2 x0
      else
        fX8_readBelow_L22 x0 x1 x2 x0
def fX8_keeps_L50 (x0 : Nat) : Mm → Option (Unit × Mm) :=
  bnd (gA x0 1) fun v1 =>
  bnd (gA x0 3) fun v2 =>
  bnd (gI x0 4) fun v3 =>
  bnd (fX8_copies v1 0 v2 (828 * v3)) fun _ =>
  bnd (gI x0 4) fun v4 =>
  bnd (pI x0 4 (v4 + 1)) fun _ =>
  rtn ()
def fX8_keeps_L11 : Nat → Nat → Int32 → Mm → Option (Unit × Mm)
  | 0, _, _ => fail
  | n + 1, x0, x1 =>
    if 7452 ≤ (x1 : Int32) then
      bnd (gI x0 4) fun v5 =>
      bnd (pI x0 4 (v5 - 1)) fun _ =>
      fX8_keeps_L50 x0
    else
      bnd (gA x0 3) fun v6 =>
      bnd (gA x0 3) fun v7 =>
      bnd (lI v7 (x1 + 828)) fun v8 =>
      bnd (aI v6 x1 v8) fun _ =>
      fX8_keeps_L11 n x0 (x1 + 1)
def fX8_keeps (x0 : Nat) : Mm → Option (Unit × Mm) :=
  bnd (gI x0 4) fun v9 =>
  if (v9 : Int32) = 10 then
    fX8_keeps_L11 fu x0 0
  else
    fX8_keeps_L50 x0
def fX8_highOf_L19 : Mm → Option (Int32 × Mm) :=
  rtn 1
def fX8_highOf (x0 : Int32) : Mm → Option (Int32 × Mm) :=
  if (x0 : Int32) = 0 then
    rtn 8
  else
    if (x0 : Int32) = 1 then
      fX8_highOf_L19
    else
      if (x0 : Int32) = 2 then
        fX8_highOf_L19
      else
        if (x0 : Int32) = 3 then
          rtn 9
        else
          rtn 99
def fX8_isSetting_L19 (x0 : Int32) (s0 : Int32) (s1 : Int32) : Mm → Option (Int32 × Mm) :=
  bnd (fX8_highOf x0) fun v1 =>
  bnd (fX8_in s1 s0 v1) fun v2 =>
  if (v2 : Int32) = 0 then
    grd ((0 : Int32) == 0 || (0 : Int32) == 1) (rtn 0)
  else
    grd ((1 : Int32) == 0 || (1 : Int32) == 1) (rtn 1)
def fX8_isSetting (x0 : Int32) (x1 : Int32) : Mm → Option (Int32 × Mm) :=
  bnd (fX8_in x0 0 5) fun v3 =>
  if (v3 : Int32) = 0 then
    grd ((0 : Int32) == 0 || (0 : Int32) == 1) (rtn 0)
  else
    if (x0 : Int32) = 0 then
      fX8_isSetting_L19 x0 1 x1
    else
      fX8_isSetting_L19 x0 0 x1
def fX8_set_L14 (x0 : Nat) (x1 : Int32) (x2 : Int32) (s0 : Int32) (s1 : Nat) : Mm → Option (Int32 × Mm) :=
  bnd (pI s1 0 s0) fun _ =>
  bnd (gI x0 0) fun v1 =>
  if (v1 : Int32) ≤ 0 then
    bnd (fX8_keeps x0) fun _ =>
    bnd (gA x0 1) fun v2 =>
    bnd (lI v2 (2 + x1)) fun v3 =>
    bnd (gA x0 1) fun v4 =>
    bnd (aI v4 (2 + x1) x2) fun _ =>
    rtn v3
  else
    rtn 0
def fX8_set (x0 : Nat) (x1 : Int32) (x2 : Int32) : Mm → Option (Int32 × Mm) :=
  bnd (fX8_isSetting x1 x2) fun v5 =>
  if (v5 : Int32) = 0 then
    fX8_set_L14 x0 x1 x2 1 x0
  else
    fX8_set_L14 x0 x1 x2 0 x0
def fX8_lose_L29 (x0 : Nat) (x1 : Int32) (x2 : Int32) (s0 : Int32) (s1 : Nat) : Mm → Option (Int32 × Mm) :=
  bnd (pI s1 0 s0) fun _ =>
  bnd (gI x0 0) fun v1 =>
  if (v1 : Int32) ≤ 0 then
    bnd (fX8_keeps x0) fun _ =>
    bnd (gA x0 1) fun v2 =>
    bnd (lI v2 (8 + x1)) fun v3 =>
    bnd (gA x0 1) fun v4 =>
    bnd (aI v4 (8 + x1) x2) fun _ =>
    rtn v3
  else
    rtn 0
def fX8_lose (x0 : Nat) (x1 : Int32) (x2 : Int32) : Mm → Option (Int32 × Mm) :=
  bnd (fX8_in x1 0 19) fun v5 =>
  if (v5 : Int32) = 0 then
    fX8_lose_L29 x0 x1 x2 1 x0
  else
    bnd (fX8_in x2 0 5) fun v6 =>
    if (v6 : Int32) = 0 then
      fX8_lose_L29 x0 x1 x2 2 x0
    else
      fX8_lose_L29 x0 x1 x2 0 x0
def fX8_isPart (x0 : Nat) (x1 : Int32) (x2 : Int32) : Mm → Option (Int32 × Mm) :=
  bnd (gA x0 1) fun v1 =>
  bnd (lI v1 0) fun v2 =>
  bnd (fX8_in x1 0 v2) fun v3 =>
  if (v3 : Int32) = 0 then
    grd ((0 : Int32) == 0 || (0 : Int32) == 1) (rtn 0)
  else
    bnd (gA x0 1) fun v4 =>
    bnd (lI v4 0) fun v5 =>
    bnd (fX8_in x2 x1 v5) fun v6 =>
    if (v6 : Int32) = 0 then
      grd ((0 : Int32) == 0 || (0 : Int32) == 1) (rtn 0)
    else
      grd ((1 : Int32) == 0 || (1 : Int32) == 1) (rtn 1)
def fX8_clearsLine_L2 : Nat → Nat → Int32 → Int32 → Mm → Option (Unit × Mm)
  | 0, _, _, _ => fail
  | n + 1, x0, x1, x2 =>
    if 40 ≤ (x2 : Int32) then
      rtn ()
    else
      bnd (gA x0 1) fun v1 =>
      bnd (fX8_dotAt x1 x2) fun v2 =>
      bnd (aI v1 v2 0) fun _ =>
      fX8_clearsLine_L2 n x0 x1 (x2 + 1)
def fX8_clearsLine (x0 : Nat) (x1 : Int32) : Mm → Option (Unit × Mm) :=
  fX8_clearsLine_L2 fu x0 x1 0
def fX8_paintsLine_L35 (k6 : Nat → Int32 → Int32 → Int32 → Int32 → Int32 → Mm → Option (Int32 × Mm)) (x0 : Nat) (x1 : Int32) (x3 : Int32) (x4 : Int32) (x6 : Int32) (s0 : Int32) (s1 : Int32) : Mm → Option (Int32 × Mm) :=
  bnd (rtn (s1 + s0)) fun v1 =>
  bnd (gA x0 1) fun v2 =>
  bnd (fX8_dotAt x1 x6) fun v3 =>
  bnd (aI v2 v3 x4) fun _ =>
  k6 x0 x1 x3 x4 v1 (x6 + 1)
def fX8_paintsLine_L6 : Nat → Nat → Int32 → Int32 → Int32 → Int32 → Int32 → Mm → Option (Int32 × Mm)
  | 0, _, _, _, _, _, _ => fail
  | n + 1, x0, x1, x3, x4, x5, x6 =>
    if x3 ≤ (x6 : Int32) then
      rtn x5
    else
      bnd (gA x0 1) fun v4 =>
      bnd (fX8_dotAt x1 x6) fun v5 =>
      bnd (lI v4 v5) fun v6 =>
      if (v6 : Int32) = x4 then
        fX8_paintsLine_L35 (fX8_paintsLine_L6 n) x0 x1 x3 x4 x6 0 x5
      else
        fX8_paintsLine_L35 (fX8_paintsLine_L6 n) x0 x1 x3 x4 x6 1 x5
def fX8_paintsLine (x0 : Nat) (x1 : Int32) (x2 : Int32) (x3 : Int32) (x4 : Int32) : Mm → Option (Int32 × Mm) :=
  fX8_paintsLine_L6 fu x0 x1 x3 x4 0 x2
def fX8_addLine_L30 (x0 : Nat) (x1 : Int32) (x2 : Int32) (s0 : Int32) (s1 : Nat) : Mm → Option (Int32 × Mm) :=
  bnd (pI s1 0 s0) fun _ =>
  bnd (gI x0 0) fun v1 =>
  if (v1 : Int32) ≤ 0 then
    bnd (fX8_keeps x0) fun _ =>
    bnd (gA x0 1) fun v2 =>
    bnd (lI v2 1) fun v3 =>
    bnd (fX8_clearsLine x0 v3) fun _ =>
    bnd (fX8_paintsLine x0 v3 x1 x2 1) fun v4 =>
    bnd (gA x0 1) fun v5 =>
    bnd (lI v5 1) fun v6 =>
    bnd (aI v5 1 (v6 + 1)) fun _ =>
    rtn v3
  else
    rtn 0
def fX8_addLine (x0 : Nat) (x1 : Int32) (x2 : Int32) : Mm → Option (Int32 × Mm) :=
  bnd (fX8_isPart x0 x1 x2) fun v7 =>
  if (v7 : Int32) = 0 then
    fX8_addLine_L30 x0 x1 x2 1 x0
  else
    bnd (gA x0 1) fun v8 =>
    bnd (lI v8 1) fun v9 =>
    if 20 ≤ (v9 : Int32) then
      fX8_addLine_L30 x0 x1 x2 2 x0
    else
      fX8_addLine_L30 x0 x1 x2 0 x0
def fX8_paint_L37 (x0 : Nat) (x1 : Int32) (x2 : Int32) (x3 : Int32) (x4 : Int32) (s0 : Int32) (s1 : Nat) : Mm → Option (Int32 × Mm) :=
  bnd (pI s1 0 s0) fun _ =>
  bnd (gI x0 0) fun v1 =>
  if (v1 : Int32) ≤ 0 then
    bnd (fX8_keeps x0) fun _ =>
    bnd (fX8_paintsLine x0 x1 x2 x3 x4) fun v2 =>
    rtn v2
  else
    rtn 0
def fX8_paint_L36 (x0 : Nat) (x1 : Int32) (x2 : Int32) (x3 : Int32) (x4 : Int32) (s0 : Nat) : Mm → Option (Int32 × Mm) :=
  fX8_paint_L37 x0 x1 x2 x3 x4 2 s0
def fX8_paint (x0 : Nat) (x1 : Int32) (x2 : Int32) (x3 : Int32) (x4 : Int32) : Mm → Option (Int32 × Mm) :=
  bnd (fX8_isLine x0 x1) fun v3 =>
  if (v3 : Int32) = 0 then
    fX8_paint_L37 x0 x1 x2 x3 x4 1 x0
  else
    bnd (fX8_isPart x0 x2 x3) fun v4 =>
    if (v4 : Int32) = 0 then
      fX8_paint_L36 x0 x1 x2 x3 x4 x0
    else
      bnd (fX8_in x4 0 1) fun v5 =>
      if (v5 : Int32) = 0 then
        fX8_paint_L36 x0 x1 x2 x3 x4 x0
      else
        fX8_paint_L37 x0 x1 x2 x3 x4 0 x0
def fX8_shift_L97 (k52 : Nat → Int32 → Int32 → Int32 → Mm → Option (Int32 × Mm)) (x0 : Nat) (x1 : Int32) (x2 : Int32) (x3 : Int32) (s0 : Int32) (s1 : Int32) (s2 : Nat) : Mm → Option (Int32 × Mm) :=
  bnd (aI s2 s1 s0) fun _ =>
  k52 x0 x1 x2 (x3 + 1)
def fX8_shift_L52 : Nat → Nat → Int32 → Int32 → Int32 → Mm → Option (Int32 × Mm)
  | 0, _, _, _, _ => fail
  | n + 1, x0, x1, x2, x3 =>
    bnd (gI x0 9) fun v1 =>
    if v1 ≤ (x3 : Int32) then
      bnd (fX8_blacks x0 x1) fun v2 =>
      rtn v2
    else
      bnd (gA x0 1) fun v3 =>
      bnd (fX8_dotAt x1 x3) fun v4 =>
      bnd (gI x0 9) fun v5 =>
      bnd (fX8_in (x3 - x2) 0 (v5 - 1)) fun v6 =>
      if (v6 : Int32) = 0 then
        fX8_shift_L97 (fX8_shift_L52 n) x0 x1 x2 x3 0 v4 v3
      else
        bnd (gA x0 8) fun v7 =>
        bnd (lI v7 (x3 - x2)) fun v8 =>
        fX8_shift_L97 (fX8_shift_L52 n) x0 x1 x2 x3 v8 v4 v3
def fX8_shift_L29 (x0 : Nat) (x1 : Int32) (x2 : Int32) (s0 : Int32) (s1 : Nat) : Mm → Option (Int32 × Mm) :=
  bnd (pI s1 0 s0) fun _ =>
  bnd (gI x0 0) fun v9 =>
  if (v9 : Int32) ≤ 0 then
    bnd (fX8_keeps x0) fun _ =>
    bnd (fX8_laysLine x0 x1) fun _ =>
    fX8_shift_L52 fu x0 x1 x2 0
  else
    rtn 0
def fX8_shift (x0 : Nat) (x1 : Int32) (x2 : Int32) : Mm → Option (Int32 × Mm) :=
  bnd (fX8_isLine x0 x1) fun v10 =>
  if (v10 : Int32) = 0 then
    fX8_shift_L29 x0 x1 x2 1 x0
  else
    bnd (fX8_in x2 (-40) 40) fun v11 =>
    if (v11 : Int32) = 0 then
      fX8_shift_L29 x0 x1 x2 2 x0
    else
      fX8_shift_L29 x0 x1 x2 0 x0
def fX8_movesLine_L2 : Nat → Nat → Int32 → Int32 → Int32 → Mm → Option (Unit × Mm)
  | 0, _, _, _, _ => fail
  | n + 1, x0, x1, x2, x3 =>
    if 40 ≤ (x3 : Int32) then
      rtn ()
    else
      bnd (gA x0 1) fun v1 =>
      bnd (fX8_dotAt x2 x3) fun v2 =>
      bnd (gA x0 1) fun v3 =>
      bnd (fX8_dotAt x1 x3) fun v4 =>
      bnd (lI v3 v4) fun v5 =>
      bnd (aI v1 v2 v5) fun _ =>
      fX8_movesLine_L2 n x0 x1 x2 (x3 + 1)
def fX8_movesLine (x0 : Nat) (x1 : Int32) (x2 : Int32) : Mm → Option (Unit × Mm) :=
  fX8_movesLine_L2 fu x0 x1 x2 0
def fX8_copyLine_L100 : Nat → Nat → Int32 → Int32 → Mm → Option (Int32 × Mm)
  | 0, _, _, _ => fail
  | n + 1, x0, x2, x3 =>
    if 40 ≤ (x3 : Int32) then
      bnd (gA x0 1) fun v1 =>
      bnd (lI v1 1) fun v2 =>
      bnd (aI v1 1 (v2 + 1)) fun _ =>
      bnd (gA x0 1) fun v3 =>
      bnd (lI v3 1) fun v4 =>
      rtn v4
    else
      bnd (gA x0 1) fun v5 =>
      bnd (fX8_dotAt x2 x3) fun v6 =>
      bnd (gA x0 8) fun v7 =>
      bnd (lI v7 x3) fun v8 =>
      bnd (aI v5 v6 v8) fun _ =>
      fX8_copyLine_L100 n x0 x2 (x3 + 1)
def fX8_copyLine_L79 : Nat → Nat → Int32 → Int32 → Mm → Option (Int32 × Mm)
  | 0, _, _, _ => fail
  | n + 1, x0, x2, x3 =>
    if (x3 : Int32) ≤ x2 then
      fX8_copyLine_L100 fu x0 x2 0
    else
      bnd (fX8_movesLine x0 (x3 - 1) x3) fun _ =>
      fX8_copyLine_L79 n x0 x2 (x3 + (-1))
def fX8_copyLine_L43 (x0 : Nat) (x1 : Int32) (x2 : Int32) (s0 : Int32) (s1 : Nat) : Mm → Option (Int32 × Mm) :=
  bnd (pI s1 0 s0) fun _ =>
  bnd (gI x0 0) fun v9 =>
  if (v9 : Int32) ≤ 0 then
    bnd (fX8_keeps x0) fun _ =>
    bnd (gA x0 1) fun v10 =>
    bnd (fX8_dotAt x1 0) fun v11 =>
    bnd (fX8_laysLower x0 v10 v11) fun _ =>
    bnd (gA x0 1) fun v12 =>
    bnd (lI v12 1) fun v13 =>
    fX8_copyLine_L79 fu x0 x2 v13
  else
    rtn 0
def fX8_copyLine_L23 (x0 : Nat) (x1 : Int32) (x2 : Int32) (s0 : Nat) : Mm → Option (Int32 × Mm) :=
  fX8_copyLine_L43 x0 x1 x2 1 s0
def fX8_copyLine (x0 : Nat) (x1 : Int32) (x2 : Int32) : Mm → Option (Int32 × Mm) :=
  bnd (fX8_isLine x0 x1) fun v14 =>
  if (v14 : Int32) = 0 then
    fX8_copyLine_L23 x0 x1 x2 x0
  else
    bnd (gA x0 1) fun v15 =>
    bnd (lI v15 1) fun v16 =>
    bnd (fX8_in x2 0 v16) fun v17 =>
    if (v17 : Int32) = 0 then
      fX8_copyLine_L23 x0 x1 x2 x0
    else
      bnd (gA x0 1) fun v18 =>
      bnd (lI v18 1) fun v19 =>
      if 20 ≤ (v19 : Int32) then
        fX8_copyLine_L43 x0 x1 x2 2 x0
      else
        fX8_copyLine_L43 x0 x1 x2 0 x0
def fX8_removeLine_L42 : Nat → Nat → Int32 → Mm → Option (Int32 × Mm)
  | 0, _, _ => fail
  | n + 1, x0, x2 =>
    bnd (gA x0 1) fun v1 =>
    bnd (lI v1 1) fun v2 =>
    if v2 ≤ (x2 : Int32) then
      bnd (gA x0 1) fun v3 =>
      bnd (lI v3 1) fun v4 =>
      bnd (fX8_clearsLine x0 v4) fun _ =>
      bnd (gA x0 1) fun v5 =>
      bnd (lI v5 1) fun v6 =>
      rtn v6
    else
      bnd (fX8_movesLine x0 (x2 + 1) x2) fun _ =>
      fX8_removeLine_L42 n x0 (x2 + 1)
def fX8_removeLine_L14 (x0 : Nat) (x1 : Int32) (s0 : Int32) (s1 : Nat) : Mm → Option (Int32 × Mm) :=
  bnd (pI s1 0 s0) fun _ =>
  bnd (gI x0 0) fun v7 =>
  if (v7 : Int32) ≤ 0 then
    bnd (fX8_keeps x0) fun _ =>
    bnd (gA x0 1) fun v8 =>
    bnd (lI v8 1) fun v9 =>
    bnd (aI v8 1 (v9 - 1)) fun _ =>
    fX8_removeLine_L42 fu x0 x1
  else
    rtn 0
def fX8_removeLine (x0 : Nat) (x1 : Int32) : Mm → Option (Int32 × Mm) :=
  bnd (fX8_isLine x0 x1) fun v10 =>
  if (v10 : Int32) = 0 then
    fX8_removeLine_L14 x0 x1 1 x0
  else
    fX8_removeLine_L14 x0 x1 0 x0
def fX8_invert_L32 : Nat → Nat → Int32 → Int32 → Mm → Option (Int32 × Mm)
  | 0, _, _, _ => fail
  | n + 1, x0, x1, x2 =>
    bnd (gA x0 1) fun v1 =>
    bnd (lI v1 0) fun v2 =>
    if v2 ≤ (x2 : Int32) then
      bnd (fX8_blacks x0 x1) fun v3 =>
      rtn v3
    else
      bnd (gA x0 1) fun v4 =>
      bnd (fX8_dotAt x1 x2) fun v5 =>
      bnd (gA x0 1) fun v6 =>
      bnd (fX8_dotAt x1 x2) fun v7 =>
      bnd (lI v6 v7) fun v8 =>
      bnd (aI v4 v5 (1 - v8)) fun _ =>
      fX8_invert_L32 n x0 x1 (x2 + 1)
def fX8_invert_L14 (x0 : Nat) (x1 : Int32) (s0 : Int32) (s1 : Nat) : Mm → Option (Int32 × Mm) :=
  bnd (pI s1 0 s0) fun _ =>
  bnd (gI x0 0) fun v9 =>
  if (v9 : Int32) ≤ 0 then
    bnd (fX8_keeps x0) fun _ =>
    fX8_invert_L32 fu x0 x1 0
  else
    rtn 0
def fX8_invert (x0 : Nat) (x1 : Int32) : Mm → Option (Int32 × Mm) :=
  bnd (fX8_isLine x0 x1) fun v10 =>
  if (v10 : Int32) = 0 then
    fX8_invert_L14 x0 x1 1 x0
  else
    fX8_invert_L14 x0 x1 0 x0
def fX8_swap_L67 : Nat → Nat → Int32 → Int32 → Int32 → Mm → Option (Int32 × Mm)
  | 0, _, _, _, _ => fail
  | n + 1, x0, x2, x3, x4 =>
    if 40 ≤ (x4 : Int32) then
      rtn x3
    else
      bnd (gA x0 1) fun v1 =>
      bnd (fX8_dotAt x2 x4) fun v2 =>
      bnd (gA x0 8) fun v3 =>
      bnd (lI v3 x4) fun v4 =>
      bnd (aI v1 v2 v4) fun _ =>
      fX8_swap_L67 n x0 x2 x3 (x4 + 1)
def fX8_swap_L22 (x0 : Nat) (x1 : Int32) (x2 : Int32) (s0 : Int32) (s1 : Nat) : Mm → Option (Int32 × Mm) :=
  bnd (pI s1 0 s0) fun _ =>
  bnd (gI x0 0) fun v5 =>
  if (v5 : Int32) ≤ 0 then
    bnd (fX8_differs x0 x1 x2) fun v6 =>
    bnd (fX8_keeps x0) fun _ =>
    bnd (gA x0 1) fun v7 =>
    bnd (fX8_dotAt x1 0) fun v8 =>
    bnd (fX8_laysLower x0 v7 v8) fun _ =>
    bnd (fX8_movesLine x0 x2 x1) fun _ =>
    fX8_swap_L67 fu x0 x2 v6 0
  else
    rtn 0
def fX8_swap_L21 (x0 : Nat) (x1 : Int32) (x2 : Int32) (s0 : Nat) : Mm → Option (Int32 × Mm) :=
  fX8_swap_L22 x0 x1 x2 1 s0
def fX8_swap (x0 : Nat) (x1 : Int32) (x2 : Int32) : Mm → Option (Int32 × Mm) :=
  bnd (fX8_isLine x0 x1) fun v9 =>
  if (v9 : Int32) = 0 then
    fX8_swap_L21 x0 x1 x2 x0
  else
    bnd (fX8_isLine x0 x2) fun v10 =>
    if (v10 : Int32) = 0 then
      fX8_swap_L21 x0 x1 x2 x0
    else
      fX8_swap_L22 x0 x1 x2 0 x0
def fX8_laysLosses_L2 : Nat → Nat → Int32 → Mm → Option (Unit × Mm)
  | 0, _, _ => fail
  | n + 1, x0, x1 =>
    if 20 ≤ (x1 : Int32) then
      rtn ()
    else
      bnd (gA x0 25) fun v1 =>
      bnd (gA x0 1) fun v2 =>
      bnd (lI v2 (8 + x1)) fun v3 =>
      bnd (aI v1 x1 v3) fun _ =>
      fX8_laysLosses_L2 n x0 (x1 + 1)
def fX8_laysLosses (x0 : Nat) : Mm → Option (Unit × Mm) :=
  fX8_laysLosses_L2 fu x0 0
def fX8_fills_L49 (k2 : Nat → Int32 → Int32 → Int32 → Mm → Option (Unit × Mm)) (x0 : Nat) (x1 : Int32) (x2 : Int32) (x3 : Int32) (s0 : Int32) (s1 : Int32) (s2 : Nat) : Mm → Option (Unit × Mm) :=
  bnd (aI s2 s1 s0) fun _ =>
  k2 x0 x1 x2 (x3 + 1)
def fX8_fills_L32 (k2 : Nat → Int32 → Int32 → Int32 → Mm → Option (Unit × Mm)) (x0 : Nat) (x1 : Int32) (x2 : Int32) (x3 : Int32) (s0 : Int32) (s1 : Nat) : Mm → Option (Unit × Mm) :=
  fX8_fills_L49 k2 x0 x1 x2 x3 0 s0 s1
def fX8_fills_L2 : Nat → Nat → Int32 → Int32 → Int32 → Mm → Option (Unit × Mm)
  | 0, _, _, _, _ => fail
  | n + 1, x0, x1, x2, x3 =>
    if 40 ≤ (x3 : Int32) then
      bnd (gA x0 21) fun v1 =>
      bnd (aI v1 x1 x2) fun _ =>
      rtn ()
    else
      bnd (gA x0 20) fun v2 =>
      bnd (gA x0 1) fun v3 =>
      bnd (lI v3 4) fun v4 =>
      if (v4 : Int32) = 1 then
        fX8_fills_L32 (fX8_fills_L2 n) x0 x1 x2 x3 ((40 * x1) + x3) v2
      else
        if (x1 : Int32) = 0 then
          fX8_fills_L32 (fX8_fills_L2 n) x0 x1 x2 x3 ((40 * x1) + x3) v2
        else
          bnd (gA x0 20) fun v5 =>
          bnd (lI v5 ((40 * (x1 - 1)) + x3)) fun v6 =>
          fX8_fills_L49 (fX8_fills_L2 n) x0 x1 x2 x3 v6 ((40 * x1) + x3) v2
def fX8_fills (x0 : Nat) (x1 : Int32) (x2 : Int32) : Mm → Option (Unit × Mm) :=
  fX8_fills_L2 fu x0 x1 x2 0
def fX8_wrongIn_L44 (k4 : Nat → Int32 → Int32 → Int32 → Mm → Option (Int32 × Mm)) (x0 : Nat) (x1 : Int32) (x3 : Int32) (s0 : Int32) (s1 : Int32) : Mm → Option (Int32 × Mm) :=
  bnd (rtn (s1 + s0)) fun v1 =>
  k4 x0 x1 v1 (x3 + 1)
def fX8_wrongIn_L4 : Nat → Nat → Int32 → Int32 → Int32 → Mm → Option (Int32 × Mm)
  | 0, _, _, _, _ => fail
  | n + 1, x0, x1, x2, x3 =>
    bnd (gA x0 1) fun v2 =>
    bnd (lI v2 0) fun v3 =>
    if v3 ≤ (x3 : Int32) then
      rtn x2
    else
      bnd (gA x0 20) fun v4 =>
      bnd (lI v4 ((40 * x1) + x3)) fun v5 =>
      bnd (gA x0 1) fun v6 =>
      bnd (fX8_dotAt x1 x3) fun v7 =>
      bnd (lI v6 v7) fun v8 =>
      if (v5 : Int32) = v8 then
        fX8_wrongIn_L44 (fX8_wrongIn_L4 n) x0 x1 x3 0 x2
      else
        fX8_wrongIn_L44 (fX8_wrongIn_L4 n) x0 x1 x3 1 x2
def fX8_wrongIn (x0 : Nat) (x1 : Int32) : Mm → Option (Int32 × Mm) :=
  fX8_wrongIn_L4 fu x0 x1 0 0
def fX8_isRead_L17 : Nat → Nat → Int32 → Mm → Option (Int32 × Mm)
  | 0, _, _ => fail
  | n + 1, x0, x3 =>
    if 40 ≤ (x3 : Int32) then
      grd ((1 : Int32) == 0 || (1 : Int32) == 1) (rtn 1)
    else
      bnd (gA x0 15) fun v1 =>
      bnd (gA x0 8) fun v2 =>
      bnd (lI v2 x3) fun v3 =>
      bnd (aI v1 x3 v3) fun _ =>
      fX8_isRead_L17 n x0 (x3 + 1)
def fX8_isRead (x0 : Nat) (x1 : Int32) : Mm → Option (Int32 × Mm) :=
  bnd (fX8_isMark x0 x1) fun v4 =>
  bnd (fX8_codesLine x0 x1) fun _ =>
  if (v4 : Int32) = 0 then
    bnd (gA x0 20) fun v5 =>
    bnd (fX8_laysUpper x0 v5 (40 * (x1 - 1))) fun _ =>
    bnd (fX8_readsCode x0) fun v6 =>
    grd ((v6 : Int32) == 0 || (v6 : Int32) == 1) (rtn v6)
  else
    fX8_isRead_L17 fu x0 0
def fX8_sends_L150 (s0 : Int32) (s1 : Int32) (s2 : Nat) : Mm → Option (Int32 × Mm) :=
  bnd (aI s2 s1 s0) fun _ =>
  rtn 0
def fX8_sends_L103 : Nat → Nat → Int32 → Int32 → Mm → Option (Int32 × Mm)
  | 0, _, _, _ => fail
  | n + 1, x0, x1, x3 =>
    if 40 ≤ (x3 : Int32) then
      bnd (gA x0 21) fun v1 =>
      bnd (fX8_wrongIn x0 x1) fun v2 =>
      if (v2 : Int32) = 0 then
        fX8_sends_L150 0 x1 v1
      else
        fX8_sends_L150 3 x1 v1
    else
      bnd (gA x0 20) fun v3 =>
      bnd (gA x0 15) fun v4 =>
      bnd (lI v4 x3) fun v5 =>
      bnd (aI v3 ((40 * x1) + x3) v5) fun _ =>
      fX8_sends_L103 n x0 x1 (x3 + 1)
def fX8_sends (x0 : Nat) (x1 : Int32) : Mm → Option (Int32 × Mm) :=
  bnd (gA x0 1) fun v6 =>
  bnd (lI v6 6) fun v7 =>
  bnd (fX8_sentBits x0 x1) fun v8 =>
  bnd (rtn (v7 + v8)) fun v9 =>
  bnd (gA x0 23) fun v10 =>
  bnd (lI v10 x1) fun v11 =>
  bnd (aI v10 x1 (v11 + v9)) fun _ =>
  bnd (gI x0 26) fun v12 =>
  bnd (pI x0 26 (v12 + v9)) fun _ =>
  bnd (gI x0 27) fun v13 =>
  bnd (pI x0 27 (v13 + 1)) fun _ =>
  bnd (gA x0 22) fun v14 =>
  bnd (lI v14 x1) fun v15 =>
  bnd (aI v14 x1 (v15 + 1)) fun _ =>
  bnd (gA x0 22) fun v16 =>
  bnd (lI v16 x1) fun v17 =>
  bnd (gA x0 25) fun v18 =>
  bnd (lI v18 x1) fun v19 =>
  if v19 < (v17 : Int32) then
    bnd (fX8_isRead x0 x1) fun v20 =>
    if (v20 : Int32) = 0 then
      bnd (gI x0 30) fun v21 =>
      bnd (pI x0 30 (v21 + 1)) fun _ =>
      rtn 2
    else
      fX8_sends_L103 fu x0 x1 0
  else
    bnd (gI x0 29) fun v22 =>
    bnd (pI x0 29 (v22 + 1)) fun _ =>
    rtn 1
def fX8_sendsAll_L157 (k69 : Nat → Int32 → Mm → Option (Unit × Mm)) (x0 : Nat) (x1 : Int32) : Mm → Option (Unit × Mm) :=
  k69 x0 (x1 + 1)
def fX8_sendsAll_L147 (k69 : Nat → Int32 → Mm → Option (Unit × Mm)) (x0 : Nat) (x1 : Int32) (x2 : Int32) : Mm → Option (Unit × Mm) :=
  if (x2 : Int32) ≤ 0 then
    fX8_sendsAll_L157 k69 x0 x1
  else
    bnd (fX8_fills x0 x1 x2) fun _ =>
    fX8_sendsAll_L157 k69 x0 x1
def fX8_sendsAll_L69 : Nat → Nat → Int32 → Mm → Option (Unit × Mm)
  | 0, _, _ => fail
  | n + 1, x0, x1 =>
    bnd (gA x0 1) fun v1 =>
    bnd (lI v1 1) fun v2 =>
    if v2 ≤ (x1 : Int32) then
      rtn ()
    else
      bnd (fX8_sends x0 x1) fun v3 =>
      if (v3 : Int32) ≤ 0 then
        fX8_sendsAll_L147 (fX8_sendsAll_L69 n) x0 x1 v3
      else
        bnd (gI x0 28) fun v4 =>
        bnd (gA x0 1) fun v5 =>
        bnd (lI v5 5) fun v6 =>
        if v6 ≤ (v4 : Int32) then
          fX8_sendsAll_L147 (fX8_sendsAll_L69 n) x0 x1 v3
        else
          bnd (gI x0 28) fun v7 =>
          bnd (pI x0 28 (v7 + 1)) fun _ =>
          bnd (gA x0 24) fun v8 =>
          bnd (lI v8 x1) fun v9 =>
          bnd (aI v8 x1 (v9 + 1)) fun _ =>
          bnd (gI x0 26) fun v10 =>
          bnd (gA x0 1) fun v11 =>
          bnd (lI v11 7) fun v12 =>
          bnd (pI x0 26 (v10 + v12)) fun _ =>
          bnd (fX8_markUpTo x0 x1) fun v13 =>
          fX8_sendsAll_L69 n x0 v13
def fX8_sendsAll_L2 : Nat → Nat → Int32 → Mm → Option (Unit × Mm)
  | 0, _, _ => fail
  | n + 1, x0, x1 =>
    if 20 ≤ (x1 : Int32) then
      bnd (pI x0 26 0) fun _ =>
      bnd (pI x0 27 0) fun _ =>
      bnd (pI x0 28 0) fun _ =>
      bnd (pI x0 29 0) fun _ =>
      bnd (pI x0 30 0) fun _ =>
      fX8_sendsAll_L69 fu x0 0
    else
      bnd (gA x0 21) fun v14 =>
      bnd (aI v14 x1 0) fun _ =>
      bnd (gA x0 22) fun v15 =>
      bnd (aI v15 x1 0) fun _ =>
      bnd (gA x0 23) fun v16 =>
      bnd (aI v16 x1 0) fun _ =>
      bnd (gA x0 24) fun v17 =>
      bnd (aI v17 x1 0) fun _ =>
      fX8_sendsAll_L2 n x0 (x1 + 1)
def fX8_sendsAll (x0 : Nat) : Mm → Option (Unit × Mm) :=
  fX8_sendsAll_L2 fu x0 0
def fX8_sendsPage (x0 : Nat) : Mm → Option (Unit × Mm) :=
  bnd (fX8_laysLosses x0) fun _ =>
  bnd (fX8_sendsAll x0) fun _ =>
  rtn ()
def fX8_wrongDots_L4 : Nat → Nat → Int32 → Int32 → Mm → Option (Int32 × Mm)
  | 0, _, _, _ => fail
  | n + 1, x0, x1, x2 =>
    bnd (gA x0 1) fun v1 =>
    bnd (lI v1 1) fun v2 =>
    if v2 ≤ (x2 : Int32) then
      rtn x1
    else
      bnd (fX8_wrongIn x0 x2) fun v3 =>
      bnd (rtn (x1 + v3)) fun v4 =>
      fX8_wrongDots_L4 n x0 v4 (x2 + 1)
def fX8_wrongDots (x0 : Nat) : Mm → Option (Int32 × Mm) :=
  fX8_wrongDots_L4 fu x0 0 0
def fX8_statesOf_L30 (k4 : Nat → Int32 → Int32 → Int32 → Mm → Option (Int32 × Mm)) (x0 : Nat) (x1 : Int32) (x3 : Int32) (s0 : Int32) (s1 : Int32) : Mm → Option (Int32 × Mm) :=
  bnd (rtn (s1 + s0)) fun v1 =>
  k4 x0 x1 v1 (x3 + 1)
def fX8_statesOf_L4 : Nat → Nat → Int32 → Int32 → Int32 → Mm → Option (Int32 × Mm)
  | 0, _, _, _, _ => fail
  | n + 1, x0, x1, x2, x3 =>
    bnd (gA x0 1) fun v2 =>
    bnd (lI v2 1) fun v3 =>
    if v3 ≤ (x3 : Int32) then
      rtn x2
    else
      bnd (gA x0 21) fun v4 =>
      bnd (lI v4 x3) fun v5 =>
      if (v5 : Int32) = x1 then
        fX8_statesOf_L30 (fX8_statesOf_L4 n) x0 x1 x3 1 x2
      else
        fX8_statesOf_L30 (fX8_statesOf_L4 n) x0 x1 x3 0 x2
def fX8_statesOf (x0 : Nat) (x1 : Int32) : Mm → Option (Int32 × Mm) :=
  fX8_statesOf_L4 fu x0 x1 0 0
def fX8_sent_L16 (x0 : Nat) (x1 : Int32) (s0 : Int32) (s1 : Nat) : Mm → Option (Int32 × Mm) :=
  bnd (pI s1 0 s0) fun _ =>
  bnd (gI x0 0) fun v1 =>
  if (v1 : Int32) ≤ 0 then
    bnd (fX8_sendsPage x0) fun _ =>
    if (x1 : Int32) = 0 then
      bnd (gI x0 26) fun v2 =>
      rtn v2
    else if (x1 : Int32) = 1 then
      bnd (gI x0 27) fun v3 =>
      rtn v3
    else if (x1 : Int32) = 2 then
      bnd (gI x0 28) fun v4 =>
      rtn v4
    else if (x1 : Int32) = 3 then
      bnd (fX8_statesOf x0 (x1 - 3)) fun v5 =>
      rtn v5
    else if (x1 : Int32) = 4 then
      bnd (fX8_statesOf x0 (x1 - 3)) fun v6 =>
      rtn v6
    else if (x1 : Int32) = 5 then
      bnd (fX8_statesOf x0 (x1 - 3)) fun v7 =>
      rtn v7
    else if (x1 : Int32) = 6 then
      bnd (fX8_statesOf x0 (x1 - 3)) fun v8 =>
      rtn v8
    else if (x1 : Int32) = 7 then
      bnd (fX8_wrongDots x0) fun v9 =>
      rtn v9
    else if (x1 : Int32) = 8 then
      bnd (gI x0 29) fun v10 =>
      rtn v10
    else if (x1 : Int32) = 9 then
      bnd (gI x0 30) fun v11 =>
      rtn v11
    else 
      bnd (fX8_statesOf x0 (x1 - 3)) fun v12 =>
      rtn v12
  else
    rtn 0
def fX8_sent (x0 : Nat) (x1 : Int32) : Mm → Option (Int32 × Mm) :=
  bnd (fX8_in x1 0 9) fun v13 =>
  if (v13 : Int32) = 0 then
    fX8_sent_L16 x0 x1 1 x0
  else
    fX8_sent_L16 x0 x1 0 x0
def fX8_sentLine_L27 (x0 : Nat) (x1 : Int32) (x2 : Int32) (s0 : Int32) (s1 : Nat) : Mm → Option (Int32 × Mm) :=
  bnd (pI s1 0 s0) fun _ =>
  bnd (gI x0 0) fun v1 =>
  if (v1 : Int32) ≤ 0 then
    bnd (fX8_sendsPage x0) fun _ =>
    if (x2 : Int32) = 0 then
      bnd (gA x0 21) fun v9 =>
      bnd (lI v9 x1) fun v10 =>
      rtn v10
    else
      if (x2 : Int32) = 1 then
        bnd (gA x0 22) fun v7 =>
        bnd (lI v7 x1) fun v8 =>
        rtn v8
      else
        if (x2 : Int32) = 2 then
          bnd (gA x0 23) fun v5 =>
          bnd (lI v5 x1) fun v6 =>
          rtn v6
        else
          if (x2 : Int32) = 3 then
            bnd (fX8_wrongIn x0 x1) fun v4 =>
            rtn v4
          else
            bnd (gA x0 24) fun v2 =>
            bnd (lI v2 x1) fun v3 =>
            rtn v3
  else
    rtn 0
def fX8_sentLine (x0 : Nat) (x1 : Int32) (x2 : Int32) : Mm → Option (Int32 × Mm) :=
  bnd (fX8_isLine x0 x1) fun v11 =>
  if (v11 : Int32) = 0 then
    fX8_sentLine_L27 x0 x1 x2 1 x0
  else
    bnd (fX8_in x2 0 4) fun v12 =>
    if (v12 : Int32) = 0 then
      fX8_sentLine_L27 x0 x1 x2 2 x0
    else
      fX8_sentLine_L27 x0 x1 x2 0 x0
def fX8_received_L15 (x0 : Nat) (x1 : Int32) (x2 : Int32) (s0 : Int32) (s1 : Nat) : Mm → Option (Int32 × Mm) :=
  bnd (pI s1 0 s0) fun _ =>
  bnd (gI x0 0) fun v1 =>
  if (v1 : Int32) ≤ 0 then
    bnd (fX8_sendsPage x0) fun _ =>
    bnd (gA x0 20) fun v2 =>
    bnd (lI v2 ((40 * x1) + x2)) fun v3 =>
    rtn v3
  else
    rtn 0
def fX8_received (x0 : Nat) (x1 : Int32) (x2 : Int32) : Mm → Option (Int32 × Mm) :=
  bnd (fX8_isDot x0 x1 x2) fun v4 =>
  if (v4 : Int32) = 0 then
    fX8_received_L15 x0 x1 x2 1 x0
  else
    fX8_received_L15 x0 x1 x2 0 x0
def fX8_sendsHarmed_L23 (k2 : Nat → Int32 → Int32 → Mm → Option (Unit × Mm)) (x0 : Nat) (x1 : Int32) (x2 : Int32) (s0 : Int32) (s1 : Int32) (s2 : Nat) : Mm → Option (Unit × Mm) :=
  bnd (aI s2 s1 s0) fun _ =>
  k2 x0 x1 (x2 + 1)
def fX8_sendsHarmed_L2 : Nat → Nat → Int32 → Int32 → Mm → Option (Unit × Mm)
  | 0, _, _, _ => fail
  | n + 1, x0, x1, x2 =>
    if 20 ≤ (x2 : Int32) then
      bnd (gA x0 1) fun v1 =>
      bnd (lI v1 5) fun v2 =>
      bnd (gA x0 1) fun v3 =>
      bnd (aI v3 5 0) fun _ =>
      bnd (fX8_sendsAll x0) fun _ =>
      bnd (gA x0 1) fun v4 =>
      bnd (aI v4 5 v2) fun _ =>
      rtn ()
    else
      bnd (gA x0 25) fun v5 =>
      if (x2 : Int32) = x1 then
        fX8_sendsHarmed_L23 (fX8_sendsHarmed_L2 n) x0 x1 x2 1 x2 v5
      else
        fX8_sendsHarmed_L23 (fX8_sendsHarmed_L2 n) x0 x1 x2 0 x2 v5
def fX8_sendsHarmed (x0 : Nat) (x1 : Int32) : Mm → Option (Unit × Mm) :=
  fX8_sendsHarmed_L2 fu x0 x1 0
def fX8_harmOf_L58 (k7 : Nat → Int32 → Int32 → Int32 → Int32 → Mm → Option (Int32 × Mm)) (x0 : Nat) (x1 : Int32) (x2 : Int32) (x4 : Int32) (s0 : Int32) : Mm → Option (Int32 × Mm) :=
  k7 x0 x1 x2 s0 (x4 + 1)
def fX8_harmOf_L45 (k7 : Nat → Int32 → Int32 → Int32 → Int32 → Mm → Option (Int32 × Mm)) (x0 : Nat) (x1 : Int32) (x3 : Int32) (x4 : Int32) (x5 : Int32) (s0 : Int32) (s1 : Int32) : Mm → Option (Int32 × Mm) :=
  bnd (rtn (s1 + s0)) fun v1 =>
  if (x5 : Int32) = 0 then
    fX8_harmOf_L58 k7 x0 x1 v1 x4 x3
  else
    fX8_harmOf_L58 k7 x0 x1 v1 x4 x4
def fX8_harmOf_L32 (k7 : Nat → Int32 → Int32 → Int32 → Int32 → Mm → Option (Int32 × Mm)) (x0 : Nat) (x1 : Int32) (x2 : Int32) (x3 : Int32) (x4 : Int32) (s0 : Int32) : Mm → Option (Int32 × Mm) :=
  if (s0 : Int32) = 0 then
    fX8_harmOf_L45 k7 x0 x1 x3 x4 s0 0 x2
  else
    fX8_harmOf_L45 k7 x0 x1 x3 x4 s0 1 x2
def fX8_harmOf_L7 : Nat → Nat → Int32 → Int32 → Int32 → Int32 → Mm → Option (Int32 × Mm)
  | 0, _, _, _, _, _ => fail
  | n + 1, x0, x1, x2, x3, x4 =>
    bnd (gA x0 1) fun v2 =>
    bnd (lI v2 1) fun v3 =>
    if v3 ≤ (x4 : Int32) then
      if (x1 : Int32) = 0 then
        rtn x2
      else
        if (x1 : Int32) = 1 then
          bnd (fX8_wrongDots x0) fun v4 =>
          rtn v4
        else
          rtn x3
    else
      bnd (fX8_wrongIn x0 x4) fun v5 =>
      if (v5 : Int32) ≤ 0 then
        fX8_harmOf_L32 (fX8_harmOf_L7 n) x0 x1 x2 x3 x4 0
      else
        fX8_harmOf_L32 (fX8_harmOf_L7 n) x0 x1 x2 x3 x4 1
def fX8_harmOf (x0 : Nat) (x1 : Int32) : Mm → Option (Int32 × Mm) :=
  fX8_harmOf_L7 fu x0 x1 0 (-1) 0
def fX8_harm_L27 (x0 : Nat) (x1 : Int32) (x2 : Int32) (s0 : Int32) (s1 : Nat) : Mm → Option (Int32 × Mm) :=
  bnd (pI s1 0 s0) fun _ =>
  bnd (gI x0 0) fun v1 =>
  if (v1 : Int32) ≤ 0 then
    bnd (fX8_sendsHarmed x0 x1) fun _ =>
    bnd (fX8_harmOf x0 x2) fun v2 =>
    rtn v2
  else
    rtn 0
def fX8_harm (x0 : Nat) (x1 : Int32) (x2 : Int32) : Mm → Option (Int32 × Mm) :=
  bnd (fX8_isLine x0 x1) fun v3 =>
  if (v3 : Int32) = 0 then
    fX8_harm_L27 x0 x1 x2 1 x0
  else
    bnd (fX8_in x2 0 2) fun v4 =>
    if (v4 : Int32) = 0 then
      fX8_harm_L27 x0 x1 x2 2 x0
    else
      fX8_harm_L27 x0 x1 x2 0 x0
def fX8_worst_L48 (k11 : Nat → Int32 → Int32 → Int32 → Mm → Option (Int32 × Mm)) (x0 : Nat) (x1 : Int32) (x2 : Int32) (x3 : Int32) : Mm → Option (Int32 × Mm) :=
  k11 x0 x1 x2 (x3 + 1)
def fX8_worst_L43 (k11 : Nat → Int32 → Int32 → Int32 → Mm → Option (Int32 × Mm)) (x0 : Nat) (x3 : Int32) (x4 : Int32) : Mm → Option (Int32 × Mm) :=
  fX8_worst_L48 k11 x0 x3 x4 x3
def fX8_worst_L11 : Nat → Nat → Int32 → Int32 → Int32 → Mm → Option (Int32 × Mm)
  | 0, _, _, _, _ => fail
  | n + 1, x0, x1, x2, x3 =>
    bnd (gA x0 1) fun v1 =>
    bnd (lI v1 1) fun v2 =>
    if v2 ≤ (x3 : Int32) then
      rtn x1
    else
      bnd (fX8_sendsHarmed x0 x3) fun _ =>
      bnd (fX8_wrongDots x0) fun v3 =>
      if (x1 : Int32) = (-1) then
        fX8_worst_L43 (fX8_worst_L11 n) x0 x3 v3
      else
        if (v3 : Int32) ≤ x2 then
          fX8_worst_L48 (fX8_worst_L11 n) x0 x1 x2 x3
        else
          fX8_worst_L43 (fX8_worst_L11 n) x0 x3 v3
def fX8_worst (x0 : Nat) : Mm → Option (Int32 × Mm) :=
  bnd (pI x0 0 0) fun _ =>
  fX8_worst_L11 fu x0 (-1) 0 0
def fX8_bestEvery_L85 (k22 : Nat → Int32 → Int32 → Int32 → Int32 → Int32 → Mm → Option (Int32 × Mm)) (x0 : Nat) (x1 : Int32) (x2 : Int32) (x3 : Int32) (x4 : Int32) (x5 : Int32) : Mm → Option (Int32 × Mm) :=
  k22 x0 x1 x2 x3 x4 (x5 + 1)
def fX8_bestEvery_L73 (k22 : Nat → Int32 → Int32 → Int32 → Int32 → Int32 → Mm → Option (Int32 × Mm)) (x0 : Nat) (x1 : Int32) (x5 : Int32) (x6 : Int32) : Mm → Option (Int32 × Mm) :=
  bnd (gI x0 26) fun v1 =>
  fX8_bestEvery_L85 k22 x0 x1 x5 x6 v1 x5
def fX8_bestEvery_L22 : Nat → Nat → Int32 → Int32 → Int32 → Int32 → Int32 → Mm → Option (Int32 × Mm)
  | 0, _, _, _, _, _, _ => fail
  | n + 1, x0, x1, x2, x3, x4, x5 =>
    if 8 < (x5 : Int32) then
      bnd (gA x0 1) fun v2 =>
      bnd (aI v2 2 x1) fun _ =>
      rtn x2
    else
      bnd (gA x0 1) fun v3 =>
      bnd (aI v3 2 x5) fun _ =>
      bnd (fX8_sendsPage x0) fun _ =>
      bnd (fX8_wrongDots x0) fun v4 =>
      if (x2 : Int32) = (-1) then
        fX8_bestEvery_L73 (fX8_bestEvery_L22 n) x0 x1 x5 v4
      else
        if (v4 : Int32) < x3 then
          fX8_bestEvery_L73 (fX8_bestEvery_L22 n) x0 x1 x5 v4
        else
          if (v4 : Int32) = x3 then
            bnd (gI x0 26) fun v5 =>
            if x4 ≤ (v5 : Int32) then
              fX8_bestEvery_L85 (fX8_bestEvery_L22 n) x0 x1 x2 x3 x4 x5
            else
              fX8_bestEvery_L73 (fX8_bestEvery_L22 n) x0 x1 x5 v4
          else
            fX8_bestEvery_L85 (fX8_bestEvery_L22 n) x0 x1 x2 x3 x4 x5
def fX8_bestEvery (x0 : Nat) : Mm → Option (Int32 × Mm) :=
  bnd (pI x0 0 0) fun _ =>
  bnd (gA x0 1) fun v6 =>
  bnd (lI v6 2) fun v7 =>
  fX8_bestEvery_L22 fu x0 v7 (-1) 0 0 1
def fX8_needsSteps_L57 (x0 : Nat) (x1 : Int32) (x2 : Int32) : Mm → Option (Int32 × Mm) :=
  bnd (gA x0 1) fun v1 =>
  bnd (aI v1 5 x1) fun _ =>
  rtn x2
def fX8_needsSteps_L50 (k16 : Nat → Int32 → Int32 → Int32 → Mm → Option (Int32 × Mm)) (x0 : Nat) (x1 : Int32) (x3 : Int32) (s0 : Int32) : Mm → Option (Int32 × Mm) :=
  k16 x0 x1 s0 (x3 + 1)
def fX8_needsSteps_L16 : Nat → Nat → Int32 → Int32 → Int32 → Mm → Option (Int32 × Mm)
  | 0, _, _, _, _ => fail
  | n + 1, x0, x1, x2, x3 =>
    if 9 < (x3 : Int32) then
      fX8_needsSteps_L57 x0 x1 x2
    else
      if (x2 : Int32) = (-1) then
        bnd (gA x0 1) fun v2 =>
        bnd (aI v2 5 x3) fun _ =>
        bnd (fX8_sendsPage x0) fun _ =>
        bnd (fX8_wrongDots x0) fun v3 =>
        if (v3 : Int32) = 0 then
          fX8_needsSteps_L50 (fX8_needsSteps_L16 n) x0 x1 x3 x3
        else
          fX8_needsSteps_L50 (fX8_needsSteps_L16 n) x0 x1 x3 (-1)
      else
        fX8_needsSteps_L57 x0 x1 x2
def fX8_needsSteps (x0 : Nat) : Mm → Option (Int32 × Mm) :=
  bnd (pI x0 0 0) fun _ =>
  bnd (gA x0 1) fun v4 =>
  bnd (lI v4 5) fun v5 =>
  fX8_needsSteps_L16 fu x0 v5 (-1) 0
def fX8_perDot (x0 : Nat) : Mm → Option (UInt64 × Mm) :=
  bnd (pI x0 0 0) fun _ =>
  bnd (gA x0 1) fun v1 =>
  bnd (lI v1 1) fun v2 =>
  if (v2 : Int32) = 0 then
    rtn 0
  else
    bnd (fX8_sendsPage x0) fun _ =>
    bnd (gI x0 26) fun v3 =>
    bnd (gA x0 1) fun v4 =>
    bnd (lI v4 0) fun v5 =>
    bnd (gA x0 1) fun v6 =>
    bnd (lI v6 1) fun v7 =>
    grd (nf64 (FP.ddiv (FP.i2d v3) (FP.i2d (v5 * v7)))) <|
    rtn (FP.ddiv (FP.i2d v3) (FP.i2d (v5 * v7)))
def fX8_byAbove (x0 : Nat) : Mm → Option (UInt32 × Mm) :=
  bnd (pI x0 0 0) fun _ =>
  bnd (gA x0 1) fun v1 =>
  bnd (lI v1 1) fun v2 =>
  bnd (fX8_sumOf x0 10) fun v3 =>
  bnd (rtn (v2 - v3)) fun v4 =>
  bnd (gA x0 1) fun v5 =>
  bnd (lI v5 1) fun v6 =>
  if (v6 : Int32) = 0 then
    rtn 0
  else
    bnd (gA x0 1) fun v7 =>
    bnd (lI v7 1) fun v8 =>
    grd (nf32 (FP.fdiv (FP.i2f v4) (FP.i2f v8))) <|
    rtn (FP.fdiv (FP.i2f v4) (FP.i2f v8))
def fX8_appendText_L33 : Nat → Nat → Int32 → Int32 → Mm → Option (Int32 × Mm)
  | 0, _, _, _ => fail
  | n + 1, x0, x1, x2 =>
    if (x2 : Int32) < 0 then
      bnd (gI x0 32) fun v1 =>
      rtn v1
    else
      bnd (gA x0 31) fun v2 =>
      bnd (gI x0 32) fun v3 =>
      bnd (aB v2 v3 (i2b (x1 >>> (x2 &&& 31)))) fun _ =>
      bnd (gI x0 32) fun v4 =>
      bnd (pI x0 32 (v4 + 1)) fun _ =>
      fX8_appendText_L33 n x0 x1 (x2 + (-8))
def fX8_appendText_L18 (x0 : Nat) (x1 : Int32) (s0 : Int32) (s1 : Nat) : Mm → Option (Int32 × Mm) :=
  bnd (pI s1 0 s0) fun _ =>
  bnd (gI x0 0) fun v5 =>
  if (v5 : Int32) ≤ 0 then
    fX8_appendText_L33 fu x0 x1 24
  else
    rtn 0
def fX8_appendText (x0 : Nat) (x1 : Int32) : Mm → Option (Int32 × Mm) :=
  bnd (gI x0 32) fun v6 =>
  if 900 < ((v6 + 4) : Int32) then
    fX8_appendText_L18 x0 x1 1 x0
  else
    fX8_appendText_L18 x0 x1 0 x0
def fX8_truncateText_L18 (x0 : Nat) (x1 : Int32) (s0 : Int32) (s1 : Nat) : Mm → Option (Int32 × Mm) :=
  bnd (pI s1 0 s0) fun _ =>
  bnd (gI x0 0) fun v1 =>
  if (v1 : Int32) ≤ 0 then
    bnd (pI x0 32 x1) fun _ =>
    bnd (gI x0 32) fun v2 =>
    rtn v2
  else
    rtn 0
def fX8_truncateText (x0 : Nat) (x1 : Int32) : Mm → Option (Int32 × Mm) :=
  bnd (gI x0 32) fun v3 =>
  bnd (fX8_in x1 0 v3) fun v4 =>
  if (v4 : Int32) = 0 then
    fX8_truncateText_L18 x0 x1 1 x0
  else
    fX8_truncateText_L18 x0 x1 0 x0
def fX8_see (x0 : Nat) : Mm → Option (Int32 × Mm) :=
  bnd (gI x0 33) fun v1 =>
  bnd (gI x0 32) fun v2 =>
  if v2 ≤ (v1 : Int32) then
    rtn (-1)
  else
    bnd (gA x0 31) fun v3 =>
    bnd (gI x0 33) fun v4 =>
    bnd (lI v3 v4) fun v5 =>
    rtn (v5 &&& 255)
def fX8_sortOf_L45 : Mm → Option (Int32 × Mm) :=
  rtn 3
def fX8_sortOf (x0 : Int32) : Mm → Option (Int32 × Mm) :=
  if (x0 : Int32) = (-1) then
    rtn 0
  else
    bnd (fX8_in x0 97 122) fun v1 =>
    if (v1 : Int32) = 0 then
      bnd (fX8_in x0 48 57) fun v2 =>
      if (v2 : Int32) = 0 then
        if (x0 : Int32) = 46 then
          fX8_sortOf_L45
        else
          if (x0 : Int32) = 35 then
            fX8_sortOf_L45
          else
            if (x0 : Int32) = 59 then
              rtn 4
            else
              if (x0 : Int32) = 45 then
                rtn 5
              else
                rtn 6
      else
        rtn 2
    else
      rtn 1
def fX8_advances_L144 (k77 : Nat → Mm → Option (Unit × Mm)) (x0 : Nat) (s0 : Int32) (s1 : Nat) : Mm → Option (Unit × Mm) :=
  bnd (pI s1 36 s0) fun _ =>
  bnd (gI x0 33) fun v1 =>
  bnd (pI x0 33 (v1 + 1)) fun _ =>
  k77 x0
def fX8_advances_L122 (k77 : Nat → Mm → Option (Unit × Mm)) (x0 : Nat) (s0 : Nat) : Mm → Option (Unit × Mm) :=
  bnd (gI x0 36) fun v2 =>
  fX8_advances_L144 k77 x0 v2 s0
def fX8_advances_L77 : Nat → Nat → Mm → Option (Unit × Mm)
  | 0, _ => fail
  | n + 1, x0 =>
    bnd (gI x0 35) fun v3 =>
    bnd (fX8_in v3 1 3) fun v4 =>
    if (v4 : Int32) = 0 then
      rtn ()
    else
      bnd (fX8_see x0) fun v5 =>
      bnd (fX8_sortOf v5) fun v6 =>
      bnd (gI x0 35) fun v7 =>
      if (v6 : Int32) = v7 then
        bnd (gI x0 35) fun v8 =>
        if (v8 : Int32) = 2 then
          bnd (gI x0 36) fun v9 =>
          if (v9 : Int32) ≤ 10000 then
            bnd (gI x0 36) fun v10 =>
            bnd (fX8_see x0) fun v11 =>
            fX8_advances_L144 (fX8_advances_L77 n) x0 (((10 * v10) + v11) - 48) x0
          else
            fX8_advances_L122 (fX8_advances_L77 n) x0 x0
        else
          fX8_advances_L122 (fX8_advances_L77 n) x0 x0
      else
        rtn ()
def fX8_advances_L73 (x0 : Nat) (s0 : Int32) (s1 : Int32) (s2 : Nat) : Mm → Option (Unit × Mm) :=
  bnd (pI s2 33 (s1 + s0)) fun _ =>
  fX8_advances_L77 fu x0
def fX8_advances_L18 (k0 : Nat → Mm → Option (Unit × Mm)) (x0 : Nat) : Mm → Option (Unit × Mm) :=
  bnd (gI x0 33) fun v12 =>
  bnd (pI x0 33 (v12 + 1)) fun _ =>
  k0 x0
def fX8_advances_L0 : Nat → Nat → Mm → Option (Unit × Mm)
  | 0, _ => fail
  | n + 1, x0 =>
    bnd (fX8_see x0) fun v13 =>
    if (v13 : Int32) = 32 then
      fX8_advances_L18 (fX8_advances_L0 n) x0
    else
      bnd (fX8_see x0) fun v14 =>
      if (v14 : Int32) = 10 then
        fX8_advances_L18 (fX8_advances_L0 n) x0
      else
        bnd (gI x0 33) fun v15 =>
        bnd (pI x0 34 v15) fun _ =>
        bnd (fX8_see x0) fun v16 =>
        bnd (fX8_sortOf v16) fun v17 =>
        bnd (pI x0 35 v17) fun _ =>
        bnd (pI x0 36 0) fun _ =>
        bnd (gI x0 33) fun v18 =>
        bnd (gI x0 35) fun v19 =>
        if (v19 : Int32) < 4 then
          fX8_advances_L73 x0 0 v18 x0
        else
          fX8_advances_L73 x0 1 v18 x0
def fX8_advances (x0 : Nat) : Mm → Option (Unit × Mm) :=
  fX8_advances_L0 fu x0
def fX8_must (x0 : Nat) (x1 : Int32) (x2 : Int32) : Mm → Option (Unit × Mm) :=
  if (x1 : Int32) = 0 then
    bnd (gI x0 37) fun v1 =>
    if (v1 : Int32) = 0 then
      bnd (pI x0 37 x2) fun _ =>
      bnd (gI x0 34) fun v2 =>
      bnd (pI x0 38 v2) fun _ =>
      rtn ()
    else
      rtn ()
  else
    rtn ()
def fX8_goesOn (x0 : Nat) : Mm → Option (Unit × Mm) :=
  bnd (gI x0 37) fun v1 =>
  if (v1 : Int32) = 0 then
    bnd (fX8_advances x0) fun _ =>
    rtn ()
  else
    rtn ()
def fX8_wordHere_L109 (k4 : Nat → Int32 → Int32 → Mm → Option (Int32 × Mm)) (x0 : Nat) (x1 : Int32) (x2 : Int32) (x3 : Int32) : Mm → Option (Int32 × Mm) :=
  bnd (rtn (x1 + (x3 + 1))) fun v1 =>
  k4 x0 v1 (x2 + 1)
def fX8_wordHere_L81 (k23 : Nat → Int32 → Int32 → Int32 → Int32 → Mm → Option (Int32 × Mm)) (x0 : Nat) (x1 : Int32) (x2 : Int32) (x3 : Int32) (s0 : Int32) : Mm → Option (Int32 × Mm) :=
  k23 x0 x1 x2 (x3 + 1) s0
def fX8_wordHere_L80 (k23 : Nat → Int32 → Int32 → Int32 → Int32 → Mm → Option (Int32 × Mm)) (x0 : Nat) (x1 : Int32) (x2 : Int32) (x3 : Int32) : Mm → Option (Int32 × Mm) :=
  fX8_wordHere_L81 k23 x0 x1 x2 x3 0
def fX8_wordHere_L23 (k4 : Nat → Int32 → Int32 → Mm → Option (Int32 × Mm)) : Nat → Nat → Int32 → Int32 → Int32 → Int32 → Mm → Option (Int32 × Mm)
  | 0, _, _, _, _, _ => fail
  | n + 1, x0, x1, x2, x3, x4 =>
    bnd (gA x0 39) fun v2 =>
    bnd (lI v2 (x1 + x3)) fun v3 =>
    if (v3 : Int32) = 32 then
      if (x4 : Int32) = 0 then
        fX8_wordHere_L109 k4 x0 x1 x2 x3
      else
        bnd (gI x0 33) fun v4 =>
        bnd (gI x0 34) fun v5 =>
        if ((v4 - v5) : Int32) = x3 then
          rtn x2
        else
          fX8_wordHere_L109 k4 x0 x1 x2 x3
    else
      if (x4 : Int32) = 0 then
        fX8_wordHere_L80 (fX8_wordHere_L23 k4 n) x0 x1 x2 x3
      else
        bnd (gI x0 34) fun v6 =>
        bnd (gI x0 33) fun v7 =>
        if v7 ≤ ((v6 + x3) : Int32) then
          fX8_wordHere_L80 (fX8_wordHere_L23 k4 n) x0 x1 x2 x3
        else
          bnd (gA x0 31) fun v8 =>
          bnd (gI x0 34) fun v9 =>
          bnd (lI v8 (v9 + x3)) fun v10 =>
          bnd (gA x0 39) fun v11 =>
          bnd (lI v11 (x1 + x3)) fun v12 =>
          if (v10 : Int32) = v12 then
            fX8_wordHere_L81 (fX8_wordHere_L23 k4 n) x0 x1 x2 x3 1
          else
            fX8_wordHere_L80 (fX8_wordHere_L23 k4 n) x0 x1 x2 x3
def fX8_wordHere_L4 : Nat → Nat → Int32 → Int32 → Mm → Option (Int32 × Mm)
  | 0, _, _, _ => fail
  | n + 1, x0, x1, x2 =>
    bnd (gI x0 35) fun v13 =>
    if (v13 : Int32) = 1 then
      if 9 ≤ (x2 : Int32) then
        rtn (-1)
      else
        fX8_wordHere_L23 (fX8_wordHere_L4 n) fu x0 x1 x2 0 1
    else
      rtn (-1)
def fX8_wordHere (x0 : Nat) : Mm → Option (Int32 × Mm) :=
  fX8_wordHere_L4 fu x0 0 0
def fX8_looks_L43 (x0 : Nat) (x1 : Int32) (s0 : Int32) (s1 : Nat) : Mm → Option (Int32 × Mm) :=
  bnd (fX8_must s1 s0 2) fun _ =>
  bnd (gI x0 37) fun v1 =>
  if (v1 : Int32) ≤ 0 then
    bnd (gI x0 36) fun v2 =>
    rtn v2
  else
    rtn x1
def fX8_looks_L38 (x0 : Nat) (x1 : Int32) (s0 : Nat) : Mm → Option (Int32 × Mm) :=
  fX8_looks_L43 x0 x1 1 s0
def fX8_looks_L14 (x0 : Nat) (x1 : Int32) (x2 : Int32) (s0 : Int32) (s1 : Nat) : Mm → Option (Int32 × Mm) :=
  bnd (fX8_must s1 s0 1) fun _ =>
  bnd (gI x0 37) fun v3 =>
  if 0 < (v3 : Int32) then
    fX8_looks_L38 x0 x1 x0
  else
    bnd (gI x0 36) fun v4 =>
    bnd (fX8_in v4 x1 x2) fun v5 =>
    if (v5 : Int32) = 0 then
      fX8_looks_L43 x0 x1 0 x0
    else
      fX8_looks_L38 x0 x1 x0
def fX8_looks (x0 : Nat) (x1 : Int32) (x2 : Int32) : Mm → Option (Int32 × Mm) :=
  bnd (gI x0 35) fun v6 =>
  if (v6 : Int32) = 2 then
    fX8_looks_L14 x0 x1 x2 1 x0
  else
    fX8_looks_L14 x0 x1 x2 0 x0
def fX8_reads (x0 : Nat) (x1 : Int32) (x2 : Int32) : Mm → Option (Int32 × Mm) :=
  bnd (fX8_looks x0 x1 x2) fun v1 =>
  bnd (fX8_goesOn x0) fun _ =>
  rtn v1
def fX8_laysTold_L40 (x0 : Nat) (s0 : Int32) (s1 : Nat) (s2 : Nat) : Mm → Option (Unit × Mm) :=
  bnd (fX8_laysUpper s2 s1 s0) fun _ =>
  bnd (fX8_startsReading x0) fun _ =>
  rtn ()
def fX8_laysTold (x0 : Nat) : Mm → Option (Unit × Mm) :=
  bnd (gA x0 2) fun v1 =>
  bnd (lI v1 0) fun v2 =>
  bnd (pI x0 9 v2) fun _ =>
  bnd (gA x0 2) fun v3 =>
  bnd (gA x0 2) fun v4 =>
  bnd (lI v4 1) fun v5 =>
  if (v5 : Int32) = 0 then
    fX8_laysTold_L40 x0 (-1) v3 x0
  else
    bnd (gA x0 2) fun v6 =>
    bnd (lI v6 1) fun v7 =>
    bnd (fX8_dotAt (v7 - 1) 0) fun v8 =>
    fX8_laysTold_L40 x0 v8 v3 x0
def fX8_addsTold_L63 (s0 : Int32) (s1 : Int32) (s2 : Int32) (s3 : Nat) : Mm → Option (Unit × Mm) :=
  bnd (aI s3 s2 (s1 + s0)) fun _ =>
  rtn ()
def fX8_addsTold_L44 (x0 : Nat) : Mm → Option (Unit × Mm) :=
  bnd (gA x0 2) fun v1 =>
  bnd (lI v1 1) fun v2 =>
  bnd (gI x0 37) fun v3 =>
  if (v3 : Int32) = 0 then
    fX8_addsTold_L63 1 v2 1 v1
  else
    fX8_addsTold_L63 0 v2 1 v1
def fX8_addsTold_L2 : Nat → Nat → Int32 → Mm → Option (Unit × Mm)
  | 0, _, _ => fail
  | n + 1, x0, x1 =>
    bnd (gI x0 9) fun v4 =>
    if v4 ≤ (x1 : Int32) then
      fX8_addsTold_L44 x0
    else
      bnd (gI x0 37) fun v5 =>
      if (v5 : Int32) = 0 then
        bnd (gA x0 2) fun v6 =>
        bnd (gA x0 2) fun v7 =>
        bnd (lI v7 1) fun v8 =>
        bnd (fX8_dotAt v8 x1) fun v9 =>
        bnd (gA x0 15) fun v10 =>
        bnd (lI v10 x1) fun v11 =>
        bnd (aI v6 v9 v11) fun _ =>
        fX8_addsTold_L2 n x0 (x1 + 1)
      else
        fX8_addsTold_L44 x0
def fX8_addsTold (x0 : Nat) : Mm → Option (Unit × Mm) :=
  fX8_addsTold_L2 fu x0 0
def fX8_readsRow_L94 (x0 : Nat) : Mm → Option (Unit × Mm) :=
  bnd (fX8_goesOn x0) fun _ =>
  rtn ()
def fX8_readsRow_L87 (k46 : Nat → Int32 → Mm → Option (Unit × Mm)) (x0 : Nat) (x1 : Int32) (s0 : Int32) (s1 : Int32) (s2 : Nat) : Mm → Option (Unit × Mm) :=
  bnd (aI s2 s1 s0) fun _ =>
  k46 x0 (x1 + 1)
def fX8_readsRow_L46 : Nat → Nat → Int32 → Mm → Option (Unit × Mm)
  | 0, _, _ => fail
  | n + 1, x0, x1 =>
    bnd (gI x0 9) fun v1 =>
    if v1 ≤ (x1 : Int32) then
      fX8_readsRow_L94 x0
    else
      bnd (gI x0 37) fun v2 =>
      if (v2 : Int32) = 0 then
        bnd (gA x0 15) fun v3 =>
        bnd (gA x0 31) fun v4 =>
        bnd (gI x0 34) fun v5 =>
        bnd (lI v4 (v5 + x1)) fun v6 =>
        if (v6 : Int32) = 35 then
          fX8_readsRow_L87 (fX8_readsRow_L46 n) x0 x1 1 x1 v3
        else
          fX8_readsRow_L87 (fX8_readsRow_L46 n) x0 x1 0 x1 v3
      else
        fX8_readsRow_L94 x0
def fX8_readsRow_L40 (x0 : Nat) (s0 : Int32) (s1 : Nat) : Mm → Option (Unit × Mm) :=
  bnd (fX8_must s1 s0 3) fun _ =>
  fX8_readsRow_L46 fu x0 0
def fX8_readsRow_L14 (x0 : Nat) (s0 : Int32) (s1 : Nat) : Mm → Option (Unit × Mm) :=
  bnd (fX8_must s1 s0 1) fun _ =>
  bnd (gI x0 33) fun v7 =>
  bnd (gI x0 34) fun v8 =>
  bnd (gI x0 9) fun v9 =>
  if ((v7 - v8) : Int32) = v9 then
    fX8_readsRow_L40 x0 1 x0
  else
    fX8_readsRow_L40 x0 0 x0
def fX8_readsRow (x0 : Nat) : Mm → Option (Unit × Mm) :=
  bnd (gI x0 35) fun v10 =>
  if (v10 : Int32) = 3 then
    fX8_readsRow_L14 x0 1 x0
  else
    fX8_readsRow_L14 x0 0 x0
def fX8_readsAlone_L132 (s0 : Int32) (s1 : Nat) : Mm → Option (Unit × Mm) :=
  bnd (fX8_must s1 s0 3) fun _ =>
  rtn ()
def fX8_readsAlone_L114 (x0 : Nat) (x1 : Int32) (s0 : Int32) (s1 : Nat) : Mm → Option (Unit × Mm) :=
  bnd (fX8_must s1 s0 1) fun _ =>
  bnd (gI x0 9) fun v1 =>
  if (x1 : Int32) = v1 then
    fX8_readsAlone_L132 1 x0
  else
    fX8_readsAlone_L132 0 x0
def fX8_readsAlone_L100 (x0 : Nat) (x1 : Int32) : Mm → Option (Unit × Mm) :=
  bnd (gI x0 35) fun v2 =>
  if (v2 : Int32) = 4 then
    fX8_readsAlone_L114 x0 x1 1 x0
  else
    fX8_readsAlone_L114 x0 x1 0 x0
def fX8_readsAlone_L91 (k6 : Nat → Int32 → Int32 → Int32 → Mm → Option (Unit × Mm)) (x0 : Nat) (x1 : Int32) (x2 : Int32) : Mm → Option (Unit × Mm) :=
  bnd (fX8_goesOn x0) fun _ =>
  k6 x0 x1 x2 0
def fX8_readsAlone_L61 (k6 : Nat → Int32 → Int32 → Int32 → Mm → Option (Unit × Mm)) (x0 : Nat) (x1 : Int32) (x2 : Int32) (x4 : Int32) (s0 : Int32) (s1 : Nat) : Mm → Option (Unit × Mm) :=
  bnd (fX8_must s1 s0 4) fun _ =>
  bnd (gI x0 37) fun v3 =>
  if (v3 : Int32) = 0 then
    bnd (fX8_paints x0 x1 (x1 + x4) x2) fun _ =>
    bnd (rtn (x1 + x4)) fun v4 =>
    bnd (rtn (1 - x2)) fun v5 =>
    fX8_readsAlone_L91 k6 x0 v4 v5
  else
    fX8_readsAlone_L91 k6 x0 x1 x2
def fX8_readsAlone_L35 (k6 : Nat → Int32 → Int32 → Int32 → Mm → Option (Unit × Mm)) (x0 : Nat) (x1 : Int32) (x2 : Int32) (s0 : Int32) (s1 : Nat) : Mm → Option (Unit × Mm) :=
  bnd (gI x0 9) fun v6 =>
  bnd (fX8_looks s1 s0 v6) fun v7 =>
  bnd (gI x0 9) fun v8 =>
  if v8 < ((x1 + v7) : Int32) then
    fX8_readsAlone_L61 k6 x0 x1 x2 v7 0 x0
  else
    fX8_readsAlone_L61 k6 x0 x1 x2 v7 1 x0
def fX8_readsAlone_L25 (k6 : Nat → Int32 → Int32 → Int32 → Mm → Option (Unit × Mm)) (x0 : Nat) (x1 : Int32) (x2 : Int32) (x3 : Int32) : Mm → Option (Unit × Mm) :=
  if (x3 : Int32) = 0 then
    fX8_readsAlone_L35 k6 x0 x1 x2 1 x0
  else
    fX8_readsAlone_L35 k6 x0 x1 x2 0 x0
def fX8_readsAlone_L6 : Nat → Nat → Int32 → Int32 → Int32 → Mm → Option (Unit × Mm)
  | 0, _, _, _, _ => fail
  | n + 1, x0, x1, x2, x3 =>
    if (x3 : Int32) = 0 then
      bnd (gI x0 37) fun v9 =>
      if (v9 : Int32) = 0 then
        bnd (gI x0 35) fun v10 =>
        if (v10 : Int32) = 2 then
          fX8_readsAlone_L25 (fX8_readsAlone_L6 n) x0 x1 x2 x3
        else
          fX8_readsAlone_L100 x0 x1
      else
        fX8_readsAlone_L100 x0 x1
    else
      fX8_readsAlone_L25 (fX8_readsAlone_L6 n) x0 x1 x2 x3
def fX8_readsAlone (x0 : Nat) : Mm → Option (Unit × Mm) :=
  fX8_readsAlone_L6 fu x0 0 0 1
def fX8_readsOne_L146 (x0 : Nat) (x2 : Int32) (x5 : Int32) (s0 : Int32) (s1 : Int32) (s2 : Nat) : Mm → Option (Unit × Mm) :=
  bnd (fX8_readsMode s2 s1 s0 x5) fun v1 =>
  if (v1 : Int32) = 0 then
    bnd (pI x0 37 4) fun _ =>
    bnd (pI x0 38 x2) fun _ =>
    rtn ()
  else
    rtn ()
def fX8_readsOne_L123 (x0 : Nat) (x1 : Int32) (x2 : Int32) (x3 : Int32) (x4 : Int32) (s0 : Int32) : Mm → Option (Unit × Mm) :=
  bnd (gI x0 37) fun v2 =>
  if (v2 : Int32) = 0 then
    if (x3 : Int32) = 0 then
      fX8_readsOne_L146 x0 x2 s0 x4 x1 x0
    else
      fX8_readsOne_L146 x0 x2 s0 (-x4) x1 x0
  else
    rtn ()
def fX8_readsOne_L103 (x0 : Nat) (x1 : Int32) (x2 : Int32) (x3 : Int32) (s0 : Int32) : Mm → Option (Unit × Mm) :=
  if (x1 : Int32) = 2 then
    bnd (gI x0 9) fun v3 =>
    bnd (fX8_reads x0 0 v3) fun v4 =>
    fX8_readsOne_L123 x0 x1 x2 x3 s0 v4
  else
    fX8_readsOne_L123 x0 x1 x2 x3 s0 0
def fX8_readsOne_L72 (x0 : Nat) (x1 : Int32) (x2 : Int32) (x3 : Int32) : Mm → Option (Unit × Mm) :=
  if (x1 : Int32) = 0 then
    fX8_readsOne_L103 x0 x1 x2 x3 0
  else
    if (x1 : Int32) = 1 then
      bnd (fX8_reads x0 0 3) fun v7 =>
      fX8_readsOne_L103 x0 x1 x2 x3 v7
    else
      bnd (gI x0 9) fun v5 =>
      bnd (fX8_reads x0 0 v5) fun v6 =>
      fX8_readsOne_L103 x0 x1 x2 x3 v6
def fX8_readsOne_L63 (x0 : Nat) (x1 : Int32) (x2 : Int32) (s0 : Int32) : Mm → Option (Unit × Mm) :=
  if (s0 : Int32) = 0 then
    fX8_readsOne_L72 x0 x1 x2 s0
  else
    bnd (fX8_goesOn x0) fun _ =>
    fX8_readsOne_L72 x0 x1 x2 s0
def fX8_readsOne_L62 (x0 : Nat) (x1 : Int32) (x2 : Int32) : Mm → Option (Unit × Mm) :=
  fX8_readsOne_L63 x0 x1 x2 0
def fX8_readsOne_L25 (x0 : Nat) (x1 : Int32) (s0 : Int32) (s1 : Nat) : Mm → Option (Unit × Mm) :=
  bnd (fX8_must s1 s0 4) fun _ =>
  bnd (gI x0 34) fun v8 =>
  bnd (fX8_goesOn x0) fun _ =>
  bnd (gI x0 37) fun v9 =>
  if (v9 : Int32) = 0 then
    if (x1 : Int32) = 1 then
      bnd (gI x0 35) fun v10 =>
      if (v10 : Int32) = 5 then
        fX8_readsOne_L63 x0 x1 v8 1
      else
        fX8_readsOne_L62 x0 x1 v8
    else
      fX8_readsOne_L62 x0 x1 v8
  else
    fX8_readsOne_L62 x0 x1 v8
def fX8_readsOne (x0 : Nat) : Mm → Option (Unit × Mm) :=
  bnd (fX8_wordHere x0) fun v11 =>
  bnd (rtn (v11 - 6)) fun v12 =>
  bnd (gI x0 16) fun v13 =>
  bnd (gI x0 9) fun v14 =>
  if v14 ≤ (v13 : Int32) then
    fX8_readsOne_L25 x0 v12 0 x0
  else
    fX8_readsOne_L25 x0 v12 1 x0
def fX8_readsAbove_L63 (s0 : Int32) (s1 : Nat) : Mm → Option (Unit × Mm) :=
  bnd (fX8_must s1 s0 3) fun _ =>
  rtn ()
def fX8_readsAbove_L42 (x0 : Nat) (s0 : Int32) (s1 : Nat) : Mm → Option (Unit × Mm) :=
  bnd (fX8_must s1 s0 1) fun _ =>
  bnd (gI x0 16) fun v1 =>
  bnd (gI x0 9) fun v2 =>
  if (v1 : Int32) = v2 then
    fX8_readsAbove_L63 1 x0
  else
    fX8_readsAbove_L63 0 x0
def fX8_readsAbove_L28 (x0 : Nat) : Mm → Option (Unit × Mm) :=
  bnd (gI x0 35) fun v3 =>
  if (v3 : Int32) = 4 then
    fX8_readsAbove_L42 x0 1 x0
  else
    fX8_readsAbove_L42 x0 0 x0
def fX8_readsAbove_L0 : Nat → Nat → Mm → Option (Unit × Mm)
  | 0, _ => fail
  | n + 1, x0 =>
    bnd (gI x0 37) fun v4 =>
    if (v4 : Int32) = 0 then
      bnd (fX8_wordHere x0) fun v5 =>
      bnd (fX8_in v5 6 8) fun v6 =>
      if (v6 : Int32) = 0 then
        fX8_readsAbove_L28 x0
      else
        bnd (fX8_readsOne x0) fun _ =>
        fX8_readsAbove_L0 n x0
    else
      fX8_readsAbove_L28 x0
def fX8_readsAbove (x0 : Nat) : Mm → Option (Unit × Mm) :=
  fX8_readsAbove_L0 fu x0
def fX8_readsSetting_L51 (s0 : Int32) (s1 : Int32) (s2 : Nat) : Mm → Option (Unit × Mm) :=
  bnd (aI s2 s1 s0) fun _ =>
  rtn ()
def fX8_readsSetting_L17 (x0 : Nat) (x1 : Int32) (s0 : Int32) (s1 : Nat) : Mm → Option (Unit × Mm) :=
  bnd (fX8_highOf x1) fun v1 =>
  bnd (fX8_reads s1 s0 v1) fun v2 =>
  bnd (gA x0 2) fun v3 =>
  bnd (gI x0 37) fun v4 =>
  if (v4 : Int32) = 0 then
    fX8_readsSetting_L51 v2 (2 + x1) v3
  else
    bnd (gA x0 2) fun v5 =>
    bnd (lI v5 (2 + x1)) fun v6 =>
    fX8_readsSetting_L51 v6 (2 + x1) v3
def fX8_readsSetting (x0 : Nat) : Mm → Option (Unit × Mm) :=
  bnd (fX8_reads x0 0 5) fun v7 =>
  if (v7 : Int32) = 0 then
    fX8_readsSetting_L17 x0 v7 1 x0
  else
    fX8_readsSetting_L17 x0 v7 0 x0
def fX8_readsLoss_L43 (s0 : Int32) (s1 : Int32) (s2 : Nat) : Mm → Option (Unit × Mm) :=
  bnd (aI s2 s1 s0) fun _ =>
  rtn ()
def fX8_readsLoss (x0 : Nat) : Mm → Option (Unit × Mm) :=
  bnd (fX8_reads x0 0 19) fun v1 =>
  bnd (fX8_reads x0 0 5) fun v2 =>
  bnd (gA x0 2) fun v3 =>
  bnd (gI x0 37) fun v4 =>
  if (v4 : Int32) = 0 then
    fX8_readsLoss_L43 v2 (8 + v1) v3
  else
    bnd (gA x0 2) fun v5 =>
    bnd (lI v5 (8 + v1)) fun v6 =>
    fX8_readsLoss_L43 v6 (8 + v1) v3
def fX8_readsLine_L45 (x0 : Nat) (s0 : Int32) (s1 : Nat) : Mm → Option (Unit × Mm) :=
  bnd (fX8_must s1 s0 1) fun _ =>
  bnd (fX8_addsTold x0) fun _ =>
  rtn ()
def fX8_readsLine_L31 (x0 : Nat) : Mm → Option (Unit × Mm) :=
  bnd (gI x0 35) fun v1 =>
  if (v1 : Int32) = 4 then
    fX8_readsLine_L45 x0 1 x0
  else
    fX8_readsLine_L45 x0 0 x0
def fX8_readsLine (x0 : Nat) (x1 : Int32) : Mm → Option (Unit × Mm) :=
  bnd (fX8_laysTold x0) fun _ =>
  if (x1 : Int32) = 0 then
    bnd (fX8_readsRow x0) fun _ =>
    fX8_readsLine_L31 x0
  else
    if (x1 : Int32) = 1 then
      bnd (fX8_readsAlone x0) fun _ =>
      fX8_readsLine_L31 x0
    else
      bnd (fX8_readsAbove x0) fun _ =>
      fX8_readsLine_L31 x0
def fX8_readsStatement_L97 (x0 : Nat) (s0 : Int32) (s1 : Nat) : Mm → Option (Unit × Mm) :=
  bnd (fX8_must s1 s0 1) fun _ =>
  bnd (fX8_goesOn x0) fun _ =>
  rtn ()
def fX8_readsStatement_L83 (x0 : Nat) : Mm → Option (Unit × Mm) :=
  bnd (gI x0 35) fun v1 =>
  if (v1 : Int32) = 4 then
    fX8_readsStatement_L97 x0 1 x0
  else
    fX8_readsStatement_L97 x0 0 x0
def fX8_readsStatement_L38 (x0 : Nat) (x1 : Int32) (s0 : Int32) (s1 : Nat) : Mm → Option (Unit × Mm) :=
  bnd (fX8_must s1 s0 5) fun _ =>
  bnd (fX8_goesOn x0) fun _ =>
  bnd (gI x0 37) fun v2 =>
  if (v2 : Int32) ≤ 0 then
    if 2 < (x1 : Int32) then
      if (x1 : Int32) = 3 then
        bnd (fX8_readsSetting x0) fun _ =>
        fX8_readsStatement_L83 x0
      else
        bnd (fX8_readsLoss x0) fun _ =>
        fX8_readsStatement_L83 x0
    else
      bnd (fX8_readsLine x0 x1) fun _ =>
      fX8_readsStatement_L83 x0
  else
    rtn ()
def fX8_readsStatement_L33 (x0 : Nat) (x1 : Int32) (s0 : Nat) : Mm → Option (Unit × Mm) :=
  fX8_readsStatement_L38 x0 x1 1 s0
def fX8_readsStatement (x0 : Nat) : Mm → Option (Unit × Mm) :=
  bnd (fX8_wordHere x0) fun v3 =>
  bnd (fX8_in v3 0 4) fun v4 =>
  bnd (fX8_must x0 v4 1) fun _ =>
  if 2 < (v3 : Int32) then
    fX8_readsStatement_L33 x0 v3 x0
  else
    bnd (gA x0 2) fun v5 =>
    bnd (lI v5 1) fun v6 =>
    if 20 ≤ (v6 : Int32) then
      fX8_readsStatement_L38 x0 v3 0 x0
    else
      fX8_readsStatement_L33 x0 v3 x0
def fX8_load_L99 (x0 : Nat) : Mm → Option (Int32 × Mm) :=
  bnd (pI x0 32 0) fun _ =>
  bnd (gI x0 37) fun v1 =>
  if (v1 : Int32) ≤ 0 then
    bnd (gA x0 2) fun v2 =>
    bnd (gA x0 1) fun v3 =>
    bnd (fX8_copies v2 0 v3 0) fun _ =>
    bnd (pI x0 4 0) fun _ =>
    bnd (gA x0 1) fun v4 =>
    bnd (lI v4 1) fun v5 =>
    rtn v5
  else
    rtn (-1)
def fX8_load_L78 : Nat → Nat → Mm → Option (Int32 × Mm)
  | 0, _ => fail
  | n + 1, x0 =>
    bnd (gI x0 37) fun v6 =>
    if (v6 : Int32) = 0 then
      bnd (gI x0 35) fun v7 =>
      if (v7 : Int32) = 0 then
        fX8_load_L99 x0
      else
        bnd (fX8_readsStatement x0) fun _ =>
        fX8_load_L78 n x0
    else
      fX8_load_L99 x0
def fX8_load_L65 (x0 : Nat) (x1 : Int32) (s0 : Int32) (s1 : Nat) : Mm → Option (Int32 × Mm) :=
  bnd (fX8_must s1 s0 1) fun _ =>
  bnd (fX8_goesOn x0) fun _ =>
  bnd (fX8_begins x0 x1) fun _ =>
  fX8_load_L78 fu x0
def fX8_load (x0 : Nat) : Mm → Option (Int32 × Mm) :=
  bnd (pI x0 0 0) fun _ =>
  bnd (pI x0 33 0) fun _ =>
  bnd (pI x0 37 0) fun _ =>
  bnd (pI x0 38 (-1)) fun _ =>
  bnd (fX8_begins x0 16) fun _ =>
  bnd (fX8_advances x0) fun _ =>
  bnd (fX8_wordHere x0) fun v8 =>
  if (v8 : Int32) = 5 then
    bnd (fX8_goesOn x0) fun _ =>
    bnd (fX8_reads x0 8 40) fun v9 =>
    bnd (gI x0 35) fun v10 =>
    if (v10 : Int32) = 4 then
      fX8_load_L65 x0 v9 1 x0
    else
      fX8_load_L65 x0 v9 0 x0
  else
    fX8_load_L78 fu x0
def fX8_errorCode (x0 : Nat) : Mm → Option (Int32 × Mm) :=
  bnd (pI x0 0 0) fun _ =>
  bnd (gI x0 37) fun v1 =>
  rtn v1
def fX8_errorPosition (x0 : Nat) : Mm → Option (Int32 × Mm) :=
  bnd (pI x0 0 0) fun _ =>
  bnd (gI x0 38) fun v1 =>
  rtn v1
def fX8_prints (x0 : Nat) (x1 : Int32) : Mm → Option (Unit × Mm) :=
  bnd (gA x0 40) fun v1 =>
  bnd (gI x0 41) fun v2 =>
  bnd (aB v1 v2 (i2b x1)) fun _ =>
  bnd (gI x0 41) fun v3 =>
  bnd (pI x0 41 (v3 + 1)) fun _ =>
  rtn ()
def fX8_printsWord_L33 : Nat → Nat → Int32 → Mm → Option (Unit × Mm)
  | 0, _, _ => fail
  | n + 1, x0, x2 =>
    bnd (gA x0 39) fun v1 =>
    bnd (lI v1 x2) fun v2 =>
    if (v2 : Int32) = 32 then
      rtn ()
    else
      bnd (gA x0 39) fun v3 =>
      bnd (lI v3 x2) fun v4 =>
      bnd (fX8_prints x0 v4) fun _ =>
      fX8_printsWord_L33 n x0 (x2 + 1)
def fX8_printsWord_L25 (k4 : Nat → Int32 → Int32 → Mm → Option (Unit × Mm)) (x0 : Nat) (x2 : Int32) (s0 : Int32) (s1 : Int32) : Mm → Option (Unit × Mm) :=
  bnd (rtn (s1 - s0)) fun v5 =>
  k4 x0 (x2 + 1) v5
def fX8_printsWord_L4 : Nat → Nat → Int32 → Int32 → Mm → Option (Unit × Mm)
  | 0, _, _, _ => fail
  | n + 1, x0, x2, x3 =>
    if (x3 : Int32) ≤ 0 then
      fX8_printsWord_L33 fu x0 x2
    else
      bnd (gA x0 39) fun v6 =>
      bnd (lI v6 x2) fun v7 =>
      if (v7 : Int32) = 32 then
        fX8_printsWord_L25 (fX8_printsWord_L4 n) x0 x2 1 x3
      else
        fX8_printsWord_L25 (fX8_printsWord_L4 n) x0 x2 0 x3
def fX8_printsWord (x0 : Nat) (x1 : Int32) : Mm → Option (Unit × Mm) :=
  fX8_printsWord_L4 fu x0 0 x1
def fX8_printsNumber_L38 (x0 : Nat) (x2 : Int32) : Mm → Option (Unit × Mm) :=
  bnd (fX8_prints x0 (48 + (x2 - x2 / 10 * 10))) fun _ =>
  rtn ()
def fX8_printsNumber_L20 (x0 : Nat) (s0 : Int32) : Mm → Option (Unit × Mm) :=
  if (s0 : Int32) < 10 then
    fX8_printsNumber_L38 x0 s0
  else
    bnd (fX8_prints x0 (48 + (s0 / 10))) fun _ =>
    fX8_printsNumber_L38 x0 s0
def fX8_printsNumber_L10 (x0 : Nat) (x1 : Int32) : Mm → Option (Unit × Mm) :=
  if 0 ≤ (x1 : Int32) then
    fX8_printsNumber_L20 x0 x1
  else
    fX8_printsNumber_L20 x0 (-x1)
def fX8_printsNumber (x0 : Nat) (x1 : Int32) : Mm → Option (Unit × Mm) :=
  if 0 ≤ (x1 : Int32) then
    fX8_printsNumber_L10 x0 x1
  else
    bnd (fX8_prints x0 45) fun _ =>
    fX8_printsNumber_L10 x0 x1
def fX8_printsMode_L60 (x0 : Nat) (x1 : Int32) : Mm → Option (Unit × Mm) :=
  bnd (gA x0 10) fun v1 =>
  bnd (lI v1 x1) fun v2 =>
  if (v2 : Int32) = 2 then
    bnd (fX8_prints x0 32) fun _ =>
    bnd (gA x0 12) fun v3 =>
    bnd (lI v3 x1) fun v4 =>
    bnd (fX8_printsNumber x0 v4) fun _ =>
    rtn ()
  else
    rtn ()
def fX8_printsMode_L38 (x0 : Nat) (x1 : Int32) (s0 : Int32) (s1 : Nat) : Mm → Option (Unit × Mm) :=
  bnd (fX8_prints s1 s0) fun _ =>
  bnd (gA x0 10) fun v5 =>
  bnd (lI v5 x1) fun v6 =>
  if (v6 : Int32) = 0 then
    fX8_printsMode_L60 x0 x1
  else
    bnd (gA x0 11) fun v7 =>
    bnd (lI v7 x1) fun v8 =>
    bnd (fX8_printsNumber x0 v8) fun _ =>
    fX8_printsMode_L60 x0 x1
def fX8_printsMode (x0 : Nat) (x1 : Int32) : Mm → Option (Unit × Mm) :=
  bnd (fX8_prints x0 32) fun _ =>
  bnd (gA x0 10) fun v9 =>
  bnd (lI v9 x1) fun v10 =>
  if (v10 : Int32) = 0 then
    fX8_printsMode_L38 x0 x1 112 x0
  else
    bnd (gA x0 10) fun v11 =>
    bnd (lI v11 x1) fun v12 =>
    if (v12 : Int32) = 1 then
      fX8_printsMode_L38 x0 x1 118 x0
    else
      fX8_printsMode_L38 x0 x1 104 x0
def fX8_write_L116 (x0 : Nat) : Mm → Option (Int32 × Mm) :=
  bnd (gI x0 41) fun v1 =>
  rtn v1
def fX8_write_L93 : Nat → Nat → Int32 → Int32 → Mm → Option (Int32 × Mm)
  | 0, _, _, _ => fail
  | n + 1, x0, x2, x3 =>
    bnd (gI x0 14) fun v2 =>
    if v2 ≤ (x3 : Int32) then
      fX8_write_L116 x0
    else
      if (x2 : Int32) = 0 then
        bnd (fX8_printsMode x0 x3) fun _ =>
        fX8_write_L93 n x0 x2 (x3 + 1)
      else
        fX8_write_L116 x0
def fX8_write_L91 (x0 : Nat) (x2 : Int32) : Mm → Option (Int32 × Mm) :=
  fX8_write_L93 fu x0 x2 0
def fX8_write_L57 : Nat → Nat → Int32 → Int32 → Mm → Option (Int32 × Mm)
  | 0, _, _, _ => fail
  | n + 1, x0, x2, x3 =>
    bnd (gI x0 19) fun v3 =>
    if v3 ≤ (x3 : Int32) then
      fX8_write_L91 x0 x2
    else
      if (x2 : Int32) = 0 then
        fX8_write_L91 x0 x2
      else
        bnd (fX8_prints x0 32) fun _ =>
        bnd (gA x0 18) fun v4 =>
        bnd (lI v4 x3) fun v5 =>
        bnd (fX8_printsNumber x0 v5) fun _ =>
        fX8_write_L57 n x0 x2 (x3 + 1)
def fX8_write_L52 (x0 : Nat) (x2 : Int32) (s0 : Int32) (s1 : Nat) : Mm → Option (Int32 × Mm) :=
  bnd (fX8_printsWord s1 s0) fun _ =>
  fX8_write_L57 fu x0 x2 0
def fX8_write_L14 (x0 : Nat) (x1 : Int32) (s0 : Int32) (s1 : Nat) : Mm → Option (Int32 × Mm) :=
  bnd (pI s1 0 s0) fun _ =>
  bnd (gI x0 0) fun v6 =>
  if (v6 : Int32) ≤ 0 then
    bnd (fX8_isMark x0 x1) fun v7 =>
    bnd (fX8_codesLine x0 x1) fun _ =>
    bnd (pI x0 41 0) fun _ =>
    if (v7 : Int32) = 0 then
      fX8_write_L52 x0 v7 2 x0
    else
      fX8_write_L52 x0 v7 1 x0
  else
    rtn 0
def fX8_write (x0 : Nat) (x1 : Int32) : Mm → Option (Int32 × Mm) :=
  bnd (fX8_isLine x0 x1) fun v8 =>
  if (v8 : Int32) = 0 then
    fX8_write_L14 x0 x1 1 x0
  else
    fX8_write_L14 x0 x1 0 x0
def fX8_show_L101 (x0 : Nat) : Mm → Option (Int32 × Mm) :=
  bnd (gI x0 41) fun v1 =>
  rtn v1
def fX8_show_L70 (k37 : Nat → Int32 → Int32 → Mm → Option (Int32 × Mm)) (x0 : Nat) (x1 : Int32) (x2 : Int32) (s0 : Int32) (s1 : Nat) : Mm → Option (Int32 × Mm) :=
  bnd (fX8_prints s1 s0) fun _ =>
  k37 x0 x1 (x2 + 1)
def fX8_show_L37 : Nat → Nat → Int32 → Int32 → Mm → Option (Int32 × Mm)
  | 0, _, _, _ => fail
  | n + 1, x0, x1, x2 =>
    bnd (gA x0 1) fun v2 =>
    bnd (lI v2 0) fun v3 =>
    if v3 ≤ (x2 : Int32) then
      bnd (gA x0 21) fun v4 =>
      bnd (lI v4 x1) fun v5 =>
      if (v5 : Int32) ≤ 0 then
        fX8_show_L101 x0
      else
        bnd (gA x0 21) fun v6 =>
        bnd (lI v6 x1) fun v7 =>
        bnd (fX8_prints x0 (48 + v7)) fun _ =>
        fX8_show_L101 x0
    else
      bnd (gA x0 20) fun v8 =>
      bnd (lI v8 ((40 * x1) + x2)) fun v9 =>
      if (v9 : Int32) = 1 then
        fX8_show_L70 (fX8_show_L37 n) x0 x1 x2 35 x0
      else
        fX8_show_L70 (fX8_show_L37 n) x0 x1 x2 46 x0
def fX8_show_L14 (x0 : Nat) (x1 : Int32) (s0 : Int32) (s1 : Nat) : Mm → Option (Int32 × Mm) :=
  bnd (pI s1 0 s0) fun _ =>
  bnd (gI x0 0) fun v10 =>
  if (v10 : Int32) ≤ 0 then
    bnd (fX8_sendsPage x0) fun _ =>
    bnd (pI x0 41 0) fun _ =>
    fX8_show_L37 fu x0 x1 0
  else
    rtn 0
def fX8_show (x0 : Nat) (x1 : Int32) : Mm → Option (Int32 × Mm) :=
  bnd (fX8_isLine x0 x1) fun v11 =>
  if (v11 : Int32) = 0 then
    fX8_show_L14 x0 x1 1 x0
  else
    fX8_show_L14 x0 x1 0 x0
def fX8_output (x0 : Nat) (x1 : Int32) : Mm → Option (Int32 × Mm) :=
  bnd (pI x0 0 0) fun _ =>
  bnd (gI x0 41) fun v1 =>
  bnd (fX8_in x1 0 (v1 - 1)) fun v2 =>
  if (v2 : Int32) = 0 then
    rtn (-1)
  else
    bnd (gA x0 40) fun v3 =>
    bnd (lI v3 x1) fun v4 =>
    rtn v4
def fX8_undo (x0 : Nat) : Mm → Option (Int32 × Mm) :=
  bnd (pI x0 0 0) fun _ =>
  bnd (gI x0 4) fun v1 =>
  if (v1 : Int32) = 0 then
    rtn (-1)
  else
    bnd (gI x0 4) fun v2 =>
    bnd (pI x0 4 (v2 - 1)) fun _ =>
    bnd (gA x0 3) fun v3 =>
    bnd (gI x0 4) fun v4 =>
    bnd (gA x0 1) fun v5 =>
    bnd (fX8_copies v3 (828 * v4) v5 0) fun _ =>
    bnd (gI x0 4) fun v6 =>
    rtn v6
def fX8_save_L15 (x0 : Nat) (x1 : Int32) (s0 : Int32) (s1 : Nat) : Mm → Option (Unit × Mm) :=
  bnd (pI s1 0 s0) fun _ =>
  bnd (gI x0 0) fun v1 =>
  if (v1 : Int32) ≤ 0 then
    bnd (gA x0 1) fun v2 =>
    bnd (gA x0 5) fun v3 =>
    bnd (fX8_copies v2 0 v3 (828 * x1)) fun _ =>
    bnd (gA x0 6) fun v4 =>
    bnd (aZ v4 x1 1) fun _ =>
    rtn ()
  else
    rtn ()
def fX8_save (x0 : Nat) (x1 : Int32) : Mm → Option (Unit × Mm) :=
  bnd (fX8_in x1 0 1) fun v5 =>
  if (v5 : Int32) = 0 then
    fX8_save_L15 x0 x1 1 x0
  else
    fX8_save_L15 x0 x1 0 x0
def fX8_restore_L28 (x0 : Nat) (x1 : Int32) (s0 : Int32) (s1 : Nat) : Mm → Option (Unit × Mm) :=
  bnd (pI s1 0 s0) fun _ =>
  bnd (gI x0 0) fun v1 =>
  if (v1 : Int32) ≤ 0 then
    bnd (gA x0 5) fun v2 =>
    bnd (gA x0 1) fun v3 =>
    bnd (fX8_copies v2 (828 * x1) v3 0) fun _ =>
    bnd (pI x0 4 0) fun _ =>
    rtn ()
  else
    rtn ()
def fX8_restore (x0 : Nat) (x1 : Int32) : Mm → Option (Unit × Mm) :=
  bnd (fX8_in x1 0 1) fun v4 =>
  if (v4 : Int32) = 0 then
    fX8_restore_L28 x0 x1 1 x0
  else
    bnd (gA x0 6) fun v5 =>
    bnd (lI v5 x1) fun v6 =>
    if (v6 : Int32) = 0 then
      fX8_restore_L28 x0 x1 2 x0
    else
      fX8_restore_L28 x0 x1 0 x0
