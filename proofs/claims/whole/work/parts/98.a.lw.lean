/-! THE LAW: its programs -/
def fL_c0 (L : Nat) (xs : Nat → Int32) (k : Mm → Option (Int32 × Mm)) (x1 x2 x3 : Nat) (x4 : Int32) : Mm → Option (Int32 × Mm) :=
  grd (vpB (x4 + 1) L) <|
  bnd (fL_appendText x1 (xs ((x4 + 1)).toNatClampNeg) x3) fun v1 =>
  grd (vpB (x4 + 1) L) <|
  bnd (fX8_appendText x2 (xs ((x4 + 1)).toNatClampNeg)) fun v2 =>
  bnd (fX8_thrown x2) fun v3 =>
  if (v3 : Int32) = v1 then
    if (v1 : Int32) = 0 then
      bnd (lJ x3 0) fun v4 =>
      if ((lg_cmp v4 ((v2).toInt64)) : Int32) = 0 then
        k
      else
        grd ((0 : Int32) == 0 || (0 : Int32) == 1) (rtn 0)
    else
      k
  else
    grd ((0 : Int32) == 0 || (0 : Int32) == 1) (rtn 0)
def fL_c1 (L : Nat) (xs : Nat → Int32) (k : Mm → Option (Int32 × Mm)) (x1 x2 x3 : Nat) (x4 : Int32) : Mm → Option (Int32 × Mm) :=
  grd (vpB (x4 + 1) L) <|
  bnd (fL_truncateText x1 (xs ((x4 + 1)).toNatClampNeg) x3) fun v1 =>
  grd (vpB (x4 + 1) L) <|
  bnd (fX8_truncateText x2 (xs ((x4 + 1)).toNatClampNeg)) fun v2 =>
  bnd (fX8_thrown x2) fun v3 =>
  if (v3 : Int32) = v1 then
    if (v1 : Int32) = 0 then
      bnd (lJ x3 0) fun v4 =>
      if ((lg_cmp v4 ((v2).toInt64)) : Int32) = 0 then
        k
      else
        grd ((0 : Int32) == 0 || (0 : Int32) == 1) (rtn 0)
    else
      k
  else
    grd ((0 : Int32) == 0 || (0 : Int32) == 1) (rtn 0)
def fL_c2 (L : Nat) (xs : Nat → Int32) (k : Mm → Option (Int32 × Mm)) (x1 x2 x3 : Nat) (x4 : Int32) : Mm → Option (Int32 × Mm) :=
  bnd (fX7_load x1) fun v1 =>
  bnd (fX8_load x2) fun v2 =>
  if (v1 : Int32) = v2 then
    k
  else
    grd ((0 : Int32) == 0 || (0 : Int32) == 1) (rtn 0)
def fL_c3 (L : Nat) (xs : Nat → Int32) (k : Mm → Option (Int32 × Mm)) (x1 x2 x3 : Nat) (x4 : Int32) : Mm → Option (Int32 × Mm) :=
  bnd (fX7_errorCode x1) fun v1 =>
  bnd (fX8_errorCode x2) fun v2 =>
  if (v1 : Int32) = v2 then
    k
  else
    grd ((0 : Int32) == 0 || (0 : Int32) == 1) (rtn 0)
def fL_c4 (L : Nat) (xs : Nat → Int32) (k : Mm → Option (Int32 × Mm)) (x1 x2 x3 : Nat) (x4 : Int32) : Mm → Option (Int32 × Mm) :=
  bnd (fX7_errorPosition x1) fun v1 =>
  bnd (fX8_errorPosition x2) fun v2 =>
  if (v1 : Int32) = v2 then
    k
  else
    grd ((0 : Int32) == 0 || (0 : Int32) == 1) (rtn 0)
def fL_c5 (L : Nat) (xs : Nat → Int32) (k : Mm → Option (Int32 × Mm)) (x1 x2 x3 : Nat) (x4 : Int32) : Mm → Option (Int32 × Mm) :=
  grd (vpB (x4 + 1) L) <|
  bnd (fL_count x1 (xs ((x4 + 1)).toNatClampNeg) x3) fun v1 =>
  grd (vpB (x4 + 1) L) <|
  bnd (fX8_count x2 (xs ((x4 + 1)).toNatClampNeg)) fun v2 =>
  bnd (fX8_thrown x2) fun v3 =>
  if (v3 : Int32) = v1 then
    if (v1 : Int32) = 0 then
      bnd (lJ x3 0) fun v4 =>
      if ((lg_cmp v4 ((v2).toInt64)) : Int32) = 0 then
        k
      else
        grd ((0 : Int32) == 0 || (0 : Int32) == 1) (rtn 0)
    else
      k
  else
    grd ((0 : Int32) == 0 || (0 : Int32) == 1) (rtn 0)
def fL_c6 (L : Nat) (xs : Nat → Int32) (k : Mm → Option (Int32 × Mm)) (x1 x2 x3 : Nat) (x4 : Int32) : Mm → Option (Int32 × Mm) :=
  grd (vpB (x4 + 1) L) <|
  grd (vpB (x4 + 2) L) <|
  bnd (fL_dot x1 (xs ((x4 + 1)).toNatClampNeg) (xs ((x4 + 2)).toNatClampNeg) x3) fun v1 =>
  grd (vpB (x4 + 1) L) <|
  grd (vpB (x4 + 2) L) <|
  bnd (fX8_dot x2 (xs ((x4 + 1)).toNatClampNeg) (xs ((x4 + 2)).toNatClampNeg)) fun v2 =>
  bnd (fX8_thrown x2) fun v3 =>
  if (v3 : Int32) = v1 then
    if (v1 : Int32) = 0 then
      bnd (lJ x3 0) fun v4 =>
      if ((lg_cmp v4 ((v2).toInt64)) : Int32) = 0 then
        k
      else
        grd ((0 : Int32) == 0 || (0 : Int32) == 1) (rtn 0)
    else
      k
  else
    grd ((0 : Int32) == 0 || (0 : Int32) == 1) (rtn 0)
def fL_c7 (L : Nat) (xs : Nat → Int32) (k : Mm → Option (Int32 × Mm)) (x1 x2 x3 : Nat) (x4 : Int32) : Mm → Option (Int32 × Mm) :=
  grd (vpB (x4 + 1) L) <|
  grd (vpB (x4 + 2) L) <|
  bnd (fL_line x1 (xs ((x4 + 1)).toNatClampNeg) (xs ((x4 + 2)).toNatClampNeg) x3) fun v1 =>
  grd (vpB (x4 + 1) L) <|
  grd (vpB (x4 + 2) L) <|
  bnd (fX8_line x2 (xs ((x4 + 1)).toNatClampNeg) (xs ((x4 + 2)).toNatClampNeg)) fun v2 =>
  bnd (fX8_thrown x2) fun v3 =>
  if (v3 : Int32) = v1 then
    if (v1 : Int32) = 0 then
      bnd (lJ x3 0) fun v4 =>
      if ((lg_cmp v4 ((v2).toInt64)) : Int32) = 0 then
        k
      else
        grd ((0 : Int32) == 0 || (0 : Int32) == 1) (rtn 0)
    else
      k
  else
    grd ((0 : Int32) == 0 || (0 : Int32) == 1) (rtn 0)
def fL_c8 (L : Nat) (xs : Nat → Int32) (k : Mm → Option (Int32 × Mm)) (x1 x2 x3 : Nat) (x4 : Int32) : Mm → Option (Int32 × Mm) :=
  grd (vpB (x4 + 1) L) <|
  grd (vpB (x4 + 2) L) <|
  bnd (fL_run x1 (xs ((x4 + 1)).toNatClampNeg) (xs ((x4 + 2)).toNatClampNeg) x3) fun v1 =>
  grd (vpB (x4 + 1) L) <|
  grd (vpB (x4 + 2) L) <|
  bnd (fX8_run x2 (xs ((x4 + 1)).toNatClampNeg) (xs ((x4 + 2)).toNatClampNeg)) fun v2 =>
  bnd (fX8_thrown x2) fun v3 =>
  if (v3 : Int32) = v1 then
    if (v1 : Int32) = 0 then
      bnd (lJ x3 0) fun v4 =>
      if ((lg_cmp v4 ((v2).toInt64)) : Int32) = 0 then
        k
      else
        grd ((0 : Int32) == 0 || (0 : Int32) == 1) (rtn 0)
    else
      k
  else
    grd ((0 : Int32) == 0 || (0 : Int32) == 1) (rtn 0)
def fL_c9 (L : Nat) (xs : Nat → Int32) (k : Mm → Option (Int32 × Mm)) (x1 x2 x3 : Nat) (x4 : Int32) : Mm → Option (Int32 × Mm) :=
  grd (vpB (x4 + 1) L) <|
  grd (vpB (x4 + 2) L) <|
  grd (vpB (x4 + 3) L) <|
  bnd (fL_mode x1 (xs ((x4 + 1)).toNatClampNeg) (xs ((x4 + 2)).toNatClampNeg) (xs ((x4 + 3)).toNatClampNeg) x3) fun v1 =>
  grd (vpB (x4 + 1) L) <|
  grd (vpB (x4 + 2) L) <|
  grd (vpB (x4 + 3) L) <|
  bnd (fX8_mode x2 (xs ((x4 + 1)).toNatClampNeg) (xs ((x4 + 2)).toNatClampNeg) (xs ((x4 + 3)).toNatClampNeg)) fun v2 =>
  bnd (fX8_thrown x2) fun v3 =>
  if (v3 : Int32) = v1 then
    if (v1 : Int32) = 0 then
      bnd (lJ x3 0) fun v4 =>
      if ((lg_cmp v4 ((v2).toInt64)) : Int32) = 0 then
        k
      else
        grd ((0 : Int32) == 0 || (0 : Int32) == 1) (rtn 0)
    else
      k
  else
    grd ((0 : Int32) == 0 || (0 : Int32) == 1) (rtn 0)
def fL_c10 (L : Nat) (xs : Nat → Int32) (k : Mm → Option (Int32 × Mm)) (x1 x2 x3 : Nat) (x4 : Int32) : Mm → Option (Int32 × Mm) :=
  grd (vpB (x4 + 1) L) <|
  grd (vpB (x4 + 2) L) <|
  bnd (fL_change x1 (xs ((x4 + 1)).toNatClampNeg) (xs ((x4 + 2)).toNatClampNeg) x3) fun v1 =>
  grd (vpB (x4 + 1) L) <|
  grd (vpB (x4 + 2) L) <|
  bnd (fX8_change x2 (xs ((x4 + 1)).toNatClampNeg) (xs ((x4 + 2)).toNatClampNeg)) fun v2 =>
  bnd (fX8_thrown x2) fun v3 =>
  if (v3 : Int32) = v1 then
    if (v1 : Int32) = 0 then
      bnd (lJ x3 0) fun v4 =>
      if ((lg_cmp v4 ((v2).toInt64)) : Int32) = 0 then
        k
      else
        grd ((0 : Int32) == 0 || (0 : Int32) == 1) (rtn 0)
    else
      k
  else
    grd ((0 : Int32) == 0 || (0 : Int32) == 1) (rtn 0)
def fL_c11 (L : Nat) (xs : Nat → Int32) (k : Mm → Option (Int32 × Mm)) (x1 x2 x3 : Nat) (x4 : Int32) : Mm → Option (Int32 × Mm) :=
  grd (vpB (x4 + 1) L) <|
  bnd (fL_longest x1 (xs ((x4 + 1)).toNatClampNeg) x3) fun v1 =>
  grd (vpB (x4 + 1) L) <|
  bnd (fX8_longest x2 (xs ((x4 + 1)).toNatClampNeg)) fun v2 =>
  bnd (fX8_thrown x2) fun v3 =>
  if (v3 : Int32) = v1 then
    if (v1 : Int32) = 0 then
      bnd (lJ x3 0) fun v4 =>
      if ((lg_cmp v4 ((v2).toInt64)) : Int32) = 0 then
        k
      else
        grd ((0 : Int32) == 0 || (0 : Int32) == 1) (rtn 0)
    else
      k
  else
    grd ((0 : Int32) == 0 || (0 : Int32) == 1) (rtn 0)
def fL_c12 (L : Nat) (xs : Nat → Int32) (k : Mm → Option (Int32 × Mm)) (x1 x2 x3 : Nat) (x4 : Int32) : Mm → Option (Int32 × Mm) :=
  grd (vpB (x4 + 1) L) <|
  grd (vpB (x4 + 2) L) <|
  bnd (fL_runsOf x1 (xs ((x4 + 1)).toNatClampNeg) (xs ((x4 + 2)).toNatClampNeg) x3) fun v1 =>
  grd (vpB (x4 + 1) L) <|
  grd (vpB (x4 + 2) L) <|
  bnd (fX8_runsOf x2 (xs ((x4 + 1)).toNatClampNeg) (xs ((x4 + 2)).toNatClampNeg)) fun v2 =>
  bnd (fX8_thrown x2) fun v3 =>
  if (v3 : Int32) = v1 then
    if (v1 : Int32) = 0 then
      bnd (lJ x3 0) fun v4 =>
      if ((lg_cmp v4 ((v2).toInt64)) : Int32) = 0 then
        k
      else
        grd ((0 : Int32) == 0 || (0 : Int32) == 1) (rtn 0)
    else
      k
  else
    grd ((0 : Int32) == 0 || (0 : Int32) == 1) (rtn 0)
def fL_c13 (L : Nat) (xs : Nat → Int32) (k : Mm → Option (Int32 × Mm)) (x1 x2 x3 : Nat) (x4 : Int32) : Mm → Option (Int32 × Mm) :=
  grd (vpB (x4 + 1) L) <|
  grd (vpB (x4 + 2) L) <|
  bnd (fL_readBelow x1 (xs ((x4 + 1)).toNatClampNeg) (xs ((x4 + 2)).toNatClampNeg) x3) fun v1 =>
  grd (vpB (x4 + 1) L) <|
  grd (vpB (x4 + 2) L) <|
  bnd (fX8_readBelow x2 (xs ((x4 + 1)).toNatClampNeg) (xs ((x4 + 2)).toNatClampNeg)) fun v2 =>
  bnd (fX8_thrown x2) fun v3 =>
  if (v3 : Int32) = v1 then
    if (v1 : Int32) = 0 then
      bnd (lJ x3 0) fun v4 =>
      if ((lg_cmp v4 ((v2).toInt64)) : Int32) = 0 then
        k
      else
        grd ((0 : Int32) == 0 || (0 : Int32) == 1) (rtn 0)
    else
      k
  else
    grd ((0 : Int32) == 0 || (0 : Int32) == 1) (rtn 0)
def fL_c14 (L : Nat) (xs : Nat → Int32) (k : Mm → Option (Int32 × Mm)) (x1 x2 x3 : Nat) (x4 : Int32) : Mm → Option (Int32 × Mm) :=
  grd (vpB (x4 + 1) L) <|
  grd (vpB (x4 + 2) L) <|
  bnd (fL_set x1 (xs ((x4 + 1)).toNatClampNeg) (xs ((x4 + 2)).toNatClampNeg) x3) fun v1 =>
  grd (vpB (x4 + 1) L) <|
  grd (vpB (x4 + 2) L) <|
  bnd (fX8_set x2 (xs ((x4 + 1)).toNatClampNeg) (xs ((x4 + 2)).toNatClampNeg)) fun v2 =>
  bnd (fX8_thrown x2) fun v3 =>
  if (v3 : Int32) = v1 then
    if (v1 : Int32) = 0 then
      bnd (lJ x3 0) fun v4 =>
      if ((lg_cmp v4 ((v2).toInt64)) : Int32) = 0 then
        k
      else
        grd ((0 : Int32) == 0 || (0 : Int32) == 1) (rtn 0)
    else
      k
  else
    grd ((0 : Int32) == 0 || (0 : Int32) == 1) (rtn 0)
def fL_c15 (L : Nat) (xs : Nat → Int32) (k : Mm → Option (Int32 × Mm)) (x1 x2 x3 : Nat) (x4 : Int32) : Mm → Option (Int32 × Mm) :=
  grd (vpB (x4 + 1) L) <|
  grd (vpB (x4 + 2) L) <|
  bnd (fL_lose x1 (xs ((x4 + 1)).toNatClampNeg) (xs ((x4 + 2)).toNatClampNeg) x3) fun v1 =>
  grd (vpB (x4 + 1) L) <|
  grd (vpB (x4 + 2) L) <|
  bnd (fX8_lose x2 (xs ((x4 + 1)).toNatClampNeg) (xs ((x4 + 2)).toNatClampNeg)) fun v2 =>
  bnd (fX8_thrown x2) fun v3 =>
  if (v3 : Int32) = v1 then
    if (v1 : Int32) = 0 then
      bnd (lJ x3 0) fun v4 =>
      if ((lg_cmp v4 ((v2).toInt64)) : Int32) = 0 then
        k
      else
        grd ((0 : Int32) == 0 || (0 : Int32) == 1) (rtn 0)
    else
      k
  else
    grd ((0 : Int32) == 0 || (0 : Int32) == 1) (rtn 0)
def fL_c16 (L : Nat) (xs : Nat → Int32) (k : Mm → Option (Int32 × Mm)) (x1 x2 x3 : Nat) (x4 : Int32) : Mm → Option (Int32 × Mm) :=
  grd (vpB (x4 + 1) L) <|
  grd (vpB (x4 + 2) L) <|
  bnd (fL_addLine x1 (xs ((x4 + 1)).toNatClampNeg) (xs ((x4 + 2)).toNatClampNeg) x3) fun v1 =>
  grd (vpB (x4 + 1) L) <|
  grd (vpB (x4 + 2) L) <|
  bnd (fX8_addLine x2 (xs ((x4 + 1)).toNatClampNeg) (xs ((x4 + 2)).toNatClampNeg)) fun v2 =>
  bnd (fX8_thrown x2) fun v3 =>
  if (v3 : Int32) = v1 then
    if (v1 : Int32) = 0 then
      bnd (lJ x3 0) fun v4 =>
      if ((lg_cmp v4 ((v2).toInt64)) : Int32) = 0 then
        k
      else
        grd ((0 : Int32) == 0 || (0 : Int32) == 1) (rtn 0)
    else
      k
  else
    grd ((0 : Int32) == 0 || (0 : Int32) == 1) (rtn 0)
def fL_c17 (L : Nat) (xs : Nat → Int32) (k : Mm → Option (Int32 × Mm)) (x1 x2 x3 : Nat) (x4 : Int32) : Mm → Option (Int32 × Mm) :=
  grd (vpB (x4 + 1) L) <|
  grd (vpB (x4 + 2) L) <|
  grd (vpB (x4 + 3) L) <|
  grd (vpB (x4 + 4) L) <|
  bnd (fL_paint x1 (xs ((x4 + 1)).toNatClampNeg) (xs ((x4 + 2)).toNatClampNeg) (xs ((x4 + 3)).toNatClampNeg) (xs ((x4 + 4)).toNatClampNeg) x3) fun v1 =>
  grd (vpB (x4 + 1) L) <|
  grd (vpB (x4 + 2) L) <|
  grd (vpB (x4 + 3) L) <|
  grd (vpB (x4 + 4) L) <|
  bnd (fX8_paint x2 (xs ((x4 + 1)).toNatClampNeg) (xs ((x4 + 2)).toNatClampNeg) (xs ((x4 + 3)).toNatClampNeg) (xs ((x4 + 4)).toNatClampNeg)) fun v2 =>
  bnd (fX8_thrown x2) fun v3 =>
  if (v3 : Int32) = v1 then
    if (v1 : Int32) = 0 then
      bnd (lJ x3 0) fun v4 =>
      if ((lg_cmp v4 ((v2).toInt64)) : Int32) = 0 then
        k
      else
        grd ((0 : Int32) == 0 || (0 : Int32) == 1) (rtn 0)
    else
      k
  else
    grd ((0 : Int32) == 0 || (0 : Int32) == 1) (rtn 0)
def fL_c18 (L : Nat) (xs : Nat → Int32) (k : Mm → Option (Int32 × Mm)) (x1 x2 x3 : Nat) (x4 : Int32) : Mm → Option (Int32 × Mm) :=
  grd (vpB (x4 + 1) L) <|
  grd (vpB (x4 + 2) L) <|
  bnd (fL_shift x1 (xs ((x4 + 1)).toNatClampNeg) (xs ((x4 + 2)).toNatClampNeg) x3) fun v1 =>
  grd (vpB (x4 + 1) L) <|
  grd (vpB (x4 + 2) L) <|
  bnd (fX8_shift x2 (xs ((x4 + 1)).toNatClampNeg) (xs ((x4 + 2)).toNatClampNeg)) fun v2 =>
  bnd (fX8_thrown x2) fun v3 =>
  if (v3 : Int32) = v1 then
    if (v1 : Int32) = 0 then
      bnd (lJ x3 0) fun v4 =>
      if ((lg_cmp v4 ((v2).toInt64)) : Int32) = 0 then
        k
      else
        grd ((0 : Int32) == 0 || (0 : Int32) == 1) (rtn 0)
    else
      k
  else
    grd ((0 : Int32) == 0 || (0 : Int32) == 1) (rtn 0)
def fL_c19 (L : Nat) (xs : Nat → Int32) (k : Mm → Option (Int32 × Mm)) (x1 x2 x3 : Nat) (x4 : Int32) : Mm → Option (Int32 × Mm) :=
  grd (vpB (x4 + 1) L) <|
  grd (vpB (x4 + 2) L) <|
  bnd (fL_copyLine x1 (xs ((x4 + 1)).toNatClampNeg) (xs ((x4 + 2)).toNatClampNeg) x3) fun v1 =>
  grd (vpB (x4 + 1) L) <|
  grd (vpB (x4 + 2) L) <|
  bnd (fX8_copyLine x2 (xs ((x4 + 1)).toNatClampNeg) (xs ((x4 + 2)).toNatClampNeg)) fun v2 =>
  bnd (fX8_thrown x2) fun v3 =>
  if (v3 : Int32) = v1 then
    if (v1 : Int32) = 0 then
      bnd (lJ x3 0) fun v4 =>
      if ((lg_cmp v4 ((v2).toInt64)) : Int32) = 0 then
        k
      else
        grd ((0 : Int32) == 0 || (0 : Int32) == 1) (rtn 0)
    else
      k
  else
    grd ((0 : Int32) == 0 || (0 : Int32) == 1) (rtn 0)
def fL_c20 (L : Nat) (xs : Nat → Int32) (k : Mm → Option (Int32 × Mm)) (x1 x2 x3 : Nat) (x4 : Int32) : Mm → Option (Int32 × Mm) :=
  grd (vpB (x4 + 1) L) <|
  bnd (fL_removeLine x1 (xs ((x4 + 1)).toNatClampNeg) x3) fun v1 =>
  grd (vpB (x4 + 1) L) <|
  bnd (fX8_removeLine x2 (xs ((x4 + 1)).toNatClampNeg)) fun v2 =>
  bnd (fX8_thrown x2) fun v3 =>
  if (v3 : Int32) = v1 then
    if (v1 : Int32) = 0 then
      bnd (lJ x3 0) fun v4 =>
      if ((lg_cmp v4 ((v2).toInt64)) : Int32) = 0 then
        k
      else
        grd ((0 : Int32) == 0 || (0 : Int32) == 1) (rtn 0)
    else
      k
  else
    grd ((0 : Int32) == 0 || (0 : Int32) == 1) (rtn 0)
def fL_c21 (L : Nat) (xs : Nat → Int32) (k : Mm → Option (Int32 × Mm)) (x1 x2 x3 : Nat) (x4 : Int32) : Mm → Option (Int32 × Mm) :=
  grd (vpB (x4 + 1) L) <|
  bnd (fL_invert x1 (xs ((x4 + 1)).toNatClampNeg) x3) fun v1 =>
  grd (vpB (x4 + 1) L) <|
  bnd (fX8_invert x2 (xs ((x4 + 1)).toNatClampNeg)) fun v2 =>
  bnd (fX8_thrown x2) fun v3 =>
  if (v3 : Int32) = v1 then
    if (v1 : Int32) = 0 then
      bnd (lJ x3 0) fun v4 =>
      if ((lg_cmp v4 ((v2).toInt64)) : Int32) = 0 then
        k
      else
        grd ((0 : Int32) == 0 || (0 : Int32) == 1) (rtn 0)
    else
      k
  else
    grd ((0 : Int32) == 0 || (0 : Int32) == 1) (rtn 0)
def fL_c22 (L : Nat) (xs : Nat → Int32) (k : Mm → Option (Int32 × Mm)) (x1 x2 x3 : Nat) (x4 : Int32) : Mm → Option (Int32 × Mm) :=
  grd (vpB (x4 + 1) L) <|
  grd (vpB (x4 + 2) L) <|
  bnd (fL_swap x1 (xs ((x4 + 1)).toNatClampNeg) (xs ((x4 + 2)).toNatClampNeg) x3) fun v1 =>
  grd (vpB (x4 + 1) L) <|
  grd (vpB (x4 + 2) L) <|
  bnd (fX8_swap x2 (xs ((x4 + 1)).toNatClampNeg) (xs ((x4 + 2)).toNatClampNeg)) fun v2 =>
  bnd (fX8_thrown x2) fun v3 =>
  if (v3 : Int32) = v1 then
    if (v1 : Int32) = 0 then
      bnd (lJ x3 0) fun v4 =>
      if ((lg_cmp v4 ((v2).toInt64)) : Int32) = 0 then
        k
      else
        grd ((0 : Int32) == 0 || (0 : Int32) == 1) (rtn 0)
    else
      k
  else
    grd ((0 : Int32) == 0 || (0 : Int32) == 1) (rtn 0)
def fL_c23 (L : Nat) (xs : Nat → Int32) (k : Mm → Option (Int32 × Mm)) (x1 x2 x3 : Nat) (x4 : Int32) : Mm → Option (Int32 × Mm) :=
  grd (vpB (x4 + 1) L) <|
  bnd (fL_sent x1 (xs ((x4 + 1)).toNatClampNeg) x3) fun v1 =>
  grd (vpB (x4 + 1) L) <|
  bnd (fX8_sent x2 (xs ((x4 + 1)).toNatClampNeg)) fun v2 =>
  bnd (fX8_thrown x2) fun v3 =>
  if (v3 : Int32) = v1 then
    if (v1 : Int32) = 0 then
      bnd (lJ x3 0) fun v4 =>
      if ((lg_cmp v4 ((v2).toInt64)) : Int32) = 0 then
        k
      else
        grd ((0 : Int32) == 0 || (0 : Int32) == 1) (rtn 0)
    else
      k
  else
    grd ((0 : Int32) == 0 || (0 : Int32) == 1) (rtn 0)
def fL_c24 (L : Nat) (xs : Nat → Int32) (k : Mm → Option (Int32 × Mm)) (x1 x2 x3 : Nat) (x4 : Int32) : Mm → Option (Int32 × Mm) :=
  grd (vpB (x4 + 1) L) <|
  grd (vpB (x4 + 2) L) <|
  bnd (fL_sentLine x1 (xs ((x4 + 1)).toNatClampNeg) (xs ((x4 + 2)).toNatClampNeg) x3) fun v1 =>
  grd (vpB (x4 + 1) L) <|
  grd (vpB (x4 + 2) L) <|
  bnd (fX8_sentLine x2 (xs ((x4 + 1)).toNatClampNeg) (xs ((x4 + 2)).toNatClampNeg)) fun v2 =>
  bnd (fX8_thrown x2) fun v3 =>
  if (v3 : Int32) = v1 then
    if (v1 : Int32) = 0 then
      bnd (lJ x3 0) fun v4 =>
      if ((lg_cmp v4 ((v2).toInt64)) : Int32) = 0 then
        k
      else
        grd ((0 : Int32) == 0 || (0 : Int32) == 1) (rtn 0)
    else
      k
  else
    grd ((0 : Int32) == 0 || (0 : Int32) == 1) (rtn 0)
def fL_c25 (L : Nat) (xs : Nat → Int32) (k : Mm → Option (Int32 × Mm)) (x1 x2 x3 : Nat) (x4 : Int32) : Mm → Option (Int32 × Mm) :=
  grd (vpB (x4 + 1) L) <|
  grd (vpB (x4 + 2) L) <|
  bnd (fL_received x1 (xs ((x4 + 1)).toNatClampNeg) (xs ((x4 + 2)).toNatClampNeg) x3) fun v1 =>
  grd (vpB (x4 + 1) L) <|
  grd (vpB (x4 + 2) L) <|
  bnd (fX8_received x2 (xs ((x4 + 1)).toNatClampNeg) (xs ((x4 + 2)).toNatClampNeg)) fun v2 =>
  bnd (fX8_thrown x2) fun v3 =>
  if (v3 : Int32) = v1 then
    if (v1 : Int32) = 0 then
      bnd (lJ x3 0) fun v4 =>
      if ((lg_cmp v4 ((v2).toInt64)) : Int32) = 0 then
        k
      else
        grd ((0 : Int32) == 0 || (0 : Int32) == 1) (rtn 0)
    else
      k
  else
    grd ((0 : Int32) == 0 || (0 : Int32) == 1) (rtn 0)
def fL_c26 (L : Nat) (xs : Nat → Int32) (k : Mm → Option (Int32 × Mm)) (x1 x2 x3 : Nat) (x4 : Int32) : Mm → Option (Int32 × Mm) :=
  grd (vpB (x4 + 1) L) <|
  grd (vpB (x4 + 2) L) <|
  bnd (fL_harm x1 (xs ((x4 + 1)).toNatClampNeg) (xs ((x4 + 2)).toNatClampNeg) x3) fun v1 =>
  grd (vpB (x4 + 1) L) <|
  grd (vpB (x4 + 2) L) <|
  bnd (fX8_harm x2 (xs ((x4 + 1)).toNatClampNeg) (xs ((x4 + 2)).toNatClampNeg)) fun v2 =>
  bnd (fX8_thrown x2) fun v3 =>
  if (v3 : Int32) = v1 then
    if (v1 : Int32) = 0 then
      bnd (lJ x3 0) fun v4 =>
      if ((lg_cmp v4 ((v2).toInt64)) : Int32) = 0 then
        k
      else
        grd ((0 : Int32) == 0 || (0 : Int32) == 1) (rtn 0)
    else
      k
  else
    grd ((0 : Int32) == 0 || (0 : Int32) == 1) (rtn 0)
def fL_c27 (L : Nat) (xs : Nat → Int32) (k : Mm → Option (Int32 × Mm)) (x1 x2 x3 : Nat) (x4 : Int32) : Mm → Option (Int32 × Mm) :=
  bnd (fX7_worst x1) fun v1 =>
  bnd (fX8_worst x2) fun v2 =>
  if (v1 : Int32) = v2 then
    k
  else
    grd ((0 : Int32) == 0 || (0 : Int32) == 1) (rtn 0)
def fL_c28 (L : Nat) (xs : Nat → Int32) (k : Mm → Option (Int32 × Mm)) (x1 x2 x3 : Nat) (x4 : Int32) : Mm → Option (Int32 × Mm) :=
  bnd (fX7_bestEvery x1) fun v1 =>
  bnd (fX8_bestEvery x2) fun v2 =>
  if (v1 : Int32) = v2 then
    k
  else
    grd ((0 : Int32) == 0 || (0 : Int32) == 1) (rtn 0)
def fL_c29 (L : Nat) (xs : Nat → Int32) (k : Mm → Option (Int32 × Mm)) (x1 x2 x3 : Nat) (x4 : Int32) : Mm → Option (Int32 × Mm) :=
  bnd (fX7_needsSteps x1) fun v1 =>
  bnd (fX8_needsSteps x2) fun v2 =>
  if (v1 : Int32) = v2 then
    k
  else
    grd ((0 : Int32) == 0 || (0 : Int32) == 1) (rtn 0)
def fL_c30 (L : Nat) (xs : Nat → Int32) (k : Mm → Option (Int32 × Mm)) (x1 x2 x3 : Nat) (x4 : Int32) : Mm → Option (Int32 × Mm) :=
  bnd (fX7_perDot x1) fun v1 =>
  bnd (fX8_perDot x2) fun v2 =>
  if ((Op.cmpValue (FP.dcmp v1 v2) .l) : Int32) = 0 then
    k
  else
    if ((Op.cmpValue (FP.dcmp v1 v1) .l) : Int32) = 0 then
      grd ((0 : Int32) == 0 || (0 : Int32) == 1) (rtn 0)
    else
      if ((Op.cmpValue (FP.dcmp v2 v2) .l) : Int32) = 0 then
        grd ((0 : Int32) == 0 || (0 : Int32) == 1) (rtn 0)
      else
        k
def fL_c31 (L : Nat) (xs : Nat → Int32) (k : Mm → Option (Int32 × Mm)) (x1 x2 x3 : Nat) (x4 : Int32) : Mm → Option (Int32 × Mm) :=
  bnd (fX7_byAbove x1) fun v1 =>
  grd (nf64 (FP.f2d v1)) <|
  bnd (fX8_byAbove x2) fun v2 =>
  grd (nf64 (FP.f2d v2)) <|
  if ((Op.cmpValue (FP.dcmp (FP.f2d v1) (FP.f2d v2)) .l) : Int32) = 0 then
    k
  else
    if ((Op.cmpValue (FP.dcmp (FP.f2d v1) (FP.f2d v1)) .l) : Int32) = 0 then
      grd ((0 : Int32) == 0 || (0 : Int32) == 1) (rtn 0)
    else
      if ((Op.cmpValue (FP.dcmp (FP.f2d v2) (FP.f2d v2)) .l) : Int32) = 0 then
        grd ((0 : Int32) == 0 || (0 : Int32) == 1) (rtn 0)
      else
        k
def fL_c32 (L : Nat) (xs : Nat → Int32) (k : Mm → Option (Int32 × Mm)) (x1 x2 x3 : Nat) (x4 : Int32) : Mm → Option (Int32 × Mm) :=
  grd (vpB (x4 + 1) L) <|
  bnd (fL_write x1 (xs ((x4 + 1)).toNatClampNeg) x3) fun v1 =>
  grd (vpB (x4 + 1) L) <|
  bnd (fX8_write x2 (xs ((x4 + 1)).toNatClampNeg)) fun v2 =>
  bnd (fX8_thrown x2) fun v3 =>
  if (v3 : Int32) = v1 then
    if (v1 : Int32) = 0 then
      bnd (lJ x3 0) fun v4 =>
      if ((lg_cmp v4 ((v2).toInt64)) : Int32) = 0 then
        k
      else
        grd ((0 : Int32) == 0 || (0 : Int32) == 1) (rtn 0)
    else
      k
  else
    grd ((0 : Int32) == 0 || (0 : Int32) == 1) (rtn 0)
def fL_c33 (L : Nat) (xs : Nat → Int32) (k : Mm → Option (Int32 × Mm)) (x1 x2 x3 : Nat) (x4 : Int32) : Mm → Option (Int32 × Mm) :=
  grd (vpB (x4 + 1) L) <|
  bnd (fL_show x1 (xs ((x4 + 1)).toNatClampNeg) x3) fun v1 =>
  grd (vpB (x4 + 1) L) <|
  bnd (fX8_show x2 (xs ((x4 + 1)).toNatClampNeg)) fun v2 =>
  bnd (fX8_thrown x2) fun v3 =>
  if (v3 : Int32) = v1 then
    if (v1 : Int32) = 0 then
      bnd (lJ x3 0) fun v4 =>
      if ((lg_cmp v4 ((v2).toInt64)) : Int32) = 0 then
        k
      else
        grd ((0 : Int32) == 0 || (0 : Int32) == 1) (rtn 0)
    else
      k
  else
    grd ((0 : Int32) == 0 || (0 : Int32) == 1) (rtn 0)
def fL_c34 (L : Nat) (xs : Nat → Int32) (k : Mm → Option (Int32 × Mm)) (x1 x2 x3 : Nat) (x4 : Int32) : Mm → Option (Int32 × Mm) :=
  grd (vpB (x4 + 1) L) <|
  bnd (fX7_output x1 (xs ((x4 + 1)).toNatClampNeg)) fun v1 =>
  grd (vpB (x4 + 1) L) <|
  bnd (fX8_output x2 (xs ((x4 + 1)).toNatClampNeg)) fun v2 =>
  if (v1 : Int32) = v2 then
    k
  else
    grd ((0 : Int32) == 0 || (0 : Int32) == 1) (rtn 0)
def fL_c35 (L : Nat) (xs : Nat → Int32) (k : Mm → Option (Int32 × Mm)) (x1 x2 x3 : Nat) (x4 : Int32) : Mm → Option (Int32 × Mm) :=
  bnd (fX7_undo x1) fun v1 =>
  bnd (fX8_undo x2) fun v2 =>
  if (v1 : Int32) = v2 then
    k
  else
    grd ((0 : Int32) == 0 || (0 : Int32) == 1) (rtn 0)
def fL_c36 (L : Nat) (xs : Nat → Int32) (k : Mm → Option (Int32 × Mm)) (x1 x2 x3 : Nat) (x4 : Int32) : Mm → Option (Int32 × Mm) :=
  grd (vpB (x4 + 1) L) <|
  bnd (fL_save x1 (xs ((x4 + 1)).toNatClampNeg)) fun v1 =>
  grd (vpB (x4 + 1) L) <|
  bnd (fX8_save x2 (xs ((x4 + 1)).toNatClampNeg)) fun _ =>
  bnd (fX8_thrown x2) fun v2 =>
  if (v2 : Int32) = v1 then
    k
  else
    grd ((0 : Int32) == 0 || (0 : Int32) == 1) (rtn 0)
def fL_c37 (L : Nat) (xs : Nat → Int32) (k : Mm → Option (Int32 × Mm)) (x1 x2 x3 : Nat) (x4 : Int32) : Mm → Option (Int32 × Mm) :=
  grd (vpB (x4 + 1) L) <|
  bnd (fL_restore x1 (xs ((x4 + 1)).toNatClampNeg)) fun v1 =>
  grd (vpB (x4 + 1) L) <|
  bnd (fX8_restore x2 (xs ((x4 + 1)).toNatClampNeg)) fun _ =>
  bnd (fX8_thrown x2) fun v2 =>
  if (v2 : Int32) = v1 then
    k
  else
    grd ((0 : Int32) == 0 || (0 : Int32) == 1) (rtn 0)
def fL_L23 (L : Nat) (xs : Nat → Int32) : Nat → Nat → Nat → Nat → Int32 → Mm → Option (Int32 × Mm)
  | 0, _, _, _, _ => fail
  | n + 1, x1, x2, x3, x4 =>
    if (nI L - 5 : Int32) < x4 then grd ((1 : Int32) == 0 || (1 : Int32) == 1) (rtn 1)
    else
      grd (vpB x4 L) <|
      if (((xs (x4).toNatClampNeg) &&& 63) : Int32) = 0 then fL_c0 L xs (fL_L23 L xs n x1 x2 x3 (x4 + 5)) x1 x2 x3 x4
      else if (((xs (x4).toNatClampNeg) &&& 63) : Int32) = 1 then fL_c1 L xs (fL_L23 L xs n x1 x2 x3 (x4 + 5)) x1 x2 x3 x4
      else if (((xs (x4).toNatClampNeg) &&& 63) : Int32) = 2 then fL_c2 L xs (fL_L23 L xs n x1 x2 x3 (x4 + 5)) x1 x2 x3 x4
      else if (((xs (x4).toNatClampNeg) &&& 63) : Int32) = 3 then fL_c3 L xs (fL_L23 L xs n x1 x2 x3 (x4 + 5)) x1 x2 x3 x4
      else if (((xs (x4).toNatClampNeg) &&& 63) : Int32) = 4 then fL_c4 L xs (fL_L23 L xs n x1 x2 x3 (x4 + 5)) x1 x2 x3 x4
      else if (((xs (x4).toNatClampNeg) &&& 63) : Int32) = 5 then fL_c5 L xs (fL_L23 L xs n x1 x2 x3 (x4 + 5)) x1 x2 x3 x4
      else if (((xs (x4).toNatClampNeg) &&& 63) : Int32) = 6 then fL_c6 L xs (fL_L23 L xs n x1 x2 x3 (x4 + 5)) x1 x2 x3 x4
      else if (((xs (x4).toNatClampNeg) &&& 63) : Int32) = 7 then fL_c7 L xs (fL_L23 L xs n x1 x2 x3 (x4 + 5)) x1 x2 x3 x4
      else if (((xs (x4).toNatClampNeg) &&& 63) : Int32) = 8 then fL_c8 L xs (fL_L23 L xs n x1 x2 x3 (x4 + 5)) x1 x2 x3 x4
      else if (((xs (x4).toNatClampNeg) &&& 63) : Int32) = 9 then fL_c9 L xs (fL_L23 L xs n x1 x2 x3 (x4 + 5)) x1 x2 x3 x4
      else if (((xs (x4).toNatClampNeg) &&& 63) : Int32) = 10 then fL_c10 L xs (fL_L23 L xs n x1 x2 x3 (x4 + 5)) x1 x2 x3 x4
      else if (((xs (x4).toNatClampNeg) &&& 63) : Int32) = 11 then fL_c11 L xs (fL_L23 L xs n x1 x2 x3 (x4 + 5)) x1 x2 x3 x4
      else if (((xs (x4).toNatClampNeg) &&& 63) : Int32) = 12 then fL_c12 L xs (fL_L23 L xs n x1 x2 x3 (x4 + 5)) x1 x2 x3 x4
      else if (((xs (x4).toNatClampNeg) &&& 63) : Int32) = 13 then fL_c13 L xs (fL_L23 L xs n x1 x2 x3 (x4 + 5)) x1 x2 x3 x4
      else if (((xs (x4).toNatClampNeg) &&& 63) : Int32) = 14 then fL_c14 L xs (fL_L23 L xs n x1 x2 x3 (x4 + 5)) x1 x2 x3 x4
      else if (((xs (x4).toNatClampNeg) &&& 63) : Int32) = 15 then fL_c15 L xs (fL_L23 L xs n x1 x2 x3 (x4 + 5)) x1 x2 x3 x4
      else if (((xs (x4).toNatClampNeg) &&& 63) : Int32) = 16 then fL_c16 L xs (fL_L23 L xs n x1 x2 x3 (x4 + 5)) x1 x2 x3 x4
      else if (((xs (x4).toNatClampNeg) &&& 63) : Int32) = 17 then fL_c17 L xs (fL_L23 L xs n x1 x2 x3 (x4 + 5)) x1 x2 x3 x4
      else if (((xs (x4).toNatClampNeg) &&& 63) : Int32) = 18 then fL_c18 L xs (fL_L23 L xs n x1 x2 x3 (x4 + 5)) x1 x2 x3 x4
      else if (((xs (x4).toNatClampNeg) &&& 63) : Int32) = 19 then fL_c19 L xs (fL_L23 L xs n x1 x2 x3 (x4 + 5)) x1 x2 x3 x4
      else if (((xs (x4).toNatClampNeg) &&& 63) : Int32) = 20 then fL_c20 L xs (fL_L23 L xs n x1 x2 x3 (x4 + 5)) x1 x2 x3 x4
      else if (((xs (x4).toNatClampNeg) &&& 63) : Int32) = 21 then fL_c21 L xs (fL_L23 L xs n x1 x2 x3 (x4 + 5)) x1 x2 x3 x4
      else if (((xs (x4).toNatClampNeg) &&& 63) : Int32) = 22 then fL_c22 L xs (fL_L23 L xs n x1 x2 x3 (x4 + 5)) x1 x2 x3 x4
      else if (((xs (x4).toNatClampNeg) &&& 63) : Int32) = 23 then fL_c23 L xs (fL_L23 L xs n x1 x2 x3 (x4 + 5)) x1 x2 x3 x4
      else if (((xs (x4).toNatClampNeg) &&& 63) : Int32) = 24 then fL_c24 L xs (fL_L23 L xs n x1 x2 x3 (x4 + 5)) x1 x2 x3 x4
      else if (((xs (x4).toNatClampNeg) &&& 63) : Int32) = 25 then fL_c25 L xs (fL_L23 L xs n x1 x2 x3 (x4 + 5)) x1 x2 x3 x4
      else if (((xs (x4).toNatClampNeg) &&& 63) : Int32) = 26 then fL_c26 L xs (fL_L23 L xs n x1 x2 x3 (x4 + 5)) x1 x2 x3 x4
      else if (((xs (x4).toNatClampNeg) &&& 63) : Int32) = 27 then fL_c27 L xs (fL_L23 L xs n x1 x2 x3 (x4 + 5)) x1 x2 x3 x4
      else if (((xs (x4).toNatClampNeg) &&& 63) : Int32) = 28 then fL_c28 L xs (fL_L23 L xs n x1 x2 x3 (x4 + 5)) x1 x2 x3 x4
      else if (((xs (x4).toNatClampNeg) &&& 63) : Int32) = 29 then fL_c29 L xs (fL_L23 L xs n x1 x2 x3 (x4 + 5)) x1 x2 x3 x4
      else if (((xs (x4).toNatClampNeg) &&& 63) : Int32) = 30 then fL_c30 L xs (fL_L23 L xs n x1 x2 x3 (x4 + 5)) x1 x2 x3 x4
      else if (((xs (x4).toNatClampNeg) &&& 63) : Int32) = 31 then fL_c31 L xs (fL_L23 L xs n x1 x2 x3 (x4 + 5)) x1 x2 x3 x4
      else if (((xs (x4).toNatClampNeg) &&& 63) : Int32) = 32 then fL_c32 L xs (fL_L23 L xs n x1 x2 x3 (x4 + 5)) x1 x2 x3 x4
      else if (((xs (x4).toNatClampNeg) &&& 63) : Int32) = 33 then fL_c33 L xs (fL_L23 L xs n x1 x2 x3 (x4 + 5)) x1 x2 x3 x4
      else if (((xs (x4).toNatClampNeg) &&& 63) : Int32) = 34 then fL_c34 L xs (fL_L23 L xs n x1 x2 x3 (x4 + 5)) x1 x2 x3 x4
      else if (((xs (x4).toNatClampNeg) &&& 63) : Int32) = 35 then fL_c35 L xs (fL_L23 L xs n x1 x2 x3 (x4 + 5)) x1 x2 x3 x4
      else if (((xs (x4).toNatClampNeg) &&& 63) : Int32) = 36 then fL_c36 L xs (fL_L23 L xs n x1 x2 x3 (x4 + 5)) x1 x2 x3 x4
      else if (((xs (x4).toNatClampNeg) &&& 63) : Int32) = 37 then fL_c37 L xs (fL_L23 L xs n x1 x2 x3 (x4 + 5)) x1 x2 x3 x4
      else fL_L23 L xs n x1 x2 x3 (x4 + 5)
def fL_law (L : Nat) (xs : Nat → Int32) : Mm → Option (Int32 × Mm) :=
  bnd (nwO 7) fun h1 =>
  bnd (fX7_init h1) fun _ =>
  bnd (nwO 8) fun h2 =>
  bnd (fX8_init h2) fun _ =>
  bnd (nwA 12 1) fun h3 =>
  fL_L23 L xs 513 h1 h2 h3 0
