def gX9_above_L23 (s0 : Nat) : Mm → Option (Nat × Mm × Nat × Nat) :=
  wr s0
def gX9_above (x0 : Nat) (x1 : Nat) (x2 : Int32) : Mm → Option (Nat × Mm × Nat × Nat) :=
  if (x2 : Int32) = 0 then
    wb (gI x0 0) fun v2 =>
    wq (nA 13 v2) fun h3 =>
    gX9_above_L23 h3
  else
    wq (gJx4a65c_get_915e3 x1 (x2 - 1)) fun h1 =>
    wb (ckK 13 h1) fun _ =>
    gX9_above_L23 h1
def gL_find_L4 : Nat → Nat → Int32 → Int32 → Mm → Option (Int32 × Mm × Nat × Nat)
  | 0, _, _, _ => wfail
  | n + 1, x0, x2, x3 =>
    wb (gN x0) fun v1 =>
    if v1 ≤ (x3 : Int32) then
      wb (gN x0) fun v2 =>
      wr v2
    else
      wb (lI x0 x3) fun v3 =>
      if (v3 : Int32) = x2 then
        wr x3
      else
        gL_find_L4 n x0 x2 (x3 + 1)
def gL_find (x0 : Nat) (x1 : Int32) (x2 : Int32) : Mm → Option (Int32 × Mm × Nat × Nat) :=
  wb (rtn (x1 + 1)) fun v4 =>
  gL_find_L4 fu x0 x2 v4
def gL_changes_L34 (k12 : Nat → Nat → Int32 → Int32 → Mm → Option (Nat × Mm × Nat × Nat)) (x0 : Nat) (x1 : Nat) (x3 : Int32) : Mm → Option (Nat × Mm × Nat × Nat) :=
  wb (lI x0 x3) fun v1 =>
  k12 x0 x1 v1 (x3 + 1)
def gL_changes_L12 : Nat → Nat → Nat → Int32 → Int32 → Mm → Option (Nat × Mm × Nat × Nat)
  | 0, _, _, _, _ => wfail
  | n + 1, x0, x1, x2, x3 =>
    wb (gN x0) fun v2 =>
    if v2 ≤ (x3 : Int32) then
      wr x1
    else
      wb (lI x0 x3) fun v3 =>
      if (v3 : Int32) = x2 then
        gL_changes_L34 (gL_changes_L12 n) x0 x1 x3
      else
        wq (gJ6_valueOf_2dffe x3) fun h4 =>
        wq (gJx4a65c_add_9ea2d x1 h4) fun v5 =>
        gL_changes_L34 (gL_changes_L12 n) x0 x1 x3
def gL_changes (x0 : Nat) : Mm → Option (Nat × Mm × Nat × Nat) :=
  wq (nO 44) fun h6 =>
  wq (gJx4a65c_init_da8c8 h6) fun _ =>
  gL_changes_L12 fu x0 h6 0 0
def gL_marksBehind_L107 (k23 : Nat → Int32 → Int32 → Nat → Nat → Mm → Option (Nat × Mm × Nat × Nat)) (x0 : Nat) (x1 : Int32) (x2 : Int32) (x3 : Nat) (x4 : Nat) : Mm → Option (Nat × Mm × Nat × Nat) :=
  k23 x0 x1 x2 x3 x4
def gL_marksBehind_L78 (k23 : Nat → Int32 → Int32 → Nat → Nat → Mm → Option (Nat × Mm × Nat × Nat)) (x0 : Nat) (x1 : Int32) (x2 : Int32) (x3 : Nat) (x4 : Nat) (x5 : Int32) : Mm → Option (Nat × Mm × Nat × Nat) :=
  wb (lI x3 0) fun v1 =>
  wb (gN x0) fun v2 =>
  if v2 ≤ (v1 : Int32) then
    gL_marksBehind_L107 k23 x0 x1 x2 x3 x4
  else
    wb (lI x3 0) fun v3 =>
    if (x5 : Int32) ≤ v3 then
      gL_marksBehind_L107 k23 x0 x1 x2 x3 x4
    else
      wb (lI x3 1) fun v4 =>
      wb (gN x0) fun v5 =>
      if (v4 : Int32) = v5 then
        wb (aI x3 1 x5) fun _ =>
        gL_marksBehind_L107 k23 x0 x1 x2 x3 x4
      else
        gL_marksBehind_L107 k23 x0 x1 x2 x3 x4
def gL_marksBehind_L23 : Nat → Nat → Int32 → Int32 → Nat → Nat → Mm → Option (Nat × Mm × Nat × Nat)
  | 0, _, _, _, _, _ => wfail
  | n + 1, x0, x1, x2, x3, x4 =>
    wq (gJx35411_hasNext_aae02 x4) fun v6 =>
    if (v6 : Int32) = 0 then
      wr x3
    else
      wq (gJx35411_next_0502b x4) fun h7 =>
      wb (ckI h7) fun _ =>
      wq (gJ6_intValue_8abf5 h7) fun v8 =>
      if (v8 : Int32) ≤ x1 then
        gL_marksBehind_L78 (gL_marksBehind_L23 n) x0 x1 x2 x3 x4 v8
      else
        wb (lI x0 v8) fun v9 =>
        if (v9 : Int32) = x2 then
          gL_marksBehind_L78 (gL_marksBehind_L23 n) x0 x1 x2 x3 x4 v8
        else
          wb (lI x3 0) fun v10 =>
          wb (gN x0) fun v11 =>
          if (v10 : Int32) = v11 then
            wb (aI x3 0 v8) fun _ =>
            gL_marksBehind_L107 (gL_marksBehind_L23 n) x0 x1 x2 x3 x4
          else
            gL_marksBehind_L78 (gL_marksBehind_L23 n) x0 x1 x2 x3 x4 v8
def gL_marksBehind (x0 : Nat) (x1 : Int32) (x2 : Int32) : Mm → Option (Nat × Mm × Nat × Nat) :=
  wq (nA 11 2) fun h12 =>
  wb (gN x0) fun v13 =>
  wb (aI h12 0 v13) fun _ =>
  wb (gN x0) fun v14 =>
  wb (aI h12 1 v14) fun _ =>
  wq (gL_changes x0) fun h15 =>
  wq (gJx4a65c_iterator_32c93 h15) fun h16 =>
  gL_marksBehind_L23 fu x0 x1 x2 h12 h16
def gX8_init (x0 : Nat) (x1 : Int32) (x2 : Int32) (x3 : Int32) (x4 : Int32) : Mm → Option (Unit × Mm × Nat × Nat) :=
  wb (pI x0 0 x1) fun _ =>
  wb (pI x0 1 x2) fun _ =>
  wb (pI x0 2 x3) fun _ =>
  wb (pI x0 3 x4) fun _ =>
  wr ()
def gL_code_L173 (k13 : Nat → Nat → Nat → Int32 → Int32 → Mm → Option (Nat × Mm × Nat × Nat)) (x0 : Nat) (x1 : Nat) (x2 : Nat) (x3 : Int32) (x4 : Int32) : Mm → Option (Nat × Mm × Nat × Nat) :=
  k13 x0 x1 x2 x3 x4
def gL_code_L105 (k13 : Nat → Nat → Nat → Int32 → Int32 → Mm → Option (Nat × Mm × Nat × Nat)) (x0 : Nat) (x1 : Nat) (x2 : Nat) (x3 : Int32) (x5 : Int32) (x6 : Nat) (s0 : Int32) : Mm → Option (Nat × Mm × Nat × Nat) :=
  wq (nO 53) fun h1 =>
  wb (lI x6 0) fun v2 =>
  wq (gX8_init h1 1 (x5 - v2) 0 x3) fun _ =>
  wq (gJx4a65c_add_9ea2d x2 h1) fun v3 =>
  gL_code_L173 k13 x0 x1 x2 x3 s0
def gL_code_L31 (k13 : Nat → Nat → Nat → Int32 → Int32 → Mm → Option (Nat × Mm × Nat × Nat)) (x0 : Nat) (x1 : Nat) (x2 : Nat) (x3 : Int32) (x4 : Int32) (s0 : Int32) (s1 : Int32) (s2 : Nat) : Mm → Option (Nat × Mm × Nat × Nat) :=
  wq (gL_find s2 s1 s0) fun v4 =>
  wq (gL_marksBehind x0 x3 x4) fun h5 =>
  wb (lI h5 1) fun v6 =>
  if v4 ≤ (v6 : Int32) then
    wb (lI h5 0) fun v7 =>
    if 4 ≤ ((mabs (v4 - v7)) : Int32) then
      wq (gL_find x1 v4 x4) fun v8 =>
      wq (nO 53) fun h9 =>
      wq (gX8_init h9 2 (v4 - (mmax x3 0)) (v8 - v4) v8) fun _ =>
      wq (gJx4a65c_add_9ea2d x2 h9) fun v10 =>
      gL_code_L173 k13 x0 x1 x2 v8 x4
    else
      if (x4 : Int32) = 0 then
        gL_code_L105 k13 x0 x1 x2 v4 v4 h5 1
      else
        gL_code_L105 k13 x0 x1 x2 v4 v4 h5 0
  else
    wb (lI h5 1) fun v11 =>
    wq (nO 53) fun h12 =>
    wq (gX8_init h12 0 0 0 v11) fun _ =>
    wq (gJx4a65c_add_9ea2d x2 h12) fun v13 =>
    gL_code_L173 k13 x0 x1 x2 v11 x4
def gL_code_L13 : Nat → Nat → Nat → Nat → Int32 → Int32 → Mm → Option (Nat × Mm × Nat × Nat)
  | 0, _, _, _, _, _ => wfail
  | n + 1, x0, x1, x2, x3, x4 =>
    wb (gN x1) fun v14 =>
    if v14 ≤ (x3 : Int32) then
      wr x2
    else
      if (x4 : Int32) = 0 then
        gL_code_L31 (gL_code_L13 n) x0 x1 x2 x3 x4 1 x3 x1
      else
        gL_code_L31 (gL_code_L13 n) x0 x1 x2 x3 x4 0 x3 x1
def gL_code (x0 : Nat) (x1 : Nat) : Mm → Option (Nat × Mm × Nat × Nat) :=
  wq (nO 44) fun h15 =>
  wq (gJx4a65c_init_da8c8 h15) fun _ =>
  gL_code_L13 fu x0 x1 h15 (-1) 0
def gX9_codeOf (x0 : Nat) (x1 : Int32) : Mm → Option (Nat × Mm × Nat × Nat) :=
  wb (gA x0 3) fun v1 =>
  wq (gX9_above x0 v1 x1) fun h2 =>
  wb (gA x0 3) fun v3 =>
  wq (gJx4a65c_get_915e3 v3 x1) fun h4 =>
  wb (ckK 13 h4) fun _ =>
  wq (gL_code h2 h4) fun h5 =>
  wr h5
def gL_alone_L18 : Nat → Nat → Nat → Int32 → Nat → Mm → Option (Nat × Mm × Nat × Nat)
  | 0, _, _, _, _ => wfail
  | n + 1, x0, x1, x2, x3 =>
    wq (gJx35411_hasNext_aae02 x3) fun v1 =>
    if (v1 : Int32) = 0 then
      wb (gN x0) fun v2 =>
      wq (gJ6_valueOf_2dffe (v2 - x2)) fun h3 =>
      wq (gJx4a65c_add_9ea2d x1 h3) fun v4 =>
      wr x1
    else
      wq (gJx35411_next_0502b x3) fun h5 =>
      wb (ckI h5) fun _ =>
      wq (gJ6_intValue_8abf5 h5) fun v6 =>
      wq (gJ6_valueOf_2dffe (v6 - x2)) fun h7 =>
      wq (gJx4a65c_add_9ea2d x1 h7) fun v8 =>
      gL_alone_L18 n x0 x1 v6 x3
def gL_alone (x0 : Nat) : Mm → Option (Nat × Mm × Nat × Nat) :=
  wq (nO 44) fun h9 =>
  wq (gJx4a65c_init_da8c8 h9) fun _ =>
  wq (gL_changes x0) fun h10 =>
  wq (gJx4a65c_iterator_32c93 h10) fun h11 =>
  gL_alone_L18 fu x0 h9 0 h11
def gL_bitsOf (x0 : Int32) : Mm → Option (Int32 × Mm × Nat × Nat) :=
  if 8 ≤ (x0 : Int32) then
    wr 8
  else
    wr 4
def gL_bits_L7 : Nat → Int32 → Nat → Mm → Option (Int32 × Mm × Nat × Nat)
  | 0, _, _ => wfail
  | n + 1, x1, x2 =>
    wq (gJx35411_hasNext_aae02 x2) fun v1 =>
    if (v1 : Int32) = 0 then
      wr x1
    else
      wq (gJx35411_next_0502b x2) fun h2 =>
      wb (ckI h2) fun _ =>
      wq (gJ6_intValue_8abf5 h2) fun v3 =>
      wq (gL_bitsOf v3) fun v4 =>
      wb (rtn (x1 + v4)) fun v5 =>
      gL_bits_L7 n v5 x2
def gL_bits (x0 : Nat) : Mm → Option (Int32 × Mm × Nat × Nat) :=
  wq (gJx4a65c_iterator_32c93 x0) fun h6 =>
  gL_bits_L7 fu 0 h6
def gX8_bits (x0 : Nat) : Mm → Option (Int32 × Mm × Nat × Nat) :=
  wb (gI x0 0) fun v1 =>
  if (v1 : Int32) = 0 then
    wr 4
  else
    wb (gI x0 0) fun v2 =>
    if (v2 : Int32) = 2 then
      wb (gI x0 1) fun v4 =>
      wq (gL_bitsOf v4) fun v5 =>
      wb (gI x0 2) fun v6 =>
      wq (gL_bitsOf v6) fun v7 =>
      wr ((3 + v5) + v7)
    else
      wb (gI x0 1) fun v3 =>
      if ((mabs v3) : Int32) = 0 then
        wr 1
      else if ((mabs v3) : Int32) = 1 then
        wr 3
      else if ((mabs v3) : Int32) = 2 then
        wr 6
      else 
        wr 7
def gL_modeBits_L7 : Nat → Int32 → Nat → Mm → Option (Int32 × Mm × Nat × Nat)
  | 0, _, _ => wfail
  | n + 1, x1, x2 =>
    wq (gJx35411_hasNext_aae02 x2) fun v1 =>
    if (v1 : Int32) = 0 then
      wr x1
    else
      wq (gJx35411_next_0502b x2) fun h2 =>
      wb (ckK 53 h2) fun _ =>
      wq (gX8_bits h2) fun v3 =>
      wb (rtn (x1 + v3)) fun v4 =>
      gL_modeBits_L7 n v4 x2
def gL_modeBits (x0 : Nat) : Mm → Option (Int32 × Mm × Nat × Nat) :=
  wq (gJx4a65c_iterator_32c93 x0) fun h5 =>
  gL_modeBits_L7 fu 0 h5
def gX9_isMark_L49 : Mm → Option (Int32 × Mm × Nat × Nat) :=
  wgrd ((1 : Int32) == 0 || (1 : Int32) == 1) (wr 1)
def gX9_isMark (x0 : Nat) (x1 : Int32) : Mm → Option (Int32 × Mm × Nat × Nat) :=
  wb (gA x0 1) fun v1 =>
  wb (lI v1 0) fun v2 =>
  wgrd (!((v2 : Int32) == 0)) <|
  if ((x1 - x1 / v2 * v2) : Int32) = 0 then
    gX9_isMark_L49
  else
    wb (gA x0 1) fun v3 =>
    wb (lI v3 1) fun v4 =>
    if (v4 : Int32) = 1 then
      wb (gA x0 3) fun v5 =>
      wq (gJx4a65c_get_915e3 v5 x1) fun h6 =>
      wb (ckK 13 h6) fun _ =>
      wq (gL_alone h6) fun h7 =>
      wq (gL_bits h7) fun v8 =>
      wq (gX9_codeOf x0 x1) fun h9 =>
      wq (gL_modeBits h9) fun v10 =>
      if v10 ≤ (v8 : Int32) then
        wgrd ((0 : Int32) == 0 || (0 : Int32) == 1) (wr 0)
      else
        gX9_isMark_L49
    else
      wgrd ((0 : Int32) == 0 || (0 : Int32) == 1) (wr 0)
def gX9_bitsOf (x0 : Nat) (x1 : Int32) : Mm → Option (Int32 × Mm × Nat × Nat) :=
  wq (gX9_isMark x0 x1) fun v1 =>
  if (v1 : Int32) = 0 then
    wq (gX9_codeOf x0 x1) fun h2 =>
    wq (gL_modeBits h2) fun v3 =>
    wr v3
  else
    wb (gA x0 3) fun v4 =>
    wq (gJx4a65c_get_915e3 v4 x1) fun h5 =>
    wb (ckK 13 h5) fun _ =>
    wq (gL_alone h5) fun h6 =>
    wq (gL_bits h6) fun v7 =>
    wr v7
def gL_read_L253 (s0 : Option Nat) : Mm → Option ((Option Nat) × Mm × Nat × Nat) :=
  wr s0
def gL_read_L237 (k16 : Nat → Nat → Int32 → Int32 → Nat → Mm → Option ((Option Nat) × Mm × Nat × Nat)) (x1 : Nat) (x2 : Nat) (x3 : Int32) (x5 : Nat) (s0 : Int32) : Mm → Option ((Option Nat) × Mm × Nat × Nat) :=
  k16 x1 x2 x3 s0 x5
def gL_read_L227 (k16 : Nat → Nat → Int32 → Int32 → Nat → Mm → Option ((Option Nat) × Mm × Nat × Nat)) (x1 : Nat) (x2 : Nat) (x3 : Int32) (x4 : Int32) (x5 : Nat) (s0 : Int32) : Mm → Option ((Option Nat) × Mm × Nat × Nat) :=
  if (s0 : Int32) = x4 then
    gL_read_L237 k16 x1 x2 x3 x5 0
  else
    gL_read_L237 k16 x1 x2 x3 x5 1
def gL_read_L203 (k183 : Nat → Nat → Int32 → Nat → Nat → Int32 → Int32 → Mm → Option ((Option Nat) × Mm × Nat × Nat)) (x1 : Nat) (x2 : Nat) (x4 : Int32) (x5 : Nat) (x6 : Nat) (x10 : Int32) (x11 : Int32) (s0 : Int32) (s1 : Int32) (s2 : Nat) : Mm → Option ((Option Nat) × Mm × Nat × Nat) :=
  wb (aZ s2 s1 s0) fun _ =>
  k183 x1 x2 x4 x5 x6 x10 (x11 + 1)
def gL_read_L183 (k16 : Nat → Nat → Int32 → Int32 → Nat → Mm → Option ((Option Nat) × Mm × Nat × Nat)) : Nat → Nat → Nat → Int32 → Nat → Nat → Int32 → Int32 → Mm → Option ((Option Nat) × Mm × Nat × Nat)
  | 0, _, _, _, _, _, _, _ => wfail
  | n + 1, x1, x2, x4, x5, x6, x10, x11 =>
    if x10 ≤ (x11 : Int32) then
      wb (gI x6 0) fun v1 =>
      if (v1 : Int32) = 1 then
        gL_read_L227 k16 x1 x2 x10 x4 x5 1
      else
        gL_read_L227 k16 x1 x2 x10 x4 x5 0
    else
      if (x4 : Int32) = 0 then
        gL_read_L203 (gL_read_L183 k16 n) x1 x2 x4 x5 x6 x10 x11 1 x11 x2
      else
        gL_read_L203 (gL_read_L183 k16 n) x1 x2 x4 x5 x6 x10 x11 0 x11 x2
def gL_read_L160 (k16 : Nat → Nat → Int32 → Int32 → Nat → Mm → Option ((Option Nat) × Mm × Nat × Nat)) : Nat → Nat → Nat → Int32 → Nat → Nat → Int32 → Int32 → Int32 → Mm → Option ((Option Nat) × Mm × Nat × Nat)
  | 0, _, _, _, _, _, _, _, _ => wfail
  | n + 1, x1, x2, x4, x5, x6, x9, x10, x11 =>
    if x9 ≤ (x11 : Int32) then
      gL_read_L183 k16 fu x1 x2 x4 x5 x6 x10 x9
    else
      wb (aZ x2 x11 x4) fun _ =>
      gL_read_L160 k16 n x1 x2 x4 x5 x6 x9 x10 (x11 + 1)
def gL_read_L156 (k16 : Nat → Nat → Int32 → Int32 → Nat → Mm → Option ((Option Nat) × Mm × Nat × Nat)) (x1 : Nat) (x2 : Nat) (x4 : Int32) (x5 : Nat) (x6 : Nat) (x8 : Int32) (x9 : Int32) (x10 : Int32) : Mm → Option ((Option Nat) × Mm × Nat × Nat) :=
  gL_read_L160 k16 fu x1 x2 x4 x5 x6 x9 x10 x8
def gL_read_L154 : Mm → Option ((Option Nat) × Mm × Nat × Nat) :=
  wr none
def gL_read_L131 (k16 : Nat → Nat → Int32 → Int32 → Nat → Mm → Option ((Option Nat) × Mm × Nat × Nat)) (x1 : Nat) (x2 : Nat) (x3 : Int32) (x4 : Int32) (x5 : Nat) (x6 : Nat) (x8 : Int32) (x9 : Int32) (s0 : Int32) : Mm → Option ((Option Nat) × Mm × Nat × Nat) :=
  wb (gI x6 0) fun v2 =>
  if (v2 : Int32) ≤ 0 then
    gL_read_L156 k16 x1 x2 x4 x5 x6 x8 x9 s0
  else
    if (s0 : Int32) ≤ x3 then
      gL_read_L154
    else
      wb (gN x2) fun v3 =>
      if (s0 : Int32) ≤ v3 then
        gL_read_L156 k16 x1 x2 x4 x5 x6 x8 x9 s0
      else
        gL_read_L154
def gL_read_L107 (k16 : Nat → Nat → Int32 → Int32 → Nat → Mm → Option ((Option Nat) × Mm × Nat × Nat)) (x1 : Nat) (x2 : Nat) (x3 : Int32) (x4 : Int32) (x5 : Nat) (x6 : Nat) (x8 : Int32) (s0 : Int32) : Mm → Option ((Option Nat) × Mm × Nat × Nat) :=
  wb (gI x6 0) fun v4 =>
  if (v4 : Int32) = 2 then
    wb (gI x6 2) fun v5 =>
    gL_read_L131 k16 x1 x2 x3 x4 x5 x6 x8 s0 (s0 + v5)
  else
    gL_read_L131 k16 x1 x2 x3 x4 x5 x6 x8 s0 s0
def gL_read_L16 : Nat → Nat → Nat → Int32 → Int32 → Nat → Mm → Option ((Option Nat) × Mm × Nat × Nat)
  | 0, _, _, _, _, _ => wfail
  | n + 1, x1, x2, x3, x4, x5 =>
    wq (gJx35411_hasNext_aae02 x5) fun v6 =>
    if (v6 : Int32) = 0 then
      wb (gN x2) fun v7 =>
      if (x3 : Int32) = v7 then
        gL_read_L253 (some x2)
      else
        gL_read_L253 none
    else
      wq (gJx35411_next_0502b x5) fun h8 =>
      wb (ckK 53 h8) fun _ =>
      wb (gN x2) fun v9 =>
      if (x3 : Int32) = v9 then
        wr none
      else
        wq (gL_marksBehind x1 x3 x4) fun h10 =>
        wb (rtn (mmax x3 0)) fun v11 =>
        wb (gI h8 0) fun v12 =>
        if (v12 : Int32) = 0 then
          wb (lI h10 1) fun v17 =>
          gL_read_L107 (gL_read_L16 n) x1 x2 x3 x4 x5 h8 v11 v17
        else
          wb (gI h8 0) fun v13 =>
          if (v13 : Int32) = 1 then
            wb (lI h10 0) fun v15 =>
            wb (gI h8 1) fun v16 =>
            gL_read_L107 (gL_read_L16 n) x1 x2 x3 x4 x5 h8 v11 (v15 + v16)
          else
            wb (gI h8 1) fun v14 =>
            gL_read_L107 (gL_read_L16 n) x1 x2 x3 x4 x5 h8 v11 (v11 + v14)
def gL_read (x0 : Nat) (x1 : Nat) : Mm → Option ((Option Nat) × Mm × Nat × Nat) :=
  wb (gN x1) fun v18 =>
  wq (nA 13 v18) fun h19 =>
  wq (gJx4a65c_iterator_32c93 x0) fun h20 =>
  gL_read_L16 fu x1 h19 (-1) 0 h20
def gL_isLike_L454 (k65 : Nat → Nat → Int32 → Int32 → Mm → Option (Int32 × Mm × Nat × Nat)) : Nat → Nat → Nat → Int32 → Int32 → Option Nat → Int32 → Mm → Option (Int32 × Mm × Nat × Nat)
  | 0, _, _, _, _, _, _ => wfail
  | n + 1, x0, x1, x2, x3, x6, x7 =>
    wb (gI x1 0) fun v1 =>
    if v1 ≤ (x7 : Int32) then
      wq (wcx 2 12 (fX7_readBelow x0 x3 (x3 - 1))) fun v2 =>
      if (v2 : Int32) = 0 then
        k65 x0 x1 x2 (x3 + 1)
      else
        wgrd ((0 : Int32) == 0 || (0 : Int32) == 1) (wr 0)
    else
      wb (nn x6) fun p4 =>
      wb (lI p4 x7) fun v3 =>
      wb (gA x1 3) fun v5 =>
      wq (gJx4a65c_get_915e3 v5 x3) fun h6 =>
      wb (ckK 13 h6) fun _ =>
      wb (lI h6 x7) fun v7 =>
      if (v3 : Int32) = v7 then
        gL_isLike_L454 k65 n x0 x1 x2 x3 x6 (x7 + 1)
      else
        wgrd ((0 : Int32) == 0 || (0 : Int32) == 1) (wr 0)
def gL_isLike_L302 (k65 : Nat → Nat → Int32 → Int32 → Mm → Option (Int32 × Mm × Nat × Nat)) : Nat → Nat → Nat → Int32 → Int32 → Nat → Nat → Int32 → Mm → Option (Int32 × Mm × Nat × Nat)
  | 0, _, _, _, _, _, _, _ => wfail
  | n + 1, x0, x1, x2, x3, x4, x5, x6 =>
    wq (gJx4a65c_size_8abf5 x4) fun v8 =>
    if v8 ≤ (x6 : Int32) then
      wq (gJx4a65c_size_8abf5 x5) fun v9 =>
      wq (wcx 1 6 (fX7_run x0 x3 v9)) fun v10 =>
      if (v10 : Int32) = (-1) then
        wq (gJx4a65c_size_8abf5 x4) fun v11 =>
        wq (wcx 2 12 (fX7_mode x0 x3 v11 0)) fun v12 =>
        if (v12 : Int32) = (-9) then
          wb (gA x1 3) fun v13 =>
          wq (gX9_above x1 v13 x3) fun h14 =>
          wq (gL_read x4 h14) fun h15 =>
          wopc h15 (
            wgrd ((0 : Int32) == 0 || (0 : Int32) == 1) (wr 0)) (fun p16 =>
            gL_isLike_L454 k65 fu x0 x1 x2 x3 (some p16) 0)
        else
          wgrd ((0 : Int32) == 0 || (0 : Int32) == 1) (wr 0)
      else
        wgrd ((0 : Int32) == 0 || (0 : Int32) == 1) (wr 0)
    else
      wq (gJx4a65c_get_915e3 x4 x6) fun h17 =>
      wb (ckK 53 h17) fun _ =>
      wq (wcx 2 12 (fX7_mode x0 x3 x6 0)) fun v18 =>
      wb (gI h17 0) fun v19 =>
      if (v18 : Int32) = v19 then
        wq (wcx 2 12 (fX7_mode x0 x3 x6 1)) fun v20 =>
        wb (gI h17 1) fun v21 =>
        if (v20 : Int32) = v21 then
          wq (wcx 2 12 (fX7_mode x0 x3 x6 2)) fun v22 =>
          wb (gI h17 2) fun v23 =>
          if (v22 : Int32) = v23 then
            wq (wcx 2 12 (fX7_mode x0 x3 x6 3)) fun v24 =>
            wb (gI h17 3) fun v25 =>
            if (v24 : Int32) = v25 then
              gL_isLike_L302 k65 n x0 x1 x2 x3 x4 x5 (x6 + 1)
            else
              wgrd ((0 : Int32) == 0 || (0 : Int32) == 1) (wr 0)
          else
            wgrd ((0 : Int32) == 0 || (0 : Int32) == 1) (wr 0)
        else
          wgrd ((0 : Int32) == 0 || (0 : Int32) == 1) (wr 0)
      else
        wgrd ((0 : Int32) == 0 || (0 : Int32) == 1) (wr 0)
def gL_isLike_L258 (k65 : Nat → Nat → Int32 → Int32 → Mm → Option (Int32 × Mm × Nat × Nat)) : Nat → Nat → Nat → Int32 → Int32 → Nat → Nat → Int32 → Mm → Option (Int32 × Mm × Nat × Nat)
  | 0, _, _, _, _, _, _, _ => wfail
  | n + 1, x0, x1, x2, x3, x4, x5, x6 =>
    wq (gJx4a65c_size_8abf5 x5) fun v26 =>
    if v26 ≤ (x6 : Int32) then
      gL_isLike_L302 k65 fu x0 x1 x2 x3 x4 x5 0
    else
      wq (wcx 1 6 (fX7_run x0 x3 x6)) fun v27 =>
      wq (gJx4a65c_get_915e3 x5 x6) fun h28 =>
      wb (ckI h28) fun _ =>
      wq (gJ6_intValue_8abf5 h28) fun v29 =>
      if (v27 : Int32) = v29 then
        gL_isLike_L258 k65 n x0 x1 x2 x3 x4 x5 (x6 + 1)
      else
        wgrd ((0 : Int32) == 0 || (0 : Int32) == 1) (wr 0)
def gL_isLike_L164 (k65 : Nat → Nat → Int32 → Int32 → Mm → Option (Int32 × Mm × Nat × Nat)) (x0 : Nat) (x1 : Nat) (x2 : Int32) (x3 : Int32) (x4 : Nat) (x5 : Nat) (s0 : Int32) (s1 : Int32) : Mm → Option (Int32 × Mm × Nat × Nat) :=
  if (s1 : Int32) = s0 then
    wq (wcx 2 12 (fX7_line x0 x3 1)) fun v30 =>
    wq (gL_bits x5) fun v31 =>
    if (v30 : Int32) = v31 then
      wq (wcx 2 12 (fX7_line x0 x3 2)) fun v32 =>
      wq (gL_modeBits x4) fun v33 =>
      if (v32 : Int32) = v33 then
        wq (wcx 2 12 (fX7_line x0 x3 3)) fun v34 =>
        wq (gX9_bitsOf x1 x3) fun v35 =>
        if (v34 : Int32) = v35 then
          wq (wcx 2 12 (fX7_line x0 x3 4)) fun v36 =>
          wq (gJx4a65c_size_8abf5 x5) fun v37 =>
          if (v36 : Int32) = v37 then
            wq (wcx 2 12 (fX7_line x0 x3 5)) fun v38 =>
            wq (gJx4a65c_size_8abf5 x4) fun v39 =>
            if (v38 : Int32) = v39 then
              wq (wcx 2 12 (fX7_line x0 x3 9)) fun v40 =>
              wb (gA x1 2) fun v41 =>
              wb (lI v41 x3) fun v42 =>
              if (v40 : Int32) = v42 then
                gL_isLike_L258 k65 fu x0 x1 x2 x3 x4 x5 0
              else
                wgrd ((0 : Int32) == 0 || (0 : Int32) == 1) (wr 0)
            else
              wgrd ((0 : Int32) == 0 || (0 : Int32) == 1) (wr 0)
          else
            wgrd ((0 : Int32) == 0 || (0 : Int32) == 1) (wr 0)
        else
          wgrd ((0 : Int32) == 0 || (0 : Int32) == 1) (wr 0)
      else
        wgrd ((0 : Int32) == 0 || (0 : Int32) == 1) (wr 0)
    else
      wgrd ((0 : Int32) == 0 || (0 : Int32) == 1) (wr 0)
  else
    wgrd ((0 : Int32) == 0 || (0 : Int32) == 1) (wr 0)
def gL_isLike_L111 (k73 : Nat → Nat → Int32 → Int32 → Int32 → Mm → Option (Int32 × Mm × Nat × Nat)) (x0 : Nat) (x1 : Nat) (x2 : Int32) (x3 : Int32) (x4 : Int32) (s0 : Int32) (s1 : Int32) : Mm → Option (Int32 × Mm × Nat × Nat) :=
  if (s1 : Int32) = s0 then
    k73 x0 x1 x2 x3 (x4 + 1)
  else
    wgrd ((0 : Int32) == 0 || (0 : Int32) == 1) (wr 0)
def gL_isLike_L73 (k65 : Nat → Nat → Int32 → Int32 → Mm → Option (Int32 × Mm × Nat × Nat)) : Nat → Nat → Nat → Int32 → Int32 → Int32 → Mm → Option (Int32 × Mm × Nat × Nat)
  | 0, _, _, _, _, _ => wfail
  | n + 1, x0, x1, x2, x3, x4 =>
    wb (gI x1 0) fun v43 =>
    if v43 ≤ (x4 : Int32) then
      wq (gX9_codeOf x1 x3) fun h44 =>
      wb (gA x1 3) fun v45 =>
      wq (gJx4a65c_get_915e3 v45 x3) fun h46 =>
      wb (ckK 13 h46) fun _ =>
      wq (gL_alone h46) fun h47 =>
      wq (wcx 2 12 (fX7_line x0 x3 0)) fun v48 =>
      wq (gX9_isMark x1 x3) fun v49 =>
      if (v49 : Int32) = 0 then
        gL_isLike_L164 k65 x0 x1 x2 x3 h44 h47 0 v48
      else
        gL_isLike_L164 k65 x0 x1 x2 x3 h44 h47 1 v48
    else
      wq (wcx 1 6 (fX7_dot x0 x3 x4)) fun v50 =>
      wb (gA x1 3) fun v51 =>
      wq (gJx4a65c_get_915e3 v51 x3) fun h52 =>
      wb (ckK 13 h52) fun _ =>
      wb (lI h52 x4) fun v53 =>
      if (v53 : Int32) = 0 then
        gL_isLike_L111 (gL_isLike_L73 k65 n) x0 x1 x2 x3 x4 0 v50
      else
        gL_isLike_L111 (gL_isLike_L73 k65 n) x0 x1 x2 x3 x4 1 v50
def gL_isLike_L65 : Nat → Nat → Nat → Int32 → Int32 → Mm → Option (Int32 × Mm × Nat × Nat)
  | 0, _, _, _, _ => wfail
  | n + 1, x0, x1, x2, x3 =>
    if x2 ≤ (x3 : Int32) then
      wgrd ((1 : Int32) == 0 || (1 : Int32) == 1) (wr 1)
    else
      gL_isLike_L73 (gL_isLike_L65 n) fu x0 x1 x2 x3 0
def gL_isLike_L35 : Nat → Nat → Nat → Int32 → Int32 → Mm → Option (Int32 × Mm × Nat × Nat)
  | 0, _, _, _, _ => wfail
  | n + 1, x0, x1, x2, x3 =>
    if 6 ≤ (x3 : Int32) then
      gL_isLike_L65 fu x0 x1 x2 0
    else
      wq (wcx 1 6 (fX7_count x0 x3)) fun v54 =>
      wb (gA x1 1) fun v55 =>
      wb (lI v55 x3) fun v56 =>
      if (v54 : Int32) = v56 then
        gL_isLike_L35 n x0 x1 x2 (x3 + 1)
      else
        wgrd ((0 : Int32) == 0 || (0 : Int32) == 1) (wr 0)
def gL_isLike (x0 : Nat) (x1 : Nat) : Mm → Option (Int32 × Mm × Nat × Nat) :=
  wb (gA x1 3) fun v57 =>
  wq (gJx4a65c_size_8abf5 v57) fun v58 =>
  wq (wcx 1 6 (fX7_count x0 6)) fun v59 =>
  wb (gI x1 0) fun v60 =>
  if (v59 : Int32) = v60 then
    wq (wcx 1 6 (fX7_count x0 7)) fun v61 =>
    if (v61 : Int32) = v58 then
      gL_isLike_L35 fu x0 x1 v58 0
    else
      wgrd ((0 : Int32) == 0 || (0 : Int32) == 1) (wr 0)
  else
    wgrd ((0 : Int32) == 0 || (0 : Int32) == 1) (wr 0)
def gX9_wrong_L47 (k4 : Nat → Int32 → Int32 → Int32 → Mm → Option (Int32 × Mm × Nat × Nat)) (x0 : Nat) (x1 : Int32) (x3 : Int32) (s0 : Int32) (s1 : Int32) : Mm → Option (Int32 × Mm × Nat × Nat) :=
  wb (rtn (s1 + s0)) fun v1 =>
  k4 x0 x1 v1 (x3 + 1)
def gX9_wrong_L4 : Nat → Nat → Int32 → Int32 → Int32 → Mm → Option (Int32 × Mm × Nat × Nat)
  | 0, _, _, _, _ => wfail
  | n + 1, x0, x1, x2, x3 =>
    wb (gI x0 0) fun v2 =>
    if v2 ≤ (x3 : Int32) then
      wr x2
    else
      wb (gA x0 4) fun v3 =>
      wq (gJx4a65c_get_915e3 v3 x1) fun h4 =>
      wb (ckK 13 h4) fun _ =>
      wb (lI h4 x3) fun v5 =>
      wb (gA x0 3) fun v6 =>
      wq (gJx4a65c_get_915e3 v6 x1) fun h7 =>
      wb (ckK 13 h7) fun _ =>
      wb (lI h7 x3) fun v8 =>
      if (v5 : Int32) = v8 then
        gX9_wrong_L47 (gX9_wrong_L4 n) x0 x1 x3 0 x2
      else
        gX9_wrong_L47 (gX9_wrong_L4 n) x0 x1 x3 1 x2
def gX9_wrong (x0 : Nat) (x1 : Int32) : Mm → Option (Int32 × Mm × Nat × Nat) :=
  gX9_wrong_L4 fu x0 x1 0 0
def gX9_send_L430 (k96 : Nat → Int32 → Int32 → Mm → Option (Unit × Mm × Nat × Nat)) (x0 : Nat) (x1 : Int32) (x2 : Int32) : Mm → Option (Unit × Mm × Nat × Nat) :=
  k96 x0 x1 (x2 + 1)
def gX9_send_L429 (k96 : Nat → Int32 → Int32 → Mm → Option (Unit × Mm × Nat × Nat)) (x0 : Nat) (x1 : Int32) (x2 : Int32) (s0 : Int32) (s1 : Int32) (s2 : Nat) : Mm → Option (Unit × Mm × Nat × Nat) :=
  wb (aI s2 s1 s0) fun _ =>
  gX9_send_L430 k96 x0 x1 x2
def gX9_send_L410 (k96 : Nat → Int32 → Int32 → Mm → Option (Unit × Mm × Nat × Nat)) (x0 : Nat) (x1 : Int32) (x2 : Int32) (x4 : Int32) (s0 : Nat) (s1 : Int32) (s2 : Nat) : Mm → Option (Unit × Mm × Nat × Nat) :=
  wq (gJx4a65c_set_bcc79 s2 s1 s0) fun h1 =>
  wb (gA x0 5) fun v2 =>
  if (x4 : Int32) = 0 then
    gX9_send_L429 k96 x0 x1 x2 2 x2 v2
  else
    gX9_send_L429 k96 x0 x1 x2 1 x2 v2
def gX9_send_L351 (k96 : Nat → Int32 → Int32 → Mm → Option (Unit × Mm × Nat × Nat)) : Nat → Nat → Int32 → Int32 → Mm → Option (Unit × Mm × Nat × Nat)
  | 0, _, _, _ => wfail
  | n + 1, x0, x1, x2 =>
    wq (gX9_isMark x0 x2) fun v3 =>
    if (v3 : Int32) = 0 then
      gX9_send_L351 k96 n x0 x1 (x2 + (-1))
    else
      gX9_send_L430 k96 x0 x1 (x2 + (-1))
def gX9_send_L299 (k96 : Nat → Int32 → Int32 → Mm → Option (Unit × Mm × Nat × Nat)) (x0 : Nat) (x1 : Int32) (x2 : Int32) (s0 : Int32) (s1 : Int32) (s2 : Nat) : Mm → Option (Unit × Mm × Nat × Nat) :=
  wb (aI s2 s1 s0) fun _ =>
  gX9_send_L430 k96 x0 x1 x2
def gX9_send_L261 (k96 : Nat → Int32 → Int32 → Mm → Option (Unit × Mm × Nat × Nat)) (x0 : Nat) (x1 : Int32) (x2 : Int32) (x4 : Int32) (x5 : Option Nat) (s0 : Int32) (s1 : Int32) (s2 : Nat) : Mm → Option (Unit × Mm × Nat × Nat) :=
  wb (pI s2 12 (s1 + s0)) fun _ =>
  wopc x5 (
    wb (gI x0 10) fun v5 =>
    wb (gA x0 1) fun v6 =>
    wb (lI v6 3) fun v7 =>
    if v7 ≤ (v5 : Int32) then
      wb (gA x0 4) fun v8 =>
      wb (gA x0 1) fun v9 =>
      wb (lI v9 2) fun v10 =>
      if (v10 : Int32) = 1 then
        wb (gI x0 0) fun v14 =>
        wq (nA 13 v14) fun h15 =>
        gX9_send_L410 k96 x0 x1 x2 x4 h15 x2 v8
      else
        wb (gA x0 4) fun v11 =>
        wq (gX9_above x0 v11 x2) fun h12 =>
        wq (nC 13 h12) fun h13 =>
        gX9_send_L410 k96 x0 x1 x2 x4 h13 x2 v8
    else
      wb (gI x0 10) fun v16 =>
      wb (pI x0 10 (v16 + 1)) fun _ =>
      wb (gA x0 8) fun v17 =>
      wb (lI v17 x2) fun v18 =>
      wb (aI v17 x2 (v18 + 1)) fun _ =>
      wb (gI x0 9) fun v19 =>
      wb (gA x0 1) fun v20 =>
      wb (lI v20 5) fun v21 =>
      wb (pI x0 9 (v19 + v21)) fun _ =>
      gX9_send_L351 k96 fu x0 x1 x2) (fun p4 =>
    wb (gA x0 4) fun v22 =>
    wq (gJx4a65c_set_bcc79 v22 x2 p4) fun h23 =>
    wb (gA x0 5) fun v24 =>
    wq (gX9_wrong x0 x2) fun v25 =>
    if (v25 : Int32) = 0 then
      gX9_send_L299 k96 x0 x1 x2 0 x2 v24
    else
      gX9_send_L299 k96 x0 x1 x2 3 x2 v24)
def gX9_send_L260 (k96 : Nat → Int32 → Int32 → Mm → Option (Unit × Mm × Nat × Nat)) (x0 : Nat) (x1 : Int32) (x2 : Int32) (x4 : Int32) (x5 : Option Nat) (s0 : Int32) (s1 : Nat) : Mm → Option (Unit × Mm × Nat × Nat) :=
  gX9_send_L261 k96 x0 x1 x2 x4 x5 0 s0 s1
def gX9_send_L237 (k96 : Nat → Int32 → Int32 → Mm → Option (Unit × Mm × Nat × Nat)) (x0 : Nat) (x1 : Int32) (x2 : Int32) (x4 : Int32) (x5 : Option Nat) (s0 : Int32) (s1 : Int32) (s2 : Nat) : Mm → Option (Unit × Mm × Nat × Nat) :=
  wb (pI s2 11 (s1 + s0)) fun _ =>
  wb (gI x0 12) fun v26 =>
  if (x4 : Int32) = 0 then
    wopc x5 (
      gX9_send_L261 k96 x0 x1 x2 x4 x5 1 v26 x0) (fun p27 =>
      gX9_send_L260 k96 x0 x1 x2 x4 (some p27) v26 x0)
  else
    gX9_send_L260 k96 x0 x1 x2 x4 x5 v26 x0
def gX9_send_L220 (k96 : Nat → Int32 → Int32 → Mm → Option (Unit × Mm × Nat × Nat)) (x0 : Nat) (x1 : Int32) (x2 : Int32) (x4 : Int32) (s0 : Option Nat) : Mm → Option (Unit × Mm × Nat × Nat) :=
  wb (gI x0 11) fun v28 =>
  if (x4 : Int32) = 0 then
    gX9_send_L237 k96 x0 x1 x2 x4 s0 0 v28 x0
  else
    gX9_send_L237 k96 x0 x1 x2 x4 s0 1 v28 x0
def gX9_send_L164 (k96 : Nat → Int32 → Int32 → Mm → Option (Unit × Mm × Nat × Nat)) (x0 : Nat) (x1 : Int32) (x2 : Int32) (s0 : Int32) : Mm → Option (Unit × Mm × Nat × Nat) :=
  if (s0 : Int32) = 0 then
    wq (gX9_isMark x0 x2) fun v29 =>
    if (v29 : Int32) = 0 then
      wq (gX9_codeOf x0 x2) fun h30 =>
      wb (gA x0 4) fun v31 =>
      wq (gX9_above x0 v31 x2) fun h32 =>
      wq (gL_read h30 h32) fun h33 =>
      gX9_send_L220 k96 x0 x1 x2 s0 h33
    else
      wb (gA x0 3) fun v34 =>
      wq (gJx4a65c_get_915e3 v34 x2) fun h35 =>
      wb (ckK 13 h35) fun _ =>
      wq (nC 13 h35) fun h36 =>
      gX9_send_L220 k96 x0 x1 x2 s0 (some h36)
  else
    gX9_send_L220 k96 x0 x1 x2 s0 none
def gX9_send_L96 : Nat → Nat → Int32 → Int32 → Mm → Option (Unit × Mm × Nat × Nat)
  | 0, _, _, _ => wfail
  | n + 1, x0, x1, x2 =>
    if x1 ≤ (x2 : Int32) then
      wr ()
    else
      wb (gA x0 1) fun v37 =>
      wb (lI v37 4) fun v38 =>
      wq (gX9_bitsOf x0 x2) fun v39 =>
      wb (rtn (v38 + v39)) fun v40 =>
      wb (gI x0 9) fun v41 =>
      wb (pI x0 9 (v41 + v40)) fun _ =>
      wb (gA x0 7) fun v42 =>
      wb (lI v42 x2) fun v43 =>
      wb (aI v42 x2 (v43 + v40)) fun _ =>
      wb (gA x0 6) fun v44 =>
      wb (lI v44 x2) fun v45 =>
      wb (aI v44 x2 (v45 + 1)) fun _ =>
      wb (gA x0 6) fun v46 =>
      wb (lI v46 x2) fun v47 =>
      wb (gA x0 2) fun v48 =>
      wb (lI v48 x2) fun v49 =>
      if v49 < (v47 : Int32) then
        gX9_send_L164 (gX9_send_L96 n) x0 x1 x2 0
      else
        gX9_send_L164 (gX9_send_L96 n) x0 x1 x2 1
def gX9_send_L21 : Nat → Nat → Int32 → Int32 → Mm → Option (Unit × Mm × Nat × Nat)
  | 0, _, _, _ => wfail
  | n + 1, x0, x1, x2 =>
    if x1 ≤ (x2 : Int32) then
      wq (nA 11 x1) fun h50 =>
      wb (pA x0 5 h50) fun _ =>
      wq (nA 11 x1) fun h51 =>
      wb (pA x0 6 h51) fun _ =>
      wq (nA 11 x1) fun h52 =>
      wb (pA x0 7 h52) fun _ =>
      wq (nA 11 x1) fun h53 =>
      wb (pA x0 8 h53) fun _ =>
      wb (pI x0 9 0) fun _ =>
      wb (pI x0 10 0) fun _ =>
      wb (pI x0 11 0) fun _ =>
      wb (pI x0 12 0) fun _ =>
      gX9_send_L96 fu x0 x1 0
    else
      wb (gA x0 4) fun v54 =>
      wb (gI x0 0) fun v55 =>
      wq (nA 13 v55) fun h56 =>
      wq (gJx4a65c_add_9ea2d v54 h56) fun v57 =>
      gX9_send_L21 n x0 x1 (x2 + 1)
def gX9_send (x0 : Nat) : Mm → Option (Unit × Mm × Nat × Nat) :=
  wb (gA x0 3) fun v58 =>
  wq (gJx4a65c_size_8abf5 v58) fun v59 =>
  wq (nO 44) fun h60 =>
  wq (gJx4a65c_init_da8c8 h60) fun _ =>
  wb (pA x0 4 h60) fun _ =>
  gX9_send_L21 fu x0 v59 0
def gX9_allWrong_L4 : Nat → Nat → Int32 → Int32 → Mm → Option (Int32 × Mm × Nat × Nat)
  | 0, _, _, _ => wfail
  | n + 1, x0, x1, x2 =>
    wb (gA x0 3) fun v1 =>
    wq (gJx4a65c_size_8abf5 v1) fun v2 =>
    if v2 ≤ (x2 : Int32) then
      wr x1
    else
      wq (gX9_wrong x0 x2) fun v3 =>
      wb (rtn (x1 + v3)) fun v4 =>
      gX9_allWrong_L4 n x0 v4 (x2 + 1)
def gX9_allWrong (x0 : Nat) : Mm → Option (Int32 × Mm × Nat × Nat) :=
  gX9_allWrong_L4 fu x0 0 0
def gX9_count_L39 (k14 : Int32 → Int32 → Nat → Int32 → Int32 → Mm → Option (Int32 × Mm × Nat × Nat)) (x1 : Int32) (x3 : Nat) (x4 : Int32) (x5 : Int32) (s0 : Int32) (s1 : Int32) : Mm → Option (Int32 × Mm × Nat × Nat) :=
  wb (rtn (s1 + s0)) fun v1 =>
  k14 x1 v1 x3 x4 (x5 + 1)
def gX9_count_L14 : Nat → Int32 → Int32 → Nat → Int32 → Int32 → Mm → Option (Int32 × Mm × Nat × Nat)
  | 0, _, _, _, _, _ => wfail
  | n + 1, x1, x2, x3, x4, x5 =>
    if x4 ≤ (x5 : Int32) then
      wr x2
    else
      wb (lI x3 x5) fun v2 =>
      if (v2 : Int32) = x1 then
        gX9_count_L39 (gX9_count_L14 n) x1 x3 x4 x5 1 x2
      else
        gX9_count_L39 (gX9_count_L14 n) x1 x3 x4 x5 0 x2
def gX9_count (x0 : Nat) (x1 : Int32) : Mm → Option (Int32 × Mm × Nat × Nat) :=
  wb (gA x0 5) fun v3 =>
  wb (gN v3) fun v4 =>
  gX9_count_L14 fu x1 0 v3 v4 0
def gL_isSent_L299 (k259 : Nat → Nat → Int32 → Int32 → Int32 → Mm → Option (Int32 × Mm × Nat × Nat)) (x0 : Nat) (x1 : Nat) (x2 : Int32) (x4 : Int32) (x5 : Int32) (s0 : Int32) (s1 : Int32) : Mm → Option (Int32 × Mm × Nat × Nat) :=
  if (s1 : Int32) = s0 then
    k259 x0 x1 x2 x4 (x5 + 1)
  else
    wgrd ((0 : Int32) == 0 || (0 : Int32) == 1) (wr 0)
def gL_isSent_L259 (k164 : Nat → Nat → Int32 → Int32 → Mm → Option (Int32 × Mm × Nat × Nat)) : Nat → Nat → Nat → Int32 → Int32 → Int32 → Mm → Option (Int32 × Mm × Nat × Nat)
  | 0, _, _, _, _, _ => wfail
  | n + 1, x0, x1, x2, x4, x5 =>
    wb (gI x1 0) fun v1 =>
    if v1 ≤ (x5 : Int32) then
      k164 x0 x1 x2 (x4 + 1)
    else
      wq (wcx 1 6 (fX7_received x0 x4 x5)) fun v2 =>
      wb (gA x1 4) fun v3 =>
      wq (gJx4a65c_get_915e3 v3 x4) fun h4 =>
      wb (ckK 13 h4) fun _ =>
      wb (lI h4 x5) fun v5 =>
      if (v5 : Int32) = 0 then
        gL_isSent_L299 (gL_isSent_L259 k164 n) x0 x1 x2 x4 x5 0 v2
      else
        gL_isSent_L299 (gL_isSent_L259 k164 n) x0 x1 x2 x4 x5 1 v2
def gL_isSent_L164 : Nat → Nat → Nat → Int32 → Int32 → Mm → Option (Int32 × Mm × Nat × Nat)
  | 0, _, _, _, _ => wfail
  | n + 1, x0, x1, x2, x4 =>
    if x2 ≤ (x4 : Int32) then
      wgrd ((1 : Int32) == 0 || (1 : Int32) == 1) (wr 1)
    else
      wq (wcx 2 12 (fX7_sentLine x0 x4 0)) fun v6 =>
      wb (gA x1 5) fun v7 =>
      wb (lI v7 x4) fun v8 =>
      if (v6 : Int32) = v8 then
        wq (wcx 2 12 (fX7_sentLine x0 x4 1)) fun v9 =>
        wb (gA x1 6) fun v10 =>
        wb (lI v10 x4) fun v11 =>
        if (v9 : Int32) = v11 then
          wq (wcx 2 12 (fX7_sentLine x0 x4 2)) fun v12 =>
          wb (gA x1 7) fun v13 =>
          wb (lI v13 x4) fun v14 =>
          if (v12 : Int32) = v14 then
            wq (wcx 2 12 (fX7_sentLine x0 x4 3)) fun v15 =>
            wq (gX9_wrong x1 x4) fun v16 =>
            if (v15 : Int32) = v16 then
              wq (wcx 2 12 (fX7_sentLine x0 x4 4)) fun v17 =>
              wb (gA x1 8) fun v18 =>
              wb (lI v18 x4) fun v19 =>
              if (v17 : Int32) = v19 then
                gL_isSent_L259 (gL_isSent_L164 n) fu x0 x1 x2 x4 0
              else
                wgrd ((0 : Int32) == 0 || (0 : Int32) == 1) (wr 0)
            else
              wgrd ((0 : Int32) == 0 || (0 : Int32) == 1) (wr 0)
          else
            wgrd ((0 : Int32) == 0 || (0 : Int32) == 1) (wr 0)
        else
          wgrd ((0 : Int32) == 0 || (0 : Int32) == 1) (wr 0)
      else
        wgrd ((0 : Int32) == 0 || (0 : Int32) == 1) (wr 0)
def gL_isSent_L130 : Nat → Nat → Nat → Int32 → Int32 → Mm → Option (Int32 × Mm × Nat × Nat)
  | 0, _, _, _, _ => wfail
  | n + 1, x0, x1, x2, x4 =>
    if 4 ≤ (x4 : Int32) then
      gL_isSent_L164 fu x0 x1 x2 0
    else
      wq (wcx 1 6 (fX7_sent x0 (3 + x4))) fun v20 =>
      wq (gX9_count x1 x4) fun v21 =>
      if (v20 : Int32) = v21 then
        gL_isSent_L130 n x0 x1 x2 (x4 + 1)
      else
        wgrd ((0 : Int32) == 0 || (0 : Int32) == 1) (wr 0)
def gL_isSent_L28 : Nat → Nat → Nat → Int32 → Int32 → Nat → Int32 → Int32 → Mm → Option (Int32 × Mm × Nat × Nat)
  | 0, _, _, _, _, _, _, _ => wfail
  | n + 1, x0, x1, x2, x3, x4, x5, x6 =>
    if x5 ≤ (x6 : Int32) then
      wq (wcx 1 6 (fX7_sent x0 0)) fun v22 =>
      wb (gI x1 9) fun v23 =>
      if (v22 : Int32) = v23 then
        wq (wcx 1 6 (fX7_sent x0 1)) fun v24 =>
        if (v24 : Int32) = x3 then
          wq (wcx 1 6 (fX7_sent x0 2)) fun v25 =>
          wb (gI x1 10) fun v26 =>
          if (v25 : Int32) = v26 then
            wq (wcx 1 6 (fX7_sent x0 7)) fun v27 =>
            wq (gX9_allWrong x1) fun v28 =>
            if (v27 : Int32) = v28 then
              wq (wcx 1 6 (fX7_sent x0 8)) fun v29 =>
              wb (gI x1 11) fun v30 =>
              if (v29 : Int32) = v30 then
                wq (wcx 1 6 (fX7_sent x0 9)) fun v31 =>
                wb (gI x1 12) fun v32 =>
                if (v31 : Int32) = v32 then
                  gL_isSent_L130 fu x0 x1 x2 0
                else
                  wgrd ((0 : Int32) == 0 || (0 : Int32) == 1) (wr 0)
              else
                wgrd ((0 : Int32) == 0 || (0 : Int32) == 1) (wr 0)
            else
              wgrd ((0 : Int32) == 0 || (0 : Int32) == 1) (wr 0)
          else
            wgrd ((0 : Int32) == 0 || (0 : Int32) == 1) (wr 0)
        else
          wgrd ((0 : Int32) == 0 || (0 : Int32) == 1) (wr 0)
      else
        wgrd ((0 : Int32) == 0 || (0 : Int32) == 1) (wr 0)
    else
      wb (lI x4 x6) fun v33 =>
      wb (rtn (x3 + v33)) fun v34 =>
      gL_isSent_L28 n x0 x1 x2 v34 x4 x5 (x6 + 1)
def gL_isSent (x0 : Nat) (x1 : Nat) : Mm → Option (Int32 × Mm × Nat × Nat) :=
  wq (gX9_send x1) fun _ =>
  wb (gA x1 3) fun v35 =>
  wq (gJx4a65c_size_8abf5 v35) fun v36 =>
  wb (gA x1 6) fun v37 =>
  wb (gN v37) fun v38 =>
  gL_isSent_L28 fu x0 x1 v36 0 v37 v38 0
def gX9_init (x0 : Nat) : Mm → Option (Unit × Mm × Nat × Nat) :=
  wq (nA 11 6) fun h1 =>
  wb (aI h1 0 4) fun _ =>
  wb (aI h1 1 0) fun _ =>
  wb (aI h1 2 0) fun _ =>
  wb (aI h1 3 0) fun _ =>
  wb (aI h1 4 8) fun _ =>
  wb (aI h1 5 16) fun _ =>
  wb (pA x0 1 h1) fun _ =>
  wq (nA 11 20) fun h2 =>
  wb (pA x0 2 h2) fun _ =>
  wq (nO 44) fun h3 =>
  wq (gJx4a65c_init_da8c8 h3) fun _ =>
  wb (pA x0 3 h3) fun _ =>
  wr ()
def gX9_copy_L52 : Nat → Nat → Nat → Mm → Option (Nat × Mm × Nat × Nat)
  | 0, _, _ => wfail
  | n + 1, x1, x2 =>
    wq (gJx35411_hasNext_aae02 x2) fun v1 =>
    if (v1 : Int32) = 0 then
      wr x1
    else
      wq (gJx35411_next_0502b x2) fun h2 =>
      wb (ckK 13 h2) fun _ =>
      wb (gA x1 3) fun v3 =>
      wq (nC 13 h2) fun h4 =>
      wq (gJx4a65c_add_9ea2d v3 h4) fun v5 =>
      gX9_copy_L52 n x1 x2
def gX9_copy (x0 : Nat) : Mm → Option (Nat × Mm × Nat × Nat) :=
  wq (nO 54) fun h6 =>
  wq (gX9_init h6) fun _ =>
  wb (gI x0 0) fun v7 =>
  wb (pI h6 0 v7) fun _ =>
  wb (gA x0 1) fun v8 =>
  wq (nC 11 v8) fun h9 =>
  wb (pA h6 1 h9) fun _ =>
  wb (gA x0 2) fun v10 =>
  wq (nC 11 v10) fun h11 =>
  wb (pA h6 2 h11) fun _ =>
  wb (gA x0 3) fun v12 =>
  wq (gJx4a65c_iterator_32c93 v12) fun h13 =>
  gX9_copy_L52 fu h6 h13
def gL_pick_L16 (s0 : Int32) : Mm → Option (Int32 × Mm × Nat × Nat) :=
  wr (s0 &&& 2147483647)
def gL_pick (x0 : Nat) (x1 : Int32) : Mm → Option (Int32 × Mm × Nat × Nat) :=
  wgrd (x0 == SB + 400) <|
  wb (xN) fun v1 =>
  if v1 ≤ (x1 : Int32) then
    gL_pick_L16 (97 * x1)
  else
    wgrd (x0 == SB + 400) <|
    wb (xI x1) fun v2 =>
    gL_pick_L16 v2
def gX10_next (x0 : Nat) (x1 : Int32) : Mm → Option (Int32 × Mm × Nat × Nat) :=
  wb (gI x0 1) fun v1 =>
  wb (pI x0 1 (v1 + 1)) fun _ =>
  wb (gA x0 0) fun v2 =>
  wb (gI x0 1) fun v3 =>
  wq (gL_pick v2 v3) fun v4 =>
  wgrd (!((x1 : Int32) == 0)) <|
  wr (v4 - v4 / x1 * x1)
def gL_isTold_L472 (k432 : Nat → Nat → Int32 → Int32 → Int32 → Int32 → Mm → Option (Int32 × Mm × Nat × Nat)) (x0 : Nat) (x1 : Nat) (x4 : Int32) (x6 : Int32) (x10 : Int32) (s0 : Int32) : Mm → Option (Int32 × Mm × Nat × Nat) :=
  k432 x0 x1 x4 x6 s0 (x10 + (-1))
def gL_isTold_L432 : Nat → Nat → Nat → Int32 → Int32 → Int32 → Int32 → Mm → Option (Int32 × Mm × Nat × Nat)
  | 0, _, _, _, _, _, _ => wfail
  | n + 1, x0, x1, x4, x6, x9, x10 =>
    if (x10 : Int32) < 0 then
      wq (wcc 0 0 (fX7_worst x0)) fun v1 =>
      if (v1 : Int32) = x4 then
        wq (wcc 0 0 (fX7_bestEvery x0)) fun v2 =>
        if (v2 : Int32) = x6 then
          wq (wcc 0 0 (fX7_needsSteps x0)) fun v3 =>
          if (v3 : Int32) = x9 then
            wgrd ((1 : Int32) == 0 || (1 : Int32) == 1) (wr 1)
          else
            wgrd ((0 : Int32) == 0 || (0 : Int32) == 1) (wr 0)
        else
          wgrd ((0 : Int32) == 0 || (0 : Int32) == 1) (wr 0)
      else
        wgrd ((0 : Int32) == 0 || (0 : Int32) == 1) (wr 0)
    else
      wq (gX9_copy x1) fun h4 =>
      wb (gA h4 1) fun v5 =>
      wb (aI v5 3 x10) fun _ =>
      wq (gX9_send h4) fun _ =>
      wq (gX9_allWrong h4) fun v6 =>
      if (v6 : Int32) = 0 then
        gL_isTold_L472 (gL_isTold_L432 n) x0 x1 x4 x6 x10 x10
      else
        gL_isTold_L472 (gL_isTold_L432 n) x0 x1 x4 x6 x10 x9
def gL_isTold_L419 (k336 : Nat → Nat → Int32 → Int32 → Int32 → Int32 → Int32 → Mm → Option (Int32 × Mm × Nat × Nat)) (x0 : Nat) (x1 : Nat) (x4 : Int32) (x6 : Int32) (x7 : Int32) (x8 : Int32) (x9 : Int32) : Mm → Option (Int32 × Mm × Nat × Nat) :=
  k336 x0 x1 x4 x6 x7 x8 (x9 + 1)
def gL_isTold_L401 (k336 : Nat → Nat → Int32 → Int32 → Int32 → Int32 → Int32 → Mm → Option (Int32 × Mm × Nat × Nat)) (x0 : Nat) (x1 : Nat) (x4 : Int32) (x9 : Int32) (x10 : Nat) : Mm → Option (Int32 × Mm × Nat × Nat) :=
  wq (gX9_allWrong x10) fun v7 =>
  wb (gI x10 9) fun v8 =>
  gL_isTold_L419 k336 x0 x1 x4 x9 v7 v8 x9
def gL_isTold_L336 : Nat → Nat → Nat → Int32 → Int32 → Int32 → Int32 → Int32 → Mm → Option (Int32 × Mm × Nat × Nat)
  | 0, _, _, _, _, _, _, _ => wfail
  | n + 1, x0, x1, x4, x6, x7, x8, x9 =>
    if 8 < (x9 : Int32) then
      gL_isTold_L432 fu x0 x1 x4 x6 (-1) 9
    else
      wq (gX9_copy x1) fun h9 =>
      wb (gA h9 1) fun v10 =>
      wb (aI v10 0 x9) fun _ =>
      wq (gX9_send h9) fun _ =>
      if (x6 : Int32) ≤ 0 then
        gL_isTold_L401 (gL_isTold_L336 n) x0 x1 x4 x9 h9
      else
        wq (gX9_allWrong h9) fun v11 =>
        if x7 < (v11 : Int32) then
          gL_isTold_L419 (gL_isTold_L336 n) x0 x1 x4 x6 x7 x8 x9
        else
          wq (gX9_allWrong h9) fun v12 =>
          if (v12 : Int32) = x7 then
            wb (gI h9 9) fun v13 =>
            if (v13 : Int32) < x8 then
              gL_isTold_L401 (gL_isTold_L336 n) x0 x1 x4 x9 h9
            else
              gL_isTold_L419 (gL_isTold_L336 n) x0 x1 x4 x6 x7 x8 x9
          else
            gL_isTold_L401 (gL_isTold_L336 n) x0 x1 x4 x9 h9
def gL_isTold_L303 (k17 : Nat → Nat → Nat → Int32 → Int32 → Int32 → Int32 → Mm → Option (Int32 × Mm × Nat × Nat)) (x0 : Nat) (x1 : Nat) (x2 : Nat) (x3 : Int32) (x4 : Int32) (x5 : Int32) (x6 : Int32) (x10 : Int32) (x12 : Int32) : Mm → Option (Int32 × Mm × Nat × Nat) :=
  wq (wcx 2 12 (fX7_readBelow x0 x6 x10)) fun v14 =>
  if (v14 : Int32) = x12 then
    k17 x0 x1 x2 x3 x4 x5 (x6 + 1)
  else
    wgrd ((0 : Int32) == 0 || (0 : Int32) == 1) (wr 0)
def gL_isTold_L294 (k250 : Nat → Nat → Nat → Int32 → Int32 → Int32 → Int32 → Int32 → Option Nat → Int32 → Int32 → Mm → Option (Int32 × Mm × Nat × Nat)) (x0 : Nat) (x1 : Nat) (x2 : Nat) (x3 : Int32) (x4 : Int32) (x5 : Int32) (x6 : Int32) (x10 : Int32) (x11 : Option Nat) (x13 : Int32) (s0 : Int32) (s1 : Int32) : Mm → Option (Int32 × Mm × Nat × Nat) :=
  wb (rtn (s1 + s0)) fun v15 =>
  k250 x0 x1 x2 x3 x4 x5 x6 x10 x11 v15 (x13 + 1)
def gL_isTold_L250 (k17 : Nat → Nat → Nat → Int32 → Int32 → Int32 → Int32 → Mm → Option (Int32 × Mm × Nat × Nat)) : Nat → Nat → Nat → Nat → Int32 → Int32 → Int32 → Int32 → Int32 → Option Nat → Int32 → Int32 → Mm → Option (Int32 × Mm × Nat × Nat)
  | 0, _, _, _, _, _, _, _, _, _, _, _ => wfail
  | n + 1, x0, x1, x2, x3, x4, x5, x6, x10, x11, x12, x13 =>
    wb (gI x1 0) fun v16 =>
    if v16 ≤ (x13 : Int32) then
      gL_isTold_L303 k17 x0 x1 x2 x3 x4 x5 x6 x10 x12
    else
      wopc x11 (
        gL_isTold_L303 k17 x0 x1 x2 x3 x4 x5 x6 x10 x12) (fun p17 =>
        wb (lI p17 x13) fun v18 =>
        wb (gA x1 3) fun v19 =>
        wq (gJx4a65c_get_915e3 v19 x6) fun h20 =>
        wb (ckK 13 h20) fun _ =>
        wb (lI h20 x13) fun v21 =>
        if (v18 : Int32) = v21 then
          gL_isTold_L294 (gL_isTold_L250 k17 n) x0 x1 x2 x3 x4 x5 x6 x10 (some p17) x13 0 x12
        else
          gL_isTold_L294 (gL_isTold_L250 k17 n) x0 x1 x2 x3 x4 x5 x6 x10 (some p17) x13 1 x12)
def gL_isTold_L245 (k17 : Nat → Nat → Nat → Int32 → Int32 → Int32 → Int32 → Mm → Option (Int32 × Mm × Nat × Nat)) (x0 : Nat) (x1 : Nat) (x2 : Nat) (x3 : Int32) (x4 : Int32) (x5 : Int32) (x6 : Int32) (x10 : Int32) (x11 : Option Nat) (s0 : Int32) : Mm → Option (Int32 × Mm × Nat × Nat) :=
  gL_isTold_L250 k17 fu x0 x1 x2 x3 x4 x5 x6 x10 x11 s0 0
def gL_isTold_L230 (k17 : Nat → Nat → Nat → Int32 → Int32 → Int32 → Int32 → Mm → Option (Int32 × Mm × Nat × Nat)) (x0 : Nat) (x1 : Nat) (x2 : Nat) (x3 : Int32) (x4 : Int32) (x5 : Int32) (x6 : Int32) (x10 : Int32) (s0 : Nat) (s1 : Nat) : Mm → Option (Int32 × Mm × Nat × Nat) :=
  wq (gL_read s1 s0) fun h22 =>
  wopc h22 (
    gL_isTold_L245 k17 x0 x1 x2 x3 x4 x5 x6 x10 h22 (-1)) (fun p23 =>
    gL_isTold_L245 k17 x0 x1 x2 x3 x4 x5 x6 x10 (some p23) 0)
def gL_isTold_L187 (k17 : Nat → Nat → Nat → Int32 → Int32 → Int32 → Int32 → Mm → Option (Int32 × Mm × Nat × Nat)) (x0 : Nat) (x1 : Nat) (x2 : Nat) (x3 : Int32) (x4 : Int32) (x5 : Int32) (x6 : Int32) : Mm → Option (Int32 × Mm × Nat × Nat) :=
  wq (gX10_next x2 (x3 + 1)) fun v24 =>
  wb (rtn (v24 - 1)) fun v25 =>
  wq (gX9_codeOf x1 x6) fun h26 =>
  if 0 ≤ (v25 : Int32) then
    wb (gA x1 3) fun v27 =>
    wq (gJx4a65c_get_915e3 v27 v25) fun h28 =>
    wb (ckK 13 h28) fun _ =>
    gL_isTold_L230 k17 x0 x1 x2 x3 x4 x5 x6 v25 h28 h26
  else
    wb (gI x1 0) fun v29 =>
    wq (nA 13 v29) fun h30 =>
    gL_isTold_L230 k17 x0 x1 x2 x3 x4 x5 x6 v25 h30 h26
def gL_isTold_L176 (k17 : Nat → Nat → Nat → Int32 → Int32 → Int32 → Int32 → Mm → Option (Int32 × Mm × Nat × Nat)) (x0 : Nat) (x1 : Nat) (x2 : Nat) (x3 : Int32) (x6 : Int32) (x7 : Nat) : Mm → Option (Int32 × Mm × Nat × Nat) :=
  wq (gX9_allWrong x7) fun v31 =>
  gL_isTold_L187 k17 x0 x1 x2 x3 x6 v31 x6
def gL_isTold_L112 (k69 : Nat → Nat → Nat → Int32 → Int32 → Int32 → Int32 → Nat → Int32 → Int32 → Int32 → Mm → Option (Int32 × Mm × Nat × Nat)) (x0 : Nat) (x1 : Nat) (x2 : Nat) (x3 : Int32) (x4 : Int32) (x5 : Int32) (x6 : Int32) (x7 : Nat) (x8 : Int32) (x10 : Int32) (s0 : Int32) : Mm → Option (Int32 × Mm × Nat × Nat) :=
  k69 x0 x1 x2 x3 x4 x5 x6 x7 x8 s0 (x10 + 1)
def gL_isTold_L92 (k69 : Nat → Nat → Nat → Int32 → Int32 → Int32 → Int32 → Nat → Int32 → Int32 → Int32 → Mm → Option (Int32 × Mm × Nat × Nat)) (x0 : Nat) (x1 : Nat) (x2 : Nat) (x3 : Int32) (x4 : Int32) (x5 : Int32) (x6 : Int32) (x7 : Nat) (x9 : Int32) (x10 : Int32) (s0 : Int32) (s1 : Int32) : Mm → Option (Int32 × Mm × Nat × Nat) :=
  wb (rtn (s1 + s0)) fun v32 =>
  wq (gX9_wrong x7 x10) fun v33 =>
  if (v33 : Int32) ≤ 0 then
    gL_isTold_L112 k69 x0 x1 x2 x3 x4 x5 x6 x7 v32 x10 x9
  else
    gL_isTold_L112 k69 x0 x1 x2 x3 x4 x5 x6 x7 v32 x10 x10
def gL_isTold_L69 (k17 : Nat → Nat → Nat → Int32 → Int32 → Int32 → Int32 → Mm → Option (Int32 × Mm × Nat × Nat)) : Nat → Nat → Nat → Nat → Int32 → Int32 → Int32 → Int32 → Nat → Int32 → Int32 → Int32 → Mm → Option (Int32 × Mm × Nat × Nat)
  | 0, _, _, _, _, _, _, _, _, _, _, _ => wfail
  | n + 1, x0, x1, x2, x3, x4, x5, x6, x7, x8, x9, x10 =>
    if x3 ≤ (x10 : Int32) then
      wq (wcx 2 12 (fX7_harm x0 x6 0)) fun v34 =>
      if (v34 : Int32) = x8 then
        wq (wcx 2 12 (fX7_harm x0 x6 1)) fun v35 =>
        wq (gX9_allWrong x7) fun v36 =>
        if (v35 : Int32) = v36 then
          wq (wcx 2 12 (fX7_harm x0 x6 2)) fun v37 =>
          if (v37 : Int32) = x9 then
            if (x4 : Int32) < 0 then
              gL_isTold_L176 k17 x0 x1 x2 x3 x6 x7
            else
              wq (gX9_allWrong x7) fun v38 =>
              if (v38 : Int32) ≤ x5 then
                gL_isTold_L187 k17 x0 x1 x2 x3 x4 x5 x6
              else
                gL_isTold_L176 k17 x0 x1 x2 x3 x6 x7
          else
            wgrd ((0 : Int32) == 0 || (0 : Int32) == 1) (wr 0)
        else
          wgrd ((0 : Int32) == 0 || (0 : Int32) == 1) (wr 0)
      else
        wgrd ((0 : Int32) == 0 || (0 : Int32) == 1) (wr 0)
    else
      wq (gX9_wrong x7 x10) fun v39 =>
      if (v39 : Int32) ≤ 0 then
        gL_isTold_L92 (gL_isTold_L69 k17 n) x0 x1 x2 x3 x4 x5 x6 x7 x9 x10 0 x8
      else
        gL_isTold_L92 (gL_isTold_L69 k17 n) x0 x1 x2 x3 x4 x5 x6 x7 x9 x10 1 x8
def gL_isTold_L17 : Nat → Nat → Nat → Nat → Int32 → Int32 → Int32 → Int32 → Mm → Option (Int32 × Mm × Nat × Nat)
  | 0, _, _, _, _, _, _, _ => wfail
  | n + 1, x0, x1, x2, x3, x4, x5, x6 =>
    if x3 ≤ (x6 : Int32) then
      gL_isTold_L336 fu x0 x1 x4 0 0 0 1
    else
      wq (gX9_copy x1) fun h40 =>
      wq (nA 11 20) fun h41 =>
      wb (pA h40 2 h41) fun _ =>
      wb (gA h40 2) fun v42 =>
      wb (aI v42 x6 1) fun _ =>
      wb (gA h40 1) fun v43 =>
      wb (aI v43 3 0) fun _ =>
      wq (gX9_send h40) fun _ =>
      gL_isTold_L69 (gL_isTold_L17 n) fu x0 x1 x2 x3 x4 x5 x6 h40 0 (-1) 0
def gL_isTold (x0 : Nat) (x1 : Nat) (x2 : Nat) : Mm → Option (Int32 × Mm × Nat × Nat) :=
  wb (gA x1 3) fun v44 =>
  wq (gJx4a65c_size_8abf5 v44) fun v45 =>
  gL_isTold_L17 fu x0 x1 x2 v45 (-1) 0 0
def gL_told_L41 (k16 : Nat → Nat → Int32 → Int32 → Mm → Option (Nat × Mm × Nat × Nat)) (x1 : Nat) (x2 : Nat) (x3 : Int32) (x4 : Int32) (s0 : Int32) (s1 : Nat) : Mm → Option (Nat × Mm × Nat × Nat) :=
  wq (gJ4_append_cf468 s1 s0) fun h1 =>
  k16 x1 x2 x3 (x4 + 1)
def gL_told_L16 : Nat → Nat → Nat → Int32 → Int32 → Mm → Option (Nat × Mm × Nat × Nat)
  | 0, _, _, _, _ => wfail
  | n + 1, x1, x2, x3, x4 =>
    if x3 ≤ (x4 : Int32) then
      wq (gJ4_toString_0e30d x1) fun h2 =>
      wr h2
    else
      wb (lI x2 x4) fun v3 =>
      if (v3 : Int32) = 0 then
        gL_told_L41 (gL_told_L16 n) x1 x2 x3 x4 46 x1
      else
        gL_told_L41 (gL_told_L16 n) x1 x2 x3 x4 35 x1
def gL_told (x0 : Nat) : Mm → Option (Nat × Mm × Nat × Nat) :=
  wq (nO 41) fun h4 =>
  wq (gJ4_init_da8c8 h4) fun _ =>
  wb (gN x0) fun v5 =>
  gL_told_L16 fu h4 x0 v5 0
def gL_feed_L55 (k22 : Nat → Nat → Int32 → Int32 → Int32 → Mm → Option (Unit × Mm × Nat × Nat)) (x0 : Nat) (x1 : Nat) (x3 : Int32) (x5 : Int32) (s0 : Int32) (s1 : Int32) : Mm → Option (Unit × Mm × Nat × Nat) :=
  wb (rtn (s1 ||| s0)) fun v1 =>
  k22 x0 x1 x3 v1 (x5 + 1)
def gL_feed_L22 (k8 : Nat → Nat → Int32 → Mm → Option (Unit × Mm × Nat × Nat)) : Nat → Nat → Nat → Int32 → Int32 → Int32 → Mm → Option (Unit × Mm × Nat × Nat)
  | 0, _, _, _, _, _ => wfail
  | n + 1, x0, x1, x3, x4, x5 =>
    if (x3 + 4) ≤ (x5 : Int32) then
      wq (wcx 1 6 (fX7_appendText x0 x4)) fun v2 =>
      k8 x0 x1 (x3 + 4)
    else
      wq (gJ0_length_8abf5 x1) fun v3 =>
      if v3 ≤ (x5 : Int32) then
        gL_feed_L55 (gL_feed_L22 k8 n) x0 x1 x3 x5 32 (x4 <<< (8 &&& 31))
      else
        wq (gJ0_charAt_5068e x1 x5) fun v4 =>
        gL_feed_L55 (gL_feed_L22 k8 n) x0 x1 x3 x5 v4 (x4 <<< (8 &&& 31))
def gL_feed_L8 : Nat → Nat → Nat → Int32 → Mm → Option (Unit × Mm × Nat × Nat)
  | 0, _, _, _ => wfail
  | n + 1, x0, x1, x3 =>
    wq (gJ0_length_8abf5 x1) fun v5 =>
    if v5 ≤ (x3 : Int32) then
      wq (gJ0_length_8abf5 x1) fun v6 =>
      wq (wcx 1 6 (fX7_truncateText x0 v6)) fun v7 =>
      wr ()
    else
      gL_feed_L22 (gL_feed_L8 n) fu x0 x1 x3 0 x3
def gL_feed (x0 : Nat) (x1 : Nat) : Mm → Option (Unit × Mm × Nat × Nat) :=
  wq (wcx 1 6 (fX7_truncateText x0 0)) fun v8 =>
  gL_feed_L8 fu x0 x1 0
def gL_drawnRow_L102 (k70 : Nat → Nat → Int32 → Mm → Option (Nat × Mm × Nat × Nat)) : Nat → Nat → Nat → Int32 → Int32 → Int32 → Int32 → Mm → Option (Nat × Mm × Nat × Nat)
  | 0, _, _, _, _, _, _ => wfail
  | n + 1, x0, x2, x4, x5, x6, x7 =>
    wb (gN x2) fun v1 =>
    wq (gX10_next x0 9) fun v2 =>
    if (mmin v1 ((x5 + 1) + v2)) ≤ (x7 : Int32) then
      k70 x0 x2 (x4 + (-1))
    else
      wb (aZ x2 x7 x6) fun _ =>
      gL_drawnRow_L102 k70 n x0 x2 x4 x5 x6 (x7 + 1)
def gL_drawnRow_L96 (k70 : Nat → Nat → Int32 → Mm → Option (Nat × Mm × Nat × Nat)) (x0 : Nat) (x2 : Nat) (x4 : Int32) (x5 : Int32) (s0 : Int32) : Mm → Option (Nat × Mm × Nat × Nat) :=
  gL_drawnRow_L102 k70 fu x0 x2 x4 x5 s0 x5
def gL_drawnRow_L70 : Nat → Nat → Nat → Int32 → Mm → Option (Nat × Mm × Nat × Nat)
  | 0, _, _, _ => wfail
  | n + 1, x0, x2, x4 =>
    if (x4 : Int32) < 0 then
      wr x2
    else
      wb (gN x2) fun v3 =>
      wq (gX10_next x0 v3) fun v4 =>
      wq (gX10_next x0 2) fun v5 =>
      if (v5 : Int32) = 0 then
        gL_drawnRow_L96 (gL_drawnRow_L70 n) x0 x2 x4 v4 1
      else
        gL_drawnRow_L96 (gL_drawnRow_L70 n) x0 x2 x4 v4 0
def gL_drawnRow_L56 (k16 : Nat → Nat → Nat → Int32 → Int32 → Mm → Option (Nat × Mm × Nat × Nat)) (x0 : Nat) (x1 : Nat) (x2 : Nat) (x3 : Int32) (x4 : Int32) (s0 : Int32) (s1 : Int32) (s2 : Nat) : Mm → Option (Nat × Mm × Nat × Nat) :=
  wb (aZ s2 s1 s0) fun _ =>
  k16 x0 x1 x2 x3 (x4 + 1)
def gL_drawnRow_L55 (k16 : Nat → Nat → Nat → Int32 → Int32 → Mm → Option (Nat × Mm × Nat × Nat)) (x0 : Nat) (x1 : Nat) (x2 : Nat) (x3 : Int32) (x4 : Int32) (s0 : Int32) (s1 : Nat) : Mm → Option (Nat × Mm × Nat × Nat) :=
  gL_drawnRow_L56 k16 x0 x1 x2 x3 x4 0 s0 s1
def gL_drawnRow_L16 : Nat → Nat → Nat → Nat → Int32 → Int32 → Mm → Option (Nat × Mm × Nat × Nat)
  | 0, _, _, _, _, _ => wfail
  | n + 1, x0, x1, x2, x3, x4 =>
    wb (gN x2) fun v6 =>
    if v6 ≤ (x4 : Int32) then
      wq (gX10_next x0 3) fun v7 =>
      gL_drawnRow_L70 fu x0 x2 v7
    else
      if ((x4 - x3) : Int32) < 0 then
        gL_drawnRow_L55 (gL_drawnRow_L16 n) x0 x1 x2 x3 x4 x4 x2
      else
        wb (gN x2) fun v8 =>
        if v8 ≤ ((x4 - x3) : Int32) then
          gL_drawnRow_L55 (gL_drawnRow_L16 n) x0 x1 x2 x3 x4 x4 x2
        else
          wb (lI x1 (x4 - x3)) fun v9 =>
          if (v9 : Int32) = 0 then
            gL_drawnRow_L55 (gL_drawnRow_L16 n) x0 x1 x2 x3 x4 x4 x2
          else
            gL_drawnRow_L56 (gL_drawnRow_L16 n) x0 x1 x2 x3 x4 1 x4 x2
def gL_drawnRow (x0 : Nat) (x1 : Nat) : Mm → Option (Nat × Mm × Nat × Nat) :=
  wb (gN x1) fun v10 =>
  wq (nA 13 v10) fun h11 =>
  wq (gX10_next x0 5) fun v12 =>
  wb (rtn (v12 - 2)) fun v13 =>
  gL_drawnRow_L16 fu x0 x1 h11 v13 0
def gX10_init (x0 : Nat) (x1 : Nat) : Mm → Option (Unit × Mm × Nat × Nat) :=
  wb (pA x0 0 x1) fun _ =>
  wr ()
