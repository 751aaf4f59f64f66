def gJx4a65c_size_8abf5 (x0 : Nat) : Mm → Option (Int32 × Mm × Nat × Nat) :=
  wb (gI x0 2) fun v1 =>
  wr v1
def gJ3_checkIndex_8e157_L9 : Mm → Option (Int32 × Mm × Nat × Nat) :=
  wfail
def gJ3_checkIndex_8e157 (x0 : Int32) (x1 : Int32) : Mm → Option (Int32 × Mm × Nat × Nat) :=
  if (x0 : Int32) < 0 then
    wfail
  else
    if (x0 : Int32) < x1 then
      wr x0
    else
      wfail
def gJ15_checkIndex_7cf53 (x0 : Int32) (x1 : Int32) : Mm → Option (Int32 × Mm × Nat × Nat) :=
  wq (gJ3_checkIndex_8e157 x0 x1) fun v1 =>
  wr v1
def gJx4a65c_elementData_915e3 (x0 : Nat) (x1 : Int32) : Mm → Option (Nat × Mm × Nat × Nat) :=
  wb (gA x0 1) fun v1 =>
  wgrd (v1 != EB) <|
  wb (lA v1 x1) fun v2 =>
  wr v2
def gJx4a65c_get_915e3 (x0 : Nat) (x1 : Int32) : Mm → Option (Nat × Mm × Nat × Nat) :=
  wb (gI x0 2) fun v1 =>
  wq (gJ15_checkIndex_7cf53 x1 v1) fun v2 =>
  wq (gJx4a65c_elementData_915e3 x0 x1) fun h3 =>
  wr h3
def gJxa1e45_init_da8c8 (x0 : Nat) : Mm → Option (Unit × Mm × Nat × Nat) :=
  wr ()
def gJxc12de_init_da8c8 (x0 : Nat) : Mm → Option (Unit × Mm × Nat × Nat) :=
  wq (gJxa1e45_init_da8c8 x0) fun _ =>
  wb (pI x0 0 0) fun _ =>
  wr ()
def gJx4a65c_init_da8c8 (x0 : Nat) : Mm → Option (Unit × Mm × Nat × Nat) :=
  wq (gJxc12de_init_da8c8 x0) fun _ =>
  wb (pA x0 1 EB) fun _ =>
  wr ()
def gJ6_valueOf_2dffe_L23 : Mm → Option (Nat × Mm × Nat × Nat) :=
  wfail
def gJ6_valueOf_2dffe (x0 : Int32) : Mm → Option (Nat × Mm × Nat × Nat) :=
  if (x0 : Int32) < (-128) then
    wfail
  else
    if 127 < (x0 : Int32) then
      wfail
    else
      wb (tC (x0 + 128)) fun v1 =>
      wr v1
def gJ8_newLength_cabcc_L21 (x0 : Int32) : Mm → Option (Int32 × Mm × Nat × Nat) :=
  wfail
def gJ8_newLength_cabcc (x0 : Int32) (x1 : Int32) (x2 : Int32) : Mm → Option (Int32 × Mm × Nat × Nat) :=
  wb (rtn (x0 + (mmax x1 x2))) fun v1 =>
  if v1 ≤ (0 : Int32) then
    wfail
  else
    if 2147483639 < (v1 : Int32) then
      wfail
    else
      wr v1
def gJ7_copyOf_6403c (x0 : Nat) (x1 : Int32) : Mm → Option (Nat × Mm × Nat × Nat) :=
  wq (nA 15 x1) fun h1 =>
  wb (gN x0) fun v2 =>
  wb (cpR x0 0 h1 0 (mmin v2 x1)) fun _ =>
  wr h1
def gJ7_copyOf_1904c (x0 : Nat) (x1 : Int32) : Mm → Option (Nat × Mm × Nat × Nat) :=
  wq (gJ7_copyOf_6403c x0 x1) fun h1 =>
  wr h1
def gJx4a65c_grow_92f84_L20 (x0 : Nat) (x1 : Int32) (x2 : Int32) : Mm → Option (Nat × Mm × Nat × Nat) :=
  wq (gJ8_newLength_cabcc x2 (x1 - x2) (x2 >>> (1 &&& 31))) fun v1 =>
  wb (gA x0 1) fun v2 =>
  wgrd (v2 != EB) <|
  wq (gJ7_copyOf_1904c v2 v1) fun h3 =>
  wb (pA x0 1 h3) fun _ =>
  wr h3
def gJx4a65c_grow_92f84 (x0 : Nat) (x1 : Int32) : Mm → Option (Nat × Mm × Nat × Nat) :=
  wb (gA x0 1) fun v4 =>
  wb (gN v4) fun v5 =>
  if 0 < (v5 : Int32) then
    gJx4a65c_grow_92f84_L20 x0 x1 v5
  else
    wb (gA x0 1) fun v6 =>
    if v6 = EB then
      wq (nA 15 (mmax 10 x1)) fun h7 =>
      wb (pA x0 1 h7) fun _ =>
      wr h7
    else
      gJx4a65c_grow_92f84_L20 x0 x1 v5
def gJx4a65c_grow_d5877 (x0 : Nat) : Mm → Option (Nat × Mm × Nat × Nat) :=
  wb (gI x0 2) fun v1 =>
  wq (gJx4a65c_grow_92f84 x0 (v1 + 1)) fun h2 =>
  wr h2
def gJx4a65c_add_72be8_L11 (x0 : Nat) (x1 : Nat) (x2 : Nat) (x3 : Int32) : Mm → Option (Unit × Mm × Nat × Nat) :=
  wgrd (x2 != EB) <|
  wb (aA x2 x3 x1) fun _ =>
  wb (pI x0 2 (x3 + 1)) fun _ =>
  wr ()
def gJx4a65c_add_72be8 (x0 : Nat) (x1 : Nat) (x2 : Nat) (x3 : Int32) : Mm → Option (Unit × Mm × Nat × Nat) :=
  wb (gN x2) fun v1 =>
  if (x3 : Int32) = v1 then
    wq (gJx4a65c_grow_d5877 x0) fun h2 =>
    gJx4a65c_add_72be8_L11 x0 x1 h2 x3
  else
    gJx4a65c_add_72be8_L11 x0 x1 x2 x3
def gJx4a65c_add_9ea2d (x0 : Nat) (x1 : Nat) : Mm → Option (Int32 × Mm × Nat × Nat) :=
  wb (gI x0 0) fun v1 =>
  wb (pI x0 0 (v1 + 1)) fun _ =>
  wb (gA x0 1) fun v2 =>
  wb (gI x0 2) fun v3 =>
  wq (gJx4a65c_add_72be8 x0 x1 v2 v3) fun _ =>
  wgrd ((1 : Int32) == 0 || (1 : Int32) == 1) (wr 1)
def gJx35411_init_45d68 (x0 : Nat) (x1 : Nat) : Mm → Option (Unit × Mm × Nat × Nat) :=
  wb (pA x0 3 x1) fun _ =>
  wb (pI x0 1 (-1)) fun _ =>
  wb (gA x0 3) fun v1 =>
  wb (gI v1 0) fun v2 =>
  wb (pI x0 2 v2) fun _ =>
  wr ()
def gJx4a65c_iterator_32c93 (x0 : Nat) : Mm → Option (Nat × Mm × Nat × Nat) :=
  wq (nO 43) fun h1 =>
  wq (gJx35411_init_45d68 h1 x0) fun _ =>
  wr h1
def gJx35411_hasNext_aae02 (x0 : Nat) : Mm → Option (Int32 × Mm × Nat × Nat) :=
  wb (gI x0 0) fun v1 =>
  wb (gA x0 3) fun v2 =>
  wb (gI v2 2) fun v3 =>
  if (v1 : Int32) = v3 then
    wgrd ((0 : Int32) == 0 || (0 : Int32) == 1) (wr 0)
  else
    wgrd ((1 : Int32) == 0 || (1 : Int32) == 1) (wr 1)
def gJx35411_checkForComodification_da8c8 (x0 : Nat) : Mm → Option (Unit × Mm × Nat × Nat) :=
  wb (gA x0 3) fun v1 =>
  wb (gI v1 0) fun v2 =>
  wb (gI x0 2) fun v3 =>
  if (v2 : Int32) = v3 then
    wr ()
  else
    wfail
def gJx35411_next_0502b (x0 : Nat) : Mm → Option (Nat × Mm × Nat × Nat) :=
  wq (gJx35411_checkForComodification_da8c8 x0) fun _ =>
  wb (gI x0 0) fun v1 =>
  wb (gA x0 3) fun v2 =>
  wb (gI v2 2) fun v3 =>
  if (v1 : Int32) < v3 then
    wb (gA x0 3) fun v4 =>
    wb (gA v4 1) fun v5 =>
    wb (gN v5) fun v6 =>
    if (v1 : Int32) < v6 then
      wb (pI x0 0 (v1 + 1)) fun _ =>
      wb (pI x0 1 v1) fun _ =>
      wgrd (v5 != EB) <|
      wb (lA v5 v1) fun v7 =>
      wr v7
    else
      wfail
  else
    wfail
def gJ6_intValue_8abf5 (x0 : Nat) : Mm → Option (Int32 × Mm × Nat × Nat) :=
  wr (bxv x0)
def gJx4a65c_set_bcc79 (x0 : Nat) (x1 : Int32) (x2 : Nat) : Mm → Option (Nat × Mm × Nat × Nat) :=
  wb (gI x0 2) fun v1 =>
  wq (gJ15_checkIndex_7cf53 x1 v1) fun v2 =>
  wq (gJx4a65c_elementData_915e3 x0 x1) fun h3 =>
  wb (gA x0 1) fun v4 =>
  wgrd (v4 != EB) <|
  wb (aA v4 x1 x2) fun _ =>
  wr h3
def gJ5_init_d00df (x0 : Nat) (x1 : Int32) : Mm → Option (Unit × Mm × Nat × Nat) :=
  if (1 : Int32) = 0 then
    wfail
  else
    wq (nA 10 x1) fun h1 =>
    wb (pA x0 0 h1) fun _ =>
    wb (pZ x0 1 0) fun _ =>
    wr ()
def gJ4_init_da8c8 (x0 : Nat) : Mm → Option (Unit × Mm × Nat × Nat) :=
  wq (gJ5_init_d00df x0 16) fun _ =>
  wr ()
def gJ5_newCapacity_0f7a4 (x0 : Nat) (x1 : Int32) : Mm → Option (Int32 × Mm × Nat × Nat) :=
  wb (gA x0 0) fun v1 =>
  wb (gN v1) fun v2 =>
  wb (gI x0 1) fun v3 =>
  wb (rtn (x1 <<< (v3 &&& 31))) fun v4 =>
  wb (rtn (v4 - v2)) fun v5 =>
  wb (gI x0 1) fun v6 =>
  wq (gJ8_newLength_cabcc v2 v5 (v2 + (2 <<< (v6 &&& 31)))) fun v7 =>
  if (v7 : Int32) = 2147483647 then
    wfail
  else
    wb (gI x0 1) fun v8 =>
    wr (v7 >>> (v8 &&& 31))
def gJ7_copyOf_9075b (x0 : Nat) (x1 : Int32) : Mm → Option (Nat × Mm × Nat × Nat) :=
  wb (gN x0) fun v1 =>
  if (x1 : Int32) = v1 then
    wq (nC 10 x0) fun h4 =>
    wr h4
  else
    wq (nA 10 x1) fun h2 =>
    wb (gN x0) fun v3 =>
    wb (cpB 10 x0 0 h2 0 (mmin v3 x1)) fun _ =>
    wr h2
def gJ5_ensureCapacityInternal_d00df (x0 : Nat) (x1 : Int32) : Mm → Option (Unit × Mm × Nat × Nat) :=
  wb (gA x0 0) fun v1 =>
  wb (gN v1) fun v2 =>
  wb (gI x0 1) fun v3 =>
  wb (rtn (v2 >>> (v3 &&& 31))) fun v4 =>
  if ((x1 - v4) : Int32) ≤ 0 then
    wr ()
  else
    wb (gA x0 0) fun v5 =>
    wq (gJ5_newCapacity_0f7a4 x0 x1) fun v6 =>
    wb (gI x0 1) fun v7 =>
    wq (gJ7_copyOf_9075b v5 (v6 <<< (v7 &&& 31))) fun h8 =>
    wb (pA x0 0 h8) fun _ =>
    wr ()
def gJ5_isLatin1_aae02 (x0 : Nat) : Mm → Option (Int32 × Mm × Nat × Nat) :=
  if (1 : Int32) = 0 then
    wgrd ((0 : Int32) == 0 || (0 : Int32) == 1) (wr 0)
  else
    wb (gI x0 1) fun v1 =>
    if (v1 : Int32) = 0 then
      wgrd ((1 : Int32) == 0 || (1 : Int32) == 1) (wr 1)
    else
      wgrd ((0 : Int32) == 0 || (0 : Int32) == 1) (wr 0)
def gJ1_canEncode_fc78d (x0 : Int32) : Mm → Option (Int32 × Mm × Nat × Nat) :=
  if 255 < (x0 : Int32) then
    wgrd ((0 : Int32) == 0 || (0 : Int32) == 1) (wr 0)
  else
    wgrd ((1 : Int32) == 0 || (1 : Int32) == 1) (wr 1)
def gJ5_append_3fe6f_L45 (x0 : Nat) : Mm → Option (Nat × Mm × Nat × Nat) :=
  wfail
def gJ5_append_3fe6f (x0 : Nat) (x1 : Int32) : Mm → Option (Nat × Mm × Nat × Nat) :=
  wb (gI x0 3) fun v1 =>
  wq (gJ5_ensureCapacityInternal_d00df x0 (v1 + 1)) fun _ =>
  wq (gJ5_isLatin1_aae02 x0) fun v2 =>
  if (v2 : Int32) = 0 then
    wfail
  else
    wq (gJ1_canEncode_fc78d x1) fun v3 =>
    if (v3 : Int32) = 0 then
      wfail
    else
      wb (gA x0 0) fun v4 =>
      wb (gI x0 3) fun v5 =>
      wb (pI x0 3 (v5 + 1)) fun _ =>
      wb (aB v4 v5 (i2b x1)) fun _ =>
      wr x0
def gJ4_append_cf468 (x0 : Nat) (x1 : Int32) : Mm → Option (Nat × Mm × Nat × Nat) :=
  wq (gJ5_append_3fe6f x0 x1) fun h1 =>
  wr x0
def gJ5_getValue_6d5f1 (x0 : Nat) : Mm → Option (Nat × Mm × Nat × Nat) :=
  wb (gA x0 0) fun v1 =>
  wr v1
def gJ5_length_8abf5 (x0 : Nat) : Mm → Option (Int32 × Mm × Nat × Nat) :=
  wb (gI x0 3) fun v1 =>
  wr v1
def gJ4_length_8abf5 (x0 : Nat) : Mm → Option (Int32 × Mm × Nat × Nat) :=
  wq (gJ5_length_8abf5 x0) fun v1 =>
  wr v1
def gJ7_checkLength_df160 (x0 : Int32) (x1 : Int32) : Mm → Option (Unit × Mm × Nat × Nat) :=
  if x0 ≤ (x1 : Int32) then
    wr ()
  else
    wfail
def gJ7_copyOfRangeByte_39247 (x0 : Nat) (x1 : Int32) (x2 : Int32) : Mm → Option (Nat × Mm × Nat × Nat) :=
  wq (gJ7_checkLength_df160 x1 x2) fun _ =>
  wb (rtn (x2 - x1)) fun v1 =>
  wq (nA 10 v1) fun h2 =>
  wb (gN x0) fun v3 =>
  wb (cpB 10 x0 x1 h2 0 (mmin (v3 - x1) v1)) fun _ =>
  wr h2
def gJ7_copyOfRange_39247_L10 (x0 : Nat) (x1 : Int32) (x2 : Int32) : Mm → Option (Nat × Mm × Nat × Nat) :=
  wq (gJ7_copyOfRangeByte_39247 x0 x1 x2) fun h1 =>
  wr h1
def gJ7_copyOfRange_39247 (x0 : Nat) (x1 : Int32) (x2 : Int32) : Mm → Option (Nat × Mm × Nat × Nat) :=
  if (x1 : Int32) = 0 then
    wb (gN x0) fun v2 =>
    if (x2 : Int32) = v2 then
      wq (nC 10 x0) fun h3 =>
      wr h3
    else
      gJ7_copyOfRange_39247_L10 x0 x1 x2
  else
    gJ7_copyOfRange_39247_L10 x0 x1 x2
def gJ0_init_db425_L79 (x0 : Nat) (x3 : Nat) (x4 : Int32) : Mm → Option (Unit × Mm × Nat × Nat) :=
  wb (pZ x0 1 1) fun _ =>
  wq (gJ7_copyOfRange_39247 x3 0 (x4 <<< (1 &&& 31))) fun h1 =>
  wb (pA x0 0 h1) fun _ =>
  wr ()
def gJ0_init_db425 (x0 : Nat) (x1 : Nat) : Mm → Option (Unit × Mm × Nat × Nat) :=
  wq (gJ5_getValue_6d5f1 x1) fun h2 =>
  wq (gJ4_length_8abf5 x1) fun v3 =>
  wq (gJ5_isLatin1_aae02 x1) fun v4 =>
  if (v4 : Int32) = 0 then
    if (1 : Int32) = 0 then
      gJ0_init_db425_L79 x0 h2 v3
    else
      wb (gI x1 2) fun v5 =>
      if (v5 : Int32) = 0 then
        gJ0_init_db425_L79 x0 h2 v3
      else
        wfail
  else
    wb (pZ x0 1 0) fun _ =>
    wq (gJ7_copyOfRange_39247 h2 0 v3) fun h6 =>
    wb (pA x0 0 h6) fun _ =>
    wr ()
def gJ0_init_81219 (x0 : Nat) (x1 : Nat) : Mm → Option (Unit × Mm × Nat × Nat) :=
  wq (gJ0_init_db425 x0 x1) fun _ =>
  wr ()
def gJ4_toString_0e30d (x0 : Nat) : Mm → Option (Nat × Mm × Nat × Nat) :=
  wq (nO 40) fun h1 =>
  wq (gJ0_init_81219 h1 x0) fun _ =>
  wr h1
def gJ0_coder_7d493 (x0 : Nat) : Mm → Option (Int32 × Mm × Nat × Nat) :=
  if (1 : Int32) = 0 then
    wgrd ((1 : Int32) == 0 || (1 : Int32) == 1) (wr 1)
  else
    wb (gI x0 1) fun v1 =>
    wgrd ((v1 : Int32) == 0 || (v1 : Int32) == 1) (wr v1)
def gJ0_length_8abf5 (x0 : Nat) : Mm → Option (Int32 × Mm × Nat × Nat) :=
  wb (gA x0 0) fun v1 =>
  wb (gN v1) fun v2 =>
  wq (gJ0_coder_7d493 x0) fun v3 =>
  wr (v2 >>> (v3 &&& 31))
def gJ0_isLatin1_aae02 (x0 : Nat) : Mm → Option (Int32 × Mm × Nat × Nat) :=
  if (1 : Int32) = 0 then
    wgrd ((0 : Int32) == 0 || (0 : Int32) == 1) (wr 0)
  else
    wb (gI x0 1) fun v1 =>
    if (v1 : Int32) = 0 then
      wgrd ((1 : Int32) == 0 || (1 : Int32) == 1) (wr 1)
    else
      wgrd ((0 : Int32) == 0 || (0 : Int32) == 1) (wr 0)
def gJ0_checkIndex_df160 (x0 : Int32) (x1 : Int32) : Mm → Option (Unit × Mm × Nat × Nat) :=
  wq (gJ3_checkIndex_8e157 x0 x1) fun v2 =>
  wr ()
def gJ1_charAt_3b067 (x0 : Nat) (x1 : Int32) : Mm → Option (Int32 × Mm × Nat × Nat) :=
  wb (gN x0) fun v1 =>
  wq (gJ0_checkIndex_df160 x1 v1) fun _ =>
  wb (lI x0 x1) fun v2 =>
  wgrd (nCh (i2c (v2 &&& 255))) (wr (i2c (v2 &&& 255)))
def gJ0_charAt_5068e (x0 : Nat) (x1 : Int32) : Mm → Option (Int32 × Mm × Nat × Nat) :=
  wq (gJ0_isLatin1_aae02 x0) fun v1 =>
  if (v1 : Int32) = 0 then
    wfail
  else
    wb (gA x0 0) fun v2 =>
    wq (gJ1_charAt_3b067 v2 x1) fun v3 =>
    wgrd (nCh v3) (wr v3)
def gJ0_coder_7d493_k (x0 : Nat) : Mm → Option (Int32 × Mm × Nat × Nat) :=
  if (1 : Int32) = 0 then
    wgrd ((1 : Int32) == 0 || (1 : Int32) == 1) (wr 1)
  else
    wgrd (sbB x0) <|
    wgrd ((0 : Int32) == 0 || (0 : Int32) == 1) (wr 0)
def gJ0_length_8abf5_k (x0 : Nat) : Mm → Option (Int32 × Mm × Nat × Nat) :=
  wgrd (sbB x0) <|
  wgrd (sbB x0) <|
  wgrd (sbB x0) <|
  wq (gJ0_coder_7d493_k x0) fun v1 =>
  wr ((stN x0) >>> (v1 &&& 31))
def gJ5_inflateIfNeededFor_a7421_k (x0 : Nat) (x1 : Nat) : Mm → Option (Unit × Mm × Nat × Nat) :=
  if (1 : Int32) = 0 then
    wr ()
  else
    wb (gI x0 1) fun v1 =>
    wgrd (sbB x1) <|
    wq (gJ0_coder_7d493_k x1) fun v2 =>
    if (v1 : Int32) = v2 then
      wr ()
    else
      wfail
def gJ0_getBytes_840e7_k (x0 : Nat) (x1 : Nat) (x2 : Int32) (x3 : Int32) : Mm → Option (Unit × Mm × Nat × Nat) :=
  wgrd (sbB x0) <|
  wq (gJ0_coder_7d493_k x0) fun v1 =>
  if (v1 : Int32) = x3 then
    wgrd (sbB x0) <|
    wgrd (sbB x0) <|
    wgrd (sbB x0) <|
    wgrd (sbB x0) <|
    wb (cpK x0 0 x1 (x2 <<< (x3 &&& 31)) (stN x0)) fun _ =>
    wr ()
  else
    wfail
def gJ5_putStringAt_47b60_k (x0 : Nat) (x1 : Int32) (x2 : Nat) : Mm → Option (Unit × Mm × Nat × Nat) :=
  wq (gJ5_inflateIfNeededFor_a7421_k x0 x2) fun _ =>
  wb (gA x0 0) fun v1 =>
  wb (gI x0 1) fun v2 =>
  wgrd (sbB x2) <|
  wq (gJ0_getBytes_840e7_k x2 v1 x1 v2) fun _ =>
  wr ()
def gJ5_append_cf1ce_k (x0 : Nat) (x1 : Nat) : Mm → Option (Nat × Mm × Nat × Nat) :=
  wopc (some x1) (
    wfail) (fun p1 =>
    wgrd (sbB x1) <|
    wq (gJ0_length_8abf5_k x1) fun v2 =>
    wb (gI x0 3) fun v3 =>
    wq (gJ5_ensureCapacityInternal_d00df x0 (v3 + v2)) fun _ =>
    wb (gI x0 3) fun v4 =>
    wq (gJ5_putStringAt_47b60_k x0 v4 x1) fun _ =>
    wb (gI x0 3) fun v5 =>
    wb (pI x0 3 (v5 + v2)) fun _ =>
    wr x0)
def gJ4_append_15ec4_k (x0 : Nat) (x1 : Nat) : Mm → Option (Nat × Mm × Nat × Nat) :=
  wq (gJ5_append_cf1ce_k x0 x1) fun h1 =>
  wr x0
def gJ6_stringSize_0f7a4_L16 : Nat → Int32 → Int32 → Int32 → Int32 → Mm → Option (Int32 × Mm × Nat × Nat)
  | 0, _, _, _, _ => wfail
  | n + 1, x0, x1, x2, x3 =>
    if 10 ≤ (x3 : Int32) then
      wr (10 + x1)
    else
      if (x0 : Int32) ≤ x2 then
        wb (rtn (10 * x2)) fun v1 =>
        gJ6_stringSize_0f7a4_L16 n x0 x1 v1 (x3 + 1)
      else
        wr (x3 + x1)
def gJ6_stringSize_0f7a4_L11 (x0 : Int32) (x1 : Int32) : Mm → Option (Int32 × Mm × Nat × Nat) :=
  gJ6_stringSize_0f7a4_L16 fu x0 x1 (-10) 1
def gJ6_stringSize_0f7a4 (x0 : Int32) : Mm → Option (Int32 × Mm × Nat × Nat) :=
  if (x0 : Int32) < 0 then
    gJ6_stringSize_0f7a4_L11 x0 1
  else
    wb (rtn (-x0)) fun v2 =>
    gJ6_stringSize_0f7a4_L11 v2 0
def gJ6_getChars_ba4f3_L104 (x2 : Nat) (x5 : Int32) (x6 : Int32) : Mm → Option (Int32 × Mm × Nat × Nat) :=
  if (x6 : Int32) = 0 then
    wr x5
  else
    wb (aB x2 (x5 + (-1)) 45) fun _ =>
    wr (x5 + (-1))
def gJ6_getChars_ba4f3_L22 : Nat → Int32 → Nat → Int32 → Int32 → Mm → Option (Int32 × Mm × Nat × Nat)
  | 0, _, _, _, _ => wfail
  | n + 1, x0, x2, x5, x6 =>
    if (-100) < (x0 : Int32) then
      wb (tD 0 (-x0)) fun v1 =>
      wb (aB x2 (x5 + (-1)) v1) fun _ =>
      if (-9) ≤ (x0 : Int32) then
        gJ6_getChars_ba4f3_L104 x2 (x5 + (-1)) x6
      else
        wb (tD 1 (-x0)) fun v2 =>
        wb (aB x2 ((x5 + (-1)) + (-1)) v2) fun _ =>
        gJ6_getChars_ba4f3_L104 x2 ((x5 + (-1)) + (-1)) x6
    else
      wb (rtn (x0 / 100)) fun v3 =>
      wb (rtn ((v3 * 100) - x0)) fun v4 =>
      wb (tD 0 v4) fun v5 =>
      wb (aB x2 (x5 + (-1)) v5) fun _ =>
      wb (tD 1 v4) fun v6 =>
      wb (aB x2 ((x5 + (-1)) + (-1)) v6) fun _ =>
      gJ6_getChars_ba4f3_L22 n v3 x2 ((x5 + (-1)) + (-1)) x6
def gJ6_getChars_ba4f3_L12 (x0 : Int32) (x2 : Nat) (x5 : Int32) (s0 : Int32) : Mm → Option (Int32 × Mm × Nat × Nat) :=
  if (s0 : Int32) = 0 then
    wb (rtn (-x0)) fun v7 =>
    gJ6_getChars_ba4f3_L22 fu v7 x2 x5 s0
  else
    gJ6_getChars_ba4f3_L22 fu x0 x2 x5 s0
def gJ6_getChars_ba4f3 (x0 : Int32) (x1 : Int32) (x2 : Nat) : Mm → Option (Int32 × Mm × Nat × Nat) :=
  if 0 ≤ (x0 : Int32) then
    gJ6_getChars_ba4f3_L12 x0 x2 x1 0
  else
    gJ6_getChars_ba4f3_L12 x0 x2 x1 1
def gJ5_append_c97b9 (x0 : Nat) (x1 : Int32) : Mm → Option (Nat × Mm × Nat × Nat) :=
  wb (gI x0 3) fun v1 =>
  wq (gJ6_stringSize_0f7a4 x1) fun v2 =>
  wb (rtn (v1 + v2)) fun v3 =>
  wq (gJ5_ensureCapacityInternal_d00df x0 v3) fun _ =>
  wq (gJ5_isLatin1_aae02 x0) fun v4 =>
  if (v4 : Int32) = 0 then
    wfail
  else
    wb (gA x0 0) fun v5 =>
    wq (gJ6_getChars_ba4f3 x1 v3 v5) fun v6 =>
    wb (pI x0 3 v3) fun _ =>
    wr x0
def gJ4_append_bf812 (x0 : Nat) (x1 : Int32) : Mm → Option (Nat × Mm × Nat × Nat) :=
  wq (gJ5_append_c97b9 x0 x1) fun h1 =>
  wr x0
def gJ5_inflateIfNeededFor_a7421 (x0 : Nat) (x1 : Nat) : Mm → Option (Unit × Mm × Nat × Nat) :=
  if (1 : Int32) = 0 then
    wr ()
  else
    wb (gI x0 1) fun v1 =>
    wq (gJ0_coder_7d493 x1) fun v2 =>
    if (v1 : Int32) = v2 then
      wr ()
    else
      wfail
def gJ0_getBytes_840e7 (x0 : Nat) (x1 : Nat) (x2 : Int32) (x3 : Int32) : Mm → Option (Unit × Mm × Nat × Nat) :=
  wq (gJ0_coder_7d493 x0) fun v1 =>
  if (v1 : Int32) = x3 then
    wb (gA x0 0) fun v2 =>
    wb (gA x0 0) fun v3 =>
    wb (gN v3) fun v4 =>
    wb (cpB 10 v2 0 x1 (x2 <<< (x3 &&& 31)) v4) fun _ =>
    wr ()
  else
    wfail
def gJ5_putStringAt_47b60 (x0 : Nat) (x1 : Int32) (x2 : Nat) : Mm → Option (Unit × Mm × Nat × Nat) :=
  wq (gJ5_inflateIfNeededFor_a7421 x0 x2) fun _ =>
  wb (gA x0 0) fun v1 =>
  wb (gI x0 1) fun v2 =>
  wq (gJ0_getBytes_840e7 x2 v1 x1 v2) fun _ =>
  wr ()
def gJ5_append_cf1ce (x0 : Nat) (x1 : Nat) : Mm → Option (Nat × Mm × Nat × Nat) :=
  wopc (some x1) (
    wfail) (fun p1 =>
    wq (gJ0_length_8abf5 x1) fun v2 =>
    wb (gI x0 3) fun v3 =>
    wq (gJ5_ensureCapacityInternal_d00df x0 (v3 + v2)) fun _ =>
    wb (gI x0 3) fun v4 =>
    wq (gJ5_putStringAt_47b60 x0 v4 x1) fun _ =>
    wb (gI x0 3) fun v5 =>
    wb (pI x0 3 (v5 + v2)) fun _ =>
    wr x0)
def gJ4_append_15ec4 (x0 : Nat) (x1 : Nat) : Mm → Option (Nat × Mm × Nat × Nat) :=
  wq (gJ5_append_cf1ce x0 x1) fun h1 =>
  wr x0
def gJ4_append_cf1ce (x0 : Nat) (x1 : Nat) : Mm → Option (Nat × Mm × Nat × Nat) :=
  wq (gJ4_append_15ec4 x0 x1) fun h1 =>
  wr h1
def gJ5_init_a7421_L24 (x0 : Nat) (x1 : Nat) (s0 : Int32) : Mm → Option (Unit × Mm × Nat × Nat) :=
  wq (gJ0_coder_7d493 x1) fun v1 =>
  wb (pZ x0 1 v1) fun _ =>
  if (v1 : Int32) = 0 then
    wq (nA 10 s0) fun h2 =>
    wb (pA x0 0 h2) fun _ =>
    wq (gJ4_append_cf1ce x0 x1) fun h3 =>
    wr ()
  else
    wfail
def gJ5_init_a7421 (x0 : Nat) (x1 : Nat) : Mm → Option (Unit × Mm × Nat × Nat) :=
  wq (gJ0_length_8abf5 x1) fun v4 =>
  if 2147483631 ≤ (v4 : Int32) then
    gJ5_init_a7421_L24 x0 x1 2147483647
  else
    gJ5_init_a7421_L24 x0 x1 (v4 + 16)
def gJ4_init_a7421 (x0 : Nat) (x1 : Nat) : Mm → Option (Unit × Mm × Nat × Nat) :=
  wq (gJ5_init_a7421 x0 x1) fun _ =>
  wr ()
def gJx4a65c_rangeCheckForAdd_d00df_L12 : Mm → Option (Unit × Mm × Nat × Nat) :=
  wfail
def gJx4a65c_rangeCheckForAdd_d00df (x0 : Nat) (x1 : Int32) : Mm → Option (Unit × Mm × Nat × Nat) :=
  wb (gI x0 2) fun v1 =>
  if v1 < (x1 : Int32) then
    wfail
  else
    if 0 ≤ (x1 : Int32) then
      wr ()
    else
      wfail
def gJx4a65c_add_7a177_L38 (x0 : Nat) (x1 : Int32) (x2 : Nat) (x3 : Int32) (x4 : Nat) : Mm → Option (Unit × Mm × Nat × Nat) :=
  wgrd (x4 != EB) <|
  wgrd (x4 != EB) <|
  wb (cpR x4 x1 x4 (x1 + 1) (x3 - x1)) fun _ =>
  wgrd (x4 != EB) <|
  wb (aA x4 x1 x2) fun _ =>
  wb (pI x0 2 (x3 + 1)) fun _ =>
  wr ()
def gJx4a65c_add_7a177 (x0 : Nat) (x1 : Int32) (x2 : Nat) : Mm → Option (Unit × Mm × Nat × Nat) :=
  wq (gJx4a65c_rangeCheckForAdd_d00df x0 x1) fun _ =>
  wb (gI x0 0) fun v1 =>
  wb (pI x0 0 (v1 + 1)) fun _ =>
  wb (gI x0 2) fun v2 =>
  wb (gA x0 1) fun v3 =>
  wb (gN v3) fun v4 =>
  if (v2 : Int32) = v4 then
    wq (gJx4a65c_grow_d5877 x0) fun h5 =>
    gJx4a65c_add_7a177_L38 x0 x1 x2 v2 h5
  else
    gJx4a65c_add_7a177_L38 x0 x1 x2 v2 v3
def gJx4a65c_fastRemove_b59b0_L34 (x0 : Nat) (x1 : Nat) (x3 : Int32) : Mm → Option (Unit × Mm × Nat × Nat) :=
  wb (pI x0 2 x3) fun _ =>
  wb (aN x1 x3) fun _ =>
  wr ()
def gJx4a65c_fastRemove_b59b0 (x0 : Nat) (x1 : Nat) (x2 : Int32) : Mm → Option (Unit × Mm × Nat × Nat) :=
  wb (gI x0 0) fun v1 =>
  wb (pI x0 0 (v1 + 1)) fun _ =>
  wb (gI x0 2) fun v2 =>
  wb (rtn (v2 - 1)) fun v3 =>
  if ((v2 - 1) : Int32) ≤ x2 then
    gJx4a65c_fastRemove_b59b0_L34 x0 x1 v3
  else
    wb (cpR x1 (x2 + 1) x1 x2 (v3 - x2)) fun _ =>
    gJx4a65c_fastRemove_b59b0_L34 x0 x1 v3
def gJx4a65c_remove_915e3 (x0 : Nat) (x1 : Int32) : Mm → Option (Nat × Mm × Nat × Nat) :=
  wb (gI x0 2) fun v1 =>
  wq (gJ15_checkIndex_7cf53 x1 v1) fun v2 =>
  wb (gA x0 1) fun v3 =>
  wgrd (v3 != EB) <|
  wb (lA v3 x1) fun v4 =>
  wgrd (v3 != EB) <|
  wq (gJx4a65c_fastRemove_b59b0 x0 v3 x1) fun _ =>
  wr v4
