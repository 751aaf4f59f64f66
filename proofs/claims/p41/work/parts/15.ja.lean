set_option maxRecDepth 100000 in
set_option maxHeartbeats 4000000 in
theorem jJ3_checkIndex_8e157_L9 {κ : Cx} {fin : Int32 → Mm → Prop} (hc : Jc κ RJ3 cJ3_checkIndex_8e157 3 0 0 0 0) (he : Ed κ cJ3_checkIndex_8e157 0 0 wI .ireturn fin) (x2 : Option Nat) : Jg κ (wM κ) 3 fin 0 0 9 [none, none, some ((23, va_rf x2) : TV)] [] (fJ3_checkIndex_8e157_L9 x2) := by
  unfold fJ3_checkIndex_8e157_L9
  exact J_fail
set_option maxRecDepth 100000 in
set_option maxHeartbeats 4000000 in
theorem jJ3_checkIndex_8e157 {κ : Cx} {fin : Int32 → Mm → Prop} (hc : Jc κ RJ3 cJ3_checkIndex_8e157 3 0 0 0 0) (he : Ed κ cJ3_checkIndex_8e157 0 0 wI .ireturn fin) (x0 : Int32) (x1 : Int32) (x2 : Option Nat) : Jg κ (wM κ) 3 fin 0 0 0 [some ((0, .int x0) : TV), some ((0, .int x1) : TV), some ((23, va_rf x2) : TV)] [] (fJ3_checkIndex_8e157 x0 x1) := by
  unfold fJ3_checkIndex_8e157
  refine J_iload_n (pc := 0) hc dJ3_checkIndex_8e157_0 rfl rfl ?_
  refine J_if_lt (pc := 1) (tgt := 9) hc dJ3_checkIndex_8e157_1 (by decide) ?_ ?_
  · exact J_fail
  · refine J_iload_n (pc := 4) hc dJ3_checkIndex_8e157_4 rfl rfl ?_
    refine J_iload_n (pc := 5) hc dJ3_checkIndex_8e157_5 rfl rfl ?_
    refine J_icmp_lt (pc := 6) (tgt := 16) hc dJ3_checkIndex_8e157_6 (by decide) ?_ ?_
    · refine J_iload_n (pc := 16) hc dJ3_checkIndex_8e157_16 rfl rfl ?_
      exact J_iret (pc := 17) he dJ3_checkIndex_8e157_17
    · exact J_fail
theorem moJ3_checkIndex_8e157 : MOk yJ3_checkIndex_8e157 3 := ⟨by decide +kernel, by decide +kernel, by decide +kernel⟩
set_option maxRecDepth 100000 in
set_option maxHeartbeats 4000000 in
theorem KJ3_checkIndex_8e157 (x0 : Int32) (x1 : Int32) (x2 : Option Nat) : Ct wI yJ3_checkIndex_8e157 cJ3_checkIndex_8e157 3 (some .int) 0 0 0 0 [((0, .int x0) : TV), ((0, .int x1) : TV), ((23, va_rf x2) : TV)] (fJ3_checkIndex_8e157 x0 x1) := by
  cases x2 <;> exact
  Ct_I (j := 0) (by decide +kernel) rfl rfl (Nat.le_of_ble_eq_true rfl) (fun κ fin hc he => jJ3_checkIndex_8e157 hc he x0 x1 _)
set_option maxRecDepth 100000 in
set_option maxHeartbeats 4000000 in
theorem jJ0_checkIndex_df160 {κ : Cx} {fin : Unit → Mm → Prop} (hc : Jc κ RJ0 cJ0_checkIndex_df160 2 1 0 0 22) (he : Ed κ cJ0_checkIndex_df160 0 0 wV .return_ fin) (x0 : Int32) (x1 : Int32) : Jg κ (wM κ) 2 fin 0 0 0 [some ((0, .int x0) : TV), some ((0, .int x1) : TV)] [] (fJ0_checkIndex_df160 x0 x1) := by
  unfold fJ0_checkIndex_df160
  refine J_iload_n (pc := 0) hc dJ0_checkIndex_df160_0 rfl rfl ?_
  refine J_iload_n (pc := 1) hc dJ0_checkIndex_df160_1 rfl rfl ?_
  refine J_getsP (pc := 2) hc tw379 dJ0_checkIndex_df160_2 (fun r1 => ?_)
  refine J_callSi (pc := 5) hc (As := [((0, .int x0) : TV), ((0, .int x1) : TV), ((23, va_rf r1) : TV)]) (KJ3_checkIndex_8e157 x0 x1 r1) dJ0_checkIndex_df160_5 moJ3_checkIndex_8e157 tw381 tw382 tw22 tw383 rfl (Nat.le_of_ble_eq_true rfl) (Nat.le_of_ble_eq_true rfl) (Nat.le_of_ble_eq_true rfl) (Nat.le_of_ble_eq_true rfl) (Nat.le_of_ble_eq_true rfl) rfl (fun v2 => ?_)
  refine J_pop (pc := 8) hc dJ0_checkIndex_df160_8 rfl ?_
  exact J_vret (pc := 9) he dJ0_checkIndex_df160_9
theorem moJ0_checkIndex_df160 : MOk yJ0_checkIndex_df160 2 := ⟨by decide +kernel, by decide +kernel, by decide +kernel⟩
set_option maxRecDepth 100000 in
set_option maxHeartbeats 4000000 in
theorem KJ0_checkIndex_df160 (x0 : Int32) (x1 : Int32) : Ct wV yJ0_checkIndex_df160 cJ0_checkIndex_df160 2 none 1 0 0 22 [((0, .int x0) : TV), ((0, .int x1) : TV)] (fJ0_checkIndex_df160 x0 x1) :=
  Ct_V (j := 0) (by decide +kernel) rfl rfl (Nat.le_of_ble_eq_true rfl) (fun κ fin hc he hin => jJ0_checkIndex_df160 hc he x0 x1)
set_option maxRecDepth 100000 in
set_option maxHeartbeats 4000000 in
theorem jJ1_charAt_3b067 {κ : Cx} {fin : Int32 → Mm → Prop} (hc : Jc κ RJ1 cJ1_charAt_3b067 2 2 0 0 43) (he : EdC κ cJ1_charAt_3b067 0 0 fin) (x0 : Nat) (x1 : Int32) : Jg κ (wM κ) 2 fin 0 0 0 [some ((22, .ref (x0 + 200)) : TV), some ((0, .int x1) : TV)] [] (fJ1_charAt_3b067 x0 x1) := by
  unfold fJ1_charAt_3b067
  refine J_iload_n (pc := 0) hc dJ1_charAt_3b067_0 rfl rfl ?_
  refine J_aload_n (pc := 1) hc dJ1_charAt_3b067_1 rfl rfl ?_
  refine J_strN (pc := 2) (h := x0) hc dJ1_charAt_3b067_2 ?_
  refine J_callSv (pc := 3) hc (As := [((0, .int x1) : TV), ((0, .int (stN x0)) : TV)]) (KJ0_checkIndex_df160 x1 (stN x0)) dJ1_charAt_3b067_3 moJ0_checkIndex_df160 tw376 tw377 tw16 tw378 rfl (Nat.le_of_ble_eq_true rfl) (Nat.le_of_ble_eq_true rfl) (Nat.le_of_ble_eq_true rfl) (Nat.le_of_ble_eq_true rfl) (Nat.le_of_ble_eq_true rfl) rfl (fun _ => ?_)
  refine J_aload_n (pc := 6) hc dJ1_charAt_3b067_6 rfl rfl ?_
  refine J_iload_n (pc := 7) hc dJ1_charAt_3b067_7 rfl rfl ?_
  refine J_strC (pc := 8) (h := x0) hc dJ1_charAt_3b067_8 ?_
  refine J_sipush (pc := 9) (v := 255) hc dJ1_charAt_3b067_9 (by decide) ?_
  refine J_iand (pc := 12) hc dJ1_charAt_3b067_12 ?_
  refine J_i2cN (pc := 13) hc dJ1_charAt_3b067_13 ?_
  exact J_cret (pc := 14) he dJ1_charAt_3b067_14
theorem moJ1_charAt_3b067 : MOk yJ1_charAt_3b067 2 := ⟨by decide +kernel, by decide +kernel, by decide +kernel⟩
set_option maxRecDepth 100000 in
set_option maxHeartbeats 4000000 in
theorem KJ1_charAt_3b067 (x0 : Nat) (x1 : Int32) : Ct wI yJ1_charAt_3b067 cJ1_charAt_3b067 2 (some .char) 2 0 0 43 [((22, .ref (x0 + 200)) : TV), ((0, .int x1) : TV)] (fJ1_charAt_3b067 x0 x1) :=
  Ct_C (j := 0) (by decide +kernel) rfl rfl (Nat.le_of_ble_eq_true rfl) (fun κ fin hc he => jJ1_charAt_3b067 hc he x0 x1)
set_option maxRecDepth 100000 in
set_option maxHeartbeats 4000000 in
theorem jJ0_coder_7d493 {κ : Cx} {fin : Int32 → Mm → Prop} (hc : Jc κ RJ0 cJ0_coder_7d493 1 0 0 0 0) (he : EdZ κ cJ0_coder_7d493 0 0 id fin) (x0 : Nat) : Jg κ (wM κ) 1 fin 0 0 0 [some ((20, .ref x0) : TV)] [] (fJ0_coder_7d493 x0) := by
  unfold fJ0_coder_7d493
  refine J_getsC (pc := 0) hc tw363 dJ0_coder_7d493_0 ?_
  refine J_if_eq (pc := 3) (tgt := 13) hc dJ0_coder_7d493_3 (by decide) ?_ ?_
  · refine J_iconst (pc := 13) (v := 1) hc dJ0_coder_7d493_13 (by decide) ?_
    exact J_zret (pc := 14) he dJ0_coder_7d493_14
  · refine J_aload_n (pc := 6) hc dJ0_coder_7d493_6 rfl rfl ?_
    refine J_strK (pc := 7) hc tw1494 dJ0_coder_7d493_7 ?_
    refine J_goto (pc := 10) (tgt := 14) hc dJ0_coder_7d493_10 (by decide) ?_
    exact J_zret (pc := 14) he dJ0_coder_7d493_14
theorem moJ0_coder_7d493 : MOk yJ0_coder_7d493 0 := ⟨by decide +kernel, by decide +kernel, by decide +kernel⟩
set_option maxRecDepth 100000 in
set_option maxHeartbeats 4000000 in
theorem KJ0_coder_7d493 (x0 : Nat) : Ct wI yJ0_coder_7d493 cJ0_coder_7d493 1 (some .byte) 0 0 0 0 [((20, .ref x0) : TV)] (fJ0_coder_7d493 x0) :=
  Ct_Z ⟨rfl, rfl⟩ (j := 0) (by decide +kernel) rfl rfl (Nat.le_of_ble_eq_true rfl) (fun κ fin hc he => jJ0_coder_7d493 hc he x0)
set_option maxRecDepth 100000 in
set_option maxHeartbeats 4000000 in
theorem jJ0_isLatin1_aae02 {κ : Cx} {fin : Int32 → Mm → Prop} (hc : Jc κ RJ0 cJ0_isLatin1_aae02 1 0 0 0 0) (he : EdZ κ cJ0_isLatin1_aae02 0 0 id fin) (x0 : Nat) : Jg κ (wM κ) 1 fin 0 0 0 [some ((20, .ref x0) : TV)] [] (fJ0_isLatin1_aae02 x0) := by
  unfold fJ0_isLatin1_aae02
  refine J_getsC (pc := 0) hc tw363 dJ0_isLatin1_aae02_0 ?_
  refine J_if_eq (pc := 3) (tgt := 17) hc dJ0_isLatin1_aae02_3 (by decide) ?_ ?_
  · refine J_iconst (pc := 17) (v := 0) hc dJ0_isLatin1_aae02_17 (by decide) ?_
    exact J_zret (pc := 18) he dJ0_isLatin1_aae02_18
  · refine J_aload_n (pc := 6) hc dJ0_isLatin1_aae02_6 rfl rfl ?_
    refine J_strK (pc := 7) hc tw1494 dJ0_isLatin1_aae02_7 ?_
    refine J_if_ne (pc := 10) (tgt := 17) hc dJ0_isLatin1_aae02_10 (by decide) ?_ ?_
    · refine J_iconst (pc := 17) (v := 0) hc dJ0_isLatin1_aae02_17 (by decide) ?_
      exact J_zret (pc := 18) he dJ0_isLatin1_aae02_18
    · refine J_iconst (pc := 13) (v := 1) hc dJ0_isLatin1_aae02_13 (by decide) ?_
      refine J_goto (pc := 14) (tgt := 18) hc dJ0_isLatin1_aae02_14 (by decide) ?_
      exact J_zret (pc := 18) he dJ0_isLatin1_aae02_18
theorem moJ0_isLatin1_aae02 : MOk yJ0_isLatin1_aae02 0 := ⟨by decide +kernel, by decide +kernel, by decide +kernel⟩
set_option maxRecDepth 100000 in
set_option maxHeartbeats 4000000 in
theorem KJ0_isLatin1_aae02 (x0 : Nat) : Ct wI yJ0_isLatin1_aae02 cJ0_isLatin1_aae02 1 (some .boolean) 0 0 0 0 [((20, .ref x0) : TV)] (fJ0_isLatin1_aae02 x0) :=
  Ct_Z ⟨rfl, rfl⟩ (j := 0) (by decide +kernel) rfl rfl (Nat.le_of_ble_eq_true rfl) (fun κ fin hc he => jJ0_isLatin1_aae02 hc he x0)
set_option maxRecDepth 100000 in
set_option maxHeartbeats 4000000 in
theorem jJ0_length_8abf5 {κ : Cx} {fin : Int32 → Mm → Prop} (hc : Jc κ RJ0 cJ0_length_8abf5 1 1 0 0 20) (he : Ed κ cJ0_length_8abf5 0 0 wI .ireturn fin) (x0 : Nat) : Jg κ (wM κ) 1 fin 0 0 0 [some ((20, .ref x0) : TV)] [] (fJ0_length_8abf5 x0) := by
  unfold fJ0_length_8abf5
  refine J_aload_n (pc := 0) hc dJ0_length_8abf5_0 rfl rfl ?_
  refine J_strV (pc := 1) hc tw1493 dJ0_length_8abf5_1 ?_
  refine J_strN (pc := 4) (h := x0) hc dJ0_length_8abf5_4 ?_
  refine J_aload_n (pc := 5) hc dJ0_length_8abf5_5 rfl rfl ?_
  refine J_callStri (pc := 6) hc (As := []) (KJ0_coder_7d493 x0) dJ0_length_8abf5_6 moJ0_coder_7d493 rfl tw359 tw360 tw361 tw16 tw362 rfl (Nat.le_of_ble_eq_true rfl) (Nat.le_of_ble_eq_true rfl) (Nat.le_of_ble_eq_true rfl) (Nat.le_of_ble_eq_true rfl) (Nat.le_of_ble_eq_true rfl) rfl (fun v1 => ?_)
  refine J_ishr (pc := 9) hc dJ0_length_8abf5_9 ?_
  exact J_iret (pc := 10) he dJ0_length_8abf5_10
theorem moJ0_length_8abf5 : MOk yJ0_length_8abf5 0 := ⟨by decide +kernel, by decide +kernel, by decide +kernel⟩
set_option maxRecDepth 100000 in
set_option maxHeartbeats 4000000 in
theorem KJ0_length_8abf5 (x0 : Nat) : Ct wI yJ0_length_8abf5 cJ0_length_8abf5 1 (some .int) 1 0 0 20 [((20, .ref x0) : TV)] (fJ0_length_8abf5 x0) :=
  Ct_I (j := 0) (by decide +kernel) rfl rfl (Nat.le_of_ble_eq_true rfl) (fun κ fin hc he => jJ0_length_8abf5 hc he x0)
set_option maxRecDepth 100000 in
set_option maxHeartbeats 4000000 in
theorem jJ0_charAt_5068e {κ : Cx} {fin : Int32 → Mm → Prop} (hc : Jc κ RJ0 cJ0_charAt_5068e 2 3 0 0 64) (he : EdC κ cJ0_charAt_5068e 0 0 fin) (x0 : Nat) (x1 : Int32) : Jg κ (wM κ) 2 fin 0 0 0 [some ((20, .ref x0) : TV), some ((0, .int x1) : TV)] [] (fJ0_charAt_5068e x0 x1) := by
  unfold fJ0_charAt_5068e
  refine J_aload_n (pc := 0) hc dJ0_charAt_5068e_0 rfl rfl ?_
  refine J_callStri (pc := 1) hc (As := []) (KJ0_isLatin1_aae02 x0) dJ0_charAt_5068e_1 moJ0_isLatin1_aae02 rfl tw369 tw370 tw371 tw16 tw372 rfl (Nat.le_of_ble_eq_true rfl) (Nat.le_of_ble_eq_true rfl) (Nat.le_of_ble_eq_true rfl) (Nat.le_of_ble_eq_true rfl) (Nat.le_of_ble_eq_true rfl) rfl (fun v1 => ?_)
  refine J_if_eq (pc := 4) (tgt := 16) hc dJ0_charAt_5068e_4 (by decide) ?_ ?_
  · exact J_fail
  · refine J_aload_n (pc := 7) hc dJ0_charAt_5068e_7 rfl rfl ?_
    refine J_strV (pc := 8) hc tw1493 dJ0_charAt_5068e_8 ?_
    refine J_iload_n (pc := 11) hc dJ0_charAt_5068e_11 rfl rfl ?_
    refine J_callSi (pc := 12) hc (As := [((22, .ref (x0 + 200)) : TV), ((0, .int x1) : TV)]) (KJ1_charAt_3b067 x0 x1) dJ0_charAt_5068e_12 moJ1_charAt_3b067 tw373 tw374 tw23 tw375 rfl (Nat.le_of_ble_eq_true rfl) (Nat.le_of_ble_eq_true rfl) (Nat.le_of_ble_eq_true rfl) (Nat.le_of_ble_eq_true rfl) (Nat.le_of_ble_eq_true rfl) rfl (fun v2 => ?_)
    exact J_cret (pc := 15) he dJ0_charAt_5068e_15
theorem moJ0_charAt_5068e : MOk yJ0_charAt_5068e 1 := ⟨by decide +kernel, by decide +kernel, by decide +kernel⟩
set_option maxRecDepth 100000 in
set_option maxHeartbeats 4000000 in
theorem KJ0_charAt_5068e (x0 : Nat) (x1 : Int32) : Ct wI yJ0_charAt_5068e cJ0_charAt_5068e 2 (some .char) 3 0 0 64 [((20, .ref x0) : TV), ((0, .int x1) : TV)] (fJ0_charAt_5068e x0 x1) :=
  Ct_C (j := 0) (by decide +kernel) rfl rfl (Nat.le_of_ble_eq_true rfl) (fun κ fin hc he => jJ0_charAt_5068e hc he x0 x1)
set_option maxRecDepth 100000 in
set_option maxHeartbeats 4000000 in
theorem jX4_init {κ : Cx} {fin : Unit → Mm → Prop} (hc : Jc κ RX4 cX4_init 1 1 0 0 20) (he : Ed κ cX4_init 0 0 wV .return_ fin) (hin : Mh κ = "<init>") (x0 : Nat) : Jg κ (wM κ) 1 fin 0 0 0 [some ((4, .ref x0) : TV)] [] (fX4_init x0) := by
  unfold fX4_init
  refine J_aload_n (pc := 0) hc dX4_init_0 rfl rfl ?_
  refine J_objInit (pc := 1) hc tw142 tw43 tw44 (Nat.le_of_ble_eq_true rfl) (Nat.le_of_ble_eq_true rfl) (Nat.le_of_ble_eq_true rfl) dX4_init_1 ?_
  exact J_vret (pc := 4) he dX4_init_4
theorem moX4_init : MOk yX4_init 0 := ⟨by decide +kernel, by decide +kernel, by decide +kernel⟩
set_option maxRecDepth 100000 in
set_option maxHeartbeats 4000000 in
theorem KX4_init (x0 : Nat) : Ct wV yX4_init cX4_init 1 none 1 0 0 20 [((4, .ref x0) : TV)] (fX4_init x0) :=
  Ct_V (j := 0) (by decide +kernel) rfl rfl (Nat.le_of_ble_eq_true rfl) (fun κ fin hc he hin => jX4_init hc he hin x0)
set_option maxRecDepth 100000 in
set_option maxHeartbeats 4000000 in
theorem jX0_init {κ : Cx} {fin : Unit → Mm → Prop} (hc : Jc κ RX0 cX0_init 1 2 5 172 40) (he : Ed κ cX0_init 5 172 wV .return_ fin) (hin : Mh κ = "<init>") (x0 : Nat) : Jg κ (wM κ) 1 fin 0 0 0 [some ((0, .ref x0) : TV)] [] (fX0_init x0) := by
  unfold fX0_init
  refine J_aload_n (pc := 0) hc dX0_init_0 rfl rfl ?_
  refine J_objInit (pc := 1) hc tw198 tw43 tw44 (Nat.le_of_ble_eq_true rfl) (Nat.le_of_ble_eq_true rfl) (Nat.le_of_ble_eq_true rfl) dX0_init_1 ?_
  refine J_aload_n (pc := 4) hc dX0_init_4 rfl rfl ?_
  refine J_iconst (pc := 5) (v := 0) hc dX0_init_5 (by decide) ?_
  refine J_putI (pc := 6) hc clX0 (k := 0) (Nat.le_of_ble_eq_true rfl) rfl rfl tw201 (Or.inl rfl) rfl dX0_init_6 ?_
  refine J_aload_n (pc := 9) hc dX0_init_9 rfl rfl ?_
  refine J_iconst (pc := 10) (v := 0) hc dX0_init_10 (by decide) ?_
  refine J_putI (pc := 11) hc clX0 (k := 1) (Nat.le_of_ble_eq_true rfl) rfl rfl tw203 (Or.inl rfl) rfl dX0_init_11 ?_
  refine J_aload_n (pc := 14) hc dX0_init_14 rfl rfl ?_
  refine J_bipush (pc := 15) (v := 41) hc dX0_init_15 (by decide) ?_
  refine J_newa11 (pc := 17) (N9 := 41) hc tw82 (by decide) (by decide) (Nat.le_of_ble_eq_true rfl) (Nat.le_of_ble_eq_true rfl) (Nat.le_of_ble_eq_true rfl) dX0_init_17 (fun h1 => ?_)
  refine J_putA (pc := 19) hc hin clX0 (k := 2) (kd := 11) (Nat.le_of_ble_eq_true rfl) rfl (Nat.le_of_ble_eq_true rfl) (fun _ => rfl) (fun _ => rfl) tw206 rfl rfl rfl dX0_init_19 ?_
  refine J_aload_n (pc := 22) hc dX0_init_22 rfl rfl ?_
  refine J_bipush (pc := 23) (v := 41) hc dX0_init_23 (by decide) ?_
  refine J_newa11 (pc := 25) (N9 := 41) hc tw82 (by decide) (by decide) (Nat.le_of_ble_eq_true rfl) (Nat.le_of_ble_eq_true rfl) (Nat.le_of_ble_eq_true rfl) dX0_init_25 (fun h2 => ?_)
  refine J_putA (pc := 27) hc hin clX0 (k := 3) (kd := 11) (Nat.le_of_ble_eq_true rfl) rfl (Nat.le_of_ble_eq_true rfl) (fun _ => rfl) (fun _ => rfl) tw207 rfl rfl rfl dX0_init_27 ?_
  refine J_aload_n (pc := 30) hc dX0_init_30 rfl rfl ?_
  refine J_bipush (pc := 31) (v := 41) hc dX0_init_31 (by decide) ?_
  refine J_newa11 (pc := 33) (N9 := 41) hc tw82 (by decide) (by decide) (Nat.le_of_ble_eq_true rfl) (Nat.le_of_ble_eq_true rfl) (Nat.le_of_ble_eq_true rfl) dX0_init_33 (fun h3 => ?_)
  refine J_putA (pc := 35) hc hin clX0 (k := 4) (kd := 11) (Nat.le_of_ble_eq_true rfl) rfl (Nat.le_of_ble_eq_true rfl) (fun _ => rfl) (fun _ => rfl) tw208 rfl rfl rfl dX0_init_35 ?_
  refine J_aload_n (pc := 38) hc dX0_init_38 rfl rfl ?_
  refine J_bipush (pc := 39) (v := 41) hc dX0_init_39 (by decide) ?_
  refine J_newa11 (pc := 41) (N9 := 41) hc tw82 (by decide) (by decide) (Nat.le_of_ble_eq_true rfl) (Nat.le_of_ble_eq_true rfl) (Nat.le_of_ble_eq_true rfl) dX0_init_41 (fun h4 => ?_)
  refine J_putA (pc := 43) hc hin clX0 (k := 5) (kd := 11) (Nat.le_of_ble_eq_true rfl) rfl (Nat.le_of_ble_eq_true rfl) (fun _ => rfl) (fun _ => rfl) tw209 rfl rfl rfl dX0_init_43 ?_
  refine J_aload_n (pc := 46) hc dX0_init_46 rfl rfl ?_
  refine J_new (pc := 47) hc clX4 dvX4 tw199 tw138 tw7 (Nat.le_of_ble_eq_true rfl) (Nat.le_of_ble_eq_true rfl) dX0_init_47 (fun h5 => ?_)
  refine J_dup (pc := 50) hc dX0_init_50 rfl ?_
  refine J_callINv (pc := 51) hc (ci := 4) (Or.inl (Nat.le_of_ble_eq_true rfl)) (As := []) (KX4_init h5) dX0_init_51 moX4_init rfl (by decide +kernel) tw140 tw7 tw141 rfl (Nat.le_of_ble_eq_true rfl) (Nat.le_of_ble_eq_true rfl) (Nat.le_of_ble_eq_true rfl) (Nat.le_of_ble_eq_true rfl) (Nat.le_of_ble_eq_true rfl) rfl (fun _ => ?_)
  refine J_putA (pc := 54) hc hin clX0 (k := 6) (kd := 4) (Nat.le_of_ble_eq_true rfl) rfl (Nat.le_of_ble_eq_true rfl) (fun _ => rfl) (fun _ => rfl) tw210 rfl rfl rfl dX0_init_54 ?_
  exact J_vret (pc := 57) he dX0_init_57
theorem moX0_init : MOk yX0_init 0 := ⟨by decide +kernel, by decide +kernel, by decide +kernel⟩
set_option maxRecDepth 100000 in
set_option maxHeartbeats 4000000 in
theorem KX0_init (x0 : Nat) : Ct wV yX0_init cX0_init 1 none 2 5 172 40 [((0, .ref x0) : TV)] (fX0_init x0) :=
  Ct_V (j := 0) (by decide +kernel) rfl rfl (Nat.le_of_ble_eq_true rfl) (fun κ fin hc he hin => jX0_init hc he hin x0)
set_option maxRecDepth 100000 in
set_option maxHeartbeats 4000000 in
theorem jX7_allBlack {κ : Cx} {fin : Int64 → Mm → Prop} (hc : Jc κ RX7 cX7_allBlack 1 0 0 0 0) (he : Ed κ cX7_allBlack 0 0 wJ .lreturn fin) (x0 : Int32) : Jg κ (wM κ) 1 fin 0 0 0 [some ((0, .int x0) : TV)] [] (fX7_allBlack x0) := by
  unfold fX7_allBlack
  refine J_lconst (pc := 0) (v := 1) hc dX7_allBlack_0 rfl ?_
  refine J_iload_n (pc := 1) hc dX7_allBlack_1 rfl rfl ?_
  refine J_lshlN (pc := 2) hc dX7_allBlack_2 ?_
  refine J_lconst (pc := 3) (v := 1) hc dX7_allBlack_3 rfl ?_
  refine J_lsub (pc := 4) hc dX7_allBlack_4 ?_
  exact J_lret (pc := 5) he dX7_allBlack_5
theorem moX7_allBlack : MOk yX7_allBlack 1 := ⟨by decide +kernel, by decide +kernel, by decide +kernel⟩
set_option maxRecDepth 100000 in
set_option maxHeartbeats 4000000 in
theorem KX7_allBlack (x0 : Int32) : Ct wJ yX7_allBlack cX7_allBlack 1 (some .long) 0 0 0 0 [((0, .int x0) : TV)] (fX7_allBlack x0) :=
  Ct_J (j := 0) (by decide +kernel) rfl rfl (Nat.le_of_ble_eq_true rfl) (fun κ fin hc he => jX7_allBlack hc he x0)
set_option maxRecDepth 100000 in
set_option maxHeartbeats 4000000 in
theorem jX7_changesOf {κ : Cx} {fin : Int64 → Mm → Prop} (hc : Jc κ RX7 cX7_changesOf 3 1 0 0 20) (he : Ed κ cX7_changesOf 0 0 wJ .lreturn fin) (x0 : Int64) (x2 : Int32) : Jg κ (wM κ) 3 fin 0 0 0 [some ((0, .long x0) : TV), none, some ((0, .int x2) : TV)] [] (fX7_changesOf x0 x2) := by
  unfold fX7_changesOf
  refine J_lload_n (pc := 0) hc dX7_changesOf_0 rfl rfl ?_
  refine J_lload_n (pc := 1) hc dX7_changesOf_1 rfl rfl ?_
  refine J_iconst (pc := 2) (v := 1) hc dX7_changesOf_2 (by decide) ?_
  refine J_lshlN (pc := 3) hc dX7_changesOf_3 ?_
  refine J_lxor (pc := 4) hc dX7_changesOf_4 ?_
  refine J_iload_n (pc := 5) hc dX7_changesOf_5 rfl rfl ?_
  refine J_callSj (pc := 6) hc (As := [((0, .int x2) : TV)]) (KX7_allBlack x2) dX7_changesOf_6 moX7_allBlack tw501 tw473 tw2 tw474 rfl (Nat.le_of_ble_eq_true rfl) (Nat.le_of_ble_eq_true rfl) (Nat.le_of_ble_eq_true rfl) (Nat.le_of_ble_eq_true rfl) (Nat.le_of_ble_eq_true rfl) rfl (fun v1 => ?_)
  refine J_land (pc := 9) hc dX7_changesOf_9 ?_
  exact J_lret (pc := 10) he dX7_changesOf_10
theorem moX7_changesOf : MOk yX7_changesOf 2 := ⟨by decide +kernel, by decide +kernel, by decide +kernel⟩
set_option maxRecDepth 100000 in
set_option maxHeartbeats 4000000 in
theorem KX7_changesOf (x0 : Int64) (x2 : Int32) : Ct wJ yX7_changesOf cX7_changesOf 3 (some .long) 1 0 0 20 [((0, .long x0) : TV), ((0, .int x2) : TV)] (fX7_changesOf x0 x2) :=
  Ct_J (j := 0) (by decide +kernel) rfl rfl (Nat.le_of_ble_eq_true rfl) (fun κ fin hc he => jX7_changesOf hc he x0 x2)
set_option maxRecDepth 100000 in
set_option maxHeartbeats 4000000 in
theorem jX4_begin {κ : Cx} {fin : Unit → Mm → Prop} (hc : Jc κ RX4 cX4_begin 4 2 0 0 42) (he : Ed κ cX4_begin 0 0 wV .return_ fin) (x0 : Nat) (x1 : Int64) (x3 : Int32) : Jg κ (wM κ) 4 fin 0 0 0 [some ((4, .ref x0) : TV), some ((0, .long x1) : TV), none, some ((0, .int x3) : TV)] [] (fX4_begin x0 x1 x3) := by
  unfold fX4_begin
  refine J_aload_n (pc := 0) hc dX4_begin_0 rfl rfl ?_
  refine J_iload_n (pc := 1) hc dX4_begin_1 rfl rfl ?_
  refine J_putI (pc := 2) hc clX4 (k := 0) (Nat.le_of_ble_eq_true rfl) rfl rfl tw143 (Or.inl rfl) rfl dX4_begin_2 ?_
  refine J_aload_n (pc := 5) hc dX4_begin_5 rfl rfl ?_
  refine J_iconst (pc := 6) (v := (-1)) hc dX4_begin_6 (by decide) ?_
  refine J_putI (pc := 7) hc clX4 (k := 1) (Nat.le_of_ble_eq_true rfl) rfl rfl tw144 (Or.inl rfl) rfl dX4_begin_7 ?_
  refine J_aload_n (pc := 10) hc dX4_begin_10 rfl rfl ?_
  refine J_iconst (pc := 11) (v := 0) hc dX4_begin_11 (by decide) ?_
  refine J_putZ (pc := 12) hc clX4 (k := 2) (Nat.le_of_ble_eq_true rfl) rfl rfl tw146 (Or.inl rfl) rfl dX4_begin_12 ?_
  refine J_aload_n (pc := 15) hc dX4_begin_15 rfl rfl ?_
  refine J_lconst (pc := 16) (v := 0) hc dX4_begin_16 rfl ?_
  refine J_putJ (pc := 17) hc clX4 (k := 3) (Nat.le_of_ble_eq_true rfl) rfl rfl tw148 (Or.inl rfl) rfl dX4_begin_17 ?_
  refine J_aload_n (pc := 20) hc dX4_begin_20 rfl rfl ?_
  refine J_iload_n (pc := 21) hc dX4_begin_21 rfl rfl ?_
  refine J_putI (pc := 22) hc clX4 (k := 4) (Nat.le_of_ble_eq_true rfl) rfl rfl tw151 (Or.inl rfl) rfl dX4_begin_22 ?_
  refine J_aload_n (pc := 25) hc dX4_begin_25 rfl rfl ?_
  refine J_iload_n (pc := 26) hc dX4_begin_26 rfl rfl ?_
  refine J_putI (pc := 27) hc clX4 (k := 5) (Nat.le_of_ble_eq_true rfl) rfl rfl tw153 (Or.inl rfl) rfl dX4_begin_27 ?_
  refine J_aload_n (pc := 30) hc dX4_begin_30 rfl rfl ?_
  refine J_lload_n (pc := 31) hc dX4_begin_31 rfl rfl ?_
  refine J_putJ (pc := 32) hc clX4 (k := 6) (Nat.le_of_ble_eq_true rfl) rfl rfl tw155 (Or.inl rfl) rfl dX4_begin_32 ?_
  refine J_aload_n (pc := 35) hc dX4_begin_35 rfl rfl ?_
  refine J_lload_n (pc := 36) hc dX4_begin_36 rfl rfl ?_
  refine J_iload_n (pc := 37) hc dX4_begin_37 rfl rfl ?_
  refine J_callSNj (pc := 38) hc (As := [((0, .long x1) : TV), ((0, .int x3) : TV)]) (KX7_changesOf x1 x3) dX4_begin_38 moX7_changesOf (by decide +kernel) tw499 tw2 tw500 rfl (Nat.le_of_ble_eq_true rfl) (Nat.le_of_ble_eq_true rfl) (Nat.le_of_ble_eq_true rfl) (Nat.le_of_ble_eq_true rfl) (Nat.le_of_ble_eq_true rfl) rfl (fun v1 => ?_)
  refine J_putJ (pc := 41) hc clX4 (k := 7) (Nat.le_of_ble_eq_true rfl) rfl rfl tw156 (Or.inl rfl) rfl dX4_begin_41 ?_
  exact J_vret (pc := 44) he dX4_begin_44
theorem moX4_begin : MOk yX4_begin 2 := ⟨by decide +kernel, by decide +kernel, by decide +kernel⟩
set_option maxRecDepth 100000 in
set_option maxHeartbeats 4000000 in
theorem KX4_begin (x0 : Nat) (x1 : Int64) (x3 : Int32) : Ct wV yX4_begin cX4_begin 4 none 2 0 0 42 [((4, .ref x0) : TV), ((0, .long x1) : TV), ((0, .int x3) : TV)] (fX4_begin x0 x1 x3) :=
  Ct_V (j := 0) (by decide +kernel) rfl rfl (Nat.le_of_ble_eq_true rfl) (fun κ fin hc he hin => jX4_begin hc he x0 x1 x3)
set_option maxRecDepth 100000 in
set_option maxHeartbeats 4000000 in
theorem jX4_hasEnded {κ : Cx} {fin : Int32 → Mm → Prop} (hc : Jc κ RX4 cX4_hasEnded 1 0 0 0 0) (he : EdZ κ cX4_hasEnded 0 0 id fin) (x0 : Nat) : Jg κ (wM κ) 1 fin 0 0 0 [some ((4, .ref x0) : TV)] [] (fX4_hasEnded x0) := by
  unfold fX4_hasEnded
  refine J_aload_n (pc := 0) hc dX4_hasEnded_0 rfl rfl ?_
  refine J_getI (pc := 1) hc clX4 (k := 1) (Nat.le_of_ble_eq_true rfl) rfl tw144 (Or.inl rfl) dX4_hasEnded_1 (fun v1 => ?_)
  refine J_aload_n (pc := 4) hc dX4_hasEnded_4 rfl rfl ?_
  refine J_getI (pc := 5) hc clX4 (k := 0) (Nat.le_of_ble_eq_true rfl) rfl tw143 (Or.inl rfl) dX4_hasEnded_5 (fun v2 => ?_)
  refine J_icmp_lt (pc := 8) (tgt := 15) hc dX4_hasEnded_8 (by decide) ?_ ?_
  · refine J_iconst (pc := 15) (v := 0) hc dX4_hasEnded_15 (by decide) ?_
    exact J_zret (pc := 16) he dX4_hasEnded_16
  · refine J_iconst (pc := 11) (v := 1) hc dX4_hasEnded_11 (by decide) ?_
    refine J_goto (pc := 12) (tgt := 16) hc dX4_hasEnded_12 (by decide) ?_
    exact J_zret (pc := 16) he dX4_hasEnded_16
theorem moX4_hasEnded : MOk yX4_hasEnded 0 := ⟨by decide +kernel, by decide +kernel, by decide +kernel⟩
set_option maxRecDepth 100000 in
set_option maxHeartbeats 4000000 in
theorem KX4_hasEnded (x0 : Nat) : Ct wI yX4_hasEnded cX4_hasEnded 1 (some .boolean) 0 0 0 0 [((4, .ref x0) : TV)] (fX4_hasEnded x0) :=
  Ct_Z ⟨rfl, rfl⟩ (j := 0) (by decide +kernel) rfl rfl (Nat.le_of_ble_eq_true rfl) (fun κ fin hc he => jX4_hasEnded hc he x0)
set_option maxRecDepth 100000 in
set_option maxHeartbeats 4000000 in
theorem jJ13_bitCount_95d88 {κ : Cx} {fin : Int32 → Mm → Prop} (hc : Jc κ RJ13 cJ13_bitCount_95d88 2 0 0 0 0) (he : Ed κ cJ13_bitCount_95d88 0 0 wI .ireturn fin) (x0 : Int64) : Jg κ (wM κ) 2 fin 0 0 0 [some ((0, .long x0) : TV), none] [] (fJ13_bitCount_95d88 x0) := by
  unfold fJ13_bitCount_95d88
  refine J_lload_n (pc := 0) hc dJ13_bitCount_95d88_0 rfl rfl ?_
  refine J_lload_n (pc := 1) hc dJ13_bitCount_95d88_1 rfl rfl ?_
  refine J_iconst (pc := 2) (v := 1) hc dJ13_bitCount_95d88_2 (by decide) ?_
  refine J_lushrN (pc := 3) hc dJ13_bitCount_95d88_3 ?_
  refine J_ldc2 (pc := 4) (v := 6148914691236517205) hc dJ13_bitCount_95d88_4 tw514 ?_
  refine J_land (pc := 7) hc dJ13_bitCount_95d88_7 ?_
  refine J_lsub (pc := 8) hc dJ13_bitCount_95d88_8 ?_
  refine J_nml (fun v1 => ?_)
  refine J_lstore_n (pc := 9) (l' := [some ((0, .long v1) : TV), none]) hc dJ13_bitCount_95d88_9 rfl (by decide) rfl rfl ?_
  refine J_lload_n (pc := 10) hc dJ13_bitCount_95d88_10 rfl rfl ?_
  refine J_ldc2 (pc := 11) (v := 3689348814741910323) hc dJ13_bitCount_95d88_11 tw515 ?_
  refine J_land (pc := 14) hc dJ13_bitCount_95d88_14 ?_
  refine J_lload_n (pc := 15) hc dJ13_bitCount_95d88_15 rfl rfl ?_
  refine J_iconst (pc := 16) (v := 2) hc dJ13_bitCount_95d88_16 (by decide) ?_
  refine J_lushrN (pc := 17) hc dJ13_bitCount_95d88_17 ?_
  refine J_ldc2 (pc := 18) (v := 3689348814741910323) hc dJ13_bitCount_95d88_18 tw515 ?_
  refine J_land (pc := 21) hc dJ13_bitCount_95d88_21 ?_
  refine J_ladd (pc := 22) hc dJ13_bitCount_95d88_22 ?_
  refine J_nml (fun v2 => ?_)
  refine J_lstore_n (pc := 23) (l' := [some ((0, .long v2) : TV), none]) hc dJ13_bitCount_95d88_23 rfl (by decide) rfl rfl ?_
  refine J_lload_n (pc := 24) hc dJ13_bitCount_95d88_24 rfl rfl ?_
  refine J_lload_n (pc := 25) hc dJ13_bitCount_95d88_25 rfl rfl ?_
  refine J_iconst (pc := 26) (v := 4) hc dJ13_bitCount_95d88_26 (by decide) ?_
  refine J_lushrN (pc := 27) hc dJ13_bitCount_95d88_27 ?_
  refine J_ladd (pc := 28) hc dJ13_bitCount_95d88_28 ?_
  refine J_ldc2 (pc := 29) (v := 1085102592571150095) hc dJ13_bitCount_95d88_29 tw516 ?_
  refine J_land (pc := 32) hc dJ13_bitCount_95d88_32 ?_
  refine J_nml (fun v3 => ?_)
  refine J_lstore_n (pc := 33) (l' := [some ((0, .long v3) : TV), none]) hc dJ13_bitCount_95d88_33 rfl (by decide) rfl rfl ?_
  refine J_lload_n (pc := 34) hc dJ13_bitCount_95d88_34 rfl rfl ?_
  refine J_lload_n (pc := 35) hc dJ13_bitCount_95d88_35 rfl rfl ?_
  refine J_bipush (pc := 36) (v := 8) hc dJ13_bitCount_95d88_36 (by decide) ?_
  refine J_lushrN (pc := 38) hc dJ13_bitCount_95d88_38 ?_
  refine J_ladd (pc := 39) hc dJ13_bitCount_95d88_39 ?_
  refine J_nml (fun v4 => ?_)
  refine J_lstore_n (pc := 40) (l' := [some ((0, .long v4) : TV), none]) hc dJ13_bitCount_95d88_40 rfl (by decide) rfl rfl ?_
  refine J_lload_n (pc := 41) hc dJ13_bitCount_95d88_41 rfl rfl ?_
  refine J_lload_n (pc := 42) hc dJ13_bitCount_95d88_42 rfl rfl ?_
  refine J_bipush (pc := 43) (v := 16) hc dJ13_bitCount_95d88_43 (by decide) ?_
  refine J_lushrN (pc := 45) hc dJ13_bitCount_95d88_45 ?_
  refine J_ladd (pc := 46) hc dJ13_bitCount_95d88_46 ?_
  refine J_nml (fun v5 => ?_)
  refine J_lstore_n (pc := 47) (l' := [some ((0, .long v5) : TV), none]) hc dJ13_bitCount_95d88_47 rfl (by decide) rfl rfl ?_
  refine J_lload_n (pc := 48) hc dJ13_bitCount_95d88_48 rfl rfl ?_
  refine J_lload_n (pc := 49) hc dJ13_bitCount_95d88_49 rfl rfl ?_
  refine J_bipush (pc := 50) (v := 32) hc dJ13_bitCount_95d88_50 (by decide) ?_
  refine J_lushrN (pc := 52) hc dJ13_bitCount_95d88_52 ?_
  refine J_ladd (pc := 53) hc dJ13_bitCount_95d88_53 ?_
  refine J_nml (fun v6 => ?_)
  refine J_lstore_n (pc := 54) (l' := [some ((0, .long v6) : TV), none]) hc dJ13_bitCount_95d88_54 rfl (by decide) rfl rfl ?_
  refine J_lload_n (pc := 55) hc dJ13_bitCount_95d88_55 rfl rfl ?_
  refine J_l2i (pc := 56) hc dJ13_bitCount_95d88_56 ?_
  refine J_bipush (pc := 57) (v := 127) hc dJ13_bitCount_95d88_57 (by decide) ?_
  refine J_iand (pc := 59) hc dJ13_bitCount_95d88_59 ?_
  exact J_iret (pc := 60) he dJ13_bitCount_95d88_60
theorem moJ13_bitCount_95d88 : MOk yJ13_bitCount_95d88 1 := ⟨by decide +kernel, by decide +kernel, by decide +kernel⟩
set_option maxRecDepth 100000 in
set_option maxHeartbeats 4000000 in
theorem KJ13_bitCount_95d88 (x0 : Int64) : Ct wI yJ13_bitCount_95d88 cJ13_bitCount_95d88 2 (some .int) 0 0 0 0 [((0, .long x0) : TV)] (fJ13_bitCount_95d88 x0) :=
  Ct_I (j := 0) (by decide +kernel) rfl rfl (Nat.le_of_ble_eq_true rfl) (fun κ fin hc he => jJ13_bitCount_95d88 hc he x0)
set_option maxRecDepth 100000 in
set_option maxHeartbeats 4000000 in
theorem jX7_firstBehind {κ : Cx} {fin : Int32 → Mm → Prop} (hc : Jc κ RX7 cX7_firstBehind 6 1 0 0 21) (he : Ed κ cX7_firstBehind 0 0 wI .ireturn fin) (x0 : Int64) (x2 : Int32) (x3 : Int32) : Jg κ (wM κ) 6 fin 0 0 0 [some ((0, .long x0) : TV), none, some ((0, .int x2) : TV), some ((0, .int x3) : TV), none, none] [] (fX7_firstBehind x0 x2 x3) := by
  unfold fX7_firstBehind
  refine J_lload_n (pc := 0) hc dX7_firstBehind_0 rfl rfl ?_
  refine J_ldc2 (pc := 1) (v := (-1)) hc dX7_firstBehind_1 tw510 ?_
  refine J_iload_n (pc := 4) hc dX7_firstBehind_4 rfl rfl ?_
  refine J_iconst (pc := 5) (v := 1) hc dX7_firstBehind_5 (by decide) ?_
  refine J_iadd (pc := 6) hc dX7_firstBehind_6 ?_
  refine J_lshlN (pc := 7) hc dX7_firstBehind_7 ?_
  refine J_land (pc := 8) hc dX7_firstBehind_8 ?_
  refine J_nml (fun v1 => ?_)
  refine J_lstore (pc := 9) (l' := [some ((0, .long x0) : TV), none, some ((0, .int x2) : TV), some ((0, .int x3) : TV), some ((0, .long v1) : TV), none]) hc dX7_firstBehind_9 (by decide) rfl rfl ?_
  refine J_lload (pc := 11) hc dX7_firstBehind_11 rfl ?_
  refine J_lconst (pc := 13) (v := 0) hc dX7_firstBehind_13 rfl ?_
  refine J_lcmp (pc := 14) hc dX7_firstBehind_14 ?_
  refine J_if_ne (pc := 15) (tgt := 22) hc dX7_firstBehind_15 (by decide) ?_ ?_
  · refine J_lload (pc := 22) hc dX7_firstBehind_22 rfl ?_
    refine J_lload (pc := 24) hc dX7_firstBehind_24 rfl ?_
    refine J_lneg (pc := 26) hc dX7_firstBehind_26 ?_
    refine J_land (pc := 27) hc dX7_firstBehind_27 ?_
    refine J_lconst (pc := 28) (v := 1) hc dX7_firstBehind_28 rfl ?_
    refine J_lsub (pc := 29) hc dX7_firstBehind_29 ?_
    refine J_callSi (pc := 30) hc (As := [((0, .long ((v1 &&& (-v1)) - 1)) : TV)]) (KJ13_bitCount_95d88 ((v1 &&& (-v1)) - 1)) dX7_firstBehind_30 moJ13_bitCount_95d88 tw511 tw512 tw31 tw513 rfl (Nat.le_of_ble_eq_true rfl) (Nat.le_of_ble_eq_true rfl) (Nat.le_of_ble_eq_true rfl) (Nat.le_of_ble_eq_true rfl) (Nat.le_of_ble_eq_true rfl) rfl (fun v2 => ?_)
    exact J_iret (pc := 33) he dX7_firstBehind_33
  · refine J_iload_n (pc := 18) hc dX7_firstBehind_18 rfl rfl ?_
    refine J_goto (pc := 19) (tgt := 33) hc dX7_firstBehind_19 (by decide) ?_
    exact J_iret (pc := 33) he dX7_firstBehind_33
theorem moX7_firstBehind : MOk yX7_firstBehind 3 := ⟨by decide +kernel, by decide +kernel, by decide +kernel⟩
set_option maxRecDepth 100000 in
set_option maxHeartbeats 4000000 in
theorem KX7_firstBehind (x0 : Int64) (x2 : Int32) (x3 : Int32) : Ct wI yX7_firstBehind cX7_firstBehind 6 (some .int) 1 0 0 21 [((0, .long x0) : TV), ((0, .int x2) : TV), ((0, .int x3) : TV)] (fX7_firstBehind x0 x2 x3) :=
  Ct_I (j := 2) (by decide +kernel) rfl rfl (Nat.le_of_ble_eq_true rfl) (fun κ fin hc he => jX7_firstBehind hc he x0 x2 x3)
set_option maxRecDepth 100000 in
set_option maxHeartbeats 4000000 in
theorem jX4_look_L27 {κ : Cx} {fin : Unit → Mm → Prop} (hc : Jc κ RX4 cX4_look 1 2 0 0 46) (he : Ed κ cX4_look 0 0 wV .return_ fin) (x0 : Nat) (s0 : Int64) (s1 : Int64) (s2 : Nat) : Jg κ (wM κ) 1 fin 0 0 27 [some ((4, .ref x0) : TV)] [((0, .long s0) : TV), ((0, .long s1) : TV), ((4, .ref s2) : TV)] (fX4_look_L27 x0 s0 s1 s2) := by
  unfold fX4_look_L27
  refine J_land (pc := 27) hc dX4_look_27 ?_
  refine J_aload_n (pc := 28) hc dX4_look_28 rfl rfl ?_
  refine J_getI (pc := 29) hc clX4 (k := 1) (Nat.le_of_ble_eq_true rfl) rfl tw144 (Or.inl rfl) dX4_look_29 (fun v1 => ?_)
  refine J_aload_n (pc := 32) hc dX4_look_32 rfl rfl ?_
  refine J_getI (pc := 33) hc clX4 (k := 0) (Nat.le_of_ble_eq_true rfl) rfl tw143 (Or.inl rfl) dX4_look_33 (fun v2 => ?_)
  refine J_callSNi (pc := 36) hc (As := [((0, .long (s1 &&& s0)) : TV), ((0, .int v1) : TV), ((0, .int v2) : TV)]) (KX7_firstBehind (s1 &&& s0) v1 v2) dX4_look_36 moX7_firstBehind (by decide +kernel) tw508 tw2 tw509 rfl (Nat.le_of_ble_eq_true rfl) (Nat.le_of_ble_eq_true rfl) (Nat.le_of_ble_eq_true rfl) (Nat.le_of_ble_eq_true rfl) (Nat.le_of_ble_eq_true rfl) rfl (fun v3 => ?_)
  refine J_putI (pc := 39) hc clX4 (k := 4) (Nat.le_of_ble_eq_true rfl) rfl rfl tw151 (Or.inl rfl) rfl dX4_look_39 ?_
  refine J_aload_n (pc := 42) hc dX4_look_42 rfl rfl ?_
  refine J_aload_n (pc := 43) hc dX4_look_43 rfl rfl ?_
  refine J_getJ (pc := 44) hc clX4 (k := 7) (Nat.le_of_ble_eq_true rfl) rfl tw156 (Or.inl rfl) dX4_look_44 (fun v4 => ?_)
  refine J_aload_n (pc := 47) hc dX4_look_47 rfl rfl ?_
  refine J_getI (pc := 48) hc clX4 (k := 4) (Nat.le_of_ble_eq_true rfl) rfl tw151 (Or.inl rfl) dX4_look_48 (fun v5 => ?_)
  refine J_aload_n (pc := 51) hc dX4_look_51 rfl rfl ?_
  refine J_getI (pc := 52) hc clX4 (k := 0) (Nat.le_of_ble_eq_true rfl) rfl tw143 (Or.inl rfl) dX4_look_52 (fun v6 => ?_)
  refine J_callSNi (pc := 55) hc (As := [((0, .long v4) : TV), ((0, .int v5) : TV), ((0, .int v6) : TV)]) (KX7_firstBehind v4 v5 v6) dX4_look_55 moX7_firstBehind (by decide +kernel) tw508 tw2 tw509 rfl (Nat.le_of_ble_eq_true rfl) (Nat.le_of_ble_eq_true rfl) (Nat.le_of_ble_eq_true rfl) (Nat.le_of_ble_eq_true rfl) (Nat.le_of_ble_eq_true rfl) rfl (fun v7 => ?_)
  refine J_putI (pc := 58) hc clX4 (k := 5) (Nat.le_of_ble_eq_true rfl) rfl rfl tw153 (Or.inl rfl) rfl dX4_look_58 ?_
  exact J_vret (pc := 61) he dX4_look_61
set_option maxRecDepth 100000 in
set_option maxHeartbeats 4000000 in
theorem jX4_look {κ : Cx} {fin : Unit → Mm → Prop} (hc : Jc κ RX4 cX4_look 1 2 0 0 46) (he : Ed κ cX4_look 0 0 wV .return_ fin) (x0 : Nat) : Jg κ (wM κ) 1 fin 0 0 0 [some ((4, .ref x0) : TV)] [] (fX4_look x0) := by
  unfold fX4_look
  refine J_aload_n (pc := 0) hc dX4_look_0 rfl rfl ?_
  refine J_aload_n (pc := 1) hc dX4_look_1 rfl rfl ?_
  refine J_getJ (pc := 2) hc clX4 (k := 7) (Nat.le_of_ble_eq_true rfl) rfl tw156 (Or.inl rfl) dX4_look_2 (fun v8 => ?_)
  refine J_aload_n (pc := 5) hc dX4_look_5 rfl rfl ?_
  refine J_getI (pc := 6) hc clX4 (k := 2) (Nat.le_of_ble_eq_true rfl) rfl tw146 (Or.inl rfl) dX4_look_6 (fun v9 => ?_)
  refine J_if_eq (pc := 9) (tgt := 23) hc dX4_look_9 (by decide) ?_ ?_
  · refine J_aload_n (pc := 23) hc dX4_look_23 rfl rfl ?_
    refine J_getJ (pc := 24) hc clX4 (k := 6) (Nat.le_of_ble_eq_true rfl) rfl tw155 (Or.inl rfl) dX4_look_24 (fun v10 => ?_)
    refine J_sub (l' := [some ((4, .ref x0) : TV)]) ⟨rfl, trivial⟩ ?_
    exact jX4_look_L27 hc he x0 v10 v8 x0
  · refine J_aload_n (pc := 12) hc dX4_look_12 rfl rfl ?_
    refine J_getJ (pc := 13) hc clX4 (k := 6) (Nat.le_of_ble_eq_true rfl) rfl tw155 (Or.inl rfl) dX4_look_13 (fun v11 => ?_)
    refine J_ldc2 (pc := 16) (v := (-1)) hc dX4_look_16 tw506 ?_
    refine J_lxor (pc := 19) hc dX4_look_19 ?_
    refine J_goto (pc := 20) (tgt := 27) hc dX4_look_20 (by decide) ?_
    refine J_sub (l' := [some ((4, .ref x0) : TV)]) ⟨rfl, trivial⟩ ?_
    exact jX4_look_L27 hc he x0 (v11 ^^^ (-1)) v8 x0
theorem moX4_look : MOk yX4_look 0 := ⟨by decide +kernel, by decide +kernel, by decide +kernel⟩
set_option maxRecDepth 100000 in
set_option maxHeartbeats 4000000 in
theorem KX4_look (x0 : Nat) : Ct wV yX4_look cX4_look 1 none 2 0 0 46 [((4, .ref x0) : TV)] (fX4_look x0) :=
  Ct_V (j := 0) (by decide +kernel) rfl rfl (Nat.le_of_ble_eq_true rfl) (fun κ fin hc he hin => jX4_look hc he x0)
set_option maxRecDepth 100000 in
set_option maxHeartbeats 4000000 in
theorem jX0_putMode {κ : Cx} {fin : Unit → Mm → Prop} (hc : Jc κ RX0 cX0_putMode 5 0 0 0 0) (he : Ed κ cX0_putMode 0 0 wV .return_ fin) (x0 : Nat) (x1 : Int32) (x2 : Int32) (x3 : Int32) (x4 : Int32) : Jg κ (wM κ) 5 fin 0 0 0 [some ((0, .ref x0) : TV), some ((0, .int x1) : TV), some ((0, .int x2) : TV), some ((0, .int x3) : TV), some ((0, .int x4) : TV)] [] (fX0_putMode x0 x1 x2 x3 x4) := by
  unfold fX0_putMode
  refine J_aload_n (pc := 0) hc dX0_putMode_0 rfl rfl ?_
  refine J_getA (pc := 1) hc clX0 (k := 6) (kd := 4) (Nat.le_of_ble_eq_true rfl) rfl (Nat.le_of_ble_eq_true rfl) tw210 (Or.inl rfl) dX0_putMode_1 (fun v1 => ?_)
  refine J_iload (pc := 4) hc dX0_putMode_4 rfl ?_
  refine J_putI (pc := 6) hc clX4 (k := 1) (Nat.le_of_ble_eq_true rfl) rfl rfl tw145 (Or.inl rfl) rfl dX0_putMode_6 ?_
  refine J_aload_n (pc := 9) hc dX0_putMode_9 rfl rfl ?_
  refine J_getI (pc := 10) hc clX0 (k := 0) (Nat.le_of_ble_eq_true rfl) rfl tw201 (Or.inl rfl) dX0_putMode_10 (fun v2 => ?_)
  refine J_if_lt (pc := 13) (tgt := 25) hc dX0_putMode_13 (by decide) ?_ ?_
  · exact J_vret (pc := 25) he dX0_putMode_25
  · refine J_aload_n (pc := 16) hc dX0_putMode_16 rfl rfl ?_
    refine J_getI (pc := 17) hc clX0 (k := 0) (Nat.le_of_ble_eq_true rfl) rfl tw201 (Or.inl rfl) dX0_putMode_17 (fun v3 => ?_)
    refine J_bipush (pc := 20) (v := 41) hc dX0_putMode_20 (by decide) ?_
    refine J_icmp_lt (pc := 22) (tgt := 26) hc dX0_putMode_22 (by decide) ?_ ?_
    · refine J_aload_n (pc := 26) hc dX0_putMode_26 rfl rfl ?_
      refine J_getA (pc := 27) hc clX0 (k := 2) (kd := 11) (Nat.le_of_ble_eq_true rfl) rfl (Nat.le_of_ble_eq_true rfl) tw206 (Or.inl rfl) dX0_putMode_27 (fun v4 => ?_)
      refine J_aload_n (pc := 30) hc dX0_putMode_30 rfl rfl ?_
      refine J_getI (pc := 31) hc clX0 (k := 0) (Nat.le_of_ble_eq_true rfl) rfl tw201 (Or.inl rfl) dX0_putMode_31 (fun v5 => ?_)
      refine J_iload_n (pc := 34) hc dX0_putMode_34 rfl rfl ?_
      refine J_iast (pc := 35) hc dX0_putMode_35 ?_
      refine J_aload_n (pc := 36) hc dX0_putMode_36 rfl rfl ?_
      refine J_getA (pc := 37) hc clX0 (k := 3) (kd := 11) (Nat.le_of_ble_eq_true rfl) rfl (Nat.le_of_ble_eq_true rfl) tw207 (Or.inl rfl) dX0_putMode_37 (fun v6 => ?_)
      refine J_aload_n (pc := 40) hc dX0_putMode_40 rfl rfl ?_
      refine J_getI (pc := 41) hc clX0 (k := 0) (Nat.le_of_ble_eq_true rfl) rfl tw201 (Or.inl rfl) dX0_putMode_41 (fun v7 => ?_)
      refine J_iload_n (pc := 44) hc dX0_putMode_44 rfl rfl ?_
      refine J_iast (pc := 45) hc dX0_putMode_45 ?_
      refine J_aload_n (pc := 46) hc dX0_putMode_46 rfl rfl ?_
      refine J_getA (pc := 47) hc clX0 (k := 4) (kd := 11) (Nat.le_of_ble_eq_true rfl) rfl (Nat.le_of_ble_eq_true rfl) tw208 (Or.inl rfl) dX0_putMode_47 (fun v8 => ?_)
      refine J_aload_n (pc := 50) hc dX0_putMode_50 rfl rfl ?_
      refine J_getI (pc := 51) hc clX0 (k := 0) (Nat.le_of_ble_eq_true rfl) rfl tw201 (Or.inl rfl) dX0_putMode_51 (fun v9 => ?_)
      refine J_iload_n (pc := 54) hc dX0_putMode_54 rfl rfl ?_
      refine J_iast (pc := 55) hc dX0_putMode_55 ?_
      refine J_aload_n (pc := 56) hc dX0_putMode_56 rfl rfl ?_
      refine J_getA (pc := 57) hc clX0 (k := 5) (kd := 11) (Nat.le_of_ble_eq_true rfl) rfl (Nat.le_of_ble_eq_true rfl) tw209 (Or.inl rfl) dX0_putMode_57 (fun v10 => ?_)
      refine J_aload_n (pc := 60) hc dX0_putMode_60 rfl rfl ?_
      refine J_getI (pc := 61) hc clX0 (k := 0) (Nat.le_of_ble_eq_true rfl) rfl tw201 (Or.inl rfl) dX0_putMode_61 (fun v11 => ?_)
      refine J_iload (pc := 64) hc dX0_putMode_64 rfl ?_
      refine J_iast (pc := 66) hc dX0_putMode_66 ?_
      refine J_aload_n (pc := 67) hc dX0_putMode_67 rfl rfl ?_
      refine J_dup (pc := 68) hc dX0_putMode_68 rfl ?_
      refine J_getI (pc := 69) hc clX0 (k := 0) (Nat.le_of_ble_eq_true rfl) rfl tw201 (Or.inl rfl) dX0_putMode_69 (fun v12 => ?_)
      refine J_iconst (pc := 72) (v := 1) hc dX0_putMode_72 (by decide) ?_
      refine J_iadd (pc := 73) hc dX0_putMode_73 ?_
      refine J_putI (pc := 74) hc clX0 (k := 0) (Nat.le_of_ble_eq_true rfl) rfl rfl tw201 (Or.inl rfl) rfl dX0_putMode_74 ?_
      exact J_vret (pc := 77) he dX0_putMode_77
    · exact J_vret (pc := 25) he dX0_putMode_25
theorem moX0_putMode : MOk yX0_putMode 4 := ⟨by decide +kernel, by decide +kernel, by decide +kernel⟩
set_option maxRecDepth 100000 in
set_option maxHeartbeats 4000000 in
theorem KX0_putMode (x0 : Nat) (x1 : Int32) (x2 : Int32) (x3 : Int32) (x4 : Int32) : Ct wV yX0_putMode cX0_putMode 5 none 0 0 0 0 [((0, .ref x0) : TV), ((0, .int x1) : TV), ((0, .int x2) : TV), ((0, .int x3) : TV), ((0, .int x4) : TV)] (fX0_putMode x0 x1 x2 x3 x4) :=
  Ct_V (j := 0) (by decide +kernel) rfl rfl (Nat.le_of_ble_eq_true rfl) (fun κ fin hc he hin => jX0_putMode hc he x0 x1 x2 x3 x4)
set_option maxRecDepth 100000 in
set_option maxHeartbeats 4000000 in
theorem jX0_verticalBits {κ : Cx} {fin : Int32 → Mm → Prop} (hc : Jc κ RX0 cX0_verticalBits 1 1 0 0 21) (he : Ed κ cX0_verticalBits 0 0 wI .ireturn fin) (x0 : Int32) : Jg κ (wM κ) 1 fin 0 0 0 [some ((0, .int x0) : TV)] [] (fX0_verticalBits x0) := by
  unfold fX0_verticalBits
  refine J_iload_n (pc := 0) hc dX0_verticalBits_0 rfl rfl ?_
  refine J_mabs (pc := 1) hc dX0_verticalBits_1 tw1029 tw1030 tw19 tw1031 (Nat.le_of_ble_eq_true rfl) (Nat.le_of_ble_eq_true rfl) (Nat.le_of_ble_eq_true rfl) (Nat.le_of_ble_eq_true rfl) (Nat.le_of_ble_eq_true rfl) ?_
  refine J_swc (pc := 4) (v := 0) (tgt := 32) hc dX0_verticalBits_4 (by decide) (by decide) rfl (by decide) (by decide) ?_ (fun h4_0 => ?_)
  · refine J_iconst (pc := 32) (v := 1) hc dX0_verticalBits_32 (by decide) ?_
    exact J_iret (pc := 33) he dX0_verticalBits_33
  refine J_swc (pc := 4) (v := 1) (tgt := 34) hc dX0_verticalBits_4 (by decide) (by decide) rfl (by decide) (by decide) ?_ (fun h4_1 => ?_)
  · refine J_iconst (pc := 34) (v := 3) hc dX0_verticalBits_34 (by decide) ?_
    exact J_iret (pc := 35) he dX0_verticalBits_35
  refine J_swc (pc := 4) (v := 2) (tgt := 36) hc dX0_verticalBits_4 (by decide) (by decide) rfl (by decide) (by decide) ?_ (fun h4_2 => ?_)
  · refine J_bipush (pc := 36) (v := 6) hc dX0_verticalBits_36 (by decide) ?_
    exact J_iret (pc := 38) he dX0_verticalBits_38
  refine J_swd (pc := 4) (tgt := 39) hc dX0_verticalBits_4 (by omega) (by decide) ?_
  · refine J_bipush (pc := 39) (v := 7) hc dX0_verticalBits_39 (by decide) ?_
    exact J_iret (pc := 41) he dX0_verticalBits_41
theorem moX0_verticalBits : MOk yX0_verticalBits 1 := ⟨by decide +kernel, by decide +kernel, by decide +kernel⟩
set_option maxRecDepth 100000 in
set_option maxHeartbeats 4000000 in
theorem KX0_verticalBits (x0 : Int32) : Ct wI yX0_verticalBits cX0_verticalBits 1 (some .int) 1 0 0 21 [((0, .int x0) : TV)] (fX0_verticalBits x0) :=
  Ct_I (j := 0) (by decide +kernel) rfl rfl (Nat.le_of_ble_eq_true rfl) (fun κ fin hc he => jX0_verticalBits hc he x0)
set_option maxRecDepth 100000 in
set_option maxHeartbeats 4000000 in
theorem jX7_numberBits {κ : Cx} {fin : Int32 → Mm → Prop} (hc : Jc κ RX7 cX7_numberBits 1 0 0 0 0) (he : Ed κ cX7_numberBits 0 0 wI .ireturn fin) (x0 : Int32) : Jg κ (wM κ) 1 fin 0 0 0 [some ((0, .int x0) : TV)] [] (fX7_numberBits x0) := by
  unfold fX7_numberBits
  refine J_iload_n (pc := 0) hc dX7_numberBits_0 rfl rfl ?_
  refine J_bipush (pc := 1) (v := 8) hc dX7_numberBits_1 (by decide) ?_
  refine J_icmp_ge (pc := 3) (tgt := 10) hc dX7_numberBits_3 (by decide) ?_ ?_
  · refine J_bipush (pc := 10) (v := 8) hc dX7_numberBits_10 (by decide) ?_
    exact J_iret (pc := 12) he dX7_numberBits_12
  · refine J_iconst (pc := 6) (v := 4) hc dX7_numberBits_6 (by decide) ?_
    refine J_goto (pc := 7) (tgt := 12) hc dX7_numberBits_7 (by decide) ?_
    exact J_iret (pc := 12) he dX7_numberBits_12
theorem moX7_numberBits : MOk yX7_numberBits 1 := ⟨by decide +kernel, by decide +kernel, by decide +kernel⟩
set_option maxRecDepth 100000 in
set_option maxHeartbeats 4000000 in
theorem KX7_numberBits (x0 : Int32) : Ct wI yX7_numberBits cX7_numberBits 1 (some .int) 0 0 0 0 [((0, .int x0) : TV)] (fX7_numberBits x0) :=
  Ct_I (j := 0) (by decide +kernel) rfl rfl (Nat.le_of_ble_eq_true rfl) (fun κ fin hc he => jX7_numberBits hc he x0)
set_option maxRecDepth 100000 in
set_option maxHeartbeats 4000000 in
theorem jX0_addMode_L190 {κ : Cx} {fin : Unit → Mm → Prop} (hc : Jc κ RX0 cX0_addMode 12 2 0 0 46) (he : Ed κ cX0_addMode 0 0 wV .return_ fin) (x0 : Nat) (x3 : Int32) (x4 : Int64) (x8 : Int32) (s0 : Int32) (s1 : Int32) : Jg κ (wM κ) 12 fin 0 0 190 [some ((0, .ref x0) : TV), none, none, some ((0, .int x3) : TV), some ((0, .long x4) : TV), none, none, none, some ((0, .int x8) : TV), none, none, none] [((0, .int s0) : TV), ((0, .int s1) : TV)] (fX0_addMode_L190 x0 x3 x4 x8 s0 s1) := by
  unfold fX0_addMode_L190
  refine J_isub (pc := 190) hc dX0_addMode_190 ?_
  refine J_nmi (fun v1 => ?_)
  refine J_istore (pc := 191) (l' := [some ((0, .ref x0) : TV), none, none, some ((0, .int x3) : TV), some ((0, .long x4) : TV), none, none, none, some ((0, .int x8) : TV), none, some ((0, .int v1) : TV), none]) hc dX0_addMode_191 (by decide) rfl rfl ?_
  refine J_lload (pc := 193) hc dX0_addMode_193 rfl ?_
  refine J_iload (pc := 195) hc dX0_addMode_195 rfl ?_
  refine J_iload_n (pc := 197) hc dX0_addMode_197 rfl rfl ?_
  refine J_callSNi (pc := 198) hc (As := [((0, .long x4) : TV), ((0, .int x8) : TV), ((0, .int x3) : TV)]) (KX7_firstBehind x4 x8 x3) dX0_addMode_198 moX7_firstBehind (by decide +kernel) tw508 tw2 tw509 rfl (Nat.le_of_ble_eq_true rfl) (Nat.le_of_ble_eq_true rfl) (Nat.le_of_ble_eq_true rfl) (Nat.le_of_ble_eq_true rfl) (Nat.le_of_ble_eq_true rfl) rfl (fun v2 => ?_)
  refine J_istore (pc := 201) (l' := [some ((0, .ref x0) : TV), none, none, some ((0, .int x3) : TV), some ((0, .long x4) : TV), none, none, none, some ((0, .int x8) : TV), none, some ((0, .int v1) : TV), some ((0, .int v2) : TV)]) hc dX0_addMode_201 (by decide) rfl rfl ?_
  refine J_aload_n (pc := 203) hc dX0_addMode_203 rfl rfl ?_
  refine J_iconst (pc := 204) (v := 2) hc dX0_addMode_204 (by decide) ?_
  refine J_iload (pc := 205) hc dX0_addMode_205 rfl ?_
  refine J_iload (pc := 207) hc dX0_addMode_207 rfl ?_
  refine J_iload (pc := 209) hc dX0_addMode_209 rfl ?_
  refine J_isub (pc := 211) hc dX0_addMode_211 ?_
  refine J_iload (pc := 212) hc dX0_addMode_212 rfl ?_
  refine J_callVv (pc := 214) hc clX0 (As := [((0, .int 2) : TV), ((0, .int v1) : TV), ((0, .int (v2 - x8)) : TV), ((0, .int v2) : TV)]) (KX0_putMode x0 2 v1 (v2 - x8) v2) dX0_addMode_214 moX0_putMode rfl tw1022 tw1024 twp30 tw8 tw1025 rfl (Nat.le_of_ble_eq_true rfl) (Nat.le_of_ble_eq_true rfl) (Nat.le_of_ble_eq_true rfl) (Nat.le_of_ble_eq_true rfl) (Nat.le_of_ble_eq_true rfl) rfl (fun _ => ?_)
  refine J_aload_n (pc := 217) hc dX0_addMode_217 rfl rfl ?_
  refine J_dup (pc := 218) hc dX0_addMode_218 rfl ?_
  refine J_getI (pc := 219) hc clX0 (k := 1) (Nat.le_of_ble_eq_true rfl) rfl tw203 (Or.inl rfl) dX0_addMode_219 (fun v3 => ?_)
  refine J_iconst (pc := 222) (v := 3) hc dX0_addMode_222 (by decide) ?_
  refine J_iload (pc := 223) hc dX0_addMode_223 rfl ?_
  refine J_callSNi (pc := 225) hc (As := [((0, .int v1) : TV)]) (KX7_numberBits v1) dX0_addMode_225 moX7_numberBits (by decide +kernel) tw1033 tw2 tw1034 rfl (Nat.le_of_ble_eq_true rfl) (Nat.le_of_ble_eq_true rfl) (Nat.le_of_ble_eq_true rfl) (Nat.le_of_ble_eq_true rfl) (Nat.le_of_ble_eq_true rfl) rfl (fun v4 => ?_)
  refine J_iadd (pc := 228) hc dX0_addMode_228 ?_
  refine J_iload (pc := 229) hc dX0_addMode_229 rfl ?_
  refine J_iload (pc := 231) hc dX0_addMode_231 rfl ?_
  refine J_isub (pc := 233) hc dX0_addMode_233 ?_
  refine J_callSNi (pc := 234) hc (As := [((0, .int (v2 - x8)) : TV)]) (KX7_numberBits (v2 - x8)) dX0_addMode_234 moX7_numberBits (by decide +kernel) tw1033 tw2 tw1034 rfl (Nat.le_of_ble_eq_true rfl) (Nat.le_of_ble_eq_true rfl) (Nat.le_of_ble_eq_true rfl) (Nat.le_of_ble_eq_true rfl) (Nat.le_of_ble_eq_true rfl) rfl (fun v5 => ?_)
  refine J_iadd (pc := 237) hc dX0_addMode_237 ?_
  refine J_iadd (pc := 238) hc dX0_addMode_238 ?_
  refine J_putI (pc := 239) hc clX0 (k := 1) (Nat.le_of_ble_eq_true rfl) rfl rfl tw203 (Or.inl rfl) rfl dX0_addMode_239 ?_
  exact J_vret (pc := 242) he dX0_addMode_242
set_option maxRecDepth 100000 in
set_option maxHeartbeats 4000000 in
theorem jX0_addMode_L167 {κ : Cx} {fin : Unit → Mm → Prop} (hc : Jc κ RX0 cX0_addMode 12 2 0 0 46) (he : Ed κ cX0_addMode 0 0 wV .return_ fin) (x0 : Nat) (x3 : Int32) (x4 : Int64) (x8 : Int32) : Jg κ (wM κ) 12 fin 0 0 167 [some ((0, .ref x0) : TV), none, none, some ((0, .int x3) : TV), some ((0, .long x4) : TV), none, none, none, some ((0, .int x8) : TV), none, none, none] [] (fX0_addMode_L167 x0 x3 x4 x8) := by
  unfold fX0_addMode_L167
  refine J_iload (pc := 167) hc dX0_addMode_167 rfl ?_
  refine J_aload_n (pc := 169) hc dX0_addMode_169 rfl rfl ?_
  refine J_getA (pc := 170) hc clX0 (k := 6) (kd := 4) (Nat.le_of_ble_eq_true rfl) rfl (Nat.le_of_ble_eq_true rfl) tw210 (Or.inl rfl) dX0_addMode_170 (fun v6 => ?_)
  refine J_getI (pc := 173) hc clX4 (k := 1) (Nat.le_of_ble_eq_true rfl) rfl tw145 (Or.inl rfl) dX0_addMode_173 (fun v7 => ?_)
  refine J_if_ge (pc := 176) (tgt := 183) hc dX0_addMode_176 (by decide) ?_ ?_
  · refine J_aload_n (pc := 183) hc dX0_addMode_183 rfl rfl ?_
    refine J_getA (pc := 184) hc clX0 (k := 6) (kd := 4) (Nat.le_of_ble_eq_true rfl) rfl (Nat.le_of_ble_eq_true rfl) tw210 (Or.inl rfl) dX0_addMode_184 (fun v8 => ?_)
    refine J_getI (pc := 187) hc clX4 (k := 1) (Nat.le_of_ble_eq_true rfl) rfl tw145 (Or.inl rfl) dX0_addMode_187 (fun v9 => ?_)
    refine J_sub (l' := [some ((0, .ref x0) : TV), none, none, some ((0, .int x3) : TV), some ((0, .long x4) : TV), none, none, none, some ((0, .int x8) : TV), none, none, none]) ⟨rfl, ⟨rfl, ⟨rfl, ⟨rfl, trivial⟩⟩⟩⟩ ?_
    exact jX0_addMode_L190 hc he x0 x3 x4 x8 v9 x8
  · refine J_iconst (pc := 179) (v := 0) hc dX0_addMode_179 (by decide) ?_
    refine J_goto (pc := 180) (tgt := 190) hc dX0_addMode_180 (by decide) ?_
    refine J_sub (l' := [some ((0, .ref x0) : TV), none, none, some ((0, .int x3) : TV), some ((0, .long x4) : TV), none, none, none, some ((0, .int x8) : TV), none, none, none]) ⟨rfl, ⟨rfl, ⟨rfl, ⟨rfl, trivial⟩⟩⟩⟩ ?_
    exact jX0_addMode_L190 hc he x0 x3 x4 x8 0 x8
set_option maxRecDepth 100000 in
set_option maxHeartbeats 4000000 in
theorem jX0_addMode_L161 {κ : Cx} {fin : Unit → Mm → Prop} (hc : Jc κ RX0 cX0_addMode 12 2 0 0 46) (he : Ed κ cX0_addMode 0 0 wV .return_ fin) (s0 : Int32) (s1 : Nat) : Jg κ (wM κ) 12 fin 0 0 161 [none, none, none, none, none, none, none, none, none, none, none, none] [((0, .int s0) : TV), ((4, .ref s1) : TV)] (fX0_addMode_L161 s0 s1) := by
  unfold fX0_addMode_L161
  refine J_putZ (pc := 161) hc clX4 (k := 2) (Nat.le_of_ble_eq_true rfl) rfl rfl tw147 (Or.inl rfl) rfl dX0_addMode_161 ?_
  refine J_goto (pc := 164) (tgt := 242) hc dX0_addMode_164 (by decide) ?_
  exact J_vret (pc := 242) he dX0_addMode_242
set_option maxRecDepth 100000 in
set_option maxHeartbeats 4000000 in
theorem jX0_addMode_L19 {κ : Cx} {fin : Unit → Mm → Prop} (hc : Jc κ RX0 cX0_addMode 12 2 0 0 46) (he : Ed κ cX0_addMode 0 0 wV .return_ fin) (x0 : Nat) (x3 : Int32) (s0 : Int64) : Jg κ (wM κ) 12 fin 0 0 19 [some ((0, .ref x0) : TV), none, none, some ((0, .int x3) : TV), none, none, none, none, none, none, none, none] [((0, .long s0) : TV)] (fX0_addMode_L19 x0 x3 s0) := by
  unfold fX0_addMode_L19
  refine J_iload_n (pc := 19) hc dX0_addMode_19 rfl rfl ?_
  refine J_callSNj (pc := 20) hc (As := [((0, .int x3) : TV)]) (KX7_allBlack x3) dX0_addMode_20 moX7_allBlack (by decide +kernel) tw473 tw2 tw474 rfl (Nat.le_of_ble_eq_true rfl) (Nat.le_of_ble_eq_true rfl) (Nat.le_of_ble_eq_true rfl) (Nat.le_of_ble_eq_true rfl) (Nat.le_of_ble_eq_true rfl) rfl (fun v10 => ?_)
  refine J_land (pc := 23) hc dX0_addMode_23 ?_
  refine J_nml (fun v11 => ?_)
  refine J_lstore (pc := 24) (l' := [some ((0, .ref x0) : TV), none, none, some ((0, .int x3) : TV), some ((0, .long v11) : TV), none, none, none, none, none, none, none]) hc dX0_addMode_24 (by decide) rfl rfl ?_
  refine J_lload (pc := 26) hc dX0_addMode_26 rfl ?_
  refine J_ldc2 (pc := 28) (v := (-1)) hc dX0_addMode_28 tw1019 ?_
  refine J_lxor (pc := 31) hc dX0_addMode_31 ?_
  refine J_iload_n (pc := 32) hc dX0_addMode_32 rfl rfl ?_
  refine J_callSNj (pc := 33) hc (As := [((0, .int x3) : TV)]) (KX7_allBlack x3) dX0_addMode_33 moX7_allBlack (by decide +kernel) tw473 tw2 tw474 rfl (Nat.le_of_ble_eq_true rfl) (Nat.le_of_ble_eq_true rfl) (Nat.le_of_ble_eq_true rfl) (Nat.le_of_ble_eq_true rfl) (Nat.le_of_ble_eq_true rfl) rfl (fun v12 => ?_)
  refine J_land (pc := 36) hc dX0_addMode_36 ?_
  refine J_nml (fun v13 => ?_)
  refine J_lstore (pc := 37) (l' := [some ((0, .ref x0) : TV), none, none, some ((0, .int x3) : TV), some ((0, .long v11) : TV), none, some ((0, .long v13) : TV), none, none, none, none, none]) hc dX0_addMode_37 (by decide) rfl rfl ?_
  refine J_lload (pc := 39) hc dX0_addMode_39 rfl ?_
  refine J_aload_n (pc := 41) hc dX0_addMode_41 rfl rfl ?_
  refine J_getA (pc := 42) hc clX0 (k := 6) (kd := 4) (Nat.le_of_ble_eq_true rfl) rfl (Nat.le_of_ble_eq_true rfl) tw210 (Or.inl rfl) dX0_addMode_42 (fun v14 => ?_)
  refine J_getI (pc := 45) hc clX4 (k := 1) (Nat.le_of_ble_eq_true rfl) rfl tw145 (Or.inl rfl) dX0_addMode_45 (fun v15 => ?_)
  refine J_iload_n (pc := 48) hc dX0_addMode_48 rfl rfl ?_
  refine J_callSNi (pc := 49) hc (As := [((0, .long v13) : TV), ((0, .int v15) : TV), ((0, .int x3) : TV)]) (KX7_firstBehind v13 v15 x3) dX0_addMode_49 moX7_firstBehind (by decide +kernel) tw508 tw2 tw509 rfl (Nat.le_of_ble_eq_true rfl) (Nat.le_of_ble_eq_true rfl) (Nat.le_of_ble_eq_true rfl) (Nat.le_of_ble_eq_true rfl) (Nat.le_of_ble_eq_true rfl) rfl (fun v16 => ?_)
  refine J_istore (pc := 52) (l' := [some ((0, .ref x0) : TV), none, none, some ((0, .int x3) : TV), some ((0, .long v11) : TV), none, some ((0, .long v13) : TV), none, some ((0, .int v16) : TV), none, none, none]) hc dX0_addMode_52 (by decide) rfl rfl ?_
  refine J_iload (pc := 54) hc dX0_addMode_54 rfl ?_
  refine J_aload_n (pc := 56) hc dX0_addMode_56 rfl rfl ?_
  refine J_getA (pc := 57) hc clX0 (k := 6) (kd := 4) (Nat.le_of_ble_eq_true rfl) rfl (Nat.le_of_ble_eq_true rfl) tw210 (Or.inl rfl) dX0_addMode_57 (fun v17 => ?_)
  refine J_getI (pc := 60) hc clX4 (k := 4) (Nat.le_of_ble_eq_true rfl) rfl tw152 (Or.inl rfl) dX0_addMode_60 (fun v18 => ?_)
  refine J_isub (pc := 63) hc dX0_addMode_63 ?_
  refine J_nmi (fun v19 => ?_)
  refine J_istore (pc := 64) (l' := [some ((0, .ref x0) : TV), none, none, some ((0, .int x3) : TV), some ((0, .long v11) : TV), none, some ((0, .long v13) : TV), none, some ((0, .int v16) : TV), some ((0, .int v19) : TV), none, none]) hc dX0_addMode_64 (by decide) rfl rfl ?_
  refine J_aload_n (pc := 66) hc dX0_addMode_66 rfl rfl ?_
  refine J_getA (pc := 67) hc clX0 (k := 6) (kd := 4) (Nat.le_of_ble_eq_true rfl) rfl (Nat.le_of_ble_eq_true rfl) tw210 (Or.inl rfl) dX0_addMode_67 (fun v20 => ?_)
  refine J_getI (pc := 70) hc clX4 (k := 5) (Nat.le_of_ble_eq_true rfl) rfl tw154 (Or.inl rfl) dX0_addMode_70 (fun v21 => ?_)
  refine J_iload (pc := 73) hc dX0_addMode_73 rfl ?_
  refine J_icmp_ge (pc := 75) (tgt := 105) hc dX0_addMode_75 (by decide) ?_ ?_
  · refine J_iload (pc := 105) hc dX0_addMode_105 rfl ?_
    refine J_bipush (pc := 107) (v := (-3)) hc dX0_addMode_107 (by decide) ?_
    refine J_icmp_lt (pc := 109) (tgt := 167) hc dX0_addMode_109 (by decide) ?_ ?_
    · refine J_sub (l' := [some ((0, .ref x0) : TV), none, none, some ((0, .int x3) : TV), some ((0, .long v11) : TV), none, none, none, some ((0, .int v16) : TV), none, none, none]) ⟨rfl, ⟨rfl, ⟨rfl, ⟨rfl, trivial⟩⟩⟩⟩ ?_
      exact jX0_addMode_L167 hc he x0 x3 v11 v16
    · refine J_iload (pc := 112) hc dX0_addMode_112 rfl ?_
      refine J_iconst (pc := 114) (v := 3) hc dX0_addMode_114 (by decide) ?_
      refine J_icmp_gt (pc := 115) (tgt := 167) hc dX0_addMode_115 (by decide) ?_ ?_
      · refine J_sub (l' := [some ((0, .ref x0) : TV), none, none, some ((0, .int x3) : TV), some ((0, .long v11) : TV), none, none, none, some ((0, .int v16) : TV), none, none, none]) ⟨rfl, ⟨rfl, ⟨rfl, ⟨rfl, trivial⟩⟩⟩⟩ ?_
        exact jX0_addMode_L167 hc he x0 x3 v11 v16
      · refine J_aload_n (pc := 118) hc dX0_addMode_118 rfl rfl ?_
        refine J_iconst (pc := 119) (v := 1) hc dX0_addMode_119 (by decide) ?_
        refine J_iload (pc := 120) hc dX0_addMode_120 rfl ?_
        refine J_iconst (pc := 122) (v := 0) hc dX0_addMode_122 (by decide) ?_
        refine J_iload (pc := 123) hc dX0_addMode_123 rfl ?_
        refine J_callVv (pc := 125) hc clX0 (As := [((0, .int 1) : TV), ((0, .int v19) : TV), ((0, .int 0) : TV), ((0, .int v16) : TV)]) (KX0_putMode x0 1 v19 0 v16) dX0_addMode_125 moX0_putMode rfl tw1022 tw1024 twp30 tw8 tw1025 rfl (Nat.le_of_ble_eq_true rfl) (Nat.le_of_ble_eq_true rfl) (Nat.le_of_ble_eq_true rfl) (Nat.le_of_ble_eq_true rfl) (Nat.le_of_ble_eq_true rfl) rfl (fun _ => ?_)
        refine J_aload_n (pc := 128) hc dX0_addMode_128 rfl rfl ?_
        refine J_dup (pc := 129) hc dX0_addMode_129 rfl ?_
        refine J_getI (pc := 130) hc clX0 (k := 1) (Nat.le_of_ble_eq_true rfl) rfl tw203 (Or.inl rfl) dX0_addMode_130 (fun v22 => ?_)
        refine J_iload (pc := 133) hc dX0_addMode_133 rfl ?_
        refine J_callSi (pc := 135) hc (As := [((0, .int v19) : TV)]) (KX0_verticalBits v19) dX0_addMode_135 moX0_verticalBits tw1026 tw1027 tw8 tw1028 rfl (Nat.le_of_ble_eq_true rfl) (Nat.le_of_ble_eq_true rfl) (Nat.le_of_ble_eq_true rfl) (Nat.le_of_ble_eq_true rfl) (Nat.le_of_ble_eq_true rfl) rfl (fun v23 => ?_)
        refine J_iadd (pc := 138) hc dX0_addMode_138 ?_
        refine J_putI (pc := 139) hc clX0 (k := 1) (Nat.le_of_ble_eq_true rfl) rfl rfl tw203 (Or.inl rfl) rfl dX0_addMode_139 ?_
        refine J_aload_n (pc := 142) hc dX0_addMode_142 rfl rfl ?_
        refine J_getA (pc := 143) hc clX0 (k := 6) (kd := 4) (Nat.le_of_ble_eq_true rfl) rfl (Nat.le_of_ble_eq_true rfl) tw210 (Or.inl rfl) dX0_addMode_143 (fun v24 => ?_)
        refine J_aload_n (pc := 146) hc dX0_addMode_146 rfl rfl ?_
        refine J_getA (pc := 147) hc clX0 (k := 6) (kd := 4) (Nat.le_of_ble_eq_true rfl) rfl (Nat.le_of_ble_eq_true rfl) tw210 (Or.inl rfl) dX0_addMode_147 (fun v25 => ?_)
        refine J_getI (pc := 150) hc clX4 (k := 2) (Nat.le_of_ble_eq_true rfl) rfl tw147 (Or.inl rfl) dX0_addMode_150 (fun v26 => ?_)
        refine J_if_ne (pc := 153) (tgt := 160) hc dX0_addMode_153 (by decide) ?_ ?_
        · refine J_iconst (pc := 160) (v := 0) hc dX0_addMode_160 (by decide) ?_
          refine J_sub (l' := [none, none, none, none, none, none, none, none, none, none, none, none]) (show subL _ _ from trivial) ?_
          exact jX0_addMode_L161 hc he 0 v24
        · refine J_iconst (pc := 156) (v := 1) hc dX0_addMode_156 (by decide) ?_
          refine J_goto (pc := 157) (tgt := 161) hc dX0_addMode_157 (by decide) ?_
          refine J_sub (l' := [none, none, none, none, none, none, none, none, none, none, none, none]) (show subL _ _ from trivial) ?_
          exact jX0_addMode_L161 hc he 1 v24
  · refine J_aload_n (pc := 78) hc dX0_addMode_78 rfl rfl ?_
    refine J_iconst (pc := 79) (v := 0) hc dX0_addMode_79 (by decide) ?_
    refine J_iconst (pc := 80) (v := 0) hc dX0_addMode_80 (by decide) ?_
    refine J_iconst (pc := 81) (v := 0) hc dX0_addMode_81 (by decide) ?_
    refine J_aload_n (pc := 82) hc dX0_addMode_82 rfl rfl ?_
    refine J_getA (pc := 83) hc clX0 (k := 6) (kd := 4) (Nat.le_of_ble_eq_true rfl) rfl (Nat.le_of_ble_eq_true rfl) tw210 (Or.inl rfl) dX0_addMode_83 (fun v27 => ?_)
    refine J_getI (pc := 86) hc clX4 (k := 5) (Nat.le_of_ble_eq_true rfl) rfl tw154 (Or.inl rfl) dX0_addMode_86 (fun v28 => ?_)
    refine J_callVv (pc := 89) hc clX0 (As := [((0, .int 0) : TV), ((0, .int 0) : TV), ((0, .int 0) : TV), ((0, .int v28) : TV)]) (KX0_putMode x0 0 0 0 v28) dX0_addMode_89 moX0_putMode rfl tw1022 tw1024 twp30 tw8 tw1025 rfl (Nat.le_of_ble_eq_true rfl) (Nat.le_of_ble_eq_true rfl) (Nat.le_of_ble_eq_true rfl) (Nat.le_of_ble_eq_true rfl) (Nat.le_of_ble_eq_true rfl) rfl (fun _ => ?_)
    refine J_aload_n (pc := 92) hc dX0_addMode_92 rfl rfl ?_
    refine J_dup (pc := 93) hc dX0_addMode_93 rfl ?_
    refine J_getI (pc := 94) hc clX0 (k := 1) (Nat.le_of_ble_eq_true rfl) rfl tw203 (Or.inl rfl) dX0_addMode_94 (fun v29 => ?_)
    refine J_iconst (pc := 97) (v := 4) hc dX0_addMode_97 (by decide) ?_
    refine J_iadd (pc := 98) hc dX0_addMode_98 ?_
    refine J_putI (pc := 99) hc clX0 (k := 1) (Nat.le_of_ble_eq_true rfl) rfl rfl tw203 (Or.inl rfl) rfl dX0_addMode_99 ?_
    refine J_goto (pc := 102) (tgt := 242) hc dX0_addMode_102 (by decide) ?_
    exact J_vret (pc := 242) he dX0_addMode_242
set_option maxRecDepth 100000 in
set_option maxHeartbeats 4000000 in
theorem jX0_addMode {κ : Cx} {fin : Unit → Mm → Prop} (hc : Jc κ RX0 cX0_addMode 12 2 0 0 46) (he : Ed κ cX0_addMode 0 0 wV .return_ fin) (x0 : Nat) (x1 : Int64) (x3 : Int32) : Jg κ (wM κ) 12 fin 0 0 0 [some ((0, .ref x0) : TV), some ((0, .long x1) : TV), none, some ((0, .int x3) : TV), none, none, none, none, none, none, none, none] [] (fX0_addMode x0 x1 x3) := by
  unfold fX0_addMode
  refine J_aload_n (pc := 0) hc dX0_addMode_0 rfl rfl ?_
  refine J_getA (pc := 1) hc clX0 (k := 6) (kd := 4) (Nat.le_of_ble_eq_true rfl) rfl (Nat.le_of_ble_eq_true rfl) tw210 (Or.inl rfl) dX0_addMode_1 (fun v30 => ?_)
  refine J_getI (pc := 4) hc clX4 (k := 2) (Nat.le_of_ble_eq_true rfl) rfl tw147 (Or.inl rfl) dX0_addMode_4 (fun v31 => ?_)
  refine J_if_eq (pc := 7) (tgt := 14) hc dX0_addMode_7 (by decide) ?_ ?_
  · refine J_lload_n (pc := 14) hc dX0_addMode_14 rfl rfl ?_
    refine J_ldc2 (pc := 15) (v := (-1)) hc dX0_addMode_15 tw1019 ?_
    refine J_lxor (pc := 18) hc dX0_addMode_18 ?_
    refine J_sub (l' := [some ((0, .ref x0) : TV), none, none, some ((0, .int x3) : TV), none, none, none, none, none, none, none, none]) ⟨rfl, ⟨rfl, trivial⟩⟩ ?_
    exact jX0_addMode_L19 hc he x0 x3 (x1 ^^^ (-1))
  · refine J_lload_n (pc := 10) hc dX0_addMode_10 rfl rfl ?_
    refine J_goto (pc := 11) (tgt := 19) hc dX0_addMode_11 (by decide) ?_
    refine J_sub (l' := [some ((0, .ref x0) : TV), none, none, some ((0, .int x3) : TV), none, none, none, none, none, none, none, none]) ⟨rfl, ⟨rfl, trivial⟩⟩ ?_
    exact jX0_addMode_L19 hc he x0 x3 x1
theorem moX0_addMode : MOk yX0_addMode 2 := ⟨by decide +kernel, by decide +kernel, by decide +kernel⟩
set_option maxRecDepth 100000 in
set_option maxHeartbeats 4000000 in
theorem KX0_addMode (x0 : Nat) (x1 : Int64) (x3 : Int32) : Ct wV yX0_addMode cX0_addMode 12 none 2 0 0 46 [((0, .ref x0) : TV), ((0, .long x1) : TV), ((0, .int x3) : TV)] (fX0_addMode x0 x1 x3) :=
  Ct_V (j := 8) (by decide +kernel) rfl rfl (Nat.le_of_ble_eq_true rfl) (fun κ fin hc he hin => jX0_addMode hc he x0 x1 x3)
set_option maxRecDepth 100000 in
set_option maxHeartbeats 4000000 in
theorem jX0_makeFor_L24 {κ : Cx} {fin : Unit → Mm → Prop} (hc : Jc κ RX0 cX0_makeFor 7 3 0 0 77) (he : Ed κ cX0_makeFor 0 0 wV .return_ fin) : ∀ (n : Nat) (x0 : Nat) (x1 : Int64) (x5 : Int32) (x6 : Int32), Jg κ (wM κ) 7 fin 0 0 24 [some ((0, .ref x0) : TV), some ((0, .long x1) : TV), none, none, none, some ((0, .int x5) : TV), some ((0, .int x6) : TV)] [] (fX0_makeFor_L24 n x0 x1 x5 x6) := by
  intro n
  induction n with
  | zero => intro x0 x1 x5 x6; exact J_fail
  | succ n ih =>
    intro x0 x1 x5 x6
    unfold fX0_makeFor_L24
    refine J_iload (pc := 24) hc dX0_makeFor_24 rfl ?_
    refine J_if_le (pc := 26) (tgt := 59) hc dX0_makeFor_26 (by decide) ?_ ?_
    · exact J_vret (pc := 59) he dX0_makeFor_59
    · refine J_aload_n (pc := 29) hc dX0_makeFor_29 rfl rfl ?_
      refine J_getA (pc := 30) hc clX0 (k := 6) (kd := 4) (Nat.le_of_ble_eq_true rfl) rfl (Nat.le_of_ble_eq_true rfl) tw210 (Or.inl rfl) dX0_makeFor_30 (fun v1 => ?_)
      refine J_callVi (pc := 33) hc clX4 (As := []) (KX4_hasEnded v1) dX0_makeFor_33 moX4_hasEnded rfl tw1013 tw523 tw524 tw7 tw525 rfl (Nat.le_of_ble_eq_true rfl) (Nat.le_of_ble_eq_true rfl) (Nat.le_of_ble_eq_true rfl) (Nat.le_of_ble_eq_true rfl) (Nat.le_of_ble_eq_true rfl) rfl (fun v2 => ?_)
      refine J_if_ne (pc := 36) (tgt := 59) hc dX0_makeFor_36 (by decide) ?_ ?_
      · exact J_vret (pc := 59) he dX0_makeFor_59
      · refine J_aload_n (pc := 39) hc dX0_makeFor_39 rfl rfl ?_
        refine J_getA (pc := 40) hc clX0 (k := 6) (kd := 4) (Nat.le_of_ble_eq_true rfl) rfl (Nat.le_of_ble_eq_true rfl) tw210 (Or.inl rfl) dX0_makeFor_40 (fun v3 => ?_)
        refine J_callVv (pc := 43) hc clX4 (As := []) (KX4_look v3) dX0_makeFor_43 moX4_look rfl tw1014 tw503 tw504 tw7 tw505 rfl (Nat.le_of_ble_eq_true rfl) (Nat.le_of_ble_eq_true rfl) (Nat.le_of_ble_eq_true rfl) (Nat.le_of_ble_eq_true rfl) (Nat.le_of_ble_eq_true rfl) rfl (fun _ => ?_)
        refine J_aload_n (pc := 46) hc dX0_makeFor_46 rfl rfl ?_
        refine J_lload_n (pc := 47) hc dX0_makeFor_47 rfl rfl ?_
        refine J_iload (pc := 48) hc dX0_makeFor_48 rfl ?_
        refine J_callVv (pc := 50) hc clX0 (As := [((0, .long x1) : TV), ((0, .int x5) : TV)]) (KX0_addMode x0 x1 x5) dX0_makeFor_50 moX0_addMode rfl tw1015 tw1017 twp29 tw8 tw1018 rfl (Nat.le_of_ble_eq_true rfl) (Nat.le_of_ble_eq_true rfl) (Nat.le_of_ble_eq_true rfl) (Nat.le_of_ble_eq_true rfl) (Nat.le_of_ble_eq_true rfl) rfl (fun _ => ?_)
        refine J_iinc (pc := 53) (v := x6 + (-1)) (l' := [some ((0, .ref x0) : TV), some ((0, .long x1) : TV), none, none, none, some ((0, .int x5) : TV), some ((0, .int (x6 + (-1))) : TV)]) hc dX0_makeFor_53 rfl rfl (by decide) rfl rfl ?_
        refine J_goto (pc := 56) (tgt := 24) hc dX0_makeFor_56 (by decide) ?_
        refine J_sub (l' := [some ((0, .ref x0) : TV), some ((0, .long x1) : TV), none, none, none, some ((0, .int x5) : TV), some ((0, .int (x6 + (-1))) : TV)]) ⟨rfl, ⟨rfl, ⟨rfl, ⟨rfl, trivial⟩⟩⟩⟩ ?_
        exact ih x0 x1 x5 (x6 + (-1))
set_option maxRecDepth 100000 in
set_option maxHeartbeats 4000000 in
theorem jX0_makeFor {κ : Cx} {fin : Unit → Mm → Prop} (hc : Jc κ RX0 cX0_makeFor 7 3 0 0 77) (he : Ed κ cX0_makeFor 0 0 wV .return_ fin) (x0 : Nat) (x1 : Int64) (x3 : Int64) (x5 : Int32) : Jg κ (wM κ) 7 fin 0 0 0 [some ((0, .ref x0) : TV), some ((0, .long x1) : TV), none, some ((0, .long x3) : TV), none, some ((0, .int x5) : TV), none] [] (fX0_makeFor x0 x1 x3 x5) := by
  unfold fX0_makeFor
  refine J_aload_n (pc := 0) hc dX0_makeFor_0 rfl rfl ?_
  refine J_iconst (pc := 1) (v := 0) hc dX0_makeFor_1 (by decide) ?_
  refine J_putI (pc := 2) hc clX0 (k := 0) (Nat.le_of_ble_eq_true rfl) rfl rfl tw201 (Or.inl rfl) rfl dX0_makeFor_2 ?_
  refine J_aload_n (pc := 5) hc dX0_makeFor_5 rfl rfl ?_
  refine J_iconst (pc := 6) (v := 0) hc dX0_makeFor_6 (by decide) ?_
  refine J_putI (pc := 7) hc clX0 (k := 1) (Nat.le_of_ble_eq_true rfl) rfl rfl tw203 (Or.inl rfl) rfl dX0_makeFor_7 ?_
  refine J_aload_n (pc := 10) hc dX0_makeFor_10 rfl rfl ?_
  refine J_getA (pc := 11) hc clX0 (k := 6) (kd := 4) (Nat.le_of_ble_eq_true rfl) rfl (Nat.le_of_ble_eq_true rfl) tw210 (Or.inl rfl) dX0_makeFor_11 (fun v4 => ?_)
  refine J_lload_n (pc := 14) hc dX0_makeFor_14 rfl rfl ?_
  refine J_iload (pc := 15) hc dX0_makeFor_15 rfl ?_
  refine J_callVv (pc := 17) hc clX4 (As := [((0, .long x3) : TV), ((0, .int x5) : TV)]) (KX4_begin v4 x3 x5) dX0_makeFor_17 moX4_begin rfl tw1012 tw495 tw496 tw7 tw497 rfl (Nat.le_of_ble_eq_true rfl) (Nat.le_of_ble_eq_true rfl) (Nat.le_of_ble_eq_true rfl) (Nat.le_of_ble_eq_true rfl) (Nat.le_of_ble_eq_true rfl) rfl (fun _ => ?_)
  refine J_bipush (pc := 20) (v := 41) hc dX0_makeFor_20 (by decide) ?_
  refine J_istore (pc := 22) (l' := [some ((0, .ref x0) : TV), some ((0, .long x1) : TV), none, some ((0, .long x3) : TV), none, some ((0, .int x5) : TV), some ((0, .int 41) : TV)]) hc dX0_makeFor_22 (by decide) rfl rfl ?_
  refine J_sub (l' := [some ((0, .ref x0) : TV), some ((0, .long x1) : TV), none, none, none, some ((0, .int x5) : TV), some ((0, .int 41) : TV)]) ⟨rfl, ⟨rfl, ⟨rfl, ⟨rfl, trivial⟩⟩⟩⟩ ?_
  exact jX0_makeFor_L24 hc he fu x0 x1 x5 41
theorem moX0_makeFor : MOk yX0_makeFor 3 := ⟨by decide +kernel, by decide +kernel, by decide +kernel⟩
set_option maxRecDepth 100000 in
set_option maxHeartbeats 4000000 in
theorem KX0_makeFor (x0 : Nat) (x1 : Int64) (x3 : Int64) (x5 : Int32) : Ct wV yX0_makeFor cX0_makeFor 7 none 3 0 0 77 [((0, .ref x0) : TV), ((0, .long x1) : TV), ((0, .long x3) : TV), ((0, .int x5) : TV)] (fX0_makeFor x0 x1 x3 x5) :=
  Ct_V (j := 1) (by decide +kernel) rfl rfl (Nat.le_of_ble_eq_true rfl) (fun κ fin hc he hin => jX0_makeFor hc he x0 x1 x3 x5)
set_option maxRecDepth 100000 in
set_option maxHeartbeats 4000000 in
theorem jX0_modesOfKind_L25 {κ : Cx} {fin : Int32 → Mm → Prop} (hc : Jc κ RX0 cX0_modesOfKind 4 0 0 0 0) (he : Ed κ cX0_modesOfKind 0 0 wI .ireturn fin) {k4 : Nat → Int32 → Int32 → Int32 → Mm → Option (Int32 × Mm)} (hk4 : ∀ (x0 : Nat) (x1 : Int32) (x2 : Int32) (x3 : Int32), Jg κ (wM κ) 4 fin 0 0 4 [some ((0, .ref x0) : TV), some ((0, .int x1) : TV), some ((0, .int x2) : TV), some ((0, .int x3) : TV)] [] (k4 x0 x1 x2 x3)) (x0 : Nat) (x1 : Int32) (x2 : Int32) (x3 : Int32) : Jg κ (wM κ) 4 fin 0 0 25 [some ((0, .ref x0) : TV), some ((0, .int x1) : TV), some ((0, .int x2) : TV), some ((0, .int x3) : TV)] [] (fX0_modesOfKind_L25 k4 x0 x1 x2 x3) := by
  unfold fX0_modesOfKind_L25
  refine J_iinc (pc := 25) (v := x3 + 1) (l' := [some ((0, .ref x0) : TV), some ((0, .int x1) : TV), some ((0, .int x2) : TV), some ((0, .int (x3 + 1)) : TV)]) hc dX0_modesOfKind_25 rfl rfl (by decide) rfl rfl ?_
  refine J_goto (pc := 28) (tgt := 4) hc dX0_modesOfKind_28 (by decide) ?_
  refine J_sub (l' := [some ((0, .ref x0) : TV), some ((0, .int x1) : TV), some ((0, .int x2) : TV), some ((0, .int (x3 + 1)) : TV)]) ⟨rfl, ⟨rfl, ⟨rfl, ⟨rfl, trivial⟩⟩⟩⟩ ?_
  exact hk4 x0 x1 x2 (x3 + 1)
set_option maxRecDepth 100000 in
set_option maxHeartbeats 4000000 in
theorem jX0_modesOfKind_L4 {κ : Cx} {fin : Int32 → Mm → Prop} (hc : Jc κ RX0 cX0_modesOfKind 4 0 0 0 0) (he : Ed κ cX0_modesOfKind 0 0 wI .ireturn fin) : ∀ (n : Nat) (x0 : Nat) (x1 : Int32) (x2 : Int32) (x3 : Int32), Jg κ (wM κ) 4 fin 0 0 4 [some ((0, .ref x0) : TV), some ((0, .int x1) : TV), some ((0, .int x2) : TV), some ((0, .int x3) : TV)] [] (fX0_modesOfKind_L4 n x0 x1 x2 x3) := by
  intro n
  induction n with
  | zero => intro x0 x1 x2 x3; exact J_fail
  | succ n ih =>
    intro x0 x1 x2 x3
    unfold fX0_modesOfKind_L4
    refine J_iload_n (pc := 4) hc dX0_modesOfKind_4 rfl rfl ?_
    refine J_aload_n (pc := 5) hc dX0_modesOfKind_5 rfl rfl ?_
    refine J_getI (pc := 6) hc clX0 (k := 0) (Nat.le_of_ble_eq_true rfl) rfl tw201 (Or.inl rfl) dX0_modesOfKind_6 (fun v1 => ?_)
    refine J_icmp_ge (pc := 9) (tgt := 31) hc dX0_modesOfKind_9 (by decide) ?_ ?_
    · refine J_iload_n (pc := 31) hc dX0_modesOfKind_31 rfl rfl ?_
      exact J_iret (pc := 32) he dX0_modesOfKind_32
    · refine J_aload_n (pc := 12) hc dX0_modesOfKind_12 rfl rfl ?_
      refine J_getA (pc := 13) hc clX0 (k := 2) (kd := 11) (Nat.le_of_ble_eq_true rfl) rfl (Nat.le_of_ble_eq_true rfl) tw206 (Or.inl rfl) dX0_modesOfKind_13 (fun v2 => ?_)
      refine J_iload_n (pc := 16) hc dX0_modesOfKind_16 rfl rfl ?_
      refine J_iald (pc := 17) hc dX0_modesOfKind_17 (fun v3 => ?_)
      refine J_iload_n (pc := 18) hc dX0_modesOfKind_18 rfl rfl ?_
      refine J_icmp_ne (pc := 19) (tgt := 25) hc dX0_modesOfKind_19 (by decide) ?_ ?_
      · refine J_sub (l' := [some ((0, .ref x0) : TV), some ((0, .int x1) : TV), some ((0, .int x2) : TV), some ((0, .int x3) : TV)]) ⟨rfl, ⟨rfl, ⟨rfl, ⟨rfl, trivial⟩⟩⟩⟩ ?_
        exact jX0_modesOfKind_L25 hc he ih x0 x1 x2 x3
      · refine J_iinc (pc := 22) (v := x2 + 1) (l' := [some ((0, .ref x0) : TV), some ((0, .int x1) : TV), some ((0, .int (x2 + 1)) : TV), some ((0, .int x3) : TV)]) hc dX0_modesOfKind_22 rfl rfl (by decide) rfl rfl ?_
        refine J_sub (l' := [some ((0, .ref x0) : TV), some ((0, .int x1) : TV), some ((0, .int (x2 + 1)) : TV), some ((0, .int x3) : TV)]) ⟨rfl, ⟨rfl, ⟨rfl, ⟨rfl, trivial⟩⟩⟩⟩ ?_
        exact jX0_modesOfKind_L25 hc he ih x0 x1 (x2 + 1) x3
set_option maxRecDepth 100000 in
set_option maxHeartbeats 4000000 in
theorem jX0_modesOfKind {κ : Cx} {fin : Int32 → Mm → Prop} (hc : Jc κ RX0 cX0_modesOfKind 4 0 0 0 0) (he : Ed κ cX0_modesOfKind 0 0 wI .ireturn fin) (x0 : Nat) (x1 : Int32) : Jg κ (wM κ) 4 fin 0 0 0 [some ((0, .ref x0) : TV), some ((0, .int x1) : TV), none, none] [] (fX0_modesOfKind x0 x1) := by
  unfold fX0_modesOfKind
  refine J_iconst (pc := 0) (v := 0) hc dX0_modesOfKind_0 (by decide) ?_
  refine J_istore_n (pc := 1) (l' := [some ((0, .ref x0) : TV), some ((0, .int x1) : TV), some ((0, .int 0) : TV), none]) hc dX0_modesOfKind_1 rfl (by decide) rfl rfl ?_
  refine J_iconst (pc := 2) (v := 0) hc dX0_modesOfKind_2 (by decide) ?_
  refine J_istore_n (pc := 3) (l' := [some ((0, .ref x0) : TV), some ((0, .int x1) : TV), some ((0, .int 0) : TV), some ((0, .int 0) : TV)]) hc dX0_modesOfKind_3 rfl (by decide) rfl rfl ?_
  refine J_sub (l' := [some ((0, .ref x0) : TV), some ((0, .int x1) : TV), some ((0, .int 0) : TV), some ((0, .int 0) : TV)]) ⟨rfl, ⟨rfl, ⟨rfl, ⟨rfl, trivial⟩⟩⟩⟩ ?_
  exact jX0_modesOfKind_L4 hc he fu x0 x1 0 0
theorem moX0_modesOfKind : MOk yX0_modesOfKind 1 := ⟨by decide +kernel, by decide +kernel, by decide +kernel⟩
set_option maxRecDepth 100000 in
set_option maxHeartbeats 4000000 in
theorem KX0_modesOfKind (x0 : Nat) (x1 : Int32) : Ct wI yX0_modesOfKind cX0_modesOfKind 4 (some .int) 0 0 0 0 [((0, .ref x0) : TV), ((0, .int x1) : TV)] (fX0_modesOfKind x0 x1) :=
  Ct_I (j := 2) (by decide +kernel) rfl rfl (Nat.le_of_ble_eq_true rfl) (fun κ fin hc he => jX0_modesOfKind hc he x0 x1)
set_option maxRecDepth 100000 in
set_option maxHeartbeats 4000000 in
theorem jX0_modeNumber {κ : Cx} {fin : Int32 → Mm → Prop} (hc : Jc κ RX0 cX0_modeNumber 3 0 0 0 0) (he : Ed κ cX0_modeNumber 0 0 wI .ireturn fin) (x0 : Nat) (x1 : Int32) (x2 : Int32) : Jg κ (wM κ) 3 fin 0 0 0 [some ((0, .ref x0) : TV), some ((0, .int x1) : TV), some ((0, .int x2) : TV)] [] (fX0_modeNumber x0 x1 x2) := by
  unfold fX0_modeNumber
  refine J_iload_n (pc := 0) hc dX0_modeNumber_0 rfl rfl ?_
  refine J_if_lt (pc := 1) (tgt := 12) hc dX0_modeNumber_1 (by decide) ?_ ?_
  · refine J_bipush (pc := 12) (v := (-9)) hc dX0_modeNumber_12 (by decide) ?_
    exact J_iret (pc := 14) he dX0_modeNumber_14
  · refine J_iload_n (pc := 4) hc dX0_modeNumber_4 rfl rfl ?_
    refine J_aload_n (pc := 5) hc dX0_modeNumber_5 rfl rfl ?_
    refine J_getI (pc := 6) hc clX0 (k := 0) (Nat.le_of_ble_eq_true rfl) rfl tw201 (Or.inl rfl) dX0_modeNumber_6 (fun v1 => ?_)
    refine J_icmp_lt (pc := 9) (tgt := 15) hc dX0_modeNumber_9 (by decide) ?_ ?_
    · refine J_iload_n (pc := 15) hc dX0_modeNumber_15 rfl rfl ?_
      refine J_swc (pc := 16) (v := 0) (tgt := 44) hc dX0_modeNumber_16 (by decide) (by decide) rfl (by decide) (by decide) ?_ (fun h16_0 => ?_)
      · refine J_aload_n (pc := 44) hc dX0_modeNumber_44 rfl rfl ?_
        refine J_getA (pc := 45) hc clX0 (k := 2) (kd := 11) (Nat.le_of_ble_eq_true rfl) rfl (Nat.le_of_ble_eq_true rfl) tw206 (Or.inl rfl) dX0_modeNumber_45 (fun v2 => ?_)
        refine J_iload_n (pc := 48) hc dX0_modeNumber_48 rfl rfl ?_
        refine J_iald (pc := 49) hc dX0_modeNumber_49 (fun v3 => ?_)
        exact J_iret (pc := 50) he dX0_modeNumber_50
      refine J_swc (pc := 16) (v := 1) (tgt := 51) hc dX0_modeNumber_16 (by decide) (by decide) rfl (by decide) (by decide) ?_ (fun h16_1 => ?_)
      · refine J_aload_n (pc := 51) hc dX0_modeNumber_51 rfl rfl ?_
        refine J_getA (pc := 52) hc clX0 (k := 3) (kd := 11) (Nat.le_of_ble_eq_true rfl) rfl (Nat.le_of_ble_eq_true rfl) tw207 (Or.inl rfl) dX0_modeNumber_52 (fun v4 => ?_)
        refine J_iload_n (pc := 55) hc dX0_modeNumber_55 rfl rfl ?_
        refine J_iald (pc := 56) hc dX0_modeNumber_56 (fun v5 => ?_)
        exact J_iret (pc := 57) he dX0_modeNumber_57
      refine J_swc (pc := 16) (v := 2) (tgt := 58) hc dX0_modeNumber_16 (by decide) (by decide) rfl (by decide) (by decide) ?_ (fun h16_2 => ?_)
      · refine J_aload_n (pc := 58) hc dX0_modeNumber_58 rfl rfl ?_
        refine J_getA (pc := 59) hc clX0 (k := 4) (kd := 11) (Nat.le_of_ble_eq_true rfl) rfl (Nat.le_of_ble_eq_true rfl) tw208 (Or.inl rfl) dX0_modeNumber_59 (fun v6 => ?_)
        refine J_iload_n (pc := 62) hc dX0_modeNumber_62 rfl rfl ?_
        refine J_iald (pc := 63) hc dX0_modeNumber_63 (fun v7 => ?_)
        exact J_iret (pc := 64) he dX0_modeNumber_64
      refine J_swd (pc := 16) (tgt := 65) hc dX0_modeNumber_16 (by omega) (by decide) ?_
      · refine J_aload_n (pc := 65) hc dX0_modeNumber_65 rfl rfl ?_
        refine J_getA (pc := 66) hc clX0 (k := 5) (kd := 11) (Nat.le_of_ble_eq_true rfl) rfl (Nat.le_of_ble_eq_true rfl) tw209 (Or.inl rfl) dX0_modeNumber_66 (fun v8 => ?_)
        refine J_iload_n (pc := 69) hc dX0_modeNumber_69 rfl rfl ?_
        refine J_iald (pc := 70) hc dX0_modeNumber_70 (fun v9 => ?_)
        exact J_iret (pc := 71) he dX0_modeNumber_71
    · refine J_bipush (pc := 12) (v := (-9)) hc dX0_modeNumber_12 (by decide) ?_
      exact J_iret (pc := 14) he dX0_modeNumber_14
theorem moX0_modeNumber : MOk yX0_modeNumber 2 := ⟨by decide +kernel, by decide +kernel, by decide +kernel⟩
set_option maxRecDepth 100000 in
set_option maxHeartbeats 4000000 in
theorem KX0_modeNumber (x0 : Nat) (x1 : Int32) (x2 : Int32) : Ct wI yX0_modeNumber cX0_modeNumber 3 (some .int) 0 0 0 0 [((0, .ref x0) : TV), ((0, .int x1) : TV), ((0, .int x2) : TV)] (fX0_modeNumber x0 x1 x2) :=
  Ct_I (j := 0) (by decide +kernel) rfl rfl (Nat.le_of_ble_eq_true rfl) (fun κ fin hc he => jX0_modeNumber hc he x0 x1 x2)
set_option maxRecDepth 100000 in
set_option maxHeartbeats 4000000 in
theorem jX7_span {κ : Cx} {fin : Int64 → Mm → Prop} (hc : Jc κ RX7 cX7_span 2 0 0 0 0) (he : Ed κ cX7_span 0 0 wJ .lreturn fin) (x0 : Int32) (x1 : Int32) : Jg κ (wM κ) 2 fin 0 0 0 [some ((0, .int x0) : TV), some ((0, .int x1) : TV)] [] (fX7_span x0 x1) := by
  unfold fX7_span
  refine J_lconst (pc := 0) (v := 1) hc dX7_span_0 rfl ?_
  refine J_iload_n (pc := 1) hc dX7_span_1 rfl rfl ?_
  refine J_lshlN (pc := 2) hc dX7_span_2 ?_
  refine J_lconst (pc := 3) (v := 1) hc dX7_span_3 rfl ?_
  refine J_iload_n (pc := 4) hc dX7_span_4 rfl rfl ?_
  refine J_lshlN (pc := 5) hc dX7_span_5 ?_
  refine J_lsub (pc := 6) hc dX7_span_6 ?_
  exact J_lret (pc := 7) he dX7_span_7
theorem moX7_span : MOk yX7_span 2 := ⟨by decide +kernel, by decide +kernel, by decide +kernel⟩
set_option maxRecDepth 100000 in
set_option maxHeartbeats 4000000 in
theorem KX7_span (x0 : Int32) (x1 : Int32) : Ct wJ yX7_span cX7_span 2 (some .long) 0 0 0 0 [((0, .int x0) : TV), ((0, .int x1) : TV)] (fX7_span x0 x1) :=
  Ct_J (j := 0) (by decide +kernel) rfl rfl (Nat.le_of_ble_eq_true rfl) (fun κ fin hc he => jX7_span hc he x0 x1)
set_option maxRecDepth 100000 in
set_option maxHeartbeats 4000000 in
theorem jX4_goTo_L53 {κ : Cx} {fin : Int32 → Mm → Prop} (hc : Jc κ RX4 cX4_goTo 3 1 0 0 21) (he : EdZ κ cX4_goTo 0 0 id fin) (x0 : Nat) (x1 : Int32) (x2 : Int32) : Jg κ (wM κ) 3 fin 0 0 53 [some ((4, .ref x0) : TV), some ((0, .int x1) : TV), some ((0, .int x2) : TV)] [] (fX4_goTo_L53 x0 x1 x2) := by
  unfold fX4_goTo_L53
  refine J_aload_n (pc := 53) hc dX4_goTo_53 rfl rfl ?_
  refine J_iload_n (pc := 54) hc dX4_goTo_54 rfl rfl ?_
  refine J_putI (pc := 55) hc clX4 (k := 1) (Nat.le_of_ble_eq_true rfl) rfl rfl tw144 (Or.inl rfl) rfl dX4_goTo_55 ?_
  refine J_aload_n (pc := 58) hc dX4_goTo_58 rfl rfl ?_
  refine J_iload_n (pc := 59) hc dX4_goTo_59 rfl rfl ?_
  refine J_putZ (pc := 60) hc clX4 (k := 2) (Nat.le_of_ble_eq_true rfl) rfl rfl tw146 (Or.inl rfl) rfl dX4_goTo_60 ?_
  refine J_iconst (pc := 63) (v := 1) hc dX4_goTo_63 (by decide) ?_
  exact J_zret (pc := 64) he dX4_goTo_64
set_option maxRecDepth 100000 in
set_option maxHeartbeats 4000000 in
theorem jX4_goTo_L45 {κ : Cx} {fin : Int32 → Mm → Prop} (hc : Jc κ RX4 cX4_goTo 3 1 0 0 21) (he : EdZ κ cX4_goTo 0 0 id fin) (x0 : Nat) (x1 : Int32) (x2 : Int32) (s0 : Int32) (s1 : Int64) (s2 : Nat) : Jg κ (wM κ) 3 fin 0 0 45 [some ((4, .ref x0) : TV), some ((0, .int x1) : TV), some ((0, .int x2) : TV)] [((0, .int s0) : TV), ((0, .long s1) : TV), ((4, .ref s2) : TV)] (fX4_goTo_L45 x0 x1 x2 s0 s1 s2) := by
  unfold fX4_goTo_L45
  refine J_iload_n (pc := 45) hc dX4_goTo_45 rfl rfl ?_
  refine J_callSNj (pc := 46) hc (As := [((0, .int s0) : TV), ((0, .int x1) : TV)]) (KX7_span s0 x1) dX4_goTo_46 moX7_span (by decide +kernel) tw480 tw2 tw481 rfl (Nat.le_of_ble_eq_true rfl) (Nat.le_of_ble_eq_true rfl) (Nat.le_of_ble_eq_true rfl) (Nat.le_of_ble_eq_true rfl) (Nat.le_of_ble_eq_true rfl) rfl (fun v1 => ?_)
  refine J_lor (pc := 49) hc dX4_goTo_49 ?_
  refine J_putJ (pc := 50) hc clX4 (k := 3) (Nat.le_of_ble_eq_true rfl) rfl rfl tw148 (Or.inl rfl) rfl dX4_goTo_50 ?_
  refine J_sub (l' := [some ((4, .ref x0) : TV), some ((0, .int x1) : TV), some ((0, .int x2) : TV)]) ⟨rfl, ⟨rfl, ⟨rfl, trivial⟩⟩⟩ ?_
  exact jX4_goTo_L53 hc he x0 x1 x2
set_option maxRecDepth 100000 in
set_option maxHeartbeats 4000000 in
theorem jX4_goTo {κ : Cx} {fin : Int32 → Mm → Prop} (hc : Jc κ RX4 cX4_goTo 3 1 0 0 21) (he : EdZ κ cX4_goTo 0 0 id fin) (x0 : Nat) (x1 : Int32) (x2 : Int32) : Jg κ (wM κ) 3 fin 0 0 0 [some ((4, .ref x0) : TV), some ((0, .int x1) : TV), some ((0, .int x2) : TV)] [] (fX4_goTo x0 x1 x2) := by
  unfold fX4_goTo
  refine J_iload_n (pc := 0) hc dX4_goTo_0 rfl rfl ?_
  refine J_aload_n (pc := 1) hc dX4_goTo_1 rfl rfl ?_
  refine J_getI (pc := 2) hc clX4 (k := 1) (Nat.le_of_ble_eq_true rfl) rfl tw144 (Or.inl rfl) dX4_goTo_2 (fun v2 => ?_)
  refine J_icmp_le (pc := 5) (tgt := 16) hc dX4_goTo_5 (by decide) ?_ ?_
  · refine J_iconst (pc := 16) (v := 0) hc dX4_goTo_16 (by decide) ?_
    exact J_zret (pc := 17) he dX4_goTo_17
  · refine J_iload_n (pc := 8) hc dX4_goTo_8 rfl rfl ?_
    refine J_aload_n (pc := 9) hc dX4_goTo_9 rfl rfl ?_
    refine J_getI (pc := 10) hc clX4 (k := 0) (Nat.le_of_ble_eq_true rfl) rfl tw143 (Or.inl rfl) dX4_goTo_10 (fun v3 => ?_)
    refine J_icmp_le (pc := 13) (tgt := 18) hc dX4_goTo_13 (by decide) ?_ ?_
    · refine J_aload_n (pc := 18) hc dX4_goTo_18 rfl rfl ?_
      refine J_getI (pc := 19) hc clX4 (k := 2) (Nat.le_of_ble_eq_true rfl) rfl tw146 (Or.inl rfl) dX4_goTo_19 (fun v4 => ?_)
      refine J_if_eq (pc := 22) (tgt := 53) hc dX4_goTo_22 (by decide) ?_ ?_
      · refine J_sub (l' := [some ((4, .ref x0) : TV), some ((0, .int x1) : TV), some ((0, .int x2) : TV)]) ⟨rfl, ⟨rfl, ⟨rfl, trivial⟩⟩⟩ ?_
        exact jX4_goTo_L53 hc he x0 x1 x2
      · refine J_aload_n (pc := 25) hc dX4_goTo_25 rfl rfl ?_
        refine J_dup (pc := 26) hc dX4_goTo_26 rfl ?_
        refine J_getJ (pc := 27) hc clX4 (k := 3) (Nat.le_of_ble_eq_true rfl) rfl tw148 (Or.inl rfl) dX4_goTo_27 (fun v5 => ?_)
        refine J_aload_n (pc := 30) hc dX4_goTo_30 rfl rfl ?_
        refine J_getI (pc := 31) hc clX4 (k := 1) (Nat.le_of_ble_eq_true rfl) rfl tw144 (Or.inl rfl) dX4_goTo_31 (fun v6 => ?_)
        refine J_if_ge (pc := 34) (tgt := 41) hc dX4_goTo_34 (by decide) ?_ ?_
        · refine J_aload_n (pc := 41) hc dX4_goTo_41 rfl rfl ?_
          refine J_getI (pc := 42) hc clX4 (k := 1) (Nat.le_of_ble_eq_true rfl) rfl tw144 (Or.inl rfl) dX4_goTo_42 (fun v7 => ?_)
          refine J_sub (l' := [some ((4, .ref x0) : TV), some ((0, .int x1) : TV), some ((0, .int x2) : TV)]) ⟨rfl, ⟨rfl, ⟨rfl, trivial⟩⟩⟩ ?_
          exact jX4_goTo_L45 hc he x0 x1 x2 v7 v5 x0
        · refine J_iconst (pc := 37) (v := 0) hc dX4_goTo_37 (by decide) ?_
          refine J_goto (pc := 38) (tgt := 45) hc dX4_goTo_38 (by decide) ?_
          refine J_sub (l' := [some ((4, .ref x0) : TV), some ((0, .int x1) : TV), some ((0, .int x2) : TV)]) ⟨rfl, ⟨rfl, ⟨rfl, trivial⟩⟩⟩ ?_
          exact jX4_goTo_L45 hc he x0 x1 x2 0 v5 x0
    · refine J_iconst (pc := 16) (v := 0) hc dX4_goTo_16 (by decide) ?_
      exact J_zret (pc := 17) he dX4_goTo_17
theorem moX4_goTo : MOk yX4_goTo 2 := ⟨by decide +kernel, by decide +kernel, by decide +kernel⟩
set_option maxRecDepth 100000 in
set_option maxHeartbeats 4000000 in
theorem KX4_goTo (x0 : Nat) (x1 : Int32) (x2 : Int32) : Ct wI yX4_goTo cX4_goTo 3 (some .boolean) 1 0 0 21 [((4, .ref x0) : TV), ((0, .int x1) : TV), ((0, .int x2) : TV)] (fX4_goTo x0 x1 x2) :=
  Ct_Z ⟨rfl, rfl⟩ (j := 0) (by decide +kernel) rfl rfl (Nat.le_of_ble_eq_true rfl) (fun κ fin hc he => jX4_goTo hc he x0 x1 x2)
set_option maxRecDepth 100000 in
set_option maxHeartbeats 4000000 in
theorem jX4_pass {κ : Cx} {fin : Int32 → Mm → Prop} (hc : Jc κ RX4 cX4_pass 1 2 0 0 43) (he : EdZ κ cX4_pass 0 0 id fin) (x0 : Nat) : Jg κ (wM κ) 1 fin 0 0 0 [some ((4, .ref x0) : TV)] [] (fX4_pass x0) := by
  unfold fX4_pass
  refine J_aload_n (pc := 0) hc dX4_pass_0 rfl rfl ?_
  refine J_aload_n (pc := 1) hc dX4_pass_1 rfl rfl ?_
  refine J_getI (pc := 2) hc clX4 (k := 5) (Nat.le_of_ble_eq_true rfl) rfl tw153 (Or.inl rfl) dX4_pass_2 (fun v1 => ?_)
  refine J_aload_n (pc := 5) hc dX4_pass_5 rfl rfl ?_
  refine J_getI (pc := 6) hc clX4 (k := 2) (Nat.le_of_ble_eq_true rfl) rfl tw146 (Or.inl rfl) dX4_pass_6 (fun v2 => ?_)
  refine J_callVi (pc := 9) hc clX4 (As := [((0, .int v1) : TV), ((0, .int v2) : TV)]) (KX4_goTo x0 v1 v2) dX4_pass_9 moX4_goTo rfl tw530 tw532 twp13 tw7 tw533 rfl (Nat.le_of_ble_eq_true rfl) (Nat.le_of_ble_eq_true rfl) (Nat.le_of_ble_eq_true rfl) (Nat.le_of_ble_eq_true rfl) (Nat.le_of_ble_eq_true rfl) rfl (fun v3 => ?_)
  exact J_zret (pc := 12) he dX4_pass_12
theorem moX4_pass : MOk yX4_pass 0 := ⟨by decide +kernel, by decide +kernel, by decide +kernel⟩
set_option maxRecDepth 100000 in
set_option maxHeartbeats 4000000 in
theorem KX4_pass (x0 : Nat) : Ct wI yX4_pass cX4_pass 1 (some .boolean) 2 0 0 43 [((4, .ref x0) : TV)] (fX4_pass x0) :=
  Ct_Z ⟨rfl, rfl⟩ (j := 0) (by decide +kernel) rfl rfl (Nat.le_of_ble_eq_true rfl) (fun κ fin hc he => jX4_pass hc he x0)
set_option maxRecDepth 100000 in
set_option maxHeartbeats 4000000 in
theorem jX4_goVertical_L19 {κ : Cx} {fin : Int32 → Mm → Prop} (hc : Jc κ RX4 cX4_goVertical 2 2 0 0 43) (he : EdZ κ cX4_goVertical 0 0 id fin) (s0 : Int32) (s1 : Int32) (s2 : Nat) : Jg κ (wM κ) 2 fin 0 0 19 [none, none] [((0, .int s0) : TV), ((0, .int s1) : TV), ((4, .ref s2) : TV)] (fX4_goVertical_L19 s0 s1 s2) := by
  unfold fX4_goVertical_L19
  refine J_callVi (pc := 19) hc clX4 (As := [((0, .int s1) : TV), ((0, .int s0) : TV)]) (KX4_goTo s2 s1 s0) dX4_goVertical_19 moX4_goTo rfl tw530 tw532 twp13 tw7 tw533 rfl (Nat.le_of_ble_eq_true rfl) (Nat.le_of_ble_eq_true rfl) (Nat.le_of_ble_eq_true rfl) (Nat.le_of_ble_eq_true rfl) (Nat.le_of_ble_eq_true rfl) rfl (fun v1 => ?_)
  exact J_zret (pc := 22) he dX4_goVertical_22
set_option maxRecDepth 100000 in
set_option maxHeartbeats 4000000 in
theorem jX4_goVertical {κ : Cx} {fin : Int32 → Mm → Prop} (hc : Jc κ RX4 cX4_goVertical 2 2 0 0 43) (he : EdZ κ cX4_goVertical 0 0 id fin) (x0 : Nat) (x1 : Int32) : Jg κ (wM κ) 2 fin 0 0 0 [some ((4, .ref x0) : TV), some ((0, .int x1) : TV)] [] (fX4_goVertical x0 x1) := by
  unfold fX4_goVertical
  refine J_aload_n (pc := 0) hc dX4_goVertical_0 rfl rfl ?_
  refine J_aload_n (pc := 1) hc dX4_goVertical_1 rfl rfl ?_
  refine J_getI (pc := 2) hc clX4 (k := 4) (Nat.le_of_ble_eq_true rfl) rfl tw151 (Or.inl rfl) dX4_goVertical_2 (fun v2 => ?_)
  refine J_iload_n (pc := 5) hc dX4_goVertical_5 rfl rfl ?_
  refine J_iadd (pc := 6) hc dX4_goVertical_6 ?_
  refine J_aload_n (pc := 7) hc dX4_goVertical_7 rfl rfl ?_
  refine J_getI (pc := 8) hc clX4 (k := 2) (Nat.le_of_ble_eq_true rfl) rfl tw146 (Or.inl rfl) dX4_goVertical_8 (fun v3 => ?_)
  refine J_if_ne (pc := 11) (tgt := 18) hc dX4_goVertical_11 (by decide) ?_ ?_
  · refine J_iconst (pc := 18) (v := 0) hc dX4_goVertical_18 (by decide) ?_
    refine J_sub (l' := [none, none]) (show subL _ _ from trivial) ?_
    exact jX4_goVertical_L19 hc he 0 (v2 + x1) x0
  · refine J_iconst (pc := 14) (v := 1) hc dX4_goVertical_14 (by decide) ?_
    refine J_goto (pc := 15) (tgt := 19) hc dX4_goVertical_15 (by decide) ?_
    refine J_sub (l' := [none, none]) (show subL _ _ from trivial) ?_
    exact jX4_goVertical_L19 hc he 1 (v2 + x1) x0
theorem moX4_goVertical : MOk yX4_goVertical 1 := ⟨by decide +kernel, by decide +kernel, by decide +kernel⟩
set_option maxRecDepth 100000 in
set_option maxHeartbeats 4000000 in
theorem KX4_goVertical (x0 : Nat) (x1 : Int32) : Ct wI yX4_goVertical cX4_goVertical 2 (some .boolean) 2 0 0 43 [((4, .ref x0) : TV), ((0, .int x1) : TV)] (fX4_goVertical x0 x1) :=
  Ct_Z ⟨rfl, rfl⟩ (j := 0) (by decide +kernel) rfl rfl (Nat.le_of_ble_eq_true rfl) (fun κ fin hc he => jX4_goVertical hc he x0 x1)
set_option maxRecDepth 100000 in
set_option maxHeartbeats 4000000 in
theorem jX4_goHorizontal_L75 {κ : Cx} {fin : Int32 → Mm → Prop} (hc : Jc κ RX4 cX4_goHorizontal 6 1 0 0 21) (he : EdZ κ cX4_goHorizontal 0 0 id fin) (x0 : Nat) (x5 : Int32) (s0 : Int64) (s1 : Int64) (s2 : Nat) : Jg κ (wM κ) 6 fin 0 0 75 [some ((4, .ref x0) : TV), none, none, none, none, some ((0, .int x5) : TV)] [((0, .long s0) : TV), ((0, .long s1) : TV), ((4, .ref s2) : TV)] (fX4_goHorizontal_L75 x0 x5 s0 s1 s2) := by
  unfold fX4_goHorizontal_L75
  refine J_lor (pc := 75) hc dX4_goHorizontal_75 ?_
  refine J_putJ (pc := 76) hc clX4 (k := 3) (Nat.le_of_ble_eq_true rfl) rfl rfl tw148 (Or.inl rfl) rfl dX4_goHorizontal_76 ?_
  refine J_aload_n (pc := 79) hc dX4_goHorizontal_79 rfl rfl ?_
  refine J_iload (pc := 80) hc dX4_goHorizontal_80 rfl ?_
  refine J_putI (pc := 82) hc clX4 (k := 1) (Nat.le_of_ble_eq_true rfl) rfl rfl tw144 (Or.inl rfl) rfl dX4_goHorizontal_82 ?_
  refine J_iconst (pc := 85) (v := 1) hc dX4_goHorizontal_85 (by decide) ?_
  exact J_zret (pc := 86) he dX4_goHorizontal_86
set_option maxRecDepth 100000 in
set_option maxHeartbeats 4000000 in
theorem jX4_goHorizontal_L15 {κ : Cx} {fin : Int32 → Mm → Prop} (hc : Jc κ RX4 cX4_goHorizontal 6 1 0 0 21) (he : EdZ κ cX4_goHorizontal 0 0 id fin) (x0 : Nat) (x1 : Int32) (x2 : Int32) (s0 : Int32) : Jg κ (wM κ) 6 fin 0 0 15 [some ((4, .ref x0) : TV), some ((0, .int x1) : TV), some ((0, .int x2) : TV), none, none, none] [((0, .int s0) : TV)] (fX4_goHorizontal_L15 x0 x1 x2 s0) := by
  unfold fX4_goHorizontal_L15
  refine J_istore_n (pc := 15) (l' := [some ((4, .ref x0) : TV), some ((0, .int x1) : TV), some ((0, .int x2) : TV), some ((0, .int s0) : TV), none, none]) hc dX4_goHorizontal_15 rfl (by decide) rfl rfl ?_
  refine J_iload_n (pc := 16) hc dX4_goHorizontal_16 rfl rfl ?_
  refine J_iload_n (pc := 17) hc dX4_goHorizontal_17 rfl rfl ?_
  refine J_iadd (pc := 18) hc dX4_goHorizontal_18 ?_
  refine J_nmi (fun v1 => ?_)
  refine J_istore (pc := 19) (l' := [some ((4, .ref x0) : TV), some ((0, .int x1) : TV), some ((0, .int x2) : TV), some ((0, .int s0) : TV), some ((0, .int v1) : TV), none]) hc dX4_goHorizontal_19 (by decide) rfl rfl ?_
  refine J_iload (pc := 21) hc dX4_goHorizontal_21 rfl ?_
  refine J_iload_n (pc := 23) hc dX4_goHorizontal_23 rfl rfl ?_
  refine J_iadd (pc := 24) hc dX4_goHorizontal_24 ?_
  refine J_nmi (fun v2 => ?_)
  refine J_istore (pc := 25) (l' := [some ((4, .ref x0) : TV), some ((0, .int x1) : TV), some ((0, .int x2) : TV), some ((0, .int s0) : TV), some ((0, .int v1) : TV), some ((0, .int v2) : TV)]) hc dX4_goHorizontal_25 (by decide) rfl rfl ?_
  refine J_iload (pc := 27) hc dX4_goHorizontal_27 rfl ?_
  refine J_aload_n (pc := 29) hc dX4_goHorizontal_29 rfl rfl ?_
  refine J_getI (pc := 30) hc clX4 (k := 1) (Nat.le_of_ble_eq_true rfl) rfl tw144 (Or.inl rfl) dX4_goHorizontal_30 (fun v3 => ?_)
  refine J_icmp_le (pc := 33) (tgt := 45) hc dX4_goHorizontal_33 (by decide) ?_ ?_
  · refine J_iconst (pc := 45) (v := 0) hc dX4_goHorizontal_45 (by decide) ?_
    exact J_zret (pc := 46) he dX4_goHorizontal_46
  · refine J_iload (pc := 36) hc dX4_goHorizontal_36 rfl ?_
    refine J_aload_n (pc := 38) hc dX4_goHorizontal_38 rfl rfl ?_
    refine J_getI (pc := 39) hc clX4 (k := 0) (Nat.le_of_ble_eq_true rfl) rfl tw143 (Or.inl rfl) dX4_goHorizontal_39 (fun v4 => ?_)
    refine J_icmp_le (pc := 42) (tgt := 47) hc dX4_goHorizontal_42 (by decide) ?_ ?_
    · refine J_aload_n (pc := 47) hc dX4_goHorizontal_47 rfl rfl ?_
      refine J_dup (pc := 48) hc dX4_goHorizontal_48 rfl ?_
      refine J_getJ (pc := 49) hc clX4 (k := 3) (Nat.le_of_ble_eq_true rfl) rfl tw148 (Or.inl rfl) dX4_goHorizontal_49 (fun v5 => ?_)
      refine J_aload_n (pc := 52) hc dX4_goHorizontal_52 rfl rfl ?_
      refine J_getI (pc := 53) hc clX4 (k := 2) (Nat.le_of_ble_eq_true rfl) rfl tw146 (Or.inl rfl) dX4_goHorizontal_53 (fun v6 => ?_)
      refine J_if_eq (pc := 56) (tgt := 68) hc dX4_goHorizontal_56 (by decide) ?_ ?_
      · refine J_iload (pc := 68) hc dX4_goHorizontal_68 rfl ?_
        refine J_iload (pc := 70) hc dX4_goHorizontal_70 rfl ?_
        refine J_callSNj (pc := 72) hc (As := [((0, .int v1) : TV), ((0, .int v2) : TV)]) (KX7_span v1 v2) dX4_goHorizontal_72 moX7_span (by decide +kernel) tw480 tw2 tw481 rfl (Nat.le_of_ble_eq_true rfl) (Nat.le_of_ble_eq_true rfl) (Nat.le_of_ble_eq_true rfl) (Nat.le_of_ble_eq_true rfl) (Nat.le_of_ble_eq_true rfl) rfl (fun v7 => ?_)
        refine J_sub (l' := [some ((4, .ref x0) : TV), none, none, none, none, some ((0, .int v2) : TV)]) ⟨rfl, ⟨rfl, trivial⟩⟩ ?_
        exact jX4_goHorizontal_L75 hc he x0 v2 v7 v5 x0
      · refine J_iload_n (pc := 59) hc dX4_goHorizontal_59 rfl rfl ?_
        refine J_iload (pc := 60) hc dX4_goHorizontal_60 rfl ?_
        refine J_callSNj (pc := 62) hc (As := [((0, .int s0) : TV), ((0, .int v1) : TV)]) (KX7_span s0 v1) dX4_goHorizontal_62 moX7_span (by decide +kernel) tw480 tw2 tw481 rfl (Nat.le_of_ble_eq_true rfl) (Nat.le_of_ble_eq_true rfl) (Nat.le_of_ble_eq_true rfl) (Nat.le_of_ble_eq_true rfl) (Nat.le_of_ble_eq_true rfl) rfl (fun v8 => ?_)
        refine J_goto (pc := 65) (tgt := 75) hc dX4_goHorizontal_65 (by decide) ?_
        refine J_sub (l' := [some ((4, .ref x0) : TV), none, none, none, none, some ((0, .int v2) : TV)]) ⟨rfl, ⟨rfl, trivial⟩⟩ ?_
        exact jX4_goHorizontal_L75 hc he x0 v2 v8 v5 x0
    · refine J_iconst (pc := 45) (v := 0) hc dX4_goHorizontal_45 (by decide) ?_
      exact J_zret (pc := 46) he dX4_goHorizontal_46
set_option maxRecDepth 100000 in
set_option maxHeartbeats 4000000 in
theorem jX4_goHorizontal {κ : Cx} {fin : Int32 → Mm → Prop} (hc : Jc κ RX4 cX4_goHorizontal 6 1 0 0 21) (he : EdZ κ cX4_goHorizontal 0 0 id fin) (x0 : Nat) (x1 : Int32) (x2 : Int32) : Jg κ (wM κ) 6 fin 0 0 0 [some ((4, .ref x0) : TV), some ((0, .int x1) : TV), some ((0, .int x2) : TV), none, none, none] [] (fX4_goHorizontal x0 x1 x2) := by
  unfold fX4_goHorizontal
  refine J_aload_n (pc := 0) hc dX4_goHorizontal_0 rfl rfl ?_
  refine J_getI (pc := 1) hc clX4 (k := 1) (Nat.le_of_ble_eq_true rfl) rfl tw144 (Or.inl rfl) dX4_goHorizontal_1 (fun v9 => ?_)
  refine J_if_ge (pc := 4) (tgt := 11) hc dX4_goHorizontal_4 (by decide) ?_ ?_
  · refine J_aload_n (pc := 11) hc dX4_goHorizontal_11 rfl rfl ?_
    refine J_getI (pc := 12) hc clX4 (k := 1) (Nat.le_of_ble_eq_true rfl) rfl tw144 (Or.inl rfl) dX4_goHorizontal_12 (fun v10 => ?_)
    refine J_sub (l' := [some ((4, .ref x0) : TV), some ((0, .int x1) : TV), some ((0, .int x2) : TV), none, none, none]) ⟨rfl, ⟨rfl, ⟨rfl, trivial⟩⟩⟩ ?_
    exact jX4_goHorizontal_L15 hc he x0 x1 x2 v10
  · refine J_iconst (pc := 7) (v := 0) hc dX4_goHorizontal_7 (by decide) ?_
    refine J_goto (pc := 8) (tgt := 15) hc dX4_goHorizontal_8 (by decide) ?_
    refine J_sub (l' := [some ((4, .ref x0) : TV), some ((0, .int x1) : TV), some ((0, .int x2) : TV), none, none, none]) ⟨rfl, ⟨rfl, ⟨rfl, trivial⟩⟩⟩ ?_
    exact jX4_goHorizontal_L15 hc he x0 x1 x2 0
theorem moX4_goHorizontal : MOk yX4_goHorizontal 2 := ⟨by decide +kernel, by decide +kernel, by decide +kernel⟩
set_option maxRecDepth 100000 in
set_option maxHeartbeats 4000000 in
theorem KX4_goHorizontal (x0 : Nat) (x1 : Int32) (x2 : Int32) : Ct wI yX4_goHorizontal cX4_goHorizontal 6 (some .boolean) 1 0 0 21 [((4, .ref x0) : TV), ((0, .int x1) : TV), ((0, .int x2) : TV)] (fX4_goHorizontal x0 x1 x2) :=
  Ct_Z ⟨rfl, rfl⟩ (j := 3) (by decide +kernel) rfl rfl (Nat.le_of_ble_eq_true rfl) (fun κ fin hc he => jX4_goHorizontal hc he x0 x1 x2)
set_option maxRecDepth 100000 in
set_option maxHeartbeats 4000000 in
theorem jX0_readUnder_L158 {κ : Cx} {fin : Int64 → Mm → Prop} (hc : Jc κ RX0 cX0_readUnder 6 3 0 0 66) (he : Ed κ cX0_readUnder 0 0 wJ .lreturn fin) : Jg κ (wM κ) 6 fin 0 0 158 [none, none, none, none, none, none] [] (fX0_readUnder_L158) := by
  unfold fX0_readUnder_L158
  refine J_ldc2 (pc := 158) (v := (-1)) hc dX0_readUnder_158 tw1019 ?_
  exact J_lret (pc := 161) he dX0_readUnder_161
set_option maxRecDepth 100000 in
set_option maxHeartbeats 4000000 in
theorem jX0_readUnder_L133 {κ : Cx} {fin : Int64 → Mm → Prop} (hc : Jc κ RX0 cX0_readUnder 6 3 0 0 66) (he : Ed κ cX0_readUnder 0 0 wJ .lreturn fin) (x0 : Nat) (x4 : Int32) : Jg κ (wM κ) 6 fin 0 0 133 [some ((0, .ref x0) : TV), none, none, none, some ((0, .int x4) : TV), none] [] (fX0_readUnder_L133 x0 x4) := by
  unfold fX0_readUnder_L133
  refine J_iload (pc := 133) hc dX0_readUnder_133 rfl ?_
  refine J_if_eq (pc := 135) (tgt := 158) hc dX0_readUnder_135 (by decide) ?_ ?_
  · refine J_sub (l' := [none, none, none, none, none, none]) (show subL _ _ from trivial) ?_
    exact jX0_readUnder_L158 hc he 
  · refine J_aload_n (pc := 138) hc dX0_readUnder_138 rfl rfl ?_
    refine J_getA (pc := 139) hc clX0 (k := 6) (kd := 4) (Nat.le_of_ble_eq_true rfl) rfl (Nat.le_of_ble_eq_true rfl) tw210 (Or.inl rfl) dX0_readUnder_139 (fun v1 => ?_)
    refine J_callVi (pc := 142) hc clX4 (As := []) (KX4_hasEnded v1) dX0_readUnder_142 moX4_hasEnded rfl tw1013 tw523 tw524 tw7 tw525 rfl (Nat.le_of_ble_eq_true rfl) (Nat.le_of_ble_eq_true rfl) (Nat.le_of_ble_eq_true rfl) (Nat.le_of_ble_eq_true rfl) (Nat.le_of_ble_eq_true rfl) rfl (fun v2 => ?_)
    refine J_if_eq (pc := 145) (tgt := 158) hc dX0_readUnder_145 (by decide) ?_ ?_
    · refine J_sub (l' := [none, none, none, none, none, none]) (show subL _ _ from trivial) ?_
      exact jX0_readUnder_L158 hc he 
    · refine J_aload_n (pc := 148) hc dX0_readUnder_148 rfl rfl ?_
      refine J_getA (pc := 149) hc clX0 (k := 6) (kd := 4) (Nat.le_of_ble_eq_true rfl) rfl (Nat.le_of_ble_eq_true rfl) tw210 (Or.inl rfl) dX0_readUnder_149 (fun v3 => ?_)
      refine J_getJ (pc := 152) hc clX4 (k := 3) (Nat.le_of_ble_eq_true rfl) rfl tw149 (Or.inl rfl) dX0_readUnder_152 (fun v4 => ?_)
      refine J_goto (pc := 155) (tgt := 161) hc dX0_readUnder_155 (by decide) ?_
      exact J_lret (pc := 161) he dX0_readUnder_161
set_option maxRecDepth 100000 in
set_option maxHeartbeats 4000000 in
theorem jX0_readUnder_L127 {κ : Cx} {fin : Int64 → Mm → Prop} (hc : Jc κ RX0 cX0_readUnder 6 3 0 0 66) (he : Ed κ cX0_readUnder 0 0 wJ .lreturn fin) {k15 : Nat → Int32 → Int32 → Mm → Option (Int64 × Mm)} (hk15 : ∀ (x0 : Nat) (x4 : Int32) (x5 : Int32), Jg κ (wM κ) 6 fin 0 0 15 [some ((0, .ref x0) : TV), none, none, none, some ((0, .int x4) : TV), some ((0, .int x5) : TV)] [] (k15 x0 x4 x5)) (x0 : Nat) (x4 : Int32) (x5 : Int32) : Jg κ (wM κ) 6 fin 0 0 127 [some ((0, .ref x0) : TV), none, none, none, some ((0, .int x4) : TV), some ((0, .int x5) : TV)] [] (fX0_readUnder_L127 k15 x0 x4 x5) := by
  unfold fX0_readUnder_L127
  refine J_iinc (pc := 127) (v := x5 + 1) (l' := [some ((0, .ref x0) : TV), none, none, none, some ((0, .int x4) : TV), some ((0, .int (x5 + 1)) : TV)]) hc dX0_readUnder_127 rfl rfl (by decide) rfl rfl ?_
  refine J_goto (pc := 130) (tgt := 15) hc dX0_readUnder_130 (by decide) ?_
  refine J_sub (l' := [some ((0, .ref x0) : TV), none, none, none, some ((0, .int x4) : TV), some ((0, .int (x5 + 1)) : TV)]) ⟨rfl, ⟨rfl, ⟨rfl, trivial⟩⟩⟩ ?_
  exact hk15 x0 x4 (x5 + 1)
set_option maxRecDepth 100000 in
set_option maxHeartbeats 4000000 in
theorem jX0_readUnder_L15 {κ : Cx} {fin : Int64 → Mm → Prop} (hc : Jc κ RX0 cX0_readUnder 6 3 0 0 66) (he : Ed κ cX0_readUnder 0 0 wJ .lreturn fin) : ∀ (n : Nat) (x0 : Nat) (x4 : Int32) (x5 : Int32), Jg κ (wM κ) 6 fin 0 0 15 [some ((0, .ref x0) : TV), none, none, none, some ((0, .int x4) : TV), some ((0, .int x5) : TV)] [] (fX0_readUnder_L15 n x0 x4 x5) := by
  intro n
  induction n with
  | zero => intro x0 x4 x5; exact J_fail
  | succ n ih =>
    intro x0 x4 x5
    unfold fX0_readUnder_L15
    refine J_iload (pc := 15) hc dX0_readUnder_15 rfl ?_
    refine J_aload_n (pc := 17) hc dX0_readUnder_17 rfl rfl ?_
    refine J_getI (pc := 18) hc clX0 (k := 0) (Nat.le_of_ble_eq_true rfl) rfl tw201 (Or.inl rfl) dX0_readUnder_18 (fun v5 => ?_)
    refine J_icmp_ge (pc := 21) (tgt := 133) hc dX0_readUnder_21 (by decide) ?_ ?_
    · refine J_sub (l' := [some ((0, .ref x0) : TV), none, none, none, some ((0, .int x4) : TV), none]) ⟨rfl, ⟨rfl, trivial⟩⟩ ?_
      exact jX0_readUnder_L133 hc he x0 x4
    · refine J_iload (pc := 24) hc dX0_readUnder_24 rfl ?_
      refine J_if_eq (pc := 26) (tgt := 133) hc dX0_readUnder_26 (by decide) ?_ ?_
      · refine J_sub (l' := [some ((0, .ref x0) : TV), none, none, none, some ((0, .int x4) : TV), none]) ⟨rfl, ⟨rfl, trivial⟩⟩ ?_
        exact jX0_readUnder_L133 hc he x0 x4
      · refine J_aload_n (pc := 29) hc dX0_readUnder_29 rfl rfl ?_
        refine J_getA (pc := 30) hc clX0 (k := 6) (kd := 4) (Nat.le_of_ble_eq_true rfl) rfl (Nat.le_of_ble_eq_true rfl) tw210 (Or.inl rfl) dX0_readUnder_30 (fun v6 => ?_)
        refine J_callVv (pc := 33) hc clX4 (As := []) (KX4_look v6) dX0_readUnder_33 moX4_look rfl tw1014 tw503 tw504 tw7 tw505 rfl (Nat.le_of_ble_eq_true rfl) (Nat.le_of_ble_eq_true rfl) (Nat.le_of_ble_eq_true rfl) (Nat.le_of_ble_eq_true rfl) (Nat.le_of_ble_eq_true rfl) rfl (fun _ => ?_)
        refine J_aload_n (pc := 36) hc dX0_readUnder_36 rfl rfl ?_
        refine J_getA (pc := 37) hc clX0 (k := 6) (kd := 4) (Nat.le_of_ble_eq_true rfl) rfl (Nat.le_of_ble_eq_true rfl) tw210 (Or.inl rfl) dX0_readUnder_37 (fun v7 => ?_)
        refine J_callVi (pc := 40) hc clX4 (As := []) (KX4_hasEnded v7) dX0_readUnder_40 moX4_hasEnded rfl tw1013 tw523 tw524 tw7 tw525 rfl (Nat.le_of_ble_eq_true rfl) (Nat.le_of_ble_eq_true rfl) (Nat.le_of_ble_eq_true rfl) (Nat.le_of_ble_eq_true rfl) (Nat.le_of_ble_eq_true rfl) rfl (fun v8 => ?_)
        refine J_if_eq (pc := 43) (tgt := 52) hc dX0_readUnder_43 (by decide) ?_ ?_
        · refine J_aload_n (pc := 52) hc dX0_readUnder_52 rfl rfl ?_
          refine J_getA (pc := 53) hc clX0 (k := 2) (kd := 11) (Nat.le_of_ble_eq_true rfl) rfl (Nat.le_of_ble_eq_true rfl) tw206 (Or.inl rfl) dX0_readUnder_53 (fun v9 => ?_)
          refine J_iload (pc := 56) hc dX0_readUnder_56 rfl ?_
          refine J_iald (pc := 58) hc dX0_readUnder_58 (fun v10 => ?_)
          refine J_if_ne (pc := 59) (tgt := 74) hc dX0_readUnder_59 (by decide) ?_ ?_
          · refine J_aload_n (pc := 74) hc dX0_readUnder_74 rfl rfl ?_
            refine J_getA (pc := 75) hc clX0 (k := 2) (kd := 11) (Nat.le_of_ble_eq_true rfl) rfl (Nat.le_of_ble_eq_true rfl) tw206 (Or.inl rfl) dX0_readUnder_75 (fun v11 => ?_)
            refine J_iload (pc := 78) hc dX0_readUnder_78 rfl ?_
            refine J_iald (pc := 80) hc dX0_readUnder_80 (fun v12 => ?_)
            refine J_iconst (pc := 81) (v := 1) hc dX0_readUnder_81 (by decide) ?_
            refine J_icmp_ne (pc := 82) (tgt := 104) hc dX0_readUnder_82 (by decide) ?_ ?_
            · refine J_aload_n (pc := 104) hc dX0_readUnder_104 rfl rfl ?_
              refine J_getA (pc := 105) hc clX0 (k := 6) (kd := 4) (Nat.le_of_ble_eq_true rfl) rfl (Nat.le_of_ble_eq_true rfl) tw210 (Or.inl rfl) dX0_readUnder_105 (fun v13 => ?_)
              refine J_aload_n (pc := 108) hc dX0_readUnder_108 rfl rfl ?_
              refine J_getA (pc := 109) hc clX0 (k := 3) (kd := 11) (Nat.le_of_ble_eq_true rfl) rfl (Nat.le_of_ble_eq_true rfl) tw207 (Or.inl rfl) dX0_readUnder_109 (fun v14 => ?_)
              refine J_iload (pc := 112) hc dX0_readUnder_112 rfl ?_
              refine J_iald (pc := 114) hc dX0_readUnder_114 (fun v15 => ?_)
              refine J_aload_n (pc := 115) hc dX0_readUnder_115 rfl rfl ?_
              refine J_getA (pc := 116) hc clX0 (k := 4) (kd := 11) (Nat.le_of_ble_eq_true rfl) rfl (Nat.le_of_ble_eq_true rfl) tw208 (Or.inl rfl) dX0_readUnder_116 (fun v16 => ?_)
              refine J_iload (pc := 119) hc dX0_readUnder_119 rfl ?_
              refine J_iald (pc := 121) hc dX0_readUnder_121 (fun v17 => ?_)
              refine J_callVi (pc := 122) hc clX4 (As := [((0, .int v15) : TV), ((0, .int v17) : TV)]) (KX4_goHorizontal v13 v15 v17) dX0_readUnder_122 moX4_goHorizontal rfl tw1230 tw554 tw555 tw7 tw556 rfl (Nat.le_of_ble_eq_true rfl) (Nat.le_of_ble_eq_true rfl) (Nat.le_of_ble_eq_true rfl) (Nat.le_of_ble_eq_true rfl) (Nat.le_of_ble_eq_true rfl) rfl (fun v18 => ?_)
              refine J_istore (pc := 125) (l' := [some ((0, .ref x0) : TV), none, none, none, some ((0, .int v18) : TV), some ((0, .int x5) : TV)]) hc dX0_readUnder_125 (by decide) rfl rfl ?_
              refine J_sub (l' := [some ((0, .ref x0) : TV), none, none, none, some ((0, .int v18) : TV), some ((0, .int x5) : TV)]) ⟨rfl, ⟨rfl, ⟨rfl, trivial⟩⟩⟩ ?_
              exact jX0_readUnder_L127 hc he ih x0 v18 x5
            · refine J_aload_n (pc := 85) hc dX0_readUnder_85 rfl rfl ?_
              refine J_getA (pc := 86) hc clX0 (k := 6) (kd := 4) (Nat.le_of_ble_eq_true rfl) rfl (Nat.le_of_ble_eq_true rfl) tw210 (Or.inl rfl) dX0_readUnder_86 (fun v19 => ?_)
              refine J_aload_n (pc := 89) hc dX0_readUnder_89 rfl rfl ?_
              refine J_getA (pc := 90) hc clX0 (k := 3) (kd := 11) (Nat.le_of_ble_eq_true rfl) rfl (Nat.le_of_ble_eq_true rfl) tw207 (Or.inl rfl) dX0_readUnder_90 (fun v20 => ?_)
              refine J_iload (pc := 93) hc dX0_readUnder_93 rfl ?_
              refine J_iald (pc := 95) hc dX0_readUnder_95 (fun v21 => ?_)
              refine J_callVi (pc := 96) hc clX4 (As := [((0, .int v21) : TV)]) (KX4_goVertical v19 v21) dX0_readUnder_96 moX4_goVertical rfl tw1229 tw545 tw546 tw7 tw547 rfl (Nat.le_of_ble_eq_true rfl) (Nat.le_of_ble_eq_true rfl) (Nat.le_of_ble_eq_true rfl) (Nat.le_of_ble_eq_true rfl) (Nat.le_of_ble_eq_true rfl) rfl (fun v22 => ?_)
              refine J_istore (pc := 99) (l' := [some ((0, .ref x0) : TV), none, none, none, some ((0, .int v22) : TV), some ((0, .int x5) : TV)]) hc dX0_readUnder_99 (by decide) rfl rfl ?_
              refine J_goto (pc := 101) (tgt := 127) hc dX0_readUnder_101 (by decide) ?_
              refine J_sub (l' := [some ((0, .ref x0) : TV), none, none, none, some ((0, .int v22) : TV), some ((0, .int x5) : TV)]) ⟨rfl, ⟨rfl, ⟨rfl, trivial⟩⟩⟩ ?_
              exact jX0_readUnder_L127 hc he ih x0 v22 x5
          · refine J_aload_n (pc := 62) hc dX0_readUnder_62 rfl rfl ?_
            refine J_getA (pc := 63) hc clX0 (k := 6) (kd := 4) (Nat.le_of_ble_eq_true rfl) rfl (Nat.le_of_ble_eq_true rfl) tw210 (Or.inl rfl) dX0_readUnder_63 (fun v23 => ?_)
            refine J_callVi (pc := 66) hc clX4 (As := []) (KX4_pass v23) dX0_readUnder_66 moX4_pass rfl tw1228 tw527 tw528 tw7 tw529 rfl (Nat.le_of_ble_eq_true rfl) (Nat.le_of_ble_eq_true rfl) (Nat.le_of_ble_eq_true rfl) (Nat.le_of_ble_eq_true rfl) (Nat.le_of_ble_eq_true rfl) rfl (fun v24 => ?_)
            refine J_istore (pc := 69) (l' := [some ((0, .ref x0) : TV), none, none, none, some ((0, .int v24) : TV), some ((0, .int x5) : TV)]) hc dX0_readUnder_69 (by decide) rfl rfl ?_
            refine J_goto (pc := 71) (tgt := 127) hc dX0_readUnder_71 (by decide) ?_
            refine J_sub (l' := [some ((0, .ref x0) : TV), none, none, none, some ((0, .int v24) : TV), some ((0, .int x5) : TV)]) ⟨rfl, ⟨rfl, ⟨rfl, trivial⟩⟩⟩ ?_
            exact jX0_readUnder_L127 hc he ih x0 v24 x5
        · refine J_iconst (pc := 46) (v := 0) hc dX0_readUnder_46 (by decide) ?_
          refine J_istore (pc := 47) (l' := [some ((0, .ref x0) : TV), none, none, none, some ((0, .int 0) : TV), some ((0, .int x5) : TV)]) hc dX0_readUnder_47 (by decide) rfl rfl ?_
          refine J_goto (pc := 49) (tgt := 127) hc dX0_readUnder_49 (by decide) ?_
          refine J_sub (l' := [some ((0, .ref x0) : TV), none, none, none, some ((0, .int 0) : TV), some ((0, .int x5) : TV)]) ⟨rfl, ⟨rfl, ⟨rfl, trivial⟩⟩⟩ ?_
          exact jX0_readUnder_L127 hc he ih x0 0 x5
set_option maxRecDepth 100000 in
set_option maxHeartbeats 4000000 in
theorem jX0_readUnder {κ : Cx} {fin : Int64 → Mm → Prop} (hc : Jc κ RX0 cX0_readUnder 6 3 0 0 66) (he : Ed κ cX0_readUnder 0 0 wJ .lreturn fin) (x0 : Nat) (x1 : Int64) (x3 : Int32) : Jg κ (wM κ) 6 fin 0 0 0 [some ((0, .ref x0) : TV), some ((0, .long x1) : TV), none, some ((0, .int x3) : TV), none, none] [] (fX0_readUnder x0 x1 x3) := by
  unfold fX0_readUnder
  refine J_aload_n (pc := 0) hc dX0_readUnder_0 rfl rfl ?_
  refine J_getA (pc := 1) hc clX0 (k := 6) (kd := 4) (Nat.le_of_ble_eq_true rfl) rfl (Nat.le_of_ble_eq_true rfl) tw210 (Or.inl rfl) dX0_readUnder_1 (fun v25 => ?_)
  refine J_lload_n (pc := 4) hc dX0_readUnder_4 rfl rfl ?_
  refine J_iload_n (pc := 5) hc dX0_readUnder_5 rfl rfl ?_
  refine J_callVv (pc := 6) hc clX4 (As := [((0, .long x1) : TV), ((0, .int x3) : TV)]) (KX4_begin v25 x1 x3) dX0_readUnder_6 moX4_begin rfl tw1012 tw495 tw496 tw7 tw497 rfl (Nat.le_of_ble_eq_true rfl) (Nat.le_of_ble_eq_true rfl) (Nat.le_of_ble_eq_true rfl) (Nat.le_of_ble_eq_true rfl) (Nat.le_of_ble_eq_true rfl) rfl (fun _ => ?_)
  refine J_iconst (pc := 9) (v := 1) hc dX0_readUnder_9 (by decide) ?_
  refine J_istore (pc := 10) (l' := [some ((0, .ref x0) : TV), some ((0, .long x1) : TV), none, some ((0, .int x3) : TV), some ((0, .int 1) : TV), none]) hc dX0_readUnder_10 (by decide) rfl rfl ?_
  refine J_iconst (pc := 12) (v := 0) hc dX0_readUnder_12 (by decide) ?_
  refine J_istore (pc := 13) (l' := [some ((0, .ref x0) : TV), some ((0, .long x1) : TV), none, some ((0, .int x3) : TV), some ((0, .int 1) : TV), some ((0, .int 0) : TV)]) hc dX0_readUnder_13 (by decide) rfl rfl ?_
  refine J_sub (l' := [some ((0, .ref x0) : TV), none, none, none, some ((0, .int 1) : TV), some ((0, .int 0) : TV)]) ⟨rfl, ⟨rfl, ⟨rfl, trivial⟩⟩⟩ ?_
  exact jX0_readUnder_L15 hc he fu x0 1 0
theorem moX0_readUnder : MOk yX0_readUnder 2 := ⟨by decide +kernel, by decide +kernel, by decide +kernel⟩
set_option maxRecDepth 100000 in
set_option maxHeartbeats 4000000 in
theorem KX0_readUnder (x0 : Nat) (x1 : Int64) (x3 : Int32) : Ct wJ yX0_readUnder cX0_readUnder 6 (some .long) 3 0 0 66 [((0, .ref x0) : TV), ((0, .long x1) : TV), ((0, .int x3) : TV)] (fX0_readUnder x0 x1 x3) :=
  Ct_J (j := 2) (by decide +kernel) rfl rfl (Nat.le_of_ble_eq_true rfl) (fun κ fin hc he => jX0_readUnder hc he x0 x1 x3)
set_option maxRecDepth 100000 in
set_option maxHeartbeats 4000000 in
theorem jX1_init {κ : Cx} {fin : Unit → Mm → Prop} (hc : Jc κ RX1 cX1_init 1 1 1 10 20) (he : Ed κ cX1_init 1 10 wV .return_ fin) (hin : Mh κ = "<init>") (x0 : Nat) : Jg κ (wM κ) 1 fin 0 0 0 [some ((1, .ref x0) : TV)] [] (fX1_init x0) := by
  unfold fX1_init
  refine J_aload_n (pc := 0) hc dX1_init_0 rfl rfl ?_
  refine J_objInit (pc := 1) hc tw88 tw43 tw44 (Nat.le_of_ble_eq_true rfl) (Nat.le_of_ble_eq_true rfl) (Nat.le_of_ble_eq_true rfl) dX1_init_1 ?_
  refine J_aload_n (pc := 4) hc dX1_init_4 rfl rfl ?_
  refine J_iconst (pc := 5) (v := 0) hc dX1_init_5 (by decide) ?_
  refine J_putI (pc := 6) hc clX1 (k := 0) (Nat.le_of_ble_eq_true rfl) rfl rfl tw91 (Or.inl rfl) rfl dX1_init_6 ?_
  refine J_aload_n (pc := 9) hc dX1_init_9 rfl rfl ?_
  refine J_iconst (pc := 10) (v := 0) hc dX1_init_10 (by decide) ?_
  refine J_putI (pc := 11) hc clX1 (k := 1) (Nat.le_of_ble_eq_true rfl) rfl rfl tw93 (Or.inl rfl) rfl dX1_init_11 ?_
  refine J_aload_n (pc := 14) hc dX1_init_14 rfl rfl ?_
  refine J_bipush (pc := 15) (v := 10) hc dX1_init_15 (by decide) ?_
  refine J_newa14 (pc := 17) (N9 := 10) hc tw89 (by decide) (by decide) (Nat.le_of_ble_eq_true rfl) (Nat.le_of_ble_eq_true rfl) (Nat.le_of_ble_eq_true rfl) dX1_init_17 (fun h1 => ?_)
  refine J_putA (pc := 20) hc hin clX1 (k := 2) (kd := 14) (Nat.le_of_ble_eq_true rfl) rfl (Nat.le_of_ble_eq_true rfl) (fun _ => rfl) (fun _ => rfl) tw94 rfl rfl rfl dX1_init_20 ?_
  exact J_vret (pc := 23) he dX1_init_23
theorem moX1_init : MOk yX1_init 0 := ⟨by decide +kernel, by decide +kernel, by decide +kernel⟩
set_option maxRecDepth 100000 in
set_option maxHeartbeats 4000000 in
theorem KX1_init (x0 : Nat) : Ct wV yX1_init cX1_init 1 none 1 1 10 20 [((1, .ref x0) : TV)] (fX1_init x0) :=
  Ct_V (j := 0) (by decide +kernel) rfl rfl (Nat.le_of_ble_eq_true rfl) (fun κ fin hc he hin => jX1_init hc he hin x0)
set_option maxRecDepth 100000 in
set_option maxHeartbeats 4000000 in
theorem jX2_init_L41 {κ : Cx} {fin : Unit → Mm → Prop} (hc : Jc κ RX2 cX2_init 2 1 3 46 20) (he : Ed κ cX2_init 3 46 wV .return_ fin) (hin : Mh κ = "<init>") : ∀ (n : Nat) (x0 : Nat) (x1 : Int32), Jg κ (wM κ) 2 fin 3 46 41 [some ((2, .ref x0) : TV), some ((0, .int x1) : TV)] [] (fX2_init_L41 n x0 x1) := by
  intro n
  induction n with
  | zero => intro x0 x1; exact J_fail
  | succ n ih =>
    intro x0 x1
    unfold fX2_init_L41
    refine J_iload_n (pc := 41) hc dX2_init_41 rfl rfl ?_
    refine J_bipush (pc := 42) (v := 6) hc dX2_init_42 (by decide) ?_
    refine J_icmp_ge (pc := 44) (tgt := 64) hc dX2_init_44 (by decide) ?_ ?_
    · exact J_vret (pc := 64) he dX2_init_64
    · refine J_aload_n (pc := 47) hc dX2_init_47 rfl rfl ?_
      refine J_getA (pc := 48) hc clX2 (k := 4) (kd := 11) (Nat.le_of_ble_eq_true rfl) rfl (Nat.le_of_ble_eq_true rfl) tw66 (Or.inl rfl) dX2_init_48 (fun v1 => ?_)
      refine J_iload_n (pc := 51) hc dX2_init_51 rfl rfl ?_
      refine J_getsN (pc := 52) (j := 0) hc (by decide) (by decide +kernel) dX2_init_52 ?_
      refine J_iload_n (pc := 55) hc dX2_init_55 rfl rfl ?_
      refine J_tald (pc := 56) (j := 0) hc (by decide) dX2_init_56 (fun v2 => ?_)
      refine J_iast (pc := 57) hc dX2_init_57 ?_
      refine J_iinc (pc := 58) (v := x1 + 1) (l' := [some ((2, .ref x0) : TV), some ((0, .int (x1 + 1)) : TV)]) hc dX2_init_58 rfl rfl (by decide) rfl rfl ?_
      refine J_goto (pc := 61) (tgt := 41) hc dX2_init_61 (by decide) ?_
      refine J_sub (l' := [some ((2, .ref x0) : TV), some ((0, .int (x1 + 1)) : TV)]) ⟨rfl, ⟨rfl, trivial⟩⟩ ?_
      exact ih x0 (x1 + 1)
set_option maxRecDepth 100000 in
set_option maxHeartbeats 4000000 in
theorem jX2_init {κ : Cx} {fin : Unit → Mm → Prop} (hc : Jc κ RX2 cX2_init 2 1 3 46 20) (he : Ed κ cX2_init 3 46 wV .return_ fin) (hin : Mh κ = "<init>") (x0 : Nat) : Jg κ (wM κ) 2 fin 0 0 0 [some ((2, .ref x0) : TV), none] [] (fX2_init x0) := by
  unfold fX2_init
  refine J_aload_n (pc := 0) hc dX2_init_0 rfl rfl ?_
  refine J_objInit (pc := 1) hc tw50 tw43 tw44 (Nat.le_of_ble_eq_true rfl) (Nat.le_of_ble_eq_true rfl) (Nat.le_of_ble_eq_true rfl) dX2_init_1 ?_
  refine J_aload_n (pc := 4) hc dX2_init_4 rfl rfl ?_
  refine J_bipush (pc := 5) (v := 20) hc dX2_init_5 (by decide) ?_
  refine J_newa12 (pc := 7) (N9 := 20) hc tw81 (by decide) (by decide) (Nat.le_of_ble_eq_true rfl) (Nat.le_of_ble_eq_true rfl) (Nat.le_of_ble_eq_true rfl) dX2_init_7 (fun h3 => ?_)
  refine J_putA (pc := 9) hc hin clX2 (k := 2) (kd := 12) (Nat.le_of_ble_eq_true rfl) rfl (Nat.le_of_ble_eq_true rfl) (fun _ => rfl) (fun _ => rfl) tw61 rfl rfl rfl dX2_init_9 ?_
  refine J_aload_n (pc := 12) hc dX2_init_12 rfl rfl ?_
  refine J_bipush (pc := 13) (v := 20) hc dX2_init_13 (by decide) ?_
  refine J_newa11 (pc := 15) (N9 := 20) hc tw82 (by decide) (by decide) (Nat.le_of_ble_eq_true rfl) (Nat.le_of_ble_eq_true rfl) (Nat.le_of_ble_eq_true rfl) dX2_init_15 (fun h4 => ?_)
  refine J_putA (pc := 17) hc hin clX2 (k := 3) (kd := 11) (Nat.le_of_ble_eq_true rfl) rfl (Nat.le_of_ble_eq_true rfl) (fun _ => rfl) (fun _ => rfl) tw62 rfl rfl rfl dX2_init_17 ?_
  refine J_aload_n (pc := 20) hc dX2_init_20 rfl rfl ?_
  refine J_bipush (pc := 21) (v := 6) hc dX2_init_21 (by decide) ?_
  refine J_newa11 (pc := 23) (N9 := 6) hc tw82 (by decide) (by decide) (Nat.le_of_ble_eq_true rfl) (Nat.le_of_ble_eq_true rfl) (Nat.le_of_ble_eq_true rfl) dX2_init_23 (fun h5 => ?_)
  refine J_putA (pc := 25) hc hin clX2 (k := 4) (kd := 11) (Nat.le_of_ble_eq_true rfl) rfl (Nat.le_of_ble_eq_true rfl) (fun _ => rfl) (fun _ => rfl) tw66 rfl rfl rfl dX2_init_25 ?_
  refine J_aload_n (pc := 28) hc dX2_init_28 rfl rfl ?_
  refine J_bipush (pc := 29) (v := 16) hc dX2_init_29 (by decide) ?_
  refine J_putI (pc := 31) hc clX2 (k := 0) (Nat.le_of_ble_eq_true rfl) rfl rfl tw53 (Or.inl rfl) rfl dX2_init_31 ?_
  refine J_aload_n (pc := 34) hc dX2_init_34 rfl rfl ?_
  refine J_iconst (pc := 35) (v := 0) hc dX2_init_35 (by decide) ?_
  refine J_putI (pc := 36) hc clX2 (k := 1) (Nat.le_of_ble_eq_true rfl) rfl rfl tw57 (Or.inl rfl) rfl dX2_init_36 ?_
  refine J_iconst (pc := 39) (v := 0) hc dX2_init_39 (by decide) ?_
  refine J_istore_n (pc := 40) (l' := [some ((2, .ref x0) : TV), some ((0, .int 0) : TV)]) hc dX2_init_40 rfl (by decide) rfl rfl ?_
  refine J_sub (l' := [some ((2, .ref x0) : TV), some ((0, .int 0) : TV)]) ⟨rfl, ⟨rfl, trivial⟩⟩ ?_
  exact jX2_init_L41 hc he hin fu x0 0
theorem moX2_init : MOk yX2_init 0 := ⟨by decide +kernel, by decide +kernel, by decide +kernel⟩
set_option maxRecDepth 100000 in
set_option maxHeartbeats 4000000 in
theorem KX2_init (x0 : Nat) : Ct wV yX2_init cX2_init 2 none 1 3 46 20 [((2, .ref x0) : TV)] (fX2_init x0) :=
  Ct_V (j := 1) (by decide +kernel) rfl rfl (Nat.le_of_ble_eq_true rfl) (fun κ fin hc he hin => jX2_init hc he hin x0)
set_option maxRecDepth 100000 in
set_option maxHeartbeats 4000000 in
theorem jX2_copyFrom_L56 {κ : Cx} {fin : Unit → Mm → Prop} (hc : Jc κ RX2 cX2_copyFrom 3 0 0 0 0) (he : Ed κ cX2_copyFrom 0 0 wV .return_ fin) : ∀ (n : Nat) (x0 : Nat) (x1 : Nat) (x2 : Int32), Jg κ (wM κ) 3 fin 0 0 56 [some ((2, .ref x0) : TV), some ((2, .ref x1) : TV), some ((0, .int x2) : TV)] [] (fX2_copyFrom_L56 n x0 x1 x2) := by
  intro n
  induction n with
  | zero => intro x0 x1 x2; exact J_fail
  | succ n ih =>
    intro x0 x1 x2
    unfold fX2_copyFrom_L56
    refine J_iload_n (pc := 56) hc dX2_copyFrom_56 rfl rfl ?_
    refine J_bipush (pc := 57) (v := 6) hc dX2_copyFrom_57 (by decide) ?_
    refine J_icmp_ge (pc := 59) (tgt := 80) hc dX2_copyFrom_59 (by decide) ?_ ?_
    · exact J_vret (pc := 80) he dX2_copyFrom_80
    · refine J_aload_n (pc := 62) hc dX2_copyFrom_62 rfl rfl ?_
      refine J_getA (pc := 63) hc clX2 (k := 4) (kd := 11) (Nat.le_of_ble_eq_true rfl) rfl (Nat.le_of_ble_eq_true rfl) tw66 (Or.inl rfl) dX2_copyFrom_63 (fun v1 => ?_)
      refine J_iload_n (pc := 66) hc dX2_copyFrom_66 rfl rfl ?_
      refine J_aload_n (pc := 67) hc dX2_copyFrom_67 rfl rfl ?_
      refine J_getA (pc := 68) hc clX2 (k := 4) (kd := 11) (Nat.le_of_ble_eq_true rfl) rfl (Nat.le_of_ble_eq_true rfl) tw66 (Or.inl rfl) dX2_copyFrom_68 (fun v2 => ?_)
      refine J_iload_n (pc := 71) hc dX2_copyFrom_71 rfl rfl ?_
      refine J_iald (pc := 72) hc dX2_copyFrom_72 (fun v3 => ?_)
      refine J_iast (pc := 73) hc dX2_copyFrom_73 ?_
      refine J_iinc (pc := 74) (v := x2 + 1) (l' := [some ((2, .ref x0) : TV), some ((2, .ref x1) : TV), some ((0, .int (x2 + 1)) : TV)]) hc dX2_copyFrom_74 rfl rfl (by decide) rfl rfl ?_
      refine J_goto (pc := 77) (tgt := 56) hc dX2_copyFrom_77 (by decide) ?_
      refine J_sub (l' := [some ((2, .ref x0) : TV), some ((2, .ref x1) : TV), some ((0, .int (x2 + 1)) : TV)]) ⟨rfl, ⟨rfl, ⟨rfl, trivial⟩⟩⟩ ?_
      exact ih x0 x1 (x2 + 1)
set_option maxRecDepth 100000 in
set_option maxHeartbeats 4000000 in
theorem jX2_copyFrom_L18 {κ : Cx} {fin : Unit → Mm → Prop} (hc : Jc κ RX2 cX2_copyFrom 3 0 0 0 0) (he : Ed κ cX2_copyFrom 0 0 wV .return_ fin) : ∀ (n : Nat) (x0 : Nat) (x1 : Nat) (x2 : Int32), Jg κ (wM κ) 3 fin 0 0 18 [some ((2, .ref x0) : TV), some ((2, .ref x1) : TV), some ((0, .int x2) : TV)] [] (fX2_copyFrom_L18 n x0 x1 x2) := by
  intro n
  induction n with
  | zero => intro x0 x1 x2; exact J_fail
  | succ n ih =>
    intro x0 x1 x2
    unfold fX2_copyFrom_L18
    refine J_iload_n (pc := 18) hc dX2_copyFrom_18 rfl rfl ?_
    refine J_bipush (pc := 19) (v := 20) hc dX2_copyFrom_19 (by decide) ?_
    refine J_icmp_ge (pc := 21) (tgt := 54) hc dX2_copyFrom_21 (by decide) ?_ ?_
    · refine J_iconst (pc := 54) (v := 0) hc dX2_copyFrom_54 (by decide) ?_
      refine J_istore_n (pc := 55) (l' := [some ((2, .ref x0) : TV), some ((2, .ref x1) : TV), some ((0, .int 0) : TV)]) hc dX2_copyFrom_55 rfl (by decide) rfl rfl ?_
      refine J_sub (l' := [some ((2, .ref x0) : TV), some ((2, .ref x1) : TV), some ((0, .int 0) : TV)]) ⟨rfl, ⟨rfl, ⟨rfl, trivial⟩⟩⟩ ?_
      exact jX2_copyFrom_L56 hc he fu x0 x1 0
    · refine J_aload_n (pc := 24) hc dX2_copyFrom_24 rfl rfl ?_
      refine J_getA (pc := 25) hc clX2 (k := 2) (kd := 12) (Nat.le_of_ble_eq_true rfl) rfl (Nat.le_of_ble_eq_true rfl) tw61 (Or.inl rfl) dX2_copyFrom_25 (fun v4 => ?_)
      refine J_iload_n (pc := 28) hc dX2_copyFrom_28 rfl rfl ?_
      refine J_aload_n (pc := 29) hc dX2_copyFrom_29 rfl rfl ?_
      refine J_getA (pc := 30) hc clX2 (k := 2) (kd := 12) (Nat.le_of_ble_eq_true rfl) rfl (Nat.le_of_ble_eq_true rfl) tw61 (Or.inl rfl) dX2_copyFrom_30 (fun v5 => ?_)
      refine J_iload_n (pc := 33) hc dX2_copyFrom_33 rfl rfl ?_
      refine J_lald (pc := 34) hc dX2_copyFrom_34 (fun v6 => ?_)
      refine J_last (pc := 35) hc dX2_copyFrom_35 ?_
      refine J_aload_n (pc := 36) hc dX2_copyFrom_36 rfl rfl ?_
      refine J_getA (pc := 37) hc clX2 (k := 3) (kd := 11) (Nat.le_of_ble_eq_true rfl) rfl (Nat.le_of_ble_eq_true rfl) tw62 (Or.inl rfl) dX2_copyFrom_37 (fun v7 => ?_)
      refine J_iload_n (pc := 40) hc dX2_copyFrom_40 rfl rfl ?_
      refine J_aload_n (pc := 41) hc dX2_copyFrom_41 rfl rfl ?_
      refine J_getA (pc := 42) hc clX2 (k := 3) (kd := 11) (Nat.le_of_ble_eq_true rfl) rfl (Nat.le_of_ble_eq_true rfl) tw62 (Or.inl rfl) dX2_copyFrom_42 (fun v8 => ?_)
      refine J_iload_n (pc := 45) hc dX2_copyFrom_45 rfl rfl ?_
      refine J_iald (pc := 46) hc dX2_copyFrom_46 (fun v9 => ?_)
      refine J_iast (pc := 47) hc dX2_copyFrom_47 ?_
      refine J_iinc (pc := 48) (v := x2 + 1) (l' := [some ((2, .ref x0) : TV), some ((2, .ref x1) : TV), some ((0, .int (x2 + 1)) : TV)]) hc dX2_copyFrom_48 rfl rfl (by decide) rfl rfl ?_
      refine J_goto (pc := 51) (tgt := 18) hc dX2_copyFrom_51 (by decide) ?_
      refine J_sub (l' := [some ((2, .ref x0) : TV), some ((2, .ref x1) : TV), some ((0, .int (x2 + 1)) : TV)]) ⟨rfl, ⟨rfl, ⟨rfl, trivial⟩⟩⟩ ?_
      exact ih x0 x1 (x2 + 1)
set_option maxRecDepth 100000 in
set_option maxHeartbeats 4000000 in
theorem jX2_copyFrom {κ : Cx} {fin : Unit → Mm → Prop} (hc : Jc κ RX2 cX2_copyFrom 3 0 0 0 0) (he : Ed κ cX2_copyFrom 0 0 wV .return_ fin) (x0 : Nat) (x1 : Nat) : Jg κ (wM κ) 3 fin 0 0 0 [some ((2, .ref x0) : TV), some ((2, .ref x1) : TV), none] [] (fX2_copyFrom x0 x1) := by
  unfold fX2_copyFrom
  refine J_aload_n (pc := 0) hc dX2_copyFrom_0 rfl rfl ?_
  refine J_aload_n (pc := 1) hc dX2_copyFrom_1 rfl rfl ?_
  refine J_getI (pc := 2) hc clX2 (k := 0) (Nat.le_of_ble_eq_true rfl) rfl tw53 (Or.inl rfl) dX2_copyFrom_2 (fun v10 => ?_)
  refine J_putI (pc := 5) hc clX2 (k := 0) (Nat.le_of_ble_eq_true rfl) rfl rfl tw53 (Or.inl rfl) rfl dX2_copyFrom_5 ?_
  refine J_aload_n (pc := 8) hc dX2_copyFrom_8 rfl rfl ?_
  refine J_aload_n (pc := 9) hc dX2_copyFrom_9 rfl rfl ?_
  refine J_getI (pc := 10) hc clX2 (k := 1) (Nat.le_of_ble_eq_true rfl) rfl tw57 (Or.inl rfl) dX2_copyFrom_10 (fun v11 => ?_)
  refine J_putI (pc := 13) hc clX2 (k := 1) (Nat.le_of_ble_eq_true rfl) rfl rfl tw57 (Or.inl rfl) rfl dX2_copyFrom_13 ?_
  refine J_iconst (pc := 16) (v := 0) hc dX2_copyFrom_16 (by decide) ?_
  refine J_istore_n (pc := 17) (l' := [some ((2, .ref x0) : TV), some ((2, .ref x1) : TV), some ((0, .int 0) : TV)]) hc dX2_copyFrom_17 rfl (by decide) rfl rfl ?_
  refine J_sub (l' := [some ((2, .ref x0) : TV), some ((2, .ref x1) : TV), some ((0, .int 0) : TV)]) ⟨rfl, ⟨rfl, ⟨rfl, trivial⟩⟩⟩ ?_
  exact jX2_copyFrom_L18 hc he fu x0 x1 0
theorem moX2_copyFrom : MOk yX2_copyFrom 1 := ⟨by decide +kernel, by decide +kernel, by decide +kernel⟩
set_option maxRecDepth 100000 in
set_option maxHeartbeats 4000000 in
theorem KX2_copyFrom (x0 : Nat) (x1 : Nat) : Ct wV yX2_copyFrom cX2_copyFrom 3 none 0 0 0 0 [((2, .ref x0) : TV), ((2, .ref x1) : TV)] (fX2_copyFrom x0 x1) :=
  Ct_V (j := 1) (by decide +kernel) rfl rfl (Nat.le_of_ble_eq_true rfl) (fun κ fin hc he hin => jX2_copyFrom hc he x0 x1)
set_option maxRecDepth 100000 in
set_option maxHeartbeats 4000000 in
theorem jX1_keep_L80 {κ : Cx} {fin : Unit → Mm → Prop} (hc : Jc κ RX1 cX1_keep 2 2 4 51 41) (he : Ed κ cX1_keep 4 51 wV .return_ fin) (x0 : Nat) (s0 : Int32) (s1 : Nat) : Jg κ (wM κ) 2 fin 4 51 80 [some ((1, .ref x0) : TV), none] [((0, .int s0) : TV), ((1, .ref s1) : TV)] (fX1_keep_L80 x0 s0 s1) := by
  unfold fX1_keep_L80
  refine J_putI (pc := 80) hc clX1 (k := 1) (Nat.le_of_ble_eq_true rfl) rfl rfl tw93 (Or.inl rfl) rfl dX1_keep_80 ?_
  refine J_aload_n (pc := 83) hc dX1_keep_83 rfl rfl ?_
  refine J_aload_n (pc := 84) hc dX1_keep_84 rfl rfl ?_
  refine J_getI (pc := 85) hc clX1 (k := 0) (Nat.le_of_ble_eq_true rfl) rfl tw91 (Or.inl rfl) dX1_keep_85 (fun v1 => ?_)
  refine J_iconst (pc := 88) (v := 1) hc dX1_keep_88 (by decide) ?_
  refine J_iadd (pc := 89) hc dX1_keep_89 ?_
  refine J_bipush (pc := 90) (v := 10) hc dX1_keep_90 (by decide) ?_
  refine J_mmin (pc := 92) hc dX1_keep_92 tw675 tw421 tw19 tw422 (Nat.le_of_ble_eq_true rfl) (Nat.le_of_ble_eq_true rfl) (Nat.le_of_ble_eq_true rfl) (Nat.le_of_ble_eq_true rfl) (Nat.le_of_ble_eq_true rfl) ?_
  refine J_putI (pc := 95) hc clX1 (k := 0) (Nat.le_of_ble_eq_true rfl) rfl rfl tw91 (Or.inl rfl) rfl dX1_keep_95 ?_
  exact J_vret (pc := 98) he dX1_keep_98
set_option maxRecDepth 100000 in
set_option maxHeartbeats 4000000 in
theorem jX1_keep_L45 {κ : Cx} {fin : Unit → Mm → Prop} (hc : Jc κ RX1 cX1_keep 2 2 4 51 41) (he : Ed κ cX1_keep 4 51 wV .return_ fin) (x0 : Nat) (x1 : Nat) : Jg κ (wM κ) 2 fin 4 51 45 [some ((1, .ref x0) : TV), some ((2, .ref x1) : TV)] [] (fX1_keep_L45 x0 x1) := by
  unfold fX1_keep_L45
  refine J_aload_n (pc := 45) hc dX1_keep_45 rfl rfl ?_
  refine J_getA (pc := 46) hc clX1 (k := 2) (kd := 14) (Nat.le_of_ble_eq_true rfl) rfl (Nat.le_of_ble_eq_true rfl) tw94 (Or.inl rfl) dX1_keep_46 (fun v2 => ?_)
  refine J_aload_n (pc := 49) hc dX1_keep_49 rfl rfl ?_
  refine J_getI (pc := 50) hc clX1 (k := 1) (Nat.le_of_ble_eq_true rfl) rfl tw93 (Or.inl rfl) dX1_keep_50 (fun v3 => ?_)
  refine J_aald (pc := 53) hc dX1_keep_53 (fun v4 => ?_)
  refine J_aload_n (pc := 54) hc dX1_keep_54 rfl rfl ?_
  refine J_nn1 (r := v4) (fun p5 => ?_)
  refine J_callVv (pc := 55) hc clX2 (As := [((2, .ref x1) : TV)]) (KX2_copyFrom p5 x1) dX1_keep_55 moX2_copyFrom rfl tw674 tw558 tw559 tw3 tw560 rfl (Nat.le_of_ble_eq_true rfl) (Nat.le_of_ble_eq_true rfl) (Nat.le_of_ble_eq_true rfl) (Nat.le_of_ble_eq_true rfl) (Nat.le_of_ble_eq_true rfl) rfl (fun _ => ?_)
  refine J_aload_n (pc := 58) hc dX1_keep_58 rfl rfl ?_
  refine J_aload_n (pc := 59) hc dX1_keep_59 rfl rfl ?_
  refine J_getI (pc := 60) hc clX1 (k := 1) (Nat.le_of_ble_eq_true rfl) rfl tw93 (Or.inl rfl) dX1_keep_60 (fun v6 => ?_)
  refine J_iconst (pc := 63) (v := 1) hc dX1_keep_63 (by decide) ?_
  refine J_iadd (pc := 64) hc dX1_keep_64 ?_
  refine J_bipush (pc := 65) (v := 10) hc dX1_keep_65 (by decide) ?_
  refine J_icmp_ge (pc := 67) (tgt := 79) hc dX1_keep_67 (by decide) ?_ ?_
  · refine J_iconst (pc := 79) (v := 0) hc dX1_keep_79 (by decide) ?_
    refine J_sub (l' := [some ((1, .ref x0) : TV), none]) ⟨rfl, trivial⟩ ?_
    exact jX1_keep_L80 hc he x0 0 x0
  · refine J_aload_n (pc := 70) hc dX1_keep_70 rfl rfl ?_
    refine J_getI (pc := 71) hc clX1 (k := 1) (Nat.le_of_ble_eq_true rfl) rfl tw93 (Or.inl rfl) dX1_keep_71 (fun v7 => ?_)
    refine J_iconst (pc := 74) (v := 1) hc dX1_keep_74 (by decide) ?_
    refine J_iadd (pc := 75) hc dX1_keep_75 ?_
    refine J_goto (pc := 76) (tgt := 80) hc dX1_keep_76 (by decide) ?_
    refine J_sub (l' := [some ((1, .ref x0) : TV), none]) ⟨rfl, trivial⟩ ?_
    exact jX1_keep_L80 hc he x0 (v7 + 1) x0
set_option maxRecDepth 100000 in
set_option maxHeartbeats 4000000 in
theorem jX1_keep {κ : Cx} {fin : Unit → Mm → Prop} (hc : Jc κ RX1 cX1_keep 2 2 4 51 41) (he : Ed κ cX1_keep 4 51 wV .return_ fin) (x0 : Nat) (x1 : Nat) : Jg κ (wM κ) 2 fin 0 0 0 [some ((1, .ref x0) : TV), some ((2, .ref x1) : TV)] [] (fX1_keep x0 x1) := by
  unfold fX1_keep
  refine J_aload_n (pc := 0) hc dX1_keep_0 rfl rfl ?_
  refine J_getI (pc := 1) hc clX1 (k := 1) (Nat.le_of_ble_eq_true rfl) rfl tw93 (Or.inl rfl) dX1_keep_1 (fun v8 => ?_)
  refine J_if_lt (pc := 4) (tgt := 16) hc dX1_keep_4 (by decide) ?_ ?_
  · refine J_widen (k := 4) (n := 51) (Nat.le_of_ble_eq_true rfl) (Nat.le_of_ble_eq_true rfl) ?_
    exact J_vret (pc := 16) he dX1_keep_16
  · refine J_aload_n (pc := 7) hc dX1_keep_7 rfl rfl ?_
    refine J_getI (pc := 8) hc clX1 (k := 1) (Nat.le_of_ble_eq_true rfl) rfl tw93 (Or.inl rfl) dX1_keep_8 (fun v9 => ?_)
    refine J_bipush (pc := 11) (v := 10) hc dX1_keep_11 (by decide) ?_
    refine J_icmp_lt (pc := 13) (tgt := 17) hc dX1_keep_13 (by decide) ?_ ?_
    · refine J_aload_n (pc := 17) hc dX1_keep_17 rfl rfl ?_
      refine J_getA (pc := 18) hc clX1 (k := 2) (kd := 14) (Nat.le_of_ble_eq_true rfl) rfl (Nat.le_of_ble_eq_true rfl) tw94 (Or.inl rfl) dX1_keep_18 (fun v10 => ?_)
      refine J_aload_n (pc := 21) hc dX1_keep_21 rfl rfl ?_
      refine J_getI (pc := 22) hc clX1 (k := 1) (Nat.le_of_ble_eq_true rfl) rfl tw93 (Or.inl rfl) dX1_keep_22 (fun v11 => ?_)
      refine J_aald (pc := 25) hc dX1_keep_25 (fun v12 => ?_)
      refine J_ifnonnullC (pc := 26) (tgt := 45) hc dX1_keep_26 (by decide) ?_ ?_
      · refine J_aload_n (pc := 29) hc dX1_keep_29 rfl rfl ?_
        refine J_getA (pc := 30) hc clX1 (k := 2) (kd := 14) (Nat.le_of_ble_eq_true rfl) rfl (Nat.le_of_ble_eq_true rfl) tw94 (Or.inl rfl) dX1_keep_30 (fun v14 => ?_)
        refine J_aload_n (pc := 33) hc dX1_keep_33 rfl rfl ?_
        refine J_getI (pc := 34) hc clX1 (k := 1) (Nat.le_of_ble_eq_true rfl) rfl tw93 (Or.inl rfl) dX1_keep_34 (fun v15 => ?_)
        refine J_new (pc := 37) hc clX2 dvX2 tw89 tw46 tw3 (Nat.le_of_ble_eq_true rfl) (Nat.le_of_ble_eq_true rfl) dX1_keep_37 (fun h16 => ?_)
        refine J_dup (pc := 40) hc dX1_keep_40 rfl ?_
        refine J_callIv (pc := 41) hc (ci := 2) (Or.inl (Nat.le_of_ble_eq_true rfl)) (As := []) (KX2_init h16) dX1_keep_41 moX2_init rfl tw673 tw48 tw3 tw49 rfl (Nat.le_of_ble_eq_true rfl) (Nat.le_of_ble_eq_true rfl) (Nat.le_of_ble_eq_true rfl) (Nat.le_of_ble_eq_true rfl) (Nat.le_of_ble_eq_true rfl) rfl (fun _ => ?_)
        refine J_aast (pc := 44) hc dX1_keep_44 ?_
        refine J_sub (l' := [some ((1, .ref x0) : TV), some ((2, .ref x1) : TV)]) ⟨rfl, ⟨rfl, trivial⟩⟩ ?_
        exact jX1_keep_L45 hc he x0 x1
      · intro p13
        refine J_widen (k := 4) (n := 51) (Nat.le_of_ble_eq_true rfl) (Nat.le_of_ble_eq_true rfl) ?_
        refine J_sub (l' := [some ((1, .ref x0) : TV), some ((2, .ref x1) : TV)]) ⟨rfl, ⟨rfl, trivial⟩⟩ ?_
        exact jX1_keep_L45 hc he x0 x1
    · refine J_widen (k := 4) (n := 51) (Nat.le_of_ble_eq_true rfl) (Nat.le_of_ble_eq_true rfl) ?_
      exact J_vret (pc := 16) he dX1_keep_16
theorem moX1_keep : MOk yX1_keep 1 := ⟨by decide +kernel, by decide +kernel, by decide +kernel⟩
set_option maxRecDepth 100000 in
set_option maxHeartbeats 4000000 in
theorem KX1_keep (x0 : Nat) (x1 : Nat) : Ct wV yX1_keep cX1_keep 2 none 2 4 51 41 [((1, .ref x0) : TV), ((2, .ref x1) : TV)] (fX1_keep x0 x1) :=
  Ct_V (j := 0) (by decide +kernel) rfl rfl (Nat.le_of_ble_eq_true rfl) (fun κ fin hc he hin => jX1_keep hc he x0 x1)
set_option maxRecDepth 100000 in
set_option maxHeartbeats 4000000 in
theorem jX1_takeBack_L18 {κ : Cx} {fin : Int32 → Mm → Prop} (hc : Jc κ RX1 cX1_takeBack 3 1 0 0 22) (he : EdZ κ cX1_takeBack 0 0 id fin) (x0 : Nat) (x1 : Nat) (s0 : Int32) : Jg κ (wM κ) 3 fin 0 0 18 [some ((1, .ref x0) : TV), some ((2, .ref x1) : TV), none] [((0, .int s0) : TV)] (fX1_takeBack_L18 x0 x1 s0) := by
  unfold fX1_takeBack_L18
  refine J_istore_n (pc := 18) (l' := [some ((1, .ref x0) : TV), some ((2, .ref x1) : TV), some ((0, .int s0) : TV)]) hc dX1_takeBack_18 rfl (by decide) rfl rfl ?_
  refine J_aload_n (pc := 19) hc dX1_takeBack_19 rfl rfl ?_
  refine J_getI (pc := 20) hc clX1 (k := 0) (Nat.le_of_ble_eq_true rfl) rfl tw91 (Or.inl rfl) dX1_takeBack_20 (fun v1 => ?_)
  refine J_if_le (pc := 23) (tgt := 41) hc dX1_takeBack_23 (by decide) ?_ ?_
  · refine J_iconst (pc := 41) (v := 0) hc dX1_takeBack_41 (by decide) ?_
    exact J_zret (pc := 42) he dX1_takeBack_42
  · refine J_iload_n (pc := 26) hc dX1_takeBack_26 rfl rfl ?_
    refine J_bipush (pc := 27) (v := 10) hc dX1_takeBack_27 (by decide) ?_
    refine J_icmp_ge (pc := 29) (tgt := 41) hc dX1_takeBack_29 (by decide) ?_ ?_
    · refine J_iconst (pc := 41) (v := 0) hc dX1_takeBack_41 (by decide) ?_
      exact J_zret (pc := 42) he dX1_takeBack_42
    · refine J_aload_n (pc := 32) hc dX1_takeBack_32 rfl rfl ?_
      refine J_getA (pc := 33) hc clX1 (k := 2) (kd := 14) (Nat.le_of_ble_eq_true rfl) rfl (Nat.le_of_ble_eq_true rfl) tw94 (Or.inl rfl) dX1_takeBack_33 (fun v2 => ?_)
      refine J_iload_n (pc := 36) hc dX1_takeBack_36 rfl rfl ?_
      refine J_aald (pc := 37) hc dX1_takeBack_37 (fun v3 => ?_)
      refine J_ifnonnullC (pc := 38) (tgt := 43) hc dX1_takeBack_38 (by decide) ?_ ?_
      · refine J_iconst (pc := 41) (v := 0) hc dX1_takeBack_41 (by decide) ?_
        exact J_zret (pc := 42) he dX1_takeBack_42
      · intro p4
        refine J_aload_n (pc := 43) hc dX1_takeBack_43 rfl rfl ?_
        refine J_aload_n (pc := 44) hc dX1_takeBack_44 rfl rfl ?_
        refine J_getA (pc := 45) hc clX1 (k := 2) (kd := 14) (Nat.le_of_ble_eq_true rfl) rfl (Nat.le_of_ble_eq_true rfl) tw94 (Or.inl rfl) dX1_takeBack_45 (fun v5 => ?_)
        refine J_iload_n (pc := 48) hc dX1_takeBack_48 rfl rfl ?_
        refine J_aald (pc := 49) hc dX1_takeBack_49 (fun v6 => ?_)
        refine J_nn0 (r := v6) (fun p7 => ?_)
        refine J_callVv (pc := 50) hc clX2 (As := [((2, .ref p7) : TV)]) (KX2_copyFrom x1 p7) dX1_takeBack_50 moX2_copyFrom rfl tw674 tw558 tw559 tw3 tw560 rfl (Nat.le_of_ble_eq_true rfl) (Nat.le_of_ble_eq_true rfl) (Nat.le_of_ble_eq_true rfl) (Nat.le_of_ble_eq_true rfl) (Nat.le_of_ble_eq_true rfl) rfl (fun _ => ?_)
        refine J_aload_n (pc := 53) hc dX1_takeBack_53 rfl rfl ?_
        refine J_iload_n (pc := 54) hc dX1_takeBack_54 rfl rfl ?_
        refine J_putI (pc := 55) hc clX1 (k := 1) (Nat.le_of_ble_eq_true rfl) rfl rfl tw93 (Or.inl rfl) rfl dX1_takeBack_55 ?_
        refine J_aload_n (pc := 58) hc dX1_takeBack_58 rfl rfl ?_
        refine J_dup (pc := 59) hc dX1_takeBack_59 rfl ?_
        refine J_getI (pc := 60) hc clX1 (k := 0) (Nat.le_of_ble_eq_true rfl) rfl tw91 (Or.inl rfl) dX1_takeBack_60 (fun v8 => ?_)
        refine J_iconst (pc := 63) (v := 1) hc dX1_takeBack_63 (by decide) ?_
        refine J_isub (pc := 64) hc dX1_takeBack_64 ?_
        refine J_putI (pc := 65) hc clX1 (k := 0) (Nat.le_of_ble_eq_true rfl) rfl rfl tw91 (Or.inl rfl) rfl dX1_takeBack_65 ?_
        refine J_iconst (pc := 68) (v := 1) hc dX1_takeBack_68 (by decide) ?_
        exact J_zret (pc := 69) he dX1_takeBack_69
set_option maxRecDepth 100000 in
set_option maxHeartbeats 4000000 in
theorem jX1_takeBack {κ : Cx} {fin : Int32 → Mm → Prop} (hc : Jc κ RX1 cX1_takeBack 3 1 0 0 22) (he : EdZ κ cX1_takeBack 0 0 id fin) (x0 : Nat) (x1 : Nat) : Jg κ (wM κ) 3 fin 0 0 0 [some ((1, .ref x0) : TV), some ((2, .ref x1) : TV), none] [] (fX1_takeBack x0 x1) := by
  unfold fX1_takeBack
  refine J_aload_n (pc := 0) hc dX1_takeBack_0 rfl rfl ?_
  refine J_getI (pc := 1) hc clX1 (k := 1) (Nat.le_of_ble_eq_true rfl) rfl tw93 (Or.inl rfl) dX1_takeBack_1 (fun v9 => ?_)
  refine J_if_le (pc := 4) (tgt := 16) hc dX1_takeBack_4 (by decide) ?_ ?_
  · refine J_bipush (pc := 16) (v := 9) hc dX1_takeBack_16 (by decide) ?_
    refine J_sub (l' := [some ((1, .ref x0) : TV), some ((2, .ref x1) : TV), none]) ⟨rfl, ⟨rfl, trivial⟩⟩ ?_
    exact jX1_takeBack_L18 hc he x0 x1 9
  · refine J_aload_n (pc := 7) hc dX1_takeBack_7 rfl rfl ?_
    refine J_getI (pc := 8) hc clX1 (k := 1) (Nat.le_of_ble_eq_true rfl) rfl tw93 (Or.inl rfl) dX1_takeBack_8 (fun v10 => ?_)
    refine J_iconst (pc := 11) (v := 1) hc dX1_takeBack_11 (by decide) ?_
    refine J_isub (pc := 12) hc dX1_takeBack_12 ?_
    refine J_goto (pc := 13) (tgt := 18) hc dX1_takeBack_13 (by decide) ?_
    refine J_sub (l' := [some ((1, .ref x0) : TV), some ((2, .ref x1) : TV), none]) ⟨rfl, ⟨rfl, trivial⟩⟩ ?_
    exact jX1_takeBack_L18 hc he x0 x1 (v10 - 1)
theorem moX1_takeBack : MOk yX1_takeBack 1 := ⟨by decide +kernel, by decide +kernel, by decide +kernel⟩
set_option maxRecDepth 100000 in
set_option maxHeartbeats 4000000 in
theorem KX1_takeBack (x0 : Nat) (x1 : Nat) : Ct wI yX1_takeBack cX1_takeBack 3 (some .boolean) 1 0 0 22 [((1, .ref x0) : TV), ((2, .ref x1) : TV)] (fX1_takeBack x0 x1) :=
  Ct_Z ⟨rfl, rfl⟩ (j := 1) (by decide +kernel) rfl rfl (Nat.le_of_ble_eq_true rfl) (fun κ fin hc he => jX1_takeBack hc he x0 x1)
set_option maxRecDepth 100000 in
set_option maxHeartbeats 4000000 in
theorem jX1_forget {κ : Cx} {fin : Unit → Mm → Prop} (hc : Jc κ RX1 cX1_forget 1 0 0 0 0) (he : Ed κ cX1_forget 0 0 wV .return_ fin) (x0 : Nat) : Jg κ (wM κ) 1 fin 0 0 0 [some ((1, .ref x0) : TV)] [] (fX1_forget x0) := by
  unfold fX1_forget
  refine J_aload_n (pc := 0) hc dX1_forget_0 rfl rfl ?_
  refine J_iconst (pc := 1) (v := 0) hc dX1_forget_1 (by decide) ?_
  refine J_putI (pc := 2) hc clX1 (k := 0) (Nat.le_of_ble_eq_true rfl) rfl rfl tw91 (Or.inl rfl) rfl dX1_forget_2 ?_
  exact J_vret (pc := 5) he dX1_forget_5
theorem moX1_forget : MOk yX1_forget 0 := ⟨by decide +kernel, by decide +kernel, by decide +kernel⟩
set_option maxRecDepth 100000 in
set_option maxHeartbeats 4000000 in
theorem KX1_forget (x0 : Nat) : Ct wV yX1_forget cX1_forget 1 none 0 0 0 0 [((1, .ref x0) : TV)] (fX1_forget x0) :=
  Ct_V (j := 0) (by decide +kernel) rfl rfl (Nat.le_of_ble_eq_true rfl) (fun κ fin hc he hin => jX1_forget hc he x0)
set_option maxRecDepth 100000 in
set_option maxHeartbeats 4000000 in
theorem jX2_clear_L41 {κ : Cx} {fin : Unit → Mm → Prop} (hc : Jc κ RX2 cX2_clear 2 0 0 0 0) (he : Ed κ cX2_clear 0 0 wV .return_ fin) : ∀ (n : Nat) (x0 : Nat) (x1 : Int32), Jg κ (wM κ) 2 fin 0 0 41 [some ((2, .ref x0) : TV), some ((0, .int x1) : TV)] [] (fX2_clear_L41 n x0 x1) := by
  intro n
  induction n with
  | zero => intro x0 x1; exact J_fail
  | succ n ih =>
    intro x0 x1
    unfold fX2_clear_L41
    refine J_iload_n (pc := 41) hc dX2_clear_41 rfl rfl ?_
    refine J_bipush (pc := 42) (v := 6) hc dX2_clear_42 (by decide) ?_
    refine J_icmp_ge (pc := 44) (tgt := 64) hc dX2_clear_44 (by decide) ?_ ?_
    · exact J_vret (pc := 64) he dX2_clear_64
    · refine J_aload_n (pc := 47) hc dX2_clear_47 rfl rfl ?_
      refine J_getA (pc := 48) hc clX2 (k := 4) (kd := 11) (Nat.le_of_ble_eq_true rfl) rfl (Nat.le_of_ble_eq_true rfl) tw66 (Or.inl rfl) dX2_clear_48 (fun v1 => ?_)
      refine J_iload_n (pc := 51) hc dX2_clear_51 rfl rfl ?_
      refine J_getsN (pc := 52) (j := 0) hc (by decide) (by decide +kernel) dX2_clear_52 ?_
      refine J_iload_n (pc := 55) hc dX2_clear_55 rfl rfl ?_
      refine J_tald (pc := 56) (j := 0) hc (by decide) dX2_clear_56 (fun v2 => ?_)
      refine J_iast (pc := 57) hc dX2_clear_57 ?_
      refine J_iinc (pc := 58) (v := x1 + 1) (l' := [some ((2, .ref x0) : TV), some ((0, .int (x1 + 1)) : TV)]) hc dX2_clear_58 rfl rfl (by decide) rfl rfl ?_
      refine J_goto (pc := 61) (tgt := 41) hc dX2_clear_61 (by decide) ?_
      refine J_sub (l' := [some ((2, .ref x0) : TV), some ((0, .int (x1 + 1)) : TV)]) ⟨rfl, ⟨rfl, trivial⟩⟩ ?_
      exact ih x0 (x1 + 1)
set_option maxRecDepth 100000 in
set_option maxHeartbeats 4000000 in
theorem jX2_clear_L13 {κ : Cx} {fin : Unit → Mm → Prop} (hc : Jc κ RX2 cX2_clear 2 0 0 0 0) (he : Ed κ cX2_clear 0 0 wV .return_ fin) : ∀ (n : Nat) (x0 : Nat) (x1 : Int32), Jg κ (wM κ) 2 fin 0 0 13 [some ((2, .ref x0) : TV), some ((0, .int x1) : TV)] [] (fX2_clear_L13 n x0 x1) := by
  intro n
  induction n with
  | zero => intro x0 x1; exact J_fail
  | succ n ih =>
    intro x0 x1
    unfold fX2_clear_L13
    refine J_iload_n (pc := 13) hc dX2_clear_13 rfl rfl ?_
    refine J_bipush (pc := 14) (v := 20) hc dX2_clear_14 (by decide) ?_
    refine J_icmp_ge (pc := 16) (tgt := 39) hc dX2_clear_16 (by decide) ?_ ?_
    · refine J_iconst (pc := 39) (v := 0) hc dX2_clear_39 (by decide) ?_
      refine J_istore_n (pc := 40) (l' := [some ((2, .ref x0) : TV), some ((0, .int 0) : TV)]) hc dX2_clear_40 rfl (by decide) rfl rfl ?_
      refine J_sub (l' := [some ((2, .ref x0) : TV), some ((0, .int 0) : TV)]) ⟨rfl, ⟨rfl, trivial⟩⟩ ?_
      exact jX2_clear_L41 hc he fu x0 0
    · refine J_aload_n (pc := 19) hc dX2_clear_19 rfl rfl ?_
      refine J_getA (pc := 20) hc clX2 (k := 2) (kd := 12) (Nat.le_of_ble_eq_true rfl) rfl (Nat.le_of_ble_eq_true rfl) tw61 (Or.inl rfl) dX2_clear_20 (fun v3 => ?_)
      refine J_iload_n (pc := 23) hc dX2_clear_23 rfl rfl ?_
      refine J_lconst (pc := 24) (v := 0) hc dX2_clear_24 rfl ?_
      refine J_last (pc := 25) hc dX2_clear_25 ?_
      refine J_aload_n (pc := 26) hc dX2_clear_26 rfl rfl ?_
      refine J_getA (pc := 27) hc clX2 (k := 3) (kd := 11) (Nat.le_of_ble_eq_true rfl) rfl (Nat.le_of_ble_eq_true rfl) tw62 (Or.inl rfl) dX2_clear_27 (fun v4 => ?_)
      refine J_iload_n (pc := 30) hc dX2_clear_30 rfl rfl ?_
      refine J_iconst (pc := 31) (v := 0) hc dX2_clear_31 (by decide) ?_
      refine J_iast (pc := 32) hc dX2_clear_32 ?_
      refine J_iinc (pc := 33) (v := x1 + 1) (l' := [some ((2, .ref x0) : TV), some ((0, .int (x1 + 1)) : TV)]) hc dX2_clear_33 rfl rfl (by decide) rfl rfl ?_
      refine J_goto (pc := 36) (tgt := 13) hc dX2_clear_36 (by decide) ?_
      refine J_sub (l' := [some ((2, .ref x0) : TV), some ((0, .int (x1 + 1)) : TV)]) ⟨rfl, ⟨rfl, trivial⟩⟩ ?_
      exact ih x0 (x1 + 1)
set_option maxRecDepth 100000 in
set_option maxHeartbeats 4000000 in
theorem jX2_clear {κ : Cx} {fin : Unit → Mm → Prop} (hc : Jc κ RX2 cX2_clear 2 0 0 0 0) (he : Ed κ cX2_clear 0 0 wV .return_ fin) (x0 : Nat) : Jg κ (wM κ) 2 fin 0 0 0 [some ((2, .ref x0) : TV), none] [] (fX2_clear x0) := by
  unfold fX2_clear
  refine J_aload_n (pc := 0) hc dX2_clear_0 rfl rfl ?_
  refine J_bipush (pc := 1) (v := 16) hc dX2_clear_1 (by decide) ?_
  refine J_putI (pc := 3) hc clX2 (k := 0) (Nat.le_of_ble_eq_true rfl) rfl rfl tw53 (Or.inl rfl) rfl dX2_clear_3 ?_
  refine J_aload_n (pc := 6) hc dX2_clear_6 rfl rfl ?_
  refine J_iconst (pc := 7) (v := 0) hc dX2_clear_7 (by decide) ?_
  refine J_putI (pc := 8) hc clX2 (k := 1) (Nat.le_of_ble_eq_true rfl) rfl rfl tw57 (Or.inl rfl) rfl dX2_clear_8 ?_
  refine J_iconst (pc := 11) (v := 0) hc dX2_clear_11 (by decide) ?_
  refine J_istore_n (pc := 12) (l' := [some ((2, .ref x0) : TV), some ((0, .int 0) : TV)]) hc dX2_clear_12 rfl (by decide) rfl rfl ?_
  refine J_sub (l' := [some ((2, .ref x0) : TV), some ((0, .int 0) : TV)]) ⟨rfl, ⟨rfl, trivial⟩⟩ ?_
  exact jX2_clear_L13 hc he fu x0 0
theorem moX2_clear : MOk yX2_clear 0 := ⟨by decide +kernel, by decide +kernel, by decide +kernel⟩
set_option maxRecDepth 100000 in
set_option maxHeartbeats 4000000 in
theorem KX2_clear (x0 : Nat) : Ct wV yX2_clear cX2_clear 2 none 0 0 0 0 [((2, .ref x0) : TV)] (fX2_clear x0) :=
  Ct_V (j := 1) (by decide +kernel) rfl rfl (Nat.le_of_ble_eq_true rfl) (fun κ fin hc he hin => jX2_clear hc he x0)
set_option maxRecDepth 100000 in
set_option maxHeartbeats 4000000 in
theorem jX2_hasLine {κ : Cx} {fin : Int32 → Mm → Prop} (hc : Jc κ RX2 cX2_hasLine 2 0 0 0 0) (he : EdZ κ cX2_hasLine 0 0 id fin) (x0 : Nat) (x1 : Int32) : Jg κ (wM κ) 2 fin 0 0 0 [some ((2, .ref x0) : TV), some ((0, .int x1) : TV)] [] (fX2_hasLine x0 x1) := by
  unfold fX2_hasLine
  refine J_iload_n (pc := 0) hc dX2_hasLine_0 rfl rfl ?_
  refine J_if_lt (pc := 1) (tgt := 22) hc dX2_hasLine_1 (by decide) ?_ ?_
  · refine J_iconst (pc := 22) (v := 0) hc dX2_hasLine_22 (by decide) ?_
    exact J_zret (pc := 23) he dX2_hasLine_23
  · refine J_iload_n (pc := 4) hc dX2_hasLine_4 rfl rfl ?_
    refine J_aload_n (pc := 5) hc dX2_hasLine_5 rfl rfl ?_
    refine J_getI (pc := 6) hc clX2 (k := 1) (Nat.le_of_ble_eq_true rfl) rfl tw57 (Or.inl rfl) dX2_hasLine_6 (fun v1 => ?_)
    refine J_icmp_ge (pc := 9) (tgt := 22) hc dX2_hasLine_9 (by decide) ?_ ?_
    · refine J_iconst (pc := 22) (v := 0) hc dX2_hasLine_22 (by decide) ?_
      exact J_zret (pc := 23) he dX2_hasLine_23
    · refine J_iload_n (pc := 12) hc dX2_hasLine_12 rfl rfl ?_
      refine J_bipush (pc := 13) (v := 20) hc dX2_hasLine_13 (by decide) ?_
      refine J_icmp_ge (pc := 15) (tgt := 22) hc dX2_hasLine_15 (by decide) ?_ ?_
      · refine J_iconst (pc := 22) (v := 0) hc dX2_hasLine_22 (by decide) ?_
        exact J_zret (pc := 23) he dX2_hasLine_23
      · refine J_iconst (pc := 18) (v := 1) hc dX2_hasLine_18 (by decide) ?_
        refine J_goto (pc := 19) (tgt := 23) hc dX2_hasLine_19 (by decide) ?_
        exact J_zret (pc := 23) he dX2_hasLine_23
theorem moX2_hasLine : MOk yX2_hasLine 1 := ⟨by decide +kernel, by decide +kernel, by decide +kernel⟩
set_option maxRecDepth 100000 in
set_option maxHeartbeats 4000000 in
theorem KX2_hasLine (x0 : Nat) (x1 : Int32) : Ct wI yX2_hasLine cX2_hasLine 2 (some .boolean) 0 0 0 0 [((2, .ref x0) : TV), ((0, .int x1) : TV)] (fX2_hasLine x0 x1) :=
  Ct_Z ⟨rfl, rfl⟩ (j := 0) (by decide +kernel) rfl rfl (Nat.le_of_ble_eq_true rfl) (fun κ fin hc he => jX2_hasLine hc he x0 x1)
set_option maxRecDepth 100000 in
set_option maxHeartbeats 4000000 in
theorem jX2_rowAt {κ : Cx} {fin : Int64 → Mm → Prop} (hc : Jc κ RX2 cX2_rowAt 2 1 0 0 21) (he : Ed κ cX2_rowAt 0 0 wJ .lreturn fin) (x0 : Nat) (x1 : Int32) : Jg κ (wM κ) 2 fin 0 0 0 [some ((2, .ref x0) : TV), some ((0, .int x1) : TV)] [] (fX2_rowAt x0 x1) := by
  unfold fX2_rowAt
  refine J_aload_n (pc := 0) hc dX2_rowAt_0 rfl rfl ?_
  refine J_iload_n (pc := 1) hc dX2_rowAt_1 rfl rfl ?_
  refine J_callVi (pc := 2) hc clX2 (As := [((0, .int x1) : TV)]) (KX2_hasLine x0 x1) dX2_rowAt_2 moX2_hasLine rfl tw468 tw469 tw470 tw3 tw471 rfl (Nat.le_of_ble_eq_true rfl) (Nat.le_of_ble_eq_true rfl) (Nat.le_of_ble_eq_true rfl) (Nat.le_of_ble_eq_true rfl) (Nat.le_of_ble_eq_true rfl) rfl (fun v1 => ?_)
  refine J_if_eq (pc := 5) (tgt := 17) hc dX2_rowAt_5 (by decide) ?_ ?_
  · refine J_lconst (pc := 17) (v := 0) hc dX2_rowAt_17 rfl ?_
    exact J_lret (pc := 18) he dX2_rowAt_18
  · refine J_aload_n (pc := 8) hc dX2_rowAt_8 rfl rfl ?_
    refine J_getA (pc := 9) hc clX2 (k := 2) (kd := 12) (Nat.le_of_ble_eq_true rfl) rfl (Nat.le_of_ble_eq_true rfl) tw61 (Or.inl rfl) dX2_rowAt_9 (fun v2 => ?_)
    refine J_iload_n (pc := 12) hc dX2_rowAt_12 rfl rfl ?_
    refine J_lald (pc := 13) hc dX2_rowAt_13 (fun v3 => ?_)
    refine J_goto (pc := 14) (tgt := 18) hc dX2_rowAt_14 (by decide) ?_
    exact J_lret (pc := 18) he dX2_rowAt_18
theorem moX2_rowAt : MOk yX2_rowAt 1 := ⟨by decide +kernel, by decide +kernel, by decide +kernel⟩
set_option maxRecDepth 100000 in
set_option maxHeartbeats 4000000 in
theorem KX2_rowAt (x0 : Nat) (x1 : Int32) : Ct wJ yX2_rowAt cX2_rowAt 2 (some .long) 1 0 0 21 [((2, .ref x0) : TV), ((0, .int x1) : TV)] (fX2_rowAt x0 x1) :=
  Ct_J (j := 0) (by decide +kernel) rfl rfl (Nat.le_of_ble_eq_true rfl) (fun κ fin hc he => jX2_rowAt hc he x0 x1)
set_option maxRecDepth 100000 in
set_option maxHeartbeats 4000000 in
theorem jX2_putRow {κ : Cx} {fin : Unit → Mm → Prop} (hc : Jc κ RX2 cX2_putRow 4 1 0 0 21) (he : Ed κ cX2_putRow 0 0 wV .return_ fin) (x0 : Nat) (x1 : Int32) (x2 : Int64) : Jg κ (wM κ) 4 fin 0 0 0 [some ((2, .ref x0) : TV), some ((0, .int x1) : TV), some ((0, .long x2) : TV), none] [] (fX2_putRow x0 x1 x2) := by
  unfold fX2_putRow
  refine J_aload_n (pc := 0) hc dX2_putRow_0 rfl rfl ?_
  refine J_iload_n (pc := 1) hc dX2_putRow_1 rfl rfl ?_
  refine J_callVi (pc := 2) hc clX2 (As := [((0, .int x1) : TV)]) (KX2_hasLine x0 x1) dX2_putRow_2 moX2_hasLine rfl tw468 tw469 tw470 tw3 tw471 rfl (Nat.le_of_ble_eq_true rfl) (Nat.le_of_ble_eq_true rfl) (Nat.le_of_ble_eq_true rfl) (Nat.le_of_ble_eq_true rfl) (Nat.le_of_ble_eq_true rfl) rfl (fun v1 => ?_)
  refine J_if_eq (pc := 5) (tgt := 23) hc dX2_putRow_5 (by decide) ?_ ?_
  · exact J_vret (pc := 23) he dX2_putRow_23
  · refine J_aload_n (pc := 8) hc dX2_putRow_8 rfl rfl ?_
    refine J_getA (pc := 9) hc clX2 (k := 2) (kd := 12) (Nat.le_of_ble_eq_true rfl) rfl (Nat.le_of_ble_eq_true rfl) tw61 (Or.inl rfl) dX2_putRow_9 (fun v2 => ?_)
    refine J_iload_n (pc := 12) hc dX2_putRow_12 rfl rfl ?_
    refine J_lload_n (pc := 13) hc dX2_putRow_13 rfl rfl ?_
    refine J_aload_n (pc := 14) hc dX2_putRow_14 rfl rfl ?_
    refine J_getI (pc := 15) hc clX2 (k := 0) (Nat.le_of_ble_eq_true rfl) rfl tw53 (Or.inl rfl) dX2_putRow_15 (fun v3 => ?_)
    refine J_callSNj (pc := 18) hc (As := [((0, .int v3) : TV)]) (KX7_allBlack v3) dX2_putRow_18 moX7_allBlack (by decide +kernel) tw473 tw2 tw474 rfl (Nat.le_of_ble_eq_true rfl) (Nat.le_of_ble_eq_true rfl) (Nat.le_of_ble_eq_true rfl) (Nat.le_of_ble_eq_true rfl) (Nat.le_of_ble_eq_true rfl) rfl (fun v4 => ?_)
    refine J_land (pc := 21) hc dX2_putRow_21 ?_
    refine J_last (pc := 22) hc dX2_putRow_22 ?_
    exact J_vret (pc := 23) he dX2_putRow_23
theorem moX2_putRow : MOk yX2_putRow 2 := ⟨by decide +kernel, by decide +kernel, by decide +kernel⟩
set_option maxRecDepth 100000 in
set_option maxHeartbeats 4000000 in
theorem KX2_putRow (x0 : Nat) (x1 : Int32) (x2 : Int64) : Ct wV yX2_putRow cX2_putRow 4 none 1 0 0 21 [((2, .ref x0) : TV), ((0, .int x1) : TV), ((0, .long x2) : TV)] (fX2_putRow x0 x1 x2) :=
  Ct_V (j := 0) (by decide +kernel) rfl rfl (Nat.le_of_ble_eq_true rfl) (fun κ fin hc he hin => jX2_putRow hc he x0 x1 x2)
set_option maxRecDepth 100000 in
set_option maxHeartbeats 4000000 in
theorem jX2_insertRow_L49 {κ : Cx} {fin : Unit → Mm → Prop} (hc : Jc κ RX2 cX2_insertRow 5 2 0 0 44) (he : Ed κ cX2_insertRow 0 0 wV .return_ fin) (x0 : Nat) (x1 : Int32) (x2 : Int64) : Jg κ (wM κ) 5 fin 0 0 49 [some ((2, .ref x0) : TV), some ((0, .int x1) : TV), some ((0, .long x2) : TV), none, none] [] (fX2_insertRow_L49 x0 x1 x2) := by
  unfold fX2_insertRow_L49
  refine J_aload_n (pc := 49) hc dX2_insertRow_49 rfl rfl ?_
  refine J_dup (pc := 50) hc dX2_insertRow_50 rfl ?_
  refine J_getI (pc := 51) hc clX2 (k := 1) (Nat.le_of_ble_eq_true rfl) rfl tw57 (Or.inl rfl) dX2_insertRow_51 (fun v1 => ?_)
  refine J_iconst (pc := 54) (v := 1) hc dX2_insertRow_54 (by decide) ?_
  refine J_iadd (pc := 55) hc dX2_insertRow_55 ?_
  refine J_putI (pc := 56) hc clX2 (k := 1) (Nat.le_of_ble_eq_true rfl) rfl rfl tw57 (Or.inl rfl) rfl dX2_insertRow_56 ?_
  refine J_aload_n (pc := 59) hc dX2_insertRow_59 rfl rfl ?_
  refine J_iload_n (pc := 60) hc dX2_insertRow_60 rfl rfl ?_
  refine J_lload_n (pc := 61) hc dX2_insertRow_61 rfl rfl ?_
  refine J_callVv (pc := 62) hc clX2 (As := [((0, .int x1) : TV), ((0, .long x2) : TV)]) (KX2_putRow x0 x1 x2) dX2_insertRow_62 moX2_putRow rfl tw464 tw465 tw466 tw3 tw467 rfl (Nat.le_of_ble_eq_true rfl) (Nat.le_of_ble_eq_true rfl) (Nat.le_of_ble_eq_true rfl) (Nat.le_of_ble_eq_true rfl) (Nat.le_of_ble_eq_true rfl) rfl (fun _ => ?_)
  exact J_vret (pc := 65) he dX2_insertRow_65
set_option maxRecDepth 100000 in
set_option maxHeartbeats 4000000 in
theorem jX2_insertRow_L16 {κ : Cx} {fin : Unit → Mm → Prop} (hc : Jc κ RX2 cX2_insertRow 5 2 0 0 44) (he : Ed κ cX2_insertRow 0 0 wV .return_ fin) : ∀ (n : Nat) (x0 : Nat) (x1 : Int32) (x2 : Int64) (x4 : Int32), Jg κ (wM κ) 5 fin 0 0 16 [some ((2, .ref x0) : TV), some ((0, .int x1) : TV), some ((0, .long x2) : TV), none, some ((0, .int x4) : TV)] [] (fX2_insertRow_L16 n x0 x1 x2 x4) := by
  intro n
  induction n with
  | zero => intro x0 x1 x2 x4; exact J_fail
  | succ n ih =>
    intro x0 x1 x2 x4
    unfold fX2_insertRow_L16
    refine J_iload (pc := 16) hc dX2_insertRow_16 rfl ?_
    refine J_iload_n (pc := 18) hc dX2_insertRow_18 rfl rfl ?_
    refine J_icmp_le (pc := 19) (tgt := 49) hc dX2_insertRow_19 (by decide) ?_ ?_
    · refine J_sub (l' := [some ((2, .ref x0) : TV), some ((0, .int x1) : TV), some ((0, .long x2) : TV), none, none]) ⟨rfl, ⟨rfl, ⟨rfl, trivial⟩⟩⟩ ?_
      exact jX2_insertRow_L49 hc he x0 x1 x2
    · refine J_iload (pc := 22) hc dX2_insertRow_22 rfl ?_
      refine J_if_le (pc := 24) (tgt := 49) hc dX2_insertRow_24 (by decide) ?_ ?_
      · refine J_sub (l' := [some ((2, .ref x0) : TV), some ((0, .int x1) : TV), some ((0, .long x2) : TV), none, none]) ⟨rfl, ⟨rfl, ⟨rfl, trivial⟩⟩⟩ ?_
        exact jX2_insertRow_L49 hc he x0 x1 x2
      · refine J_aload_n (pc := 27) hc dX2_insertRow_27 rfl rfl ?_
        refine J_getA (pc := 28) hc clX2 (k := 2) (kd := 12) (Nat.le_of_ble_eq_true rfl) rfl (Nat.le_of_ble_eq_true rfl) tw61 (Or.inl rfl) dX2_insertRow_28 (fun v2 => ?_)
        refine J_iload (pc := 31) hc dX2_insertRow_31 rfl ?_
        refine J_aload_n (pc := 33) hc dX2_insertRow_33 rfl rfl ?_
        refine J_getA (pc := 34) hc clX2 (k := 2) (kd := 12) (Nat.le_of_ble_eq_true rfl) rfl (Nat.le_of_ble_eq_true rfl) tw61 (Or.inl rfl) dX2_insertRow_34 (fun v3 => ?_)
        refine J_iload (pc := 37) hc dX2_insertRow_37 rfl ?_
        refine J_iconst (pc := 39) (v := 1) hc dX2_insertRow_39 (by decide) ?_
        refine J_isub (pc := 40) hc dX2_insertRow_40 ?_
        refine J_lald (pc := 41) hc dX2_insertRow_41 (fun v4 => ?_)
        refine J_last (pc := 42) hc dX2_insertRow_42 ?_
        refine J_iinc (pc := 43) (v := x4 + (-1)) (l' := [some ((2, .ref x0) : TV), some ((0, .int x1) : TV), some ((0, .long x2) : TV), none, some ((0, .int (x4 + (-1))) : TV)]) hc dX2_insertRow_43 rfl rfl (by decide) rfl rfl ?_
        refine J_goto (pc := 46) (tgt := 16) hc dX2_insertRow_46 (by decide) ?_
        refine J_sub (l' := [some ((2, .ref x0) : TV), some ((0, .int x1) : TV), some ((0, .long x2) : TV), none, some ((0, .int (x4 + (-1))) : TV)]) ⟨rfl, ⟨rfl, ⟨rfl, ⟨rfl, trivial⟩⟩⟩⟩ ?_
        exact ih x0 x1 x2 (x4 + (-1))
set_option maxRecDepth 100000 in
set_option maxHeartbeats 4000000 in
theorem jX2_insertRow {κ : Cx} {fin : Unit → Mm → Prop} (hc : Jc κ RX2 cX2_insertRow 5 2 0 0 44) (he : Ed κ cX2_insertRow 0 0 wV .return_ fin) (x0 : Nat) (x1 : Int32) (x2 : Int64) : Jg κ (wM κ) 5 fin 0 0 0 [some ((2, .ref x0) : TV), some ((0, .int x1) : TV), some ((0, .long x2) : TV), none, none] [] (fX2_insertRow x0 x1 x2) := by
  unfold fX2_insertRow
  refine J_aload_n (pc := 0) hc dX2_insertRow_0 rfl rfl ?_
  refine J_getI (pc := 1) hc clX2 (k := 1) (Nat.le_of_ble_eq_true rfl) rfl tw57 (Or.inl rfl) dX2_insertRow_1 (fun v5 => ?_)
  refine J_bipush (pc := 4) (v := 20) hc dX2_insertRow_4 (by decide) ?_
  refine J_icmp_lt (pc := 6) (tgt := 10) hc dX2_insertRow_6 (by decide) ?_ ?_
  · refine J_aload_n (pc := 10) hc dX2_insertRow_10 rfl rfl ?_
    refine J_getI (pc := 11) hc clX2 (k := 1) (Nat.le_of_ble_eq_true rfl) rfl tw57 (Or.inl rfl) dX2_insertRow_11 (fun v6 => ?_)
    refine J_istore (pc := 14) (l' := [some ((2, .ref x0) : TV), some ((0, .int x1) : TV), some ((0, .long x2) : TV), none, some ((0, .int v6) : TV)]) hc dX2_insertRow_14 (by decide) rfl rfl ?_
    refine J_sub (l' := [some ((2, .ref x0) : TV), some ((0, .int x1) : TV), some ((0, .long x2) : TV), none, some ((0, .int v6) : TV)]) ⟨rfl, ⟨rfl, ⟨rfl, ⟨rfl, trivial⟩⟩⟩⟩ ?_
    exact jX2_insertRow_L16 hc he fu x0 x1 x2 v6
  · exact J_vret (pc := 9) he dX2_insertRow_9
theorem moX2_insertRow : MOk yX2_insertRow 2 := ⟨by decide +kernel, by decide +kernel, by decide +kernel⟩
set_option maxRecDepth 100000 in
set_option maxHeartbeats 4000000 in
theorem KX2_insertRow (x0 : Nat) (x1 : Int32) (x2 : Int64) : Ct wV yX2_insertRow cX2_insertRow 5 none 2 0 0 44 [((2, .ref x0) : TV), ((0, .int x1) : TV), ((0, .long x2) : TV)] (fX2_insertRow x0 x1 x2) :=
  Ct_V (j := 1) (by decide +kernel) rfl rfl (Nat.le_of_ble_eq_true rfl) (fun κ fin hc he hin => jX2_insertRow hc he x0 x1 x2)
set_option maxRecDepth 100000 in
set_option maxHeartbeats 4000000 in
theorem jX2_deleteRow_L21 {κ : Cx} {fin : Unit → Mm → Prop} (hc : Jc κ RX2 cX2_deleteRow 3 1 0 0 21) (he : Ed κ cX2_deleteRow 0 0 wV .return_ fin) : ∀ (n : Nat) (x0 : Nat) (x2 : Int32), Jg κ (wM κ) 3 fin 0 0 21 [some ((2, .ref x0) : TV), none, some ((0, .int x2) : TV)] [] (fX2_deleteRow_L21 n x0 x2) := by
  intro n
  induction n with
  | zero => intro x0 x2; exact J_fail
  | succ n ih =>
    intro x0 x2
    unfold fX2_deleteRow_L21
    refine J_iload_n (pc := 21) hc dX2_deleteRow_21 rfl rfl ?_
    refine J_aload_n (pc := 22) hc dX2_deleteRow_22 rfl rfl ?_
    refine J_getI (pc := 23) hc clX2 (k := 1) (Nat.le_of_ble_eq_true rfl) rfl tw57 (Or.inl rfl) dX2_deleteRow_23 (fun v1 => ?_)
    refine J_icmp_ge (pc := 26) (tgt := 49) hc dX2_deleteRow_26 (by decide) ?_ ?_
    · exact J_vret (pc := 49) he dX2_deleteRow_49
    · refine J_aload_n (pc := 29) hc dX2_deleteRow_29 rfl rfl ?_
      refine J_getA (pc := 30) hc clX2 (k := 2) (kd := 12) (Nat.le_of_ble_eq_true rfl) rfl (Nat.le_of_ble_eq_true rfl) tw61 (Or.inl rfl) dX2_deleteRow_30 (fun v2 => ?_)
      refine J_iload_n (pc := 33) hc dX2_deleteRow_33 rfl rfl ?_
      refine J_aload_n (pc := 34) hc dX2_deleteRow_34 rfl rfl ?_
      refine J_getA (pc := 35) hc clX2 (k := 2) (kd := 12) (Nat.le_of_ble_eq_true rfl) rfl (Nat.le_of_ble_eq_true rfl) tw61 (Or.inl rfl) dX2_deleteRow_35 (fun v3 => ?_)
      refine J_iload_n (pc := 38) hc dX2_deleteRow_38 rfl rfl ?_
      refine J_iconst (pc := 39) (v := 1) hc dX2_deleteRow_39 (by decide) ?_
      refine J_iadd (pc := 40) hc dX2_deleteRow_40 ?_
      refine J_lald (pc := 41) hc dX2_deleteRow_41 (fun v4 => ?_)
      refine J_last (pc := 42) hc dX2_deleteRow_42 ?_
      refine J_iinc (pc := 43) (v := x2 + 1) (l' := [some ((2, .ref x0) : TV), none, some ((0, .int (x2 + 1)) : TV)]) hc dX2_deleteRow_43 rfl rfl (by decide) rfl rfl ?_
      refine J_goto (pc := 46) (tgt := 21) hc dX2_deleteRow_46 (by decide) ?_
      refine J_sub (l' := [some ((2, .ref x0) : TV), none, some ((0, .int (x2 + 1)) : TV)]) ⟨rfl, ⟨rfl, trivial⟩⟩ ?_
      exact ih x0 (x2 + 1)
set_option maxRecDepth 100000 in
set_option maxHeartbeats 4000000 in
theorem jX2_deleteRow {κ : Cx} {fin : Unit → Mm → Prop} (hc : Jc κ RX2 cX2_deleteRow 3 1 0 0 21) (he : Ed κ cX2_deleteRow 0 0 wV .return_ fin) (x0 : Nat) (x1 : Int32) : Jg κ (wM κ) 3 fin 0 0 0 [some ((2, .ref x0) : TV), some ((0, .int x1) : TV), none] [] (fX2_deleteRow x0 x1) := by
  unfold fX2_deleteRow
  refine J_aload_n (pc := 0) hc dX2_deleteRow_0 rfl rfl ?_
  refine J_iload_n (pc := 1) hc dX2_deleteRow_1 rfl rfl ?_
  refine J_callVi (pc := 2) hc clX2 (As := [((0, .int x1) : TV)]) (KX2_hasLine x0 x1) dX2_deleteRow_2 moX2_hasLine rfl tw468 tw469 tw470 tw3 tw471 rfl (Nat.le_of_ble_eq_true rfl) (Nat.le_of_ble_eq_true rfl) (Nat.le_of_ble_eq_true rfl) (Nat.le_of_ble_eq_true rfl) (Nat.le_of_ble_eq_true rfl) rfl (fun v5 => ?_)
  refine J_if_ne (pc := 5) (tgt := 9) hc dX2_deleteRow_5 (by decide) ?_ ?_
  · refine J_aload_n (pc := 9) hc dX2_deleteRow_9 rfl rfl ?_
    refine J_dup (pc := 10) hc dX2_deleteRow_10 rfl ?_
    refine J_getI (pc := 11) hc clX2 (k := 1) (Nat.le_of_ble_eq_true rfl) rfl tw57 (Or.inl rfl) dX2_deleteRow_11 (fun v6 => ?_)
    refine J_iconst (pc := 14) (v := 1) hc dX2_deleteRow_14 (by decide) ?_
    refine J_isub (pc := 15) hc dX2_deleteRow_15 ?_
    refine J_putI (pc := 16) hc clX2 (k := 1) (Nat.le_of_ble_eq_true rfl) rfl rfl tw57 (Or.inl rfl) rfl dX2_deleteRow_16 ?_
    refine J_iload_n (pc := 19) hc dX2_deleteRow_19 rfl rfl ?_
    refine J_istore_n (pc := 20) (l' := [some ((2, .ref x0) : TV), some ((0, .int x1) : TV), some ((0, .int x1) : TV)]) hc dX2_deleteRow_20 rfl (by decide) rfl rfl ?_
    refine J_sub (l' := [some ((2, .ref x0) : TV), none, some ((0, .int x1) : TV)]) ⟨rfl, ⟨rfl, trivial⟩⟩ ?_
    exact jX2_deleteRow_L21 hc he fu x0 x1
  · exact J_vret (pc := 8) he dX2_deleteRow_8
theorem moX2_deleteRow : MOk yX2_deleteRow 1 := ⟨by decide +kernel, by decide +kernel, by decide +kernel⟩
set_option maxRecDepth 100000 in
set_option maxHeartbeats 4000000 in
theorem KX2_deleteRow (x0 : Nat) (x1 : Int32) : Ct wV yX2_deleteRow cX2_deleteRow 3 none 1 0 0 21 [((2, .ref x0) : TV), ((0, .int x1) : TV)] (fX2_deleteRow x0 x1) :=
  Ct_V (j := 1) (by decide +kernel) rfl rfl (Nat.le_of_ble_eq_true rfl) (fun κ fin hc he hin => jX2_deleteRow hc he x0 x1)
set_option maxRecDepth 100000 in
set_option maxHeartbeats 4000000 in
theorem jX6_init {κ : Cx} {fin : Unit → Mm → Prop} (hc : Jc κ RX6 cX6_init 1 1 1 900 20) (he : Ed κ cX6_init 1 900 wV .return_ fin) (hin : Mh κ = "<init>") (x0 : Nat) : Jg κ (wM κ) 1 fin 0 0 0 [some ((6, .ref x0) : TV)] [] (fX6_init x0) := by
  unfold fX6_init
  refine J_aload_n (pc := 0) hc dX6_init_0 rfl rfl ?_
  refine J_objInit (pc := 1) hc tw113 tw43 tw44 (Nat.le_of_ble_eq_true rfl) (Nat.le_of_ble_eq_true rfl) (Nat.le_of_ble_eq_true rfl) dX6_init_1 ?_
  refine J_aload_n (pc := 4) hc dX6_init_4 rfl rfl ?_
  refine J_iconst (pc := 5) (v := 0) hc dX6_init_5 (by decide) ?_
  refine J_putI (pc := 6) hc clX6 (k := 0) (Nat.le_of_ble_eq_true rfl) rfl rfl tw114 (Or.inl rfl) rfl dX6_init_6 ?_
  refine J_aload_n (pc := 9) hc dX6_init_9 rfl rfl ?_
  refine J_sipush (pc := 10) (v := 900) hc dX6_init_10 (by decide) ?_
  refine J_newa10 (pc := 13) (N9 := 900) hc tw134 (by decide) (by decide) (Nat.le_of_ble_eq_true rfl) (Nat.le_of_ble_eq_true rfl) (Nat.le_of_ble_eq_true rfl) dX6_init_13 (fun h1 => ?_)
  refine J_putA (pc := 15) hc hin clX6 (k := 4) (kd := 10) (Nat.le_of_ble_eq_true rfl) rfl (Nat.le_of_ble_eq_true rfl) (fun _ => rfl) (fun _ => rfl) tw122 rfl rfl rfl dX6_init_15 ?_
  exact J_vret (pc := 18) he dX6_init_18
theorem moX6_init : MOk yX6_init 0 := ⟨by decide +kernel, by decide +kernel, by decide +kernel⟩
set_option maxRecDepth 100000 in
set_option maxHeartbeats 4000000 in
theorem KX6_init (x0 : Nat) : Ct wV yX6_init cX6_init 1 none 1 1 900 20 [((6, .ref x0) : TV)] (fX6_init x0) :=
  Ct_V (j := 0) (by decide +kernel) rfl rfl (Nat.le_of_ble_eq_true rfl) (fun κ fin hc he hin => jX6_init hc he hin x0)
set_option maxRecDepth 100000 in
set_option maxHeartbeats 4000000 in
theorem jX6_byteAt {κ : Cx} {fin : Int32 → Mm → Prop} (hc : Jc κ RX6 cX6_byteAt 2 0 0 0 0) (he : Ed κ cX6_byteAt 0 0 wI .ireturn fin) (x0 : Nat) (x1 : Int32) : Jg κ (wM κ) 2 fin 0 0 0 [some ((6, .ref x0) : TV), some ((0, .int x1) : TV)] [] (fX6_byteAt x0 x1) := by
  unfold fX6_byteAt
  refine J_iload_n (pc := 0) hc dX6_byteAt_0 rfl rfl ?_
  refine J_if_lt (pc := 1) (tgt := 32) hc dX6_byteAt_1 (by decide) ?_ ?_
  · refine J_iconst (pc := 32) (v := (-1)) hc dX6_byteAt_32 (by decide) ?_
    exact J_iret (pc := 33) he dX6_byteAt_33
  · refine J_iload_n (pc := 4) hc dX6_byteAt_4 rfl rfl ?_
    refine J_aload_n (pc := 5) hc dX6_byteAt_5 rfl rfl ?_
    refine J_getI (pc := 6) hc clX6 (k := 0) (Nat.le_of_ble_eq_true rfl) rfl tw114 (Or.inl rfl) dX6_byteAt_6 (fun v1 => ?_)
    refine J_icmp_ge (pc := 9) (tgt := 32) hc dX6_byteAt_9 (by decide) ?_ ?_
    · refine J_iconst (pc := 32) (v := (-1)) hc dX6_byteAt_32 (by decide) ?_
      exact J_iret (pc := 33) he dX6_byteAt_33
    · refine J_iload_n (pc := 12) hc dX6_byteAt_12 rfl rfl ?_
      refine J_sipush (pc := 13) (v := 900) hc dX6_byteAt_13 (by decide) ?_
      refine J_icmp_ge (pc := 16) (tgt := 32) hc dX6_byteAt_16 (by decide) ?_ ?_
      · refine J_iconst (pc := 32) (v := (-1)) hc dX6_byteAt_32 (by decide) ?_
        exact J_iret (pc := 33) he dX6_byteAt_33
      · refine J_aload_n (pc := 19) hc dX6_byteAt_19 rfl rfl ?_
        refine J_getA (pc := 20) hc clX6 (k := 4) (kd := 10) (Nat.le_of_ble_eq_true rfl) rfl (Nat.le_of_ble_eq_true rfl) tw122 (Or.inl rfl) dX6_byteAt_20 (fun v2 => ?_)
        refine J_iload_n (pc := 23) hc dX6_byteAt_23 rfl rfl ?_
        refine J_bald (pc := 24) hc dX6_byteAt_24 (fun v3 => ?_)
        refine J_sipush (pc := 25) (v := 255) hc dX6_byteAt_25 (by decide) ?_
        refine J_iand (pc := 28) hc dX6_byteAt_28 ?_
        refine J_goto (pc := 29) (tgt := 33) hc dX6_byteAt_29 (by decide) ?_
        exact J_iret (pc := 33) he dX6_byteAt_33
theorem moX6_byteAt : MOk yX6_byteAt 1 := ⟨by decide +kernel, by decide +kernel, by decide +kernel⟩
set_option maxRecDepth 100000 in
set_option maxHeartbeats 4000000 in
theorem KX6_byteAt (x0 : Nat) (x1 : Int32) : Ct wI yX6_byteAt cX6_byteAt 2 (some .int) 0 0 0 0 [((6, .ref x0) : TV), ((0, .int x1) : TV)] (fX6_byteAt x0 x1) :=
  Ct_I (j := 0) (by decide +kernel) rfl rfl (Nat.le_of_ble_eq_true rfl) (fun κ fin hc he => jX6_byteAt hc he x0 x1)
set_option maxRecDepth 100000 in
set_option maxHeartbeats 4000000 in
theorem jX6_isSpace_L12 {κ : Cx} {fin : Int32 → Mm → Prop} (hc : Jc κ RX6 cX6_isSpace 1 0 0 0 0) (he : EdZ κ cX6_isSpace 0 0 id fin) : Jg κ (wM κ) 1 fin 0 0 12 [none] [] (fX6_isSpace_L12) := by
  unfold fX6_isSpace_L12
  refine J_iconst (pc := 12) (v := 1) hc dX6_isSpace_12 (by decide) ?_
  refine J_goto (pc := 13) (tgt := 17) hc dX6_isSpace_13 (by decide) ?_
  exact J_zret (pc := 17) he dX6_isSpace_17
set_option maxRecDepth 100000 in
set_option maxHeartbeats 4000000 in
theorem jX6_isSpace {κ : Cx} {fin : Int32 → Mm → Prop} (hc : Jc κ RX6 cX6_isSpace 1 0 0 0 0) (he : EdZ κ cX6_isSpace 0 0 id fin) (x0 : Int32) : Jg κ (wM κ) 1 fin 0 0 0 [some ((0, .int x0) : TV)] [] (fX6_isSpace x0) := by
  unfold fX6_isSpace
  refine J_iload_n (pc := 0) hc dX6_isSpace_0 rfl rfl ?_
  refine J_bipush (pc := 1) (v := 32) hc dX6_isSpace_1 (by decide) ?_
  refine J_icmp_eq (pc := 3) (tgt := 12) hc dX6_isSpace_3 (by decide) ?_ ?_
  · refine J_sub (l' := [none]) (show subL _ _ from trivial) ?_
    exact jX6_isSpace_L12 hc he 
  · refine J_iload_n (pc := 6) hc dX6_isSpace_6 rfl rfl ?_
    refine J_bipush (pc := 7) (v := 10) hc dX6_isSpace_7 (by decide) ?_
    refine J_icmp_ne (pc := 9) (tgt := 16) hc dX6_isSpace_9 (by decide) ?_ ?_
    · refine J_iconst (pc := 16) (v := 0) hc dX6_isSpace_16 (by decide) ?_
      exact J_zret (pc := 17) he dX6_isSpace_17
    · refine J_sub (l' := [none]) (show subL _ _ from trivial) ?_
      exact jX6_isSpace_L12 hc he 
theorem moX6_isSpace : MOk yX6_isSpace 1 := ⟨by decide +kernel, by decide +kernel, by decide +kernel⟩
set_option maxRecDepth 100000 in
set_option maxHeartbeats 4000000 in
theorem KX6_isSpace (x0 : Int32) : Ct wI yX6_isSpace cX6_isSpace 1 (some .boolean) 0 0 0 0 [((0, .int x0) : TV)] (fX6_isSpace x0) :=
  Ct_Z ⟨rfl, rfl⟩ (j := 0) (by decide +kernel) rfl rfl (Nat.le_of_ble_eq_true rfl) (fun κ fin hc he => jX6_isSpace hc he x0)
set_option maxRecDepth 100000 in
set_option maxHeartbeats 4000000 in
theorem jX6_kindOf_L35 {κ : Cx} {fin : Int32 → Mm → Prop} (hc : Jc κ RX6 cX6_kindOf 1 0 0 0 0) (he : Ed κ cX6_kindOf 0 0 wI .ireturn fin) (x0 : Int32) : Jg κ (wM κ) 1 fin 0 0 35 [some ((0, .int x0) : TV)] [] (fX6_kindOf_L35 x0) := by
  unfold fX6_kindOf_L35
  refine J_iload_n (pc := 35) hc dX6_kindOf_35 rfl rfl ?_
  refine J_bipush (pc := 36) (v := 46) hc dX6_kindOf_36 (by decide) ?_
  refine J_icmp_eq (pc := 38) (tgt := 47) hc dX6_kindOf_38 (by decide) ?_ ?_
  · refine J_iconst (pc := 47) (v := 3) hc dX6_kindOf_47 (by decide) ?_
    exact J_iret (pc := 48) he dX6_kindOf_48
  · refine J_iload_n (pc := 41) hc dX6_kindOf_41 rfl rfl ?_
    refine J_bipush (pc := 42) (v := 35) hc dX6_kindOf_42 (by decide) ?_
    refine J_icmp_ne (pc := 44) (tgt := 49) hc dX6_kindOf_44 (by decide) ?_ ?_
    · refine J_iload_n (pc := 49) hc dX6_kindOf_49 rfl rfl ?_
      refine J_bipush (pc := 50) (v := 45) hc dX6_kindOf_50 (by decide) ?_
      refine J_icmp_ne (pc := 52) (tgt := 59) hc dX6_kindOf_52 (by decide) ?_ ?_
      · refine J_iload_n (pc := 59) hc dX6_kindOf_59 rfl rfl ?_
        refine J_bipush (pc := 60) (v := 59) hc dX6_kindOf_60 (by decide) ?_
        refine J_icmp_ne (pc := 62) (tgt := 69) hc dX6_kindOf_62 (by decide) ?_ ?_
        · refine J_bipush (pc := 69) (v := 6) hc dX6_kindOf_69 (by decide) ?_
          exact J_iret (pc := 71) he dX6_kindOf_71
        · refine J_iconst (pc := 65) (v := 5) hc dX6_kindOf_65 (by decide) ?_
          refine J_goto (pc := 66) (tgt := 71) hc dX6_kindOf_66 (by decide) ?_
          exact J_iret (pc := 71) he dX6_kindOf_71
      · refine J_iconst (pc := 55) (v := 4) hc dX6_kindOf_55 (by decide) ?_
        refine J_goto (pc := 56) (tgt := 71) hc dX6_kindOf_56 (by decide) ?_
        exact J_iret (pc := 71) he dX6_kindOf_71
    · refine J_iconst (pc := 47) (v := 3) hc dX6_kindOf_47 (by decide) ?_
      exact J_iret (pc := 48) he dX6_kindOf_48
set_option maxRecDepth 100000 in
set_option maxHeartbeats 4000000 in
theorem jX6_kindOf_L21 {κ : Cx} {fin : Int32 → Mm → Prop} (hc : Jc κ RX6 cX6_kindOf 1 0 0 0 0) (he : Ed κ cX6_kindOf 0 0 wI .ireturn fin) (x0 : Int32) : Jg κ (wM κ) 1 fin 0 0 21 [some ((0, .int x0) : TV)] [] (fX6_kindOf_L21 x0) := by
  unfold fX6_kindOf_L21
  refine J_iload_n (pc := 21) hc dX6_kindOf_21 rfl rfl ?_
  refine J_bipush (pc := 22) (v := 48) hc dX6_kindOf_22 (by decide) ?_
  refine J_icmp_lt (pc := 24) (tgt := 35) hc dX6_kindOf_24 (by decide) ?_ ?_
  · refine J_sub (l' := [some ((0, .int x0) : TV)]) ⟨rfl, trivial⟩ ?_
    exact jX6_kindOf_L35 hc he x0
  · refine J_iload_n (pc := 27) hc dX6_kindOf_27 rfl rfl ?_
    refine J_bipush (pc := 28) (v := 57) hc dX6_kindOf_28 (by decide) ?_
    refine J_icmp_gt (pc := 30) (tgt := 35) hc dX6_kindOf_30 (by decide) ?_ ?_
    · refine J_sub (l' := [some ((0, .int x0) : TV)]) ⟨rfl, trivial⟩ ?_
      exact jX6_kindOf_L35 hc he x0
    · refine J_iconst (pc := 33) (v := 2) hc dX6_kindOf_33 (by decide) ?_
      exact J_iret (pc := 34) he dX6_kindOf_34
set_option maxRecDepth 100000 in
set_option maxHeartbeats 4000000 in
theorem jX6_kindOf {κ : Cx} {fin : Int32 → Mm → Prop} (hc : Jc κ RX6 cX6_kindOf 1 0 0 0 0) (he : Ed κ cX6_kindOf 0 0 wI .ireturn fin) (x0 : Int32) : Jg κ (wM κ) 1 fin 0 0 0 [some ((0, .int x0) : TV)] [] (fX6_kindOf x0) := by
  unfold fX6_kindOf
  refine J_iload_n (pc := 0) hc dX6_kindOf_0 rfl rfl ?_
  refine J_iconst (pc := 1) (v := (-1)) hc dX6_kindOf_1 (by decide) ?_
  refine J_icmp_ne (pc := 2) (tgt := 7) hc dX6_kindOf_2 (by decide) ?_ ?_
  · refine J_iload_n (pc := 7) hc dX6_kindOf_7 rfl rfl ?_
    refine J_bipush (pc := 8) (v := 97) hc dX6_kindOf_8 (by decide) ?_
    refine J_icmp_lt (pc := 10) (tgt := 21) hc dX6_kindOf_10 (by decide) ?_ ?_
    · refine J_sub (l' := [some ((0, .int x0) : TV)]) ⟨rfl, trivial⟩ ?_
      exact jX6_kindOf_L21 hc he x0
    · refine J_iload_n (pc := 13) hc dX6_kindOf_13 rfl rfl ?_
      refine J_bipush (pc := 14) (v := 122) hc dX6_kindOf_14 (by decide) ?_
      refine J_icmp_gt (pc := 16) (tgt := 21) hc dX6_kindOf_16 (by decide) ?_ ?_
      · refine J_sub (l' := [some ((0, .int x0) : TV)]) ⟨rfl, trivial⟩ ?_
        exact jX6_kindOf_L21 hc he x0
      · refine J_iconst (pc := 19) (v := 1) hc dX6_kindOf_19 (by decide) ?_
        exact J_iret (pc := 20) he dX6_kindOf_20
  · refine J_iconst (pc := 5) (v := 0) hc dX6_kindOf_5 (by decide) ?_
    exact J_iret (pc := 6) he dX6_kindOf_6
theorem moX6_kindOf : MOk yX6_kindOf 1 := ⟨by decide +kernel, by decide +kernel, by decide +kernel⟩
set_option maxRecDepth 100000 in
set_option maxHeartbeats 4000000 in
theorem KX6_kindOf (x0 : Int32) : Ct wI yX6_kindOf cX6_kindOf 1 (some .int) 0 0 0 0 [((0, .int x0) : TV)] (fX6_kindOf x0) :=
  Ct_I (j := 0) (by decide +kernel) rfl rfl (Nat.le_of_ble_eq_true rfl) (fun κ fin hc he => jX6_kindOf hc he x0)
set_option maxRecDepth 100000 in
set_option maxHeartbeats 4000000 in
theorem jX6_next_L109 {κ : Cx} {fin : Unit → Mm → Prop} (hc : Jc κ RX6 cX6_next 1 1 0 0 21) (he : Ed κ cX6_next 0 0 wV .return_ fin) : ∀ (n : Nat) (x0 : Nat), Jg κ (wM κ) 1 fin 0 0 109 [some ((6, .ref x0) : TV)] [] (fX6_next_L109 n x0) := by
  intro n
  induction n with
  | zero => intro x0; exact J_fail
  | succ n ih =>
    intro x0
    unfold fX6_next_L109
    refine J_aload_n (pc := 109) hc dX6_next_109 rfl rfl ?_
    refine J_getI (pc := 110) hc clX6 (k := 3) (Nat.le_of_ble_eq_true rfl) rfl tw121 (Or.inl rfl) dX6_next_110 (fun v1 => ?_)
    refine J_aload_n (pc := 113) hc dX6_next_113 rfl rfl ?_
    refine J_getI (pc := 114) hc clX6 (k := 0) (Nat.le_of_ble_eq_true rfl) rfl tw114 (Or.inl rfl) dX6_next_114 (fun v2 => ?_)
    refine J_icmp_ge (pc := 117) (tgt := 151) hc dX6_next_117 (by decide) ?_ ?_
    · exact J_vret (pc := 151) he dX6_next_151
    · refine J_aload_n (pc := 120) hc dX6_next_120 rfl rfl ?_
      refine J_aload_n (pc := 121) hc dX6_next_121 rfl rfl ?_
      refine J_getI (pc := 122) hc clX6 (k := 3) (Nat.le_of_ble_eq_true rfl) rfl tw121 (Or.inl rfl) dX6_next_122 (fun v3 => ?_)
      refine J_callVi (pc := 125) hc clX6 (As := [((0, .int v3) : TV)]) (KX6_byteAt x0 v3) dX6_next_125 moX6_byteAt rfl tw340 tw342 twp0 tw6 tw343 rfl (Nat.le_of_ble_eq_true rfl) (Nat.le_of_ble_eq_true rfl) (Nat.le_of_ble_eq_true rfl) (Nat.le_of_ble_eq_true rfl) (Nat.le_of_ble_eq_true rfl) rfl (fun v4 => ?_)
      refine J_callSi (pc := 128) hc (As := [((0, .int v4) : TV)]) (KX6_kindOf v4) dX6_next_128 moX6_kindOf tw347 tw348 tw6 tw349 rfl (Nat.le_of_ble_eq_true rfl) (Nat.le_of_ble_eq_true rfl) (Nat.le_of_ble_eq_true rfl) (Nat.le_of_ble_eq_true rfl) (Nat.le_of_ble_eq_true rfl) rfl (fun v5 => ?_)
      refine J_aload_n (pc := 131) hc dX6_next_131 rfl rfl ?_
      refine J_getI (pc := 132) hc clX6 (k := 1) (Nat.le_of_ble_eq_true rfl) rfl tw118 (Or.inl rfl) dX6_next_132 (fun v6 => ?_)
      refine J_icmp_ne (pc := 135) (tgt := 151) hc dX6_next_135 (by decide) ?_ ?_
      · exact J_vret (pc := 151) he dX6_next_151
      · refine J_aload_n (pc := 138) hc dX6_next_138 rfl rfl ?_
        refine J_dup (pc := 139) hc dX6_next_139 rfl ?_
        refine J_getI (pc := 140) hc clX6 (k := 3) (Nat.le_of_ble_eq_true rfl) rfl tw121 (Or.inl rfl) dX6_next_140 (fun v7 => ?_)
        refine J_iconst (pc := 143) (v := 1) hc dX6_next_143 (by decide) ?_
        refine J_iadd (pc := 144) hc dX6_next_144 ?_
        refine J_putI (pc := 145) hc clX6 (k := 3) (Nat.le_of_ble_eq_true rfl) rfl rfl tw121 (Or.inl rfl) rfl dX6_next_145 ?_
        refine J_goto (pc := 148) (tgt := 109) hc dX6_next_148 (by decide) ?_
        refine J_sub (l' := [some ((6, .ref x0) : TV)]) ⟨rfl, trivial⟩ ?_
        exact ih x0
set_option maxRecDepth 100000 in
set_option maxHeartbeats 4000000 in
theorem jX6_next_L82 {κ : Cx} {fin : Unit → Mm → Prop} (hc : Jc κ RX6 cX6_next 1 1 0 0 21) (he : Ed κ cX6_next 0 0 wV .return_ fin) (x0 : Nat) (s0 : Int32) (s1 : Nat) : Jg κ (wM κ) 1 fin 0 0 82 [some ((6, .ref x0) : TV)] [((0, .int s0) : TV), ((6, .ref s1) : TV)] (fX6_next_L82 x0 s0 s1) := by
  unfold fX6_next_L82
  refine J_putI (pc := 82) hc clX6 (k := 3) (Nat.le_of_ble_eq_true rfl) rfl rfl tw121 (Or.inl rfl) rfl dX6_next_82 ?_
  refine J_aload_n (pc := 85) hc dX6_next_85 rfl rfl ?_
  refine J_getI (pc := 86) hc clX6 (k := 1) (Nat.le_of_ble_eq_true rfl) rfl tw118 (Or.inl rfl) dX6_next_86 (fun v8 => ?_)
  refine J_iconst (pc := 89) (v := 1) hc dX6_next_89 (by decide) ?_
  refine J_icmp_eq (pc := 90) (tgt := 109) hc dX6_next_90 (by decide) ?_ ?_
  · refine J_sub (l' := [some ((6, .ref x0) : TV)]) ⟨rfl, trivial⟩ ?_
    exact jX6_next_L109 hc he fu x0
  · refine J_aload_n (pc := 93) hc dX6_next_93 rfl rfl ?_
    refine J_getI (pc := 94) hc clX6 (k := 1) (Nat.le_of_ble_eq_true rfl) rfl tw118 (Or.inl rfl) dX6_next_94 (fun v9 => ?_)
    refine J_iconst (pc := 97) (v := 2) hc dX6_next_97 (by decide) ?_
    refine J_icmp_eq (pc := 98) (tgt := 109) hc dX6_next_98 (by decide) ?_ ?_
    · refine J_sub (l' := [some ((6, .ref x0) : TV)]) ⟨rfl, trivial⟩ ?_
      exact jX6_next_L109 hc he fu x0
    · refine J_aload_n (pc := 101) hc dX6_next_101 rfl rfl ?_
      refine J_getI (pc := 102) hc clX6 (k := 1) (Nat.le_of_ble_eq_true rfl) rfl tw118 (Or.inl rfl) dX6_next_102 (fun v10 => ?_)
      refine J_iconst (pc := 105) (v := 3) hc dX6_next_105 (by decide) ?_
      refine J_icmp_ne (pc := 106) (tgt := 151) hc dX6_next_106 (by decide) ?_ ?_
      · exact J_vret (pc := 151) he dX6_next_151
      · refine J_sub (l' := [some ((6, .ref x0) : TV)]) ⟨rfl, trivial⟩ ?_
        exact jX6_next_L109 hc he fu x0
set_option maxRecDepth 100000 in
set_option maxHeartbeats 4000000 in
theorem jX6_next_L46 {κ : Cx} {fin : Unit → Mm → Prop} (hc : Jc κ RX6 cX6_next 1 1 0 0 21) (he : Ed κ cX6_next 0 0 wV .return_ fin) (x0 : Nat) : Jg κ (wM κ) 1 fin 0 0 46 [some ((6, .ref x0) : TV)] [] (fX6_next_L46 x0) := by
  unfold fX6_next_L46
  refine J_aload_n (pc := 46) hc dX6_next_46 rfl rfl ?_
  refine J_aload_n (pc := 47) hc dX6_next_47 rfl rfl ?_
  refine J_aload_n (pc := 48) hc dX6_next_48 rfl rfl ?_
  refine J_getI (pc := 49) hc clX6 (k := 2) (Nat.le_of_ble_eq_true rfl) rfl tw120 (Or.inl rfl) dX6_next_49 (fun v11 => ?_)
  refine J_callVi (pc := 52) hc clX6 (As := [((0, .int v11) : TV)]) (KX6_byteAt x0 v11) dX6_next_52 moX6_byteAt rfl tw340 tw342 twp0 tw6 tw343 rfl (Nat.le_of_ble_eq_true rfl) (Nat.le_of_ble_eq_true rfl) (Nat.le_of_ble_eq_true rfl) (Nat.le_of_ble_eq_true rfl) (Nat.le_of_ble_eq_true rfl) rfl (fun v12 => ?_)
  refine J_callSi (pc := 55) hc (As := [((0, .int v12) : TV)]) (KX6_kindOf v12) dX6_next_55 moX6_kindOf tw347 tw348 tw6 tw349 rfl (Nat.le_of_ble_eq_true rfl) (Nat.le_of_ble_eq_true rfl) (Nat.le_of_ble_eq_true rfl) (Nat.le_of_ble_eq_true rfl) (Nat.le_of_ble_eq_true rfl) rfl (fun v13 => ?_)
  refine J_putI (pc := 58) hc clX6 (k := 1) (Nat.le_of_ble_eq_true rfl) rfl rfl tw118 (Or.inl rfl) rfl dX6_next_58 ?_
  refine J_aload_n (pc := 61) hc dX6_next_61 rfl rfl ?_
  refine J_aload_n (pc := 62) hc dX6_next_62 rfl rfl ?_
  refine J_getI (pc := 63) hc clX6 (k := 1) (Nat.le_of_ble_eq_true rfl) rfl tw118 (Or.inl rfl) dX6_next_63 (fun v14 => ?_)
  refine J_if_ne (pc := 66) (tgt := 76) hc dX6_next_66 (by decide) ?_ ?_
  · refine J_aload_n (pc := 76) hc dX6_next_76 rfl rfl ?_
    refine J_getI (pc := 77) hc clX6 (k := 2) (Nat.le_of_ble_eq_true rfl) rfl tw120 (Or.inl rfl) dX6_next_77 (fun v15 => ?_)
    refine J_iconst (pc := 80) (v := 1) hc dX6_next_80 (by decide) ?_
    refine J_iadd (pc := 81) hc dX6_next_81 ?_
    refine J_sub (l' := [some ((6, .ref x0) : TV)]) ⟨rfl, trivial⟩ ?_
    exact jX6_next_L82 hc he x0 (v15 + 1) x0
  · refine J_aload_n (pc := 69) hc dX6_next_69 rfl rfl ?_
    refine J_getI (pc := 70) hc clX6 (k := 2) (Nat.le_of_ble_eq_true rfl) rfl tw120 (Or.inl rfl) dX6_next_70 (fun v16 => ?_)
    refine J_goto (pc := 73) (tgt := 82) hc dX6_next_73 (by decide) ?_
    refine J_sub (l' := [some ((6, .ref x0) : TV)]) ⟨rfl, trivial⟩ ?_
    exact jX6_next_L82 hc he x0 v16 x0
set_option maxRecDepth 100000 in
set_option maxHeartbeats 4000000 in
theorem jX6_next_L8 {κ : Cx} {fin : Unit → Mm → Prop} (hc : Jc κ RX6 cX6_next 1 1 0 0 21) (he : Ed κ cX6_next 0 0 wV .return_ fin) : ∀ (n : Nat) (x0 : Nat), Jg κ (wM κ) 1 fin 0 0 8 [some ((6, .ref x0) : TV)] [] (fX6_next_L8 n x0) := by
  intro n
  induction n with
  | zero => intro x0; exact J_fail
  | succ n ih =>
    intro x0
    unfold fX6_next_L8
    refine J_aload_n (pc := 8) hc dX6_next_8 rfl rfl ?_
    refine J_getI (pc := 9) hc clX6 (k := 2) (Nat.le_of_ble_eq_true rfl) rfl tw120 (Or.inl rfl) dX6_next_9 (fun v17 => ?_)
    refine J_aload_n (pc := 12) hc dX6_next_12 rfl rfl ?_
    refine J_getI (pc := 13) hc clX6 (k := 0) (Nat.le_of_ble_eq_true rfl) rfl tw114 (Or.inl rfl) dX6_next_13 (fun v18 => ?_)
    refine J_icmp_ge (pc := 16) (tgt := 46) hc dX6_next_16 (by decide) ?_ ?_
    · refine J_sub (l' := [some ((6, .ref x0) : TV)]) ⟨rfl, trivial⟩ ?_
      exact jX6_next_L46 hc he x0
    · refine J_aload_n (pc := 19) hc dX6_next_19 rfl rfl ?_
      refine J_aload_n (pc := 20) hc dX6_next_20 rfl rfl ?_
      refine J_getI (pc := 21) hc clX6 (k := 2) (Nat.le_of_ble_eq_true rfl) rfl tw120 (Or.inl rfl) dX6_next_21 (fun v19 => ?_)
      refine J_callVi (pc := 24) hc clX6 (As := [((0, .int v19) : TV)]) (KX6_byteAt x0 v19) dX6_next_24 moX6_byteAt rfl tw340 tw342 twp0 tw6 tw343 rfl (Nat.le_of_ble_eq_true rfl) (Nat.le_of_ble_eq_true rfl) (Nat.le_of_ble_eq_true rfl) (Nat.le_of_ble_eq_true rfl) (Nat.le_of_ble_eq_true rfl) rfl (fun v20 => ?_)
      refine J_callSi (pc := 27) hc (As := [((0, .int v20) : TV)]) (KX6_isSpace v20) dX6_next_27 moX6_isSpace tw344 tw345 tw6 tw346 rfl (Nat.le_of_ble_eq_true rfl) (Nat.le_of_ble_eq_true rfl) (Nat.le_of_ble_eq_true rfl) (Nat.le_of_ble_eq_true rfl) (Nat.le_of_ble_eq_true rfl) rfl (fun v21 => ?_)
      refine J_if_eq (pc := 30) (tgt := 46) hc dX6_next_30 (by decide) ?_ ?_
      · refine J_sub (l' := [some ((6, .ref x0) : TV)]) ⟨rfl, trivial⟩ ?_
        exact jX6_next_L46 hc he x0
      · refine J_aload_n (pc := 33) hc dX6_next_33 rfl rfl ?_
        refine J_dup (pc := 34) hc dX6_next_34 rfl ?_
        refine J_getI (pc := 35) hc clX6 (k := 2) (Nat.le_of_ble_eq_true rfl) rfl tw120 (Or.inl rfl) dX6_next_35 (fun v22 => ?_)
        refine J_iconst (pc := 38) (v := 1) hc dX6_next_38 (by decide) ?_
        refine J_iadd (pc := 39) hc dX6_next_39 ?_
        refine J_putI (pc := 40) hc clX6 (k := 2) (Nat.le_of_ble_eq_true rfl) rfl rfl tw120 (Or.inl rfl) rfl dX6_next_40 ?_
        refine J_goto (pc := 43) (tgt := 8) hc dX6_next_43 (by decide) ?_
        refine J_sub (l' := [some ((6, .ref x0) : TV)]) ⟨rfl, trivial⟩ ?_
        exact ih x0
set_option maxRecDepth 100000 in
set_option maxHeartbeats 4000000 in
theorem jX6_next {κ : Cx} {fin : Unit → Mm → Prop} (hc : Jc κ RX6 cX6_next 1 1 0 0 21) (he : Ed κ cX6_next 0 0 wV .return_ fin) (x0 : Nat) : Jg κ (wM κ) 1 fin 0 0 0 [some ((6, .ref x0) : TV)] [] (fX6_next x0) := by
  unfold fX6_next
  refine J_aload_n (pc := 0) hc dX6_next_0 rfl rfl ?_
  refine J_aload_n (pc := 1) hc dX6_next_1 rfl rfl ?_
  refine J_getI (pc := 2) hc clX6 (k := 3) (Nat.le_of_ble_eq_true rfl) rfl tw121 (Or.inl rfl) dX6_next_2 (fun v23 => ?_)
  refine J_putI (pc := 5) hc clX6 (k := 2) (Nat.le_of_ble_eq_true rfl) rfl rfl tw120 (Or.inl rfl) rfl dX6_next_5 ?_
  refine J_sub (l' := [some ((6, .ref x0) : TV)]) ⟨rfl, trivial⟩ ?_
  exact jX6_next_L8 hc he fu x0
theorem moX6_next : MOk yX6_next 0 := ⟨by decide +kernel, by decide +kernel, by decide +kernel⟩
set_option maxRecDepth 100000 in
set_option maxHeartbeats 4000000 in
theorem KX6_next (x0 : Nat) : Ct wV yX6_next cX6_next 1 none 1 0 0 21 [((6, .ref x0) : TV)] (fX6_next x0) :=
  Ct_V (j := 0) (by decide +kernel) rfl rfl (Nat.le_of_ble_eq_true rfl) (fun κ fin hc he hin => jX6_next hc he x0)
set_option maxRecDepth 100000 in
set_option maxHeartbeats 4000000 in
theorem jX6_begin {κ : Cx} {fin : Unit → Mm → Prop} (hc : Jc κ RX6 cX6_begin 1 2 0 0 41) (he : Ed κ cX6_begin 0 0 wV .return_ fin) (x0 : Nat) : Jg κ (wM κ) 1 fin 0 0 0 [some ((6, .ref x0) : TV)] [] (fX6_begin x0) := by
  unfold fX6_begin
  refine J_aload_n (pc := 0) hc dX6_begin_0 rfl rfl ?_
  refine J_iconst (pc := 1) (v := 0) hc dX6_begin_1 (by decide) ?_
  refine J_putI (pc := 2) hc clX6 (k := 3) (Nat.le_of_ble_eq_true rfl) rfl rfl tw121 (Or.inl rfl) rfl dX6_begin_2 ?_
  refine J_aload_n (pc := 5) hc dX6_begin_5 rfl rfl ?_
  refine J_callVv (pc := 6) hc clX6 (As := []) (KX6_next x0) dX6_begin_6 moX6_next rfl tw336 tw337 tw338 tw6 tw339 rfl (Nat.le_of_ble_eq_true rfl) (Nat.le_of_ble_eq_true rfl) (Nat.le_of_ble_eq_true rfl) (Nat.le_of_ble_eq_true rfl) (Nat.le_of_ble_eq_true rfl) rfl (fun _ => ?_)
  exact J_vret (pc := 9) he dX6_begin_9
theorem moX6_begin : MOk yX6_begin 0 := ⟨by decide +kernel, by decide +kernel, by decide +kernel⟩
set_option maxRecDepth 100000 in
set_option maxHeartbeats 4000000 in
theorem KX6_begin (x0 : Nat) : Ct wV yX6_begin cX6_begin 1 none 2 0 0 41 [((6, .ref x0) : TV)] (fX6_begin x0) :=
  Ct_V (j := 0) (by decide +kernel) rfl rfl (Nat.le_of_ble_eq_true rfl) (fun κ fin hc he hin => jX6_begin hc he x0)
set_option maxRecDepth 100000 in
set_option maxHeartbeats 4000000 in
theorem jX6_isWord_L28 {κ : Cx} {fin : Int32 → Mm → Prop} (hc : Jc κ RX6 cX6_isWord 3 4 0 0 85) (he : EdZ κ cX6_isWord 0 0 id fin) : ∀ (n : Nat) (x0 : Nat) (x1 : Nat) (x2 : Int32), Jg κ (wM κ) 3 fin 0 0 28 [some ((6, .ref x0) : TV), some ((20, .ref x1) : TV), some ((0, .int x2) : TV)] [] (fX6_isWord_L28 n x0 x1 x2) := by
  intro n
  induction n with
  | zero => intro x0 x1 x2; exact J_fail
  | succ n ih =>
    intro x0 x1 x2
    unfold fX6_isWord_L28
    refine J_iload_n (pc := 28) hc dX6_isWord_28 rfl rfl ?_
    refine J_aload_n (pc := 29) hc dX6_isWord_29 rfl rfl ?_
    refine J_callStri (pc := 30) hc (As := []) (KJ0_length_8abf5 x1) dX6_isWord_30 moJ0_length_8abf5 rfl tw355 tw356 tw357 tw16 tw358 rfl (Nat.le_of_ble_eq_true rfl) (Nat.le_of_ble_eq_true rfl) (Nat.le_of_ble_eq_true rfl) (Nat.le_of_ble_eq_true rfl) (Nat.le_of_ble_eq_true rfl) rfl (fun v1 => ?_)
    refine J_icmp_ge (pc := 33) (tgt := 62) hc dX6_isWord_33 (by decide) ?_ ?_
    · refine J_iconst (pc := 62) (v := 1) hc dX6_isWord_62 (by decide) ?_
      exact J_zret (pc := 63) he dX6_isWord_63
    · refine J_aload_n (pc := 36) hc dX6_isWord_36 rfl rfl ?_
      refine J_aload_n (pc := 37) hc dX6_isWord_37 rfl rfl ?_
      refine J_getI (pc := 38) hc clX6 (k := 2) (Nat.le_of_ble_eq_true rfl) rfl tw120 (Or.inl rfl) dX6_isWord_38 (fun v2 => ?_)
      refine J_iload_n (pc := 41) hc dX6_isWord_41 rfl rfl ?_
      refine J_iadd (pc := 42) hc dX6_isWord_42 ?_
      refine J_callVi (pc := 43) hc clX6 (As := [((0, .int (v2 + x2)) : TV)]) (KX6_byteAt x0 (v2 + x2)) dX6_isWord_43 moX6_byteAt rfl tw340 tw342 twp0 tw6 tw343 rfl (Nat.le_of_ble_eq_true rfl) (Nat.le_of_ble_eq_true rfl) (Nat.le_of_ble_eq_true rfl) (Nat.le_of_ble_eq_true rfl) (Nat.le_of_ble_eq_true rfl) rfl (fun v3 => ?_)
      refine J_aload_n (pc := 46) hc dX6_isWord_46 rfl rfl ?_
      refine J_iload_n (pc := 47) hc dX6_isWord_47 rfl rfl ?_
      refine J_callStri (pc := 48) hc (As := [((0, .int x2) : TV)]) (KJ0_charAt_5068e x1 x2) dX6_isWord_48 moJ0_charAt_5068e rfl tw365 tw366 tw367 tw16 tw368 rfl (Nat.le_of_ble_eq_true rfl) (Nat.le_of_ble_eq_true rfl) (Nat.le_of_ble_eq_true rfl) (Nat.le_of_ble_eq_true rfl) (Nat.le_of_ble_eq_true rfl) rfl (fun v4 => ?_)
      refine J_icmp_eq (pc := 51) (tgt := 56) hc dX6_isWord_51 (by decide) ?_ ?_
      · refine J_iinc (pc := 56) (v := x2 + 1) (l' := [some ((6, .ref x0) : TV), some ((20, .ref x1) : TV), some ((0, .int (x2 + 1)) : TV)]) hc dX6_isWord_56 rfl rfl (by decide) rfl rfl ?_
        refine J_goto (pc := 59) (tgt := 28) hc dX6_isWord_59 (by decide) ?_
        refine J_sub (l' := [some ((6, .ref x0) : TV), some ((20, .ref x1) : TV), some ((0, .int (x2 + 1)) : TV)]) ⟨rfl, ⟨rfl, ⟨rfl, trivial⟩⟩⟩ ?_
        exact ih x0 x1 (x2 + 1)
      · refine J_iconst (pc := 54) (v := 0) hc dX6_isWord_54 (by decide) ?_
        exact J_zret (pc := 55) he dX6_isWord_55
set_option maxRecDepth 100000 in
set_option maxHeartbeats 4000000 in
theorem jX6_isWord {κ : Cx} {fin : Int32 → Mm → Prop} (hc : Jc κ RX6 cX6_isWord 3 4 0 0 85) (he : EdZ κ cX6_isWord 0 0 id fin) (x0 : Nat) (x1 : Nat) : Jg κ (wM κ) 3 fin 0 0 0 [some ((6, .ref x0) : TV), some ((20, .ref x1) : TV), none] [] (fX6_isWord x0 x1) := by
  unfold fX6_isWord
  refine J_aload_n (pc := 0) hc dX6_isWord_0 rfl rfl ?_
  refine J_getI (pc := 1) hc clX6 (k := 1) (Nat.le_of_ble_eq_true rfl) rfl tw118 (Or.inl rfl) dX6_isWord_1 (fun v5 => ?_)
  refine J_iconst (pc := 4) (v := 1) hc dX6_isWord_4 (by decide) ?_
  refine J_icmp_ne (pc := 5) (tgt := 24) hc dX6_isWord_5 (by decide) ?_ ?_
  · refine J_iconst (pc := 24) (v := 0) hc dX6_isWord_24 (by decide) ?_
    exact J_zret (pc := 25) he dX6_isWord_25
  · refine J_aload_n (pc := 8) hc dX6_isWord_8 rfl rfl ?_
    refine J_getI (pc := 9) hc clX6 (k := 3) (Nat.le_of_ble_eq_true rfl) rfl tw121 (Or.inl rfl) dX6_isWord_9 (fun v6 => ?_)
    refine J_aload_n (pc := 12) hc dX6_isWord_12 rfl rfl ?_
    refine J_getI (pc := 13) hc clX6 (k := 2) (Nat.le_of_ble_eq_true rfl) rfl tw120 (Or.inl rfl) dX6_isWord_13 (fun v7 => ?_)
    refine J_isub (pc := 16) hc dX6_isWord_16 ?_
    refine J_aload_n (pc := 17) hc dX6_isWord_17 rfl rfl ?_
    refine J_callStri (pc := 18) hc (As := []) (KJ0_length_8abf5 x1) dX6_isWord_18 moJ0_length_8abf5 rfl tw355 tw356 tw357 tw16 tw358 rfl (Nat.le_of_ble_eq_true rfl) (Nat.le_of_ble_eq_true rfl) (Nat.le_of_ble_eq_true rfl) (Nat.le_of_ble_eq_true rfl) (Nat.le_of_ble_eq_true rfl) rfl (fun v8 => ?_)
    refine J_icmp_eq (pc := 21) (tgt := 26) hc dX6_isWord_21 (by decide) ?_ ?_
    · refine J_iconst (pc := 26) (v := 0) hc dX6_isWord_26 (by decide) ?_
      refine J_istore_n (pc := 27) (l' := [some ((6, .ref x0) : TV), some ((20, .ref x1) : TV), some ((0, .int 0) : TV)]) hc dX6_isWord_27 rfl (by decide) rfl rfl ?_
      refine J_sub (l' := [some ((6, .ref x0) : TV), some ((20, .ref x1) : TV), some ((0, .int 0) : TV)]) ⟨rfl, ⟨rfl, ⟨rfl, trivial⟩⟩⟩ ?_
      exact jX6_isWord_L28 hc he fu x0 x1 0
    · refine J_iconst (pc := 24) (v := 0) hc dX6_isWord_24 (by decide) ?_
      exact J_zret (pc := 25) he dX6_isWord_25
theorem moX6_isWord : MOk yX6_isWord 1 := ⟨by decide +kernel, by decide +kernel, by decide +kernel⟩
set_option maxRecDepth 100000 in
set_option maxHeartbeats 4000000 in
theorem KX6_isWord (x0 : Nat) (x1 : Nat) : Ct wI yX6_isWord cX6_isWord 3 (some .boolean) 4 0 0 85 [((6, .ref x0) : TV), ((20, .ref x1) : TV)] (fX6_isWord x0 x1) :=
  Ct_Z ⟨rfl, rfl⟩ (j := 1) (by decide +kernel) rfl rfl (Nat.le_of_ble_eq_true rfl) (fun κ fin hc he => jX6_isWord hc he x0 x1)
set_option maxRecDepth 100000 in
set_option maxHeartbeats 4000000 in
theorem jX6_number_L7 {κ : Cx} {fin : Int32 → Mm → Prop} (hc : Jc κ RX6 cX6_number 3 1 0 0 21) (he : Ed κ cX6_number 0 0 wI .ireturn fin) : ∀ (n : Nat) (x0 : Nat) (x1 : Int32) (x2 : Int32), Jg κ (wM κ) 3 fin 0 0 7 [some ((6, .ref x0) : TV), some ((0, .int x1) : TV), some ((0, .int x2) : TV)] [] (fX6_number_L7 n x0 x1 x2) := by
  intro n
  induction n with
  | zero => intro x0 x1 x2; exact J_fail
  | succ n ih =>
    intro x0 x1 x2
    unfold fX6_number_L7
    refine J_iload_n (pc := 7) hc dX6_number_7 rfl rfl ?_
    refine J_aload_n (pc := 8) hc dX6_number_8 rfl rfl ?_
    refine J_getI (pc := 9) hc clX6 (k := 3) (Nat.le_of_ble_eq_true rfl) rfl tw121 (Or.inl rfl) dX6_number_9 (fun v1 => ?_)
    refine J_icmp_ge (pc := 12) (tgt := 41) hc dX6_number_12 (by decide) ?_ ?_
    · refine J_iload_n (pc := 41) hc dX6_number_41 rfl rfl ?_
      exact J_iret (pc := 42) he dX6_number_42
    · refine J_sipush (pc := 15) (v := 1000) hc dX6_number_15 (by decide) ?_
      refine J_iload_n (pc := 18) hc dX6_number_18 rfl rfl ?_
      refine J_bipush (pc := 19) (v := 10) hc dX6_number_19 (by decide) ?_
      refine J_imul (pc := 21) hc dX6_number_21 ?_
      refine J_aload_n (pc := 22) hc dX6_number_22 rfl rfl ?_
      refine J_iload_n (pc := 23) hc dX6_number_23 rfl rfl ?_
      refine J_callVi (pc := 24) hc clX6 (As := [((0, .int x2) : TV)]) (KX6_byteAt x0 x2) dX6_number_24 moX6_byteAt rfl tw340 tw342 twp0 tw6 tw343 rfl (Nat.le_of_ble_eq_true rfl) (Nat.le_of_ble_eq_true rfl) (Nat.le_of_ble_eq_true rfl) (Nat.le_of_ble_eq_true rfl) (Nat.le_of_ble_eq_true rfl) rfl (fun v2 => ?_)
      refine J_iadd (pc := 27) hc dX6_number_27 ?_
      refine J_bipush (pc := 28) (v := 48) hc dX6_number_28 (by decide) ?_
      refine J_isub (pc := 30) hc dX6_number_30 ?_
      refine J_mmin (pc := 31) hc dX6_number_31 tw420 tw421 tw19 tw422 (Nat.le_of_ble_eq_true rfl) (Nat.le_of_ble_eq_true rfl) (Nat.le_of_ble_eq_true rfl) (Nat.le_of_ble_eq_true rfl) (Nat.le_of_ble_eq_true rfl) ?_
      refine J_nmi (fun v3 => ?_)
      refine J_istore_n (pc := 34) (l' := [some ((6, .ref x0) : TV), some ((0, .int v3) : TV), some ((0, .int x2) : TV)]) hc dX6_number_34 rfl (by decide) rfl rfl ?_
      refine J_iinc (pc := 35) (v := x2 + 1) (l' := [some ((6, .ref x0) : TV), some ((0, .int v3) : TV), some ((0, .int (x2 + 1)) : TV)]) hc dX6_number_35 rfl rfl (by decide) rfl rfl ?_
      refine J_goto (pc := 38) (tgt := 7) hc dX6_number_38 (by decide) ?_
      refine J_sub (l' := [some ((6, .ref x0) : TV), some ((0, .int v3) : TV), some ((0, .int (x2 + 1)) : TV)]) ⟨rfl, ⟨rfl, ⟨rfl, trivial⟩⟩⟩ ?_
      exact ih x0 v3 (x2 + 1)
set_option maxRecDepth 100000 in
set_option maxHeartbeats 4000000 in
theorem jX6_number {κ : Cx} {fin : Int32 → Mm → Prop} (hc : Jc κ RX6 cX6_number 3 1 0 0 21) (he : Ed κ cX6_number 0 0 wI .ireturn fin) (x0 : Nat) : Jg κ (wM κ) 3 fin 0 0 0 [some ((6, .ref x0) : TV), none, none] [] (fX6_number x0) := by
  unfold fX6_number
  refine J_iconst (pc := 0) (v := 0) hc dX6_number_0 (by decide) ?_
  refine J_istore_n (pc := 1) (l' := [some ((6, .ref x0) : TV), some ((0, .int 0) : TV), none]) hc dX6_number_1 rfl (by decide) rfl rfl ?_
  refine J_aload_n (pc := 2) hc dX6_number_2 rfl rfl ?_
  refine J_getI (pc := 3) hc clX6 (k := 2) (Nat.le_of_ble_eq_true rfl) rfl tw120 (Or.inl rfl) dX6_number_3 (fun v4 => ?_)
  refine J_istore_n (pc := 6) (l' := [some ((6, .ref x0) : TV), some ((0, .int 0) : TV), some ((0, .int v4) : TV)]) hc dX6_number_6 rfl (by decide) rfl rfl ?_
  refine J_sub (l' := [some ((6, .ref x0) : TV), some ((0, .int 0) : TV), some ((0, .int v4) : TV)]) ⟨rfl, ⟨rfl, ⟨rfl, trivial⟩⟩⟩ ?_
  exact jX6_number_L7 hc he fu x0 0 v4
theorem moX6_number : MOk yX6_number 0 := ⟨by decide +kernel, by decide +kernel, by decide +kernel⟩
set_option maxRecDepth 100000 in
set_option maxHeartbeats 4000000 in
theorem KX6_number (x0 : Nat) : Ct wI yX6_number cX6_number 3 (some .int) 1 0 0 21 [((6, .ref x0) : TV)] (fX6_number x0) :=
  Ct_I (j := 2) (by decide +kernel) rfl rfl (Nat.le_of_ble_eq_true rfl) (fun κ fin hc he => jX6_number hc he x0)
set_option maxRecDepth 100000 in
set_option maxHeartbeats 4000000 in
theorem jX6_signs {κ : Cx} {fin : Int32 → Mm → Prop} (hc : Jc κ RX6 cX6_signs 1 0 0 0 0) (he : Ed κ cX6_signs 0 0 wI .ireturn fin) (x0 : Nat) : Jg κ (wM κ) 1 fin 0 0 0 [some ((6, .ref x0) : TV)] [] (fX6_signs x0) := by
  unfold fX6_signs
  refine J_aload_n (pc := 0) hc dX6_signs_0 rfl rfl ?_
  refine J_getI (pc := 1) hc clX6 (k := 3) (Nat.le_of_ble_eq_true rfl) rfl tw121 (Or.inl rfl) dX6_signs_1 (fun v1 => ?_)
  refine J_aload_n (pc := 4) hc dX6_signs_4 rfl rfl ?_
  refine J_getI (pc := 5) hc clX6 (k := 2) (Nat.le_of_ble_eq_true rfl) rfl tw120 (Or.inl rfl) dX6_signs_5 (fun v2 => ?_)
  refine J_isub (pc := 8) hc dX6_signs_8 ?_
  exact J_iret (pc := 9) he dX6_signs_9
theorem moX6_signs : MOk yX6_signs 0 := ⟨by decide +kernel, by decide +kernel, by decide +kernel⟩
set_option maxRecDepth 100000 in
set_option maxHeartbeats 4000000 in
theorem KX6_signs (x0 : Nat) : Ct wI yX6_signs cX6_signs 1 (some .int) 0 0 0 0 [((6, .ref x0) : TV)] (fX6_signs x0) :=
  Ct_I (j := 0) (by decide +kernel) rfl rfl (Nat.le_of_ble_eq_true rfl) (fun κ fin hc he => jX6_signs hc he x0)
set_option maxRecDepth 100000 in
set_option maxHeartbeats 4000000 in
theorem jX6_dots_L44 {κ : Cx} {fin : Int64 → Mm → Prop} (hc : Jc κ RX6 cX6_dots 4 1 0 0 21) (he : Ed κ cX6_dots 0 0 wJ .lreturn fin) {k4 : Nat → Int64 → Int32 → Mm → Option (Int64 × Mm)} (hk4 : ∀ (x0 : Nat) (x1 : Int64) (x3 : Int32), Jg κ (wM κ) 4 fin 0 0 4 [some ((6, .ref x0) : TV), some ((0, .long x1) : TV), none, some ((0, .int x3) : TV)] [] (k4 x0 x1 x3)) (x0 : Nat) (x1 : Int64) (x3 : Int32) : Jg κ (wM κ) 4 fin 0 0 44 [some ((6, .ref x0) : TV), some ((0, .long x1) : TV), none, some ((0, .int x3) : TV)] [] (fX6_dots_L44 k4 x0 x1 x3) := by
  unfold fX6_dots_L44
  refine J_iinc (pc := 44) (v := x3 + 1) (l' := [some ((6, .ref x0) : TV), some ((0, .long x1) : TV), none, some ((0, .int (x3 + 1)) : TV)]) hc dX6_dots_44 rfl rfl (by decide) rfl rfl ?_
  refine J_goto (pc := 47) (tgt := 4) hc dX6_dots_47 (by decide) ?_
  refine J_sub (l' := [some ((6, .ref x0) : TV), some ((0, .long x1) : TV), none, some ((0, .int (x3 + 1)) : TV)]) ⟨rfl, ⟨rfl, ⟨rfl, trivial⟩⟩⟩ ?_
  exact hk4 x0 x1 (x3 + 1)
set_option maxRecDepth 100000 in
set_option maxHeartbeats 4000000 in
theorem jX6_dots_L4 {κ : Cx} {fin : Int64 → Mm → Prop} (hc : Jc κ RX6 cX6_dots 4 1 0 0 21) (he : Ed κ cX6_dots 0 0 wJ .lreturn fin) : ∀ (n : Nat) (x0 : Nat) (x1 : Int64) (x3 : Int32), Jg κ (wM κ) 4 fin 0 0 4 [some ((6, .ref x0) : TV), some ((0, .long x1) : TV), none, some ((0, .int x3) : TV)] [] (fX6_dots_L4 n x0 x1 x3) := by
  intro n
  induction n with
  | zero => intro x0 x1 x3; exact J_fail
  | succ n ih =>
    intro x0 x1 x3
    unfold fX6_dots_L4
    refine J_iload_n (pc := 4) hc dX6_dots_4 rfl rfl ?_
    refine J_aload_n (pc := 5) hc dX6_dots_5 rfl rfl ?_
    refine J_getI (pc := 6) hc clX6 (k := 3) (Nat.le_of_ble_eq_true rfl) rfl tw121 (Or.inl rfl) dX6_dots_6 (fun v1 => ?_)
    refine J_aload_n (pc := 9) hc dX6_dots_9 rfl rfl ?_
    refine J_getI (pc := 10) hc clX6 (k := 2) (Nat.le_of_ble_eq_true rfl) rfl tw120 (Or.inl rfl) dX6_dots_10 (fun v2 => ?_)
    refine J_isub (pc := 13) hc dX6_dots_13 ?_
    refine J_icmp_ge (pc := 14) (tgt := 50) hc dX6_dots_14 (by decide) ?_ ?_
    · refine J_lload_n (pc := 50) hc dX6_dots_50 rfl rfl ?_
      exact J_lret (pc := 51) he dX6_dots_51
    · refine J_iload_n (pc := 17) hc dX6_dots_17 rfl rfl ?_
      refine J_bipush (pc := 18) (v := 40) hc dX6_dots_18 (by decide) ?_
      refine J_icmp_ge (pc := 20) (tgt := 50) hc dX6_dots_20 (by decide) ?_ ?_
      · refine J_lload_n (pc := 50) hc dX6_dots_50 rfl rfl ?_
        exact J_lret (pc := 51) he dX6_dots_51
      · refine J_aload_n (pc := 23) hc dX6_dots_23 rfl rfl ?_
        refine J_aload_n (pc := 24) hc dX6_dots_24 rfl rfl ?_
        refine J_getI (pc := 25) hc clX6 (k := 2) (Nat.le_of_ble_eq_true rfl) rfl tw120 (Or.inl rfl) dX6_dots_25 (fun v3 => ?_)
        refine J_iload_n (pc := 28) hc dX6_dots_28 rfl rfl ?_
        refine J_iadd (pc := 29) hc dX6_dots_29 ?_
        refine J_callVi (pc := 30) hc clX6 (As := [((0, .int (v3 + x3)) : TV)]) (KX6_byteAt x0 (v3 + x3)) dX6_dots_30 moX6_byteAt rfl tw340 tw342 twp0 tw6 tw343 rfl (Nat.le_of_ble_eq_true rfl) (Nat.le_of_ble_eq_true rfl) (Nat.le_of_ble_eq_true rfl) (Nat.le_of_ble_eq_true rfl) (Nat.le_of_ble_eq_true rfl) rfl (fun v4 => ?_)
        refine J_bipush (pc := 33) (v := 35) hc dX6_dots_33 (by decide) ?_
        refine J_icmp_ne (pc := 35) (tgt := 44) hc dX6_dots_35 (by decide) ?_ ?_
        · refine J_sub (l' := [some ((6, .ref x0) : TV), some ((0, .long x1) : TV), none, some ((0, .int x3) : TV)]) ⟨rfl, ⟨rfl, ⟨rfl, trivial⟩⟩⟩ ?_
          exact jX6_dots_L44 hc he ih x0 x1 x3
        · refine J_lload_n (pc := 38) hc dX6_dots_38 rfl rfl ?_
          refine J_lconst (pc := 39) (v := 1) hc dX6_dots_39 rfl ?_
          refine J_iload_n (pc := 40) hc dX6_dots_40 rfl rfl ?_
          refine J_lshlN (pc := 41) hc dX6_dots_41 ?_
          refine J_lor (pc := 42) hc dX6_dots_42 ?_
          refine J_nml (fun v5 => ?_)
          refine J_lstore_n (pc := 43) (l' := [some ((6, .ref x0) : TV), some ((0, .long v5) : TV), none, some ((0, .int x3) : TV)]) hc dX6_dots_43 rfl (by decide) rfl rfl ?_
          refine J_sub (l' := [some ((6, .ref x0) : TV), some ((0, .long v5) : TV), none, some ((0, .int x3) : TV)]) ⟨rfl, ⟨rfl, ⟨rfl, trivial⟩⟩⟩ ?_
          exact jX6_dots_L44 hc he ih x0 v5 x3
set_option maxRecDepth 100000 in
set_option maxHeartbeats 4000000 in
theorem jX6_dots {κ : Cx} {fin : Int64 → Mm → Prop} (hc : Jc κ RX6 cX6_dots 4 1 0 0 21) (he : Ed κ cX6_dots 0 0 wJ .lreturn fin) (x0 : Nat) : Jg κ (wM κ) 4 fin 0 0 0 [some ((6, .ref x0) : TV), none, none, none] [] (fX6_dots x0) := by
  unfold fX6_dots
  refine J_lconst (pc := 0) (v := 0) hc dX6_dots_0 rfl ?_
  refine J_lstore_n (pc := 1) (l' := [some ((6, .ref x0) : TV), some ((0, .long 0) : TV), none, none]) hc dX6_dots_1 rfl (by decide) rfl rfl ?_
  refine J_iconst (pc := 2) (v := 0) hc dX6_dots_2 (by decide) ?_
  refine J_istore_n (pc := 3) (l' := [some ((6, .ref x0) : TV), some ((0, .long 0) : TV), none, some ((0, .int 0) : TV)]) hc dX6_dots_3 rfl (by decide) rfl rfl ?_
  refine J_sub (l' := [some ((6, .ref x0) : TV), some ((0, .long 0) : TV), none, some ((0, .int 0) : TV)]) ⟨rfl, ⟨rfl, ⟨rfl, trivial⟩⟩⟩ ?_
  exact jX6_dots_L4 hc he fu x0 0 0
theorem moX6_dots : MOk yX6_dots 0 := ⟨by decide +kernel, by decide +kernel, by decide +kernel⟩
set_option maxRecDepth 100000 in
set_option maxHeartbeats 4000000 in
theorem KX6_dots (x0 : Nat) : Ct wJ yX6_dots cX6_dots 4 (some .long) 1 0 0 21 [((6, .ref x0) : TV)] (fX6_dots x0) :=
  Ct_J (j := 3) (by decide +kernel) rfl rfl (Nat.le_of_ble_eq_true rfl) (fun κ fin hc he => jX6_dots hc he x0)
set_option maxRecDepth 100000 in
set_option maxHeartbeats 4000000 in
theorem jX7_lowestOf {κ : Cx} {fin : Int32 → Mm → Prop} (hc : Jc κ RX7 cX7_lowestOf 2 1 0 0 21) (he : Ed κ cX7_lowestOf 0 0 wI .ireturn fin) (x0 : Int64) : Jg κ (wM κ) 2 fin 0 0 0 [some ((0, .long x0) : TV), none] [] (fX7_lowestOf x0) := by
  unfold fX7_lowestOf
  refine J_lload_n (pc := 0) hc dX7_lowestOf_0 rfl rfl ?_
  refine J_lload_n (pc := 1) hc dX7_lowestOf_1 rfl rfl ?_
  refine J_lneg (pc := 2) hc dX7_lowestOf_2 ?_
  refine J_land (pc := 3) hc dX7_lowestOf_3 ?_
  refine J_lconst (pc := 4) (v := 1) hc dX7_lowestOf_4 rfl ?_
  refine J_lsub (pc := 5) hc dX7_lowestOf_5 ?_
  refine J_callSi (pc := 6) hc (As := [((0, .long ((x0 &&& (-x0)) - 1)) : TV)]) (KJ13_bitCount_95d88 ((x0 &&& (-x0)) - 1)) dX7_lowestOf_6 moJ13_bitCount_95d88 tw511 tw512 tw31 tw513 rfl (Nat.le_of_ble_eq_true rfl) (Nat.le_of_ble_eq_true rfl) (Nat.le_of_ble_eq_true rfl) (Nat.le_of_ble_eq_true rfl) (Nat.le_of_ble_eq_true rfl) rfl (fun v1 => ?_)
  exact J_iret (pc := 9) he dX7_lowestOf_9
theorem moX7_lowestOf : MOk yX7_lowestOf 1 := ⟨by decide +kernel, by decide +kernel, by decide +kernel⟩
set_option maxRecDepth 100000 in
set_option maxHeartbeats 4000000 in
theorem KX7_lowestOf (x0 : Int64) : Ct wI yX7_lowestOf cX7_lowestOf 2 (some .int) 1 0 0 21 [((0, .long x0) : TV)] (fX7_lowestOf x0) :=
  Ct_I (j := 0) (by decide +kernel) rfl rfl (Nat.le_of_ble_eq_true rfl) (fun κ fin hc he => jX7_lowestOf hc he x0)
set_option maxRecDepth 100000 in
set_option maxHeartbeats 4000000 in
theorem jX7_aloneBits_L63 {κ : Cx} {fin : Int32 → Mm → Prop} (hc : Jc κ RX7 cX7_aloneBits 9 2 0 0 42) (he : Ed κ cX7_aloneBits 0 0 wI .ireturn fin) (x2 : Int32) (x5 : Int32) (x6 : Int32) : Jg κ (wM κ) 9 fin 0 0 63 [none, none, some ((0, .int x2) : TV), none, none, some ((0, .int x5) : TV), some ((0, .int x6) : TV), none, none] [] (fX7_aloneBits_L63 x2 x5 x6) := by
  unfold fX7_aloneBits_L63
  refine J_iload (pc := 63) hc dX7_aloneBits_63 rfl ?_
  refine J_iload_n (pc := 65) hc dX7_aloneBits_65 rfl rfl ?_
  refine J_iload (pc := 66) hc dX7_aloneBits_66 rfl ?_
  refine J_isub (pc := 68) hc dX7_aloneBits_68 ?_
  refine J_callSi (pc := 69) hc (As := [((0, .int (x2 - x6)) : TV)]) (KX7_numberBits (x2 - x6)) dX7_aloneBits_69 moX7_numberBits tw1041 tw1033 tw2 tw1034 rfl (Nat.le_of_ble_eq_true rfl) (Nat.le_of_ble_eq_true rfl) (Nat.le_of_ble_eq_true rfl) (Nat.le_of_ble_eq_true rfl) (Nat.le_of_ble_eq_true rfl) rfl (fun v1 => ?_)
  refine J_iadd (pc := 72) hc dX7_aloneBits_72 ?_
  exact J_iret (pc := 73) he dX7_aloneBits_73
set_option maxRecDepth 100000 in
set_option maxHeartbeats 4000000 in
theorem jX7_aloneBits_L15 {κ : Cx} {fin : Int32 → Mm → Prop} (hc : Jc κ RX7 cX7_aloneBits 9 2 0 0 42) (he : Ed κ cX7_aloneBits 0 0 wI .ireturn fin) : ∀ (n : Nat) (x2 : Int32) (x3 : Int64) (x5 : Int32) (x6 : Int32) (x7 : Int32), Jg κ (wM κ) 9 fin 0 0 15 [none, none, some ((0, .int x2) : TV), some ((0, .long x3) : TV), none, some ((0, .int x5) : TV), some ((0, .int x6) : TV), some ((0, .int x7) : TV), none] [] (fX7_aloneBits_L15 n x2 x3 x5 x6 x7) := by
  intro n
  induction n with
  | zero => intro x2 x3 x5 x6 x7; exact J_fail
  | succ n ih =>
    intro x2 x3 x5 x6 x7
    unfold fX7_aloneBits_L15
    refine J_iload (pc := 15) hc dX7_aloneBits_15 rfl ?_
    refine J_bipush (pc := 17) (v := 40) hc dX7_aloneBits_17 (by decide) ?_
    refine J_icmp_ge (pc := 19) (tgt := 63) hc dX7_aloneBits_19 (by decide) ?_ ?_
    · refine J_sub (l' := [none, none, some ((0, .int x2) : TV), none, none, some ((0, .int x5) : TV), some ((0, .int x6) : TV), none, none]) ⟨rfl, ⟨rfl, ⟨rfl, trivial⟩⟩⟩ ?_
      exact jX7_aloneBits_L63 hc he x2 x5 x6
    · refine J_lload_n (pc := 22) hc dX7_aloneBits_22 rfl rfl ?_
      refine J_lconst (pc := 23) (v := 0) hc dX7_aloneBits_23 rfl ?_
      refine J_lcmp (pc := 24) hc dX7_aloneBits_24 ?_
      refine J_if_eq (pc := 25) (tgt := 63) hc dX7_aloneBits_25 (by decide) ?_ ?_
      · refine J_sub (l' := [none, none, some ((0, .int x2) : TV), none, none, some ((0, .int x5) : TV), some ((0, .int x6) : TV), none, none]) ⟨rfl, ⟨rfl, ⟨rfl, trivial⟩⟩⟩ ?_
        exact jX7_aloneBits_L63 hc he x2 x5 x6
      · refine J_lload_n (pc := 28) hc dX7_aloneBits_28 rfl rfl ?_
        refine J_callSi (pc := 29) hc (As := [((0, .long x3) : TV)]) (KX7_lowestOf x3) dX7_aloneBits_29 moX7_lowestOf tw1038 tw1039 tw2 tw1040 rfl (Nat.le_of_ble_eq_true rfl) (Nat.le_of_ble_eq_true rfl) (Nat.le_of_ble_eq_true rfl) (Nat.le_of_ble_eq_true rfl) (Nat.le_of_ble_eq_true rfl) rfl (fun v2 => ?_)
        refine J_istore (pc := 32) (l' := [none, none, some ((0, .int x2) : TV), some ((0, .long x3) : TV), none, some ((0, .int x5) : TV), some ((0, .int x6) : TV), some ((0, .int x7) : TV), some ((0, .int v2) : TV)]) hc dX7_aloneBits_32 (by decide) rfl rfl ?_
        refine J_iload (pc := 34) hc dX7_aloneBits_34 rfl ?_
        refine J_iload (pc := 36) hc dX7_aloneBits_36 rfl ?_
        refine J_iload (pc := 38) hc dX7_aloneBits_38 rfl ?_
        refine J_isub (pc := 40) hc dX7_aloneBits_40 ?_
        refine J_callSi (pc := 41) hc (As := [((0, .int (v2 - x6)) : TV)]) (KX7_numberBits (v2 - x6)) dX7_aloneBits_41 moX7_numberBits tw1041 tw1033 tw2 tw1034 rfl (Nat.le_of_ble_eq_true rfl) (Nat.le_of_ble_eq_true rfl) (Nat.le_of_ble_eq_true rfl) (Nat.le_of_ble_eq_true rfl) (Nat.le_of_ble_eq_true rfl) rfl (fun v3 => ?_)
        refine J_iadd (pc := 44) hc dX7_aloneBits_44 ?_
        refine J_nmi (fun v4 => ?_)
        refine J_istore (pc := 45) (l' := [none, none, some ((0, .int x2) : TV), some ((0, .long x3) : TV), none, some ((0, .int v4) : TV), some ((0, .int x6) : TV), some ((0, .int x7) : TV), some ((0, .int v2) : TV)]) hc dX7_aloneBits_45 (by decide) rfl rfl ?_
        refine J_iload (pc := 47) hc dX7_aloneBits_47 rfl ?_
        refine J_istore (pc := 49) (l' := [none, none, some ((0, .int x2) : TV), some ((0, .long x3) : TV), none, some ((0, .int v4) : TV), some ((0, .int v2) : TV), some ((0, .int x7) : TV), some ((0, .int v2) : TV)]) hc dX7_aloneBits_49 (by decide) rfl rfl ?_
        refine J_lload_n (pc := 51) hc dX7_aloneBits_51 rfl rfl ?_
        refine J_lload_n (pc := 52) hc dX7_aloneBits_52 rfl rfl ?_
        refine J_lconst (pc := 53) (v := 1) hc dX7_aloneBits_53 rfl ?_
        refine J_lsub (pc := 54) hc dX7_aloneBits_54 ?_
        refine J_land (pc := 55) hc dX7_aloneBits_55 ?_
        refine J_nml (fun v5 => ?_)
        refine J_lstore_n (pc := 56) (l' := [none, none, some ((0, .int x2) : TV), some ((0, .long v5) : TV), none, some ((0, .int v4) : TV), some ((0, .int v2) : TV), some ((0, .int x7) : TV), some ((0, .int v2) : TV)]) hc dX7_aloneBits_56 rfl (by decide) rfl rfl ?_
        refine J_iinc (pc := 57) (v := x7 + 1) (l' := [none, none, some ((0, .int x2) : TV), some ((0, .long v5) : TV), none, some ((0, .int v4) : TV), some ((0, .int v2) : TV), some ((0, .int (x7 + 1)) : TV), some ((0, .int v2) : TV)]) hc dX7_aloneBits_57 rfl rfl (by decide) rfl rfl ?_
        refine J_goto (pc := 60) (tgt := 15) hc dX7_aloneBits_60 (by decide) ?_
        refine J_sub (l' := [none, none, some ((0, .int x2) : TV), some ((0, .long v5) : TV), none, some ((0, .int v4) : TV), some ((0, .int v2) : TV), some ((0, .int (x7 + 1)) : TV), none]) ⟨rfl, ⟨rfl, ⟨rfl, ⟨rfl, ⟨rfl, trivial⟩⟩⟩⟩⟩ ?_
        exact ih x2 v5 v4 v2 (x7 + 1)
set_option maxRecDepth 100000 in
set_option maxHeartbeats 4000000 in
theorem jX7_aloneBits {κ : Cx} {fin : Int32 → Mm → Prop} (hc : Jc κ RX7 cX7_aloneBits 9 2 0 0 42) (he : Ed κ cX7_aloneBits 0 0 wI .ireturn fin) (x0 : Int64) (x2 : Int32) : Jg κ (wM κ) 9 fin 0 0 0 [some ((0, .long x0) : TV), none, some ((0, .int x2) : TV), none, none, none, none, none, none] [] (fX7_aloneBits x0 x2) := by
  unfold fX7_aloneBits
  refine J_lload_n (pc := 0) hc dX7_aloneBits_0 rfl rfl ?_
  refine J_iload_n (pc := 1) hc dX7_aloneBits_1 rfl rfl ?_
  refine J_callSj (pc := 2) hc (As := [((0, .long x0) : TV), ((0, .int x2) : TV)]) (KX7_changesOf x0 x2) dX7_aloneBits_2 moX7_changesOf tw992 tw499 tw2 tw500 rfl (Nat.le_of_ble_eq_true rfl) (Nat.le_of_ble_eq_true rfl) (Nat.le_of_ble_eq_true rfl) (Nat.le_of_ble_eq_true rfl) (Nat.le_of_ble_eq_true rfl) rfl (fun v6 => ?_)
  refine J_lstore_n (pc := 5) (l' := [some ((0, .long x0) : TV), none, some ((0, .int x2) : TV), some ((0, .long v6) : TV), none, none, none, none, none]) hc dX7_aloneBits_5 rfl (by decide) rfl rfl ?_
  refine J_iconst (pc := 6) (v := 0) hc dX7_aloneBits_6 (by decide) ?_
  refine J_istore (pc := 7) (l' := [some ((0, .long x0) : TV), none, some ((0, .int x2) : TV), some ((0, .long v6) : TV), none, some ((0, .int 0) : TV), none, none, none]) hc dX7_aloneBits_7 (by decide) rfl rfl ?_
  refine J_iconst (pc := 9) (v := 0) hc dX7_aloneBits_9 (by decide) ?_
  refine J_istore (pc := 10) (l' := [some ((0, .long x0) : TV), none, some ((0, .int x2) : TV), some ((0, .long v6) : TV), none, some ((0, .int 0) : TV), some ((0, .int 0) : TV), none, none]) hc dX7_aloneBits_10 (by decide) rfl rfl ?_
  refine J_iconst (pc := 12) (v := 0) hc dX7_aloneBits_12 (by decide) ?_
  refine J_istore (pc := 13) (l' := [some ((0, .long x0) : TV), none, some ((0, .int x2) : TV), some ((0, .long v6) : TV), none, some ((0, .int 0) : TV), some ((0, .int 0) : TV), some ((0, .int 0) : TV), none]) hc dX7_aloneBits_13 (by decide) rfl rfl ?_
  refine J_sub (l' := [none, none, some ((0, .int x2) : TV), some ((0, .long v6) : TV), none, some ((0, .int 0) : TV), some ((0, .int 0) : TV), some ((0, .int 0) : TV), none]) ⟨rfl, ⟨rfl, ⟨rfl, ⟨rfl, ⟨rfl, trivial⟩⟩⟩⟩⟩ ?_
  exact jX7_aloneBits_L15 hc he fu x2 v6 0 0 0
theorem moX7_aloneBits : MOk yX7_aloneBits 2 := ⟨by decide +kernel, by decide +kernel, by decide +kernel⟩
set_option maxRecDepth 100000 in
set_option maxHeartbeats 4000000 in
theorem KX7_aloneBits (x0 : Int64) (x2 : Int32) : Ct wI yX7_aloneBits cX7_aloneBits 9 (some .int) 2 0 0 42 [((0, .long x0) : TV), ((0, .int x2) : TV)] (fX7_aloneBits x0 x2) :=
  Ct_I (j := 6) (by decide +kernel) rfl rfl (Nat.le_of_ble_eq_true rfl) (fun κ fin hc he => jX7_aloneBits hc he x0 x2)
set_option maxRecDepth 100000 in
set_option maxHeartbeats 4000000 in
theorem jX7_isEvery {κ : Cx} {fin : Int32 → Mm → Prop} (hc : Jc κ RX7 cX7_isEvery 2 0 0 0 0) (he : EdZ κ cX7_isEvery 0 0 id fin) (x0 : Int32) (x1 : Int32) : Jg κ (wM κ) 2 fin 0 0 0 [some ((0, .int x0) : TV), some ((0, .int x1) : TV)] [] (fX7_isEvery x0 x1) := by
  unfold fX7_isEvery
  refine J_iload_n (pc := 0) hc dX7_isEvery_0 rfl rfl ?_
  refine J_if_le (pc := 1) (tgt := 14) hc dX7_isEvery_1 (by decide) ?_ ?_
  · refine J_iconst (pc := 14) (v := 0) hc dX7_isEvery_14 (by decide) ?_
    exact J_zret (pc := 15) he dX7_isEvery_15
  · refine J_iload_n (pc := 4) hc dX7_isEvery_4 rfl rfl ?_
    refine J_iload_n (pc := 5) hc dX7_isEvery_5 rfl rfl ?_
    refine J_irem (pc := 6) hc dX7_isEvery_6 ?_
    refine J_if_ne (pc := 7) (tgt := 14) hc dX7_isEvery_7 (by decide) ?_ ?_
    · refine J_iconst (pc := 14) (v := 0) hc dX7_isEvery_14 (by decide) ?_
      exact J_zret (pc := 15) he dX7_isEvery_15
    · refine J_iconst (pc := 10) (v := 1) hc dX7_isEvery_10 (by decide) ?_
      refine J_goto (pc := 11) (tgt := 15) hc dX7_isEvery_11 (by decide) ?_
      exact J_zret (pc := 15) he dX7_isEvery_15
theorem moX7_isEvery : MOk yX7_isEvery 2 := ⟨by decide +kernel, by decide +kernel, by decide +kernel⟩
set_option maxRecDepth 100000 in
set_option maxHeartbeats 4000000 in
theorem KX7_isEvery (x0 : Int32) (x1 : Int32) : Ct wI yX7_isEvery cX7_isEvery 2 (some .boolean) 0 0 0 0 [((0, .int x0) : TV), ((0, .int x1) : TV)] (fX7_isEvery x0 x1) :=
  Ct_Z ⟨rfl, rfl⟩ (j := 0) (by decide +kernel) rfl rfl (Nat.le_of_ble_eq_true rfl) (fun κ fin hc he => jX7_isEvery hc he x0 x1)
set_option maxRecDepth 100000 in
set_option maxHeartbeats 4000000 in
theorem jX6_append {κ : Cx} {fin : Unit → Mm → Prop} (hc : Jc κ RX6 cX6_append 2 0 0 0 0) (he : Ed κ cX6_append 0 0 wV .return_ fin) (x0 : Nat) (x1 : Int32) : Jg κ (wM κ) 2 fin 0 0 0 [some ((6, .ref x0) : TV), some ((0, .int x1) : TV)] [] (fX6_append x0 x1) := by
  unfold fX6_append
  refine J_aload_n (pc := 0) hc dX6_append_0 rfl rfl ?_
  refine J_getI (pc := 1) hc clX6 (k := 0) (Nat.le_of_ble_eq_true rfl) rfl tw114 (Or.inl rfl) dX6_append_1 (fun v1 => ?_)
  refine J_if_lt (pc := 4) (tgt := 38) hc dX6_append_4 (by decide) ?_ ?_
  · exact J_vret (pc := 38) he dX6_append_38
  · refine J_aload_n (pc := 7) hc dX6_append_7 rfl rfl ?_
    refine J_getI (pc := 8) hc clX6 (k := 0) (Nat.le_of_ble_eq_true rfl) rfl tw114 (Or.inl rfl) dX6_append_8 (fun v2 => ?_)
    refine J_sipush (pc := 11) (v := 900) hc dX6_append_11 (by decide) ?_
    refine J_icmp_ge (pc := 14) (tgt := 38) hc dX6_append_14 (by decide) ?_ ?_
    · exact J_vret (pc := 38) he dX6_append_38
    · refine J_aload_n (pc := 17) hc dX6_append_17 rfl rfl ?_
      refine J_getA (pc := 18) hc clX6 (k := 4) (kd := 10) (Nat.le_of_ble_eq_true rfl) rfl (Nat.le_of_ble_eq_true rfl) tw122 (Or.inl rfl) dX6_append_18 (fun v3 => ?_)
      refine J_aload_n (pc := 21) hc dX6_append_21 rfl rfl ?_
      refine J_getI (pc := 22) hc clX6 (k := 0) (Nat.le_of_ble_eq_true rfl) rfl tw114 (Or.inl rfl) dX6_append_22 (fun v4 => ?_)
      refine J_iload_n (pc := 25) hc dX6_append_25 rfl rfl ?_
      refine J_i2bN (pc := 26) hc dX6_append_26 ?_
      refine J_bast (pc := 27) hc dX6_append_27 ?_
      refine J_aload_n (pc := 28) hc dX6_append_28 rfl rfl ?_
      refine J_dup (pc := 29) hc dX6_append_29 rfl ?_
      refine J_getI (pc := 30) hc clX6 (k := 0) (Nat.le_of_ble_eq_true rfl) rfl tw114 (Or.inl rfl) dX6_append_30 (fun v5 => ?_)
      refine J_iconst (pc := 33) (v := 1) hc dX6_append_33 (by decide) ?_
      refine J_iadd (pc := 34) hc dX6_append_34 ?_
      refine J_putI (pc := 35) hc clX6 (k := 0) (Nat.le_of_ble_eq_true rfl) rfl rfl tw114 (Or.inl rfl) rfl dX6_append_35 ?_
      exact J_vret (pc := 38) he dX6_append_38
theorem moX6_append : MOk yX6_append 1 := ⟨by decide +kernel, by decide +kernel, by decide +kernel⟩
set_option maxRecDepth 100000 in
set_option maxHeartbeats 4000000 in
theorem KX6_append (x0 : Nat) (x1 : Int32) : Ct wV yX6_append cX6_append 2 none 0 0 0 0 [((6, .ref x0) : TV), ((0, .int x1) : TV)] (fX6_append x0 x1) :=
  Ct_V (j := 0) (by decide +kernel) rfl rfl (Nat.le_of_ble_eq_true rfl) (fun κ fin hc he hin => jX6_append hc he x0 x1)
set_option maxRecDepth 100000 in
set_option maxHeartbeats 4000000 in
theorem jX7_colourAt {κ : Cx} {fin : Int32 → Mm → Prop} (hc : Jc κ RX7 cX7_colourAt 3 0 0 0 0) (he : Ed κ cX7_colourAt 0 0 wI .ireturn fin) (x0 : Int64) (x2 : Int32) : Jg κ (wM κ) 3 fin 0 0 0 [some ((0, .long x0) : TV), none, some ((0, .int x2) : TV)] [] (fX7_colourAt x0 x2) := by
  unfold fX7_colourAt
  refine J_lload_n (pc := 0) hc dX7_colourAt_0 rfl rfl ?_
  refine J_iload_n (pc := 1) hc dX7_colourAt_1 rfl rfl ?_
  refine J_lushrN (pc := 2) hc dX7_colourAt_2 ?_
  refine J_lconst (pc := 3) (v := 1) hc dX7_colourAt_3 rfl ?_
  refine J_land (pc := 4) hc dX7_colourAt_4 ?_
  refine J_l2i (pc := 5) hc dX7_colourAt_5 ?_
  exact J_iret (pc := 6) he dX7_colourAt_6
theorem moX7_colourAt : MOk yX7_colourAt 2 := ⟨by decide +kernel, by decide +kernel, by decide +kernel⟩
set_option maxRecDepth 100000 in
set_option maxHeartbeats 4000000 in
theorem KX7_colourAt (x0 : Int64) (x2 : Int32) : Ct wI yX7_colourAt cX7_colourAt 3 (some .int) 0 0 0 0 [((0, .long x0) : TV), ((0, .int x2) : TV)] (fX7_colourAt x0 x2) :=
  Ct_I (j := 0) (by decide +kernel) rfl rfl (Nat.le_of_ble_eq_true rfl) (fun κ fin hc he => jX7_colourAt hc he x0 x2)
set_option maxRecDepth 100000 in
set_option maxHeartbeats 4000000 in
theorem jX7_changeAt_L29 {κ : Cx} {fin : Int32 → Mm → Prop} (hc : Jc κ RX7 cX7_changeAt 6 2 0 0 42) (he : Ed κ cX7_changeAt 0 0 wI .ireturn fin) (x3 : Int64) : Jg κ (wM κ) 6 fin 0 0 29 [none, none, none, some ((0, .long x3) : TV), none, none] [] (fX7_changeAt_L29 x3) := by
  unfold fX7_changeAt_L29
  refine J_lload_n (pc := 29) hc dX7_changeAt_29 rfl rfl ?_
  refine J_lconst (pc := 30) (v := 0) hc dX7_changeAt_30 rfl ?_
  refine J_lcmp (pc := 31) hc dX7_changeAt_31 ?_
  refine J_if_ne (pc := 32) (tgt := 39) hc dX7_changeAt_32 (by decide) ?_ ?_
  · refine J_lload_n (pc := 39) hc dX7_changeAt_39 rfl rfl ?_
    refine J_callSi (pc := 40) hc (As := [((0, .long x3) : TV)]) (KX7_lowestOf x3) dX7_changeAt_40 moX7_lowestOf tw1038 tw1039 tw2 tw1040 rfl (Nat.le_of_ble_eq_true rfl) (Nat.le_of_ble_eq_true rfl) (Nat.le_of_ble_eq_true rfl) (Nat.le_of_ble_eq_true rfl) (Nat.le_of_ble_eq_true rfl) rfl (fun v1 => ?_)
    exact J_iret (pc := 43) he dX7_changeAt_43
  · refine J_iconst (pc := 35) (v := (-1)) hc dX7_changeAt_35 (by decide) ?_
    refine J_goto (pc := 36) (tgt := 43) hc dX7_changeAt_36 (by decide) ?_
    exact J_iret (pc := 43) he dX7_changeAt_43
set_option maxRecDepth 100000 in
set_option maxHeartbeats 4000000 in
theorem jX7_changeAt_L5 {κ : Cx} {fin : Int32 → Mm → Prop} (hc : Jc κ RX7 cX7_changeAt 6 2 0 0 42) (he : Ed κ cX7_changeAt 0 0 wI .ireturn fin) : ∀ (n : Nat) (x2 : Int32) (x3 : Int64) (x5 : Int32), Jg κ (wM κ) 6 fin 0 0 5 [none, none, some ((0, .int x2) : TV), some ((0, .long x3) : TV), none, some ((0, .int x5) : TV)] [] (fX7_changeAt_L5 n x2 x3 x5) := by
  intro n
  induction n with
  | zero => intro x2 x3 x5; exact J_fail
  | succ n ih =>
    intro x2 x3 x5
    unfold fX7_changeAt_L5
    refine J_iload (pc := 5) hc dX7_changeAt_5 rfl ?_
    refine J_iload_n (pc := 7) hc dX7_changeAt_7 rfl rfl ?_
    refine J_icmp_ge (pc := 8) (tgt := 29) hc dX7_changeAt_8 (by decide) ?_ ?_
    · refine J_sub (l' := [none, none, none, some ((0, .long x3) : TV), none, none]) ⟨rfl, trivial⟩ ?_
      exact jX7_changeAt_L29 hc he x3
    · refine J_lload_n (pc := 11) hc dX7_changeAt_11 rfl rfl ?_
      refine J_lconst (pc := 12) (v := 0) hc dX7_changeAt_12 rfl ?_
      refine J_lcmp (pc := 13) hc dX7_changeAt_13 ?_
      refine J_if_eq (pc := 14) (tgt := 29) hc dX7_changeAt_14 (by decide) ?_ ?_
      · refine J_sub (l' := [none, none, none, some ((0, .long x3) : TV), none, none]) ⟨rfl, trivial⟩ ?_
        exact jX7_changeAt_L29 hc he x3
      · refine J_lload_n (pc := 17) hc dX7_changeAt_17 rfl rfl ?_
        refine J_lload_n (pc := 18) hc dX7_changeAt_18 rfl rfl ?_
        refine J_lconst (pc := 19) (v := 1) hc dX7_changeAt_19 rfl ?_
        refine J_lsub (pc := 20) hc dX7_changeAt_20 ?_
        refine J_land (pc := 21) hc dX7_changeAt_21 ?_
        refine J_nml (fun v2 => ?_)
        refine J_lstore_n (pc := 22) (l' := [none, none, some ((0, .int x2) : TV), some ((0, .long v2) : TV), none, some ((0, .int x5) : TV)]) hc dX7_changeAt_22 rfl (by decide) rfl rfl ?_
        refine J_iinc (pc := 23) (v := x5 + 1) (l' := [none, none, some ((0, .int x2) : TV), some ((0, .long v2) : TV), none, some ((0, .int (x5 + 1)) : TV)]) hc dX7_changeAt_23 rfl rfl (by decide) rfl rfl ?_
        refine J_goto (pc := 26) (tgt := 5) hc dX7_changeAt_26 (by decide) ?_
        refine J_sub (l' := [none, none, some ((0, .int x2) : TV), some ((0, .long v2) : TV), none, some ((0, .int (x5 + 1)) : TV)]) ⟨rfl, ⟨rfl, ⟨rfl, trivial⟩⟩⟩ ?_
        exact ih x2 v2 (x5 + 1)
set_option maxRecDepth 100000 in
set_option maxHeartbeats 4000000 in
theorem jX7_changeAt {κ : Cx} {fin : Int32 → Mm → Prop} (hc : Jc κ RX7 cX7_changeAt 6 2 0 0 42) (he : Ed κ cX7_changeAt 0 0 wI .ireturn fin) (x0 : Int64) (x2 : Int32) : Jg κ (wM κ) 6 fin 0 0 0 [some ((0, .long x0) : TV), none, some ((0, .int x2) : TV), none, none, none] [] (fX7_changeAt x0 x2) := by
  unfold fX7_changeAt
  refine J_lload_n (pc := 0) hc dX7_changeAt_0 rfl rfl ?_
  refine J_lstore_n (pc := 1) (l' := [some ((0, .long x0) : TV), none, some ((0, .int x2) : TV), some ((0, .long x0) : TV), none, none]) hc dX7_changeAt_1 rfl (by decide) rfl rfl ?_
  refine J_iconst (pc := 2) (v := 0) hc dX7_changeAt_2 (by decide) ?_
  refine J_istore (pc := 3) (l' := [some ((0, .long x0) : TV), none, some ((0, .int x2) : TV), some ((0, .long x0) : TV), none, some ((0, .int 0) : TV)]) hc dX7_changeAt_3 (by decide) rfl rfl ?_
  refine J_sub (l' := [none, none, some ((0, .int x2) : TV), some ((0, .long x0) : TV), none, some ((0, .int 0) : TV)]) ⟨rfl, ⟨rfl, ⟨rfl, trivial⟩⟩⟩ ?_
  exact jX7_changeAt_L5 hc he fu x2 x0 0
theorem moX7_changeAt : MOk yX7_changeAt 2 := ⟨by decide +kernel, by decide +kernel, by decide +kernel⟩
set_option maxRecDepth 100000 in
set_option maxHeartbeats 4000000 in
theorem KX7_changeAt (x0 : Int64) (x2 : Int32) : Ct wI yX7_changeAt cX7_changeAt 6 (some .int) 2 0 0 42 [((0, .long x0) : TV), ((0, .int x2) : TV)] (fX7_changeAt x0 x2) :=
  Ct_I (j := 3) (by decide +kernel) rfl rfl (Nat.le_of_ble_eq_true rfl) (fun κ fin hc he => jX7_changeAt hc he x0 x2)
set_option maxRecDepth 100000 in
set_option maxHeartbeats 4000000 in
theorem jX7_runAt_L56 {κ : Cx} {fin : Int32 → Mm → Prop} (hc : Jc κ RX7 cX7_runAt 8 3 0 0 67) (he : Ed κ cX7_runAt 0 0 wI .ireturn fin) (x6 : Int32) (s0 : Int32) : Jg κ (wM κ) 8 fin 0 0 56 [none, none, none, none, none, none, some ((0, .int x6) : TV), none] [((0, .int s0) : TV)] (fX7_runAt_L56 x6 s0) := by
  unfold fX7_runAt_L56
  refine J_iload (pc := 56) hc dX7_runAt_56 rfl ?_
  refine J_isub (pc := 58) hc dX7_runAt_58 ?_
  exact J_iret (pc := 59) he dX7_runAt_59
set_option maxRecDepth 100000 in
set_option maxHeartbeats 4000000 in
theorem jX7_runAt_L34 {κ : Cx} {fin : Int32 → Mm → Prop} (hc : Jc κ RX7 cX7_runAt 8 3 0 0 67) (he : Ed κ cX7_runAt 0 0 wI .ireturn fin) (x2 : Int32) (x3 : Int32) (x4 : Int64) (s0 : Int32) : Jg κ (wM κ) 8 fin 0 0 34 [none, none, some ((0, .int x2) : TV), some ((0, .int x3) : TV), some ((0, .long x4) : TV), none, none, none] [((0, .int s0) : TV)] (fX7_runAt_L34 x2 x3 x4 s0) := by
  unfold fX7_runAt_L34
  refine J_istore (pc := 34) (l' := [none, none, some ((0, .int x2) : TV), some ((0, .int x3) : TV), some ((0, .long x4) : TV), none, some ((0, .int s0) : TV), none]) hc dX7_runAt_34 (by decide) rfl rfl ?_
  refine J_lload (pc := 36) hc dX7_runAt_36 rfl ?_
  refine J_iload_n (pc := 38) hc dX7_runAt_38 rfl rfl ?_
  refine J_callSi (pc := 39) hc (As := [((0, .long x4) : TV), ((0, .int x3) : TV)]) (KX7_changeAt x4 x3) dX7_runAt_39 moX7_changeAt tw1205 tw1206 tw2 tw1207 rfl (Nat.le_of_ble_eq_true rfl) (Nat.le_of_ble_eq_true rfl) (Nat.le_of_ble_eq_true rfl) (Nat.le_of_ble_eq_true rfl) (Nat.le_of_ble_eq_true rfl) rfl (fun v1 => ?_)
  refine J_istore (pc := 42) (l' := [none, none, some ((0, .int x2) : TV), some ((0, .int x3) : TV), some ((0, .long x4) : TV), none, some ((0, .int s0) : TV), some ((0, .int v1) : TV)]) hc dX7_runAt_42 (by decide) rfl rfl ?_
  refine J_iload (pc := 44) hc dX7_runAt_44 rfl ?_
  refine J_iconst (pc := 46) (v := (-1)) hc dX7_runAt_46 (by decide) ?_
  refine J_icmp_ne (pc := 47) (tgt := 54) hc dX7_runAt_47 (by decide) ?_ ?_
  · refine J_iload (pc := 54) hc dX7_runAt_54 rfl ?_
    refine J_sub (l' := [none, none, none, none, none, none, some ((0, .int s0) : TV), none]) ⟨rfl, trivial⟩ ?_
    exact jX7_runAt_L56 hc he s0 v1
  · refine J_iload_n (pc := 50) hc dX7_runAt_50 rfl rfl ?_
    refine J_goto (pc := 51) (tgt := 56) hc dX7_runAt_51 (by decide) ?_
    refine J_sub (l' := [none, none, none, none, none, none, some ((0, .int s0) : TV), none]) ⟨rfl, trivial⟩ ?_
    exact jX7_runAt_L56 hc he s0 x2
set_option maxRecDepth 100000 in
set_option maxHeartbeats 4000000 in
theorem jX7_runAt {κ : Cx} {fin : Int32 → Mm → Prop} (hc : Jc κ RX7 cX7_runAt 8 3 0 0 67) (he : Ed κ cX7_runAt 0 0 wI .ireturn fin) (x0 : Int64) (x2 : Int32) (x3 : Int32) : Jg κ (wM κ) 8 fin 0 0 0 [some ((0, .long x0) : TV), none, some ((0, .int x2) : TV), some ((0, .int x3) : TV), none, none, none, none] [] (fX7_runAt x0 x2 x3) := by
  unfold fX7_runAt
  refine J_lload_n (pc := 0) hc dX7_runAt_0 rfl rfl ?_
  refine J_iload_n (pc := 1) hc dX7_runAt_1 rfl rfl ?_
  refine J_callSj (pc := 2) hc (As := [((0, .long x0) : TV), ((0, .int x2) : TV)]) (KX7_changesOf x0 x2) dX7_runAt_2 moX7_changesOf tw992 tw499 tw2 tw500 rfl (Nat.le_of_ble_eq_true rfl) (Nat.le_of_ble_eq_true rfl) (Nat.le_of_ble_eq_true rfl) (Nat.le_of_ble_eq_true rfl) (Nat.le_of_ble_eq_true rfl) rfl (fun v2 => ?_)
  refine J_lstore (pc := 5) (l' := [some ((0, .long x0) : TV), none, some ((0, .int x2) : TV), some ((0, .int x3) : TV), some ((0, .long v2) : TV), none, none, none]) hc dX7_runAt_5 (by decide) rfl rfl ?_
  refine J_iload_n (pc := 7) hc dX7_runAt_7 rfl rfl ?_
  refine J_lload (pc := 8) hc dX7_runAt_8 rfl ?_
  refine J_callSi (pc := 10) hc (As := [((0, .long v2) : TV)]) (KJ13_bitCount_95d88 v2) dX7_runAt_10 moJ13_bitCount_95d88 tw511 tw512 tw31 tw513 rfl (Nat.le_of_ble_eq_true rfl) (Nat.le_of_ble_eq_true rfl) (Nat.le_of_ble_eq_true rfl) (Nat.le_of_ble_eq_true rfl) (Nat.le_of_ble_eq_true rfl) rfl (fun v3 => ?_)
  refine J_icmp_le (pc := 13) (tgt := 18) hc dX7_runAt_13 (by decide) ?_ ?_
  · refine J_iload_n (pc := 18) hc dX7_runAt_18 rfl rfl ?_
    refine J_if_ne (pc := 19) (tgt := 26) hc dX7_runAt_19 (by decide) ?_ ?_
    · refine J_lload (pc := 26) hc dX7_runAt_26 rfl ?_
      refine J_iload_n (pc := 28) hc dX7_runAt_28 rfl rfl ?_
      refine J_iconst (pc := 29) (v := 1) hc dX7_runAt_29 (by decide) ?_
      refine J_isub (pc := 30) hc dX7_runAt_30 ?_
      refine J_callSi (pc := 31) hc (As := [((0, .long v2) : TV), ((0, .int (x3 - 1)) : TV)]) (KX7_changeAt v2 (x3 - 1)) dX7_runAt_31 moX7_changeAt tw1205 tw1206 tw2 tw1207 rfl (Nat.le_of_ble_eq_true rfl) (Nat.le_of_ble_eq_true rfl) (Nat.le_of_ble_eq_true rfl) (Nat.le_of_ble_eq_true rfl) (Nat.le_of_ble_eq_true rfl) rfl (fun v4 => ?_)
      refine J_sub (l' := [none, none, some ((0, .int x2) : TV), some ((0, .int x3) : TV), some ((0, .long v2) : TV), none, none, none]) ⟨rfl, ⟨rfl, ⟨rfl, trivial⟩⟩⟩ ?_
      exact jX7_runAt_L34 hc he x2 x3 v2 v4
    · refine J_iconst (pc := 22) (v := 0) hc dX7_runAt_22 (by decide) ?_
      refine J_goto (pc := 23) (tgt := 34) hc dX7_runAt_23 (by decide) ?_
      refine J_sub (l' := [none, none, some ((0, .int x2) : TV), some ((0, .int x3) : TV), some ((0, .long v2) : TV), none, none, none]) ⟨rfl, ⟨rfl, ⟨rfl, trivial⟩⟩⟩ ?_
      exact jX7_runAt_L34 hc he x2 x3 v2 0
  · refine J_iconst (pc := 16) (v := (-1)) hc dX7_runAt_16 (by decide) ?_
    exact J_iret (pc := 17) he dX7_runAt_17
theorem moX7_runAt : MOk yX7_runAt 3 := ⟨by decide +kernel, by decide +kernel, by decide +kernel⟩
set_option maxRecDepth 100000 in
set_option maxHeartbeats 4000000 in
theorem KX7_runAt (x0 : Int64) (x2 : Int32) (x3 : Int32) : Ct wI yX7_runAt cX7_runAt 8 (some .int) 3 0 0 67 [((0, .long x0) : TV), ((0, .int x2) : TV), ((0, .int x3) : TV)] (fX7_runAt x0 x2 x3) :=
  Ct_I (j := 4) (by decide +kernel) rfl rfl (Nat.le_of_ble_eq_true rfl) (fun κ fin hc he => jX7_runAt hc he x0 x2 x3)
set_option maxRecDepth 100000 in
set_option maxHeartbeats 4000000 in
theorem jX7_needColour_L9 {κ : Cx} {fin : (Nat ⊕ Unit) → Mm → Prop} (hc : Jc κ RX7 cX7_needColour 1 6 1 6 100) (he : Ed κ cX7_needColour 1 6 (fun (b : Unit) => wV b) .return_ (fun b M => fin (.inr b) M)) (hX : EdX κ 1 6 fin) : Jg κ (wM κ) 1 fin 0 0 9 [none] [] (fX7_needColour_L9) := by
  unfold fX7_needColour_L9
  exact J_throwW (pc := 9) (k := 0) (i := 16) hc hX cdX0 rfl tw649 tw29 dX7_needColour_9 dX7_needColour_12 dX7_needColour_13 dX7_needColour_16 dX7_needColour_19 (Nat.le_of_ble_eq_true rfl) (Nat.le_of_ble_eq_true rfl) (Nat.le_of_ble_eq_true rfl) (Nat.le_of_ble_eq_true rfl) (Nat.le_of_ble_eq_true rfl)
set_option maxRecDepth 100000 in
set_option maxHeartbeats 4000000 in
theorem jX7_needColour {κ : Cx} {fin : (Nat ⊕ Unit) → Mm → Prop} (hc : Jc κ RX7 cX7_needColour 1 6 1 6 100) (he : Ed κ cX7_needColour 1 6 (fun (b : Unit) => wV b) .return_ (fun b M => fin (.inr b) M)) (hX : EdX κ 1 6 fin) (x0 : Int32) : Jg κ (wM κ) 1 fin 0 0 0 [some ((0, .int x0) : TV)] [] (fX7_needColour x0) := by
  unfold fX7_needColour
  refine J_iload_n (pc := 0) hc dX7_needColour_0 rfl rfl ?_
  refine J_if_lt (pc := 1) (tgt := 9) hc dX7_needColour_1 (by decide) ?_ ?_
  · refine J_sub (l' := [none]) (show subL _ _ from trivial) ?_
    exact jX7_needColour_L9 hc he hX 
  · refine J_iload_n (pc := 4) hc dX7_needColour_4 rfl rfl ?_
    refine J_iconst (pc := 5) (v := 1) hc dX7_needColour_5 (by decide) ?_
    refine J_icmp_le (pc := 6) (tgt := 20) hc dX7_needColour_6 (by decide) ?_ ?_
    · refine J_widen (k := 1) (n := 6) (Nat.le_of_ble_eq_true rfl) (Nat.le_of_ble_eq_true rfl) ?_
      exact J_vretX (pc := 20) he dX7_needColour_20
    · refine J_sub (l' := [none]) (show subL _ _ from trivial) ?_
      exact jX7_needColour_L9 hc he hX 
theorem moX7_needColour : MOk yX7_needColour 1 := ⟨by decide +kernel, by decide +kernel, by decide +kernel⟩
set_option maxRecDepth 100000 in
set_option maxHeartbeats 4000000 in
theorem KX7_needColour (x0 : Int32) : CtX wV yX7_needColour cX7_needColour 1 none 6 1 6 100 [((0, .int x0) : TV)] (fX7_needColour x0) :=
  CtX_V (j := 0) (by decide +kernel) rfl rfl (Nat.le_of_ble_eq_true rfl) (fun κ fin hc he hX => jX7_needColour hc he hX x0)
