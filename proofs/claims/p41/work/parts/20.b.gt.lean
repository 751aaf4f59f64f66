set_option maxRecDepth 100000 in
set_option maxHeartbeats 8000000 in
theorem qJx4a65c_size_8abf5 {κ : Cx} {fin : Int32 → Mm → Prop} {mc ms : Nat} (hc : Jc κ RJx4a65c cJx4a65c_size_8abf5 1 1 mc ms 100) (he : EdW κ cJx4a65c_size_8abf5 tI .ireturn (fun _ => True) fin) (x0 : Nat) : Jw κ (wM κ) 1 fin 0 [some ((44, .ref x0) : TV)] [] (gJx4a65c_size_8abf5 x0) := by
  unfold gJx4a65c_size_8abf5
  refine N_aload_n (pc := 0) hc dJx4a65c_size_8abf5_0 rfl rfl ?_
  refine N_getI (pc := 1) hc clJx4a65c (k := 2) (Nat.le_of_ble_eq_true rfl) rfl tw757 (Or.inl rfl) dJx4a65c_size_8abf5_1 (fun v1 => ?_)
  exact N_ret (pc := 4) he dJx4a65c_size_8abf5_4 trivial rfl
theorem mzJx4a65c_size_8abf5 : MOk yJx4a65c_size_8abf5 0 := ⟨by decide +kernel, by decide +kernel, by decide +kernel⟩
set_option maxRecDepth 100000 in
set_option maxHeartbeats 8000000 in
theorem ZJx4a65c_size_8abf5 (x0 : Nat) : Cw tI yJx4a65c_size_8abf5 cJx4a65c_size_8abf5 1 (some .int) 1 100 [((44, .ref x0) : TV)] (gJx4a65c_size_8abf5 x0) :=
  Cw_I (j := 0) (by decide +kernel) rfl rfl (Nat.le_of_ble_eq_true rfl) (fun κ fin mc ms hc he => qJx4a65c_size_8abf5 hc he x0)
set_option maxRecDepth 100000 in
set_option maxHeartbeats 8000000 in
theorem qJ3_checkIndex_8e157_L9 {κ : Cx} {fin : Int32 → Mm → Prop} {mc ms : Nat} (hc : Jc κ RJ3 cJ3_checkIndex_8e157 3 1 mc ms 100) (he : EdW κ cJ3_checkIndex_8e157 tI .ireturn (fun _ => True) fin) : Jw κ (wM κ) 3 fin 9 [none, none, some ((23, va_rf none) : TV)] [] (gJ3_checkIndex_8e157_L9) := by
  unfold gJ3_checkIndex_8e157_L9
  exact N_fail
set_option maxRecDepth 100000 in
set_option maxHeartbeats 8000000 in
theorem qJ3_checkIndex_8e157 {κ : Cx} {fin : Int32 → Mm → Prop} {mc ms : Nat} (hc : Jc κ RJ3 cJ3_checkIndex_8e157 3 1 mc ms 100) (he : EdW κ cJ3_checkIndex_8e157 tI .ireturn (fun _ => True) fin) (x0 : Int32) (x1 : Int32) (x2 : Option Nat) : Jw κ (wM κ) 3 fin 0 [some ((0, .int x0) : TV), some ((0, .int x1) : TV), some ((23, va_rf x2) : TV)] [] (gJ3_checkIndex_8e157 x0 x1) := by
  unfold gJ3_checkIndex_8e157
  refine N_iload_n (pc := 0) hc dJ3_checkIndex_8e157_0 rfl rfl ?_
  refine N_if_lt (pc := 1) (tgt := 9) hc dJ3_checkIndex_8e157_1 (by decide) ?_ ?_
  · exact N_fail
  · refine N_iload_n (pc := 4) hc dJ3_checkIndex_8e157_4 rfl rfl ?_
    refine N_iload_n (pc := 5) hc dJ3_checkIndex_8e157_5 rfl rfl ?_
    refine N_icmp_lt (pc := 6) (tgt := 16) hc dJ3_checkIndex_8e157_6 (by decide) ?_ ?_
    · refine N_iload_n (pc := 16) hc dJ3_checkIndex_8e157_16 rfl rfl ?_
      exact N_ret (pc := 17) he dJ3_checkIndex_8e157_17 trivial rfl
    · exact N_fail
theorem mzJ3_checkIndex_8e157 : MOk yJ3_checkIndex_8e157 3 := ⟨by decide +kernel, by decide +kernel, by decide +kernel⟩
set_option maxRecDepth 100000 in
set_option maxHeartbeats 8000000 in
theorem ZJ3_checkIndex_8e157 (x0 : Int32) (x1 : Int32) (x2 : Option Nat) : Cw tI yJ3_checkIndex_8e157 cJ3_checkIndex_8e157 3 (some .int) 1 100 [((0, .int x0) : TV), ((0, .int x1) : TV), ((23, va_rf x2) : TV)] (gJ3_checkIndex_8e157 x0 x1) := by
  cases x2 <;> exact
  Cw_I (j := 0) (by decide +kernel) rfl rfl (Nat.le_of_ble_eq_true rfl) (fun κ fin mc ms hc he => qJ3_checkIndex_8e157 hc he x0 x1 _)
set_option maxRecDepth 100000 in
set_option maxHeartbeats 8000000 in
theorem qJ15_checkIndex_7cf53 {κ : Cx} {fin : Int32 → Mm → Prop} {mc ms : Nat} (hc : Jc κ RJ15 cJ15_checkIndex_7cf53 2 2 mc ms 122) (he : EdW κ cJ15_checkIndex_7cf53 tI .ireturn (fun _ => True) fin) (x0 : Int32) (x1 : Int32) : Jw κ (wM κ) 2 fin 0 [some ((0, .int x0) : TV), some ((0, .int x1) : TV)] [] (gJ15_checkIndex_7cf53 x0 x1) := by
  unfold gJ15_checkIndex_7cf53
  refine N_iload_n (pc := 0) hc dJ15_checkIndex_7cf53_0 rfl rfl ?_
  refine N_iload_n (pc := 1) hc dJ15_checkIndex_7cf53_1 rfl rfl ?_
  refine N_null (pc := 2) (k := 23) hc dJ15_checkIndex_7cf53_2 ?_
  refine N_callS (pc := 3) hc (As := [((0, .int x0) : TV), ((0, .int x1) : TV), ((23, va_rf none) : TV)]) (ZJ3_checkIndex_8e157 x0 x1 (none : Option Nat)) dJ15_checkIndex_7cf53_3 mzJ3_checkIndex_8e157 tw1065 tw382 tw22 tw383 rfl (Nat.le_of_ble_eq_true rfl) (Nat.le_of_ble_eq_true rfl) (Nat.le_of_ble_eq_true rfl) rfl (fun v1 => ?_)
  show Jw κ (wM κ) 2 fin 6 [some ((0, .int x0) : TV), some ((0, .int x1) : TV)] [((0, .int v1) : TV)] _
  exact N_ret (pc := 6) he dJ15_checkIndex_7cf53_6 trivial rfl
theorem mzJ15_checkIndex_7cf53 : MOk yJ15_checkIndex_7cf53 2 := ⟨by decide +kernel, by decide +kernel, by decide +kernel⟩
set_option maxRecDepth 100000 in
set_option maxHeartbeats 8000000 in
theorem ZJ15_checkIndex_7cf53 (x0 : Int32) (x1 : Int32) : Cw tI yJ15_checkIndex_7cf53 cJ15_checkIndex_7cf53 2 (some .int) 2 122 [((0, .int x0) : TV), ((0, .int x1) : TV)] (gJ15_checkIndex_7cf53 x0 x1) :=
  Cw_I (j := 0) (by decide +kernel) rfl rfl (Nat.le_of_ble_eq_true rfl) (fun κ fin mc ms hc he => qJ15_checkIndex_7cf53 hc he x0 x1)
set_option maxRecDepth 100000 in
set_option maxHeartbeats 8000000 in
theorem qJx4a65c_elementData_915e3 {κ : Cx} {fin : Nat → Mm → Prop} {mc ms : Nat} (hc : Jc κ RJx4a65c cJx4a65c_elementData_915e3 2 1 mc ms 100) (he : EdW κ cJx4a65c_elementData_915e3 (tA 16) .areturn (fun _ => True) fin) (x0 : Nat) (x1 : Int32) : Jw κ (wM κ) 2 fin 0 [some ((44, .ref x0) : TV), some ((0, .int x1) : TV)] [] (gJx4a65c_elementData_915e3 x0 x1) := by
  unfold gJx4a65c_elementData_915e3
  refine N_aload_n (pc := 0) hc dJx4a65c_elementData_915e3_0 rfl rfl ?_
  refine N_getA (pc := 1) hc clJx4a65c (k := 1) (kd := 17) (Nat.le_of_ble_eq_true rfl) rfl (Nat.le_of_ble_eq_true rfl) tw754 (Or.inl rfl) dJx4a65c_elementData_915e3_1 (fun v1 => ?_)
  refine N_iload_n (pc := 4) hc dJx4a65c_elementData_915e3_4 rfl rfl ?_
  refine N_17 (h := v1) [((0, .int x1) : TV)] ?_
  refine N_aald (pc := 5) hc dJx4a65c_elementData_915e3_5 (fun v2 => ?_)
  exact N_ret (pc := 6) he dJx4a65c_elementData_915e3_6 trivial rfl
theorem mzJx4a65c_elementData_915e3 : MOk yJx4a65c_elementData_915e3 1 := ⟨by decide +kernel, by decide +kernel, by decide +kernel⟩
set_option maxRecDepth 100000 in
set_option maxHeartbeats 8000000 in
theorem ZJx4a65c_elementData_915e3 (x0 : Nat) (x1 : Int32) : Cw (tA 16) yJx4a65c_elementData_915e3 cJx4a65c_elementData_915e3 2 (some (.object "java/lang/Object")) 1 100 [((44, .ref x0) : TV), ((0, .int x1) : TV)] (gJx4a65c_elementData_915e3 x0 x1) :=
  Cw_A (Or.inl ⟨_, rfl⟩) (j := 0) (by decide +kernel) rfl rfl (Nat.le_of_ble_eq_true rfl) (fun κ fin mc ms hc he => qJx4a65c_elementData_915e3 hc he x0 x1)
set_option maxRecDepth 100000 in
set_option maxHeartbeats 8000000 in
theorem qJx4a65c_get_915e3 {κ : Cx} {fin : Nat → Mm → Prop} {mc ms : Nat} (hc : Jc κ RJx4a65c cJx4a65c_get_915e3 2 3 mc ms 143) (he : EdW κ cJx4a65c_get_915e3 (tA 16) .areturn (fun _ => True) fin) (x0 : Nat) (x1 : Int32) : Jw κ (wM κ) 2 fin 0 [some ((44, .ref x0) : TV), some ((0, .int x1) : TV)] [] (gJx4a65c_get_915e3 x0 x1) := by
  unfold gJx4a65c_get_915e3
  refine N_iload_n (pc := 0) hc dJx4a65c_get_915e3_0 rfl rfl ?_
  refine N_aload_n (pc := 1) hc dJx4a65c_get_915e3_1 rfl rfl ?_
  refine N_getI (pc := 2) hc clJx4a65c (k := 2) (Nat.le_of_ble_eq_true rfl) rfl tw757 (Or.inl rfl) dJx4a65c_get_915e3_2 (fun v1 => ?_)
  refine N_callS (pc := 5) hc (As := [((0, .int x1) : TV), ((0, .int v1) : TV)]) (ZJ15_checkIndex_7cf53 x1 v1) dJx4a65c_get_915e3_5 mzJ15_checkIndex_7cf53 tw1062 tw1063 tw33 tw1064 rfl (Nat.le_of_ble_eq_true rfl) (Nat.le_of_ble_eq_true rfl) (Nat.le_of_ble_eq_true rfl) rfl (fun v2 => ?_)
  show Jw κ (wM κ) 2 fin 8 [some ((44, .ref x0) : TV), some ((0, .int x1) : TV)] [((0, .int v2) : TV)] _
  refine N_pop (pc := 8) hc dJx4a65c_get_915e3_8 rfl ?_
  refine N_aload_n (pc := 9) hc dJx4a65c_get_915e3_9 rfl rfl ?_
  refine N_iload_n (pc := 10) hc dJx4a65c_get_915e3_10 rfl rfl ?_
  refine N_callV (pc := 11) hc clJx4a65c (As := [((0, .int x1) : TV)]) (ZJx4a65c_elementData_915e3 x0 x1) dJx4a65c_get_915e3_11 mzJx4a65c_elementData_915e3 rfl tw1066 tw1067 tw1068 tw13 tw1069 rfl (Nat.le_of_ble_eq_true rfl) (Nat.le_of_ble_eq_true rfl) (Nat.le_of_ble_eq_true rfl) rfl (fun h3 => ?_)
  show Jw κ (wM κ) 2 fin 14 [some ((44, .ref x0) : TV), some ((0, .int x1) : TV)] [((16, .ref h3) : TV)] _
  exact N_ret (pc := 14) he dJx4a65c_get_915e3_14 trivial rfl
theorem mzJx4a65c_get_915e3 : MOk yJx4a65c_get_915e3 1 := ⟨by decide +kernel, by decide +kernel, by decide +kernel⟩
set_option maxRecDepth 100000 in
set_option maxHeartbeats 8000000 in
theorem ZJx4a65c_get_915e3 (x0 : Nat) (x1 : Int32) : Cw (tA 16) yJx4a65c_get_915e3 cJx4a65c_get_915e3 2 (some (.object "java/lang/Object")) 3 143 [((44, .ref x0) : TV), ((0, .int x1) : TV)] (gJx4a65c_get_915e3 x0 x1) :=
  Cw_A (Or.inl ⟨_, rfl⟩) (j := 0) (by decide +kernel) rfl rfl (Nat.le_of_ble_eq_true rfl) (fun κ fin mc ms hc he => qJx4a65c_get_915e3 hc he x0 x1)
set_option maxRecDepth 100000 in
set_option maxHeartbeats 8000000 in
theorem qJxa1e45_init_da8c8 {κ : Cx} {fin : Unit → Mm → Prop} {mc ms : Nat} (hc : Jc κ RJxa1e45 cJxa1e45_init_da8c8 1 1 mc ms 100) (he : EdW κ cJxa1e45_init_da8c8 tV .return_ (fun _ => True) fin) (hin : Mh κ = "<init>") (x0 : Nat) : Jw κ (wM κ) 1 fin 0 [some ((44, .ref x0) : TV)] [] (gJxa1e45_init_da8c8 x0) := by
  unfold gJxa1e45_init_da8c8
  refine N_aload_n (pc := 0) hc dJxa1e45_init_da8c8_0 rfl rfl ?_
  refine N_objInit (pc := 1) hc tw751 tw43 tw44 (Nat.le_of_ble_eq_true rfl) (Nat.le_of_ble_eq_true rfl) (Nat.le_of_ble_eq_true rfl) dJxa1e45_init_da8c8_1 ?_
  exact N_ret (pc := 4) he dJxa1e45_init_da8c8_4 trivial rfl
theorem mzJxa1e45_init_da8c8 : MOk yJxa1e45_init_da8c8 0 := ⟨by decide +kernel, by decide +kernel, by decide +kernel⟩
set_option maxRecDepth 100000 in
set_option maxHeartbeats 8000000 in
theorem ZJxa1e45_init_da8c8 (x0 : Nat) : Cw tV yJxa1e45_init_da8c8 cJxa1e45_init_da8c8 1 none 1 100 [((44, .ref x0) : TV)] (gJxa1e45_init_da8c8 x0) :=
  Cw_V (j := 0) (by decide +kernel) rfl rfl (Nat.le_of_ble_eq_true rfl) (fun κ fin mc ms hc he hin => qJxa1e45_init_da8c8 hc he hin x0)
set_option maxRecDepth 100000 in
set_option maxHeartbeats 8000000 in
theorem qJxc12de_init_da8c8 {κ : Cx} {fin : Unit → Mm → Prop} {mc ms : Nat} (hc : Jc κ RJxc12de cJxc12de_init_da8c8 1 2 mc ms 120) (he : EdW κ cJxc12de_init_da8c8 tV .return_ (fun _ => True) fin) (hin : Mh κ = "<init>") (x0 : Nat) : Jw κ (wM κ) 1 fin 0 [some ((44, .ref x0) : TV)] [] (gJxc12de_init_da8c8 x0) := by
  unfold gJxc12de_init_da8c8
  refine N_aload_n (pc := 0) hc dJxc12de_init_da8c8_0 rfl rfl ?_
  refine N_callI (pc := 1) hc (ci := 44) (As := []) (ZJxa1e45_init_da8c8 x0) dJxc12de_init_da8c8_1 mzJxa1e45_init_da8c8 rfl tw748 tw749 tw11 tw750 rfl (Nat.le_of_ble_eq_true rfl) (Nat.le_of_ble_eq_true rfl) (Nat.le_of_ble_eq_true rfl) rfl (fun _ => ?_)
  show Jw κ (wM κ) 1 fin 4 [some ((44, .ref x0) : TV)] [] _
  refine N_aload_n (pc := 4) hc dJxc12de_init_da8c8_4 rfl rfl ?_
  refine N_iconst (pc := 5) (v := 0) hc dJxc12de_init_da8c8_5 (by decide) ?_
  refine N_putI (pc := 6) hc clJx4a65c (k := 0) (Nat.le_of_ble_eq_true rfl) rfl rfl tw758 (Or.inl rfl) rfl dJxc12de_init_da8c8_6 ?_
  exact N_ret (pc := 9) he dJxc12de_init_da8c8_9 trivial rfl
theorem mzJxc12de_init_da8c8 : MOk yJxc12de_init_da8c8 0 := ⟨by decide +kernel, by decide +kernel, by decide +kernel⟩
set_option maxRecDepth 100000 in
set_option maxHeartbeats 8000000 in
theorem ZJxc12de_init_da8c8 (x0 : Nat) : Cw tV yJxc12de_init_da8c8 cJxc12de_init_da8c8 1 none 2 120 [((44, .ref x0) : TV)] (gJxc12de_init_da8c8 x0) :=
  Cw_V (j := 0) (by decide +kernel) rfl rfl (Nat.le_of_ble_eq_true rfl) (fun κ fin mc ms hc he hin => qJxc12de_init_da8c8 hc he hin x0)
set_option maxRecDepth 100000 in
set_option maxHeartbeats 8000000 in
theorem qJx4a65c_init_da8c8 {κ : Cx} {fin : Unit → Mm → Prop} {mc ms : Nat} (hc : Jc κ RJx4a65c cJx4a65c_init_da8c8 1 3 mc ms 140) (he : EdW κ cJx4a65c_init_da8c8 tV .return_ (fun _ => True) fin) (hin : Mh κ = "<init>") (x0 : Nat) : Jw κ (wM κ) 1 fin 0 [some ((44, .ref x0) : TV)] [] (gJx4a65c_init_da8c8 x0) := by
  unfold gJx4a65c_init_da8c8
  refine N_aload_n (pc := 0) hc dJx4a65c_init_da8c8_0 rfl rfl ?_
  refine N_callI (pc := 1) hc (ci := 44) (As := []) (ZJxc12de_init_da8c8 x0) dJx4a65c_init_da8c8_1 mzJxc12de_init_da8c8 rfl tw745 tw746 tw12 tw747 rfl (Nat.le_of_ble_eq_true rfl) (Nat.le_of_ble_eq_true rfl) (Nat.le_of_ble_eq_true rfl) rfl (fun _ => ?_)
  show Jw κ (wM κ) 1 fin 4 [some ((44, .ref x0) : TV)] [] _
  refine N_aload_n (pc := 4) hc dJx4a65c_init_da8c8_4 rfl rfl ?_
  refine N_getsE (pc := 5) hc tw752 dJx4a65c_init_da8c8_5 ?_
  refine N_putA (pc := 8) hc clJx4a65c (k := 1) (kd := 17) (Nat.le_of_ble_eq_true rfl) rfl (Nat.le_of_ble_eq_true rfl) (fun _ => rfl) (fun _ => rfl) tw754 (Or.inl rfl) rfl dJx4a65c_init_da8c8_8 ?_
  exact N_ret (pc := 11) he dJx4a65c_init_da8c8_11 trivial rfl
theorem mzJx4a65c_init_da8c8 : MOk yJx4a65c_init_da8c8 0 := ⟨by decide +kernel, by decide +kernel, by decide +kernel⟩
set_option maxRecDepth 100000 in
set_option maxHeartbeats 8000000 in
theorem ZJx4a65c_init_da8c8 (x0 : Nat) : Cw tV yJx4a65c_init_da8c8 cJx4a65c_init_da8c8 1 none 3 140 [((44, .ref x0) : TV)] (gJx4a65c_init_da8c8 x0) :=
  Cw_V (j := 0) (by decide +kernel) rfl rfl (Nat.le_of_ble_eq_true rfl) (fun κ fin mc ms hc he hin => qJx4a65c_init_da8c8 hc he hin x0)
set_option maxRecDepth 100000 in
set_option maxHeartbeats 8000000 in
theorem qJ6_valueOf_2dffe_L23 {κ : Cx} {fin : Nat → Mm → Prop} {mc ms : Nat} (hc : Jc κ RJ6 cJ6_valueOf_2dffe 1 1 mc ms 100) (he : EdW κ cJ6_valueOf_2dffe (tA 28) .areturn (fun _ => True) fin) : Jw κ (wM κ) 1 fin 23 [none] [] (gJ6_valueOf_2dffe_L23) := by
  unfold gJ6_valueOf_2dffe_L23
  exact N_fail
set_option maxRecDepth 100000 in
set_option maxHeartbeats 8000000 in
theorem qJ6_valueOf_2dffe {κ : Cx} {fin : Nat → Mm → Prop} {mc ms : Nat} (hc : Jc κ RJ6 cJ6_valueOf_2dffe 1 1 mc ms 100) (he : EdW κ cJ6_valueOf_2dffe (tA 28) .areturn (fun _ => True) fin) (x0 : Int32) : Jw κ (wM κ) 1 fin 0 [some ((0, .int x0) : TV)] [] (gJ6_valueOf_2dffe x0) := by
  unfold gJ6_valueOf_2dffe
  refine N_iload_n (pc := 0) hc dJ6_valueOf_2dffe_0 rfl rfl ?_
  refine N_bipush (pc := 1) (v := (-128)) hc dJ6_valueOf_2dffe_1 (by decide) ?_
  refine N_icmp_lt (pc := 3) (tgt := 23) hc dJ6_valueOf_2dffe_3 (by decide) ?_ ?_
  · exact N_fail
  · refine N_iload_n (pc := 6) hc dJ6_valueOf_2dffe_6 rfl rfl ?_
    refine N_getsH (pc := 7) hc tw1097 dJ6_valueOf_2dffe_7 ?_
    refine N_icmp_gt (pc := 10) (tgt := 23) hc dJ6_valueOf_2dffe_10 (by decide) ?_ ?_
    · exact N_fail
    · refine N_getsK (pc := 13) hc tw1099 dJ6_valueOf_2dffe_13 ?_
      refine N_iload_n (pc := 16) hc dJ6_valueOf_2dffe_16 rfl rfl ?_
      refine N_sipush (pc := 17) (v := 128) hc dJ6_valueOf_2dffe_17 (by decide) ?_
      refine N_iadd (pc := 20) hc dJ6_valueOf_2dffe_20 ?_
      refine N_kald (pc := 21) hc dJ6_valueOf_2dffe_21 (fun v1 => ?_)
      exact N_ret (pc := 22) he dJ6_valueOf_2dffe_22 trivial rfl
theorem mzJ6_valueOf_2dffe : MOk yJ6_valueOf_2dffe 1 := ⟨by decide +kernel, by decide +kernel, by decide +kernel⟩
set_option maxRecDepth 100000 in
set_option maxHeartbeats 8000000 in
theorem ZJ6_valueOf_2dffe (x0 : Int32) : Cw (tA 28) yJ6_valueOf_2dffe cJ6_valueOf_2dffe 1 (some (.object "java/lang/Integer")) 1 100 [((0, .int x0) : TV)] (gJ6_valueOf_2dffe x0) :=
  Cw_A (Or.inl ⟨_, rfl⟩) (j := 0) (by decide +kernel) rfl rfl (Nat.le_of_ble_eq_true rfl) (fun κ fin mc ms hc he => qJ6_valueOf_2dffe hc he x0)
set_option maxRecDepth 100000 in
set_option maxHeartbeats 8000000 in
theorem qJ8_newLength_cabcc_L21 {κ : Cx} {fin : Int32 → Mm → Prop} {mc ms : Nat} (hc : Jc κ RJ8 cJ8_newLength_cabcc 4 1 mc ms 100) (he : EdW κ cJ8_newLength_cabcc tI .ireturn (fun _ => True) fin) (x0 : Int32) : Jw κ (wM κ) 4 fin 21 [some ((0, .int x0) : TV), none, none, none] [] (gJ8_newLength_cabcc_L21 x0) := by
  unfold gJ8_newLength_cabcc_L21
  exact N_fail
set_option maxRecDepth 100000 in
set_option maxHeartbeats 8000000 in
theorem qJ8_newLength_cabcc {κ : Cx} {fin : Int32 → Mm → Prop} {mc ms : Nat} (hc : Jc κ RJ8 cJ8_newLength_cabcc 4 1 mc ms 100) (he : EdW κ cJ8_newLength_cabcc tI .ireturn (fun _ => True) fin) (x0 : Int32) (x1 : Int32) (x2 : Int32) : Jw κ (wM κ) 4 fin 0 [some ((0, .int x0) : TV), some ((0, .int x1) : TV), some ((0, .int x2) : TV), none] [] (gJ8_newLength_cabcc x0 x1 x2) := by
  unfold gJ8_newLength_cabcc
  refine N_iload_n (pc := 0) hc dJ8_newLength_cabcc_0 rfl rfl ?_
  refine N_iload_n (pc := 1) hc dJ8_newLength_cabcc_1 rfl rfl ?_
  refine N_iload_n (pc := 2) hc dJ8_newLength_cabcc_2 rfl rfl ?_
  refine N_mmax (pc := 3) hc dJ8_newLength_cabcc_3 tw905 tw906 tw19 tw907 (Nat.le_of_ble_eq_true rfl) (Nat.le_of_ble_eq_true rfl) (Nat.le_of_ble_eq_true rfl) ?_
  refine N_iadd (pc := 6) hc dJ8_newLength_cabcc_6 ?_
  refine N_nmi (fun v1 => ?_)
  refine N_istore_n (pc := 7) (l' := [some ((0, .int x0) : TV), some ((0, .int x1) : TV), some ((0, .int x2) : TV), some ((0, .int v1) : TV)]) hc dJ8_newLength_cabcc_7 rfl (by decide) rfl rfl ?_
  refine N_iconst (pc := 8) (v := 0) hc dJ8_newLength_cabcc_8 (by decide) ?_
  refine N_iload_n (pc := 9) hc dJ8_newLength_cabcc_9 rfl rfl ?_
  refine N_icmp_ge (pc := 10) (tgt := 21) hc dJ8_newLength_cabcc_10 (by decide) ?_ ?_
  · exact N_fail
  · refine N_iload_n (pc := 13) hc dJ8_newLength_cabcc_13 rfl rfl ?_
    refine N_ldcI (pc := 14) (v := 2147483639) hc dJ8_newLength_cabcc_14 tw908 ?_
    refine N_icmp_gt (pc := 16) (tgt := 21) hc dJ8_newLength_cabcc_16 (by decide) ?_ ?_
    · exact N_fail
    · refine N_iload_n (pc := 19) hc dJ8_newLength_cabcc_19 rfl rfl ?_
      exact N_ret (pc := 20) he dJ8_newLength_cabcc_20 trivial rfl
theorem mzJ8_newLength_cabcc : MOk yJ8_newLength_cabcc 3 := ⟨by decide +kernel, by decide +kernel, by decide +kernel⟩
set_option maxRecDepth 100000 in
set_option maxHeartbeats 8000000 in
theorem ZJ8_newLength_cabcc (x0 : Int32) (x1 : Int32) (x2 : Int32) : Cw tI yJ8_newLength_cabcc cJ8_newLength_cabcc 4 (some .int) 1 100 [((0, .int x0) : TV), ((0, .int x1) : TV), ((0, .int x2) : TV)] (gJ8_newLength_cabcc x0 x1 x2) :=
  Cw_I (j := 1) (by decide +kernel) rfl rfl (Nat.le_of_ble_eq_true rfl) (fun κ fin mc ms hc he => qJ8_newLength_cabcc hc he x0 x1 x2)
set_option maxRecDepth 100000 in
set_option maxHeartbeats 8000000 in
theorem qJ7_copyOf_6403c {κ : Cx} {fin : Nat → Mm → Prop} {mc ms : Nat} (hc : Jc κ RJ7 cJ7_copyOf_6403c 4 1 mc ms 100) (he : EdW κ cJ7_copyOf_6403c (tA 15) .areturn (fun _ => True) fin) (x0 : Nat) (x1 : Int32) : Jw κ (wM κ) 4 fin 0 [some ((15, .ref x0) : TV), some ((0, .int x1) : TV), some ((24, .ref MB) : TV), none] [] (gJ7_copyOf_6403c x0 x1) := by
  unfold gJ7_copyOf_6403c
  refine N_aload_n (pc := 0) hc dJ7_copyOf_6403c_0 rfl rfl ?_
  refine N_ldcM (pc := 1) hc tw941 dJ7_copyOf_6403c_1 ?_
  refine N_acmpM (pc := 3) (tgt := 13) hc dJ7_copyOf_6403c_3 (by decide) ?_
  refine N_iload_n (pc := 6) hc dJ7_copyOf_6403c_6 rfl rfl ?_
  refine N_newa15 (pc := 7) hc tw943 dJ7_copyOf_6403c_7 (fun h1 => ?_)
  refine N_goto (pc := 10) (tgt := 24) hc dJ7_copyOf_6403c_10 (by decide) ?_
  refine N_astore_n (pc := 24) (l' := [some ((15, .ref x0) : TV), some ((0, .int x1) : TV), some ((24, .ref MB) : TV), some ((15, .ref h1) : TV)]) hc dJ7_copyOf_6403c_24 rfl (by decide) rfl rfl ?_
  refine N_aload_n (pc := 25) hc dJ7_copyOf_6403c_25 rfl rfl ?_
  refine N_iconst (pc := 26) (v := 0) hc dJ7_copyOf_6403c_26 (by decide) ?_
  refine N_aload_n (pc := 27) hc dJ7_copyOf_6403c_27 rfl rfl ?_
  refine N_iconst (pc := 28) (v := 0) hc dJ7_copyOf_6403c_28 (by decide) ?_
  refine N_aload_n (pc := 29) hc dJ7_copyOf_6403c_29 rfl rfl ?_
  refine N_alen (pc := 30) hc dJ7_copyOf_6403c_30 (fun v2 => ?_)
  refine N_iload_n (pc := 31) hc dJ7_copyOf_6403c_31 rfl rfl ?_
  refine N_mmin (pc := 32) hc dJ7_copyOf_6403c_32 tw944 tw421 tw19 tw422 (Nat.le_of_ble_eq_true rfl) (Nat.le_of_ble_eq_true rfl) (Nat.le_of_ble_eq_true rfl) ?_
  refine N_cpR (pc := 35) hc tw945 tw947 tw946 tw21 (Nat.le_of_ble_eq_true rfl) (Nat.le_of_ble_eq_true rfl) (Nat.le_of_ble_eq_true rfl) dJ7_copyOf_6403c_35 ?_
  refine N_aload_n (pc := 38) hc dJ7_copyOf_6403c_38 rfl rfl ?_
  exact N_ret (pc := 39) he dJ7_copyOf_6403c_39 trivial rfl
theorem mzJ7_copyOf_6403c : MOk yJ7_copyOf_6403c 3 := ⟨by decide +kernel, by decide +kernel, by decide +kernel⟩
set_option maxRecDepth 100000 in
set_option maxHeartbeats 8000000 in
theorem ZJ7_copyOf_6403c (x0 : Nat) (x1 : Int32) : Cw (tA 15) yJ7_copyOf_6403c cJ7_copyOf_6403c 4 (some (.array (.object "java/lang/Object"))) 1 100 [((15, .ref x0) : TV), ((0, .int x1) : TV), ((24, .ref MB) : TV)] (gJ7_copyOf_6403c x0 x1) :=
  Cw_A (Or.inr ⟨_, rfl⟩) (j := 1) (by decide +kernel) rfl rfl (Nat.le_of_ble_eq_true rfl) (fun κ fin mc ms hc he => qJ7_copyOf_6403c hc he x0 x1)
set_option maxRecDepth 100000 in
set_option maxHeartbeats 8000000 in
theorem qJ7_copyOf_1904c {κ : Cx} {fin : Nat → Mm → Prop} {mc ms : Nat} (hc : Jc κ RJ7 cJ7_copyOf_1904c 2 2 mc ms 123) (he : EdW κ cJ7_copyOf_1904c (tA 15) .areturn (fun _ => True) fin) (x0 : Nat) (x1 : Int32) : Jw κ (wM κ) 2 fin 0 [some ((15, .ref x0) : TV), some ((0, .int x1) : TV)] [] (gJ7_copyOf_1904c x0 x1) := by
  unfold gJ7_copyOf_1904c
  refine N_aload_n (pc := 0) hc dJ7_copyOf_1904c_0 rfl rfl ?_
  refine N_iload_n (pc := 1) hc dJ7_copyOf_1904c_1 rfl rfl ?_
  refine N_aload_n (pc := 2) hc dJ7_copyOf_1904c_2 rfl rfl ?_
  refine N_getC (pc := 3) hc tw915 tw1658 tw916 tw937 (Nat.le_of_ble_eq_true rfl) (Nat.le_of_ble_eq_true rfl) (Nat.le_of_ble_eq_true rfl) dJ7_copyOf_1904c_3 ?_
  refine N_callS (pc := 6) hc (As := [((15, .ref x0) : TV), ((0, .int x1) : TV), ((24, .ref MB) : TV)]) (ZJ7_copyOf_6403c x0 x1) dJ7_copyOf_1904c_6 mzJ7_copyOf_6403c tw938 tw939 tw20 tw940 rfl (Nat.le_of_ble_eq_true rfl) (Nat.le_of_ble_eq_true rfl) (Nat.le_of_ble_eq_true rfl) rfl (fun h1 => ?_)
  show Jw κ (wM κ) 2 fin 9 [some ((15, .ref x0) : TV), some ((0, .int x1) : TV)] [((15, .ref h1) : TV)] _
  exact N_ret (pc := 9) he dJ7_copyOf_1904c_9 trivial rfl
theorem mzJ7_copyOf_1904c : MOk yJ7_copyOf_1904c 2 := ⟨by decide +kernel, by decide +kernel, by decide +kernel⟩
set_option maxRecDepth 100000 in
set_option maxHeartbeats 8000000 in
theorem ZJ7_copyOf_1904c (x0 : Nat) (x1 : Int32) : Cw (tA 15) yJ7_copyOf_1904c cJ7_copyOf_1904c 2 (some (.array (.object "java/lang/Object"))) 2 123 [((15, .ref x0) : TV), ((0, .int x1) : TV)] (gJ7_copyOf_1904c x0 x1) :=
  Cw_A (Or.inr ⟨_, rfl⟩) (j := 0) (by decide +kernel) rfl rfl (Nat.le_of_ble_eq_true rfl) (fun κ fin mc ms hc he => qJ7_copyOf_1904c hc he x0 x1)
set_option maxRecDepth 100000 in
set_option maxHeartbeats 8000000 in
theorem qJx4a65c_grow_92f84_L20 {κ : Cx} {fin : Nat → Mm → Prop} {mc ms : Nat} (hc : Jc κ RJx4a65c cJx4a65c_grow_92f84 4 3 mc ms 144) (he : EdW κ cJx4a65c_grow_92f84 (tA 15) .areturn (fun _ => True) fin) (x0 : Nat) (x1 : Int32) (x2 : Int32) : Jw κ (wM κ) 4 fin 20 [some ((44, .ref x0) : TV), some ((0, .int x1) : TV), some ((0, .int x2) : TV), none] [] (gJx4a65c_grow_92f84_L20 x0 x1 x2) := by
  unfold gJx4a65c_grow_92f84_L20
  refine N_iload_n (pc := 20) hc dJx4a65c_grow_92f84_20 rfl rfl ?_
  refine N_iload_n (pc := 21) hc dJx4a65c_grow_92f84_21 rfl rfl ?_
  refine N_iload_n (pc := 22) hc dJx4a65c_grow_92f84_22 rfl rfl ?_
  refine N_isub (pc := 23) hc dJx4a65c_grow_92f84_23 ?_
  refine N_iload_n (pc := 24) hc dJx4a65c_grow_92f84_24 rfl rfl ?_
  refine N_iconst (pc := 25) (v := 1) hc dJx4a65c_grow_92f84_25 (by decide) ?_
  refine N_ishr (pc := 26) hc dJx4a65c_grow_92f84_26 ?_
  refine N_callS (pc := 27) hc (As := [((0, .int x2) : TV), ((0, .int (x1 - x2)) : TV), ((0, .int (x2 >>> (1 &&& 31))) : TV)]) (ZJ8_newLength_cabcc x2 (x1 - x2) (x2 >>> (1 &&& 31))) dJx4a65c_grow_92f84_27 mzJ8_newLength_cabcc tw902 tw903 tw18 tw904 rfl (Nat.le_of_ble_eq_true rfl) (Nat.le_of_ble_eq_true rfl) (Nat.le_of_ble_eq_true rfl) rfl (fun v1 => ?_)
  show Jw κ (wM κ) 4 fin 30 [some ((44, .ref x0) : TV), some ((0, .int x1) : TV), some ((0, .int x2) : TV), none] [((0, .int v1) : TV)] _
  refine N_istore_n (pc := 30) (l' := [some ((44, .ref x0) : TV), some ((0, .int x1) : TV), some ((0, .int x2) : TV), some ((0, .int v1) : TV)]) hc dJx4a65c_grow_92f84_30 rfl (by decide) rfl rfl ?_
  refine N_aload_n (pc := 31) hc dJx4a65c_grow_92f84_31 rfl rfl ?_
  refine N_aload_n (pc := 32) hc dJx4a65c_grow_92f84_32 rfl rfl ?_
  refine N_getA (pc := 33) hc clJx4a65c (k := 1) (kd := 17) (Nat.le_of_ble_eq_true rfl) rfl (Nat.le_of_ble_eq_true rfl) tw754 (Or.inl rfl) dJx4a65c_grow_92f84_33 (fun v2 => ?_)
  refine N_iload_n (pc := 36) hc dJx4a65c_grow_92f84_36 rfl rfl ?_
  refine N_17 (h := v2) [((0, .int v1) : TV)] ?_
  refine N_callS (pc := 37) hc (As := [((15, .ref v2) : TV), ((0, .int v1) : TV)]) (ZJ7_copyOf_1904c v2 v1) dJx4a65c_grow_92f84_37 mzJ7_copyOf_1904c tw912 tw913 tw20 tw914 rfl (Nat.le_of_ble_eq_true rfl) (Nat.le_of_ble_eq_true rfl) (Nat.le_of_ble_eq_true rfl) rfl (fun h3 => ?_)
  show Jw κ (wM κ) 4 fin 40 [some ((44, .ref x0) : TV), some ((0, .int x1) : TV), some ((0, .int x2) : TV), some ((0, .int v1) : TV)] [((15, .ref h3) : TV), ((44, .ref x0) : TV)] _
  refine N_dup_x1 (pc := 40) hc dJx4a65c_grow_92f84_40 rfl rfl ?_
  refine N_to17 (h := h3) [] ?_
  refine N_putA (pc := 41) hc clJx4a65c (k := 1) (kd := 17) (Nat.le_of_ble_eq_true rfl) rfl (Nat.le_of_ble_eq_true rfl) (fun _ => rfl) (fun _ => rfl) tw754 (Or.inl rfl) rfl dJx4a65c_grow_92f84_41 ?_
  exact N_ret (pc := 44) he dJx4a65c_grow_92f84_44 trivial rfl
set_option maxRecDepth 100000 in
set_option maxHeartbeats 8000000 in
theorem qJx4a65c_grow_92f84 {κ : Cx} {fin : Nat → Mm → Prop} {mc ms : Nat} (hc : Jc κ RJx4a65c cJx4a65c_grow_92f84 4 3 mc ms 144) (he : EdW κ cJx4a65c_grow_92f84 (tA 15) .areturn (fun _ => True) fin) (x0 : Nat) (x1 : Int32) : Jw κ (wM κ) 4 fin 0 [some ((44, .ref x0) : TV), some ((0, .int x1) : TV), none, none] [] (gJx4a65c_grow_92f84 x0 x1) := by
  unfold gJx4a65c_grow_92f84
  refine N_aload_n (pc := 0) hc dJx4a65c_grow_92f84_0 rfl rfl ?_
  refine N_getA (pc := 1) hc clJx4a65c (k := 1) (kd := 17) (Nat.le_of_ble_eq_true rfl) rfl (Nat.le_of_ble_eq_true rfl) tw754 (Or.inl rfl) dJx4a65c_grow_92f84_1 (fun v4 => ?_)
  refine N_elen (pc := 4) hc dJx4a65c_grow_92f84_4 (fun v5 => ?_)
  refine N_istore_n (pc := 5) (l' := [some ((44, .ref x0) : TV), some ((0, .int x1) : TV), some ((0, .int v5) : TV), none]) hc dJx4a65c_grow_92f84_5 rfl (by decide) rfl rfl ?_
  refine N_iload_n (pc := 6) hc dJx4a65c_grow_92f84_6 rfl rfl ?_
  refine N_if_gt (pc := 7) (tgt := 20) hc dJx4a65c_grow_92f84_7 (by decide) ?_ ?_
  · refine N_sub (l' := [some ((44, .ref x0) : TV), some ((0, .int x1) : TV), some ((0, .int v5) : TV), none]) ⟨rfl, ⟨rfl, ⟨rfl, trivial⟩⟩⟩ ?_
    exact qJx4a65c_grow_92f84_L20 hc he x0 x1 v5
  · refine N_aload_n (pc := 10) hc dJx4a65c_grow_92f84_10 rfl rfl ?_
    refine N_getA (pc := 11) hc clJx4a65c (k := 1) (kd := 17) (Nat.le_of_ble_eq_true rfl) rfl (Nat.le_of_ble_eq_true rfl) tw754 (Or.inl rfl) dJx4a65c_grow_92f84_11 (fun v6 => ?_)
    refine N_getsE (pc := 14) hc tw752 dJx4a65c_grow_92f84_14 ?_
    refine N_acmpE (pc := 17) (tgt := 45) hc dJx4a65c_grow_92f84_17 (by decide) ?_ ?_
    · refine N_aload_n (pc := 45) hc dJx4a65c_grow_92f84_45 rfl rfl ?_
      refine N_bipush (pc := 46) (v := 10) hc dJx4a65c_grow_92f84_46 (by decide) ?_
      refine N_iload_n (pc := 48) hc dJx4a65c_grow_92f84_48 rfl rfl ?_
      refine N_mmax (pc := 49) hc dJx4a65c_grow_92f84_49 tw948 tw906 tw19 tw907 (Nat.le_of_ble_eq_true rfl) (Nat.le_of_ble_eq_true rfl) (Nat.le_of_ble_eq_true rfl) ?_
      refine N_newa15 (pc := 52) hc tw949 dJx4a65c_grow_92f84_52 (fun h7 => ?_)
      refine N_dup_x1 (pc := 55) hc dJx4a65c_grow_92f84_55 rfl rfl ?_
      refine N_to17 (h := h7) [] ?_
      refine N_putA (pc := 56) hc clJx4a65c (k := 1) (kd := 17) (Nat.le_of_ble_eq_true rfl) rfl (Nat.le_of_ble_eq_true rfl) (fun _ => rfl) (fun _ => rfl) tw754 (Or.inl rfl) rfl dJx4a65c_grow_92f84_56 ?_
      exact N_ret (pc := 59) he dJx4a65c_grow_92f84_59 trivial rfl
    · refine N_sub (l' := [some ((44, .ref x0) : TV), some ((0, .int x1) : TV), some ((0, .int v5) : TV), none]) ⟨rfl, ⟨rfl, ⟨rfl, trivial⟩⟩⟩ ?_
      exact qJx4a65c_grow_92f84_L20 hc he x0 x1 v5
theorem mzJx4a65c_grow_92f84 : MOk yJx4a65c_grow_92f84 1 := ⟨by decide +kernel, by decide +kernel, by decide +kernel⟩
set_option maxRecDepth 100000 in
set_option maxHeartbeats 8000000 in
theorem ZJx4a65c_grow_92f84 (x0 : Nat) (x1 : Int32) : Cw (tA 15) yJx4a65c_grow_92f84 cJx4a65c_grow_92f84 4 (some (.array (.object "java/lang/Object"))) 3 144 [((44, .ref x0) : TV), ((0, .int x1) : TV)] (gJx4a65c_grow_92f84 x0 x1) :=
  Cw_A (Or.inr ⟨_, rfl⟩) (j := 2) (by decide +kernel) rfl rfl (Nat.le_of_ble_eq_true rfl) (fun κ fin mc ms hc he => qJx4a65c_grow_92f84 hc he x0 x1)
set_option maxRecDepth 100000 in
set_option maxHeartbeats 8000000 in
theorem qJx4a65c_grow_d5877 {κ : Cx} {fin : Nat → Mm → Prop} {mc ms : Nat} (hc : Jc κ RJx4a65c cJx4a65c_grow_d5877 1 4 mc ms 167) (he : EdW κ cJx4a65c_grow_d5877 (tA 15) .areturn (fun _ => True) fin) (x0 : Nat) : Jw κ (wM κ) 1 fin 0 [some ((44, .ref x0) : TV)] [] (gJx4a65c_grow_d5877 x0) := by
  unfold gJx4a65c_grow_d5877
  refine N_aload_n (pc := 0) hc dJx4a65c_grow_d5877_0 rfl rfl ?_
  refine N_aload_n (pc := 1) hc dJx4a65c_grow_d5877_1 rfl rfl ?_
  refine N_getI (pc := 2) hc clJx4a65c (k := 2) (Nat.le_of_ble_eq_true rfl) rfl tw757 (Or.inl rfl) dJx4a65c_grow_d5877_2 (fun v1 => ?_)
  refine N_iconst (pc := 5) (v := 1) hc dJx4a65c_grow_d5877_5 (by decide) ?_
  refine N_iadd (pc := 6) hc dJx4a65c_grow_d5877_6 ?_
  refine N_callV (pc := 7) hc clJx4a65c (As := [((0, .int (v1 + 1)) : TV)]) (ZJx4a65c_grow_92f84 x0 (v1 + 1)) dJx4a65c_grow_d5877_7 mzJx4a65c_grow_92f84 rfl tw898 tw900 twp23 tw13 tw901 rfl (Nat.le_of_ble_eq_true rfl) (Nat.le_of_ble_eq_true rfl) (Nat.le_of_ble_eq_true rfl) rfl (fun h2 => ?_)
  show Jw κ (wM κ) 1 fin 10 [some ((44, .ref x0) : TV)] [((15, .ref h2) : TV)] _
  exact N_ret (pc := 10) he dJx4a65c_grow_d5877_10 trivial rfl
theorem mzJx4a65c_grow_d5877 : MOk yJx4a65c_grow_d5877 0 := ⟨by decide +kernel, by decide +kernel, by decide +kernel⟩
set_option maxRecDepth 100000 in
set_option maxHeartbeats 8000000 in
theorem ZJx4a65c_grow_d5877 (x0 : Nat) : Cw (tA 15) yJx4a65c_grow_d5877 cJx4a65c_grow_d5877 1 (some (.array (.object "java/lang/Object"))) 4 167 [((44, .ref x0) : TV)] (gJx4a65c_grow_d5877 x0) :=
  Cw_A (Or.inr ⟨_, rfl⟩) (j := 0) (by decide +kernel) rfl rfl (Nat.le_of_ble_eq_true rfl) (fun κ fin mc ms hc he => qJx4a65c_grow_d5877 hc he x0)
set_option maxRecDepth 100000 in
set_option maxHeartbeats 8000000 in
theorem qJx4a65c_add_72be8_L11 {κ : Cx} {fin : Unit → Mm → Prop} {mc ms : Nat} (hc : Jc κ RJx4a65c cJx4a65c_add_72be8 4 5 mc ms 187) (he : EdW κ cJx4a65c_add_72be8 tV .return_ (fun _ => True) fin) (x0 : Nat) (x1 : Nat) (x2 : Nat) (x3 : Int32) : Jw κ (wM κ) 4 fin 11 [some ((44, .ref x0) : TV), some ((16, .ref x1) : TV), some ((17, .ref x2) : TV), some ((0, .int x3) : TV)] [] (gJx4a65c_add_72be8_L11 x0 x1 x2 x3) := by
  unfold gJx4a65c_add_72be8_L11
  refine N_aload_n (pc := 11) hc dJx4a65c_add_72be8_11 rfl rfl ?_
  refine N_iload_n (pc := 12) hc dJx4a65c_add_72be8_12 rfl rfl ?_
  refine N_aload_n (pc := 13) hc dJx4a65c_add_72be8_13 rfl rfl ?_
  refine N_17 (h := x2) [((16, .ref x1) : TV), ((0, .int x3) : TV)] ?_
  refine N_aast (pc := 14) hc dJx4a65c_add_72be8_14 (Or.inr (Or.inl rfl)) ?_
  refine N_aload_n (pc := 15) hc dJx4a65c_add_72be8_15 rfl rfl ?_
  refine N_iload_n (pc := 16) hc dJx4a65c_add_72be8_16 rfl rfl ?_
  refine N_iconst (pc := 17) (v := 1) hc dJx4a65c_add_72be8_17 (by decide) ?_
  refine N_iadd (pc := 18) hc dJx4a65c_add_72be8_18 ?_
  refine N_putI (pc := 19) hc clJx4a65c (k := 2) (Nat.le_of_ble_eq_true rfl) rfl rfl tw757 (Or.inl rfl) rfl dJx4a65c_add_72be8_19 ?_
  exact N_ret (pc := 22) he dJx4a65c_add_72be8_22 trivial rfl
set_option maxRecDepth 100000 in
set_option maxHeartbeats 8000000 in
theorem qJx4a65c_add_72be8 {κ : Cx} {fin : Unit → Mm → Prop} {mc ms : Nat} (hc : Jc κ RJx4a65c cJx4a65c_add_72be8 4 5 mc ms 187) (he : EdW κ cJx4a65c_add_72be8 tV .return_ (fun _ => True) fin) (x0 : Nat) (x1 : Nat) (x2 : Nat) (x3 : Int32) : Jw κ (wM κ) 4 fin 0 [some ((44, .ref x0) : TV), some ((16, .ref x1) : TV), some ((17, .ref x2) : TV), some ((0, .int x3) : TV)] [] (gJx4a65c_add_72be8 x0 x1 x2 x3) := by
  unfold gJx4a65c_add_72be8
  refine N_iload_n (pc := 0) hc dJx4a65c_add_72be8_0 rfl rfl ?_
  refine N_aload_n (pc := 1) hc dJx4a65c_add_72be8_1 rfl rfl ?_
  refine N_elen (pc := 2) hc dJx4a65c_add_72be8_2 (fun v1 => ?_)
  refine N_icmp_ne (pc := 3) (tgt := 11) hc dJx4a65c_add_72be8_3 (by decide) ?_ ?_
  · refine N_sub (l' := [some ((44, .ref x0) : TV), some ((16, .ref x1) : TV), some ((17, .ref x2) : TV), some ((0, .int x3) : TV)]) ⟨rfl, ⟨rfl, ⟨rfl, ⟨rfl, trivial⟩⟩⟩⟩ ?_
    exact qJx4a65c_add_72be8_L11 hc he x0 x1 x2 x3
  · refine N_aload_n (pc := 6) hc dJx4a65c_add_72be8_6 rfl rfl ?_
    refine N_callV (pc := 7) hc clJx4a65c (As := []) (ZJx4a65c_grow_d5877 x0) dJx4a65c_add_72be8_7 mzJx4a65c_grow_d5877 rfl tw894 tw896 twp22 tw13 tw897 rfl (Nat.le_of_ble_eq_true rfl) (Nat.le_of_ble_eq_true rfl) (Nat.le_of_ble_eq_true rfl) rfl (fun h2 => ?_)
    show Jw κ (wM κ) 4 fin 10 [some ((44, .ref x0) : TV), some ((16, .ref x1) : TV), some ((17, .ref x2) : TV), some ((0, .int x3) : TV)] [((15, .ref h2) : TV)] _
    refine N_to17 (h := h2) [] ?_
    refine N_astore_n (pc := 10) (l' := [some ((44, .ref x0) : TV), some ((16, .ref x1) : TV), some ((17, .ref h2) : TV), some ((0, .int x3) : TV)]) hc dJx4a65c_add_72be8_10 rfl (by decide) rfl rfl ?_
    refine N_sub (l' := [some ((44, .ref x0) : TV), some ((16, .ref x1) : TV), some ((17, .ref h2) : TV), some ((0, .int x3) : TV)]) ⟨rfl, ⟨rfl, ⟨rfl, ⟨rfl, trivial⟩⟩⟩⟩ ?_
    exact qJx4a65c_add_72be8_L11 hc he x0 x1 h2 x3
theorem mzJx4a65c_add_72be8 : MOk yJx4a65c_add_72be8 3 := ⟨by decide +kernel, by decide +kernel, by decide +kernel⟩
set_option maxRecDepth 100000 in
set_option maxHeartbeats 8000000 in
theorem ZJx4a65c_add_72be8 (x0 : Nat) (x1 : Nat) (x2 : Nat) (x3 : Int32) : Cw tV yJx4a65c_add_72be8 cJx4a65c_add_72be8 4 none 5 187 [((44, .ref x0) : TV), ((16, .ref x1) : TV), ((17, .ref x2) : TV), ((0, .int x3) : TV)] (gJx4a65c_add_72be8 x0 x1 x2 x3) :=
  Cw_V (j := 0) (by decide +kernel) rfl rfl (Nat.le_of_ble_eq_true rfl) (fun κ fin mc ms hc he hin => qJx4a65c_add_72be8 hc he x0 x1 x2 x3)
set_option maxRecDepth 100000 in
set_option maxHeartbeats 8000000 in
theorem qJx4a65c_add_9ea2d {κ : Cx} {fin : Int32 → Mm → Prop} {mc ms : Nat} (hc : Jc κ RJx4a65c cJx4a65c_add_9ea2d 2 6 mc ms 210) (he : EdW κ cJx4a65c_add_9ea2d tI .ireturn (fun a => a = 0 ∨ a = 1) fin) (x0 : Nat) (x1 : Nat) : Jw κ (wM κ) 2 fin 0 [some ((44, .ref x0) : TV), some ((16, .ref x1) : TV)] [] (gJx4a65c_add_9ea2d x0 x1) := by
  unfold gJx4a65c_add_9ea2d
  refine N_aload_n (pc := 0) hc dJx4a65c_add_9ea2d_0 rfl rfl ?_
  refine N_dup (pc := 1) hc dJx4a65c_add_9ea2d_1 rfl ?_
  refine N_getI (pc := 2) hc clJx4a65c (k := 0) (Nat.le_of_ble_eq_true rfl) rfl tw761 (Or.inr tw760) dJx4a65c_add_9ea2d_2 (fun v1 => ?_)
  refine N_iconst (pc := 5) (v := 1) hc dJx4a65c_add_9ea2d_5 (by decide) ?_
  refine N_iadd (pc := 6) hc dJx4a65c_add_9ea2d_6 ?_
  refine N_putI (pc := 7) hc clJx4a65c (k := 0) (Nat.le_of_ble_eq_true rfl) rfl rfl tw761 (Or.inr tw760) rfl dJx4a65c_add_9ea2d_7 ?_
  refine N_aload_n (pc := 10) hc dJx4a65c_add_9ea2d_10 rfl rfl ?_
  refine N_aload_n (pc := 11) hc dJx4a65c_add_9ea2d_11 rfl rfl ?_
  refine N_aload_n (pc := 12) hc dJx4a65c_add_9ea2d_12 rfl rfl ?_
  refine N_getA (pc := 13) hc clJx4a65c (k := 1) (kd := 17) (Nat.le_of_ble_eq_true rfl) rfl (Nat.le_of_ble_eq_true rfl) tw754 (Or.inl rfl) dJx4a65c_add_9ea2d_13 (fun v2 => ?_)
  refine N_aload_n (pc := 16) hc dJx4a65c_add_9ea2d_16 rfl rfl ?_
  refine N_getI (pc := 17) hc clJx4a65c (k := 2) (Nat.le_of_ble_eq_true rfl) rfl tw757 (Or.inl rfl) dJx4a65c_add_9ea2d_17 (fun v3 => ?_)
  refine N_callV (pc := 20) hc clJx4a65c (As := [((16, .ref x1) : TV), ((17, .ref v2) : TV), ((0, .int v3) : TV)]) (ZJx4a65c_add_72be8 x0 x1 v2 v3) dJx4a65c_add_9ea2d_20 mzJx4a65c_add_72be8 rfl tw890 tw892 twp21 tw13 tw893 rfl (Nat.le_of_ble_eq_true rfl) (Nat.le_of_ble_eq_true rfl) (Nat.le_of_ble_eq_true rfl) rfl (fun _ => ?_)
  show Jw κ (wM κ) 2 fin 23 [some ((44, .ref x0) : TV), some ((16, .ref x1) : TV)] [] _
  refine N_iconst (pc := 23) (v := 1) hc dJx4a65c_add_9ea2d_23 (by decide) ?_
  exact N_zret (pc := 24) he dJx4a65c_add_9ea2d_24
theorem mzJx4a65c_add_9ea2d : MOk yJx4a65c_add_9ea2d 1 := ⟨by decide +kernel, by decide +kernel, by decide +kernel⟩
set_option maxRecDepth 100000 in
set_option maxHeartbeats 8000000 in
theorem ZJx4a65c_add_9ea2d (x0 : Nat) (x1 : Nat) : Cw tI yJx4a65c_add_9ea2d cJx4a65c_add_9ea2d 2 (some .boolean) 6 210 [((44, .ref x0) : TV), ((16, .ref x1) : TV)] (gJx4a65c_add_9ea2d x0 x1) :=
  Cw_Z ⟨rfl, rfl⟩ (j := 0) (by decide +kernel) rfl rfl (Nat.le_of_ble_eq_true rfl) (fun κ fin mc ms hc he => qJx4a65c_add_9ea2d hc he x0 x1)
set_option maxRecDepth 100000 in
set_option maxHeartbeats 8000000 in
theorem qJx35411_init_45d68 {κ : Cx} {fin : Unit → Mm → Prop} {mc ms : Nat} (hc : Jc κ RJx35411 cJx35411_init_45d68 2 1 mc ms 100) (he : EdW κ cJx35411_init_45d68 tV .return_ (fun _ => True) fin) (hin : Mh κ = "<init>") (x0 : Nat) (x1 : Nat) : Jw κ (wM κ) 2 fin 0 [some ((43, .ref x0) : TV), some ((44, .ref x1) : TV)] [] (gJx35411_init_45d68 x0 x1) := by
  unfold gJx35411_init_45d68
  refine N_aload_n (pc := 0) hc dJx35411_init_45d68_0 rfl rfl ?_
  refine N_aload_n (pc := 1) hc dJx35411_init_45d68_1 rfl rfl ?_
  refine N_putAF (pc := 2) hc hin clJx35411 (k := 3) (kd := 44) (Nat.le_of_ble_eq_true rfl) rfl (Nat.le_of_ble_eq_true rfl) (fun _ => rfl) (fun _ => rfl) tw848 rfl rfl rfl dJx35411_init_45d68_2 ?_
  refine N_aload_n (pc := 5) hc dJx35411_init_45d68_5 rfl rfl ?_
  refine N_objInit (pc := 6) hc tw844 tw43 tw44 (Nat.le_of_ble_eq_true rfl) (Nat.le_of_ble_eq_true rfl) (Nat.le_of_ble_eq_true rfl) dJx35411_init_45d68_6 ?_
  refine N_aload_n (pc := 9) hc dJx35411_init_45d68_9 rfl rfl ?_
  refine N_iconst (pc := 10) (v := (-1)) hc dJx35411_init_45d68_10 (by decide) ?_
  refine N_putI (pc := 11) hc clJx35411 (k := 1) (Nat.le_of_ble_eq_true rfl) rfl rfl tw846 (Or.inl rfl) rfl dJx35411_init_45d68_11 ?_
  refine N_aload_n (pc := 14) hc dJx35411_init_45d68_14 rfl rfl ?_
  refine N_aload_n (pc := 15) hc dJx35411_init_45d68_15 rfl rfl ?_
  refine N_getA (pc := 16) hc clJx35411 (k := 3) (kd := 44) (Nat.le_of_ble_eq_true rfl) rfl (Nat.le_of_ble_eq_true rfl) tw848 (Or.inl rfl) dJx35411_init_45d68_16 (fun v1 => ?_)
  refine N_getI (pc := 19) hc clJx4a65c (k := 0) (Nat.le_of_ble_eq_true rfl) rfl tw759 (Or.inr tw760) dJx35411_init_45d68_19 (fun v2 => ?_)
  refine N_putI (pc := 22) hc clJx35411 (k := 2) (Nat.le_of_ble_eq_true rfl) rfl rfl tw847 (Or.inl rfl) rfl dJx35411_init_45d68_22 ?_
  exact N_ret (pc := 25) he dJx35411_init_45d68_25 trivial rfl
theorem mzJx35411_init_45d68 : MOk yJx35411_init_45d68 1 := ⟨by decide +kernel, by decide +kernel, by decide +kernel⟩
set_option maxRecDepth 100000 in
set_option maxHeartbeats 8000000 in
theorem ZJx35411_init_45d68 (x0 : Nat) (x1 : Nat) : Cw tV yJx35411_init_45d68 cJx35411_init_45d68 2 none 1 100 [((43, .ref x0) : TV), ((44, .ref x1) : TV)] (gJx35411_init_45d68 x0 x1) :=
  Cw_V (j := 0) (by decide +kernel) rfl rfl (Nat.le_of_ble_eq_true rfl) (fun κ fin mc ms hc he hin => qJx35411_init_45d68 hc he hin x0 x1)
set_option maxRecDepth 100000 in
set_option maxHeartbeats 8000000 in
theorem qJx4a65c_iterator_32c93 {κ : Cx} {fin : Nat → Mm → Prop} {mc ms : Nat} (hc : Jc κ RJx4a65c cJx4a65c_iterator_32c93 1 2 mc ms 121) (he : EdW κ cJx4a65c_iterator_32c93 (tA 43) .areturn (fun _ => True) fin) (x0 : Nat) : Jw κ (wM κ) 1 fin 0 [some ((44, .ref x0) : TV)] [] (gJx4a65c_iterator_32c93 x0) := by
  unfold gJx4a65c_iterator_32c93
  refine N_new (pc := 0) hc clJx35411 dvJx35411 tw839 tw840 tw35 dJx4a65c_iterator_32c93_0 (fun h1 => ?_)
  refine N_dup (pc := 3) hc dJx4a65c_iterator_32c93_3 rfl ?_
  refine N_aload_n (pc := 4) hc dJx4a65c_iterator_32c93_4 rfl rfl ?_
  refine N_callI (pc := 5) hc (ci := 43) (As := [((44, .ref x0) : TV)]) (ZJx35411_init_45d68 h1 x0) dJx4a65c_iterator_32c93_5 mzJx35411_init_45d68 rfl tw841 tw842 tw35 tw843 rfl (Nat.le_of_ble_eq_true rfl) (Nat.le_of_ble_eq_true rfl) (Nat.le_of_ble_eq_true rfl) rfl (fun _ => ?_)
  show Jw κ (wM κ) 1 fin 8 [some ((44, .ref x0) : TV)] [((43, .ref h1) : TV)] _
  exact N_ret (pc := 8) he dJx4a65c_iterator_32c93_8 trivial rfl
theorem mzJx4a65c_iterator_32c93 : MOk yJx4a65c_iterator_32c93 0 := ⟨by decide +kernel, by decide +kernel, by decide +kernel⟩
set_option maxRecDepth 100000 in
set_option maxHeartbeats 8000000 in
theorem ZJx4a65c_iterator_32c93 (x0 : Nat) : Cw (tA 43) yJx4a65c_iterator_32c93 cJx4a65c_iterator_32c93 1 (some (.object "java/util/Iterator")) 2 121 [((44, .ref x0) : TV)] (gJx4a65c_iterator_32c93 x0) :=
  Cw_A (Or.inl ⟨_, rfl⟩) (j := 0) (by decide +kernel) rfl rfl (Nat.le_of_ble_eq_true rfl) (fun κ fin mc ms hc he => qJx4a65c_iterator_32c93 hc he x0)
set_option maxRecDepth 100000 in
set_option maxHeartbeats 8000000 in
theorem qJx35411_hasNext_aae02 {κ : Cx} {fin : Int32 → Mm → Prop} {mc ms : Nat} (hc : Jc κ RJx35411 cJx35411_hasNext_aae02 1 1 mc ms 100) (he : EdW κ cJx35411_hasNext_aae02 tI .ireturn (fun a => a = 0 ∨ a = 1) fin) (x0 : Nat) : Jw κ (wM κ) 1 fin 0 [some ((43, .ref x0) : TV)] [] (gJx35411_hasNext_aae02 x0) := by
  unfold gJx35411_hasNext_aae02
  refine N_aload_n (pc := 0) hc dJx35411_hasNext_aae02_0 rfl rfl ?_
  refine N_getI (pc := 1) hc clJx35411 (k := 0) (Nat.le_of_ble_eq_true rfl) rfl tw845 (Or.inl rfl) dJx35411_hasNext_aae02_1 (fun v1 => ?_)
  refine N_aload_n (pc := 4) hc dJx35411_hasNext_aae02_4 rfl rfl ?_
  refine N_getA (pc := 5) hc clJx35411 (k := 3) (kd := 44) (Nat.le_of_ble_eq_true rfl) rfl (Nat.le_of_ble_eq_true rfl) tw848 (Or.inl rfl) dJx35411_hasNext_aae02_5 (fun v2 => ?_)
  refine N_getNI (pc := 8) hc clJx4a65c (k := 2) (Nat.le_of_ble_eq_true rfl) rfl (hst0 := "java/util/ArrayList") (by decide +kernel) dJx35411_hasNext_aae02_8 (fun v3 => ?_)
  refine N_icmp_eq (pc := 11) (tgt := 18) hc dJx35411_hasNext_aae02_11 (by decide) ?_ ?_
  · refine N_iconst (pc := 18) (v := 0) hc dJx35411_hasNext_aae02_18 (by decide) ?_
    exact N_zret (pc := 19) he dJx35411_hasNext_aae02_19
  · refine N_iconst (pc := 14) (v := 1) hc dJx35411_hasNext_aae02_14 (by decide) ?_
    refine N_goto (pc := 15) (tgt := 19) hc dJx35411_hasNext_aae02_15 (by decide) ?_
    exact N_zret (pc := 19) he dJx35411_hasNext_aae02_19
theorem mzJx35411_hasNext_aae02 : MOk yJx35411_hasNext_aae02 0 := ⟨by decide +kernel, by decide +kernel, by decide +kernel⟩
set_option maxRecDepth 100000 in
set_option maxHeartbeats 8000000 in
theorem ZJx35411_hasNext_aae02 (x0 : Nat) : Cw tI yJx35411_hasNext_aae02 cJx35411_hasNext_aae02 1 (some .boolean) 1 100 [((43, .ref x0) : TV)] (gJx35411_hasNext_aae02 x0) :=
  Cw_Z ⟨rfl, rfl⟩ (j := 0) (by decide +kernel) rfl rfl (Nat.le_of_ble_eq_true rfl) (fun κ fin mc ms hc he => qJx35411_hasNext_aae02 hc he x0)
set_option maxRecDepth 100000 in
set_option maxHeartbeats 8000000 in
theorem qJx35411_checkForComodification_da8c8 {κ : Cx} {fin : Unit → Mm → Prop} {mc ms : Nat} (hc : Jc κ RJx35411 cJx35411_checkForComodification_da8c8 1 1 mc ms 100) (he : EdW κ cJx35411_checkForComodification_da8c8 tV .return_ (fun _ => True) fin) (x0 : Nat) : Jw κ (wM κ) 1 fin 0 [some ((43, .ref x0) : TV)] [] (gJx35411_checkForComodification_da8c8 x0) := by
  unfold gJx35411_checkForComodification_da8c8
  refine N_aload_n (pc := 0) hc dJx35411_checkForComodification_da8c8_0 rfl rfl ?_
  refine N_getA (pc := 1) hc clJx35411 (k := 3) (kd := 44) (Nat.le_of_ble_eq_true rfl) rfl (Nat.le_of_ble_eq_true rfl) tw848 (Or.inl rfl) dJx35411_checkForComodification_da8c8_1 (fun v1 => ?_)
  refine N_getI (pc := 4) hc clJx4a65c (k := 0) (Nat.le_of_ble_eq_true rfl) rfl tw759 (Or.inr tw760) dJx35411_checkForComodification_da8c8_4 (fun v2 => ?_)
  refine N_aload_n (pc := 7) hc dJx35411_checkForComodification_da8c8_7 rfl rfl ?_
  refine N_getI (pc := 8) hc clJx35411 (k := 2) (Nat.le_of_ble_eq_true rfl) rfl tw847 (Or.inl rfl) dJx35411_checkForComodification_da8c8_8 (fun v3 => ?_)
  refine N_icmp_eq (pc := 11) (tgt := 22) hc dJx35411_checkForComodification_da8c8_11 (by decide) ?_ ?_
  · exact N_ret (pc := 22) he dJx35411_checkForComodification_da8c8_22 trivial rfl
  · exact N_fail
theorem mzJx35411_checkForComodification_da8c8 : MOk yJx35411_checkForComodification_da8c8 0 := ⟨by decide +kernel, by decide +kernel, by decide +kernel⟩
set_option maxRecDepth 100000 in
set_option maxHeartbeats 8000000 in
theorem ZJx35411_checkForComodification_da8c8 (x0 : Nat) : Cw tV yJx35411_checkForComodification_da8c8 cJx35411_checkForComodification_da8c8 1 none 1 100 [((43, .ref x0) : TV)] (gJx35411_checkForComodification_da8c8 x0) :=
  Cw_V (j := 0) (by decide +kernel) rfl rfl (Nat.le_of_ble_eq_true rfl) (fun κ fin mc ms hc he hin => qJx35411_checkForComodification_da8c8 hc he x0)
set_option maxRecDepth 100000 in
set_option maxHeartbeats 8000000 in
theorem qJx35411_next_0502b {κ : Cx} {fin : Nat → Mm → Prop} {mc ms : Nat} (hc : Jc κ RJx35411 cJx35411_next_0502b 3 2 mc ms 120) (he : EdW κ cJx35411_next_0502b (tA 16) .areturn (fun _ => True) fin) (x0 : Nat) : Jw κ (wM κ) 3 fin 0 [some ((43, .ref x0) : TV), none, none] [] (gJx35411_next_0502b x0) := by
  unfold gJx35411_next_0502b
  refine N_aload_n (pc := 0) hc dJx35411_next_0502b_0 rfl rfl ?_
  refine N_callV (pc := 1) hc clJx35411 (As := []) (ZJx35411_checkForComodification_da8c8 x0) dJx35411_next_0502b_1 mzJx35411_checkForComodification_da8c8 rfl tw877 tw878 tw879 tw35 tw880 rfl (Nat.le_of_ble_eq_true rfl) (Nat.le_of_ble_eq_true rfl) (Nat.le_of_ble_eq_true rfl) rfl (fun _ => ?_)
  show Jw κ (wM κ) 3 fin 4 [some ((43, .ref x0) : TV), none, none] [] _
  refine N_aload_n (pc := 4) hc dJx35411_next_0502b_4 rfl rfl ?_
  refine N_getI (pc := 5) hc clJx35411 (k := 0) (Nat.le_of_ble_eq_true rfl) rfl tw845 (Or.inl rfl) dJx35411_next_0502b_5 (fun v1 => ?_)
  refine N_istore_n (pc := 8) (l' := [some ((43, .ref x0) : TV), some ((0, .int v1) : TV), none]) hc dJx35411_next_0502b_8 rfl (by decide) rfl rfl ?_
  refine N_iload_n (pc := 9) hc dJx35411_next_0502b_9 rfl rfl ?_
  refine N_aload_n (pc := 10) hc dJx35411_next_0502b_10 rfl rfl ?_
  refine N_getA (pc := 11) hc clJx35411 (k := 3) (kd := 44) (Nat.le_of_ble_eq_true rfl) rfl (Nat.le_of_ble_eq_true rfl) tw848 (Or.inl rfl) dJx35411_next_0502b_11 (fun v2 => ?_)
  refine N_getNI (pc := 14) hc clJx4a65c (k := 2) (Nat.le_of_ble_eq_true rfl) rfl (hst0 := "java/util/ArrayList") (by decide +kernel) dJx35411_next_0502b_14 (fun v3 => ?_)
  refine N_icmp_lt (pc := 17) (tgt := 28) hc dJx35411_next_0502b_17 (by decide) ?_ ?_
  · refine N_aload_n (pc := 28) hc dJx35411_next_0502b_28 rfl rfl ?_
    refine N_getA (pc := 29) hc clJx35411 (k := 3) (kd := 44) (Nat.le_of_ble_eq_true rfl) rfl (Nat.le_of_ble_eq_true rfl) tw848 (Or.inl rfl) dJx35411_next_0502b_29 (fun v4 => ?_)
    refine N_getA (pc := 32) hc clJx4a65c (k := 1) (kd := 17) (Nat.le_of_ble_eq_true rfl) rfl (Nat.le_of_ble_eq_true rfl) tw755 (Or.inl rfl) dJx35411_next_0502b_32 (fun v5 => ?_)
    refine N_astore_n (pc := 35) (l' := [some ((43, .ref x0) : TV), some ((0, .int v1) : TV), some ((17, .ref v5) : TV)]) hc dJx35411_next_0502b_35 rfl (by decide) rfl rfl ?_
    refine N_iload_n (pc := 36) hc dJx35411_next_0502b_36 rfl rfl ?_
    refine N_aload_n (pc := 37) hc dJx35411_next_0502b_37 rfl rfl ?_
    refine N_elen (pc := 38) hc dJx35411_next_0502b_38 (fun v6 => ?_)
    refine N_icmp_lt (pc := 39) (tgt := 50) hc dJx35411_next_0502b_39 (by decide) ?_ ?_
    · refine N_aload_n (pc := 50) hc dJx35411_next_0502b_50 rfl rfl ?_
      refine N_iload_n (pc := 51) hc dJx35411_next_0502b_51 rfl rfl ?_
      refine N_iconst (pc := 52) (v := 1) hc dJx35411_next_0502b_52 (by decide) ?_
      refine N_iadd (pc := 53) hc dJx35411_next_0502b_53 ?_
      refine N_putI (pc := 54) hc clJx35411 (k := 0) (Nat.le_of_ble_eq_true rfl) rfl rfl tw845 (Or.inl rfl) rfl dJx35411_next_0502b_54 ?_
      refine N_aload_n (pc := 57) hc dJx35411_next_0502b_57 rfl rfl ?_
      refine N_aload_n (pc := 58) hc dJx35411_next_0502b_58 rfl rfl ?_
      refine N_iload_n (pc := 59) hc dJx35411_next_0502b_59 rfl rfl ?_
      refine N_dup_x1 (pc := 60) hc dJx35411_next_0502b_60 rfl rfl ?_
      refine N_putI (pc := 61) hc clJx35411 (k := 1) (Nat.le_of_ble_eq_true rfl) rfl rfl tw846 (Or.inl rfl) rfl dJx35411_next_0502b_61 ?_
      refine N_17 (h := v5) [((0, .int v1) : TV)] ?_
      refine N_aald (pc := 64) hc dJx35411_next_0502b_64 (fun v7 => ?_)
      exact N_ret (pc := 65) he dJx35411_next_0502b_65 trivial rfl
    · exact N_fail
  · exact N_fail
theorem mzJx35411_next_0502b : MOk yJx35411_next_0502b 0 := ⟨by decide +kernel, by decide +kernel, by decide +kernel⟩
set_option maxRecDepth 100000 in
set_option maxHeartbeats 8000000 in
theorem ZJx35411_next_0502b (x0 : Nat) : Cw (tA 16) yJx35411_next_0502b cJx35411_next_0502b 3 (some (.object "java/lang/Object")) 2 120 [((43, .ref x0) : TV)] (gJx35411_next_0502b x0) :=
  Cw_A (Or.inl ⟨_, rfl⟩) (j := 2) (by decide +kernel) rfl rfl (Nat.le_of_ble_eq_true rfl) (fun κ fin mc ms hc he => qJx35411_next_0502b hc he x0)
set_option maxRecDepth 100000 in
set_option maxHeartbeats 8000000 in
theorem qJ6_intValue_8abf5 {κ : Cx} {fin : Int32 → Mm → Prop} {mc ms : Nat} (hc : Jc κ RJ6 cJ6_intValue_8abf5 1 1 mc ms 100) (he : EdW κ cJ6_intValue_8abf5 tI .ireturn (fun _ => True) fin) (x0 : Nat) : Jw κ (wM κ) 1 fin 0 [some ((28, .ref x0) : TV)] [] (gJ6_intValue_8abf5 x0) := by
  unfold gJ6_intValue_8abf5
  refine N_aload_n (pc := 0) hc dJ6_intValue_8abf5_0 rfl rfl ?_
  refine N_bxget (pc := 1) hc tw1110 dJ6_intValue_8abf5_1 ?_
  exact N_ret (pc := 4) he dJ6_intValue_8abf5_4 trivial rfl
theorem mzJ6_intValue_8abf5 : MOk yJ6_intValue_8abf5 0 := ⟨by decide +kernel, by decide +kernel, by decide +kernel⟩
set_option maxRecDepth 100000 in
set_option maxHeartbeats 8000000 in
theorem ZJ6_intValue_8abf5 (x0 : Nat) : Cw tI yJ6_intValue_8abf5 cJ6_intValue_8abf5 1 (some .int) 1 100 [((28, .ref x0) : TV)] (gJ6_intValue_8abf5 x0) :=
  Cw_I (j := 0) (by decide +kernel) rfl rfl (Nat.le_of_ble_eq_true rfl) (fun κ fin mc ms hc he => qJ6_intValue_8abf5 hc he x0)
set_option maxRecDepth 100000 in
set_option maxHeartbeats 8000000 in
theorem qJx4a65c_set_bcc79 {κ : Cx} {fin : Nat → Mm → Prop} {mc ms : Nat} (hc : Jc κ RJx4a65c cJx4a65c_set_bcc79 4 3 mc ms 143) (he : EdW κ cJx4a65c_set_bcc79 (tA 16) .areturn (fun _ => True) fin) (x0 : Nat) (x1 : Int32) (x2 : Nat) : Jw κ (wM κ) 4 fin 0 [some ((44, .ref x0) : TV), some ((0, .int x1) : TV), some ((16, .ref x2) : TV), none] [] (gJx4a65c_set_bcc79 x0 x1 x2) := by
  unfold gJx4a65c_set_bcc79
  refine N_iload_n (pc := 0) hc dJx4a65c_set_bcc79_0 rfl rfl ?_
  refine N_aload_n (pc := 1) hc dJx4a65c_set_bcc79_1 rfl rfl ?_
  refine N_getI (pc := 2) hc clJx4a65c (k := 2) (Nat.le_of_ble_eq_true rfl) rfl tw757 (Or.inl rfl) dJx4a65c_set_bcc79_2 (fun v1 => ?_)
  refine N_callS (pc := 5) hc (As := [((0, .int x1) : TV), ((0, .int v1) : TV)]) (ZJ15_checkIndex_7cf53 x1 v1) dJx4a65c_set_bcc79_5 mzJ15_checkIndex_7cf53 tw1062 tw1063 tw33 tw1064 rfl (Nat.le_of_ble_eq_true rfl) (Nat.le_of_ble_eq_true rfl) (Nat.le_of_ble_eq_true rfl) rfl (fun v2 => ?_)
  show Jw κ (wM κ) 4 fin 8 [some ((44, .ref x0) : TV), some ((0, .int x1) : TV), some ((16, .ref x2) : TV), none] [((0, .int v2) : TV)] _
  refine N_pop (pc := 8) hc dJx4a65c_set_bcc79_8 rfl ?_
  refine N_aload_n (pc := 9) hc dJx4a65c_set_bcc79_9 rfl rfl ?_
  refine N_iload_n (pc := 10) hc dJx4a65c_set_bcc79_10 rfl rfl ?_
  refine N_callV (pc := 11) hc clJx4a65c (As := [((0, .int x1) : TV)]) (ZJx4a65c_elementData_915e3 x0 x1) dJx4a65c_set_bcc79_11 mzJx4a65c_elementData_915e3 rfl tw1066 tw1067 tw1068 tw13 tw1069 rfl (Nat.le_of_ble_eq_true rfl) (Nat.le_of_ble_eq_true rfl) (Nat.le_of_ble_eq_true rfl) rfl (fun h3 => ?_)
  show Jw κ (wM κ) 4 fin 14 [some ((44, .ref x0) : TV), some ((0, .int x1) : TV), some ((16, .ref x2) : TV), none] [((16, .ref h3) : TV)] _
  refine N_astore_n (pc := 14) (l' := [some ((44, .ref x0) : TV), some ((0, .int x1) : TV), some ((16, .ref x2) : TV), some ((16, .ref h3) : TV)]) hc dJx4a65c_set_bcc79_14 rfl (by decide) rfl rfl ?_
  refine N_aload_n (pc := 15) hc dJx4a65c_set_bcc79_15 rfl rfl ?_
  refine N_getA (pc := 16) hc clJx4a65c (k := 1) (kd := 17) (Nat.le_of_ble_eq_true rfl) rfl (Nat.le_of_ble_eq_true rfl) tw754 (Or.inl rfl) dJx4a65c_set_bcc79_16 (fun v4 => ?_)
  refine N_iload_n (pc := 19) hc dJx4a65c_set_bcc79_19 rfl rfl ?_
  refine N_aload_n (pc := 20) hc dJx4a65c_set_bcc79_20 rfl rfl ?_
  refine N_17 (h := v4) [((16, .ref x2) : TV), ((0, .int x1) : TV)] ?_
  refine N_aast (pc := 21) hc dJx4a65c_set_bcc79_21 (Or.inr (Or.inl rfl)) ?_
  refine N_aload_n (pc := 22) hc dJx4a65c_set_bcc79_22 rfl rfl ?_
  exact N_ret (pc := 23) he dJx4a65c_set_bcc79_23 trivial rfl
theorem mzJx4a65c_set_bcc79 : MOk yJx4a65c_set_bcc79 2 := ⟨by decide +kernel, by decide +kernel, by decide +kernel⟩
set_option maxRecDepth 100000 in
set_option maxHeartbeats 8000000 in
theorem ZJx4a65c_set_bcc79 (x0 : Nat) (x1 : Int32) (x2 : Nat) : Cw (tA 16) yJx4a65c_set_bcc79 cJx4a65c_set_bcc79 4 (some (.object "java/lang/Object")) 3 143 [((44, .ref x0) : TV), ((0, .int x1) : TV), ((16, .ref x2) : TV)] (gJx4a65c_set_bcc79 x0 x1 x2) :=
  Cw_A (Or.inl ⟨_, rfl⟩) (j := 1) (by decide +kernel) rfl rfl (Nat.le_of_ble_eq_true rfl) (fun κ fin mc ms hc he => qJx4a65c_set_bcc79 hc he x0 x1 x2)
set_option maxRecDepth 100000 in
set_option maxHeartbeats 8000000 in
theorem qJ5_init_d00df {κ : Cx} {fin : Unit → Mm → Prop} {mc ms : Nat} (hc : Jc κ RJ5 cJ5_init_d00df 2 1 mc ms 100) (he : EdW κ cJ5_init_d00df tV .return_ (fun _ => True) fin) (hin : Mh κ = "<init>") (x0 : Nat) (x1 : Int32) : Jw κ (wM κ) 2 fin 0 [some ((41, .ref x0) : TV), some ((0, .int x1) : TV)] [] (gJ5_init_d00df x0 x1) := by
  unfold gJ5_init_d00df
  refine N_aload_n (pc := 0) hc dJ5_init_d00df_0 rfl rfl ?_
  refine N_objInit (pc := 1) hc tw1367 tw43 tw44 (Nat.le_of_ble_eq_true rfl) (Nat.le_of_ble_eq_true rfl) (Nat.le_of_ble_eq_true rfl) dJ5_init_d00df_1 ?_
  refine N_getsC (pc := 4) hc tw1368 dJ5_init_d00df_4 ?_
  refine N_if_eq (pc := 7) (tgt := 25) hc dJ5_init_d00df_7 (by decide) ?_ ?_
  · exact N_fail
  · refine N_aload_n (pc := 10) hc dJ5_init_d00df_10 rfl rfl ?_
    refine N_iload_n (pc := 11) hc dJ5_init_d00df_11 rfl rfl ?_
    refine N_newa10 (pc := 12) hc tw134 dJ5_init_d00df_12 (fun h1 => ?_)
    refine N_putA (pc := 14) hc clJ4 (k := 0) (kd := 10) (Nat.le_of_ble_eq_true rfl) rfl (Nat.le_of_ble_eq_true rfl) (fun _ => rfl) (fun _ => rfl) tw1376 (Or.inl rfl) rfl dJ5_init_d00df_14 ?_
    refine N_aload_n (pc := 17) hc dJ5_init_d00df_17 rfl rfl ?_
    refine N_iconst (pc := 18) (v := 0) hc dJ5_init_d00df_18 (by decide) ?_
    refine N_putZ (pc := 19) hc clJ4 (k := 1) (Nat.le_of_ble_eq_true rfl) rfl rfl (Or.inr rfl) tw1377 (Or.inl rfl) rfl dJ5_init_d00df_19 ?_
    refine N_goto (pc := 22) (tgt := 38) hc dJ5_init_d00df_22 (by decide) ?_
    exact N_ret (pc := 38) he dJ5_init_d00df_38 trivial rfl
theorem mzJ5_init_d00df : MOk yJ5_init_d00df 1 := ⟨by decide +kernel, by decide +kernel, by decide +kernel⟩
set_option maxRecDepth 100000 in
set_option maxHeartbeats 8000000 in
theorem ZJ5_init_d00df (x0 : Nat) (x1 : Int32) : Cw tV yJ5_init_d00df cJ5_init_d00df 2 none 1 100 [((41, .ref x0) : TV), ((0, .int x1) : TV)] (gJ5_init_d00df x0 x1) :=
  Cw_V (j := 0) (by decide +kernel) rfl rfl (Nat.le_of_ble_eq_true rfl) (fun κ fin mc ms hc he hin => qJ5_init_d00df hc he hin x0 x1)
set_option maxRecDepth 100000 in
set_option maxHeartbeats 8000000 in
theorem qJ4_init_da8c8 {κ : Cx} {fin : Unit → Mm → Prop} {mc ms : Nat} (hc : Jc κ RJ4 cJ4_init_da8c8 1 2 mc ms 121) (he : EdW κ cJ4_init_da8c8 tV .return_ (fun _ => True) fin) (hin : Mh κ = "<init>") (x0 : Nat) : Jw κ (wM κ) 1 fin 0 [some ((41, .ref x0) : TV)] [] (gJ4_init_da8c8 x0) := by
  unfold gJ4_init_da8c8
  refine N_aload_n (pc := 0) hc dJ4_init_da8c8_0 rfl rfl ?_
  refine N_bipush (pc := 1) (v := 16) hc dJ4_init_da8c8_1 (by decide) ?_
  refine N_callI (pc := 3) hc (ci := 41) (As := [((0, .int 16) : TV)]) (ZJ5_init_d00df x0 16) dJ4_init_da8c8_3 mzJ5_init_d00df rfl tw1364 tw1365 tw14 tw1366 rfl (Nat.le_of_ble_eq_true rfl) (Nat.le_of_ble_eq_true rfl) (Nat.le_of_ble_eq_true rfl) rfl (fun _ => ?_)
  show Jw κ (wM κ) 1 fin 6 [some ((41, .ref x0) : TV)] [] _
  exact N_ret (pc := 6) he dJ4_init_da8c8_6 trivial rfl
theorem mzJ4_init_da8c8 : MOk yJ4_init_da8c8 0 := ⟨by decide +kernel, by decide +kernel, by decide +kernel⟩
set_option maxRecDepth 100000 in
set_option maxHeartbeats 8000000 in
theorem ZJ4_init_da8c8 (x0 : Nat) : Cw tV yJ4_init_da8c8 cJ4_init_da8c8 1 none 2 121 [((41, .ref x0) : TV)] (gJ4_init_da8c8 x0) :=
  Cw_V (j := 0) (by decide +kernel) rfl rfl (Nat.le_of_ble_eq_true rfl) (fun κ fin mc ms hc he hin => qJ4_init_da8c8 hc he hin x0)
set_option maxRecDepth 100000 in
set_option maxHeartbeats 8000000 in
theorem qJ5_newCapacity_0f7a4 {κ : Cx} {fin : Int32 → Mm → Prop} {mc ms : Nat} (hc : Jc κ RJ5 cJ5_newCapacity_0f7a4 6 2 mc ms 123) (he : EdW κ cJ5_newCapacity_0f7a4 tI .ireturn (fun _ => True) fin) (x0 : Nat) (x1 : Int32) : Jw κ (wM κ) 6 fin 0 [some ((41, .ref x0) : TV), some ((0, .int x1) : TV), none, none, none, none] [] (gJ5_newCapacity_0f7a4 x0 x1) := by
  unfold gJ5_newCapacity_0f7a4
  refine N_aload_n (pc := 0) hc dJ5_newCapacity_0f7a4_0 rfl rfl ?_
  refine N_getA (pc := 1) hc clJ4 (k := 0) (kd := 10) (Nat.le_of_ble_eq_true rfl) rfl (Nat.le_of_ble_eq_true rfl) tw1376 (Or.inl rfl) dJ5_newCapacity_0f7a4_1 (fun v1 => ?_)
  refine N_blen (pc := 4) hc dJ5_newCapacity_0f7a4_4 (fun v2 => ?_)
  refine N_istore_n (pc := 5) (l' := [some ((41, .ref x0) : TV), some ((0, .int x1) : TV), some ((0, .int v2) : TV), none, none, none]) hc dJ5_newCapacity_0f7a4_5 rfl (by decide) rfl rfl ?_
  refine N_iload_n (pc := 6) hc dJ5_newCapacity_0f7a4_6 rfl rfl ?_
  refine N_aload_n (pc := 7) hc dJ5_newCapacity_0f7a4_7 rfl rfl ?_
  refine N_getI (pc := 8) hc clJ4 (k := 1) (Nat.le_of_ble_eq_true rfl) rfl tw1377 (Or.inl rfl) dJ5_newCapacity_0f7a4_8 (fun v3 => ?_)
  refine N_ishl (pc := 11) hc dJ5_newCapacity_0f7a4_11 ?_
  refine N_nmi (fun v4 => ?_)
  refine N_istore_n (pc := 12) (l' := [some ((41, .ref x0) : TV), some ((0, .int x1) : TV), some ((0, .int v2) : TV), some ((0, .int v4) : TV), none, none]) hc dJ5_newCapacity_0f7a4_12 rfl (by decide) rfl rfl ?_
  refine N_iload_n (pc := 13) hc dJ5_newCapacity_0f7a4_13 rfl rfl ?_
  refine N_iload_n (pc := 14) hc dJ5_newCapacity_0f7a4_14 rfl rfl ?_
  refine N_isub (pc := 15) hc dJ5_newCapacity_0f7a4_15 ?_
  refine N_nmi (fun v5 => ?_)
  refine N_istore (pc := 16) (l' := [some ((41, .ref x0) : TV), some ((0, .int x1) : TV), some ((0, .int v2) : TV), some ((0, .int v4) : TV), some ((0, .int v5) : TV), none]) hc dJ5_newCapacity_0f7a4_16 (by decide) rfl rfl ?_
  refine N_iload_n (pc := 18) hc dJ5_newCapacity_0f7a4_18 rfl rfl ?_
  refine N_iload (pc := 19) hc dJ5_newCapacity_0f7a4_19 rfl ?_
  refine N_iload_n (pc := 21) hc dJ5_newCapacity_0f7a4_21 rfl rfl ?_
  refine N_iconst (pc := 22) (v := 2) hc dJ5_newCapacity_0f7a4_22 (by decide) ?_
  refine N_aload_n (pc := 23) hc dJ5_newCapacity_0f7a4_23 rfl rfl ?_
  refine N_getI (pc := 24) hc clJ4 (k := 1) (Nat.le_of_ble_eq_true rfl) rfl tw1377 (Or.inl rfl) dJ5_newCapacity_0f7a4_24 (fun v6 => ?_)
  refine N_ishl (pc := 27) hc dJ5_newCapacity_0f7a4_27 ?_
  refine N_iadd (pc := 28) hc dJ5_newCapacity_0f7a4_28 ?_
  refine N_callS (pc := 29) hc (As := [((0, .int v2) : TV), ((0, .int v5) : TV), ((0, .int (v2 + (2 <<< (v6 &&& 31)))) : TV)]) (ZJ8_newLength_cabcc v2 v5 (v2 + (2 <<< (v6 &&& 31)))) dJ5_newCapacity_0f7a4_29 mzJ8_newLength_cabcc tw1404 tw903 tw18 tw904 rfl (Nat.le_of_ble_eq_true rfl) (Nat.le_of_ble_eq_true rfl) (Nat.le_of_ble_eq_true rfl) rfl (fun v7 => ?_)
  show Jw κ (wM κ) 6 fin 32 [some ((41, .ref x0) : TV), some ((0, .int x1) : TV), some ((0, .int v2) : TV), some ((0, .int v4) : TV), some ((0, .int v5) : TV), none] [((0, .int v7) : TV)] _
  refine N_istore (pc := 32) (l' := [some ((41, .ref x0) : TV), some ((0, .int x1) : TV), some ((0, .int v2) : TV), some ((0, .int v4) : TV), some ((0, .int v5) : TV), some ((0, .int v7) : TV)]) hc dJ5_newCapacity_0f7a4_32 (by decide) rfl rfl ?_
  refine N_iload (pc := 34) hc dJ5_newCapacity_0f7a4_34 rfl ?_
  refine N_ldcI (pc := 36) (v := 2147483647) hc dJ5_newCapacity_0f7a4_36 tw1405 ?_
  refine N_icmp_ne (pc := 38) (tgt := 51) hc dJ5_newCapacity_0f7a4_38 (by decide) ?_ ?_
  · refine N_iload (pc := 51) hc dJ5_newCapacity_0f7a4_51 rfl ?_
    refine N_aload_n (pc := 53) hc dJ5_newCapacity_0f7a4_53 rfl rfl ?_
    refine N_getI (pc := 54) hc clJ4 (k := 1) (Nat.le_of_ble_eq_true rfl) rfl tw1377 (Or.inl rfl) dJ5_newCapacity_0f7a4_54 (fun v8 => ?_)
    refine N_ishr (pc := 57) hc dJ5_newCapacity_0f7a4_57 ?_
    exact N_ret (pc := 58) he dJ5_newCapacity_0f7a4_58 trivial rfl
  · exact N_fail
theorem mzJ5_newCapacity_0f7a4 : MOk yJ5_newCapacity_0f7a4 1 := ⟨by decide +kernel, by decide +kernel, by decide +kernel⟩
set_option maxRecDepth 100000 in
set_option maxHeartbeats 8000000 in
theorem ZJ5_newCapacity_0f7a4 (x0 : Nat) (x1 : Int32) : Cw tI yJ5_newCapacity_0f7a4 cJ5_newCapacity_0f7a4 6 (some .int) 2 123 [((41, .ref x0) : TV), ((0, .int x1) : TV)] (gJ5_newCapacity_0f7a4 x0 x1) :=
  Cw_I (j := 4) (by decide +kernel) rfl rfl (Nat.le_of_ble_eq_true rfl) (fun κ fin mc ms hc he => qJ5_newCapacity_0f7a4 hc he x0 x1)
set_option maxRecDepth 100000 in
set_option maxHeartbeats 8000000 in
theorem qJ7_copyOf_9075b {κ : Cx} {fin : Nat → Mm → Prop} {mc ms : Nat} (hc : Jc κ RJ7 cJ7_copyOf_9075b 3 1 mc ms 100) (he : EdW κ cJ7_copyOf_9075b (tA 10) .areturn (fun _ => True) fin) (x0 : Nat) (x1 : Int32) : Jw κ (wM κ) 3 fin 0 [some ((10, .ref x0) : TV), some ((0, .int x1) : TV), none] [] (gJ7_copyOf_9075b x0 x1) := by
  unfold gJ7_copyOf_9075b
  refine N_iload_n (pc := 0) hc dJ7_copyOf_9075b_0 rfl rfl ?_
  refine N_aload_n (pc := 1) hc dJ7_copyOf_9075b_1 rfl rfl ?_
  refine N_blen (pc := 2) hc dJ7_copyOf_9075b_2 (fun v1 => ?_)
  refine N_icmp_ne (pc := 3) (tgt := 14) hc dJ7_copyOf_9075b_3 (by decide) ?_ ?_
  · refine N_iload_n (pc := 14) hc dJ7_copyOf_9075b_14 rfl rfl ?_
    refine N_newa10 (pc := 15) hc tw134 dJ7_copyOf_9075b_15 (fun h2 => ?_)
    refine N_astore_n (pc := 17) (l' := [some ((10, .ref x0) : TV), some ((0, .int x1) : TV), some ((10, .ref h2) : TV)]) hc dJ7_copyOf_9075b_17 rfl (by decide) rfl rfl ?_
    refine N_aload_n (pc := 18) hc dJ7_copyOf_9075b_18 rfl rfl ?_
    refine N_iconst (pc := 19) (v := 0) hc dJ7_copyOf_9075b_19 (by decide) ?_
    refine N_aload_n (pc := 20) hc dJ7_copyOf_9075b_20 rfl rfl ?_
    refine N_iconst (pc := 21) (v := 0) hc dJ7_copyOf_9075b_21 (by decide) ?_
    refine N_aload_n (pc := 22) hc dJ7_copyOf_9075b_22 rfl rfl ?_
    refine N_blen (pc := 23) hc dJ7_copyOf_9075b_23 (fun v3 => ?_)
    refine N_iload_n (pc := 24) hc dJ7_copyOf_9075b_24 rfl rfl ?_
    refine N_mmin (pc := 25) hc dJ7_copyOf_9075b_25 tw944 tw421 tw19 tw422 (Nat.le_of_ble_eq_true rfl) (Nat.le_of_ble_eq_true rfl) (Nat.le_of_ble_eq_true rfl) ?_
    refine N_cpB (pc := 28) hc tw945 tw947 tw946 tw21 (Nat.le_of_ble_eq_true rfl) (Nat.le_of_ble_eq_true rfl) (Nat.le_of_ble_eq_true rfl) dJ7_copyOf_9075b_28 ?_
    refine N_aload_n (pc := 31) hc dJ7_copyOf_9075b_31 rfl rfl ?_
    exact N_ret (pc := 32) he dJ7_copyOf_9075b_32 trivial rfl
  · refine N_aload_n (pc := 6) hc dJ7_copyOf_9075b_6 rfl rfl ?_
    refine N_clone10 (pc := 7) hc tw1409 tw1410 tw830 tw831 tw1411 (Nat.le_of_ble_eq_true rfl) (Nat.le_of_ble_eq_true rfl) (Nat.le_of_ble_eq_true rfl) dJ7_copyOf_9075b_7 (fun h4 => ?_)
    refine N_castBt (pc := 10) hc tw1413 dJ7_copyOf_9075b_10 ?_
    exact N_ret (pc := 13) he dJ7_copyOf_9075b_13 trivial rfl
theorem mzJ7_copyOf_9075b : MOk yJ7_copyOf_9075b 2 := ⟨by decide +kernel, by decide +kernel, by decide +kernel⟩
set_option maxRecDepth 100000 in
set_option maxHeartbeats 8000000 in
theorem ZJ7_copyOf_9075b (x0 : Nat) (x1 : Int32) : Cw (tA 10) yJ7_copyOf_9075b cJ7_copyOf_9075b 3 (some (.array .byte)) 1 100 [((10, .ref x0) : TV), ((0, .int x1) : TV)] (gJ7_copyOf_9075b x0 x1) :=
  Cw_A (Or.inr ⟨_, rfl⟩) (j := 1) (by decide +kernel) rfl rfl (Nat.le_of_ble_eq_true rfl) (fun κ fin mc ms hc he => qJ7_copyOf_9075b hc he x0 x1)
set_option maxRecDepth 100000 in
set_option maxHeartbeats 8000000 in
theorem qJ5_ensureCapacityInternal_d00df {κ : Cx} {fin : Unit → Mm → Prop} {mc ms : Nat} (hc : Jc κ RJ5 cJ5_ensureCapacityInternal_d00df 3 3 mc ms 148) (he : EdW κ cJ5_ensureCapacityInternal_d00df tV .return_ (fun _ => True) fin) (x0 : Nat) (x1 : Int32) : Jw κ (wM κ) 3 fin 0 [some ((41, .ref x0) : TV), some ((0, .int x1) : TV), none] [] (gJ5_ensureCapacityInternal_d00df x0 x1) := by
  unfold gJ5_ensureCapacityInternal_d00df
  refine N_aload_n (pc := 0) hc dJ5_ensureCapacityInternal_d00df_0 rfl rfl ?_
  refine N_getA (pc := 1) hc clJ4 (k := 0) (kd := 10) (Nat.le_of_ble_eq_true rfl) rfl (Nat.le_of_ble_eq_true rfl) tw1376 (Or.inl rfl) dJ5_ensureCapacityInternal_d00df_1 (fun v1 => ?_)
  refine N_blen (pc := 4) hc dJ5_ensureCapacityInternal_d00df_4 (fun v2 => ?_)
  refine N_aload_n (pc := 5) hc dJ5_ensureCapacityInternal_d00df_5 rfl rfl ?_
  refine N_getI (pc := 6) hc clJ4 (k := 1) (Nat.le_of_ble_eq_true rfl) rfl tw1377 (Or.inl rfl) dJ5_ensureCapacityInternal_d00df_6 (fun v3 => ?_)
  refine N_ishr (pc := 9) hc dJ5_ensureCapacityInternal_d00df_9 ?_
  refine N_nmi (fun v4 => ?_)
  refine N_istore_n (pc := 10) (l' := [some ((41, .ref x0) : TV), some ((0, .int x1) : TV), some ((0, .int v4) : TV)]) hc dJ5_ensureCapacityInternal_d00df_10 rfl (by decide) rfl rfl ?_
  refine N_iload_n (pc := 11) hc dJ5_ensureCapacityInternal_d00df_11 rfl rfl ?_
  refine N_iload_n (pc := 12) hc dJ5_ensureCapacityInternal_d00df_12 rfl rfl ?_
  refine N_isub (pc := 13) hc dJ5_ensureCapacityInternal_d00df_13 ?_
  refine N_if_le (pc := 14) (tgt := 38) hc dJ5_ensureCapacityInternal_d00df_14 (by decide) ?_ ?_
  · exact N_ret (pc := 38) he dJ5_ensureCapacityInternal_d00df_38 trivial rfl
  · refine N_aload_n (pc := 17) hc dJ5_ensureCapacityInternal_d00df_17 rfl rfl ?_
    refine N_aload_n (pc := 18) hc dJ5_ensureCapacityInternal_d00df_18 rfl rfl ?_
    refine N_getA (pc := 19) hc clJ4 (k := 0) (kd := 10) (Nat.le_of_ble_eq_true rfl) rfl (Nat.le_of_ble_eq_true rfl) tw1376 (Or.inl rfl) dJ5_ensureCapacityInternal_d00df_19 (fun v5 => ?_)
    refine N_aload_n (pc := 22) hc dJ5_ensureCapacityInternal_d00df_22 rfl rfl ?_
    refine N_iload_n (pc := 23) hc dJ5_ensureCapacityInternal_d00df_23 rfl rfl ?_
    refine N_callU (pc := 24) hc clJ4 (x := ⟨"java/lang/AbstractStringBuilder", "newCapacity", "(I)I"⟩) (y := yJ5_newCapacity_0f7a4) (As := [((0, .int x1) : TV)]) (ZJ5_newCapacity_0f7a4 x0 x1) dJ5_ensureCapacityInternal_d00df_24 (n := 1) ⟨by decide +kernel, by decide +kernel, by decide +kernel⟩ rfl ⟨by decide +kernel, by decide +kernel⟩ (tw_U tw1400 tw1631 (tw_x (by decide +kernel) rfl) tw1402 tw14 tw1403) rfl (Nat.le_of_ble_eq_true rfl) (Nat.le_of_ble_eq_true rfl) (Nat.le_of_ble_eq_true rfl) rfl (fun v6 => ?_)
    show Jw κ (wM κ) 3 fin 27 [some ((41, .ref x0) : TV), some ((0, .int x1) : TV), some ((0, .int v4) : TV)] [((0, .int v6) : TV), ((10, .ref v5) : TV), ((41, .ref x0) : TV)] _
    refine N_aload_n (pc := 27) hc dJ5_ensureCapacityInternal_d00df_27 rfl rfl ?_
    refine N_getI (pc := 28) hc clJ4 (k := 1) (Nat.le_of_ble_eq_true rfl) rfl tw1377 (Or.inl rfl) dJ5_ensureCapacityInternal_d00df_28 (fun v7 => ?_)
    refine N_ishl (pc := 31) hc dJ5_ensureCapacityInternal_d00df_31 ?_
    refine N_callS (pc := 32) hc (As := [((10, .ref v5) : TV), ((0, .int (v6 <<< (v7 &&& 31))) : TV)]) (ZJ7_copyOf_9075b v5 (v6 <<< (v7 &&& 31))) dJ5_ensureCapacityInternal_d00df_32 mzJ7_copyOf_9075b tw1406 tw1407 tw20 tw1408 rfl (Nat.le_of_ble_eq_true rfl) (Nat.le_of_ble_eq_true rfl) (Nat.le_of_ble_eq_true rfl) rfl (fun h8 => ?_)
    show Jw κ (wM κ) 3 fin 35 [some ((41, .ref x0) : TV), some ((0, .int x1) : TV), some ((0, .int v4) : TV)] [((10, .ref h8) : TV), ((41, .ref x0) : TV)] _
    refine N_putA (pc := 35) hc clJ4 (k := 0) (kd := 10) (Nat.le_of_ble_eq_true rfl) rfl (Nat.le_of_ble_eq_true rfl) (fun _ => rfl) (fun _ => rfl) tw1376 (Or.inl rfl) rfl dJ5_ensureCapacityInternal_d00df_35 ?_
    exact N_ret (pc := 38) he dJ5_ensureCapacityInternal_d00df_38 trivial rfl
theorem mzJ5_ensureCapacityInternal_d00df : MOk yJ5_ensureCapacityInternal_d00df 1 := ⟨by decide +kernel, by decide +kernel, by decide +kernel⟩
set_option maxRecDepth 100000 in
set_option maxHeartbeats 8000000 in
theorem ZJ5_ensureCapacityInternal_d00df (x0 : Nat) (x1 : Int32) : Cw tV yJ5_ensureCapacityInternal_d00df cJ5_ensureCapacityInternal_d00df 3 none 3 148 [((41, .ref x0) : TV), ((0, .int x1) : TV)] (gJ5_ensureCapacityInternal_d00df x0 x1) :=
  Cw_V (j := 1) (by decide +kernel) rfl rfl (Nat.le_of_ble_eq_true rfl) (fun κ fin mc ms hc he hin => qJ5_ensureCapacityInternal_d00df hc he x0 x1)
set_option maxRecDepth 100000 in
set_option maxHeartbeats 8000000 in
theorem qJ5_isLatin1_aae02 {κ : Cx} {fin : Int32 → Mm → Prop} {mc ms : Nat} (hc : Jc κ RJ5 cJ5_isLatin1_aae02 1 1 mc ms 100) (he : EdW κ cJ5_isLatin1_aae02 tI .ireturn (fun a => a = 0 ∨ a = 1) fin) (x0 : Nat) : Jw κ (wM κ) 1 fin 0 [some ((41, .ref x0) : TV)] [] (gJ5_isLatin1_aae02 x0) := by
  unfold gJ5_isLatin1_aae02
  refine N_getsC (pc := 0) hc tw1368 dJ5_isLatin1_aae02_0 ?_
  refine N_if_eq (pc := 3) (tgt := 17) hc dJ5_isLatin1_aae02_3 (by decide) ?_ ?_
  · refine N_iconst (pc := 17) (v := 0) hc dJ5_isLatin1_aae02_17 (by decide) ?_
    exact N_zret (pc := 18) he dJ5_isLatin1_aae02_18
  · refine N_aload_n (pc := 6) hc dJ5_isLatin1_aae02_6 rfl rfl ?_
    refine N_getI (pc := 7) hc clJ4 (k := 1) (Nat.le_of_ble_eq_true rfl) rfl tw1377 (Or.inl rfl) dJ5_isLatin1_aae02_7 (fun v1 => ?_)
    refine N_if_ne (pc := 10) (tgt := 17) hc dJ5_isLatin1_aae02_10 (by decide) ?_ ?_
    · refine N_iconst (pc := 17) (v := 0) hc dJ5_isLatin1_aae02_17 (by decide) ?_
      exact N_zret (pc := 18) he dJ5_isLatin1_aae02_18
    · refine N_iconst (pc := 13) (v := 1) hc dJ5_isLatin1_aae02_13 (by decide) ?_
      refine N_goto (pc := 14) (tgt := 18) hc dJ5_isLatin1_aae02_14 (by decide) ?_
      exact N_zret (pc := 18) he dJ5_isLatin1_aae02_18
theorem mzJ5_isLatin1_aae02 : MOk yJ5_isLatin1_aae02 0 := ⟨by decide +kernel, by decide +kernel, by decide +kernel⟩
set_option maxRecDepth 100000 in
set_option maxHeartbeats 8000000 in
theorem ZJ5_isLatin1_aae02 (x0 : Nat) : Cw tI yJ5_isLatin1_aae02 cJ5_isLatin1_aae02 1 (some .boolean) 1 100 [((41, .ref x0) : TV)] (gJ5_isLatin1_aae02 x0) :=
  Cw_Z ⟨rfl, rfl⟩ (j := 0) (by decide +kernel) rfl rfl (Nat.le_of_ble_eq_true rfl) (fun κ fin mc ms hc he => qJ5_isLatin1_aae02 hc he x0)
set_option maxRecDepth 100000 in
set_option maxHeartbeats 8000000 in
theorem qJ1_canEncode_fc78d {κ : Cx} {fin : Int32 → Mm → Prop} {mc ms : Nat} (hc : Jc κ RJ1 cJ1_canEncode_fc78d 1 1 mc ms 100) (he : EdW κ cJ1_canEncode_fc78d tI .ireturn (fun a => a = 0 ∨ a = 1) fin) (x0 : Int32) : Jw κ (wM κ) 1 fin 0 [some ((0, .int x0) : TV)] [] (gJ1_canEncode_fc78d x0) := by
  unfold gJ1_canEncode_fc78d
  refine N_iload_n (pc := 0) hc dJ1_canEncode_fc78d_0 rfl rfl ?_
  refine N_sipush (pc := 1) (v := 255) hc dJ1_canEncode_fc78d_1 (by decide) ?_
  refine N_icmp_gt (pc := 4) (tgt := 11) hc dJ1_canEncode_fc78d_4 (by decide) ?_ ?_
  · refine N_iconst (pc := 11) (v := 0) hc dJ1_canEncode_fc78d_11 (by decide) ?_
    exact N_zret (pc := 12) he dJ1_canEncode_fc78d_12
  · refine N_iconst (pc := 7) (v := 1) hc dJ1_canEncode_fc78d_7 (by decide) ?_
    refine N_goto (pc := 8) (tgt := 12) hc dJ1_canEncode_fc78d_8 (by decide) ?_
    exact N_zret (pc := 12) he dJ1_canEncode_fc78d_12
theorem mzJ1_canEncode_fc78d : MOk yJ1_canEncode_fc78d 1 := ⟨by decide +kernel, by decide +kernel, by decide +kernel⟩
set_option maxRecDepth 100000 in
set_option maxHeartbeats 8000000 in
theorem ZJ1_canEncode_fc78d (x0 : Int32) : Cw tI yJ1_canEncode_fc78d cJ1_canEncode_fc78d 1 (some .boolean) 1 100 [((0, .int x0) : TV)] (gJ1_canEncode_fc78d x0) :=
  Cw_Z ⟨rfl, rfl⟩ (j := 0) (by decide +kernel) rfl rfl (Nat.le_of_ble_eq_true rfl) (fun κ fin mc ms hc he => qJ1_canEncode_fc78d hc he x0)
set_option maxRecDepth 100000 in
set_option maxHeartbeats 8000000 in
theorem qJ5_append_3fe6f_L45 {κ : Cx} {fin : Nat → Mm → Prop} {mc ms : Nat} (hc : Jc κ RJ5 cJ5_append_3fe6f 2 4 mc ms 170) (he : EdW κ cJ5_append_3fe6f (tA 41) .areturn (fun _ => True) fin) (x0 : Nat) : Jw κ (wM κ) 2 fin 45 [some ((41, .ref x0) : TV), none] [] (gJ5_append_3fe6f_L45 x0) := by
  unfold gJ5_append_3fe6f_L45
  exact N_fail
set_option maxRecDepth 100000 in
set_option maxHeartbeats 8000000 in
theorem qJ5_append_3fe6f {κ : Cx} {fin : Nat → Mm → Prop} {mc ms : Nat} (hc : Jc κ RJ5 cJ5_append_3fe6f 2 4 mc ms 170) (he : EdW κ cJ5_append_3fe6f (tA 41) .areturn (fun _ => True) fin) (x0 : Nat) (x1 : Int32) : Jw κ (wM κ) 2 fin 0 [some ((41, .ref x0) : TV), some ((0, .int x1) : TV)] [] (gJ5_append_3fe6f x0 x1) := by
  unfold gJ5_append_3fe6f
  refine N_aload_n (pc := 0) hc dJ5_append_3fe6f_0 rfl rfl ?_
  refine N_aload_n (pc := 1) hc dJ5_append_3fe6f_1 rfl rfl ?_
  refine N_getI (pc := 2) hc clJ4 (k := 3) (Nat.le_of_ble_eq_true rfl) rfl tw1379 (Or.inl rfl) dJ5_append_3fe6f_2 (fun v1 => ?_)
  refine N_iconst (pc := 5) (v := 1) hc dJ5_append_3fe6f_5 (by decide) ?_
  refine N_iadd (pc := 6) hc dJ5_append_3fe6f_6 ?_
  refine N_callU (pc := 7) hc clJ4 (x := ⟨"java/lang/AbstractStringBuilder", "ensureCapacityInternal", "(I)V"⟩) (y := yJ5_ensureCapacityInternal_d00df) (As := [((0, .int (v1 + 1)) : TV)]) (ZJ5_ensureCapacityInternal_d00df x0 (v1 + 1)) dJ5_append_3fe6f_7 (n := 1) ⟨by decide +kernel, by decide +kernel, by decide +kernel⟩ rfl ⟨by decide +kernel, by decide +kernel⟩ (tw_U tw1396 tw1630 (tw_x (by decide +kernel) rfl) tw1398 tw14 tw1399) rfl (Nat.le_of_ble_eq_true rfl) (Nat.le_of_ble_eq_true rfl) (Nat.le_of_ble_eq_true rfl) rfl (fun _ => ?_)
  show Jw κ (wM κ) 2 fin 10 [some ((41, .ref x0) : TV), some ((0, .int x1) : TV)] [] _
  refine N_aload_n (pc := 10) hc dJ5_append_3fe6f_10 rfl rfl ?_
  refine N_callU (pc := 11) hc clJ4 (x := ⟨"java/lang/AbstractStringBuilder", "isLatin1", "()Z"⟩) (y := yJ5_isLatin1_aae02) (As := []) (ZJ5_isLatin1_aae02 x0) dJ5_append_3fe6f_11 (n := 0) ⟨by decide +kernel, by decide +kernel, by decide +kernel⟩ rfl ⟨by decide +kernel, by decide +kernel⟩ (tw_U tw1414 tw1416 tw1417 tw1415 tw14 tw1418) rfl (Nat.le_of_ble_eq_true rfl) (Nat.le_of_ble_eq_true rfl) (Nat.le_of_ble_eq_true rfl) rfl (fun v2 => ?_)
  show Jw κ (wM κ) 2 fin 14 [some ((41, .ref x0) : TV), some ((0, .int x1) : TV)] [((0, .int v2) : TV)] _
  refine N_if_eq (pc := 14) (tgt := 45) hc dJ5_append_3fe6f_14 (by decide) ?_ ?_
  · exact N_fail
  · refine N_iload_n (pc := 17) hc dJ5_append_3fe6f_17 rfl rfl ?_
    refine N_callS (pc := 18) hc (As := [((0, .int x1) : TV)]) (ZJ1_canEncode_fc78d x1) dJ5_append_3fe6f_18 mzJ1_canEncode_fc78d tw1419 tw1420 tw23 tw1421 rfl (Nat.le_of_ble_eq_true rfl) (Nat.le_of_ble_eq_true rfl) (Nat.le_of_ble_eq_true rfl) rfl (fun v3 => ?_)
    show Jw κ (wM κ) 2 fin 21 [some ((41, .ref x0) : TV), some ((0, .int x1) : TV)] [((0, .int v3) : TV)] _
    refine N_if_eq (pc := 21) (tgt := 45) hc dJ5_append_3fe6f_21 (by decide) ?_ ?_
    · exact N_fail
    · refine N_aload_n (pc := 24) hc dJ5_append_3fe6f_24 rfl rfl ?_
      refine N_getA (pc := 25) hc clJ4 (k := 0) (kd := 10) (Nat.le_of_ble_eq_true rfl) rfl (Nat.le_of_ble_eq_true rfl) tw1376 (Or.inl rfl) dJ5_append_3fe6f_25 (fun v4 => ?_)
      refine N_aload_n (pc := 28) hc dJ5_append_3fe6f_28 rfl rfl ?_
      refine N_dup (pc := 29) hc dJ5_append_3fe6f_29 rfl ?_
      refine N_getI (pc := 30) hc clJ4 (k := 3) (Nat.le_of_ble_eq_true rfl) rfl tw1379 (Or.inl rfl) dJ5_append_3fe6f_30 (fun v5 => ?_)
      refine N_dup_x1 (pc := 33) hc dJ5_append_3fe6f_33 rfl rfl ?_
      refine N_iconst (pc := 34) (v := 1) hc dJ5_append_3fe6f_34 (by decide) ?_
      refine N_iadd (pc := 35) hc dJ5_append_3fe6f_35 ?_
      refine N_putI (pc := 36) hc clJ4 (k := 3) (Nat.le_of_ble_eq_true rfl) rfl rfl tw1379 (Or.inl rfl) rfl dJ5_append_3fe6f_36 ?_
      refine N_iload_n (pc := 39) hc dJ5_append_3fe6f_39 rfl rfl ?_
      refine N_i2bN (pc := 40) hc dJ5_append_3fe6f_40 ?_
      refine N_bast (pc := 41) hc dJ5_append_3fe6f_41 ?_
      refine N_goto (pc := 42) (tgt := 75) hc dJ5_append_3fe6f_42 (by decide) ?_
      refine N_aload_n (pc := 75) hc dJ5_append_3fe6f_75 rfl rfl ?_
      exact N_ret (pc := 76) he dJ5_append_3fe6f_76 trivial rfl
theorem mzJ5_append_3fe6f : MOk yJ5_append_3fe6f 1 := ⟨by decide +kernel, by decide +kernel, by decide +kernel⟩
set_option maxRecDepth 100000 in
set_option maxHeartbeats 8000000 in
theorem ZJ5_append_3fe6f (x0 : Nat) (x1 : Int32) : Cw (tA 41) yJ5_append_3fe6f cJ5_append_3fe6f 2 (some (.object "java/lang/AbstractStringBuilder")) 4 170 [((41, .ref x0) : TV), ((0, .int x1) : TV)] (gJ5_append_3fe6f x0 x1) :=
  Cw_A (Or.inl ⟨_, rfl⟩) (j := 0) (by decide +kernel) rfl rfl (Nat.le_of_ble_eq_true rfl) (fun κ fin mc ms hc he => qJ5_append_3fe6f hc he x0 x1)
set_option maxRecDepth 100000 in
set_option maxHeartbeats 8000000 in
theorem qJ4_append_cf468 {κ : Cx} {fin : Nat → Mm → Prop} {mc ms : Nat} (hc : Jc κ RJ4 cJ4_append_cf468 2 5 mc ms 191) (he : EdW κ cJ4_append_cf468 (tA 41) .areturn (fun _ => True) fin) (x0 : Nat) (x1 : Int32) : Jw κ (wM κ) 2 fin 0 [some ((41, .ref x0) : TV), some ((0, .int x1) : TV)] [] (gJ4_append_cf468 x0 x1) := by
  unfold gJ4_append_cf468
  refine N_aload_n (pc := 0) hc dJ4_append_cf468_0 rfl rfl ?_
  refine N_iload_n (pc := 1) hc dJ4_append_cf468_1 rfl rfl ?_
  refine N_callSU (pc := 2) hc clJ4 (As := [((0, .int x1) : TV)]) (ZJ5_append_3fe6f x0 x1) dJ4_append_cf468_2 mzJ5_append_3fe6f (by decide) tw1360 (tw_SU tw1393 tw1629 tw1388 tw1394 tw14 tw1395) rfl (Nat.le_of_ble_eq_true rfl) (Nat.le_of_ble_eq_true rfl) (Nat.le_of_ble_eq_true rfl) rfl (fun h1 => ?_)
  show Jw κ (wM κ) 2 fin 5 [some ((41, .ref x0) : TV), some ((0, .int x1) : TV)] [((41, .ref h1) : TV)] _
  refine N_pop (pc := 5) hc dJ4_append_cf468_5 rfl ?_
  refine N_aload_n (pc := 6) hc dJ4_append_cf468_6 rfl rfl ?_
  exact N_ret (pc := 7) he dJ4_append_cf468_7 trivial rfl
theorem mzJ4_append_cf468 : MOk yJ4_append_cf468 1 := ⟨by decide +kernel, by decide +kernel, by decide +kernel⟩
set_option maxRecDepth 100000 in
set_option maxHeartbeats 8000000 in
theorem ZJ4_append_cf468 (x0 : Nat) (x1 : Int32) : Cw (tA 41) yJ4_append_cf468 cJ4_append_cf468 2 (some (.object "java/lang/StringBuilder")) 5 191 [((41, .ref x0) : TV), ((0, .int x1) : TV)] (gJ4_append_cf468 x0 x1) :=
  Cw_A (Or.inl ⟨_, rfl⟩) (j := 0) (by decide +kernel) rfl rfl (Nat.le_of_ble_eq_true rfl) (fun κ fin mc ms hc he => qJ4_append_cf468 hc he x0 x1)
set_option maxRecDepth 100000 in
set_option maxHeartbeats 8000000 in
theorem qJ5_getValue_6d5f1 {κ : Cx} {fin : Nat → Mm → Prop} {mc ms : Nat} (hc : Jc κ RJ5 cJ5_getValue_6d5f1 1 1 mc ms 100) (he : EdW κ cJ5_getValue_6d5f1 (tA 10) .areturn (fun _ => True) fin) (x0 : Nat) : Jw κ (wM κ) 1 fin 0 [some ((41, .ref x0) : TV)] [] (gJ5_getValue_6d5f1 x0) := by
  unfold gJ5_getValue_6d5f1
  refine N_aload_n (pc := 0) hc dJ5_getValue_6d5f1_0 rfl rfl ?_
  refine N_getA (pc := 1) hc clJ4 (k := 0) (kd := 10) (Nat.le_of_ble_eq_true rfl) rfl (Nat.le_of_ble_eq_true rfl) tw1376 (Or.inl rfl) dJ5_getValue_6d5f1_1 (fun v1 => ?_)
  exact N_ret (pc := 4) he dJ5_getValue_6d5f1_4 trivial rfl
theorem mzJ5_getValue_6d5f1 : MOk yJ5_getValue_6d5f1 0 := ⟨by decide +kernel, by decide +kernel, by decide +kernel⟩
set_option maxRecDepth 100000 in
set_option maxHeartbeats 8000000 in
theorem ZJ5_getValue_6d5f1 (x0 : Nat) : Cw (tA 10) yJ5_getValue_6d5f1 cJ5_getValue_6d5f1 1 (some (.array .byte)) 1 100 [((41, .ref x0) : TV)] (gJ5_getValue_6d5f1 x0) :=
  Cw_A (Or.inr ⟨_, rfl⟩) (j := 0) (by decide +kernel) rfl rfl (Nat.le_of_ble_eq_true rfl) (fun κ fin mc ms hc he => qJ5_getValue_6d5f1 hc he x0)
set_option maxRecDepth 100000 in
set_option maxHeartbeats 8000000 in
theorem qJ5_length_8abf5 {κ : Cx} {fin : Int32 → Mm → Prop} {mc ms : Nat} (hc : Jc κ RJ5 cJ5_length_8abf5 1 1 mc ms 100) (he : EdW κ cJ5_length_8abf5 tI .ireturn (fun _ => True) fin) (x0 : Nat) : Jw κ (wM κ) 1 fin 0 [some ((41, .ref x0) : TV)] [] (gJ5_length_8abf5 x0) := by
  unfold gJ5_length_8abf5
  refine N_aload_n (pc := 0) hc dJ5_length_8abf5_0 rfl rfl ?_
  refine N_getI (pc := 1) hc clJ4 (k := 3) (Nat.le_of_ble_eq_true rfl) rfl tw1379 (Or.inl rfl) dJ5_length_8abf5_1 (fun v1 => ?_)
  exact N_ret (pc := 4) he dJ5_length_8abf5_4 trivial rfl
theorem mzJ5_length_8abf5 : MOk yJ5_length_8abf5 0 := ⟨by decide +kernel, by decide +kernel, by decide +kernel⟩
set_option maxRecDepth 100000 in
set_option maxHeartbeats 8000000 in
theorem ZJ5_length_8abf5 (x0 : Nat) : Cw tI yJ5_length_8abf5 cJ5_length_8abf5 1 (some .int) 1 100 [((41, .ref x0) : TV)] (gJ5_length_8abf5 x0) :=
  Cw_I (j := 0) (by decide +kernel) rfl rfl (Nat.le_of_ble_eq_true rfl) (fun κ fin mc ms hc he => qJ5_length_8abf5 hc he x0)
set_option maxRecDepth 100000 in
set_option maxHeartbeats 8000000 in
theorem qJ4_length_8abf5 {κ : Cx} {fin : Int32 → Mm → Prop} {mc ms : Nat} (hc : Jc κ RJ4 cJ4_length_8abf5 1 2 mc ms 120) (he : EdW κ cJ4_length_8abf5 tI .ireturn (fun _ => True) fin) (x0 : Nat) : Jw κ (wM κ) 1 fin 0 [some ((41, .ref x0) : TV)] [] (gJ4_length_8abf5 x0) := by
  unfold gJ4_length_8abf5
  refine N_aload_n (pc := 0) hc dJ4_length_8abf5_0 rfl rfl ?_
  refine N_callSU (pc := 1) hc clJ4 (As := []) (ZJ5_length_8abf5 x0) dJ4_length_8abf5_1 mzJ5_length_8abf5 (by decide) tw1360 (tw_SU tw1471 tw1467 tw1388 tw1466 tw14 tw1472) rfl (Nat.le_of_ble_eq_true rfl) (Nat.le_of_ble_eq_true rfl) (Nat.le_of_ble_eq_true rfl) rfl (fun v1 => ?_)
  show Jw κ (wM κ) 1 fin 4 [some ((41, .ref x0) : TV)] [((0, .int v1) : TV)] _
  exact N_ret (pc := 4) he dJ4_length_8abf5_4 trivial rfl
theorem mzJ4_length_8abf5 : MOk yJ4_length_8abf5 0 := ⟨by decide +kernel, by decide +kernel, by decide +kernel⟩
set_option maxRecDepth 100000 in
set_option maxHeartbeats 8000000 in
theorem ZJ4_length_8abf5 (x0 : Nat) : Cw tI yJ4_length_8abf5 cJ4_length_8abf5 1 (some .int) 2 120 [((41, .ref x0) : TV)] (gJ4_length_8abf5 x0) :=
  Cw_I (j := 0) (by decide +kernel) rfl rfl (Nat.le_of_ble_eq_true rfl) (fun κ fin mc ms hc he => qJ4_length_8abf5 hc he x0)
set_option maxRecDepth 100000 in
set_option maxHeartbeats 8000000 in
theorem qJ7_checkLength_df160 {κ : Cx} {fin : Unit → Mm → Prop} {mc ms : Nat} (hc : Jc κ RJ7 cJ7_checkLength_df160 2 1 mc ms 100) (he : EdW κ cJ7_checkLength_df160 tV .return_ (fun _ => True) fin) (x0 : Int32) (x1 : Int32) : Jw κ (wM κ) 2 fin 0 [some ((0, .int x0) : TV), some ((0, .int x1) : TV)] [] (gJ7_checkLength_df160 x0 x1) := by
  unfold gJ7_checkLength_df160
  refine N_iload_n (pc := 0) hc dJ7_checkLength_df160_0 rfl rfl ?_
  refine N_iload_n (pc := 1) hc dJ7_checkLength_df160_1 rfl rfl ?_
  refine N_icmp_ge (pc := 2) (tgt := 37) hc dJ7_checkLength_df160_2 (by decide) ?_ ?_
  · exact N_ret (pc := 37) he dJ7_checkLength_df160_37 trivial rfl
  · exact N_fail
theorem mzJ7_checkLength_df160 : MOk yJ7_checkLength_df160 2 := ⟨by decide +kernel, by decide +kernel, by decide +kernel⟩
set_option maxRecDepth 100000 in
set_option maxHeartbeats 8000000 in
theorem ZJ7_checkLength_df160 (x0 : Int32) (x1 : Int32) : Cw tV yJ7_checkLength_df160 cJ7_checkLength_df160 2 none 1 100 [((0, .int x0) : TV), ((0, .int x1) : TV)] (gJ7_checkLength_df160 x0 x1) :=
  Cw_V (j := 0) (by decide +kernel) rfl rfl (Nat.le_of_ble_eq_true rfl) (fun κ fin mc ms hc he hin => qJ7_checkLength_df160 hc he x0 x1)
set_option maxRecDepth 100000 in
set_option maxHeartbeats 8000000 in
theorem qJ7_copyOfRangeByte_39247 {κ : Cx} {fin : Nat → Mm → Prop} {mc ms : Nat} (hc : Jc κ RJ7 cJ7_copyOfRangeByte_39247 5 2 mc ms 121) (he : EdW κ cJ7_copyOfRangeByte_39247 (tA 10) .areturn (fun _ => True) fin) (x0 : Nat) (x1 : Int32) (x2 : Int32) : Jw κ (wM κ) 5 fin 0 [some ((10, .ref x0) : TV), some ((0, .int x1) : TV), some ((0, .int x2) : TV), none, none] [] (gJ7_copyOfRangeByte_39247 x0 x1 x2) := by
  unfold gJ7_copyOfRangeByte_39247
  refine N_iload_n (pc := 0) hc dJ7_copyOfRangeByte_39247_0 rfl rfl ?_
  refine N_iload_n (pc := 1) hc dJ7_copyOfRangeByte_39247_1 rfl rfl ?_
  refine N_callS (pc := 2) hc (As := [((0, .int x1) : TV), ((0, .int x2) : TV)]) (ZJ7_checkLength_df160 x1 x2) dJ7_copyOfRangeByte_39247_2 mzJ7_checkLength_df160 tw1480 tw1481 tw20 tw1482 rfl (Nat.le_of_ble_eq_true rfl) (Nat.le_of_ble_eq_true rfl) (Nat.le_of_ble_eq_true rfl) rfl (fun _ => ?_)
  show Jw κ (wM κ) 5 fin 5 [some ((10, .ref x0) : TV), some ((0, .int x1) : TV), some ((0, .int x2) : TV), none, none] [] _
  refine N_iload_n (pc := 5) hc dJ7_copyOfRangeByte_39247_5 rfl rfl ?_
  refine N_iload_n (pc := 6) hc dJ7_copyOfRangeByte_39247_6 rfl rfl ?_
  refine N_isub (pc := 7) hc dJ7_copyOfRangeByte_39247_7 ?_
  refine N_nmi (fun v1 => ?_)
  refine N_istore_n (pc := 8) (l' := [some ((10, .ref x0) : TV), some ((0, .int x1) : TV), some ((0, .int x2) : TV), some ((0, .int v1) : TV), none]) hc dJ7_copyOfRangeByte_39247_8 rfl (by decide) rfl rfl ?_
  refine N_iload_n (pc := 9) hc dJ7_copyOfRangeByte_39247_9 rfl rfl ?_
  refine N_newa10 (pc := 10) hc tw134 dJ7_copyOfRangeByte_39247_10 (fun h2 => ?_)
  refine N_astore (pc := 12) (l' := [some ((10, .ref x0) : TV), some ((0, .int x1) : TV), some ((0, .int x2) : TV), some ((0, .int v1) : TV), some ((10, .ref h2) : TV)]) hc dJ7_copyOfRangeByte_39247_12 (by decide) rfl rfl ?_
  refine N_aload_n (pc := 14) hc dJ7_copyOfRangeByte_39247_14 rfl rfl ?_
  refine N_iload_n (pc := 15) hc dJ7_copyOfRangeByte_39247_15 rfl rfl ?_
  refine N_aload (pc := 16) hc dJ7_copyOfRangeByte_39247_16 rfl ?_
  refine N_iconst (pc := 18) (v := 0) hc dJ7_copyOfRangeByte_39247_18 (by decide) ?_
  refine N_aload_n (pc := 19) hc dJ7_copyOfRangeByte_39247_19 rfl rfl ?_
  refine N_blen (pc := 20) hc dJ7_copyOfRangeByte_39247_20 (fun v3 => ?_)
  refine N_iload_n (pc := 21) hc dJ7_copyOfRangeByte_39247_21 rfl rfl ?_
  refine N_isub (pc := 22) hc dJ7_copyOfRangeByte_39247_22 ?_
  refine N_iload_n (pc := 23) hc dJ7_copyOfRangeByte_39247_23 rfl rfl ?_
  refine N_mmin (pc := 24) hc dJ7_copyOfRangeByte_39247_24 tw944 tw421 tw19 tw422 (Nat.le_of_ble_eq_true rfl) (Nat.le_of_ble_eq_true rfl) (Nat.le_of_ble_eq_true rfl) ?_
  refine N_cpB (pc := 27) hc tw945 tw947 tw946 tw21 (Nat.le_of_ble_eq_true rfl) (Nat.le_of_ble_eq_true rfl) (Nat.le_of_ble_eq_true rfl) dJ7_copyOfRangeByte_39247_27 ?_
  refine N_aload (pc := 30) hc dJ7_copyOfRangeByte_39247_30 rfl ?_
  exact N_ret (pc := 32) he dJ7_copyOfRangeByte_39247_32 trivial rfl
theorem mzJ7_copyOfRangeByte_39247 : MOk yJ7_copyOfRangeByte_39247 3 := ⟨by decide +kernel, by decide +kernel, by decide +kernel⟩
set_option maxRecDepth 100000 in
set_option maxHeartbeats 8000000 in
theorem ZJ7_copyOfRangeByte_39247 (x0 : Nat) (x1 : Int32) (x2 : Int32) : Cw (tA 10) yJ7_copyOfRangeByte_39247 cJ7_copyOfRangeByte_39247 5 (some (.array .byte)) 2 121 [((10, .ref x0) : TV), ((0, .int x1) : TV), ((0, .int x2) : TV)] (gJ7_copyOfRangeByte_39247 x0 x1 x2) :=
  Cw_A (Or.inr ⟨_, rfl⟩) (j := 2) (by decide +kernel) rfl rfl (Nat.le_of_ble_eq_true rfl) (fun κ fin mc ms hc he => qJ7_copyOfRangeByte_39247 hc he x0 x1 x2)
set_option maxRecDepth 100000 in
set_option maxHeartbeats 8000000 in
theorem qJ7_copyOfRange_39247_L10 {κ : Cx} {fin : Nat → Mm → Prop} {mc ms : Nat} (hc : Jc κ RJ7 cJ7_copyOfRange_39247 3 3 mc ms 145) (he : EdW κ cJ7_copyOfRange_39247 (tA 10) .areturn (fun _ => True) fin) (x0 : Nat) (x1 : Int32) (x2 : Int32) : Jw κ (wM κ) 3 fin 10 [some ((10, .ref x0) : TV), some ((0, .int x1) : TV), some ((0, .int x2) : TV)] [] (gJ7_copyOfRange_39247_L10 x0 x1 x2) := by
  unfold gJ7_copyOfRange_39247_L10
  refine N_aload_n (pc := 10) hc dJ7_copyOfRange_39247_10 rfl rfl ?_
  refine N_iload_n (pc := 11) hc dJ7_copyOfRange_39247_11 rfl rfl ?_
  refine N_iload_n (pc := 12) hc dJ7_copyOfRange_39247_12 rfl rfl ?_
  refine N_callS (pc := 13) hc (As := [((10, .ref x0) : TV), ((0, .int x1) : TV), ((0, .int x2) : TV)]) (ZJ7_copyOfRangeByte_39247 x0 x1 x2) dJ7_copyOfRange_39247_13 mzJ7_copyOfRangeByte_39247 tw1477 tw1478 tw20 tw1479 rfl (Nat.le_of_ble_eq_true rfl) (Nat.le_of_ble_eq_true rfl) (Nat.le_of_ble_eq_true rfl) rfl (fun h1 => ?_)
  show Jw κ (wM κ) 3 fin 16 [some ((10, .ref x0) : TV), some ((0, .int x1) : TV), some ((0, .int x2) : TV)] [((10, .ref h1) : TV)] _
  exact N_ret (pc := 16) he dJ7_copyOfRange_39247_16 trivial rfl
set_option maxRecDepth 100000 in
set_option maxHeartbeats 8000000 in
theorem qJ7_copyOfRange_39247 {κ : Cx} {fin : Nat → Mm → Prop} {mc ms : Nat} (hc : Jc κ RJ7 cJ7_copyOfRange_39247 3 3 mc ms 145) (he : EdW κ cJ7_copyOfRange_39247 (tA 10) .areturn (fun _ => True) fin) (x0 : Nat) (x1 : Int32) (x2 : Int32) : Jw κ (wM κ) 3 fin 0 [some ((10, .ref x0) : TV), some ((0, .int x1) : TV), some ((0, .int x2) : TV)] [] (gJ7_copyOfRange_39247 x0 x1 x2) := by
  unfold gJ7_copyOfRange_39247
  refine N_iload_n (pc := 0) hc dJ7_copyOfRange_39247_0 rfl rfl ?_
  refine N_if_ne (pc := 1) (tgt := 10) hc dJ7_copyOfRange_39247_1 (by decide) ?_ ?_
  · refine N_sub (l' := [some ((10, .ref x0) : TV), some ((0, .int x1) : TV), some ((0, .int x2) : TV)]) ⟨rfl, ⟨rfl, ⟨rfl, trivial⟩⟩⟩ ?_
    exact qJ7_copyOfRange_39247_L10 hc he x0 x1 x2
  · refine N_iload_n (pc := 4) hc dJ7_copyOfRange_39247_4 rfl rfl ?_
    refine N_aload_n (pc := 5) hc dJ7_copyOfRange_39247_5 rfl rfl ?_
    refine N_blen (pc := 6) hc dJ7_copyOfRange_39247_6 (fun v2 => ?_)
    refine N_icmp_eq (pc := 7) (tgt := 17) hc dJ7_copyOfRange_39247_7 (by decide) ?_ ?_
    · refine N_aload_n (pc := 17) hc dJ7_copyOfRange_39247_17 rfl rfl ?_
      refine N_clone10 (pc := 18) hc tw1409 tw1410 tw830 tw831 tw1411 (Nat.le_of_ble_eq_true rfl) (Nat.le_of_ble_eq_true rfl) (Nat.le_of_ble_eq_true rfl) dJ7_copyOfRange_39247_18 (fun h3 => ?_)
      refine N_castBt (pc := 21) hc tw1413 dJ7_copyOfRange_39247_21 ?_
      exact N_ret (pc := 24) he dJ7_copyOfRange_39247_24 trivial rfl
    · refine N_sub (l' := [some ((10, .ref x0) : TV), some ((0, .int x1) : TV), some ((0, .int x2) : TV)]) ⟨rfl, ⟨rfl, ⟨rfl, trivial⟩⟩⟩ ?_
      exact qJ7_copyOfRange_39247_L10 hc he x0 x1 x2
theorem mzJ7_copyOfRange_39247 : MOk yJ7_copyOfRange_39247 3 := ⟨by decide +kernel, by decide +kernel, by decide +kernel⟩
set_option maxRecDepth 100000 in
set_option maxHeartbeats 8000000 in
theorem ZJ7_copyOfRange_39247 (x0 : Nat) (x1 : Int32) (x2 : Int32) : Cw (tA 10) yJ7_copyOfRange_39247 cJ7_copyOfRange_39247 3 (some (.array .byte)) 3 145 [((10, .ref x0) : TV), ((0, .int x1) : TV), ((0, .int x2) : TV)] (gJ7_copyOfRange_39247 x0 x1 x2) :=
  Cw_A (Or.inr ⟨_, rfl⟩) (j := 0) (by decide +kernel) rfl rfl (Nat.le_of_ble_eq_true rfl) (fun κ fin mc ms hc he => qJ7_copyOfRange_39247 hc he x0 x1 x2)
set_option maxRecDepth 100000 in
set_option maxHeartbeats 8000000 in
theorem qJ0_init_db425_L79 {κ : Cx} {fin : Unit → Mm → Prop} {mc ms : Nat} (hc : Jc κ RJ0 cJ0_init_db425 5 4 mc ms 167) (he : EdW κ cJ0_init_db425 tV .return_ (fun _ => True) fin) (hin : Mh κ = "<init>") (x0 : Nat) (x3 : Nat) (x4 : Int32) : Jw κ (wM κ) 5 fin 79 [some ((40, .ref x0) : TV), none, none, some ((10, .ref x3) : TV), some ((0, .int x4) : TV)] [] (gJ0_init_db425_L79 x0 x3 x4) := by
  unfold gJ0_init_db425_L79
  refine N_aload_n (pc := 79) hc dJ0_init_db425_79 rfl rfl ?_
  refine N_iconst (pc := 80) (v := 1) hc dJ0_init_db425_80 (by decide) ?_
  refine N_putZF (pc := 81) hc hin clJ0 (k := 1) (Nat.le_of_ble_eq_true rfl) rfl rfl (Or.inr rfl) tw1494 rfl rfl rfl dJ0_init_db425_81 ?_
  refine N_aload_n (pc := 84) hc dJ0_init_db425_84 rfl rfl ?_
  refine N_aload_n (pc := 85) hc dJ0_init_db425_85 rfl rfl ?_
  refine N_iconst (pc := 86) (v := 0) hc dJ0_init_db425_86 (by decide) ?_
  refine N_iload (pc := 87) hc dJ0_init_db425_87 rfl ?_
  refine N_iconst (pc := 89) (v := 1) hc dJ0_init_db425_89 (by decide) ?_
  refine N_ishl (pc := 90) hc dJ0_init_db425_90 ?_
  refine N_callS (pc := 91) hc (As := [((10, .ref x3) : TV), ((0, .int 0) : TV), ((0, .int (x4 <<< (1 &&& 31))) : TV)]) (ZJ7_copyOfRange_39247 x3 0 (x4 <<< (1 &&& 31))) dJ0_init_db425_91 mzJ7_copyOfRange_39247 tw1474 tw1475 tw20 tw1476 rfl (Nat.le_of_ble_eq_true rfl) (Nat.le_of_ble_eq_true rfl) (Nat.le_of_ble_eq_true rfl) rfl (fun h1 => ?_)
  show Jw κ (wM κ) 5 fin 94 [some ((40, .ref x0) : TV), none, none, some ((10, .ref x3) : TV), some ((0, .int x4) : TV)] [((10, .ref h1) : TV), ((40, .ref x0) : TV)] _
  refine N_putAF (pc := 94) hc hin clJ0 (k := 0) (kd := 10) (Nat.le_of_ble_eq_true rfl) rfl (Nat.le_of_ble_eq_true rfl) (fun _ => rfl) (fun _ => rfl) tw1493 rfl rfl rfl dJ0_init_db425_94 ?_
  exact N_ret (pc := 97) he dJ0_init_db425_97 trivial rfl
set_option maxRecDepth 100000 in
set_option maxHeartbeats 8000000 in
theorem qJ0_init_db425 {κ : Cx} {fin : Unit → Mm → Prop} {mc ms : Nat} (hc : Jc κ RJ0 cJ0_init_db425 5 4 mc ms 167) (he : EdW κ cJ0_init_db425 tV .return_ (fun _ => True) fin) (hin : Mh κ = "<init>") (x0 : Nat) (x1 : Nat) (x2 : Option Nat) : Jw κ (wM κ) 5 fin 0 [some ((40, .ref x0) : TV), some ((41, .ref x1) : TV), some ((23, va_rf x2) : TV), none, none] [] (gJ0_init_db425 x0 x1) := by
  unfold gJ0_init_db425
  refine N_aload_n (pc := 0) hc dJ0_init_db425_0 rfl rfl ?_
  refine N_objInit (pc := 1) hc tw1459 tw43 tw44 (Nat.le_of_ble_eq_true rfl) (Nat.le_of_ble_eq_true rfl) (Nat.le_of_ble_eq_true rfl) dJ0_init_db425_1 ?_
  refine N_aload_n (pc := 4) hc dJ0_init_db425_4 rfl rfl ?_
  refine N_callU (pc := 5) hc clJ4 (x := ⟨"java/lang/AbstractStringBuilder", "getValue", "()[B"⟩) (y := yJ5_getValue_6d5f1) (As := []) (ZJ5_getValue_6d5f1 x1) dJ0_init_db425_5 (n := 0) ⟨by decide +kernel, by decide +kernel, by decide +kernel⟩ rfl ⟨by decide +kernel, by decide +kernel⟩ (tw_U tw1460 tw1462 tw1463 tw1461 tw14 tw1464) rfl (Nat.le_of_ble_eq_true rfl) (Nat.le_of_ble_eq_true rfl) (Nat.le_of_ble_eq_true rfl) rfl (fun h2 => ?_)
  show Jw κ (wM κ) 5 fin 8 [some ((40, .ref x0) : TV), some ((41, .ref x1) : TV), some ((23, va_rf x2) : TV), none, none] [((10, .ref h2) : TV)] _
  refine N_astore_n (pc := 8) (l' := [some ((40, .ref x0) : TV), some ((41, .ref x1) : TV), some ((23, va_rf x2) : TV), some ((10, .ref h2) : TV), none]) hc dJ0_init_db425_8 rfl (by decide) (by cases x2 <;> rfl) rfl ?_
  refine N_aload_n (pc := 9) hc dJ0_init_db425_9 rfl rfl ?_
  refine N_callO (pc := 10) hc clJ4 (owner := "java/lang/AbstractStringBuilder") (x := ⟨"java/lang/AbstractStringBuilder", "length", "()I"⟩) (y := yJ4_length_8abf5) (As := []) (ZJ4_length_8abf5 x1) dJ0_init_db425_10 (n := 0) ⟨by decide +kernel, by decide +kernel, by decide +kernel⟩ tw1472 ⟨by decide +kernel, by decide +kernel⟩ (tw_O tw1465 tw1467 tw1466 tw1468 tw1469 tw15 tw1470) rfl (Nat.le_of_ble_eq_true rfl) (Nat.le_of_ble_eq_true rfl) (Nat.le_of_ble_eq_true rfl) rfl (fun v3 => ?_)
  show Jw κ (wM κ) 5 fin 13 [some ((40, .ref x0) : TV), some ((41, .ref x1) : TV), some ((23, va_rf x2) : TV), some ((10, .ref h2) : TV), none] [((0, .int v3) : TV)] _
  refine N_istore (pc := 13) (l' := [some ((40, .ref x0) : TV), some ((41, .ref x1) : TV), some ((23, va_rf x2) : TV), some ((10, .ref h2) : TV), some ((0, .int v3) : TV)]) hc dJ0_init_db425_13 (by decide) rfl rfl ?_
  refine N_aload_n (pc := 15) hc dJ0_init_db425_15 rfl rfl ?_
  refine N_callU (pc := 16) hc clJ4 (x := ⟨"java/lang/AbstractStringBuilder", "isLatin1", "()Z"⟩) (y := yJ5_isLatin1_aae02) (As := []) (ZJ5_isLatin1_aae02 x1) dJ0_init_db425_16 (n := 0) ⟨by decide +kernel, by decide +kernel, by decide +kernel⟩ rfl ⟨by decide +kernel, by decide +kernel⟩ (tw_U tw1473 tw1416 tw1417 tw1415 tw14 tw1418) rfl (Nat.le_of_ble_eq_true rfl) (Nat.le_of_ble_eq_true rfl) (Nat.le_of_ble_eq_true rfl) rfl (fun v4 => ?_)
  show Jw κ (wM κ) 5 fin 19 [some ((40, .ref x0) : TV), some ((41, .ref x1) : TV), some ((23, va_rf x2) : TV), some ((10, .ref h2) : TV), some ((0, .int v3) : TV)] [((0, .int v4) : TV)] _
  refine N_if_eq (pc := 19) (tgt := 41) hc dJ0_init_db425_19 (by decide) ?_ ?_
  · refine N_getsC (pc := 41) hc tw363 dJ0_init_db425_41 ?_
    refine N_if_eq (pc := 44) (tgt := 79) hc dJ0_init_db425_44 (by decide) ?_ ?_
    · refine N_sub (l' := [some ((40, .ref x0) : TV), none, none, some ((10, .ref h2) : TV), some ((0, .int v3) : TV)]) ⟨rfl, ⟨rfl, ⟨rfl, trivial⟩⟩⟩ ?_
      exact qJ0_init_db425_L79 hc he hin x0 h2 v3
    · refine N_aload_n (pc := 47) hc dJ0_init_db425_47 rfl rfl ?_
      refine N_getI (pc := 48) hc clJ4 (k := 2) (Nat.le_of_ble_eq_true rfl) rfl tw1378 (Or.inl rfl) dJ0_init_db425_48 (fun v5 => ?_)
      refine N_if_eq (pc := 51) (tgt := 79) hc dJ0_init_db425_51 (by decide) ?_ ?_
      · refine N_sub (l' := [some ((40, .ref x0) : TV), none, none, some ((10, .ref h2) : TV), some ((0, .int v3) : TV)]) ⟨rfl, ⟨rfl, ⟨rfl, trivial⟩⟩⟩ ?_
        exact qJ0_init_db425_L79 hc he hin x0 h2 v3
      · exact N_fail
  · refine N_aload_n (pc := 22) hc dJ0_init_db425_22 rfl rfl ?_
    refine N_iconst (pc := 23) (v := 0) hc dJ0_init_db425_23 (by decide) ?_
    refine N_putZF (pc := 24) hc hin clJ0 (k := 1) (Nat.le_of_ble_eq_true rfl) rfl rfl (Or.inr rfl) tw1494 rfl rfl rfl dJ0_init_db425_24 ?_
    refine N_aload_n (pc := 27) hc dJ0_init_db425_27 rfl rfl ?_
    refine N_aload_n (pc := 28) hc dJ0_init_db425_28 rfl rfl ?_
    refine N_iconst (pc := 29) (v := 0) hc dJ0_init_db425_29 (by decide) ?_
    refine N_iload (pc := 30) hc dJ0_init_db425_30 rfl ?_
    refine N_callS (pc := 32) hc (As := [((10, .ref h2) : TV), ((0, .int 0) : TV), ((0, .int v3) : TV)]) (ZJ7_copyOfRange_39247 h2 0 v3) dJ0_init_db425_32 mzJ7_copyOfRange_39247 tw1474 tw1475 tw20 tw1476 rfl (Nat.le_of_ble_eq_true rfl) (Nat.le_of_ble_eq_true rfl) (Nat.le_of_ble_eq_true rfl) rfl (fun h6 => ?_)
    show Jw κ (wM κ) 5 fin 35 [some ((40, .ref x0) : TV), some ((41, .ref x1) : TV), some ((23, va_rf x2) : TV), some ((10, .ref h2) : TV), some ((0, .int v3) : TV)] [((10, .ref h6) : TV), ((40, .ref x0) : TV)] _
    refine N_putAF (pc := 35) hc hin clJ0 (k := 0) (kd := 10) (Nat.le_of_ble_eq_true rfl) rfl (Nat.le_of_ble_eq_true rfl) (fun _ => rfl) (fun _ => rfl) tw1493 rfl rfl rfl dJ0_init_db425_35 ?_
    refine N_goto (pc := 38) (tgt := 97) hc dJ0_init_db425_38 (by decide) ?_
    exact N_ret (pc := 97) he dJ0_init_db425_97 trivial rfl
theorem mzJ0_init_db425 : MOk yJ0_init_db425 2 := ⟨by decide +kernel, by decide +kernel, by decide +kernel⟩
set_option maxRecDepth 100000 in
set_option maxHeartbeats 8000000 in
theorem ZJ0_init_db425 (x0 : Nat) (x1 : Nat) (x2 : Option Nat) : Cw tV yJ0_init_db425 cJ0_init_db425 5 none 4 167 [((40, .ref x0) : TV), ((41, .ref x1) : TV), ((23, va_rf x2) : TV)] (gJ0_init_db425 x0 x1) := by
  cases x2 <;> exact
  Cw_V (j := 2) (by decide +kernel) rfl rfl (Nat.le_of_ble_eq_true rfl) (fun κ fin mc ms hc he hin => qJ0_init_db425 hc he hin x0 x1 _)
set_option maxRecDepth 100000 in
set_option maxHeartbeats 8000000 in
theorem qJ0_init_81219 {κ : Cx} {fin : Unit → Mm → Prop} {mc ms : Nat} (hc : Jc κ RJ0 cJ0_init_81219 2 5 mc ms 191) (he : EdW κ cJ0_init_81219 tV .return_ (fun _ => True) fin) (hin : Mh κ = "<init>") (x0 : Nat) (x1 : Nat) : Jw κ (wM κ) 2 fin 0 [some ((40, .ref x0) : TV), some ((41, .ref x1) : TV)] [] (gJ0_init_81219 x0 x1) := by
  unfold gJ0_init_81219
  refine N_aload_n (pc := 0) hc dJ0_init_81219_0 rfl rfl ?_
  refine N_aload_n (pc := 1) hc dJ0_init_81219_1 rfl rfl ?_
  refine N_null (pc := 2) (k := 23) hc dJ0_init_81219_2 ?_
  refine N_callI (pc := 3) hc (ci := 40) (As := [((41, .ref x1) : TV), ((23, va_rf none) : TV)]) (ZJ0_init_db425 x0 x1 (none : Option Nat)) dJ0_init_81219_3 mzJ0_init_db425 rfl tw1456 tw1457 tw16 tw1458 rfl (Nat.le_of_ble_eq_true rfl) (Nat.le_of_ble_eq_true rfl) (Nat.le_of_ble_eq_true rfl) rfl (fun _ => ?_)
  show Jw κ (wM κ) 2 fin 6 [some ((40, .ref x0) : TV), some ((41, .ref x1) : TV)] [] _
  exact N_ret (pc := 6) he dJ0_init_81219_6 trivial rfl
theorem mzJ0_init_81219 : MOk yJ0_init_81219 1 := ⟨by decide +kernel, by decide +kernel, by decide +kernel⟩
set_option maxRecDepth 100000 in
set_option maxHeartbeats 8000000 in
theorem ZJ0_init_81219 (x0 : Nat) (x1 : Nat) : Cw tV yJ0_init_81219 cJ0_init_81219 2 none 5 191 [((40, .ref x0) : TV), ((41, .ref x1) : TV)] (gJ0_init_81219 x0 x1) :=
  Cw_V (j := 0) (by decide +kernel) rfl rfl (Nat.le_of_ble_eq_true rfl) (fun κ fin mc ms hc he hin => qJ0_init_81219 hc he hin x0 x1)
set_option maxRecDepth 100000 in
set_option maxHeartbeats 8000000 in
theorem qJ4_toString_0e30d {κ : Cx} {fin : Nat → Mm → Prop} {mc ms : Nat} (hc : Jc κ RJ4 cJ4_toString_0e30d 1 6 mc ms 212) (he : EdW κ cJ4_toString_0e30d (tA 40) .areturn (fun _ => True) fin) (x0 : Nat) : Jw κ (wM κ) 1 fin 0 [some ((41, .ref x0) : TV)] [] (gJ4_toString_0e30d x0) := by
  unfold gJ4_toString_0e30d
  refine N_new (pc := 0) hc clJ0 dvJ0 tw1451 tw1452 tw16 dJ4_toString_0e30d_0 (fun h1 => ?_)
  refine N_dup (pc := 3) hc dJ4_toString_0e30d_3 rfl ?_
  refine N_aload_n (pc := 4) hc dJ4_toString_0e30d_4 rfl rfl ?_
  refine N_callI (pc := 5) hc (ci := 40) (As := [((41, .ref x0) : TV)]) (ZJ0_init_81219 h1 x0) dJ4_toString_0e30d_5 mzJ0_init_81219 rfl tw1453 tw1454 tw16 tw1455 rfl (Nat.le_of_ble_eq_true rfl) (Nat.le_of_ble_eq_true rfl) (Nat.le_of_ble_eq_true rfl) rfl (fun _ => ?_)
  show Jw κ (wM κ) 1 fin 8 [some ((41, .ref x0) : TV)] [((40, .ref h1) : TV)] _
  exact N_ret (pc := 8) he dJ4_toString_0e30d_8 trivial rfl
theorem mzJ4_toString_0e30d : MOk yJ4_toString_0e30d 0 := ⟨by decide +kernel, by decide +kernel, by decide +kernel⟩
set_option maxRecDepth 100000 in
set_option maxHeartbeats 8000000 in
theorem ZJ4_toString_0e30d (x0 : Nat) : Cw (tA 40) yJ4_toString_0e30d cJ4_toString_0e30d 1 (some (.object "java/lang/String")) 6 212 [((41, .ref x0) : TV)] (gJ4_toString_0e30d x0) :=
  Cw_A (Or.inl ⟨_, rfl⟩) (j := 0) (by decide +kernel) rfl rfl (Nat.le_of_ble_eq_true rfl) (fun κ fin mc ms hc he => qJ4_toString_0e30d hc he x0)
set_option maxRecDepth 100000 in
set_option maxHeartbeats 8000000 in
theorem qJ0_coder_7d493 {κ : Cx} {fin : Int32 → Mm → Prop} {mc ms : Nat} (hc : Jc κ RJ0 cJ0_coder_7d493 1 1 mc ms 100) (he : EdW κ cJ0_coder_7d493 tI .ireturn (fun a => a = 0 ∨ a = 1) fin) (x0 : Nat) : Jw κ (wM κ) 1 fin 0 [some ((40, .ref x0) : TV)] [] (gJ0_coder_7d493 x0) := by
  unfold gJ0_coder_7d493
  refine N_getsC (pc := 0) hc tw363 dJ0_coder_7d493_0 ?_
  refine N_if_eq (pc := 3) (tgt := 13) hc dJ0_coder_7d493_3 (by decide) ?_ ?_
  · refine N_iconst (pc := 13) (v := 1) hc dJ0_coder_7d493_13 (by decide) ?_
    exact N_zret (pc := 14) he dJ0_coder_7d493_14
  · refine N_aload_n (pc := 6) hc dJ0_coder_7d493_6 rfl rfl ?_
    refine N_getI (pc := 7) hc clJ0 (k := 1) (Nat.le_of_ble_eq_true rfl) rfl tw1494 (Or.inl rfl) dJ0_coder_7d493_7 (fun v1 => ?_)
    refine N_goto (pc := 10) (tgt := 14) hc dJ0_coder_7d493_10 (by decide) ?_
    exact N_zret (pc := 14) he dJ0_coder_7d493_14
theorem mzJ0_coder_7d493 : MOk yJ0_coder_7d493 0 := ⟨by decide +kernel, by decide +kernel, by decide +kernel⟩
set_option maxRecDepth 100000 in
set_option maxHeartbeats 8000000 in
theorem ZJ0_coder_7d493 (x0 : Nat) : Cw tI yJ0_coder_7d493 cJ0_coder_7d493 1 (some .byte) 1 100 [((40, .ref x0) : TV)] (gJ0_coder_7d493 x0) :=
  Cw_Z ⟨rfl, rfl⟩ (j := 0) (by decide +kernel) rfl rfl (Nat.le_of_ble_eq_true rfl) (fun κ fin mc ms hc he => qJ0_coder_7d493 hc he x0)
set_option maxRecDepth 100000 in
set_option maxHeartbeats 8000000 in
theorem qJ0_length_8abf5 {κ : Cx} {fin : Int32 → Mm → Prop} {mc ms : Nat} (hc : Jc κ RJ0 cJ0_length_8abf5 1 2 mc ms 120) (he : EdW κ cJ0_length_8abf5 tI .ireturn (fun _ => True) fin) (x0 : Nat) : Jw κ (wM κ) 1 fin 0 [some ((40, .ref x0) : TV)] [] (gJ0_length_8abf5 x0) := by
  unfold gJ0_length_8abf5
  refine N_aload_n (pc := 0) hc dJ0_length_8abf5_0 rfl rfl ?_
  refine N_getA (pc := 1) hc clJ0 (k := 0) (kd := 10) (Nat.le_of_ble_eq_true rfl) rfl (Nat.le_of_ble_eq_true rfl) tw1493 (Or.inl rfl) dJ0_length_8abf5_1 (fun v1 => ?_)
  refine N_blen (pc := 4) hc dJ0_length_8abf5_4 (fun v2 => ?_)
  refine N_aload_n (pc := 5) hc dJ0_length_8abf5_5 rfl rfl ?_
  refine N_callV (pc := 6) hc clJ0 (As := []) (ZJ0_coder_7d493 x0) dJ0_length_8abf5_6 mzJ0_coder_7d493 rfl tw359 tw360 tw361 tw16 tw362 rfl (Nat.le_of_ble_eq_true rfl) (Nat.le_of_ble_eq_true rfl) (Nat.le_of_ble_eq_true rfl) rfl (fun v3 => ?_)
  show Jw κ (wM κ) 1 fin 9 [some ((40, .ref x0) : TV)] [((0, .int v3) : TV), ((0, .int v2) : TV)] _
  refine N_ishr (pc := 9) hc dJ0_length_8abf5_9 ?_
  exact N_ret (pc := 10) he dJ0_length_8abf5_10 trivial rfl
theorem mzJ0_length_8abf5 : MOk yJ0_length_8abf5 0 := ⟨by decide +kernel, by decide +kernel, by decide +kernel⟩
set_option maxRecDepth 100000 in
set_option maxHeartbeats 8000000 in
theorem ZJ0_length_8abf5 (x0 : Nat) : Cw tI yJ0_length_8abf5 cJ0_length_8abf5 1 (some .int) 2 120 [((40, .ref x0) : TV)] (gJ0_length_8abf5 x0) :=
  Cw_I (j := 0) (by decide +kernel) rfl rfl (Nat.le_of_ble_eq_true rfl) (fun κ fin mc ms hc he => qJ0_length_8abf5 hc he x0)
set_option maxRecDepth 100000 in
set_option maxHeartbeats 8000000 in
theorem qJ0_isLatin1_aae02 {κ : Cx} {fin : Int32 → Mm → Prop} {mc ms : Nat} (hc : Jc κ RJ0 cJ0_isLatin1_aae02 1 1 mc ms 100) (he : EdW κ cJ0_isLatin1_aae02 tI .ireturn (fun a => a = 0 ∨ a = 1) fin) (x0 : Nat) : Jw κ (wM κ) 1 fin 0 [some ((40, .ref x0) : TV)] [] (gJ0_isLatin1_aae02 x0) := by
  unfold gJ0_isLatin1_aae02
  refine N_getsC (pc := 0) hc tw363 dJ0_isLatin1_aae02_0 ?_
  refine N_if_eq (pc := 3) (tgt := 17) hc dJ0_isLatin1_aae02_3 (by decide) ?_ ?_
  · refine N_iconst (pc := 17) (v := 0) hc dJ0_isLatin1_aae02_17 (by decide) ?_
    exact N_zret (pc := 18) he dJ0_isLatin1_aae02_18
  · refine N_aload_n (pc := 6) hc dJ0_isLatin1_aae02_6 rfl rfl ?_
    refine N_getI (pc := 7) hc clJ0 (k := 1) (Nat.le_of_ble_eq_true rfl) rfl tw1494 (Or.inl rfl) dJ0_isLatin1_aae02_7 (fun v1 => ?_)
    refine N_if_ne (pc := 10) (tgt := 17) hc dJ0_isLatin1_aae02_10 (by decide) ?_ ?_
    · refine N_iconst (pc := 17) (v := 0) hc dJ0_isLatin1_aae02_17 (by decide) ?_
      exact N_zret (pc := 18) he dJ0_isLatin1_aae02_18
    · refine N_iconst (pc := 13) (v := 1) hc dJ0_isLatin1_aae02_13 (by decide) ?_
      refine N_goto (pc := 14) (tgt := 18) hc dJ0_isLatin1_aae02_14 (by decide) ?_
      exact N_zret (pc := 18) he dJ0_isLatin1_aae02_18
theorem mzJ0_isLatin1_aae02 : MOk yJ0_isLatin1_aae02 0 := ⟨by decide +kernel, by decide +kernel, by decide +kernel⟩
set_option maxRecDepth 100000 in
set_option maxHeartbeats 8000000 in
theorem ZJ0_isLatin1_aae02 (x0 : Nat) : Cw tI yJ0_isLatin1_aae02 cJ0_isLatin1_aae02 1 (some .boolean) 1 100 [((40, .ref x0) : TV)] (gJ0_isLatin1_aae02 x0) :=
  Cw_Z ⟨rfl, rfl⟩ (j := 0) (by decide +kernel) rfl rfl (Nat.le_of_ble_eq_true rfl) (fun κ fin mc ms hc he => qJ0_isLatin1_aae02 hc he x0)
set_option maxRecDepth 100000 in
set_option maxHeartbeats 8000000 in
theorem qJ0_checkIndex_df160 {κ : Cx} {fin : Unit → Mm → Prop} {mc ms : Nat} (hc : Jc κ RJ0 cJ0_checkIndex_df160 2 2 mc ms 122) (he : EdW κ cJ0_checkIndex_df160 tV .return_ (fun _ => True) fin) (x0 : Int32) (x1 : Int32) : Jw κ (wM κ) 2 fin 0 [some ((0, .int x0) : TV), some ((0, .int x1) : TV)] [] (gJ0_checkIndex_df160 x0 x1) := by
  unfold gJ0_checkIndex_df160
  refine N_iload_n (pc := 0) hc dJ0_checkIndex_df160_0 rfl rfl ?_
  refine N_iload_n (pc := 1) hc dJ0_checkIndex_df160_1 rfl rfl ?_
  refine N_getsP (pc := 2) hc tw379 dJ0_checkIndex_df160_2 (fun r1 => ?_)
  refine N_callS (pc := 5) hc (As := [((0, .int x0) : TV), ((0, .int x1) : TV), ((23, va_rf r1) : TV)]) (ZJ3_checkIndex_8e157 x0 x1 r1) dJ0_checkIndex_df160_5 mzJ3_checkIndex_8e157 tw381 tw382 tw22 tw383 rfl (Nat.le_of_ble_eq_true rfl) (Nat.le_of_ble_eq_true rfl) (Nat.le_of_ble_eq_true rfl) rfl (fun v2 => ?_)
  show Jw κ (wM κ) 2 fin 8 [some ((0, .int x0) : TV), some ((0, .int x1) : TV)] [((0, .int v2) : TV)] _
  refine N_pop (pc := 8) hc dJ0_checkIndex_df160_8 rfl ?_
  exact N_ret (pc := 9) he dJ0_checkIndex_df160_9 trivial rfl
theorem mzJ0_checkIndex_df160 : MOk yJ0_checkIndex_df160 2 := ⟨by decide +kernel, by decide +kernel, by decide +kernel⟩
set_option maxRecDepth 100000 in
set_option maxHeartbeats 8000000 in
theorem ZJ0_checkIndex_df160 (x0 : Int32) (x1 : Int32) : Cw tV yJ0_checkIndex_df160 cJ0_checkIndex_df160 2 none 2 122 [((0, .int x0) : TV), ((0, .int x1) : TV)] (gJ0_checkIndex_df160 x0 x1) :=
  Cw_V (j := 0) (by decide +kernel) rfl rfl (Nat.le_of_ble_eq_true rfl) (fun κ fin mc ms hc he hin => qJ0_checkIndex_df160 hc he x0 x1)
set_option maxRecDepth 100000 in
set_option maxHeartbeats 8000000 in
theorem qJ1_charAt_3b067 {κ : Cx} {fin : Int32 → Mm → Prop} {mc ms : Nat} (hc : Jc κ RJ1 cJ1_charAt_3b067 2 3 mc ms 143) (he : EdW κ cJ1_charAt_3b067 tI .ireturn (fun a => nCh a = true) fin) (x0 : Nat) (x1 : Int32) : Jw κ (wM κ) 2 fin 0 [some ((10, .ref x0) : TV), some ((0, .int x1) : TV)] [] (gJ1_charAt_3b067 x0 x1) := by
  unfold gJ1_charAt_3b067
  refine N_iload_n (pc := 0) hc dJ1_charAt_3b067_0 rfl rfl ?_
  refine N_aload_n (pc := 1) hc dJ1_charAt_3b067_1 rfl rfl ?_
  refine N_blen (pc := 2) hc dJ1_charAt_3b067_2 (fun v1 => ?_)
  refine N_callS (pc := 3) hc (As := [((0, .int x1) : TV), ((0, .int v1) : TV)]) (ZJ0_checkIndex_df160 x1 v1) dJ1_charAt_3b067_3 mzJ0_checkIndex_df160 tw376 tw377 tw16 tw378 rfl (Nat.le_of_ble_eq_true rfl) (Nat.le_of_ble_eq_true rfl) (Nat.le_of_ble_eq_true rfl) rfl (fun _ => ?_)
  show Jw κ (wM κ) 2 fin 6 [some ((10, .ref x0) : TV), some ((0, .int x1) : TV)] [] _
  refine N_aload_n (pc := 6) hc dJ1_charAt_3b067_6 rfl rfl ?_
  refine N_iload_n (pc := 7) hc dJ1_charAt_3b067_7 rfl rfl ?_
  refine N_bald (pc := 8) hc dJ1_charAt_3b067_8 (fun v2 => ?_)
  refine N_sipush (pc := 9) (v := 255) hc dJ1_charAt_3b067_9 (by decide) ?_
  refine N_iand (pc := 12) hc dJ1_charAt_3b067_12 ?_
  refine N_i2cN (pc := 13) hc dJ1_charAt_3b067_13 ?_
  exact N_cret (pc := 14) he dJ1_charAt_3b067_14
theorem mzJ1_charAt_3b067 : MOk yJ1_charAt_3b067 2 := ⟨by decide +kernel, by decide +kernel, by decide +kernel⟩
set_option maxRecDepth 100000 in
set_option maxHeartbeats 8000000 in
theorem ZJ1_charAt_3b067 (x0 : Nat) (x1 : Int32) : Cw tI yJ1_charAt_3b067 cJ1_charAt_3b067 2 (some .char) 3 143 [((10, .ref x0) : TV), ((0, .int x1) : TV)] (gJ1_charAt_3b067 x0 x1) :=
  Cw_C (j := 0) (by decide +kernel) rfl rfl (Nat.le_of_ble_eq_true rfl) (fun κ fin mc ms hc he => qJ1_charAt_3b067 hc he x0 x1)
set_option maxRecDepth 100000 in
set_option maxHeartbeats 8000000 in
theorem qJ0_charAt_5068e {κ : Cx} {fin : Int32 → Mm → Prop} {mc ms : Nat} (hc : Jc κ RJ0 cJ0_charAt_5068e 2 4 mc ms 164) (he : EdW κ cJ0_charAt_5068e tI .ireturn (fun a => nCh a = true) fin) (x0 : Nat) (x1 : Int32) : Jw κ (wM κ) 2 fin 0 [some ((40, .ref x0) : TV), some ((0, .int x1) : TV)] [] (gJ0_charAt_5068e x0 x1) := by
  unfold gJ0_charAt_5068e
  refine N_aload_n (pc := 0) hc dJ0_charAt_5068e_0 rfl rfl ?_
  refine N_callV (pc := 1) hc clJ0 (As := []) (ZJ0_isLatin1_aae02 x0) dJ0_charAt_5068e_1 mzJ0_isLatin1_aae02 rfl tw369 tw370 tw371 tw16 tw372 rfl (Nat.le_of_ble_eq_true rfl) (Nat.le_of_ble_eq_true rfl) (Nat.le_of_ble_eq_true rfl) rfl (fun v1 => ?_)
  show Jw κ (wM κ) 2 fin 4 [some ((40, .ref x0) : TV), some ((0, .int x1) : TV)] [((0, .int v1) : TV)] _
  refine N_if_eq (pc := 4) (tgt := 16) hc dJ0_charAt_5068e_4 (by decide) ?_ ?_
  · exact N_fail
  · refine N_aload_n (pc := 7) hc dJ0_charAt_5068e_7 rfl rfl ?_
    refine N_getA (pc := 8) hc clJ0 (k := 0) (kd := 10) (Nat.le_of_ble_eq_true rfl) rfl (Nat.le_of_ble_eq_true rfl) tw1493 (Or.inl rfl) dJ0_charAt_5068e_8 (fun v2 => ?_)
    refine N_iload_n (pc := 11) hc dJ0_charAt_5068e_11 rfl rfl ?_
    refine N_callS (pc := 12) hc (As := [((10, .ref v2) : TV), ((0, .int x1) : TV)]) (ZJ1_charAt_3b067 v2 x1) dJ0_charAt_5068e_12 mzJ1_charAt_3b067 tw373 tw374 tw23 tw375 rfl (Nat.le_of_ble_eq_true rfl) (Nat.le_of_ble_eq_true rfl) (Nat.le_of_ble_eq_true rfl) rfl (fun v3 => ?_)
    show Jw κ (wM κ) 2 fin 15 [some ((40, .ref x0) : TV), some ((0, .int x1) : TV)] [((0, .int v3) : TV)] _
    exact N_cret (pc := 15) he dJ0_charAt_5068e_15
theorem mzJ0_charAt_5068e : MOk yJ0_charAt_5068e 1 := ⟨by decide +kernel, by decide +kernel, by decide +kernel⟩
set_option maxRecDepth 100000 in
set_option maxHeartbeats 8000000 in
theorem ZJ0_charAt_5068e (x0 : Nat) (x1 : Int32) : Cw tI yJ0_charAt_5068e cJ0_charAt_5068e 2 (some .char) 4 164 [((40, .ref x0) : TV), ((0, .int x1) : TV)] (gJ0_charAt_5068e x0 x1) :=
  Cw_C (j := 0) (by decide +kernel) rfl rfl (Nat.le_of_ble_eq_true rfl) (fun κ fin mc ms hc he => qJ0_charAt_5068e hc he x0 x1)
set_option maxRecDepth 100000 in
set_option maxHeartbeats 8000000 in
theorem qJ0_coder_7d493_k {κ : Cx} {fin : Int32 → Mm → Prop} {mc ms : Nat} (hc : Jc κ RJ0 cJ0_coder_7d493 1 1 mc ms 100) (he : EdW κ cJ0_coder_7d493 tI .ireturn (fun a => a = 0 ∨ a = 1) fin) (x0 : Nat) : Jw κ (wM κ) 1 fin 0 [some ((20, .ref x0) : TV)] [] (gJ0_coder_7d493_k x0) := by
  unfold gJ0_coder_7d493_k
  refine N_getsC (pc := 0) hc tw363 dJ0_coder_7d493_0 ?_
  refine N_if_eq (pc := 3) (tgt := 13) hc dJ0_coder_7d493_3 (by decide) ?_ ?_
  · refine N_iconst (pc := 13) (v := 1) hc dJ0_coder_7d493_13 (by decide) ?_
    exact N_zret (pc := 14) he dJ0_coder_7d493_14
  · refine N_aload_n (pc := 6) hc dJ0_coder_7d493_6 rfl rfl ?_
    refine N_strK (pc := 7) hc tw1494 dJ0_coder_7d493_7 ?_
    refine N_goto (pc := 10) (tgt := 14) hc dJ0_coder_7d493_10 (by decide) ?_
    exact N_zret (pc := 14) he dJ0_coder_7d493_14
theorem mzJ0_coder_7d493_k : MOk yJ0_coder_7d493 0 := ⟨by decide +kernel, by decide +kernel, by decide +kernel⟩
set_option maxRecDepth 100000 in
set_option maxHeartbeats 8000000 in
theorem ZJ0_coder_7d493_k (x0 : Nat) : Cw tI yJ0_coder_7d493 cJ0_coder_7d493 1 (some .byte) 1 100 [((20, .ref x0) : TV)] (gJ0_coder_7d493_k x0) :=
  Cw_Z ⟨rfl, rfl⟩ (j := 0) (by decide +kernel) rfl rfl (Nat.le_of_ble_eq_true rfl) (fun κ fin mc ms hc he => qJ0_coder_7d493_k hc he x0)
set_option maxRecDepth 100000 in
set_option maxHeartbeats 8000000 in
theorem qJ0_length_8abf5_k {κ : Cx} {fin : Int32 → Mm → Prop} {mc ms : Nat} (hc : Jc κ RJ0 cJ0_length_8abf5 1 2 mc ms 120) (he : EdW κ cJ0_length_8abf5 tI .ireturn (fun _ => True) fin) (x0 : Nat) : Jw κ (wM κ) 1 fin 0 [some ((20, .ref x0) : TV)] [] (gJ0_length_8abf5_k x0) := by
  unfold gJ0_length_8abf5_k
  refine N_aload_n (pc := 0) hc dJ0_length_8abf5_0 rfl rfl ?_
  refine N_strV (pc := 1) hc tw1493 dJ0_length_8abf5_1 ?_
  refine N_strN (pc := 4) (h := x0) hc dJ0_length_8abf5_4 ?_
  refine N_aload_n (pc := 5) hc dJ0_length_8abf5_5 rfl rfl ?_
  refine N_callKV (pc := 6) hc (As := []) (ZJ0_coder_7d493_k x0) dJ0_length_8abf5_6 mzJ0_coder_7d493_k rfl tw359 tw360 tw361 tw16 tw362 rfl (Nat.le_of_ble_eq_true rfl) (Nat.le_of_ble_eq_true rfl) (Nat.le_of_ble_eq_true rfl) rfl (fun v1 => ?_)
  show Jw κ (wM κ) 1 fin 9 [some ((20, .ref x0) : TV)] [((0, .int v1) : TV), ((0, .int (stN x0)) : TV)] _
  refine N_ishr (pc := 9) hc dJ0_length_8abf5_9 ?_
  exact N_ret (pc := 10) he dJ0_length_8abf5_10 trivial rfl
theorem mzJ0_length_8abf5_k : MOk yJ0_length_8abf5 0 := ⟨by decide +kernel, by decide +kernel, by decide +kernel⟩
set_option maxRecDepth 100000 in
set_option maxHeartbeats 8000000 in
theorem ZJ0_length_8abf5_k (x0 : Nat) : Cw tI yJ0_length_8abf5 cJ0_length_8abf5 1 (some .int) 2 120 [((20, .ref x0) : TV)] (gJ0_length_8abf5_k x0) :=
  Cw_I (j := 0) (by decide +kernel) rfl rfl (Nat.le_of_ble_eq_true rfl) (fun κ fin mc ms hc he => qJ0_length_8abf5_k hc he x0)
set_option maxRecDepth 100000 in
set_option maxHeartbeats 8000000 in
theorem qJ5_inflateIfNeededFor_a7421_k {κ : Cx} {fin : Unit → Mm → Prop} {mc ms : Nat} (hc : Jc κ RJ5 cJ5_inflateIfNeededFor_a7421 2 2 mc ms 120) (he : EdW κ cJ5_inflateIfNeededFor_a7421 tV .return_ (fun _ => True) fin) (x0 : Nat) (x1 : Nat) : Jw κ (wM κ) 2 fin 0 [some ((41, .ref x0) : TV), some ((20, .ref x1) : TV)] [] (gJ5_inflateIfNeededFor_a7421_k x0 x1) := by
  unfold gJ5_inflateIfNeededFor_a7421_k
  refine N_getsC (pc := 0) hc tw1368 dJ5_inflateIfNeededFor_a7421_0 ?_
  refine N_if_eq (pc := 3) (tgt := 21) hc dJ5_inflateIfNeededFor_a7421_3 (by decide) ?_ ?_
  · exact N_ret (pc := 21) he dJ5_inflateIfNeededFor_a7421_21 trivial rfl
  · refine N_aload_n (pc := 6) hc dJ5_inflateIfNeededFor_a7421_6 rfl rfl ?_
    refine N_getI (pc := 7) hc clJ4 (k := 1) (Nat.le_of_ble_eq_true rfl) rfl tw1377 (Or.inl rfl) dJ5_inflateIfNeededFor_a7421_7 (fun v1 => ?_)
    refine N_aload_n (pc := 10) hc dJ5_inflateIfNeededFor_a7421_10 rfl rfl ?_
    refine N_callKV (pc := 11) hc (As := []) (ZJ0_coder_7d493_k x1) dJ5_inflateIfNeededFor_a7421_11 mzJ0_coder_7d493_k rfl tw1535 tw360 tw361 tw16 tw362 rfl (Nat.le_of_ble_eq_true rfl) (Nat.le_of_ble_eq_true rfl) (Nat.le_of_ble_eq_true rfl) rfl (fun v2 => ?_)
    show Jw κ (wM κ) 2 fin 14 [some ((41, .ref x0) : TV), some ((20, .ref x1) : TV)] [((0, .int v2) : TV), ((0, .int v1) : TV)] _
    refine N_icmp_eq (pc := 14) (tgt := 21) hc dJ5_inflateIfNeededFor_a7421_14 (by decide) ?_ ?_
    · exact N_ret (pc := 21) he dJ5_inflateIfNeededFor_a7421_21 trivial rfl
    · exact N_fail
theorem mzJ5_inflateIfNeededFor_a7421_k : MOk yJ5_inflateIfNeededFor_a7421 1 := ⟨by decide +kernel, by decide +kernel, by decide +kernel⟩
set_option maxRecDepth 100000 in
set_option maxHeartbeats 8000000 in
theorem ZJ5_inflateIfNeededFor_a7421_k (x0 : Nat) (x1 : Nat) : Cw tV yJ5_inflateIfNeededFor_a7421 cJ5_inflateIfNeededFor_a7421 2 none 2 120 [((41, .ref x0) : TV), ((20, .ref x1) : TV)] (gJ5_inflateIfNeededFor_a7421_k x0 x1) :=
  Cw_V (j := 0) (by decide +kernel) rfl rfl (Nat.le_of_ble_eq_true rfl) (fun κ fin mc ms hc he hin => qJ5_inflateIfNeededFor_a7421_k hc he x0 x1)
set_option maxRecDepth 100000 in
set_option maxHeartbeats 8000000 in
theorem qJ0_getBytes_840e7_k {κ : Cx} {fin : Unit → Mm → Prop} {mc ms : Nat} (hc : Jc κ RJ0 cJ0_getBytes_840e7 4 2 mc ms 120) (he : EdW κ cJ0_getBytes_840e7 tV .return_ (fun _ => True) fin) (x0 : Nat) (x1 : Nat) (x2 : Int32) (x3 : Int32) : Jw κ (wM κ) 4 fin 0 [some ((20, .ref x0) : TV), some ((10, .ref x1) : TV), some ((0, .int x2) : TV), some ((0, .int x3) : TV)] [] (gJ0_getBytes_840e7_k x0 x1 x2 x3) := by
  unfold gJ0_getBytes_840e7_k
  refine N_aload_n (pc := 0) hc dJ0_getBytes_840e7_0 rfl rfl ?_
  refine N_callKV (pc := 1) hc (As := []) (ZJ0_coder_7d493_k x0) dJ0_getBytes_840e7_1 mzJ0_coder_7d493_k rfl tw359 tw360 tw361 tw16 tw362 rfl (Nat.le_of_ble_eq_true rfl) (Nat.le_of_ble_eq_true rfl) (Nat.le_of_ble_eq_true rfl) rfl (fun v1 => ?_)
  show Jw κ (wM κ) 4 fin 4 [some ((20, .ref x0) : TV), some ((10, .ref x1) : TV), some ((0, .int x2) : TV), some ((0, .int x3) : TV)] [((0, .int v1) : TV)] _
  refine N_iload_n (pc := 4) hc dJ0_getBytes_840e7_4 rfl rfl ?_
  refine N_icmp_ne (pc := 5) (tgt := 28) hc dJ0_getBytes_840e7_5 (by decide) ?_ ?_
  · exact N_fail
  · refine N_aload_n (pc := 8) hc dJ0_getBytes_840e7_8 rfl rfl ?_
    refine N_strV (pc := 9) hc tw1493 dJ0_getBytes_840e7_9 ?_
    refine N_iconst (pc := 12) (v := 0) hc dJ0_getBytes_840e7_12 (by decide) ?_
    refine N_aload_n (pc := 13) hc dJ0_getBytes_840e7_13 rfl rfl ?_
    refine N_iload_n (pc := 14) hc dJ0_getBytes_840e7_14 rfl rfl ?_
    refine N_iload_n (pc := 15) hc dJ0_getBytes_840e7_15 rfl rfl ?_
    refine N_ishl (pc := 16) hc dJ0_getBytes_840e7_16 ?_
    refine N_aload_n (pc := 17) hc dJ0_getBytes_840e7_17 rfl rfl ?_
    refine N_strV (pc := 18) hc tw1493 dJ0_getBytes_840e7_18 ?_
    refine N_strN (pc := 21) (h := x0) hc dJ0_getBytes_840e7_21 ?_
    refine N_cpK (pc := 22) (h := x0) hc tw1576 tw947 tw946 tw21 (Nat.le_of_ble_eq_true rfl) (Nat.le_of_ble_eq_true rfl) (Nat.le_of_ble_eq_true rfl) dJ0_getBytes_840e7_22 ?_
    refine N_goto (pc := 25) (tgt := 43) hc dJ0_getBytes_840e7_25 (by decide) ?_
    exact N_ret (pc := 43) he dJ0_getBytes_840e7_43 trivial rfl
theorem mzJ0_getBytes_840e7_k : MOk yJ0_getBytes_840e7 3 := ⟨by decide +kernel, by decide +kernel, by decide +kernel⟩
set_option maxRecDepth 100000 in
set_option maxHeartbeats 8000000 in
theorem ZJ0_getBytes_840e7_k (x0 : Nat) (x1 : Nat) (x2 : Int32) (x3 : Int32) : Cw tV yJ0_getBytes_840e7 cJ0_getBytes_840e7 4 none 2 120 [((20, .ref x0) : TV), ((10, .ref x1) : TV), ((0, .int x2) : TV), ((0, .int x3) : TV)] (gJ0_getBytes_840e7_k x0 x1 x2 x3) :=
  Cw_V (j := 0) (by decide +kernel) rfl rfl (Nat.le_of_ble_eq_true rfl) (fun κ fin mc ms hc he hin => qJ0_getBytes_840e7_k hc he x0 x1 x2 x3)
set_option maxRecDepth 100000 in
set_option maxHeartbeats 8000000 in
theorem qJ5_putStringAt_47b60_k {κ : Cx} {fin : Unit → Mm → Prop} {mc ms : Nat} (hc : Jc κ RJ5 cJ5_putStringAt_47b60 3 3 mc ms 143) (he : EdW κ cJ5_putStringAt_47b60 tV .return_ (fun _ => True) fin) (x0 : Nat) (x1 : Int32) (x2 : Nat) : Jw κ (wM κ) 3 fin 0 [some ((41, .ref x0) : TV), some ((0, .int x1) : TV), some ((20, .ref x2) : TV)] [] (gJ5_putStringAt_47b60_k x0 x1 x2) := by
  unfold gJ5_putStringAt_47b60_k
  refine N_aload_n (pc := 0) hc dJ5_putStringAt_47b60_0 rfl rfl ?_
  refine N_aload_n (pc := 1) hc dJ5_putStringAt_47b60_1 rfl rfl ?_
  refine N_callU (pc := 2) hc clJ4 (x := ⟨"java/lang/AbstractStringBuilder", "inflateIfNeededFor", "(Ljava/lang/String;)V"⟩) (y := yJ5_inflateIfNeededFor_a7421) (As := [((20, .ref x2) : TV)]) (ZJ5_inflateIfNeededFor_a7421_k x0 x2) dJ5_putStringAt_47b60_2 (n := 1) ⟨by decide +kernel, by decide +kernel, by decide +kernel⟩ rfl ⟨by decide +kernel, by decide +kernel⟩ (tw_U tw1568 tw1635 (tw_x (by decide +kernel) rfl) tw1570 tw14 tw1571) rfl (Nat.le_of_ble_eq_true rfl) (Nat.le_of_ble_eq_true rfl) (Nat.le_of_ble_eq_true rfl) rfl (fun _ => ?_)
  show Jw κ (wM κ) 3 fin 5 [some ((41, .ref x0) : TV), some ((0, .int x1) : TV), some ((20, .ref x2) : TV)] [] _
  refine N_aload_n (pc := 5) hc dJ5_putStringAt_47b60_5 rfl rfl ?_
  refine N_aload_n (pc := 6) hc dJ5_putStringAt_47b60_6 rfl rfl ?_
  refine N_getA (pc := 7) hc clJ4 (k := 0) (kd := 10) (Nat.le_of_ble_eq_true rfl) rfl (Nat.le_of_ble_eq_true rfl) tw1376 (Or.inl rfl) dJ5_putStringAt_47b60_7 (fun v1 => ?_)
  refine N_iload_n (pc := 10) hc dJ5_putStringAt_47b60_10 rfl rfl ?_
  refine N_aload_n (pc := 11) hc dJ5_putStringAt_47b60_11 rfl rfl ?_
  refine N_getI (pc := 12) hc clJ4 (k := 1) (Nat.le_of_ble_eq_true rfl) rfl tw1377 (Or.inl rfl) dJ5_putStringAt_47b60_12 (fun v2 => ?_)
  refine N_callKV (pc := 15) hc (As := [((10, .ref v1) : TV), ((0, .int x1) : TV), ((0, .int v2) : TV)]) (ZJ0_getBytes_840e7_k x2 v1 x1 v2) dJ5_putStringAt_47b60_15 mzJ0_getBytes_840e7_k rfl tw1572 tw1573 tw1574 tw16 tw1575 rfl (Nat.le_of_ble_eq_true rfl) (Nat.le_of_ble_eq_true rfl) (Nat.le_of_ble_eq_true rfl) rfl (fun _ => ?_)
  show Jw κ (wM κ) 3 fin 18 [some ((41, .ref x0) : TV), some ((0, .int x1) : TV), some ((20, .ref x2) : TV)] [] _
  exact N_ret (pc := 18) he dJ5_putStringAt_47b60_18 trivial rfl
theorem mzJ5_putStringAt_47b60_k : MOk yJ5_putStringAt_47b60 2 := ⟨by decide +kernel, by decide +kernel, by decide +kernel⟩
set_option maxRecDepth 100000 in
set_option maxHeartbeats 8000000 in
theorem ZJ5_putStringAt_47b60_k (x0 : Nat) (x1 : Int32) (x2 : Nat) : Cw tV yJ5_putStringAt_47b60 cJ5_putStringAt_47b60 3 none 3 143 [((41, .ref x0) : TV), ((0, .int x1) : TV), ((20, .ref x2) : TV)] (gJ5_putStringAt_47b60_k x0 x1 x2) :=
  Cw_V (j := 0) (by decide +kernel) rfl rfl (Nat.le_of_ble_eq_true rfl) (fun κ fin mc ms hc he hin => qJ5_putStringAt_47b60_k hc he x0 x1 x2)
set_option maxRecDepth 100000 in
set_option maxHeartbeats 8000000 in
theorem qJ5_append_cf1ce_k {κ : Cx} {fin : Nat → Mm → Prop} {mc ms : Nat} (hc : Jc κ RJ5 cJ5_append_cf1ce 3 4 mc ms 170) (he : EdW κ cJ5_append_cf1ce (tA 41) .areturn (fun _ => True) fin) (x0 : Nat) (x1 : Nat) : Jw κ (wM κ) 3 fin 0 [some ((41, .ref x0) : TV), some ((20, .ref x1) : TV), none] [] (gJ5_append_cf1ce_k x0 x1) := by
  unfold gJ5_append_cf1ce_k
  refine N_aload_n (pc := 0) hc dJ5_append_cf1ce_0 rfl rfl ?_
  refine N_ifnonnullC (pc := 1) (tgt := 9) hc dJ5_append_cf1ce_1 (by decide) ?_ ?_
  · exact N_fail
  · intro p1
    refine N_aload_n (pc := 9) hc dJ5_append_cf1ce_9 rfl rfl ?_
    refine N_callKV (pc := 10) hc (As := []) (ZJ0_length_8abf5_k x1) dJ5_append_cf1ce_10 mzJ0_length_8abf5_k rfl tw1533 tw356 tw357 tw16 tw358 rfl (Nat.le_of_ble_eq_true rfl) (Nat.le_of_ble_eq_true rfl) (Nat.le_of_ble_eq_true rfl) rfl (fun v2 => ?_)
    show Jw κ (wM κ) 3 fin 13 [some ((41, .ref x0) : TV), some ((20, .ref x1) : TV), none] [((0, .int v2) : TV)] _
    refine N_istore_n (pc := 13) (l' := [some ((41, .ref x0) : TV), some ((20, .ref x1) : TV), some ((0, .int v2) : TV)]) hc dJ5_append_cf1ce_13 rfl (by decide) rfl rfl ?_
    refine N_aload_n (pc := 14) hc dJ5_append_cf1ce_14 rfl rfl ?_
    refine N_aload_n (pc := 15) hc dJ5_append_cf1ce_15 rfl rfl ?_
    refine N_getI (pc := 16) hc clJ4 (k := 3) (Nat.le_of_ble_eq_true rfl) rfl tw1379 (Or.inl rfl) dJ5_append_cf1ce_16 (fun v3 => ?_)
    refine N_iload_n (pc := 19) hc dJ5_append_cf1ce_19 rfl rfl ?_
    refine N_iadd (pc := 20) hc dJ5_append_cf1ce_20 ?_
    refine N_callU (pc := 21) hc clJ4 (x := ⟨"java/lang/AbstractStringBuilder", "ensureCapacityInternal", "(I)V"⟩) (y := yJ5_ensureCapacityInternal_d00df) (As := [((0, .int (v3 + v2)) : TV)]) (ZJ5_ensureCapacityInternal_d00df x0 (v3 + v2)) dJ5_append_cf1ce_21 (n := 1) ⟨by decide +kernel, by decide +kernel, by decide +kernel⟩ rfl ⟨by decide +kernel, by decide +kernel⟩ (tw_U tw1396 tw1630 (tw_x (by decide +kernel) rfl) tw1398 tw14 tw1399) rfl (Nat.le_of_ble_eq_true rfl) (Nat.le_of_ble_eq_true rfl) (Nat.le_of_ble_eq_true rfl) rfl (fun _ => ?_)
    show Jw κ (wM κ) 3 fin 24 [some ((41, .ref x0) : TV), some ((20, .ref x1) : TV), some ((0, .int v2) : TV)] [] _
    refine N_aload_n (pc := 24) hc dJ5_append_cf1ce_24 rfl rfl ?_
    refine N_aload_n (pc := 25) hc dJ5_append_cf1ce_25 rfl rfl ?_
    refine N_getI (pc := 26) hc clJ4 (k := 3) (Nat.le_of_ble_eq_true rfl) rfl tw1379 (Or.inl rfl) dJ5_append_cf1ce_26 (fun v4 => ?_)
    refine N_aload_n (pc := 29) hc dJ5_append_cf1ce_29 rfl rfl ?_
    refine N_callU (pc := 30) hc clJ4 (x := ⟨"java/lang/AbstractStringBuilder", "putStringAt", "(ILjava/lang/String;)V"⟩) (y := yJ5_putStringAt_47b60) (As := [((0, .int v4) : TV), ((20, .ref x1) : TV)]) (ZJ5_putStringAt_47b60_k x0 v4 x1) dJ5_append_cf1ce_30 (n := 2) ⟨by decide +kernel, by decide +kernel, by decide +kernel⟩ rfl ⟨by decide +kernel, by decide +kernel⟩ (tw_U tw1564 tw1634 (tw_x (by decide +kernel) rfl) tw1566 tw14 tw1567) rfl (Nat.le_of_ble_eq_true rfl) (Nat.le_of_ble_eq_true rfl) (Nat.le_of_ble_eq_true rfl) rfl (fun _ => ?_)
    show Jw κ (wM κ) 3 fin 33 [some ((41, .ref x0) : TV), some ((20, .ref x1) : TV), some ((0, .int v2) : TV)] [] _
    refine N_aload_n (pc := 33) hc dJ5_append_cf1ce_33 rfl rfl ?_
    refine N_dup (pc := 34) hc dJ5_append_cf1ce_34 rfl ?_
    refine N_getI (pc := 35) hc clJ4 (k := 3) (Nat.le_of_ble_eq_true rfl) rfl tw1379 (Or.inl rfl) dJ5_append_cf1ce_35 (fun v5 => ?_)
    refine N_iload_n (pc := 38) hc dJ5_append_cf1ce_38 rfl rfl ?_
    refine N_iadd (pc := 39) hc dJ5_append_cf1ce_39 ?_
    refine N_putI (pc := 40) hc clJ4 (k := 3) (Nat.le_of_ble_eq_true rfl) rfl rfl tw1379 (Or.inl rfl) rfl dJ5_append_cf1ce_40 ?_
    refine N_aload_n (pc := 43) hc dJ5_append_cf1ce_43 rfl rfl ?_
    exact N_ret (pc := 44) he dJ5_append_cf1ce_44 trivial rfl
theorem mzJ5_append_cf1ce_k : MOk yJ5_append_cf1ce 1 := ⟨by decide +kernel, by decide +kernel, by decide +kernel⟩
set_option maxRecDepth 100000 in
set_option maxHeartbeats 8000000 in
theorem ZJ5_append_cf1ce_k (x0 : Nat) (x1 : Nat) : Cw (tA 41) yJ5_append_cf1ce cJ5_append_cf1ce 3 (some (.object "java/lang/AbstractStringBuilder")) 4 170 [((41, .ref x0) : TV), ((20, .ref x1) : TV)] (gJ5_append_cf1ce_k x0 x1) :=
  Cw_A (Or.inl ⟨_, rfl⟩) (j := 1) (by decide +kernel) rfl rfl (Nat.le_of_ble_eq_true rfl) (fun κ fin mc ms hc he => qJ5_append_cf1ce_k hc he x0 x1)
set_option maxRecDepth 100000 in
set_option maxHeartbeats 8000000 in
theorem qJ4_append_15ec4_k {κ : Cx} {fin : Nat → Mm → Prop} {mc ms : Nat} (hc : Jc κ RJ4 cJ4_append_15ec4 2 5 mc ms 192) (he : EdW κ cJ4_append_15ec4 (tA 41) .areturn (fun _ => True) fin) (x0 : Nat) (x1 : Nat) : Jw κ (wM κ) 2 fin 0 [some ((41, .ref x0) : TV), some ((20, .ref x1) : TV)] [] (gJ4_append_15ec4_k x0 x1) := by
  unfold gJ4_append_15ec4_k
  refine N_aload_n (pc := 0) hc dJ4_append_15ec4_0 rfl rfl ?_
  refine N_aload_n (pc := 1) hc dJ4_append_15ec4_1 rfl rfl ?_
  refine N_callSU (pc := 2) hc clJ4 (As := [((20, .ref x1) : TV)]) (ZJ5_append_cf1ce_k x0 x1) dJ4_append_15ec4_2 mzJ5_append_cf1ce_k (by decide) tw1360 (tw_SU tw1546 tw1538 tw1388 tw1537 tw14 tw1547) rfl (Nat.le_of_ble_eq_true rfl) (Nat.le_of_ble_eq_true rfl) (Nat.le_of_ble_eq_true rfl) rfl (fun h1 => ?_)
  show Jw κ (wM κ) 2 fin 5 [some ((41, .ref x0) : TV), some ((20, .ref x1) : TV)] [((41, .ref h1) : TV)] _
  refine N_pop (pc := 5) hc dJ4_append_15ec4_5 rfl ?_
  refine N_aload_n (pc := 6) hc dJ4_append_15ec4_6 rfl rfl ?_
  exact N_ret (pc := 7) he dJ4_append_15ec4_7 trivial rfl
theorem mzJ4_append_15ec4_k : MOk yJ4_append_15ec4 1 := ⟨by decide +kernel, by decide +kernel, by decide +kernel⟩
set_option maxRecDepth 100000 in
set_option maxHeartbeats 8000000 in
theorem ZJ4_append_15ec4_k (x0 : Nat) (x1 : Nat) : Cw (tA 41) yJ4_append_15ec4 cJ4_append_15ec4 2 (some (.object "java/lang/StringBuilder")) 5 192 [((41, .ref x0) : TV), ((20, .ref x1) : TV)] (gJ4_append_15ec4_k x0 x1) :=
  Cw_A (Or.inl ⟨_, rfl⟩) (j := 0) (by decide +kernel) rfl rfl (Nat.le_of_ble_eq_true rfl) (fun κ fin mc ms hc he => qJ4_append_15ec4_k hc he x0 x1)
set_option maxRecDepth 100000 in
set_option maxHeartbeats 8000000 in
theorem qJ6_stringSize_0f7a4_L16 {κ : Cx} {fin : Int32 → Mm → Prop} {mc ms : Nat} (hc : Jc κ RJ6 cJ6_stringSize_0f7a4 4 1 mc ms 100) (he : EdW κ cJ6_stringSize_0f7a4 tI .ireturn (fun _ => True) fin) : ∀ (n : Nat) (x0 : Int32) (x1 : Int32) (x2 : Int32) (x3 : Int32), Jw κ (wM κ) 4 fin 16 [some ((0, .int x0) : TV), some ((0, .int x1) : TV), some ((0, .int x2) : TV), some ((0, .int x3) : TV)] [] (gJ6_stringSize_0f7a4_L16 n x0 x1 x2 x3) := by
  intro n
  induction n with
  | zero => intro x0 x1 x2 x3; exact N_fail
  | succ n ih =>
    intro x0 x1 x2 x3
    unfold gJ6_stringSize_0f7a4_L16
    refine N_iload_n (pc := 16) hc dJ6_stringSize_0f7a4_16 rfl rfl ?_
    refine N_bipush (pc := 17) (v := 10) hc dJ6_stringSize_0f7a4_17 (by decide) ?_
    refine N_icmp_ge (pc := 19) (tgt := 42) hc dJ6_stringSize_0f7a4_19 (by decide) ?_ ?_
    · refine N_bipush (pc := 42) (v := 10) hc dJ6_stringSize_0f7a4_42 (by decide) ?_
      refine N_iload_n (pc := 44) hc dJ6_stringSize_0f7a4_44 rfl rfl ?_
      refine N_iadd (pc := 45) hc dJ6_stringSize_0f7a4_45 ?_
      exact N_ret (pc := 46) he dJ6_stringSize_0f7a4_46 trivial rfl
    · refine N_iload_n (pc := 22) hc dJ6_stringSize_0f7a4_22 rfl rfl ?_
      refine N_iload_n (pc := 23) hc dJ6_stringSize_0f7a4_23 rfl rfl ?_
      refine N_icmp_le (pc := 24) (tgt := 31) hc dJ6_stringSize_0f7a4_24 (by decide) ?_ ?_
      · refine N_bipush (pc := 31) (v := 10) hc dJ6_stringSize_0f7a4_31 (by decide) ?_
        refine N_iload_n (pc := 33) hc dJ6_stringSize_0f7a4_33 rfl rfl ?_
        refine N_imul (pc := 34) hc dJ6_stringSize_0f7a4_34 ?_
        refine N_nmi (fun v1 => ?_)
        refine N_istore_n (pc := 35) (l' := [some ((0, .int x0) : TV), some ((0, .int x1) : TV), some ((0, .int v1) : TV), some ((0, .int x3) : TV)]) hc dJ6_stringSize_0f7a4_35 rfl (by decide) rfl rfl ?_
        refine N_iinc (pc := 36) (v := x3 + 1) (l' := [some ((0, .int x0) : TV), some ((0, .int x1) : TV), some ((0, .int v1) : TV), some ((0, .int (x3 + 1)) : TV)]) hc dJ6_stringSize_0f7a4_36 rfl rfl (by decide) rfl rfl ?_
        refine N_goto (pc := 39) (tgt := 16) hc dJ6_stringSize_0f7a4_39 (by decide) ?_
        refine N_sub (l' := [some ((0, .int x0) : TV), some ((0, .int x1) : TV), some ((0, .int v1) : TV), some ((0, .int (x3 + 1)) : TV)]) ⟨rfl, ⟨rfl, ⟨rfl, ⟨rfl, trivial⟩⟩⟩⟩ ?_
        exact ih x0 x1 v1 (x3 + 1)
      · refine N_iload_n (pc := 27) hc dJ6_stringSize_0f7a4_27 rfl rfl ?_
        refine N_iload_n (pc := 28) hc dJ6_stringSize_0f7a4_28 rfl rfl ?_
        refine N_iadd (pc := 29) hc dJ6_stringSize_0f7a4_29 ?_
        exact N_ret (pc := 30) he dJ6_stringSize_0f7a4_30 trivial rfl
set_option maxRecDepth 100000 in
set_option maxHeartbeats 8000000 in
theorem qJ6_stringSize_0f7a4_L11 {κ : Cx} {fin : Int32 → Mm → Prop} {mc ms : Nat} (hc : Jc κ RJ6 cJ6_stringSize_0f7a4 4 1 mc ms 100) (he : EdW κ cJ6_stringSize_0f7a4 tI .ireturn (fun _ => True) fin) (x0 : Int32) (x1 : Int32) : Jw κ (wM κ) 4 fin 11 [some ((0, .int x0) : TV), some ((0, .int x1) : TV), none, none] [] (gJ6_stringSize_0f7a4_L11 x0 x1) := by
  unfold gJ6_stringSize_0f7a4_L11
  refine N_bipush (pc := 11) (v := (-10)) hc dJ6_stringSize_0f7a4_11 (by decide) ?_
  refine N_istore_n (pc := 13) (l' := [some ((0, .int x0) : TV), some ((0, .int x1) : TV), some ((0, .int (-10)) : TV), none]) hc dJ6_stringSize_0f7a4_13 rfl (by decide) rfl rfl ?_
  refine N_iconst (pc := 14) (v := 1) hc dJ6_stringSize_0f7a4_14 (by decide) ?_
  refine N_istore_n (pc := 15) (l' := [some ((0, .int x0) : TV), some ((0, .int x1) : TV), some ((0, .int (-10)) : TV), some ((0, .int 1) : TV)]) hc dJ6_stringSize_0f7a4_15 rfl (by decide) rfl rfl ?_
  refine N_sub (l' := [some ((0, .int x0) : TV), some ((0, .int x1) : TV), some ((0, .int (-10)) : TV), some ((0, .int 1) : TV)]) ⟨rfl, ⟨rfl, ⟨rfl, ⟨rfl, trivial⟩⟩⟩⟩ ?_
  exact qJ6_stringSize_0f7a4_L16 hc he fu x0 x1 (-10) 1
set_option maxRecDepth 100000 in
set_option maxHeartbeats 8000000 in
theorem qJ6_stringSize_0f7a4 {κ : Cx} {fin : Int32 → Mm → Prop} {mc ms : Nat} (hc : Jc κ RJ6 cJ6_stringSize_0f7a4 4 1 mc ms 100) (he : EdW κ cJ6_stringSize_0f7a4 tI .ireturn (fun _ => True) fin) (x0 : Int32) : Jw κ (wM κ) 4 fin 0 [some ((0, .int x0) : TV), none, none, none] [] (gJ6_stringSize_0f7a4 x0) := by
  unfold gJ6_stringSize_0f7a4
  refine N_iconst (pc := 0) (v := 1) hc dJ6_stringSize_0f7a4_0 (by decide) ?_
  refine N_istore_n (pc := 1) (l' := [some ((0, .int x0) : TV), some ((0, .int 1) : TV), none, none]) hc dJ6_stringSize_0f7a4_1 rfl (by decide) rfl rfl ?_
  refine N_iload_n (pc := 2) hc dJ6_stringSize_0f7a4_2 rfl rfl ?_
  refine N_if_lt (pc := 3) (tgt := 11) hc dJ6_stringSize_0f7a4_3 (by decide) ?_ ?_
  · refine N_sub (l' := [some ((0, .int x0) : TV), some ((0, .int 1) : TV), none, none]) ⟨rfl, ⟨rfl, trivial⟩⟩ ?_
    exact qJ6_stringSize_0f7a4_L11 hc he x0 1
  · refine N_iconst (pc := 6) (v := 0) hc dJ6_stringSize_0f7a4_6 (by decide) ?_
    refine N_istore_n (pc := 7) (l' := [some ((0, .int x0) : TV), some ((0, .int 0) : TV), none, none]) hc dJ6_stringSize_0f7a4_7 rfl (by decide) rfl rfl ?_
    refine N_iload_n (pc := 8) hc dJ6_stringSize_0f7a4_8 rfl rfl ?_
    refine N_ineg (pc := 9) hc dJ6_stringSize_0f7a4_9 ?_
    refine N_nmi (fun v2 => ?_)
    refine N_istore_n (pc := 10) (l' := [some ((0, .int v2) : TV), some ((0, .int 0) : TV), none, none]) hc dJ6_stringSize_0f7a4_10 rfl (by decide) rfl rfl ?_
    refine N_sub (l' := [some ((0, .int v2) : TV), some ((0, .int 0) : TV), none, none]) ⟨rfl, ⟨rfl, trivial⟩⟩ ?_
    exact qJ6_stringSize_0f7a4_L11 hc he v2 0
theorem mzJ6_stringSize_0f7a4 : MOk yJ6_stringSize_0f7a4 1 := ⟨by decide +kernel, by decide +kernel, by decide +kernel⟩
set_option maxRecDepth 100000 in
set_option maxHeartbeats 8000000 in
theorem ZJ6_stringSize_0f7a4 (x0 : Int32) : Cw tI yJ6_stringSize_0f7a4 cJ6_stringSize_0f7a4 4 (some .int) 1 100 [((0, .int x0) : TV)] (gJ6_stringSize_0f7a4 x0) :=
  Cw_I (j := 3) (by decide +kernel) rfl rfl (Nat.le_of_ble_eq_true rfl) (fun κ fin mc ms hc he => qJ6_stringSize_0f7a4 hc he x0)
set_option maxRecDepth 100000 in
set_option maxHeartbeats 8000000 in
theorem qJ6_getChars_ba4f3_L104 {κ : Cx} {fin : Int32 → Mm → Prop} {mc ms : Nat} (hc : Jc κ RJ6 cJ6_getChars_ba4f3 7 1 mc ms 100) (he : EdW κ cJ6_getChars_ba4f3 tI .ireturn (fun _ => True) fin) (x2 : Nat) (x5 : Int32) (x6 : Int32) : Jw κ (wM κ) 7 fin 104 [none, none, some ((10, .ref x2) : TV), none, none, some ((0, .int x5) : TV), some ((0, .int x6) : TV)] [] (gJ6_getChars_ba4f3_L104 x2 x5 x6) := by
  unfold gJ6_getChars_ba4f3_L104
  refine N_iload (pc := 104) hc dJ6_getChars_ba4f3_104 rfl ?_
  refine N_if_eq (pc := 106) (tgt := 118) hc dJ6_getChars_ba4f3_106 (by decide) ?_ ?_
  · refine N_iload (pc := 118) hc dJ6_getChars_ba4f3_118 rfl ?_
    exact N_ret (pc := 120) he dJ6_getChars_ba4f3_120 trivial rfl
  · refine N_aload_n (pc := 109) hc dJ6_getChars_ba4f3_109 rfl rfl ?_
    refine N_iinc (pc := 110) (v := x5 + (-1)) (l' := [none, none, some ((10, .ref x2) : TV), none, none, some ((0, .int (x5 + (-1))) : TV), some ((0, .int x6) : TV)]) hc dJ6_getChars_ba4f3_110 rfl rfl (by decide) rfl rfl ?_
    refine N_iload (pc := 113) hc dJ6_getChars_ba4f3_113 rfl ?_
    refine N_bipush (pc := 115) (v := 45) hc dJ6_getChars_ba4f3_115 (by decide) ?_
    refine N_bast (pc := 117) hc dJ6_getChars_ba4f3_117 ?_
    refine N_iload (pc := 118) hc dJ6_getChars_ba4f3_118 rfl ?_
    exact N_ret (pc := 120) he dJ6_getChars_ba4f3_120 trivial rfl
set_option maxRecDepth 100000 in
set_option maxHeartbeats 8000000 in
theorem qJ6_getChars_ba4f3_L22 {κ : Cx} {fin : Int32 → Mm → Prop} {mc ms : Nat} (hc : Jc κ RJ6 cJ6_getChars_ba4f3 7 1 mc ms 100) (he : EdW κ cJ6_getChars_ba4f3 tI .ireturn (fun _ => True) fin) : ∀ (n : Nat) (x0 : Int32) (x2 : Nat) (x5 : Int32) (x6 : Int32), Jw κ (wM κ) 7 fin 22 [some ((0, .int x0) : TV), none, some ((10, .ref x2) : TV), none, none, some ((0, .int x5) : TV), some ((0, .int x6) : TV)] [] (gJ6_getChars_ba4f3_L22 n x0 x2 x5 x6) := by
  intro n
  induction n with
  | zero => intro x0 x2 x5 x6; exact N_fail
  | succ n ih =>
    intro x0 x2 x5 x6
    unfold gJ6_getChars_ba4f3_L22
    refine N_iload_n (pc := 22) hc dJ6_getChars_ba4f3_22 rfl rfl ?_
    refine N_bipush (pc := 23) (v := (-100)) hc dJ6_getChars_ba4f3_23 (by decide) ?_
    refine N_icmp_gt (pc := 25) (tgt := 72) hc dJ6_getChars_ba4f3_25 (by decide) ?_ ?_
    · refine N_aload_n (pc := 72) hc dJ6_getChars_ba4f3_72 rfl rfl ?_
      refine N_iinc (pc := 73) (v := x5 + (-1)) (l' := [some ((0, .int x0) : TV), none, some ((10, .ref x2) : TV), none, none, some ((0, .int (x5 + (-1))) : TV), some ((0, .int x6) : TV)]) hc dJ6_getChars_ba4f3_73 rfl rfl (by decide) rfl rfl ?_
      refine N_iload (pc := 76) hc dJ6_getChars_ba4f3_76 rfl ?_
      refine N_getsD (pc := 78) (j := 0) hc (by decide) tw1592 dJ6_getChars_ba4f3_78 ?_
      refine N_iload_n (pc := 81) hc dJ6_getChars_ba4f3_81 rfl rfl ?_
      refine N_ineg (pc := 82) hc dJ6_getChars_ba4f3_82 ?_
      refine N_tbald (pc := 83) (j := 0) hc (by decide) dJ6_getChars_ba4f3_83 (fun v1 => ?_)
      refine N_bast (pc := 84) hc dJ6_getChars_ba4f3_84 ?_
      refine N_iload_n (pc := 85) hc dJ6_getChars_ba4f3_85 rfl rfl ?_
      refine N_bipush (pc := 86) (v := (-9)) hc dJ6_getChars_ba4f3_86 (by decide) ?_
      refine N_icmp_ge (pc := 88) (tgt := 104) hc dJ6_getChars_ba4f3_88 (by decide) ?_ ?_
      · refine N_sub (l' := [none, none, some ((10, .ref x2) : TV), none, none, some ((0, .int (x5 + (-1))) : TV), some ((0, .int x6) : TV)]) ⟨rfl, ⟨rfl, ⟨rfl, trivial⟩⟩⟩ ?_
        exact qJ6_getChars_ba4f3_L104 hc he x2 (x5 + (-1)) x6
      · refine N_aload_n (pc := 91) hc dJ6_getChars_ba4f3_91 rfl rfl ?_
        refine N_iinc (pc := 92) (v := (x5 + (-1)) + (-1)) (l' := [some ((0, .int x0) : TV), none, some ((10, .ref x2) : TV), none, none, some ((0, .int ((x5 + (-1)) + (-1))) : TV), some ((0, .int x6) : TV)]) hc dJ6_getChars_ba4f3_92 rfl rfl (by decide) rfl rfl ?_
        refine N_iload (pc := 95) hc dJ6_getChars_ba4f3_95 rfl ?_
        refine N_getsD (pc := 97) (j := 1) hc (by decide) tw1594 dJ6_getChars_ba4f3_97 ?_
        refine N_iload_n (pc := 100) hc dJ6_getChars_ba4f3_100 rfl rfl ?_
        refine N_ineg (pc := 101) hc dJ6_getChars_ba4f3_101 ?_
        refine N_tbald (pc := 102) (j := 1) hc (by decide) dJ6_getChars_ba4f3_102 (fun v2 => ?_)
        refine N_bast (pc := 103) hc dJ6_getChars_ba4f3_103 ?_
        refine N_sub (l' := [none, none, some ((10, .ref x2) : TV), none, none, some ((0, .int ((x5 + (-1)) + (-1))) : TV), some ((0, .int x6) : TV)]) ⟨rfl, ⟨rfl, ⟨rfl, trivial⟩⟩⟩ ?_
        exact qJ6_getChars_ba4f3_L104 hc he x2 ((x5 + (-1)) + (-1)) x6
    · refine N_iload_n (pc := 28) hc dJ6_getChars_ba4f3_28 rfl rfl ?_
      refine N_bipush (pc := 29) (v := 100) hc dJ6_getChars_ba4f3_29 (by decide) ?_
      refine N_idivC (pc := 31) hc dJ6_getChars_ba4f3_31 (by decide) ?_
      refine N_nmi (fun v3 => ?_)
      refine N_istore_n (pc := 32) (l' := [some ((0, .int x0) : TV), none, some ((10, .ref x2) : TV), some ((0, .int v3) : TV), none, some ((0, .int x5) : TV), some ((0, .int x6) : TV)]) hc dJ6_getChars_ba4f3_32 rfl (by decide) rfl rfl ?_
      refine N_iload_n (pc := 33) hc dJ6_getChars_ba4f3_33 rfl rfl ?_
      refine N_bipush (pc := 34) (v := 100) hc dJ6_getChars_ba4f3_34 (by decide) ?_
      refine N_imul (pc := 36) hc dJ6_getChars_ba4f3_36 ?_
      refine N_iload_n (pc := 37) hc dJ6_getChars_ba4f3_37 rfl rfl ?_
      refine N_isub (pc := 38) hc dJ6_getChars_ba4f3_38 ?_
      refine N_nmi (fun v4 => ?_)
      refine N_istore (pc := 39) (l' := [some ((0, .int x0) : TV), none, some ((10, .ref x2) : TV), some ((0, .int v3) : TV), some ((0, .int v4) : TV), some ((0, .int x5) : TV), some ((0, .int x6) : TV)]) hc dJ6_getChars_ba4f3_39 (by decide) rfl rfl ?_
      refine N_iload_n (pc := 41) hc dJ6_getChars_ba4f3_41 rfl rfl ?_
      refine N_istore_n (pc := 42) (l' := [some ((0, .int v3) : TV), none, some ((10, .ref x2) : TV), some ((0, .int v3) : TV), some ((0, .int v4) : TV), some ((0, .int x5) : TV), some ((0, .int x6) : TV)]) hc dJ6_getChars_ba4f3_42 rfl (by decide) rfl rfl ?_
      refine N_aload_n (pc := 43) hc dJ6_getChars_ba4f3_43 rfl rfl ?_
      refine N_iinc (pc := 44) (v := x5 + (-1)) (l' := [some ((0, .int v3) : TV), none, some ((10, .ref x2) : TV), some ((0, .int v3) : TV), some ((0, .int v4) : TV), some ((0, .int (x5 + (-1))) : TV), some ((0, .int x6) : TV)]) hc dJ6_getChars_ba4f3_44 rfl rfl (by decide) rfl rfl ?_
      refine N_iload (pc := 47) hc dJ6_getChars_ba4f3_47 rfl ?_
      refine N_getsD (pc := 49) (j := 0) hc (by decide) tw1592 dJ6_getChars_ba4f3_49 ?_
      refine N_iload (pc := 52) hc dJ6_getChars_ba4f3_52 rfl ?_
      refine N_tbald (pc := 54) (j := 0) hc (by decide) dJ6_getChars_ba4f3_54 (fun v5 => ?_)
      refine N_bast (pc := 55) hc dJ6_getChars_ba4f3_55 ?_
      refine N_aload_n (pc := 56) hc dJ6_getChars_ba4f3_56 rfl rfl ?_
      refine N_iinc (pc := 57) (v := (x5 + (-1)) + (-1)) (l' := [some ((0, .int v3) : TV), none, some ((10, .ref x2) : TV), some ((0, .int v3) : TV), some ((0, .int v4) : TV), some ((0, .int ((x5 + (-1)) + (-1))) : TV), some ((0, .int x6) : TV)]) hc dJ6_getChars_ba4f3_57 rfl rfl (by decide) rfl rfl ?_
      refine N_iload (pc := 60) hc dJ6_getChars_ba4f3_60 rfl ?_
      refine N_getsD (pc := 62) (j := 1) hc (by decide) tw1594 dJ6_getChars_ba4f3_62 ?_
      refine N_iload (pc := 65) hc dJ6_getChars_ba4f3_65 rfl ?_
      refine N_tbald (pc := 67) (j := 1) hc (by decide) dJ6_getChars_ba4f3_67 (fun v6 => ?_)
      refine N_bast (pc := 68) hc dJ6_getChars_ba4f3_68 ?_
      refine N_goto (pc := 69) (tgt := 22) hc dJ6_getChars_ba4f3_69 (by decide) ?_
      refine N_sub (l' := [some ((0, .int v3) : TV), none, some ((10, .ref x2) : TV), none, none, some ((0, .int ((x5 + (-1)) + (-1))) : TV), some ((0, .int x6) : TV)]) ⟨rfl, ⟨rfl, ⟨rfl, ⟨rfl, trivial⟩⟩⟩⟩ ?_
      exact ih v3 x2 ((x5 + (-1)) + (-1)) x6
set_option maxRecDepth 100000 in
set_option maxHeartbeats 8000000 in
theorem qJ6_getChars_ba4f3_L12 {κ : Cx} {fin : Int32 → Mm → Prop} {mc ms : Nat} (hc : Jc κ RJ6 cJ6_getChars_ba4f3 7 1 mc ms 100) (he : EdW κ cJ6_getChars_ba4f3 tI .ireturn (fun _ => True) fin) (x0 : Int32) (x2 : Nat) (x5 : Int32) (s0 : Int32) : Jw κ (wM κ) 7 fin 12 [some ((0, .int x0) : TV), none, some ((10, .ref x2) : TV), none, none, some ((0, .int x5) : TV), none] [((0, .int s0) : TV)] (gJ6_getChars_ba4f3_L12 x0 x2 x5 s0) := by
  unfold gJ6_getChars_ba4f3_L12
  refine N_istore (pc := 12) (l' := [some ((0, .int x0) : TV), none, some ((10, .ref x2) : TV), none, none, some ((0, .int x5) : TV), some ((0, .int s0) : TV)]) hc dJ6_getChars_ba4f3_12 (by decide) rfl rfl ?_
  refine N_iload (pc := 14) hc dJ6_getChars_ba4f3_14 rfl ?_
  refine N_if_ne (pc := 16) (tgt := 22) hc dJ6_getChars_ba4f3_16 (by decide) ?_ ?_
  · refine N_sub (l' := [some ((0, .int x0) : TV), none, some ((10, .ref x2) : TV), none, none, some ((0, .int x5) : TV), some ((0, .int s0) : TV)]) ⟨rfl, ⟨rfl, ⟨rfl, ⟨rfl, trivial⟩⟩⟩⟩ ?_
    exact qJ6_getChars_ba4f3_L22 hc he fu x0 x2 x5 s0
  · refine N_iload_n (pc := 19) hc dJ6_getChars_ba4f3_19 rfl rfl ?_
    refine N_ineg (pc := 20) hc dJ6_getChars_ba4f3_20 ?_
    refine N_nmi (fun v7 => ?_)
    refine N_istore_n (pc := 21) (l' := [some ((0, .int v7) : TV), none, some ((10, .ref x2) : TV), none, none, some ((0, .int x5) : TV), some ((0, .int s0) : TV)]) hc dJ6_getChars_ba4f3_21 rfl (by decide) rfl rfl ?_
    refine N_sub (l' := [some ((0, .int v7) : TV), none, some ((10, .ref x2) : TV), none, none, some ((0, .int x5) : TV), some ((0, .int s0) : TV)]) ⟨rfl, ⟨rfl, ⟨rfl, ⟨rfl, trivial⟩⟩⟩⟩ ?_
    exact qJ6_getChars_ba4f3_L22 hc he fu v7 x2 x5 s0
set_option maxRecDepth 100000 in
set_option maxHeartbeats 8000000 in
theorem qJ6_getChars_ba4f3 {κ : Cx} {fin : Int32 → Mm → Prop} {mc ms : Nat} (hc : Jc κ RJ6 cJ6_getChars_ba4f3 7 1 mc ms 100) (he : EdW κ cJ6_getChars_ba4f3 tI .ireturn (fun _ => True) fin) (x0 : Int32) (x1 : Int32) (x2 : Nat) : Jw κ (wM κ) 7 fin 0 [some ((0, .int x0) : TV), some ((0, .int x1) : TV), some ((10, .ref x2) : TV), none, none, none, none] [] (gJ6_getChars_ba4f3 x0 x1 x2) := by
  unfold gJ6_getChars_ba4f3
  refine N_iload_n (pc := 0) hc dJ6_getChars_ba4f3_0 rfl rfl ?_
  refine N_istore (pc := 1) (l' := [some ((0, .int x0) : TV), some ((0, .int x1) : TV), some ((10, .ref x2) : TV), none, none, some ((0, .int x1) : TV), none]) hc dJ6_getChars_ba4f3_1 (by decide) rfl rfl ?_
  refine N_iload_n (pc := 3) hc dJ6_getChars_ba4f3_3 rfl rfl ?_
  refine N_if_ge (pc := 4) (tgt := 11) hc dJ6_getChars_ba4f3_4 (by decide) ?_ ?_
  · refine N_iconst (pc := 11) (v := 0) hc dJ6_getChars_ba4f3_11 (by decide) ?_
    refine N_sub (l' := [some ((0, .int x0) : TV), none, some ((10, .ref x2) : TV), none, none, some ((0, .int x1) : TV), none]) ⟨rfl, ⟨rfl, ⟨rfl, trivial⟩⟩⟩ ?_
    exact qJ6_getChars_ba4f3_L12 hc he x0 x2 x1 0
  · refine N_iconst (pc := 7) (v := 1) hc dJ6_getChars_ba4f3_7 (by decide) ?_
    refine N_goto (pc := 8) (tgt := 12) hc dJ6_getChars_ba4f3_8 (by decide) ?_
    refine N_sub (l' := [some ((0, .int x0) : TV), none, some ((10, .ref x2) : TV), none, none, some ((0, .int x1) : TV), none]) ⟨rfl, ⟨rfl, ⟨rfl, trivial⟩⟩⟩ ?_
    exact qJ6_getChars_ba4f3_L12 hc he x0 x2 x1 1
theorem mzJ6_getChars_ba4f3 : MOk yJ6_getChars_ba4f3 3 := ⟨by decide +kernel, by decide +kernel, by decide +kernel⟩
set_option maxRecDepth 100000 in
set_option maxHeartbeats 8000000 in
theorem ZJ6_getChars_ba4f3 (x0 : Int32) (x1 : Int32) (x2 : Nat) : Cw tI yJ6_getChars_ba4f3 cJ6_getChars_ba4f3 7 (some .int) 1 100 [((0, .int x0) : TV), ((0, .int x1) : TV), ((10, .ref x2) : TV)] (gJ6_getChars_ba4f3 x0 x1 x2) :=
  Cw_I (j := 4) (by decide +kernel) rfl rfl (Nat.le_of_ble_eq_true rfl) (fun κ fin mc ms hc he => qJ6_getChars_ba4f3 hc he x0 x1 x2)
set_option maxRecDepth 100000 in
set_option maxHeartbeats 8000000 in
theorem qJ5_append_c97b9 {κ : Cx} {fin : Nat → Mm → Prop} {mc ms : Nat} (hc : Jc κ RJ5 cJ5_append_c97b9 4 4 mc ms 170) (he : EdW κ cJ5_append_c97b9 (tA 41) .areturn (fun _ => True) fin) (x0 : Nat) (x1 : Int32) : Jw κ (wM κ) 4 fin 0 [some ((41, .ref x0) : TV), some ((0, .int x1) : TV), none, none] [] (gJ5_append_c97b9 x0 x1) := by
  unfold gJ5_append_c97b9
  refine N_aload_n (pc := 0) hc dJ5_append_c97b9_0 rfl rfl ?_
  refine N_getI (pc := 1) hc clJ4 (k := 3) (Nat.le_of_ble_eq_true rfl) rfl tw1379 (Or.inl rfl) dJ5_append_c97b9_1 (fun v1 => ?_)
  refine N_istore_n (pc := 4) (l' := [some ((41, .ref x0) : TV), some ((0, .int x1) : TV), some ((0, .int v1) : TV), none]) hc dJ5_append_c97b9_4 rfl (by decide) rfl rfl ?_
  refine N_iload_n (pc := 5) hc dJ5_append_c97b9_5 rfl rfl ?_
  refine N_iload_n (pc := 6) hc dJ5_append_c97b9_6 rfl rfl ?_
  refine N_callS (pc := 7) hc (As := [((0, .int x1) : TV)]) (ZJ6_stringSize_0f7a4 x1) dJ5_append_c97b9_7 mzJ6_stringSize_0f7a4 tw1586 tw1587 tw25 tw1588 rfl (Nat.le_of_ble_eq_true rfl) (Nat.le_of_ble_eq_true rfl) (Nat.le_of_ble_eq_true rfl) rfl (fun v2 => ?_)
  show Jw κ (wM κ) 4 fin 10 [some ((41, .ref x0) : TV), some ((0, .int x1) : TV), some ((0, .int v1) : TV), none] [((0, .int v2) : TV), ((0, .int v1) : TV)] _
  refine N_iadd (pc := 10) hc dJ5_append_c97b9_10 ?_
  refine N_nmi (fun v3 => ?_)
  refine N_istore_n (pc := 11) (l' := [some ((41, .ref x0) : TV), some ((0, .int x1) : TV), some ((0, .int v1) : TV), some ((0, .int v3) : TV)]) hc dJ5_append_c97b9_11 rfl (by decide) rfl rfl ?_
  refine N_aload_n (pc := 12) hc dJ5_append_c97b9_12 rfl rfl ?_
  refine N_iload_n (pc := 13) hc dJ5_append_c97b9_13 rfl rfl ?_
  refine N_callU (pc := 14) hc clJ4 (x := ⟨"java/lang/AbstractStringBuilder", "ensureCapacityInternal", "(I)V"⟩) (y := yJ5_ensureCapacityInternal_d00df) (As := [((0, .int v3) : TV)]) (ZJ5_ensureCapacityInternal_d00df x0 v3) dJ5_append_c97b9_14 (n := 1) ⟨by decide +kernel, by decide +kernel, by decide +kernel⟩ rfl ⟨by decide +kernel, by decide +kernel⟩ (tw_U tw1396 tw1630 (tw_x (by decide +kernel) rfl) tw1398 tw14 tw1399) rfl (Nat.le_of_ble_eq_true rfl) (Nat.le_of_ble_eq_true rfl) (Nat.le_of_ble_eq_true rfl) rfl (fun _ => ?_)
  show Jw κ (wM κ) 4 fin 17 [some ((41, .ref x0) : TV), some ((0, .int x1) : TV), some ((0, .int v1) : TV), some ((0, .int v3) : TV)] [] _
  refine N_aload_n (pc := 17) hc dJ5_append_c97b9_17 rfl rfl ?_
  refine N_callU (pc := 18) hc clJ4 (x := ⟨"java/lang/AbstractStringBuilder", "isLatin1", "()Z"⟩) (y := yJ5_isLatin1_aae02) (As := []) (ZJ5_isLatin1_aae02 x0) dJ5_append_c97b9_18 (n := 0) ⟨by decide +kernel, by decide +kernel, by decide +kernel⟩ rfl ⟨by decide +kernel, by decide +kernel⟩ (tw_U tw1414 tw1416 tw1417 tw1415 tw14 tw1418) rfl (Nat.le_of_ble_eq_true rfl) (Nat.le_of_ble_eq_true rfl) (Nat.le_of_ble_eq_true rfl) rfl (fun v4 => ?_)
  show Jw κ (wM κ) 4 fin 21 [some ((41, .ref x0) : TV), some ((0, .int x1) : TV), some ((0, .int v1) : TV), some ((0, .int v3) : TV)] [((0, .int v4) : TV)] _
  refine N_if_eq (pc := 21) (tgt := 37) hc dJ5_append_c97b9_21 (by decide) ?_ ?_
  · exact N_fail
  · refine N_iload_n (pc := 24) hc dJ5_append_c97b9_24 rfl rfl ?_
    refine N_iload_n (pc := 25) hc dJ5_append_c97b9_25 rfl rfl ?_
    refine N_aload_n (pc := 26) hc dJ5_append_c97b9_26 rfl rfl ?_
    refine N_getA (pc := 27) hc clJ4 (k := 0) (kd := 10) (Nat.le_of_ble_eq_true rfl) rfl (Nat.le_of_ble_eq_true rfl) tw1376 (Or.inl rfl) dJ5_append_c97b9_27 (fun v5 => ?_)
    refine N_callS (pc := 30) hc (As := [((0, .int x1) : TV), ((0, .int v3) : TV), ((10, .ref v5) : TV)]) (ZJ6_getChars_ba4f3 x1 v3 v5) dJ5_append_c97b9_30 mzJ6_getChars_ba4f3 tw1589 tw1590 tw25 tw1591 rfl (Nat.le_of_ble_eq_true rfl) (Nat.le_of_ble_eq_true rfl) (Nat.le_of_ble_eq_true rfl) rfl (fun v6 => ?_)
    show Jw κ (wM κ) 4 fin 33 [some ((41, .ref x0) : TV), some ((0, .int x1) : TV), some ((0, .int v1) : TV), some ((0, .int v3) : TV)] [((0, .int v6) : TV)] _
    refine N_pop (pc := 33) hc dJ5_append_c97b9_33 rfl ?_
    refine N_goto (pc := 34) (tgt := 48) hc dJ5_append_c97b9_34 (by decide) ?_
    refine N_aload_n (pc := 48) hc dJ5_append_c97b9_48 rfl rfl ?_
    refine N_iload_n (pc := 49) hc dJ5_append_c97b9_49 rfl rfl ?_
    refine N_putI (pc := 50) hc clJ4 (k := 3) (Nat.le_of_ble_eq_true rfl) rfl rfl tw1379 (Or.inl rfl) rfl dJ5_append_c97b9_50 ?_
    refine N_aload_n (pc := 53) hc dJ5_append_c97b9_53 rfl rfl ?_
    exact N_ret (pc := 54) he dJ5_append_c97b9_54 trivial rfl
theorem mzJ5_append_c97b9 : MOk yJ5_append_c97b9 1 := ⟨by decide +kernel, by decide +kernel, by decide +kernel⟩
set_option maxRecDepth 100000 in
set_option maxHeartbeats 8000000 in
theorem ZJ5_append_c97b9 (x0 : Nat) (x1 : Int32) : Cw (tA 41) yJ5_append_c97b9 cJ5_append_c97b9 4 (some (.object "java/lang/AbstractStringBuilder")) 4 170 [((41, .ref x0) : TV), ((0, .int x1) : TV)] (gJ5_append_c97b9 x0 x1) :=
  Cw_A (Or.inl ⟨_, rfl⟩) (j := 2) (by decide +kernel) rfl rfl (Nat.le_of_ble_eq_true rfl) (fun κ fin mc ms hc he => qJ5_append_c97b9 hc he x0 x1)
set_option maxRecDepth 100000 in
set_option maxHeartbeats 8000000 in
theorem qJ4_append_bf812 {κ : Cx} {fin : Nat → Mm → Prop} {mc ms : Nat} (hc : Jc κ RJ4 cJ4_append_bf812 2 5 mc ms 193) (he : EdW κ cJ4_append_bf812 (tA 41) .areturn (fun _ => True) fin) (x0 : Nat) (x1 : Int32) : Jw κ (wM κ) 2 fin 0 [some ((41, .ref x0) : TV), some ((0, .int x1) : TV)] [] (gJ4_append_bf812 x0 x1) := by
  unfold gJ4_append_bf812
  refine N_aload_n (pc := 0) hc dJ4_append_bf812_0 rfl rfl ?_
  refine N_iload_n (pc := 1) hc dJ4_append_bf812_1 rfl rfl ?_
  refine N_callSU (pc := 2) hc clJ4 (As := [((0, .int x1) : TV)]) (ZJ5_append_c97b9 x0 x1) dJ4_append_bf812_2 mzJ5_append_c97b9 (by decide) tw1360 (tw_SU tw1583 tw1636 tw1388 tw1584 tw14 tw1585) rfl (Nat.le_of_ble_eq_true rfl) (Nat.le_of_ble_eq_true rfl) (Nat.le_of_ble_eq_true rfl) rfl (fun h1 => ?_)
  show Jw κ (wM κ) 2 fin 5 [some ((41, .ref x0) : TV), some ((0, .int x1) : TV)] [((41, .ref h1) : TV)] _
  refine N_pop (pc := 5) hc dJ4_append_bf812_5 rfl ?_
  refine N_aload_n (pc := 6) hc dJ4_append_bf812_6 rfl rfl ?_
  exact N_ret (pc := 7) he dJ4_append_bf812_7 trivial rfl
theorem mzJ4_append_bf812 : MOk yJ4_append_bf812 1 := ⟨by decide +kernel, by decide +kernel, by decide +kernel⟩
set_option maxRecDepth 100000 in
set_option maxHeartbeats 8000000 in
theorem ZJ4_append_bf812 (x0 : Nat) (x1 : Int32) : Cw (tA 41) yJ4_append_bf812 cJ4_append_bf812 2 (some (.object "java/lang/StringBuilder")) 5 193 [((41, .ref x0) : TV), ((0, .int x1) : TV)] (gJ4_append_bf812 x0 x1) :=
  Cw_A (Or.inl ⟨_, rfl⟩) (j := 0) (by decide +kernel) rfl rfl (Nat.le_of_ble_eq_true rfl) (fun κ fin mc ms hc he => qJ4_append_bf812 hc he x0 x1)
set_option maxRecDepth 100000 in
set_option maxHeartbeats 8000000 in
theorem qJ5_inflateIfNeededFor_a7421 {κ : Cx} {fin : Unit → Mm → Prop} {mc ms : Nat} (hc : Jc κ RJ5 cJ5_inflateIfNeededFor_a7421 2 2 mc ms 120) (he : EdW κ cJ5_inflateIfNeededFor_a7421 tV .return_ (fun _ => True) fin) (x0 : Nat) (x1 : Nat) : Jw κ (wM κ) 2 fin 0 [some ((41, .ref x0) : TV), some ((40, .ref x1) : TV)] [] (gJ5_inflateIfNeededFor_a7421 x0 x1) := by
  unfold gJ5_inflateIfNeededFor_a7421
  refine N_getsC (pc := 0) hc tw1368 dJ5_inflateIfNeededFor_a7421_0 ?_
  refine N_if_eq (pc := 3) (tgt := 21) hc dJ5_inflateIfNeededFor_a7421_3 (by decide) ?_ ?_
  · exact N_ret (pc := 21) he dJ5_inflateIfNeededFor_a7421_21 trivial rfl
  · refine N_aload_n (pc := 6) hc dJ5_inflateIfNeededFor_a7421_6 rfl rfl ?_
    refine N_getI (pc := 7) hc clJ4 (k := 1) (Nat.le_of_ble_eq_true rfl) rfl tw1377 (Or.inl rfl) dJ5_inflateIfNeededFor_a7421_7 (fun v1 => ?_)
    refine N_aload_n (pc := 10) hc dJ5_inflateIfNeededFor_a7421_10 rfl rfl ?_
    refine N_callV (pc := 11) hc clJ0 (As := []) (ZJ0_coder_7d493 x1) dJ5_inflateIfNeededFor_a7421_11 mzJ0_coder_7d493 rfl tw1535 tw360 tw361 tw16 tw362 rfl (Nat.le_of_ble_eq_true rfl) (Nat.le_of_ble_eq_true rfl) (Nat.le_of_ble_eq_true rfl) rfl (fun v2 => ?_)
    show Jw κ (wM κ) 2 fin 14 [some ((41, .ref x0) : TV), some ((40, .ref x1) : TV)] [((0, .int v2) : TV), ((0, .int v1) : TV)] _
    refine N_icmp_eq (pc := 14) (tgt := 21) hc dJ5_inflateIfNeededFor_a7421_14 (by decide) ?_ ?_
    · exact N_ret (pc := 21) he dJ5_inflateIfNeededFor_a7421_21 trivial rfl
    · exact N_fail
theorem mzJ5_inflateIfNeededFor_a7421 : MOk yJ5_inflateIfNeededFor_a7421 1 := ⟨by decide +kernel, by decide +kernel, by decide +kernel⟩
set_option maxRecDepth 100000 in
set_option maxHeartbeats 8000000 in
theorem ZJ5_inflateIfNeededFor_a7421 (x0 : Nat) (x1 : Nat) : Cw tV yJ5_inflateIfNeededFor_a7421 cJ5_inflateIfNeededFor_a7421 2 none 2 120 [((41, .ref x0) : TV), ((40, .ref x1) : TV)] (gJ5_inflateIfNeededFor_a7421 x0 x1) :=
  Cw_V (j := 0) (by decide +kernel) rfl rfl (Nat.le_of_ble_eq_true rfl) (fun κ fin mc ms hc he hin => qJ5_inflateIfNeededFor_a7421 hc he x0 x1)
set_option maxRecDepth 100000 in
set_option maxHeartbeats 8000000 in
theorem qJ0_getBytes_840e7 {κ : Cx} {fin : Unit → Mm → Prop} {mc ms : Nat} (hc : Jc κ RJ0 cJ0_getBytes_840e7 4 2 mc ms 120) (he : EdW κ cJ0_getBytes_840e7 tV .return_ (fun _ => True) fin) (x0 : Nat) (x1 : Nat) (x2 : Int32) (x3 : Int32) : Jw κ (wM κ) 4 fin 0 [some ((40, .ref x0) : TV), some ((10, .ref x1) : TV), some ((0, .int x2) : TV), some ((0, .int x3) : TV)] [] (gJ0_getBytes_840e7 x0 x1 x2 x3) := by
  unfold gJ0_getBytes_840e7
  refine N_aload_n (pc := 0) hc dJ0_getBytes_840e7_0 rfl rfl ?_
  refine N_callV (pc := 1) hc clJ0 (As := []) (ZJ0_coder_7d493 x0) dJ0_getBytes_840e7_1 mzJ0_coder_7d493 rfl tw359 tw360 tw361 tw16 tw362 rfl (Nat.le_of_ble_eq_true rfl) (Nat.le_of_ble_eq_true rfl) (Nat.le_of_ble_eq_true rfl) rfl (fun v1 => ?_)
  show Jw κ (wM κ) 4 fin 4 [some ((40, .ref x0) : TV), some ((10, .ref x1) : TV), some ((0, .int x2) : TV), some ((0, .int x3) : TV)] [((0, .int v1) : TV)] _
  refine N_iload_n (pc := 4) hc dJ0_getBytes_840e7_4 rfl rfl ?_
  refine N_icmp_ne (pc := 5) (tgt := 28) hc dJ0_getBytes_840e7_5 (by decide) ?_ ?_
  · exact N_fail
  · refine N_aload_n (pc := 8) hc dJ0_getBytes_840e7_8 rfl rfl ?_
    refine N_getA (pc := 9) hc clJ0 (k := 0) (kd := 10) (Nat.le_of_ble_eq_true rfl) rfl (Nat.le_of_ble_eq_true rfl) tw1493 (Or.inl rfl) dJ0_getBytes_840e7_9 (fun v2 => ?_)
    refine N_iconst (pc := 12) (v := 0) hc dJ0_getBytes_840e7_12 (by decide) ?_
    refine N_aload_n (pc := 13) hc dJ0_getBytes_840e7_13 rfl rfl ?_
    refine N_iload_n (pc := 14) hc dJ0_getBytes_840e7_14 rfl rfl ?_
    refine N_iload_n (pc := 15) hc dJ0_getBytes_840e7_15 rfl rfl ?_
    refine N_ishl (pc := 16) hc dJ0_getBytes_840e7_16 ?_
    refine N_aload_n (pc := 17) hc dJ0_getBytes_840e7_17 rfl rfl ?_
    refine N_getA (pc := 18) hc clJ0 (k := 0) (kd := 10) (Nat.le_of_ble_eq_true rfl) rfl (Nat.le_of_ble_eq_true rfl) tw1493 (Or.inl rfl) dJ0_getBytes_840e7_18 (fun v3 => ?_)
    refine N_blen (pc := 21) hc dJ0_getBytes_840e7_21 (fun v4 => ?_)
    refine N_cpB (pc := 22) hc tw1576 tw947 tw946 tw21 (Nat.le_of_ble_eq_true rfl) (Nat.le_of_ble_eq_true rfl) (Nat.le_of_ble_eq_true rfl) dJ0_getBytes_840e7_22 ?_
    refine N_goto (pc := 25) (tgt := 43) hc dJ0_getBytes_840e7_25 (by decide) ?_
    exact N_ret (pc := 43) he dJ0_getBytes_840e7_43 trivial rfl
theorem mzJ0_getBytes_840e7 : MOk yJ0_getBytes_840e7 3 := ⟨by decide +kernel, by decide +kernel, by decide +kernel⟩
set_option maxRecDepth 100000 in
set_option maxHeartbeats 8000000 in
theorem ZJ0_getBytes_840e7 (x0 : Nat) (x1 : Nat) (x2 : Int32) (x3 : Int32) : Cw tV yJ0_getBytes_840e7 cJ0_getBytes_840e7 4 none 2 120 [((40, .ref x0) : TV), ((10, .ref x1) : TV), ((0, .int x2) : TV), ((0, .int x3) : TV)] (gJ0_getBytes_840e7 x0 x1 x2 x3) :=
  Cw_V (j := 0) (by decide +kernel) rfl rfl (Nat.le_of_ble_eq_true rfl) (fun κ fin mc ms hc he hin => qJ0_getBytes_840e7 hc he x0 x1 x2 x3)
set_option maxRecDepth 100000 in
set_option maxHeartbeats 8000000 in
theorem qJ5_putStringAt_47b60 {κ : Cx} {fin : Unit → Mm → Prop} {mc ms : Nat} (hc : Jc κ RJ5 cJ5_putStringAt_47b60 3 3 mc ms 143) (he : EdW κ cJ5_putStringAt_47b60 tV .return_ (fun _ => True) fin) (x0 : Nat) (x1 : Int32) (x2 : Nat) : Jw κ (wM κ) 3 fin 0 [some ((41, .ref x0) : TV), some ((0, .int x1) : TV), some ((40, .ref x2) : TV)] [] (gJ5_putStringAt_47b60 x0 x1 x2) := by
  unfold gJ5_putStringAt_47b60
  refine N_aload_n (pc := 0) hc dJ5_putStringAt_47b60_0 rfl rfl ?_
  refine N_aload_n (pc := 1) hc dJ5_putStringAt_47b60_1 rfl rfl ?_
  refine N_callU (pc := 2) hc clJ4 (x := ⟨"java/lang/AbstractStringBuilder", "inflateIfNeededFor", "(Ljava/lang/String;)V"⟩) (y := yJ5_inflateIfNeededFor_a7421) (As := [((40, .ref x2) : TV)]) (ZJ5_inflateIfNeededFor_a7421 x0 x2) dJ5_putStringAt_47b60_2 (n := 1) ⟨by decide +kernel, by decide +kernel, by decide +kernel⟩ rfl ⟨by decide +kernel, by decide +kernel⟩ (tw_U tw1568 tw1635 (tw_x (by decide +kernel) rfl) tw1570 tw14 tw1571) rfl (Nat.le_of_ble_eq_true rfl) (Nat.le_of_ble_eq_true rfl) (Nat.le_of_ble_eq_true rfl) rfl (fun _ => ?_)
  show Jw κ (wM κ) 3 fin 5 [some ((41, .ref x0) : TV), some ((0, .int x1) : TV), some ((40, .ref x2) : TV)] [] _
  refine N_aload_n (pc := 5) hc dJ5_putStringAt_47b60_5 rfl rfl ?_
  refine N_aload_n (pc := 6) hc dJ5_putStringAt_47b60_6 rfl rfl ?_
  refine N_getA (pc := 7) hc clJ4 (k := 0) (kd := 10) (Nat.le_of_ble_eq_true rfl) rfl (Nat.le_of_ble_eq_true rfl) tw1376 (Or.inl rfl) dJ5_putStringAt_47b60_7 (fun v1 => ?_)
  refine N_iload_n (pc := 10) hc dJ5_putStringAt_47b60_10 rfl rfl ?_
  refine N_aload_n (pc := 11) hc dJ5_putStringAt_47b60_11 rfl rfl ?_
  refine N_getI (pc := 12) hc clJ4 (k := 1) (Nat.le_of_ble_eq_true rfl) rfl tw1377 (Or.inl rfl) dJ5_putStringAt_47b60_12 (fun v2 => ?_)
  refine N_callV (pc := 15) hc clJ0 (As := [((10, .ref v1) : TV), ((0, .int x1) : TV), ((0, .int v2) : TV)]) (ZJ0_getBytes_840e7 x2 v1 x1 v2) dJ5_putStringAt_47b60_15 mzJ0_getBytes_840e7 rfl tw1572 tw1573 tw1574 tw16 tw1575 rfl (Nat.le_of_ble_eq_true rfl) (Nat.le_of_ble_eq_true rfl) (Nat.le_of_ble_eq_true rfl) rfl (fun _ => ?_)
  show Jw κ (wM κ) 3 fin 18 [some ((41, .ref x0) : TV), some ((0, .int x1) : TV), some ((40, .ref x2) : TV)] [] _
  exact N_ret (pc := 18) he dJ5_putStringAt_47b60_18 trivial rfl
theorem mzJ5_putStringAt_47b60 : MOk yJ5_putStringAt_47b60 2 := ⟨by decide +kernel, by decide +kernel, by decide +kernel⟩
set_option maxRecDepth 100000 in
set_option maxHeartbeats 8000000 in
theorem ZJ5_putStringAt_47b60 (x0 : Nat) (x1 : Int32) (x2 : Nat) : Cw tV yJ5_putStringAt_47b60 cJ5_putStringAt_47b60 3 none 3 143 [((41, .ref x0) : TV), ((0, .int x1) : TV), ((40, .ref x2) : TV)] (gJ5_putStringAt_47b60 x0 x1 x2) :=
  Cw_V (j := 0) (by decide +kernel) rfl rfl (Nat.le_of_ble_eq_true rfl) (fun κ fin mc ms hc he hin => qJ5_putStringAt_47b60 hc he x0 x1 x2)
set_option maxRecDepth 100000 in
set_option maxHeartbeats 8000000 in
theorem qJ5_append_cf1ce {κ : Cx} {fin : Nat → Mm → Prop} {mc ms : Nat} (hc : Jc κ RJ5 cJ5_append_cf1ce 3 4 mc ms 170) (he : EdW κ cJ5_append_cf1ce (tA 41) .areturn (fun _ => True) fin) (x0 : Nat) (x1 : Nat) : Jw κ (wM κ) 3 fin 0 [some ((41, .ref x0) : TV), some ((40, .ref x1) : TV), none] [] (gJ5_append_cf1ce x0 x1) := by
  unfold gJ5_append_cf1ce
  refine N_aload_n (pc := 0) hc dJ5_append_cf1ce_0 rfl rfl ?_
  refine N_ifnonnullC (pc := 1) (tgt := 9) hc dJ5_append_cf1ce_1 (by decide) ?_ ?_
  · exact N_fail
  · intro p1
    refine N_aload_n (pc := 9) hc dJ5_append_cf1ce_9 rfl rfl ?_
    refine N_callV (pc := 10) hc clJ0 (As := []) (ZJ0_length_8abf5 x1) dJ5_append_cf1ce_10 mzJ0_length_8abf5 rfl tw1533 tw356 tw357 tw16 tw358 rfl (Nat.le_of_ble_eq_true rfl) (Nat.le_of_ble_eq_true rfl) (Nat.le_of_ble_eq_true rfl) rfl (fun v2 => ?_)
    show Jw κ (wM κ) 3 fin 13 [some ((41, .ref x0) : TV), some ((40, .ref x1) : TV), none] [((0, .int v2) : TV)] _
    refine N_istore_n (pc := 13) (l' := [some ((41, .ref x0) : TV), some ((40, .ref x1) : TV), some ((0, .int v2) : TV)]) hc dJ5_append_cf1ce_13 rfl (by decide) rfl rfl ?_
    refine N_aload_n (pc := 14) hc dJ5_append_cf1ce_14 rfl rfl ?_
    refine N_aload_n (pc := 15) hc dJ5_append_cf1ce_15 rfl rfl ?_
    refine N_getI (pc := 16) hc clJ4 (k := 3) (Nat.le_of_ble_eq_true rfl) rfl tw1379 (Or.inl rfl) dJ5_append_cf1ce_16 (fun v3 => ?_)
    refine N_iload_n (pc := 19) hc dJ5_append_cf1ce_19 rfl rfl ?_
    refine N_iadd (pc := 20) hc dJ5_append_cf1ce_20 ?_
    refine N_callU (pc := 21) hc clJ4 (x := ⟨"java/lang/AbstractStringBuilder", "ensureCapacityInternal", "(I)V"⟩) (y := yJ5_ensureCapacityInternal_d00df) (As := [((0, .int (v3 + v2)) : TV)]) (ZJ5_ensureCapacityInternal_d00df x0 (v3 + v2)) dJ5_append_cf1ce_21 (n := 1) ⟨by decide +kernel, by decide +kernel, by decide +kernel⟩ rfl ⟨by decide +kernel, by decide +kernel⟩ (tw_U tw1396 tw1630 (tw_x (by decide +kernel) rfl) tw1398 tw14 tw1399) rfl (Nat.le_of_ble_eq_true rfl) (Nat.le_of_ble_eq_true rfl) (Nat.le_of_ble_eq_true rfl) rfl (fun _ => ?_)
    show Jw κ (wM κ) 3 fin 24 [some ((41, .ref x0) : TV), some ((40, .ref x1) : TV), some ((0, .int v2) : TV)] [] _
    refine N_aload_n (pc := 24) hc dJ5_append_cf1ce_24 rfl rfl ?_
    refine N_aload_n (pc := 25) hc dJ5_append_cf1ce_25 rfl rfl ?_
    refine N_getI (pc := 26) hc clJ4 (k := 3) (Nat.le_of_ble_eq_true rfl) rfl tw1379 (Or.inl rfl) dJ5_append_cf1ce_26 (fun v4 => ?_)
    refine N_aload_n (pc := 29) hc dJ5_append_cf1ce_29 rfl rfl ?_
    refine N_callU (pc := 30) hc clJ4 (x := ⟨"java/lang/AbstractStringBuilder", "putStringAt", "(ILjava/lang/String;)V"⟩) (y := yJ5_putStringAt_47b60) (As := [((0, .int v4) : TV), ((40, .ref x1) : TV)]) (ZJ5_putStringAt_47b60 x0 v4 x1) dJ5_append_cf1ce_30 (n := 2) ⟨by decide +kernel, by decide +kernel, by decide +kernel⟩ rfl ⟨by decide +kernel, by decide +kernel⟩ (tw_U tw1564 tw1634 (tw_x (by decide +kernel) rfl) tw1566 tw14 tw1567) rfl (Nat.le_of_ble_eq_true rfl) (Nat.le_of_ble_eq_true rfl) (Nat.le_of_ble_eq_true rfl) rfl (fun _ => ?_)
    show Jw κ (wM κ) 3 fin 33 [some ((41, .ref x0) : TV), some ((40, .ref x1) : TV), some ((0, .int v2) : TV)] [] _
    refine N_aload_n (pc := 33) hc dJ5_append_cf1ce_33 rfl rfl ?_
    refine N_dup (pc := 34) hc dJ5_append_cf1ce_34 rfl ?_
    refine N_getI (pc := 35) hc clJ4 (k := 3) (Nat.le_of_ble_eq_true rfl) rfl tw1379 (Or.inl rfl) dJ5_append_cf1ce_35 (fun v5 => ?_)
    refine N_iload_n (pc := 38) hc dJ5_append_cf1ce_38 rfl rfl ?_
    refine N_iadd (pc := 39) hc dJ5_append_cf1ce_39 ?_
    refine N_putI (pc := 40) hc clJ4 (k := 3) (Nat.le_of_ble_eq_true rfl) rfl rfl tw1379 (Or.inl rfl) rfl dJ5_append_cf1ce_40 ?_
    refine N_aload_n (pc := 43) hc dJ5_append_cf1ce_43 rfl rfl ?_
    exact N_ret (pc := 44) he dJ5_append_cf1ce_44 trivial rfl
theorem mzJ5_append_cf1ce : MOk yJ5_append_cf1ce 1 := ⟨by decide +kernel, by decide +kernel, by decide +kernel⟩
set_option maxRecDepth 100000 in
set_option maxHeartbeats 8000000 in
theorem ZJ5_append_cf1ce (x0 : Nat) (x1 : Nat) : Cw (tA 41) yJ5_append_cf1ce cJ5_append_cf1ce 3 (some (.object "java/lang/AbstractStringBuilder")) 4 170 [((41, .ref x0) : TV), ((40, .ref x1) : TV)] (gJ5_append_cf1ce x0 x1) :=
  Cw_A (Or.inl ⟨_, rfl⟩) (j := 1) (by decide +kernel) rfl rfl (Nat.le_of_ble_eq_true rfl) (fun κ fin mc ms hc he => qJ5_append_cf1ce hc he x0 x1)
set_option maxRecDepth 100000 in
set_option maxHeartbeats 8000000 in
theorem qJ4_append_15ec4 {κ : Cx} {fin : Nat → Mm → Prop} {mc ms : Nat} (hc : Jc κ RJ4 cJ4_append_15ec4 2 5 mc ms 192) (he : EdW κ cJ4_append_15ec4 (tA 41) .areturn (fun _ => True) fin) (x0 : Nat) (x1 : Nat) : Jw κ (wM κ) 2 fin 0 [some ((41, .ref x0) : TV), some ((40, .ref x1) : TV)] [] (gJ4_append_15ec4 x0 x1) := by
  unfold gJ4_append_15ec4
  refine N_aload_n (pc := 0) hc dJ4_append_15ec4_0 rfl rfl ?_
  refine N_aload_n (pc := 1) hc dJ4_append_15ec4_1 rfl rfl ?_
  refine N_callSU (pc := 2) hc clJ4 (As := [((40, .ref x1) : TV)]) (ZJ5_append_cf1ce x0 x1) dJ4_append_15ec4_2 mzJ5_append_cf1ce (by decide) tw1360 (tw_SU tw1546 tw1538 tw1388 tw1537 tw14 tw1547) rfl (Nat.le_of_ble_eq_true rfl) (Nat.le_of_ble_eq_true rfl) (Nat.le_of_ble_eq_true rfl) rfl (fun h1 => ?_)
  show Jw κ (wM κ) 2 fin 5 [some ((41, .ref x0) : TV), some ((40, .ref x1) : TV)] [((41, .ref h1) : TV)] _
  refine N_pop (pc := 5) hc dJ4_append_15ec4_5 rfl ?_
  refine N_aload_n (pc := 6) hc dJ4_append_15ec4_6 rfl rfl ?_
  exact N_ret (pc := 7) he dJ4_append_15ec4_7 trivial rfl
theorem mzJ4_append_15ec4 : MOk yJ4_append_15ec4 1 := ⟨by decide +kernel, by decide +kernel, by decide +kernel⟩
set_option maxRecDepth 100000 in
set_option maxHeartbeats 8000000 in
theorem ZJ4_append_15ec4 (x0 : Nat) (x1 : Nat) : Cw (tA 41) yJ4_append_15ec4 cJ4_append_15ec4 2 (some (.object "java/lang/StringBuilder")) 5 192 [((41, .ref x0) : TV), ((40, .ref x1) : TV)] (gJ4_append_15ec4 x0 x1) :=
  Cw_A (Or.inl ⟨_, rfl⟩) (j := 0) (by decide +kernel) rfl rfl (Nat.le_of_ble_eq_true rfl) (fun κ fin mc ms hc he => qJ4_append_15ec4 hc he x0 x1)
set_option maxRecDepth 100000 in
set_option maxHeartbeats 8000000 in
theorem qJ4_append_cf1ce {κ : Cx} {fin : Nat → Mm → Prop} {mc ms : Nat} (hc : Jc κ RJ4 cJ4_append_cf1ce 2 6 mc ms 213) (he : EdW κ cJ4_append_cf1ce (tA 41) .areturn (fun _ => True) fin) (x0 : Nat) (x1 : Nat) : Jw κ (wM κ) 2 fin 0 [some ((41, .ref x0) : TV), some ((40, .ref x1) : TV)] [] (gJ4_append_cf1ce x0 x1) := by
  unfold gJ4_append_cf1ce
  refine N_aload_n (pc := 0) hc dJ4_append_cf1ce_0 rfl rfl ?_
  refine N_aload_n (pc := 1) hc dJ4_append_cf1ce_1 rfl rfl ?_
  refine N_callV (pc := 2) hc clJ4 (As := [((40, .ref x1) : TV)]) (ZJ4_append_15ec4 x0 x1) dJ4_append_cf1ce_2 mzJ4_append_15ec4 rfl tw1542 tw1543 tw1544 tw15 tw1545 rfl (Nat.le_of_ble_eq_true rfl) (Nat.le_of_ble_eq_true rfl) (Nat.le_of_ble_eq_true rfl) rfl (fun h1 => ?_)
  show Jw κ (wM κ) 2 fin 5 [some ((41, .ref x0) : TV), some ((40, .ref x1) : TV)] [((41, .ref h1) : TV)] _
  exact N_ret (pc := 5) he dJ4_append_cf1ce_5 trivial rfl
theorem mzJ4_append_cf1ce : MOk yJ4_append_cf1ce 1 := ⟨by decide +kernel, by decide +kernel, by decide +kernel⟩
set_option maxRecDepth 100000 in
set_option maxHeartbeats 8000000 in
theorem ZJ4_append_cf1ce (x0 : Nat) (x1 : Nat) : Cw (tA 41) yJ4_append_cf1ce cJ4_append_cf1ce 2 (some (.object "java/lang/AbstractStringBuilder")) 6 213 [((41, .ref x0) : TV), ((40, .ref x1) : TV)] (gJ4_append_cf1ce x0 x1) :=
  Cw_A (Or.inl ⟨_, rfl⟩) (j := 0) (by decide +kernel) rfl rfl (Nat.le_of_ble_eq_true rfl) (fun κ fin mc ms hc he => qJ4_append_cf1ce hc he x0 x1)
set_option maxRecDepth 100000 in
set_option maxHeartbeats 8000000 in
theorem qJ5_init_a7421_L24 {κ : Cx} {fin : Unit → Mm → Prop} {mc ms : Nat} (hc : Jc κ RJ5 cJ5_init_a7421 5 7 mc ms 234) (he : EdW κ cJ5_init_a7421 tV .return_ (fun _ => True) fin) (hin : Mh κ = "<init>") (x0 : Nat) (x1 : Nat) (s0 : Int32) : Jw κ (wM κ) 5 fin 24 [some ((41, .ref x0) : TV), some ((40, .ref x1) : TV), none, none, none] [((0, .int s0) : TV)] (gJ5_init_a7421_L24 x0 x1 s0) := by
  unfold gJ5_init_a7421_L24
  refine N_istore_n (pc := 24) (l' := [some ((41, .ref x0) : TV), some ((40, .ref x1) : TV), none, some ((0, .int s0) : TV), none]) hc dJ5_init_a7421_24 rfl (by decide) rfl rfl ?_
  refine N_aload_n (pc := 25) hc dJ5_init_a7421_25 rfl rfl ?_
  refine N_callV (pc := 26) hc clJ0 (As := []) (ZJ0_coder_7d493 x1) dJ5_init_a7421_26 mzJ0_coder_7d493 rfl tw1535 tw360 tw361 tw16 tw362 rfl (Nat.le_of_ble_eq_true rfl) (Nat.le_of_ble_eq_true rfl) (Nat.le_of_ble_eq_true rfl) rfl (fun v1 => ?_)
  show Jw κ (wM κ) 5 fin 29 [some ((41, .ref x0) : TV), some ((40, .ref x1) : TV), none, some ((0, .int s0) : TV), none] [((0, .int v1) : TV)] _
  refine N_istore (pc := 29) (l' := [some ((41, .ref x0) : TV), some ((40, .ref x1) : TV), none, some ((0, .int s0) : TV), some ((0, .int v1) : TV)]) hc dJ5_init_a7421_29 (by decide) rfl rfl ?_
  refine N_aload_n (pc := 31) hc dJ5_init_a7421_31 rfl rfl ?_
  refine N_iload (pc := 32) hc dJ5_init_a7421_32 rfl ?_
  refine N_putZ (pc := 34) hc clJ4 (k := 1) (Nat.le_of_ble_eq_true rfl) rfl rfl (Or.inr rfl) tw1377 (Or.inl rfl) rfl dJ5_init_a7421_34 ?_
  refine N_aload_n (pc := 37) hc dJ5_init_a7421_37 rfl rfl ?_
  refine N_iload (pc := 38) hc dJ5_init_a7421_38 rfl ?_
  refine N_if_ne (pc := 40) (tgt := 49) hc dJ5_init_a7421_40 (by decide) ?_ ?_
  · exact N_fail
  · refine N_iload_n (pc := 43) hc dJ5_init_a7421_43 rfl rfl ?_
    refine N_newa10 (pc := 44) hc tw134 dJ5_init_a7421_44 (fun h2 => ?_)
    refine N_goto (pc := 46) (tgt := 53) hc dJ5_init_a7421_46 (by decide) ?_
    refine N_putA (pc := 53) hc clJ4 (k := 0) (kd := 10) (Nat.le_of_ble_eq_true rfl) rfl (Nat.le_of_ble_eq_true rfl) (fun _ => rfl) (fun _ => rfl) tw1376 (Or.inl rfl) rfl dJ5_init_a7421_53 ?_
    refine N_aload_n (pc := 56) hc dJ5_init_a7421_56 rfl rfl ?_
    refine N_aload_n (pc := 57) hc dJ5_init_a7421_57 rfl rfl ?_
    refine N_callO (pc := 58) hc clJ4 (owner := "java/lang/AbstractStringBuilder") (x := ⟨"java/lang/AbstractStringBuilder", "append", "(Ljava/lang/String;)Ljava/lang/AbstractStringBuilder;"⟩) (y := yJ4_append_cf1ce) (As := [((40, .ref x1) : TV)]) (ZJ4_append_cf1ce x0 x1) dJ5_init_a7421_58 (n := 1) ⟨by decide +kernel, by decide +kernel, by decide +kernel⟩ tw1547 ⟨by decide +kernel, by decide +kernel⟩ (tw_O tw1536 tw1538 tw1537 tw1539 tw1540 tw15 tw1541) rfl (Nat.le_of_ble_eq_true rfl) (Nat.le_of_ble_eq_true rfl) (Nat.le_of_ble_eq_true rfl) rfl (fun h3 => ?_)
    show Jw κ (wM κ) 5 fin 61 [some ((41, .ref x0) : TV), some ((40, .ref x1) : TV), none, some ((0, .int s0) : TV), some ((0, .int v1) : TV)] [((41, .ref h3) : TV)] _
    refine N_pop (pc := 61) hc dJ5_init_a7421_61 rfl ?_
    exact N_ret (pc := 62) he dJ5_init_a7421_62 trivial rfl
set_option maxRecDepth 100000 in
set_option maxHeartbeats 8000000 in
theorem qJ5_init_a7421 {κ : Cx} {fin : Unit → Mm → Prop} {mc ms : Nat} (hc : Jc κ RJ5 cJ5_init_a7421 5 7 mc ms 234) (he : EdW κ cJ5_init_a7421 tV .return_ (fun _ => True) fin) (hin : Mh κ = "<init>") (x0 : Nat) (x1 : Nat) : Jw κ (wM κ) 5 fin 0 [some ((41, .ref x0) : TV), some ((40, .ref x1) : TV), none, none, none] [] (gJ5_init_a7421 x0 x1) := by
  unfold gJ5_init_a7421
  refine N_aload_n (pc := 0) hc dJ5_init_a7421_0 rfl rfl ?_
  refine N_objInit (pc := 1) hc tw1367 tw43 tw44 (Nat.le_of_ble_eq_true rfl) (Nat.le_of_ble_eq_true rfl) (Nat.le_of_ble_eq_true rfl) dJ5_init_a7421_1 ?_
  refine N_aload_n (pc := 4) hc dJ5_init_a7421_4 rfl rfl ?_
  refine N_callV (pc := 5) hc clJ0 (As := []) (ZJ0_length_8abf5 x1) dJ5_init_a7421_5 mzJ0_length_8abf5 rfl tw1533 tw356 tw357 tw16 tw358 rfl (Nat.le_of_ble_eq_true rfl) (Nat.le_of_ble_eq_true rfl) (Nat.le_of_ble_eq_true rfl) rfl (fun v4 => ?_)
  show Jw κ (wM κ) 5 fin 8 [some ((41, .ref x0) : TV), some ((40, .ref x1) : TV), none, none, none] [((0, .int v4) : TV)] _
  refine N_istore_n (pc := 8) (l' := [some ((41, .ref x0) : TV), some ((40, .ref x1) : TV), some ((0, .int v4) : TV), none, none]) hc dJ5_init_a7421_8 rfl (by decide) rfl rfl ?_
  refine N_iload_n (pc := 9) hc dJ5_init_a7421_9 rfl rfl ?_
  refine N_ldcI (pc := 10) (v := 2147483631) hc dJ5_init_a7421_10 tw1534 ?_
  refine N_icmp_ge (pc := 12) (tgt := 22) hc dJ5_init_a7421_12 (by decide) ?_ ?_
  · refine N_ldcI (pc := 22) (v := 2147483647) hc dJ5_init_a7421_22 tw1405 ?_
    refine N_sub (l' := [some ((41, .ref x0) : TV), some ((40, .ref x1) : TV), none, none, none]) ⟨rfl, ⟨rfl, trivial⟩⟩ ?_
    exact qJ5_init_a7421_L24 hc he hin x0 x1 2147483647
  · refine N_iload_n (pc := 15) hc dJ5_init_a7421_15 rfl rfl ?_
    refine N_bipush (pc := 16) (v := 16) hc dJ5_init_a7421_16 (by decide) ?_
    refine N_iadd (pc := 18) hc dJ5_init_a7421_18 ?_
    refine N_goto (pc := 19) (tgt := 24) hc dJ5_init_a7421_19 (by decide) ?_
    refine N_sub (l' := [some ((41, .ref x0) : TV), some ((40, .ref x1) : TV), none, none, none]) ⟨rfl, ⟨rfl, trivial⟩⟩ ?_
    exact qJ5_init_a7421_L24 hc he hin x0 x1 (v4 + 16)
theorem mzJ5_init_a7421 : MOk yJ5_init_a7421 1 := ⟨by decide +kernel, by decide +kernel, by decide +kernel⟩
set_option maxRecDepth 100000 in
set_option maxHeartbeats 8000000 in
theorem ZJ5_init_a7421 (x0 : Nat) (x1 : Nat) : Cw tV yJ5_init_a7421 cJ5_init_a7421 5 none 7 234 [((41, .ref x0) : TV), ((40, .ref x1) : TV)] (gJ5_init_a7421 x0 x1) :=
  Cw_V (j := 3) (by decide +kernel) rfl rfl (Nat.le_of_ble_eq_true rfl) (fun κ fin mc ms hc he hin => qJ5_init_a7421 hc he hin x0 x1)
set_option maxRecDepth 100000 in
set_option maxHeartbeats 8000000 in
theorem qJ4_init_a7421 {κ : Cx} {fin : Unit → Mm → Prop} {mc ms : Nat} (hc : Jc κ RJ4 cJ4_init_a7421 2 8 mc ms 258) (he : EdW κ cJ4_init_a7421 tV .return_ (fun _ => True) fin) (hin : Mh κ = "<init>") (x0 : Nat) (x1 : Nat) : Jw κ (wM κ) 2 fin 0 [some ((41, .ref x0) : TV), some ((40, .ref x1) : TV)] [] (gJ4_init_a7421 x0 x1) := by
  unfold gJ4_init_a7421
  refine N_aload_n (pc := 0) hc dJ4_init_a7421_0 rfl rfl ?_
  refine N_aload_n (pc := 1) hc dJ4_init_a7421_1 rfl rfl ?_
  refine N_callI (pc := 2) hc (ci := 41) (As := [((40, .ref x1) : TV)]) (ZJ5_init_a7421 x0 x1) dJ4_init_a7421_2 mzJ5_init_a7421 rfl tw1530 tw1531 tw14 tw1532 rfl (Nat.le_of_ble_eq_true rfl) (Nat.le_of_ble_eq_true rfl) (Nat.le_of_ble_eq_true rfl) rfl (fun _ => ?_)
  show Jw κ (wM κ) 2 fin 5 [some ((41, .ref x0) : TV), some ((40, .ref x1) : TV)] [] _
  exact N_ret (pc := 5) he dJ4_init_a7421_5 trivial rfl
theorem mzJ4_init_a7421 : MOk yJ4_init_a7421 1 := ⟨by decide +kernel, by decide +kernel, by decide +kernel⟩
set_option maxRecDepth 100000 in
set_option maxHeartbeats 8000000 in
theorem ZJ4_init_a7421 (x0 : Nat) (x1 : Nat) : Cw tV yJ4_init_a7421 cJ4_init_a7421 2 none 8 258 [((41, .ref x0) : TV), ((40, .ref x1) : TV)] (gJ4_init_a7421 x0 x1) :=
  Cw_V (j := 0) (by decide +kernel) rfl rfl (Nat.le_of_ble_eq_true rfl) (fun κ fin mc ms hc he hin => qJ4_init_a7421 hc he hin x0 x1)
set_option maxRecDepth 100000 in
set_option maxHeartbeats 8000000 in
theorem qJx4a65c_rangeCheckForAdd_d00df_L12 {κ : Cx} {fin : Unit → Mm → Prop} {mc ms : Nat} (hc : Jc κ RJx4a65c cJx4a65c_rangeCheckForAdd_d00df 2 1 mc ms 100) (he : EdW κ cJx4a65c_rangeCheckForAdd_d00df tV .return_ (fun _ => True) fin) : Jw κ (wM κ) 2 fin 12 [none, none] [] (gJx4a65c_rangeCheckForAdd_d00df_L12) := by
  unfold gJx4a65c_rangeCheckForAdd_d00df_L12
  exact N_fail
set_option maxRecDepth 100000 in
set_option maxHeartbeats 8000000 in
theorem qJx4a65c_rangeCheckForAdd_d00df {κ : Cx} {fin : Unit → Mm → Prop} {mc ms : Nat} (hc : Jc κ RJx4a65c cJx4a65c_rangeCheckForAdd_d00df 2 1 mc ms 100) (he : EdW κ cJx4a65c_rangeCheckForAdd_d00df tV .return_ (fun _ => True) fin) (x0 : Nat) (x1 : Int32) : Jw κ (wM κ) 2 fin 0 [some ((44, .ref x0) : TV), some ((0, .int x1) : TV)] [] (gJx4a65c_rangeCheckForAdd_d00df x0 x1) := by
  unfold gJx4a65c_rangeCheckForAdd_d00df
  refine N_iload_n (pc := 0) hc dJx4a65c_rangeCheckForAdd_d00df_0 rfl rfl ?_
  refine N_aload_n (pc := 1) hc dJx4a65c_rangeCheckForAdd_d00df_1 rfl rfl ?_
  refine N_getI (pc := 2) hc clJx4a65c (k := 2) (Nat.le_of_ble_eq_true rfl) rfl tw757 (Or.inl rfl) dJx4a65c_rangeCheckForAdd_d00df_2 (fun v1 => ?_)
  refine N_icmp_gt (pc := 5) (tgt := 12) hc dJx4a65c_rangeCheckForAdd_d00df_5 (by decide) ?_ ?_
  · exact N_fail
  · refine N_iload_n (pc := 8) hc dJx4a65c_rangeCheckForAdd_d00df_8 rfl rfl ?_
    refine N_if_ge (pc := 9) (tgt := 25) hc dJx4a65c_rangeCheckForAdd_d00df_9 (by decide) ?_ ?_
    · exact N_ret (pc := 25) he dJx4a65c_rangeCheckForAdd_d00df_25 trivial rfl
    · exact N_fail
theorem mzJx4a65c_rangeCheckForAdd_d00df : MOk yJx4a65c_rangeCheckForAdd_d00df 1 := ⟨by decide +kernel, by decide +kernel, by decide +kernel⟩
set_option maxRecDepth 100000 in
set_option maxHeartbeats 8000000 in
theorem ZJx4a65c_rangeCheckForAdd_d00df (x0 : Nat) (x1 : Int32) : Cw tV yJx4a65c_rangeCheckForAdd_d00df cJx4a65c_rangeCheckForAdd_d00df 2 none 1 100 [((44, .ref x0) : TV), ((0, .int x1) : TV)] (gJx4a65c_rangeCheckForAdd_d00df x0 x1) :=
  Cw_V (j := 0) (by decide +kernel) rfl rfl (Nat.le_of_ble_eq_true rfl) (fun κ fin mc ms hc he hin => qJx4a65c_rangeCheckForAdd_d00df hc he x0 x1)
set_option maxRecDepth 100000 in
set_option maxHeartbeats 8000000 in
theorem qJx4a65c_add_7a177_L38 {κ : Cx} {fin : Unit → Mm → Prop} {mc ms : Nat} (hc : Jc κ RJx4a65c cJx4a65c_add_7a177 5 5 mc ms 187) (he : EdW κ cJx4a65c_add_7a177 tV .return_ (fun _ => True) fin) (x0 : Nat) (x1 : Int32) (x2 : Nat) (x3 : Int32) (x4 : Nat) : Jw κ (wM κ) 5 fin 38 [some ((44, .ref x0) : TV), some ((0, .int x1) : TV), some ((16, .ref x2) : TV), some ((0, .int x3) : TV), some ((17, .ref x4) : TV)] [] (gJx4a65c_add_7a177_L38 x0 x1 x2 x3 x4) := by
  unfold gJx4a65c_add_7a177_L38
  refine N_aload (pc := 38) hc dJx4a65c_add_7a177_38 rfl ?_
  refine N_iload_n (pc := 40) hc dJx4a65c_add_7a177_40 rfl rfl ?_
  refine N_aload (pc := 41) hc dJx4a65c_add_7a177_41 rfl ?_
  refine N_iload_n (pc := 43) hc dJx4a65c_add_7a177_43 rfl rfl ?_
  refine N_iconst (pc := 44) (v := 1) hc dJx4a65c_add_7a177_44 (by decide) ?_
  refine N_iadd (pc := 45) hc dJx4a65c_add_7a177_45 ?_
  refine N_iload_n (pc := 46) hc dJx4a65c_add_7a177_46 rfl rfl ?_
  refine N_iload_n (pc := 47) hc dJx4a65c_add_7a177_47 rfl rfl ?_
  refine N_isub (pc := 48) hc dJx4a65c_add_7a177_48 ?_
  refine N_17 (h := x4) [((0, .int (x3 - x1)) : TV), ((0, .int (x1 + 1)) : TV)] ?_
  refine N_17 (h := x4) [((0, .int (x3 - x1)) : TV), ((0, .int (x1 + 1)) : TV), ((15, .ref x4) : TV), ((0, .int x1) : TV)] ?_
  refine N_cpR (pc := 49) hc tw1613 tw947 tw946 tw21 (Nat.le_of_ble_eq_true rfl) (Nat.le_of_ble_eq_true rfl) (Nat.le_of_ble_eq_true rfl) dJx4a65c_add_7a177_49 ?_
  refine N_aload (pc := 52) hc dJx4a65c_add_7a177_52 rfl ?_
  refine N_iload_n (pc := 54) hc dJx4a65c_add_7a177_54 rfl rfl ?_
  refine N_aload_n (pc := 55) hc dJx4a65c_add_7a177_55 rfl rfl ?_
  refine N_17 (h := x4) [((16, .ref x2) : TV), ((0, .int x1) : TV)] ?_
  refine N_aast (pc := 56) hc dJx4a65c_add_7a177_56 (Or.inr (Or.inl rfl)) ?_
  refine N_aload_n (pc := 57) hc dJx4a65c_add_7a177_57 rfl rfl ?_
  refine N_iload_n (pc := 58) hc dJx4a65c_add_7a177_58 rfl rfl ?_
  refine N_iconst (pc := 59) (v := 1) hc dJx4a65c_add_7a177_59 (by decide) ?_
  refine N_iadd (pc := 60) hc dJx4a65c_add_7a177_60 ?_
  refine N_putI (pc := 61) hc clJx4a65c (k := 2) (Nat.le_of_ble_eq_true rfl) rfl rfl tw757 (Or.inl rfl) rfl dJx4a65c_add_7a177_61 ?_
  exact N_ret (pc := 64) he dJx4a65c_add_7a177_64 trivial rfl
set_option maxRecDepth 100000 in
set_option maxHeartbeats 8000000 in
theorem qJx4a65c_add_7a177 {κ : Cx} {fin : Unit → Mm → Prop} {mc ms : Nat} (hc : Jc κ RJx4a65c cJx4a65c_add_7a177 5 5 mc ms 187) (he : EdW κ cJx4a65c_add_7a177 tV .return_ (fun _ => True) fin) (x0 : Nat) (x1 : Int32) (x2 : Nat) : Jw κ (wM κ) 5 fin 0 [some ((44, .ref x0) : TV), some ((0, .int x1) : TV), some ((16, .ref x2) : TV), none, none] [] (gJx4a65c_add_7a177 x0 x1 x2) := by
  unfold gJx4a65c_add_7a177
  refine N_aload_n (pc := 0) hc dJx4a65c_add_7a177_0 rfl rfl ?_
  refine N_iload_n (pc := 1) hc dJx4a65c_add_7a177_1 rfl rfl ?_
  refine N_callV (pc := 2) hc clJx4a65c (As := [((0, .int x1) : TV)]) (ZJx4a65c_rangeCheckForAdd_d00df x0 x1) dJx4a65c_add_7a177_2 mzJx4a65c_rangeCheckForAdd_d00df rfl tw1609 tw1611 twp41 tw13 tw1612 rfl (Nat.le_of_ble_eq_true rfl) (Nat.le_of_ble_eq_true rfl) (Nat.le_of_ble_eq_true rfl) rfl (fun _ => ?_)
  show Jw κ (wM κ) 5 fin 5 [some ((44, .ref x0) : TV), some ((0, .int x1) : TV), some ((16, .ref x2) : TV), none, none] [] _
  refine N_aload_n (pc := 5) hc dJx4a65c_add_7a177_5 rfl rfl ?_
  refine N_dup (pc := 6) hc dJx4a65c_add_7a177_6 rfl ?_
  refine N_getI (pc := 7) hc clJx4a65c (k := 0) (Nat.le_of_ble_eq_true rfl) rfl tw761 (Or.inr tw760) dJx4a65c_add_7a177_7 (fun v1 => ?_)
  refine N_iconst (pc := 10) (v := 1) hc dJx4a65c_add_7a177_10 (by decide) ?_
  refine N_iadd (pc := 11) hc dJx4a65c_add_7a177_11 ?_
  refine N_putI (pc := 12) hc clJx4a65c (k := 0) (Nat.le_of_ble_eq_true rfl) rfl rfl tw761 (Or.inr tw760) rfl dJx4a65c_add_7a177_12 ?_
  refine N_aload_n (pc := 15) hc dJx4a65c_add_7a177_15 rfl rfl ?_
  refine N_getI (pc := 16) hc clJx4a65c (k := 2) (Nat.le_of_ble_eq_true rfl) rfl tw757 (Or.inl rfl) dJx4a65c_add_7a177_16 (fun v2 => ?_)
  refine N_dup (pc := 19) hc dJx4a65c_add_7a177_19 rfl ?_
  refine N_istore_n (pc := 20) (l' := [some ((44, .ref x0) : TV), some ((0, .int x1) : TV), some ((16, .ref x2) : TV), some ((0, .int v2) : TV), none]) hc dJx4a65c_add_7a177_20 rfl (by decide) rfl rfl ?_
  refine N_aload_n (pc := 21) hc dJx4a65c_add_7a177_21 rfl rfl ?_
  refine N_getA (pc := 22) hc clJx4a65c (k := 1) (kd := 17) (Nat.le_of_ble_eq_true rfl) rfl (Nat.le_of_ble_eq_true rfl) tw754 (Or.inl rfl) dJx4a65c_add_7a177_22 (fun v3 => ?_)
  refine N_dup (pc := 25) hc dJx4a65c_add_7a177_25 rfl ?_
  refine N_astore (pc := 26) (l' := [some ((44, .ref x0) : TV), some ((0, .int x1) : TV), some ((16, .ref x2) : TV), some ((0, .int v2) : TV), some ((17, .ref v3) : TV)]) hc dJx4a65c_add_7a177_26 (by decide) rfl rfl ?_
  refine N_elen (pc := 28) hc dJx4a65c_add_7a177_28 (fun v4 => ?_)
  refine N_icmp_ne (pc := 29) (tgt := 38) hc dJx4a65c_add_7a177_29 (by decide) ?_ ?_
  · refine N_sub (l' := [some ((44, .ref x0) : TV), some ((0, .int x1) : TV), some ((16, .ref x2) : TV), some ((0, .int v2) : TV), some ((17, .ref v3) : TV)]) ⟨rfl, ⟨rfl, ⟨rfl, ⟨rfl, ⟨rfl, trivial⟩⟩⟩⟩⟩ ?_
    exact qJx4a65c_add_7a177_L38 hc he x0 x1 x2 v2 v3
  · refine N_aload_n (pc := 32) hc dJx4a65c_add_7a177_32 rfl rfl ?_
    refine N_callV (pc := 33) hc clJx4a65c (As := []) (ZJx4a65c_grow_d5877 x0) dJx4a65c_add_7a177_33 mzJx4a65c_grow_d5877 rfl tw894 tw896 twp22 tw13 tw897 rfl (Nat.le_of_ble_eq_true rfl) (Nat.le_of_ble_eq_true rfl) (Nat.le_of_ble_eq_true rfl) rfl (fun h5 => ?_)
    show Jw κ (wM κ) 5 fin 36 [some ((44, .ref x0) : TV), some ((0, .int x1) : TV), some ((16, .ref x2) : TV), some ((0, .int v2) : TV), some ((17, .ref v3) : TV)] [((15, .ref h5) : TV)] _
    refine N_to17 (h := h5) [] ?_
    refine N_astore (pc := 36) (l' := [some ((44, .ref x0) : TV), some ((0, .int x1) : TV), some ((16, .ref x2) : TV), some ((0, .int v2) : TV), some ((17, .ref h5) : TV)]) hc dJx4a65c_add_7a177_36 (by decide) rfl rfl ?_
    refine N_sub (l' := [some ((44, .ref x0) : TV), some ((0, .int x1) : TV), some ((16, .ref x2) : TV), some ((0, .int v2) : TV), some ((17, .ref h5) : TV)]) ⟨rfl, ⟨rfl, ⟨rfl, ⟨rfl, ⟨rfl, trivial⟩⟩⟩⟩⟩ ?_
    exact qJx4a65c_add_7a177_L38 hc he x0 x1 x2 v2 h5
theorem mzJx4a65c_add_7a177 : MOk yJx4a65c_add_7a177 2 := ⟨by decide +kernel, by decide +kernel, by decide +kernel⟩
set_option maxRecDepth 100000 in
set_option maxHeartbeats 8000000 in
theorem ZJx4a65c_add_7a177 (x0 : Nat) (x1 : Int32) (x2 : Nat) : Cw tV yJx4a65c_add_7a177 cJx4a65c_add_7a177 5 none 5 187 [((44, .ref x0) : TV), ((0, .int x1) : TV), ((16, .ref x2) : TV)] (gJx4a65c_add_7a177 x0 x1 x2) :=
  Cw_V (j := 2) (by decide +kernel) rfl rfl (Nat.le_of_ble_eq_true rfl) (fun κ fin mc ms hc he hin => qJx4a65c_add_7a177 hc he x0 x1 x2)
set_option maxRecDepth 100000 in
set_option maxHeartbeats 8000000 in
theorem qJx4a65c_fastRemove_b59b0_L34 {κ : Cx} {fin : Unit → Mm → Prop} {mc ms : Nat} (hc : Jc κ RJx4a65c cJx4a65c_fastRemove_b59b0 4 1 mc ms 100) (he : EdW κ cJx4a65c_fastRemove_b59b0 tV .return_ (fun _ => True) fin) (x0 : Nat) (x1 : Nat) (x3 : Int32) : Jw κ (wM κ) 4 fin 34 [some ((44, .ref x0) : TV), some ((15, .ref x1) : TV), none, some ((0, .int x3) : TV)] [] (gJx4a65c_fastRemove_b59b0_L34 x0 x1 x3) := by
  unfold gJx4a65c_fastRemove_b59b0_L34
  refine N_aload_n (pc := 34) hc dJx4a65c_fastRemove_b59b0_34 rfl rfl ?_
  refine N_aload_n (pc := 35) hc dJx4a65c_fastRemove_b59b0_35 rfl rfl ?_
  refine N_iload_n (pc := 36) hc dJx4a65c_fastRemove_b59b0_36 rfl rfl ?_
  refine N_dup_x1 (pc := 37) hc dJx4a65c_fastRemove_b59b0_37 rfl rfl ?_
  refine N_putI (pc := 38) hc clJx4a65c (k := 2) (Nat.le_of_ble_eq_true rfl) rfl rfl tw757 (Or.inl rfl) rfl dJx4a65c_fastRemove_b59b0_38 ?_
  refine N_null (pc := 41) (k := 23) hc dJx4a65c_fastRemove_b59b0_41 ?_
  refine N_aastN (pc := 42) hc dJx4a65c_fastRemove_b59b0_42 ?_
  exact N_ret (pc := 43) he dJx4a65c_fastRemove_b59b0_43 trivial rfl
set_option maxRecDepth 100000 in
set_option maxHeartbeats 8000000 in
theorem qJx4a65c_fastRemove_b59b0 {κ : Cx} {fin : Unit → Mm → Prop} {mc ms : Nat} (hc : Jc κ RJx4a65c cJx4a65c_fastRemove_b59b0 4 1 mc ms 100) (he : EdW κ cJx4a65c_fastRemove_b59b0 tV .return_ (fun _ => True) fin) (x0 : Nat) (x1 : Nat) (x2 : Int32) : Jw κ (wM κ) 4 fin 0 [some ((44, .ref x0) : TV), some ((15, .ref x1) : TV), some ((0, .int x2) : TV), none] [] (gJx4a65c_fastRemove_b59b0 x0 x1 x2) := by
  unfold gJx4a65c_fastRemove_b59b0
  refine N_aload_n (pc := 0) hc dJx4a65c_fastRemove_b59b0_0 rfl rfl ?_
  refine N_dup (pc := 1) hc dJx4a65c_fastRemove_b59b0_1 rfl ?_
  refine N_getI (pc := 2) hc clJx4a65c (k := 0) (Nat.le_of_ble_eq_true rfl) rfl tw761 (Or.inr tw760) dJx4a65c_fastRemove_b59b0_2 (fun v1 => ?_)
  refine N_iconst (pc := 5) (v := 1) hc dJx4a65c_fastRemove_b59b0_5 (by decide) ?_
  refine N_iadd (pc := 6) hc dJx4a65c_fastRemove_b59b0_6 ?_
  refine N_putI (pc := 7) hc clJx4a65c (k := 0) (Nat.le_of_ble_eq_true rfl) rfl rfl tw761 (Or.inr tw760) rfl dJx4a65c_fastRemove_b59b0_7 ?_
  refine N_aload_n (pc := 10) hc dJx4a65c_fastRemove_b59b0_10 rfl rfl ?_
  refine N_getI (pc := 11) hc clJx4a65c (k := 2) (Nat.le_of_ble_eq_true rfl) rfl tw757 (Or.inl rfl) dJx4a65c_fastRemove_b59b0_11 (fun v2 => ?_)
  refine N_iconst (pc := 14) (v := 1) hc dJx4a65c_fastRemove_b59b0_14 (by decide) ?_
  refine N_isub (pc := 15) hc dJx4a65c_fastRemove_b59b0_15 ?_
  refine N_dup (pc := 16) hc dJx4a65c_fastRemove_b59b0_16 rfl ?_
  refine N_nmi (fun v3 => ?_)
  refine N_istore_n (pc := 17) (l' := [some ((44, .ref x0) : TV), some ((15, .ref x1) : TV), some ((0, .int x2) : TV), some ((0, .int v3) : TV)]) hc dJx4a65c_fastRemove_b59b0_17 rfl (by decide) rfl rfl ?_
  refine N_iload_n (pc := 18) hc dJx4a65c_fastRemove_b59b0_18 rfl rfl ?_
  refine N_icmp_le (pc := 19) (tgt := 34) hc dJx4a65c_fastRemove_b59b0_19 (by decide) ?_ ?_
  · refine N_sub (l' := [some ((44, .ref x0) : TV), some ((15, .ref x1) : TV), none, some ((0, .int v3) : TV)]) ⟨rfl, ⟨rfl, ⟨rfl, trivial⟩⟩⟩ ?_
    exact qJx4a65c_fastRemove_b59b0_L34 hc he x0 x1 v3
  · refine N_aload_n (pc := 22) hc dJx4a65c_fastRemove_b59b0_22 rfl rfl ?_
    refine N_iload_n (pc := 23) hc dJx4a65c_fastRemove_b59b0_23 rfl rfl ?_
    refine N_iconst (pc := 24) (v := 1) hc dJx4a65c_fastRemove_b59b0_24 (by decide) ?_
    refine N_iadd (pc := 25) hc dJx4a65c_fastRemove_b59b0_25 ?_
    refine N_aload_n (pc := 26) hc dJx4a65c_fastRemove_b59b0_26 rfl rfl ?_
    refine N_iload_n (pc := 27) hc dJx4a65c_fastRemove_b59b0_27 rfl rfl ?_
    refine N_iload_n (pc := 28) hc dJx4a65c_fastRemove_b59b0_28 rfl rfl ?_
    refine N_iload_n (pc := 29) hc dJx4a65c_fastRemove_b59b0_29 rfl rfl ?_
    refine N_isub (pc := 30) hc dJx4a65c_fastRemove_b59b0_30 ?_
    refine N_cpR (pc := 31) hc tw1613 tw947 tw946 tw21 (Nat.le_of_ble_eq_true rfl) (Nat.le_of_ble_eq_true rfl) (Nat.le_of_ble_eq_true rfl) dJx4a65c_fastRemove_b59b0_31 ?_
    refine N_sub (l' := [some ((44, .ref x0) : TV), some ((15, .ref x1) : TV), none, some ((0, .int v3) : TV)]) ⟨rfl, ⟨rfl, ⟨rfl, trivial⟩⟩⟩ ?_
    exact qJx4a65c_fastRemove_b59b0_L34 hc he x0 x1 v3
theorem mzJx4a65c_fastRemove_b59b0 : MOk yJx4a65c_fastRemove_b59b0 2 := ⟨by decide +kernel, by decide +kernel, by decide +kernel⟩
set_option maxRecDepth 100000 in
set_option maxHeartbeats 8000000 in
theorem ZJx4a65c_fastRemove_b59b0 (x0 : Nat) (x1 : Nat) (x2 : Int32) : Cw tV yJx4a65c_fastRemove_b59b0 cJx4a65c_fastRemove_b59b0 4 none 1 100 [((44, .ref x0) : TV), ((15, .ref x1) : TV), ((0, .int x2) : TV)] (gJx4a65c_fastRemove_b59b0 x0 x1 x2) :=
  Cw_V (j := 1) (by decide +kernel) rfl rfl (Nat.le_of_ble_eq_true rfl) (fun κ fin mc ms hc he hin => qJx4a65c_fastRemove_b59b0 hc he x0 x1 x2)
set_option maxRecDepth 100000 in
set_option maxHeartbeats 8000000 in
theorem qJx4a65c_remove_915e3 {κ : Cx} {fin : Nat → Mm → Prop} {mc ms : Nat} (hc : Jc κ RJx4a65c cJx4a65c_remove_915e3 4 3 mc ms 143) (he : EdW κ cJx4a65c_remove_915e3 (tA 16) .areturn (fun _ => True) fin) (x0 : Nat) (x1 : Int32) : Jw κ (wM κ) 4 fin 0 [some ((44, .ref x0) : TV), some ((0, .int x1) : TV), none, none] [] (gJx4a65c_remove_915e3 x0 x1) := by
  unfold gJx4a65c_remove_915e3
  refine N_iload_n (pc := 0) hc dJx4a65c_remove_915e3_0 rfl rfl ?_
  refine N_aload_n (pc := 1) hc dJx4a65c_remove_915e3_1 rfl rfl ?_
  refine N_getI (pc := 2) hc clJx4a65c (k := 2) (Nat.le_of_ble_eq_true rfl) rfl tw757 (Or.inl rfl) dJx4a65c_remove_915e3_2 (fun v1 => ?_)
  refine N_callS (pc := 5) hc (As := [((0, .int x1) : TV), ((0, .int v1) : TV)]) (ZJ15_checkIndex_7cf53 x1 v1) dJx4a65c_remove_915e3_5 mzJ15_checkIndex_7cf53 tw1062 tw1063 tw33 tw1064 rfl (Nat.le_of_ble_eq_true rfl) (Nat.le_of_ble_eq_true rfl) (Nat.le_of_ble_eq_true rfl) rfl (fun v2 => ?_)
  show Jw κ (wM κ) 4 fin 8 [some ((44, .ref x0) : TV), some ((0, .int x1) : TV), none, none] [((0, .int v2) : TV)] _
  refine N_pop (pc := 8) hc dJx4a65c_remove_915e3_8 rfl ?_
  refine N_aload_n (pc := 9) hc dJx4a65c_remove_915e3_9 rfl rfl ?_
  refine N_getA (pc := 10) hc clJx4a65c (k := 1) (kd := 17) (Nat.le_of_ble_eq_true rfl) rfl (Nat.le_of_ble_eq_true rfl) tw754 (Or.inl rfl) dJx4a65c_remove_915e3_10 (fun v3 => ?_)
  refine N_astore_n (pc := 13) (l' := [some ((44, .ref x0) : TV), some ((0, .int x1) : TV), some ((17, .ref v3) : TV), none]) hc dJx4a65c_remove_915e3_13 rfl (by decide) rfl rfl ?_
  refine N_aload_n (pc := 14) hc dJx4a65c_remove_915e3_14 rfl rfl ?_
  refine N_iload_n (pc := 15) hc dJx4a65c_remove_915e3_15 rfl rfl ?_
  refine N_17 (h := v3) [((0, .int x1) : TV)] ?_
  refine N_aald (pc := 16) hc dJx4a65c_remove_915e3_16 (fun v4 => ?_)
  refine N_astore_n (pc := 17) (l' := [some ((44, .ref x0) : TV), some ((0, .int x1) : TV), some ((17, .ref v3) : TV), some ((16, .ref v4) : TV)]) hc dJx4a65c_remove_915e3_17 rfl (by decide) rfl rfl ?_
  refine N_aload_n (pc := 18) hc dJx4a65c_remove_915e3_18 rfl rfl ?_
  refine N_aload_n (pc := 19) hc dJx4a65c_remove_915e3_19 rfl rfl ?_
  refine N_iload_n (pc := 20) hc dJx4a65c_remove_915e3_20 rfl rfl ?_
  refine N_17 (h := v3) [((0, .int x1) : TV)] ?_
  refine N_callV (pc := 21) hc clJx4a65c (As := [((15, .ref v3) : TV), ((0, .int x1) : TV)]) (ZJx4a65c_fastRemove_b59b0 x0 v3 x1) dJx4a65c_remove_915e3_21 mzJx4a65c_fastRemove_b59b0 rfl tw1618 tw1620 twp42 tw13 tw1621 rfl (Nat.le_of_ble_eq_true rfl) (Nat.le_of_ble_eq_true rfl) (Nat.le_of_ble_eq_true rfl) rfl (fun _ => ?_)
  show Jw κ (wM κ) 4 fin 24 [some ((44, .ref x0) : TV), some ((0, .int x1) : TV), some ((17, .ref v3) : TV), some ((16, .ref v4) : TV)] [] _
  refine N_aload_n (pc := 24) hc dJx4a65c_remove_915e3_24 rfl rfl ?_
  exact N_ret (pc := 25) he dJx4a65c_remove_915e3_25 trivial rfl
theorem mzJx4a65c_remove_915e3 : MOk yJx4a65c_remove_915e3 1 := ⟨by decide +kernel, by decide +kernel, by decide +kernel⟩
set_option maxRecDepth 100000 in
set_option maxHeartbeats 8000000 in
theorem ZJx4a65c_remove_915e3 (x0 : Nat) (x1 : Int32) : Cw (tA 16) yJx4a65c_remove_915e3 cJx4a65c_remove_915e3 4 (some (.object "java/lang/Object")) 3 143 [((44, .ref x0) : TV), ((0, .int x1) : TV)] (gJx4a65c_remove_915e3 x0 x1) :=
  Cw_A (Or.inl ⟨_, rfl⟩) (j := 2) (by decide +kernel) rfl rfl (Nat.le_of_ble_eq_true rfl) (fun κ fin mc ms hc he => qJx4a65c_remove_915e3 hc he x0 x1)
