set_option maxRecDepth 100000 in
set_option maxHeartbeats 4000000 in
theorem jX7_init {κ : Cx} {fin : Unit → Mm → Prop} (hc : Jc κ RX7 cX7_init 1 4 37 1869 80) (he : Ed κ cX7_init 37 1869 wV .return_ fin) (hin : Mh κ = "<init>") (x0 : Nat) : Jg κ (wM κ) 1 fin 0 0 0 [some ((7, .ref x0) : TV)] [] (fX7_init x0) := by
  unfold fX7_init
  refine J_aload_n (pc := 0) hc dX7_init_0 rfl rfl ?_
  refine J_objInit (pc := 1) hc tw42 tw43 tw44 (Nat.le_of_ble_eq_true rfl) (Nat.le_of_ble_eq_true rfl) (Nat.le_of_ble_eq_true rfl) dX7_init_1 ?_
  refine J_aload_n (pc := 4) hc dX7_init_4 rfl rfl ?_
  refine J_new (pc := 5) hc clX2 dvX2 tw45 tw46 tw3 (Nat.le_of_ble_eq_true rfl) (Nat.le_of_ble_eq_true rfl) dX7_init_5 (fun h1 => ?_)
  refine J_dup (pc := 8) hc dX7_init_8 rfl ?_
  refine J_callIv (pc := 9) hc (ci := 2) (Or.inl (Nat.le_of_ble_eq_true rfl)) (As := []) (KX2_init h1) dX7_init_9 moX2_init rfl tw47 tw48 tw3 tw49 rfl (Nat.le_of_ble_eq_true rfl) (Nat.le_of_ble_eq_true rfl) (Nat.le_of_ble_eq_true rfl) (Nat.le_of_ble_eq_true rfl) (Nat.le_of_ble_eq_true rfl) rfl (fun _ => ?_)
  refine J_putA (pc := 12) hc hin clX7 (k := 0) (kd := 2) (Nat.le_of_ble_eq_true rfl) rfl (Nat.le_of_ble_eq_true rfl) (fun _ => rfl) (fun _ => rfl) tw295 rfl rfl rfl dX7_init_12 ?_
  refine J_aload_n (pc := 15) hc dX7_init_15 rfl rfl ?_
  refine J_new (pc := 16) hc clX1 dvX1 tw83 tw84 tw4 (Nat.le_of_ble_eq_true rfl) (Nat.le_of_ble_eq_true rfl) dX7_init_16 (fun h2 => ?_)
  refine J_dup (pc := 19) hc dX7_init_19 rfl ?_
  refine J_callIv (pc := 20) hc (ci := 1) (Or.inl (Nat.le_of_ble_eq_true rfl)) (As := []) (KX1_init h2) dX7_init_20 moX1_init rfl tw85 tw86 tw4 tw87 rfl (Nat.le_of_ble_eq_true rfl) (Nat.le_of_ble_eq_true rfl) (Nat.le_of_ble_eq_true rfl) (Nat.le_of_ble_eq_true rfl) (Nat.le_of_ble_eq_true rfl) rfl (fun _ => ?_)
  refine J_putA (pc := 23) hc hin clX7 (k := 1) (kd := 1) (Nat.le_of_ble_eq_true rfl) rfl (Nat.le_of_ble_eq_true rfl) (fun _ => rfl) (fun _ => rfl) tw296 rfl rfl rfl dX7_init_23 ?_
  refine J_aload_n (pc := 26) hc dX7_init_26 rfl rfl ?_
  refine J_iconst (pc := 27) (v := 2) hc dX7_init_27 (by decide) ?_
  refine J_newa14 (pc := 28) (N9 := 2) hc tw45 (by decide) (by decide) (Nat.le_of_ble_eq_true rfl) (Nat.le_of_ble_eq_true rfl) (Nat.le_of_ble_eq_true rfl) dX7_init_28 (fun h3 => ?_)
  refine J_putA (pc := 31) hc hin clX7 (k := 2) (kd := 14) (Nat.le_of_ble_eq_true rfl) rfl (Nat.le_of_ble_eq_true rfl) (fun _ => rfl) (fun _ => rfl) tw297 rfl rfl rfl dX7_init_31 ?_
  refine J_aload_n (pc := 34) hc dX7_init_34 rfl rfl ?_
  refine J_new (pc := 35) hc clX3 dvX3 tw102 tw103 tw5 (Nat.le_of_ble_eq_true rfl) (Nat.le_of_ble_eq_true rfl) dX7_init_35 (fun h4 => ?_)
  refine J_dup (pc := 38) hc dX7_init_38 rfl ?_
  refine J_callIv (pc := 39) hc (ci := 3) (Or.inl (Nat.le_of_ble_eq_true rfl)) (As := []) (KX3_init h4) dX7_init_39 moX3_init rfl tw104 tw105 tw5 tw106 rfl (Nat.le_of_ble_eq_true rfl) (Nat.le_of_ble_eq_true rfl) (Nat.le_of_ble_eq_true rfl) (Nat.le_of_ble_eq_true rfl) (Nat.le_of_ble_eq_true rfl) rfl (fun _ => ?_)
  refine J_putA (pc := 42) hc hin clX7 (k := 3) (kd := 3) (Nat.le_of_ble_eq_true rfl) rfl (Nat.le_of_ble_eq_true rfl) (fun _ => rfl) (fun _ => rfl) tw298 rfl rfl rfl dX7_init_42 ?_
  refine J_aload_n (pc := 45) hc dX7_init_45 rfl rfl ?_
  refine J_new (pc := 46) hc clX0 dvX0 tw193 tw194 tw8 (Nat.le_of_ble_eq_true rfl) (Nat.le_of_ble_eq_true rfl) dX7_init_46 (fun h5 => ?_)
  refine J_dup (pc := 49) hc dX7_init_49 rfl ?_
  refine J_callIv (pc := 50) hc (ci := 0) (Or.inl (Nat.le_of_ble_eq_true rfl)) (As := []) (KX0_init h5) dX7_init_50 moX0_init rfl tw195 tw196 tw8 tw197 rfl (Nat.le_of_ble_eq_true rfl) (Nat.le_of_ble_eq_true rfl) (Nat.le_of_ble_eq_true rfl) (Nat.le_of_ble_eq_true rfl) (Nat.le_of_ble_eq_true rfl) rfl (fun _ => ?_)
  refine J_putA (pc := 53) hc hin clX7 (k := 4) (kd := 0) (Nat.le_of_ble_eq_true rfl) rfl (Nat.le_of_ble_eq_true rfl) (fun _ => rfl) (fun _ => rfl) tw299 rfl rfl rfl dX7_init_53 ?_
  refine J_aload_n (pc := 56) hc dX7_init_56 rfl rfl ?_
  refine J_new (pc := 57) hc clX5 dvX5 tw226 tw227 tw9 (Nat.le_of_ble_eq_true rfl) (Nat.le_of_ble_eq_true rfl) dX7_init_57 (fun h6 => ?_)
  refine J_dup (pc := 60) hc dX7_init_60 rfl ?_
  refine J_callIv (pc := 61) hc (ci := 5) (Or.inl (Nat.le_of_ble_eq_true rfl)) (As := []) (KX5_init h6) dX7_init_61 moX5_init rfl tw228 tw229 tw9 tw230 rfl (Nat.le_of_ble_eq_true rfl) (Nat.le_of_ble_eq_true rfl) (Nat.le_of_ble_eq_true rfl) (Nat.le_of_ble_eq_true rfl) (Nat.le_of_ble_eq_true rfl) rfl (fun _ => ?_)
  refine J_putA (pc := 64) hc hin clX7 (k := 5) (kd := 5) (Nat.le_of_ble_eq_true rfl) rfl (Nat.le_of_ble_eq_true rfl) (fun _ => rfl) (fun _ => rfl) tw300 rfl rfl rfl dX7_init_64 ?_
  refine J_aload_n (pc := 67) hc dX7_init_67 rfl rfl ?_
  refine J_sipush (pc := 68) (v := 300) hc dX7_init_68 (by decide) ?_
  refine J_newa10 (pc := 71) (N9 := 300) hc tw134 (by decide) (by decide) (Nat.le_of_ble_eq_true rfl) (Nat.le_of_ble_eq_true rfl) (Nat.le_of_ble_eq_true rfl) dX7_init_71 (fun h7 => ?_)
  refine J_putA (pc := 73) hc hin clX7 (k := 6) (kd := 10) (Nat.le_of_ble_eq_true rfl) rfl (Nat.le_of_ble_eq_true rfl) (fun _ => rfl) (fun _ => rfl) tw301 rfl rfl rfl dX7_init_73 ?_
  refine J_aload_n (pc := 76) hc dX7_init_76 rfl rfl ?_
  refine J_iconst (pc := 77) (v := 0) hc dX7_init_77 (by decide) ?_
  refine J_putI (pc := 78) hc clX7 (k := 7) (Nat.le_of_ble_eq_true rfl) rfl rfl tw302 (Or.inl rfl) rfl dX7_init_78 ?_
  exact J_vret (pc := 81) he dX7_init_81
theorem moX7_init : MOk yX7_init 0 := ⟨by decide +kernel, by decide +kernel, by decide +kernel⟩
set_option maxRecDepth 100000 in
set_option maxHeartbeats 4000000 in
theorem KX7_init (x0 : Nat) : Ct wV yX7_init cX7_init 1 none 4 37 1869 80 [((7, .ref x0) : TV)] (fX7_init x0) :=
  Ct_V (j := 0) (by decide +kernel) rfl rfl (Nat.le_of_ble_eq_true rfl) (fun κ fin hc he hin => jX7_init hc he hin x0)
set_option maxRecDepth 100000 in
set_option maxHeartbeats 4000000 in
theorem jX7_appendText {κ : Cx} {fin : (Nat ⊕ Int32) → Mm → Prop} (hc : Jc κ RX7 cX7_appendText 2 6 1 6 100) (he : Ed κ cX7_appendText 1 6 (fun (b : Int32) => wI b) .ireturn (fun b M => fin (.inr b) M)) (hX : EdX κ 1 6 fin) (x0 : Nat) (x1 : Int32) : Jg κ (wM κ) 2 fin 0 0 0 [some ((7, .ref x0) : TV), some ((0, .int x1) : TV)] [] (fX7_appendText x0 x1) := by
  unfold fX7_appendText
  refine J_aload_n (pc := 0) hc dX7_appendText_0 rfl rfl ?_
  refine J_getA (pc := 1) hc clX7 (k := 3) (kd := 3) (Nat.le_of_ble_eq_true rfl) rfl (Nat.le_of_ble_eq_true rfl) tw298 (Or.inl rfl) dX7_appendText_1 (fun v1 => ?_)
  refine J_getA (pc := 4) hc clX3 (k := 2) (kd := 6) (Nat.le_of_ble_eq_true rfl) rfl (Nat.le_of_ble_eq_true rfl) tw178 (Or.inl rfl) dX7_appendText_4 (fun v2 => ?_)
  refine J_getI (pc := 7) hc clX6 (k := 0) (Nat.le_of_ble_eq_true rfl) rfl tw115 (Or.inl rfl) dX7_appendText_7 (fun v3 => ?_)
  refine J_iconst (pc := 10) (v := 4) hc dX7_appendText_10 (by decide) ?_
  refine J_iadd (pc := 11) hc dX7_appendText_11 ?_
  refine J_sipush (pc := 12) (v := 900) hc dX7_appendText_12 (by decide) ?_
  refine J_icmp_le (pc := 15) (tgt := 28) hc dX7_appendText_15 (by decide) ?_ ?_
  · refine J_aload_n (pc := 28) hc dX7_appendText_28 rfl rfl ?_
    refine J_getA (pc := 29) hc clX7 (k := 3) (kd := 3) (Nat.le_of_ble_eq_true rfl) rfl (Nat.le_of_ble_eq_true rfl) tw298 (Or.inl rfl) dX7_appendText_29 (fun v4 => ?_)
    refine J_getA (pc := 32) hc clX3 (k := 2) (kd := 6) (Nat.le_of_ble_eq_true rfl) rfl (Nat.le_of_ble_eq_true rfl) tw178 (Or.inl rfl) dX7_appendText_32 (fun v5 => ?_)
    refine J_iload_n (pc := 35) hc dX7_appendText_35 rfl rfl ?_
    refine J_bipush (pc := 36) (v := 24) hc dX7_appendText_36 (by decide) ?_
    refine J_iushrN (pc := 38) hc dX7_appendText_38 ?_
    refine J_callVv (pc := 39) hc clX6 (As := [((0, .int (iush x1 24)) : TV)]) (KX6_append v5 (iush x1 24)) dX7_appendText_39 moX6_append rfl tw1519 tw1520 tw1521 tw6 tw1522 rfl (Nat.le_of_ble_eq_true rfl) (Nat.le_of_ble_eq_true rfl) (Nat.le_of_ble_eq_true rfl) (Nat.le_of_ble_eq_true rfl) (Nat.le_of_ble_eq_true rfl) rfl (fun _ => ?_)
    refine J_aload_n (pc := 42) hc dX7_appendText_42 rfl rfl ?_
    refine J_getA (pc := 43) hc clX7 (k := 3) (kd := 3) (Nat.le_of_ble_eq_true rfl) rfl (Nat.le_of_ble_eq_true rfl) tw298 (Or.inl rfl) dX7_appendText_43 (fun v6 => ?_)
    refine J_getA (pc := 46) hc clX3 (k := 2) (kd := 6) (Nat.le_of_ble_eq_true rfl) rfl (Nat.le_of_ble_eq_true rfl) tw178 (Or.inl rfl) dX7_appendText_46 (fun v7 => ?_)
    refine J_iload_n (pc := 49) hc dX7_appendText_49 rfl rfl ?_
    refine J_bipush (pc := 50) (v := 16) hc dX7_appendText_50 (by decide) ?_
    refine J_iushrN (pc := 52) hc dX7_appendText_52 ?_
    refine J_callVv (pc := 53) hc clX6 (As := [((0, .int (iush x1 16)) : TV)]) (KX6_append v7 (iush x1 16)) dX7_appendText_53 moX6_append rfl tw1519 tw1520 tw1521 tw6 tw1522 rfl (Nat.le_of_ble_eq_true rfl) (Nat.le_of_ble_eq_true rfl) (Nat.le_of_ble_eq_true rfl) (Nat.le_of_ble_eq_true rfl) (Nat.le_of_ble_eq_true rfl) rfl (fun _ => ?_)
    refine J_aload_n (pc := 56) hc dX7_appendText_56 rfl rfl ?_
    refine J_getA (pc := 57) hc clX7 (k := 3) (kd := 3) (Nat.le_of_ble_eq_true rfl) rfl (Nat.le_of_ble_eq_true rfl) tw298 (Or.inl rfl) dX7_appendText_57 (fun v8 => ?_)
    refine J_getA (pc := 60) hc clX3 (k := 2) (kd := 6) (Nat.le_of_ble_eq_true rfl) rfl (Nat.le_of_ble_eq_true rfl) tw178 (Or.inl rfl) dX7_appendText_60 (fun v9 => ?_)
    refine J_iload_n (pc := 63) hc dX7_appendText_63 rfl rfl ?_
    refine J_bipush (pc := 64) (v := 8) hc dX7_appendText_64 (by decide) ?_
    refine J_iushrN (pc := 66) hc dX7_appendText_66 ?_
    refine J_callVv (pc := 67) hc clX6 (As := [((0, .int (iush x1 8)) : TV)]) (KX6_append v9 (iush x1 8)) dX7_appendText_67 moX6_append rfl tw1519 tw1520 tw1521 tw6 tw1522 rfl (Nat.le_of_ble_eq_true rfl) (Nat.le_of_ble_eq_true rfl) (Nat.le_of_ble_eq_true rfl) (Nat.le_of_ble_eq_true rfl) (Nat.le_of_ble_eq_true rfl) rfl (fun _ => ?_)
    refine J_aload_n (pc := 70) hc dX7_appendText_70 rfl rfl ?_
    refine J_getA (pc := 71) hc clX7 (k := 3) (kd := 3) (Nat.le_of_ble_eq_true rfl) rfl (Nat.le_of_ble_eq_true rfl) tw298 (Or.inl rfl) dX7_appendText_71 (fun v10 => ?_)
    refine J_getA (pc := 74) hc clX3 (k := 2) (kd := 6) (Nat.le_of_ble_eq_true rfl) rfl (Nat.le_of_ble_eq_true rfl) tw178 (Or.inl rfl) dX7_appendText_74 (fun v11 => ?_)
    refine J_iload_n (pc := 77) hc dX7_appendText_77 rfl rfl ?_
    refine J_callVv (pc := 78) hc clX6 (As := [((0, .int x1) : TV)]) (KX6_append v11 x1) dX7_appendText_78 moX6_append rfl tw1519 tw1520 tw1521 tw6 tw1522 rfl (Nat.le_of_ble_eq_true rfl) (Nat.le_of_ble_eq_true rfl) (Nat.le_of_ble_eq_true rfl) (Nat.le_of_ble_eq_true rfl) (Nat.le_of_ble_eq_true rfl) rfl (fun _ => ?_)
    refine J_aload_n (pc := 81) hc dX7_appendText_81 rfl rfl ?_
    refine J_getA (pc := 82) hc clX7 (k := 3) (kd := 3) (Nat.le_of_ble_eq_true rfl) rfl (Nat.le_of_ble_eq_true rfl) tw298 (Or.inl rfl) dX7_appendText_82 (fun v12 => ?_)
    refine J_getA (pc := 85) hc clX3 (k := 2) (kd := 6) (Nat.le_of_ble_eq_true rfl) rfl (Nat.le_of_ble_eq_true rfl) tw178 (Or.inl rfl) dX7_appendText_85 (fun v13 => ?_)
    refine J_getI (pc := 88) hc clX6 (k := 0) (Nat.le_of_ble_eq_true rfl) rfl tw115 (Or.inl rfl) dX7_appendText_88 (fun v14 => ?_)
    refine J_widen (k := 1) (n := 6) (Nat.le_of_ble_eq_true rfl) (Nat.le_of_ble_eq_true rfl) ?_
    exact J_iretX (pc := 91) he dX7_appendText_91
  · exact J_throw (pc := 18) (k := 1) (i := 24) hc hX cdX1 rfl tw693 tw30 dX7_appendText_18 dX7_appendText_21 dX7_appendText_22 dX7_appendText_24 dX7_appendText_27 (Nat.le_of_ble_eq_true rfl) (Nat.le_of_ble_eq_true rfl) (Nat.le_of_ble_eq_true rfl) (Nat.le_of_ble_eq_true rfl) (Nat.le_of_ble_eq_true rfl)
theorem moX7_appendText : MOk yX7_appendText 1 := ⟨by decide +kernel, by decide +kernel, by decide +kernel⟩
set_option maxRecDepth 100000 in
set_option maxHeartbeats 4000000 in
theorem KX7_appendText (x0 : Nat) (x1 : Int32) : CtX wI yX7_appendText cX7_appendText 2 (some .int) 6 1 6 100 [((7, .ref x0) : TV), ((0, .int x1) : TV)] (fX7_appendText x0 x1) :=
  CtX_I (j := 0) (by decide +kernel) rfl rfl (Nat.le_of_ble_eq_true rfl) (fun κ fin hc he hX => jX7_appendText hc he hX x0 x1)
set_option maxRecDepth 100000 in
set_option maxHeartbeats 4000000 in
theorem jX7_truncateText_L18 {κ : Cx} {fin : (Nat ⊕ Int32) → Mm → Prop} (hc : Jc κ RX7 cX7_truncateText 2 6 1 6 100) (he : Ed κ cX7_truncateText 1 6 (fun (b : Int32) => wI b) .ireturn (fun b M => fin (.inr b) M)) (hX : EdX κ 1 6 fin) : Jg κ (wM κ) 2 fin 0 0 18 [none, none] [] (fX7_truncateText_L18) := by
  unfold fX7_truncateText_L18
  exact J_throw (pc := 18) (k := 0) (i := 23) hc hX cdX0 rfl tw649 tw29 dX7_truncateText_18 dX7_truncateText_21 dX7_truncateText_22 dX7_truncateText_24 dX7_truncateText_27 (Nat.le_of_ble_eq_true rfl) (Nat.le_of_ble_eq_true rfl) (Nat.le_of_ble_eq_true rfl) (Nat.le_of_ble_eq_true rfl) (Nat.le_of_ble_eq_true rfl)
set_option maxRecDepth 100000 in
set_option maxHeartbeats 4000000 in
theorem jX7_truncateText {κ : Cx} {fin : (Nat ⊕ Int32) → Mm → Prop} (hc : Jc κ RX7 cX7_truncateText 2 6 1 6 100) (he : Ed κ cX7_truncateText 1 6 (fun (b : Int32) => wI b) .ireturn (fun b M => fin (.inr b) M)) (hX : EdX κ 1 6 fin) (x0 : Nat) (x1 : Int32) : Jg κ (wM κ) 2 fin 0 0 0 [some ((7, .ref x0) : TV), some ((0, .int x1) : TV)] [] (fX7_truncateText x0 x1) := by
  unfold fX7_truncateText
  refine J_iload_n (pc := 0) hc dX7_truncateText_0 rfl rfl ?_
  refine J_if_lt (pc := 1) (tgt := 18) hc dX7_truncateText_1 (by decide) ?_ ?_
  · refine J_sub (l' := [none, none]) (show subL _ _ from trivial) ?_
    exact jX7_truncateText_L18 hc he hX 
  · refine J_iload_n (pc := 4) hc dX7_truncateText_4 rfl rfl ?_
    refine J_aload_n (pc := 5) hc dX7_truncateText_5 rfl rfl ?_
    refine J_getA (pc := 6) hc clX7 (k := 3) (kd := 3) (Nat.le_of_ble_eq_true rfl) rfl (Nat.le_of_ble_eq_true rfl) tw298 (Or.inl rfl) dX7_truncateText_6 (fun v1 => ?_)
    refine J_getA (pc := 9) hc clX3 (k := 2) (kd := 6) (Nat.le_of_ble_eq_true rfl) rfl (Nat.le_of_ble_eq_true rfl) tw178 (Or.inl rfl) dX7_truncateText_9 (fun v2 => ?_)
    refine J_getI (pc := 12) hc clX6 (k := 0) (Nat.le_of_ble_eq_true rfl) rfl tw115 (Or.inl rfl) dX7_truncateText_12 (fun v3 => ?_)
    refine J_icmp_le (pc := 15) (tgt := 28) hc dX7_truncateText_15 (by decide) ?_ ?_
    · refine J_aload_n (pc := 28) hc dX7_truncateText_28 rfl rfl ?_
      refine J_getA (pc := 29) hc clX7 (k := 3) (kd := 3) (Nat.le_of_ble_eq_true rfl) rfl (Nat.le_of_ble_eq_true rfl) tw298 (Or.inl rfl) dX7_truncateText_29 (fun v4 => ?_)
      refine J_getA (pc := 32) hc clX3 (k := 2) (kd := 6) (Nat.le_of_ble_eq_true rfl) rfl (Nat.le_of_ble_eq_true rfl) tw178 (Or.inl rfl) dX7_truncateText_32 (fun v5 => ?_)
      refine J_iload_n (pc := 35) hc dX7_truncateText_35 rfl rfl ?_
      refine J_putI (pc := 36) hc clX6 (k := 0) (Nat.le_of_ble_eq_true rfl) rfl rfl tw115 (Or.inl rfl) rfl dX7_truncateText_36 ?_
      refine J_iload_n (pc := 39) hc dX7_truncateText_39 rfl rfl ?_
      refine J_widen (k := 1) (n := 6) (Nat.le_of_ble_eq_true rfl) (Nat.le_of_ble_eq_true rfl) ?_
      exact J_iretX (pc := 40) he dX7_truncateText_40
    · refine J_sub (l' := [none, none]) (show subL _ _ from trivial) ?_
      exact jX7_truncateText_L18 hc he hX 
theorem moX7_truncateText : MOk yX7_truncateText 1 := ⟨by decide +kernel, by decide +kernel, by decide +kernel⟩
set_option maxRecDepth 100000 in
set_option maxHeartbeats 4000000 in
theorem KX7_truncateText (x0 : Nat) (x1 : Int32) : CtX wI yX7_truncateText cX7_truncateText 2 (some .int) 6 1 6 100 [((7, .ref x0) : TV), ((0, .int x1) : TV)] (fX7_truncateText x0 x1) :=
  CtX_I (j := 0) (by decide +kernel) rfl rfl (Nat.le_of_ble_eq_true rfl) (fun κ fin hc he hX => jX7_truncateText hc he hX x0 x1)
set_option maxRecDepth 100000 in
set_option maxHeartbeats 4000000 in
theorem jX7_load {κ : Cx} {fin : Int32 → Mm → Prop} (hc : Jc κ RX7 cX7_load 2 8 0 0 173) (he : Ed κ cX7_load 0 0 wI .ireturn fin) (x0 : Nat) : Jg κ (wM κ) 2 fin 0 0 0 [some ((7, .ref x0) : TV), none] [] (fX7_load x0) := by
  unfold fX7_load
  refine J_aload_n (pc := 0) hc dX7_load_0 rfl rfl ?_
  refine J_getA (pc := 1) hc clX7 (k := 3) (kd := 3) (Nat.le_of_ble_eq_true rfl) rfl (Nat.le_of_ble_eq_true rfl) tw298 (Or.inl rfl) dX7_load_1 (fun v1 => ?_)
  refine J_callVi (pc := 4) hc clX3 (As := []) (KX3_readText v1) dX7_load_4 moX3_readText rfl tw324 tw325 tw326 tw5 tw327 rfl (Nat.le_of_ble_eq_true rfl) (Nat.le_of_ble_eq_true rfl) (Nat.le_of_ble_eq_true rfl) (Nat.le_of_ble_eq_true rfl) (Nat.le_of_ble_eq_true rfl) rfl (fun v2 => ?_)
  refine J_istore_n (pc := 7) (l' := [some ((7, .ref x0) : TV), some ((0, .int v2) : TV)]) hc dX7_load_7 rfl (by decide) rfl rfl ?_
  refine J_aload_n (pc := 8) hc dX7_load_8 rfl rfl ?_
  refine J_getA (pc := 9) hc clX7 (k := 3) (kd := 3) (Nat.le_of_ble_eq_true rfl) rfl (Nat.le_of_ble_eq_true rfl) tw298 (Or.inl rfl) dX7_load_9 (fun v3 => ?_)
  refine J_getA (pc := 12) hc clX3 (k := 2) (kd := 6) (Nat.le_of_ble_eq_true rfl) rfl (Nat.le_of_ble_eq_true rfl) tw178 (Or.inl rfl) dX7_load_12 (fun v4 => ?_)
  refine J_iconst (pc := 15) (v := 0) hc dX7_load_15 (by decide) ?_
  refine J_putI (pc := 16) hc clX6 (k := 0) (Nat.le_of_ble_eq_true rfl) rfl rfl tw115 (Or.inl rfl) rfl dX7_load_16 ?_
  refine J_iload_n (pc := 19) hc dX7_load_19 rfl rfl ?_
  refine J_if_ne (pc := 20) (tgt := 25) hc dX7_load_20 (by decide) ?_ ?_
  · refine J_aload_n (pc := 25) hc dX7_load_25 rfl rfl ?_
    refine J_getA (pc := 26) hc clX7 (k := 0) (kd := 2) (Nat.le_of_ble_eq_true rfl) rfl (Nat.le_of_ble_eq_true rfl) tw295 (Or.inl rfl) dX7_load_26 (fun v5 => ?_)
    refine J_aload_n (pc := 29) hc dX7_load_29 rfl rfl ?_
    refine J_getA (pc := 30) hc clX7 (k := 3) (kd := 3) (Nat.le_of_ble_eq_true rfl) rfl (Nat.le_of_ble_eq_true rfl) tw298 (Or.inl rfl) dX7_load_30 (fun v6 => ?_)
    refine J_getA (pc := 33) hc clX3 (k := 3) (kd := 2) (Nat.le_of_ble_eq_true rfl) rfl (Nat.le_of_ble_eq_true rfl) tw180 (Or.inl rfl) dX7_load_33 (fun v7 => ?_)
    refine J_callVv (pc := 36) hc clX2 (As := [((2, .ref v7) : TV)]) (KX2_copyFrom v5 v7) dX7_load_36 moX2_copyFrom rfl tw557 tw558 tw559 tw3 tw560 rfl (Nat.le_of_ble_eq_true rfl) (Nat.le_of_ble_eq_true rfl) (Nat.le_of_ble_eq_true rfl) (Nat.le_of_ble_eq_true rfl) (Nat.le_of_ble_eq_true rfl) rfl (fun _ => ?_)
    refine J_aload_n (pc := 39) hc dX7_load_39 rfl rfl ?_
    refine J_getA (pc := 40) hc clX7 (k := 1) (kd := 1) (Nat.le_of_ble_eq_true rfl) rfl (Nat.le_of_ble_eq_true rfl) tw296 (Or.inl rfl) dX7_load_40 (fun v8 => ?_)
    refine J_callVv (pc := 43) hc clX1 (As := []) (KX1_forget v8) dX7_load_43 moX1_forget rfl tw561 tw562 tw563 tw4 tw564 rfl (Nat.le_of_ble_eq_true rfl) (Nat.le_of_ble_eq_true rfl) (Nat.le_of_ble_eq_true rfl) (Nat.le_of_ble_eq_true rfl) (Nat.le_of_ble_eq_true rfl) rfl (fun _ => ?_)
    refine J_aload_n (pc := 46) hc dX7_load_46 rfl rfl ?_
    refine J_getA (pc := 47) hc clX7 (k := 0) (kd := 2) (Nat.le_of_ble_eq_true rfl) rfl (Nat.le_of_ble_eq_true rfl) tw295 (Or.inl rfl) dX7_load_47 (fun v9 => ?_)
    refine J_getI (pc := 50) hc clX2 (k := 1) (Nat.le_of_ble_eq_true rfl) rfl tw59 (Or.inl rfl) dX7_load_50 (fun v10 => ?_)
    exact J_iret (pc := 53) he dX7_load_53
  · refine J_iconst (pc := 23) (v := (-1)) hc dX7_load_23 (by decide) ?_
    exact J_iret (pc := 24) he dX7_load_24
theorem moX7_load : MOk yX7_load 0 := ⟨by decide +kernel, by decide +kernel, by decide +kernel⟩
set_option maxRecDepth 100000 in
set_option maxHeartbeats 4000000 in
theorem KX7_load (x0 : Nat) : Ct wI yX7_load cX7_load 2 (some .int) 8 0 0 173 [((7, .ref x0) : TV)] (fX7_load x0) :=
  Ct_I (j := 1) (by decide +kernel) rfl rfl (Nat.le_of_ble_eq_true rfl) (fun κ fin hc he => jX7_load hc he x0)
set_option maxRecDepth 100000 in
set_option maxHeartbeats 4000000 in
theorem jX7_errorCode {κ : Cx} {fin : Int32 → Mm → Prop} (hc : Jc κ RX7 cX7_errorCode 1 0 0 0 0) (he : Ed κ cX7_errorCode 0 0 wI .ireturn fin) (x0 : Nat) : Jg κ (wM κ) 1 fin 0 0 0 [some ((7, .ref x0) : TV)] [] (fX7_errorCode x0) := by
  unfold fX7_errorCode
  refine J_aload_n (pc := 0) hc dX7_errorCode_0 rfl rfl ?_
  refine J_getA (pc := 1) hc clX7 (k := 3) (kd := 3) (Nat.le_of_ble_eq_true rfl) rfl (Nat.le_of_ble_eq_true rfl) tw298 (Or.inl rfl) dX7_errorCode_1 (fun v1 => ?_)
  refine J_getI (pc := 4) hc clX3 (k := 0) (Nat.le_of_ble_eq_true rfl) rfl tw175 (Or.inl rfl) dX7_errorCode_4 (fun v2 => ?_)
  exact J_iret (pc := 7) he dX7_errorCode_7
theorem moX7_errorCode : MOk yX7_errorCode 0 := ⟨by decide +kernel, by decide +kernel, by decide +kernel⟩
set_option maxRecDepth 100000 in
set_option maxHeartbeats 4000000 in
theorem KX7_errorCode (x0 : Nat) : Ct wI yX7_errorCode cX7_errorCode 1 (some .int) 0 0 0 0 [((7, .ref x0) : TV)] (fX7_errorCode x0) :=
  Ct_I (j := 0) (by decide +kernel) rfl rfl (Nat.le_of_ble_eq_true rfl) (fun κ fin hc he => jX7_errorCode hc he x0)
set_option maxRecDepth 100000 in
set_option maxHeartbeats 4000000 in
theorem jX7_blackDots_L4 {κ : Cx} {fin : Int32 → Mm → Prop} (hc : Jc κ RX7 cX7_blackDots 3 2 0 0 42) (he : Ed κ cX7_blackDots 0 0 wI .ireturn fin) : ∀ (n : Nat) (x0 : Nat) (x1 : Int32) (x2 : Int32), Jg κ (wM κ) 3 fin 0 0 4 [some ((7, .ref x0) : TV), some ((0, .int x1) : TV), some ((0, .int x2) : TV)] [] (fX7_blackDots_L4 n x0 x1 x2) := by
  intro n
  induction n with
  | zero => intro x0 x1 x2; exact J_fail
  | succ n ih =>
    intro x0 x1 x2
    unfold fX7_blackDots_L4
    refine J_iload_n (pc := 4) hc dX7_blackDots_4 rfl rfl ?_
    refine J_aload_n (pc := 5) hc dX7_blackDots_5 rfl rfl ?_
    refine J_getA (pc := 6) hc clX7 (k := 0) (kd := 2) (Nat.le_of_ble_eq_true rfl) rfl (Nat.le_of_ble_eq_true rfl) tw295 (Or.inl rfl) dX7_blackDots_6 (fun v1 => ?_)
    refine J_getI (pc := 9) hc clX2 (k := 1) (Nat.le_of_ble_eq_true rfl) rfl tw59 (Or.inl rfl) dX7_blackDots_9 (fun v2 => ?_)
    refine J_icmp_ge (pc := 12) (tgt := 35) hc dX7_blackDots_12 (by decide) ?_ ?_
    · refine J_iload_n (pc := 35) hc dX7_blackDots_35 rfl rfl ?_
      exact J_iret (pc := 36) he dX7_blackDots_36
    · refine J_iload_n (pc := 15) hc dX7_blackDots_15 rfl rfl ?_
      refine J_aload_n (pc := 16) hc dX7_blackDots_16 rfl rfl ?_
      refine J_getA (pc := 17) hc clX7 (k := 0) (kd := 2) (Nat.le_of_ble_eq_true rfl) rfl (Nat.le_of_ble_eq_true rfl) tw295 (Or.inl rfl) dX7_blackDots_17 (fun v3 => ?_)
      refine J_iload_n (pc := 20) hc dX7_blackDots_20 rfl rfl ?_
      refine J_callVj (pc := 21) hc clX2 (As := [((0, .int x2) : TV)]) (KX2_rowAt v3 x2) dX7_blackDots_21 moX2_rowAt rfl tw676 tw491 tw492 tw3 tw493 rfl (Nat.le_of_ble_eq_true rfl) (Nat.le_of_ble_eq_true rfl) (Nat.le_of_ble_eq_true rfl) (Nat.le_of_ble_eq_true rfl) (Nat.le_of_ble_eq_true rfl) rfl (fun v4 => ?_)
      refine J_callSi (pc := 24) hc (As := [((0, .long v4) : TV)]) (KJ13_bitCount_95d88 v4) dX7_blackDots_24 moJ13_bitCount_95d88 tw511 tw512 tw31 tw513 rfl (Nat.le_of_ble_eq_true rfl) (Nat.le_of_ble_eq_true rfl) (Nat.le_of_ble_eq_true rfl) (Nat.le_of_ble_eq_true rfl) (Nat.le_of_ble_eq_true rfl) rfl (fun v5 => ?_)
      refine J_iadd (pc := 27) hc dX7_blackDots_27 ?_
      refine J_nmi (fun v6 => ?_)
      refine J_istore_n (pc := 28) (l' := [some ((7, .ref x0) : TV), some ((0, .int v6) : TV), some ((0, .int x2) : TV)]) hc dX7_blackDots_28 rfl (by decide) rfl rfl ?_
      refine J_iinc (pc := 29) (v := x2 + 1) (l' := [some ((7, .ref x0) : TV), some ((0, .int v6) : TV), some ((0, .int (x2 + 1)) : TV)]) hc dX7_blackDots_29 rfl rfl (by decide) rfl rfl ?_
      refine J_goto (pc := 32) (tgt := 4) hc dX7_blackDots_32 (by decide) ?_
      refine J_sub (l' := [some ((7, .ref x0) : TV), some ((0, .int v6) : TV), some ((0, .int (x2 + 1)) : TV)]) ⟨rfl, ⟨rfl, ⟨rfl, trivial⟩⟩⟩ ?_
      exact ih x0 v6 (x2 + 1)
set_option maxRecDepth 100000 in
set_option maxHeartbeats 4000000 in
theorem jX7_blackDots {κ : Cx} {fin : Int32 → Mm → Prop} (hc : Jc κ RX7 cX7_blackDots 3 2 0 0 42) (he : Ed κ cX7_blackDots 0 0 wI .ireturn fin) (x0 : Nat) : Jg κ (wM κ) 3 fin 0 0 0 [some ((7, .ref x0) : TV), none, none] [] (fX7_blackDots x0) := by
  unfold fX7_blackDots
  refine J_iconst (pc := 0) (v := 0) hc dX7_blackDots_0 (by decide) ?_
  refine J_istore_n (pc := 1) (l' := [some ((7, .ref x0) : TV), some ((0, .int 0) : TV), none]) hc dX7_blackDots_1 rfl (by decide) rfl rfl ?_
  refine J_iconst (pc := 2) (v := 0) hc dX7_blackDots_2 (by decide) ?_
  refine J_istore_n (pc := 3) (l' := [some ((7, .ref x0) : TV), some ((0, .int 0) : TV), some ((0, .int 0) : TV)]) hc dX7_blackDots_3 rfl (by decide) rfl rfl ?_
  refine J_sub (l' := [some ((7, .ref x0) : TV), some ((0, .int 0) : TV), some ((0, .int 0) : TV)]) ⟨rfl, ⟨rfl, ⟨rfl, trivial⟩⟩⟩ ?_
  exact jX7_blackDots_L4 hc he fu x0 0 0
theorem moX7_blackDots : MOk yX7_blackDots 0 := ⟨by decide +kernel, by decide +kernel, by decide +kernel⟩
set_option maxRecDepth 100000 in
set_option maxHeartbeats 4000000 in
theorem KX7_blackDots (x0 : Nat) : Ct wI yX7_blackDots cX7_blackDots 3 (some .int) 2 0 0 42 [((7, .ref x0) : TV)] (fX7_blackDots x0) :=
  Ct_I (j := 2) (by decide +kernel) rfl rfl (Nat.le_of_ble_eq_true rfl) (fun κ fin hc he => jX7_blackDots hc he x0)
set_option maxRecDepth 100000 in
set_option maxHeartbeats 4000000 in
theorem jX7_allChanges_L4 {κ : Cx} {fin : Int32 → Mm → Prop} (hc : Jc κ RX7 cX7_allChanges 3 2 0 0 42) (he : Ed κ cX7_allChanges 0 0 wI .ireturn fin) : ∀ (n : Nat) (x0 : Nat) (x1 : Int32) (x2 : Int32), Jg κ (wM κ) 3 fin 0 0 4 [some ((7, .ref x0) : TV), some ((0, .int x1) : TV), some ((0, .int x2) : TV)] [] (fX7_allChanges_L4 n x0 x1 x2) := by
  intro n
  induction n with
  | zero => intro x0 x1 x2; exact J_fail
  | succ n ih =>
    intro x0 x1 x2
    unfold fX7_allChanges_L4
    refine J_iload_n (pc := 4) hc dX7_allChanges_4 rfl rfl ?_
    refine J_aload_n (pc := 5) hc dX7_allChanges_5 rfl rfl ?_
    refine J_getA (pc := 6) hc clX7 (k := 0) (kd := 2) (Nat.le_of_ble_eq_true rfl) rfl (Nat.le_of_ble_eq_true rfl) tw295 (Or.inl rfl) dX7_allChanges_6 (fun v1 => ?_)
    refine J_getI (pc := 9) hc clX2 (k := 1) (Nat.le_of_ble_eq_true rfl) rfl tw59 (Or.inl rfl) dX7_allChanges_9 (fun v2 => ?_)
    refine J_icmp_ge (pc := 12) (tgt := 45) hc dX7_allChanges_12 (by decide) ?_ ?_
    · refine J_iload_n (pc := 45) hc dX7_allChanges_45 rfl rfl ?_
      exact J_iret (pc := 46) he dX7_allChanges_46
    · refine J_iload_n (pc := 15) hc dX7_allChanges_15 rfl rfl ?_
      refine J_aload_n (pc := 16) hc dX7_allChanges_16 rfl rfl ?_
      refine J_getA (pc := 17) hc clX7 (k := 0) (kd := 2) (Nat.le_of_ble_eq_true rfl) rfl (Nat.le_of_ble_eq_true rfl) tw295 (Or.inl rfl) dX7_allChanges_17 (fun v3 => ?_)
      refine J_iload_n (pc := 20) hc dX7_allChanges_20 rfl rfl ?_
      refine J_callVj (pc := 21) hc clX2 (As := [((0, .int x2) : TV)]) (KX2_rowAt v3 x2) dX7_allChanges_21 moX2_rowAt rfl tw676 tw491 tw492 tw3 tw493 rfl (Nat.le_of_ble_eq_true rfl) (Nat.le_of_ble_eq_true rfl) (Nat.le_of_ble_eq_true rfl) (Nat.le_of_ble_eq_true rfl) (Nat.le_of_ble_eq_true rfl) rfl (fun v4 => ?_)
      refine J_aload_n (pc := 24) hc dX7_allChanges_24 rfl rfl ?_
      refine J_getA (pc := 25) hc clX7 (k := 0) (kd := 2) (Nat.le_of_ble_eq_true rfl) rfl (Nat.le_of_ble_eq_true rfl) tw295 (Or.inl rfl) dX7_allChanges_25 (fun v5 => ?_)
      refine J_getI (pc := 28) hc clX2 (k := 0) (Nat.le_of_ble_eq_true rfl) rfl tw56 (Or.inl rfl) dX7_allChanges_28 (fun v6 => ?_)
      refine J_callSj (pc := 31) hc (As := [((0, .long v4) : TV), ((0, .int v6) : TV)]) (KX7_changesOf v4 v6) dX7_allChanges_31 moX7_changesOf tw992 tw499 tw2 tw500 rfl (Nat.le_of_ble_eq_true rfl) (Nat.le_of_ble_eq_true rfl) (Nat.le_of_ble_eq_true rfl) (Nat.le_of_ble_eq_true rfl) (Nat.le_of_ble_eq_true rfl) rfl (fun v7 => ?_)
      refine J_callSi (pc := 34) hc (As := [((0, .long v7) : TV)]) (KJ13_bitCount_95d88 v7) dX7_allChanges_34 moJ13_bitCount_95d88 tw511 tw512 tw31 tw513 rfl (Nat.le_of_ble_eq_true rfl) (Nat.le_of_ble_eq_true rfl) (Nat.le_of_ble_eq_true rfl) (Nat.le_of_ble_eq_true rfl) (Nat.le_of_ble_eq_true rfl) rfl (fun v8 => ?_)
      refine J_iadd (pc := 37) hc dX7_allChanges_37 ?_
      refine J_nmi (fun v9 => ?_)
      refine J_istore_n (pc := 38) (l' := [some ((7, .ref x0) : TV), some ((0, .int v9) : TV), some ((0, .int x2) : TV)]) hc dX7_allChanges_38 rfl (by decide) rfl rfl ?_
      refine J_iinc (pc := 39) (v := x2 + 1) (l' := [some ((7, .ref x0) : TV), some ((0, .int v9) : TV), some ((0, .int (x2 + 1)) : TV)]) hc dX7_allChanges_39 rfl rfl (by decide) rfl rfl ?_
      refine J_goto (pc := 42) (tgt := 4) hc dX7_allChanges_42 (by decide) ?_
      refine J_sub (l' := [some ((7, .ref x0) : TV), some ((0, .int v9) : TV), some ((0, .int (x2 + 1)) : TV)]) ⟨rfl, ⟨rfl, ⟨rfl, trivial⟩⟩⟩ ?_
      exact ih x0 v9 (x2 + 1)
set_option maxRecDepth 100000 in
set_option maxHeartbeats 4000000 in
theorem jX7_allChanges {κ : Cx} {fin : Int32 → Mm → Prop} (hc : Jc κ RX7 cX7_allChanges 3 2 0 0 42) (he : Ed κ cX7_allChanges 0 0 wI .ireturn fin) (x0 : Nat) : Jg κ (wM κ) 3 fin 0 0 0 [some ((7, .ref x0) : TV), none, none] [] (fX7_allChanges x0) := by
  unfold fX7_allChanges
  refine J_iconst (pc := 0) (v := 0) hc dX7_allChanges_0 (by decide) ?_
  refine J_istore_n (pc := 1) (l' := [some ((7, .ref x0) : TV), some ((0, .int 0) : TV), none]) hc dX7_allChanges_1 rfl (by decide) rfl rfl ?_
  refine J_iconst (pc := 2) (v := 0) hc dX7_allChanges_2 (by decide) ?_
  refine J_istore_n (pc := 3) (l' := [some ((7, .ref x0) : TV), some ((0, .int 0) : TV), some ((0, .int 0) : TV)]) hc dX7_allChanges_3 rfl (by decide) rfl rfl ?_
  refine J_sub (l' := [some ((7, .ref x0) : TV), some ((0, .int 0) : TV), some ((0, .int 0) : TV)]) ⟨rfl, ⟨rfl, ⟨rfl, trivial⟩⟩⟩ ?_
  exact jX7_allChanges_L4 hc he fu x0 0 0
theorem moX7_allChanges : MOk yX7_allChanges 0 := ⟨by decide +kernel, by decide +kernel, by decide +kernel⟩
set_option maxRecDepth 100000 in
set_option maxHeartbeats 4000000 in
theorem KX7_allChanges (x0 : Nat) : Ct wI yX7_allChanges cX7_allChanges 3 (some .int) 2 0 0 42 [((7, .ref x0) : TV)] (fX7_allChanges x0) :=
  Ct_I (j := 2) (by decide +kernel) rfl rfl (Nat.le_of_ble_eq_true rfl) (fun κ fin hc he => jX7_allChanges hc he x0)
set_option maxRecDepth 100000 in
set_option maxHeartbeats 4000000 in
theorem jX7_codeLine {κ : Cx} {fin : Unit → Mm → Prop} (hc : Jc κ RX7 cX7_codeLine 2 4 0 0 103) (he : Ed κ cX7_codeLine 0 0 wV .return_ fin) (x0 : Nat) (x1 : Int32) : Jg κ (wM κ) 2 fin 0 0 0 [some ((7, .ref x0) : TV), some ((0, .int x1) : TV)] [] (fX7_codeLine x0 x1) := by
  unfold fX7_codeLine
  refine J_aload_n (pc := 0) hc dX7_codeLine_0 rfl rfl ?_
  refine J_getA (pc := 1) hc clX7 (k := 4) (kd := 0) (Nat.le_of_ble_eq_true rfl) rfl (Nat.le_of_ble_eq_true rfl) tw299 (Or.inl rfl) dX7_codeLine_1 (fun v1 => ?_)
  refine J_aload_n (pc := 4) hc dX7_codeLine_4 rfl rfl ?_
  refine J_getA (pc := 5) hc clX7 (k := 0) (kd := 2) (Nat.le_of_ble_eq_true rfl) rfl (Nat.le_of_ble_eq_true rfl) tw295 (Or.inl rfl) dX7_codeLine_5 (fun v2 => ?_)
  refine J_iload_n (pc := 8) hc dX7_codeLine_8 rfl rfl ?_
  refine J_callVj (pc := 9) hc clX2 (As := [((0, .int x1) : TV)]) (KX2_rowAt v2 x1) dX7_codeLine_9 moX2_rowAt rfl tw676 tw491 tw492 tw3 tw493 rfl (Nat.le_of_ble_eq_true rfl) (Nat.le_of_ble_eq_true rfl) (Nat.le_of_ble_eq_true rfl) (Nat.le_of_ble_eq_true rfl) (Nat.le_of_ble_eq_true rfl) rfl (fun v3 => ?_)
  refine J_aload_n (pc := 12) hc dX7_codeLine_12 rfl rfl ?_
  refine J_getA (pc := 13) hc clX7 (k := 0) (kd := 2) (Nat.le_of_ble_eq_true rfl) rfl (Nat.le_of_ble_eq_true rfl) tw295 (Or.inl rfl) dX7_codeLine_13 (fun v4 => ?_)
  refine J_iload_n (pc := 16) hc dX7_codeLine_16 rfl rfl ?_
  refine J_iconst (pc := 17) (v := 1) hc dX7_codeLine_17 (by decide) ?_
  refine J_isub (pc := 18) hc dX7_codeLine_18 ?_
  refine J_callVj (pc := 19) hc clX2 (As := [((0, .int (x1 - 1)) : TV)]) (KX2_rowAt v4 (x1 - 1)) dX7_codeLine_19 moX2_rowAt rfl tw676 tw491 tw492 tw3 tw493 rfl (Nat.le_of_ble_eq_true rfl) (Nat.le_of_ble_eq_true rfl) (Nat.le_of_ble_eq_true rfl) (Nat.le_of_ble_eq_true rfl) (Nat.le_of_ble_eq_true rfl) rfl (fun v5 => ?_)
  refine J_aload_n (pc := 22) hc dX7_codeLine_22 rfl rfl ?_
  refine J_getA (pc := 23) hc clX7 (k := 0) (kd := 2) (Nat.le_of_ble_eq_true rfl) rfl (Nat.le_of_ble_eq_true rfl) tw295 (Or.inl rfl) dX7_codeLine_23 (fun v6 => ?_)
  refine J_getI (pc := 26) hc clX2 (k := 0) (Nat.le_of_ble_eq_true rfl) rfl tw56 (Or.inl rfl) dX7_codeLine_26 (fun v7 => ?_)
  refine J_callVv (pc := 29) hc clX0 (As := [((0, .long v3) : TV), ((0, .long v5) : TV), ((0, .int v7) : TV)]) (KX0_makeFor v1 v3 v5 v7) dX7_codeLine_29 moX0_makeFor rfl tw1008 tw1009 tw1010 tw8 tw1011 rfl (Nat.le_of_ble_eq_true rfl) (Nat.le_of_ble_eq_true rfl) (Nat.le_of_ble_eq_true rfl) (Nat.le_of_ble_eq_true rfl) (Nat.le_of_ble_eq_true rfl) rfl (fun _ => ?_)
  exact J_vret (pc := 32) he dX7_codeLine_32
theorem moX7_codeLine : MOk yX7_codeLine 1 := ⟨by decide +kernel, by decide +kernel, by decide +kernel⟩
set_option maxRecDepth 100000 in
set_option maxHeartbeats 4000000 in
theorem KX7_codeLine (x0 : Nat) (x1 : Int32) : Ct wV yX7_codeLine cX7_codeLine 2 none 4 0 0 103 [((7, .ref x0) : TV), ((0, .int x1) : TV)] (fX7_codeLine x0 x1) :=
  Ct_V (j := 0) (by decide +kernel) rfl rfl (Nat.le_of_ble_eq_true rfl) (fun κ fin hc he hin => jX7_codeLine hc he x0 x1)
set_option maxRecDepth 100000 in
set_option maxHeartbeats 4000000 in
theorem jX7_isMark {κ : Cx} {fin : Int32 → Mm → Prop} (hc : Jc κ RX7 cX7_isMark 2 5 0 0 124) (he : EdZ κ cX7_isMark 0 0 id fin) (x0 : Nat) (x1 : Int32) : Jg κ (wM κ) 2 fin 0 0 0 [some ((7, .ref x0) : TV), some ((0, .int x1) : TV)] [] (fX7_isMark x0 x1) := by
  unfold fX7_isMark
  refine J_iload_n (pc := 0) hc dX7_isMark_0 rfl rfl ?_
  refine J_aload_n (pc := 1) hc dX7_isMark_1 rfl rfl ?_
  refine J_getA (pc := 2) hc clX7 (k := 0) (kd := 2) (Nat.le_of_ble_eq_true rfl) rfl (Nat.le_of_ble_eq_true rfl) tw295 (Or.inl rfl) dX7_isMark_2 (fun v1 => ?_)
  refine J_getA (pc := 5) hc clX2 (k := 4) (kd := 11) (Nat.le_of_ble_eq_true rfl) rfl (Nat.le_of_ble_eq_true rfl) tw68 (Or.inl rfl) dX7_isMark_5 (fun v2 => ?_)
  refine J_iconst (pc := 8) (v := 0) hc dX7_isMark_8 (by decide) ?_
  refine J_iald (pc := 9) hc dX7_isMark_9 (fun v3 => ?_)
  refine J_callSi (pc := 10) hc (As := [((0, .int x1) : TV), ((0, .int v3) : TV)]) (KX7_isEvery x1 v3) dX7_isMark_10 moX7_isEvery tw1001 tw1002 tw2 tw1003 rfl (Nat.le_of_ble_eq_true rfl) (Nat.le_of_ble_eq_true rfl) (Nat.le_of_ble_eq_true rfl) (Nat.le_of_ble_eq_true rfl) (Nat.le_of_ble_eq_true rfl) rfl (fun v4 => ?_)
  refine J_if_eq (pc := 13) (tgt := 18) hc dX7_isMark_13 (by decide) ?_ ?_
  · refine J_aload_n (pc := 18) hc dX7_isMark_18 rfl rfl ?_
    refine J_getA (pc := 19) hc clX7 (k := 0) (kd := 2) (Nat.le_of_ble_eq_true rfl) rfl (Nat.le_of_ble_eq_true rfl) tw295 (Or.inl rfl) dX7_isMark_19 (fun v5 => ?_)
    refine J_getA (pc := 22) hc clX2 (k := 4) (kd := 11) (Nat.le_of_ble_eq_true rfl) rfl (Nat.le_of_ble_eq_true rfl) tw68 (Or.inl rfl) dX7_isMark_22 (fun v6 => ?_)
    refine J_iconst (pc := 25) (v := 1) hc dX7_isMark_25 (by decide) ?_
    refine J_iald (pc := 26) hc dX7_isMark_26 (fun v7 => ?_)
    refine J_if_ne (pc := 27) (tgt := 32) hc dX7_isMark_27 (by decide) ?_ ?_
    · refine J_aload_n (pc := 32) hc dX7_isMark_32 rfl rfl ?_
      refine J_iload_n (pc := 33) hc dX7_isMark_33 rfl rfl ?_
      refine J_callVv (pc := 34) hc clX7 (As := [((0, .int x1) : TV)]) (KX7_codeLine x0 x1) dX7_isMark_34 moX7_codeLine rfl tw1004 tw1006 twp28 tw2 tw1007 rfl (Nat.le_of_ble_eq_true rfl) (Nat.le_of_ble_eq_true rfl) (Nat.le_of_ble_eq_true rfl) (Nat.le_of_ble_eq_true rfl) (Nat.le_of_ble_eq_true rfl) rfl (fun _ => ?_)
      refine J_aload_n (pc := 37) hc dX7_isMark_37 rfl rfl ?_
      refine J_getA (pc := 38) hc clX7 (k := 0) (kd := 2) (Nat.le_of_ble_eq_true rfl) rfl (Nat.le_of_ble_eq_true rfl) tw295 (Or.inl rfl) dX7_isMark_38 (fun v8 => ?_)
      refine J_iload_n (pc := 41) hc dX7_isMark_41 rfl rfl ?_
      refine J_callVj (pc := 42) hc clX2 (As := [((0, .int x1) : TV)]) (KX2_rowAt v8 x1) dX7_isMark_42 moX2_rowAt rfl tw676 tw491 tw492 tw3 tw493 rfl (Nat.le_of_ble_eq_true rfl) (Nat.le_of_ble_eq_true rfl) (Nat.le_of_ble_eq_true rfl) (Nat.le_of_ble_eq_true rfl) (Nat.le_of_ble_eq_true rfl) rfl (fun v9 => ?_)
      refine J_aload_n (pc := 45) hc dX7_isMark_45 rfl rfl ?_
      refine J_getA (pc := 46) hc clX7 (k := 0) (kd := 2) (Nat.le_of_ble_eq_true rfl) rfl (Nat.le_of_ble_eq_true rfl) tw295 (Or.inl rfl) dX7_isMark_46 (fun v10 => ?_)
      refine J_getI (pc := 49) hc clX2 (k := 0) (Nat.le_of_ble_eq_true rfl) rfl tw56 (Or.inl rfl) dX7_isMark_49 (fun v11 => ?_)
      refine J_callSi (pc := 52) hc (As := [((0, .long v9) : TV), ((0, .int v11) : TV)]) (KX7_aloneBits v9 v11) dX7_isMark_52 moX7_aloneBits tw1035 tw1036 tw2 tw1037 rfl (Nat.le_of_ble_eq_true rfl) (Nat.le_of_ble_eq_true rfl) (Nat.le_of_ble_eq_true rfl) (Nat.le_of_ble_eq_true rfl) (Nat.le_of_ble_eq_true rfl) rfl (fun v12 => ?_)
      refine J_aload_n (pc := 55) hc dX7_isMark_55 rfl rfl ?_
      refine J_getA (pc := 56) hc clX7 (k := 4) (kd := 0) (Nat.le_of_ble_eq_true rfl) rfl (Nat.le_of_ble_eq_true rfl) tw299 (Or.inl rfl) dX7_isMark_56 (fun v13 => ?_)
      refine J_getI (pc := 59) hc clX0 (k := 1) (Nat.le_of_ble_eq_true rfl) rfl tw205 (Or.inl rfl) dX7_isMark_59 (fun v14 => ?_)
      refine J_icmp_ge (pc := 62) (tgt := 69) hc dX7_isMark_62 (by decide) ?_ ?_
      · refine J_iconst (pc := 69) (v := 0) hc dX7_isMark_69 (by decide) ?_
        exact J_zret (pc := 70) he dX7_isMark_70
      · refine J_iconst (pc := 65) (v := 1) hc dX7_isMark_65 (by decide) ?_
        refine J_goto (pc := 66) (tgt := 70) hc dX7_isMark_66 (by decide) ?_
        exact J_zret (pc := 70) he dX7_isMark_70
    · refine J_iconst (pc := 30) (v := 0) hc dX7_isMark_30 (by decide) ?_
      exact J_zret (pc := 31) he dX7_isMark_31
  · refine J_iconst (pc := 16) (v := 1) hc dX7_isMark_16 (by decide) ?_
    exact J_zret (pc := 17) he dX7_isMark_17
theorem moX7_isMark : MOk yX7_isMark 1 := ⟨by decide +kernel, by decide +kernel, by decide +kernel⟩
set_option maxRecDepth 100000 in
set_option maxHeartbeats 4000000 in
theorem KX7_isMark (x0 : Nat) (x1 : Int32) : Ct wI yX7_isMark cX7_isMark 2 (some .boolean) 5 0 0 124 [((7, .ref x0) : TV), ((0, .int x1) : TV)] (fX7_isMark x0 x1) :=
  Ct_Z ⟨rfl, rfl⟩ (j := 0) (by decide +kernel) rfl rfl (Nat.le_of_ble_eq_true rfl) (fun κ fin hc he => jX7_isMark hc he x0 x1)
set_option maxRecDepth 100000 in
set_option maxHeartbeats 4000000 in
theorem jX7_marks_L26 {κ : Cx} {fin : Int32 → Mm → Prop} (hc : Jc κ RX7 cX7_marks 3 6 0 0 145) (he : Ed κ cX7_marks 0 0 wI .ireturn fin) {k4 : Nat → Int32 → Int32 → Mm → Option (Int32 × Mm)} (hk4 : ∀ (x0 : Nat) (x1 : Int32) (x2 : Int32), Jg κ (wM κ) 3 fin 0 0 4 [some ((7, .ref x0) : TV), some ((0, .int x1) : TV), some ((0, .int x2) : TV)] [] (k4 x0 x1 x2)) (x0 : Nat) (x1 : Int32) (x2 : Int32) : Jg κ (wM κ) 3 fin 0 0 26 [some ((7, .ref x0) : TV), some ((0, .int x1) : TV), some ((0, .int x2) : TV)] [] (fX7_marks_L26 k4 x0 x1 x2) := by
  unfold fX7_marks_L26
  refine J_iinc (pc := 26) (v := x2 + 1) (l' := [some ((7, .ref x0) : TV), some ((0, .int x1) : TV), some ((0, .int (x2 + 1)) : TV)]) hc dX7_marks_26 rfl rfl (by decide) rfl rfl ?_
  refine J_goto (pc := 29) (tgt := 4) hc dX7_marks_29 (by decide) ?_
  refine J_sub (l' := [some ((7, .ref x0) : TV), some ((0, .int x1) : TV), some ((0, .int (x2 + 1)) : TV)]) ⟨rfl, ⟨rfl, ⟨rfl, trivial⟩⟩⟩ ?_
  exact hk4 x0 x1 (x2 + 1)
set_option maxRecDepth 100000 in
set_option maxHeartbeats 4000000 in
theorem jX7_marks_L4 {κ : Cx} {fin : Int32 → Mm → Prop} (hc : Jc κ RX7 cX7_marks 3 6 0 0 145) (he : Ed κ cX7_marks 0 0 wI .ireturn fin) : ∀ (n : Nat) (x0 : Nat) (x1 : Int32) (x2 : Int32), Jg κ (wM κ) 3 fin 0 0 4 [some ((7, .ref x0) : TV), some ((0, .int x1) : TV), some ((0, .int x2) : TV)] [] (fX7_marks_L4 n x0 x1 x2) := by
  intro n
  induction n with
  | zero => intro x0 x1 x2; exact J_fail
  | succ n ih =>
    intro x0 x1 x2
    unfold fX7_marks_L4
    refine J_iload_n (pc := 4) hc dX7_marks_4 rfl rfl ?_
    refine J_aload_n (pc := 5) hc dX7_marks_5 rfl rfl ?_
    refine J_getA (pc := 6) hc clX7 (k := 0) (kd := 2) (Nat.le_of_ble_eq_true rfl) rfl (Nat.le_of_ble_eq_true rfl) tw295 (Or.inl rfl) dX7_marks_6 (fun v1 => ?_)
    refine J_getI (pc := 9) hc clX2 (k := 1) (Nat.le_of_ble_eq_true rfl) rfl tw59 (Or.inl rfl) dX7_marks_9 (fun v2 => ?_)
    refine J_icmp_ge (pc := 12) (tgt := 32) hc dX7_marks_12 (by decide) ?_ ?_
    · refine J_iload_n (pc := 32) hc dX7_marks_32 rfl rfl ?_
      exact J_iret (pc := 33) he dX7_marks_33
    · refine J_aload_n (pc := 15) hc dX7_marks_15 rfl rfl ?_
      refine J_iload_n (pc := 16) hc dX7_marks_16 rfl rfl ?_
      refine J_callVi (pc := 17) hc clX7 (As := [((0, .int x2) : TV)]) (KX7_isMark x0 x2) dX7_marks_17 moX7_isMark rfl tw997 tw999 twp27 tw2 tw1000 rfl (Nat.le_of_ble_eq_true rfl) (Nat.le_of_ble_eq_true rfl) (Nat.le_of_ble_eq_true rfl) (Nat.le_of_ble_eq_true rfl) (Nat.le_of_ble_eq_true rfl) rfl (fun v3 => ?_)
      refine J_if_eq (pc := 20) (tgt := 26) hc dX7_marks_20 (by decide) ?_ ?_
      · refine J_sub (l' := [some ((7, .ref x0) : TV), some ((0, .int x1) : TV), some ((0, .int x2) : TV)]) ⟨rfl, ⟨rfl, ⟨rfl, trivial⟩⟩⟩ ?_
        exact jX7_marks_L26 hc he ih x0 x1 x2
      · refine J_iinc (pc := 23) (v := x1 + 1) (l' := [some ((7, .ref x0) : TV), some ((0, .int (x1 + 1)) : TV), some ((0, .int x2) : TV)]) hc dX7_marks_23 rfl rfl (by decide) rfl rfl ?_
        refine J_sub (l' := [some ((7, .ref x0) : TV), some ((0, .int (x1 + 1)) : TV), some ((0, .int x2) : TV)]) ⟨rfl, ⟨rfl, ⟨rfl, trivial⟩⟩⟩ ?_
        exact jX7_marks_L26 hc he ih x0 (x1 + 1) x2
set_option maxRecDepth 100000 in
set_option maxHeartbeats 4000000 in
theorem jX7_marks {κ : Cx} {fin : Int32 → Mm → Prop} (hc : Jc κ RX7 cX7_marks 3 6 0 0 145) (he : Ed κ cX7_marks 0 0 wI .ireturn fin) (x0 : Nat) : Jg κ (wM κ) 3 fin 0 0 0 [some ((7, .ref x0) : TV), none, none] [] (fX7_marks x0) := by
  unfold fX7_marks
  refine J_iconst (pc := 0) (v := 0) hc dX7_marks_0 (by decide) ?_
  refine J_istore_n (pc := 1) (l' := [some ((7, .ref x0) : TV), some ((0, .int 0) : TV), none]) hc dX7_marks_1 rfl (by decide) rfl rfl ?_
  refine J_iconst (pc := 2) (v := 0) hc dX7_marks_2 (by decide) ?_
  refine J_istore_n (pc := 3) (l' := [some ((7, .ref x0) : TV), some ((0, .int 0) : TV), some ((0, .int 0) : TV)]) hc dX7_marks_3 rfl (by decide) rfl rfl ?_
  refine J_sub (l' := [some ((7, .ref x0) : TV), some ((0, .int 0) : TV), some ((0, .int 0) : TV)]) ⟨rfl, ⟨rfl, ⟨rfl, trivial⟩⟩⟩ ?_
  exact jX7_marks_L4 hc he fu x0 0 0
theorem moX7_marks : MOk yX7_marks 0 := ⟨by decide +kernel, by decide +kernel, by decide +kernel⟩
set_option maxRecDepth 100000 in
set_option maxHeartbeats 4000000 in
theorem KX7_marks (x0 : Nat) : Ct wI yX7_marks cX7_marks 3 (some .int) 6 0 0 145 [((7, .ref x0) : TV)] (fX7_marks x0) :=
  Ct_I (j := 2) (by decide +kernel) rfl rfl (Nat.le_of_ble_eq_true rfl) (fun κ fin hc he => jX7_marks hc he x0)
set_option maxRecDepth 100000 in
set_option maxHeartbeats 4000000 in
theorem jX7_linesAsAbove_L40 {κ : Cx} {fin : Int32 → Mm → Prop} (hc : Jc κ RX7 cX7_linesAsAbove 3 2 0 0 42) (he : Ed κ cX7_linesAsAbove 0 0 wI .ireturn fin) {k4 : Nat → Int32 → Int32 → Mm → Option (Int32 × Mm)} (hk4 : ∀ (x0 : Nat) (x1 : Int32) (x2 : Int32), Jg κ (wM κ) 3 fin 0 0 4 [some ((7, .ref x0) : TV), some ((0, .int x1) : TV), some ((0, .int x2) : TV)] [] (k4 x0 x1 x2)) (x0 : Nat) (x1 : Int32) (x2 : Int32) : Jg κ (wM κ) 3 fin 0 0 40 [some ((7, .ref x0) : TV), some ((0, .int x1) : TV), some ((0, .int x2) : TV)] [] (fX7_linesAsAbove_L40 k4 x0 x1 x2) := by
  unfold fX7_linesAsAbove_L40
  refine J_iinc (pc := 40) (v := x2 + 1) (l' := [some ((7, .ref x0) : TV), some ((0, .int x1) : TV), some ((0, .int (x2 + 1)) : TV)]) hc dX7_linesAsAbove_40 rfl rfl (by decide) rfl rfl ?_
  refine J_goto (pc := 43) (tgt := 4) hc dX7_linesAsAbove_43 (by decide) ?_
  refine J_sub (l' := [some ((7, .ref x0) : TV), some ((0, .int x1) : TV), some ((0, .int (x2 + 1)) : TV)]) ⟨rfl, ⟨rfl, ⟨rfl, trivial⟩⟩⟩ ?_
  exact hk4 x0 x1 (x2 + 1)
set_option maxRecDepth 100000 in
set_option maxHeartbeats 4000000 in
theorem jX7_linesAsAbove_L4 {κ : Cx} {fin : Int32 → Mm → Prop} (hc : Jc κ RX7 cX7_linesAsAbove 3 2 0 0 42) (he : Ed κ cX7_linesAsAbove 0 0 wI .ireturn fin) : ∀ (n : Nat) (x0 : Nat) (x1 : Int32) (x2 : Int32), Jg κ (wM κ) 3 fin 0 0 4 [some ((7, .ref x0) : TV), some ((0, .int x1) : TV), some ((0, .int x2) : TV)] [] (fX7_linesAsAbove_L4 n x0 x1 x2) := by
  intro n
  induction n with
  | zero => intro x0 x1 x2; exact J_fail
  | succ n ih =>
    intro x0 x1 x2
    unfold fX7_linesAsAbove_L4
    refine J_iload_n (pc := 4) hc dX7_linesAsAbove_4 rfl rfl ?_
    refine J_aload_n (pc := 5) hc dX7_linesAsAbove_5 rfl rfl ?_
    refine J_getA (pc := 6) hc clX7 (k := 0) (kd := 2) (Nat.le_of_ble_eq_true rfl) rfl (Nat.le_of_ble_eq_true rfl) tw295 (Or.inl rfl) dX7_linesAsAbove_6 (fun v1 => ?_)
    refine J_getI (pc := 9) hc clX2 (k := 1) (Nat.le_of_ble_eq_true rfl) rfl tw59 (Or.inl rfl) dX7_linesAsAbove_9 (fun v2 => ?_)
    refine J_icmp_ge (pc := 12) (tgt := 46) hc dX7_linesAsAbove_12 (by decide) ?_ ?_
    · refine J_iload_n (pc := 46) hc dX7_linesAsAbove_46 rfl rfl ?_
      exact J_iret (pc := 47) he dX7_linesAsAbove_47
    · refine J_aload_n (pc := 15) hc dX7_linesAsAbove_15 rfl rfl ?_
      refine J_getA (pc := 16) hc clX7 (k := 0) (kd := 2) (Nat.le_of_ble_eq_true rfl) rfl (Nat.le_of_ble_eq_true rfl) tw295 (Or.inl rfl) dX7_linesAsAbove_16 (fun v3 => ?_)
      refine J_iload_n (pc := 19) hc dX7_linesAsAbove_19 rfl rfl ?_
      refine J_callVj (pc := 20) hc clX2 (As := [((0, .int x2) : TV)]) (KX2_rowAt v3 x2) dX7_linesAsAbove_20 moX2_rowAt rfl tw676 tw491 tw492 tw3 tw493 rfl (Nat.le_of_ble_eq_true rfl) (Nat.le_of_ble_eq_true rfl) (Nat.le_of_ble_eq_true rfl) (Nat.le_of_ble_eq_true rfl) (Nat.le_of_ble_eq_true rfl) rfl (fun v4 => ?_)
      refine J_aload_n (pc := 23) hc dX7_linesAsAbove_23 rfl rfl ?_
      refine J_getA (pc := 24) hc clX7 (k := 0) (kd := 2) (Nat.le_of_ble_eq_true rfl) rfl (Nat.le_of_ble_eq_true rfl) tw295 (Or.inl rfl) dX7_linesAsAbove_24 (fun v5 => ?_)
      refine J_iload_n (pc := 27) hc dX7_linesAsAbove_27 rfl rfl ?_
      refine J_iconst (pc := 28) (v := 1) hc dX7_linesAsAbove_28 (by decide) ?_
      refine J_isub (pc := 29) hc dX7_linesAsAbove_29 ?_
      refine J_callVj (pc := 30) hc clX2 (As := [((0, .int (x2 - 1)) : TV)]) (KX2_rowAt v5 (x2 - 1)) dX7_linesAsAbove_30 moX2_rowAt rfl tw676 tw491 tw492 tw3 tw493 rfl (Nat.le_of_ble_eq_true rfl) (Nat.le_of_ble_eq_true rfl) (Nat.le_of_ble_eq_true rfl) (Nat.le_of_ble_eq_true rfl) (Nat.le_of_ble_eq_true rfl) rfl (fun v6 => ?_)
      refine J_lcmp (pc := 33) hc dX7_linesAsAbove_33 ?_
      refine J_if_ne (pc := 34) (tgt := 40) hc dX7_linesAsAbove_34 (by decide) ?_ ?_
      · refine J_sub (l' := [some ((7, .ref x0) : TV), some ((0, .int x1) : TV), some ((0, .int x2) : TV)]) ⟨rfl, ⟨rfl, ⟨rfl, trivial⟩⟩⟩ ?_
        exact jX7_linesAsAbove_L40 hc he ih x0 x1 x2
      · refine J_iinc (pc := 37) (v := x1 + 1) (l' := [some ((7, .ref x0) : TV), some ((0, .int (x1 + 1)) : TV), some ((0, .int x2) : TV)]) hc dX7_linesAsAbove_37 rfl rfl (by decide) rfl rfl ?_
        refine J_sub (l' := [some ((7, .ref x0) : TV), some ((0, .int (x1 + 1)) : TV), some ((0, .int x2) : TV)]) ⟨rfl, ⟨rfl, ⟨rfl, trivial⟩⟩⟩ ?_
        exact jX7_linesAsAbove_L40 hc he ih x0 (x1 + 1) x2
set_option maxRecDepth 100000 in
set_option maxHeartbeats 4000000 in
theorem jX7_linesAsAbove {κ : Cx} {fin : Int32 → Mm → Prop} (hc : Jc κ RX7 cX7_linesAsAbove 3 2 0 0 42) (he : Ed κ cX7_linesAsAbove 0 0 wI .ireturn fin) (x0 : Nat) : Jg κ (wM κ) 3 fin 0 0 0 [some ((7, .ref x0) : TV), none, none] [] (fX7_linesAsAbove x0) := by
  unfold fX7_linesAsAbove
  refine J_iconst (pc := 0) (v := 0) hc dX7_linesAsAbove_0 (by decide) ?_
  refine J_istore_n (pc := 1) (l' := [some ((7, .ref x0) : TV), some ((0, .int 0) : TV), none]) hc dX7_linesAsAbove_1 rfl (by decide) rfl rfl ?_
  refine J_iconst (pc := 2) (v := 0) hc dX7_linesAsAbove_2 (by decide) ?_
  refine J_istore_n (pc := 3) (l' := [some ((7, .ref x0) : TV), some ((0, .int 0) : TV), some ((0, .int 0) : TV)]) hc dX7_linesAsAbove_3 rfl (by decide) rfl rfl ?_
  refine J_sub (l' := [some ((7, .ref x0) : TV), some ((0, .int 0) : TV), some ((0, .int 0) : TV)]) ⟨rfl, ⟨rfl, ⟨rfl, trivial⟩⟩⟩ ?_
  exact jX7_linesAsAbove_L4 hc he fu x0 0 0
theorem moX7_linesAsAbove : MOk yX7_linesAsAbove 0 := ⟨by decide +kernel, by decide +kernel, by decide +kernel⟩
set_option maxRecDepth 100000 in
set_option maxHeartbeats 4000000 in
theorem KX7_linesAsAbove (x0 : Nat) : Ct wI yX7_linesAsAbove cX7_linesAsAbove 3 (some .int) 2 0 0 42 [((7, .ref x0) : TV)] (fX7_linesAsAbove x0) :=
  Ct_I (j := 2) (by decide +kernel) rfl rfl (Nat.le_of_ble_eq_true rfl) (fun κ fin hc he => jX7_linesAsAbove hc he x0)
set_option maxRecDepth 100000 in
set_option maxHeartbeats 4000000 in
theorem jX7_count_L10 {κ : Cx} {fin : (Nat ⊕ Int32) → Mm → Prop} (hc : Jc κ RX7 cX7_count 2 7 1 6 167) (he : Ed κ cX7_count 1 6 (fun (b : Int32) => wI b) .ireturn (fun b M => fin (.inr b) M)) (hX : EdX κ 1 6 fin) : Jg κ (wM κ) 2 fin 0 0 10 [none, none] [] (fX7_count_L10) := by
  unfold fX7_count_L10
  exact J_throw (pc := 10) (k := 0) (i := 20) hc hX cdX0 rfl tw649 tw29 dX7_count_10 dX7_count_13 dX7_count_14 dX7_count_16 dX7_count_19 (Nat.le_of_ble_eq_true rfl) (Nat.le_of_ble_eq_true rfl) (Nat.le_of_ble_eq_true rfl) (Nat.le_of_ble_eq_true rfl) (Nat.le_of_ble_eq_true rfl)
set_option maxRecDepth 100000 in
set_option maxHeartbeats 4000000 in
theorem jX7_count {κ : Cx} {fin : (Nat ⊕ Int32) → Mm → Prop} (hc : Jc κ RX7 cX7_count 2 7 1 6 167) (he : Ed κ cX7_count 1 6 (fun (b : Int32) => wI b) .ireturn (fun b M => fin (.inr b) M)) (hX : EdX κ 1 6 fin) (x0 : Nat) (x1 : Int32) : Jg κ (wM κ) 2 fin 0 0 0 [some ((7, .ref x0) : TV), some ((0, .int x1) : TV)] [] (fX7_count x0 x1) := by
  unfold fX7_count
  refine J_iload_n (pc := 0) hc dX7_count_0 rfl rfl ?_
  refine J_if_lt (pc := 1) (tgt := 10) hc dX7_count_1 (by decide) ?_ ?_
  · refine J_sub (l' := [none, none]) (show subL _ _ from trivial) ?_
    exact jX7_count_L10 hc he hX 
  · refine J_iload_n (pc := 4) hc dX7_count_4 rfl rfl ?_
    refine J_bipush (pc := 5) (v := 12) hc dX7_count_5 (by decide) ?_
    refine J_icmp_le (pc := 7) (tgt := 20) hc dX7_count_7 (by decide) ?_ ?_
    · refine J_iload_n (pc := 20) hc dX7_count_20 rfl rfl ?_
      refine J_bipush (pc := 21) (v := 6) hc dX7_count_21 (by decide) ?_
      refine J_icmp_ge (pc := 23) (tgt := 36) hc dX7_count_23 (by decide) ?_ ?_
      · refine J_iload_n (pc := 36) hc dX7_count_36 rfl rfl ?_
        refine J_swc (pc := 37) (v := 6) (tgt := 76) hc dX7_count_37 (by decide) (by decide) rfl (by decide) (by decide) ?_ (fun h37_6 => ?_)
        · refine J_aload_n (pc := 76) hc dX7_count_76 rfl rfl ?_
          refine J_getA (pc := 77) hc clX7 (k := 0) (kd := 2) (Nat.le_of_ble_eq_true rfl) rfl (Nat.le_of_ble_eq_true rfl) tw295 (Or.inl rfl) dX7_count_77 (fun v1 => ?_)
          refine J_getI (pc := 80) hc clX2 (k := 0) (Nat.le_of_ble_eq_true rfl) rfl tw56 (Or.inl rfl) dX7_count_80 (fun v2 => ?_)
          refine J_widen (k := 1) (n := 6) (Nat.le_of_ble_eq_true rfl) (Nat.le_of_ble_eq_true rfl) ?_
          exact J_iretX (pc := 83) he dX7_count_83
        refine J_swc (pc := 37) (v := 7) (tgt := 84) hc dX7_count_37 (by decide) (by decide) rfl (by decide) (by decide) ?_ (fun h37_7 => ?_)
        · refine J_aload_n (pc := 84) hc dX7_count_84 rfl rfl ?_
          refine J_getA (pc := 85) hc clX7 (k := 0) (kd := 2) (Nat.le_of_ble_eq_true rfl) rfl (Nat.le_of_ble_eq_true rfl) tw295 (Or.inl rfl) dX7_count_85 (fun v3 => ?_)
          refine J_getI (pc := 88) hc clX2 (k := 1) (Nat.le_of_ble_eq_true rfl) rfl tw59 (Or.inl rfl) dX7_count_88 (fun v4 => ?_)
          refine J_widen (k := 1) (n := 6) (Nat.le_of_ble_eq_true rfl) (Nat.le_of_ble_eq_true rfl) ?_
          exact J_iretX (pc := 91) he dX7_count_91
        refine J_swc (pc := 37) (v := 8) (tgt := 92) hc dX7_count_37 (by decide) (by decide) rfl (by decide) (by decide) ?_ (fun h37_8 => ?_)
        · refine J_aload_n (pc := 92) hc dX7_count_92 rfl rfl ?_
          refine J_callVi (pc := 93) hc clX7 (As := []) (KX7_blackDots x0) dX7_count_93 moX7_blackDots rfl tw984 tw986 twp24 tw2 tw987 rfl (Nat.le_of_ble_eq_true rfl) (Nat.le_of_ble_eq_true rfl) (Nat.le_of_ble_eq_true rfl) (Nat.le_of_ble_eq_true rfl) (Nat.le_of_ble_eq_true rfl) rfl (fun v5 => ?_)
          refine J_widen (k := 1) (n := 6) (Nat.le_of_ble_eq_true rfl) (Nat.le_of_ble_eq_true rfl) ?_
          exact J_iretX (pc := 96) he dX7_count_96
        refine J_swc (pc := 37) (v := 9) (tgt := 97) hc dX7_count_37 (by decide) (by decide) rfl (by decide) (by decide) ?_ (fun h37_9 => ?_)
        · refine J_aload_n (pc := 97) hc dX7_count_97 rfl rfl ?_
          refine J_callVi (pc := 98) hc clX7 (As := []) (KX7_allChanges x0) dX7_count_98 moX7_allChanges rfl tw988 tw990 twp25 tw2 tw991 rfl (Nat.le_of_ble_eq_true rfl) (Nat.le_of_ble_eq_true rfl) (Nat.le_of_ble_eq_true rfl) (Nat.le_of_ble_eq_true rfl) (Nat.le_of_ble_eq_true rfl) rfl (fun v6 => ?_)
          refine J_widen (k := 1) (n := 6) (Nat.le_of_ble_eq_true rfl) (Nat.le_of_ble_eq_true rfl) ?_
          exact J_iretX (pc := 101) he dX7_count_101
        refine J_swc (pc := 37) (v := 10) (tgt := 102) hc dX7_count_37 (by decide) (by decide) rfl (by decide) (by decide) ?_ (fun h37_10 => ?_)
        · refine J_aload_n (pc := 102) hc dX7_count_102 rfl rfl ?_
          refine J_callVi (pc := 103) hc clX7 (As := []) (KX7_marks x0) dX7_count_103 moX7_marks rfl tw993 tw995 twp26 tw2 tw996 rfl (Nat.le_of_ble_eq_true rfl) (Nat.le_of_ble_eq_true rfl) (Nat.le_of_ble_eq_true rfl) (Nat.le_of_ble_eq_true rfl) (Nat.le_of_ble_eq_true rfl) rfl (fun v7 => ?_)
          refine J_widen (k := 1) (n := 6) (Nat.le_of_ble_eq_true rfl) (Nat.le_of_ble_eq_true rfl) ?_
          exact J_iretX (pc := 106) he dX7_count_106
        refine J_swc (pc := 37) (v := 11) (tgt := 107) hc dX7_count_37 (by decide) (by decide) rfl (by decide) (by decide) ?_ (fun h37_11 => ?_)
        · refine J_aload_n (pc := 107) hc dX7_count_107 rfl rfl ?_
          refine J_getA (pc := 108) hc clX7 (k := 1) (kd := 1) (Nat.le_of_ble_eq_true rfl) rfl (Nat.le_of_ble_eq_true rfl) tw296 (Or.inl rfl) dX7_count_108 (fun v8 => ?_)
          refine J_getI (pc := 111) hc clX1 (k := 0) (Nat.le_of_ble_eq_true rfl) rfl tw92 (Or.inl rfl) dX7_count_111 (fun v9 => ?_)
          refine J_widen (k := 1) (n := 6) (Nat.le_of_ble_eq_true rfl) (Nat.le_of_ble_eq_true rfl) ?_
          exact J_iretX (pc := 114) he dX7_count_114
        refine J_swd (pc := 37) (tgt := 115) hc dX7_count_37 (by omega) (by decide) ?_
        · refine J_aload_n (pc := 115) hc dX7_count_115 rfl rfl ?_
          refine J_callVi (pc := 116) hc clX7 (As := []) (KX7_linesAsAbove x0) dX7_count_116 moX7_linesAsAbove rfl tw1042 tw1044 twp31 tw2 tw1045 rfl (Nat.le_of_ble_eq_true rfl) (Nat.le_of_ble_eq_true rfl) (Nat.le_of_ble_eq_true rfl) (Nat.le_of_ble_eq_true rfl) (Nat.le_of_ble_eq_true rfl) rfl (fun v10 => ?_)
          refine J_widen (k := 1) (n := 6) (Nat.le_of_ble_eq_true rfl) (Nat.le_of_ble_eq_true rfl) ?_
          exact J_iretX (pc := 119) he dX7_count_119
      · refine J_aload_n (pc := 26) hc dX7_count_26 rfl rfl ?_
        refine J_getA (pc := 27) hc clX7 (k := 0) (kd := 2) (Nat.le_of_ble_eq_true rfl) rfl (Nat.le_of_ble_eq_true rfl) tw295 (Or.inl rfl) dX7_count_27 (fun v11 => ?_)
        refine J_getA (pc := 30) hc clX2 (k := 4) (kd := 11) (Nat.le_of_ble_eq_true rfl) rfl (Nat.le_of_ble_eq_true rfl) tw68 (Or.inl rfl) dX7_count_30 (fun v12 => ?_)
        refine J_iload_n (pc := 33) hc dX7_count_33 rfl rfl ?_
        refine J_iald (pc := 34) hc dX7_count_34 (fun v13 => ?_)
        refine J_widen (k := 1) (n := 6) (Nat.le_of_ble_eq_true rfl) (Nat.le_of_ble_eq_true rfl) ?_
        exact J_iretX (pc := 35) he dX7_count_35
    · refine J_sub (l' := [none, none]) (show subL _ _ from trivial) ?_
      exact jX7_count_L10 hc he hX 
theorem moX7_count : MOk yX7_count 1 := ⟨by decide +kernel, by decide +kernel, by decide +kernel⟩
set_option maxRecDepth 100000 in
set_option maxHeartbeats 4000000 in
theorem KX7_count (x0 : Nat) (x1 : Int32) : CtX wI yX7_count cX7_count 2 (some .int) 7 1 6 167 [((7, .ref x0) : TV), ((0, .int x1) : TV)] (fX7_count x0 x1) :=
  CtX_I (j := 0) (by decide +kernel) rfl rfl (Nat.le_of_ble_eq_true rfl) (fun κ fin hc he hX => jX7_count hc he hX x0 x1)
set_option maxRecDepth 100000 in
set_option maxHeartbeats 4000000 in
theorem jX7_needDot_L26 {κ : Cx} {fin : (Nat ⊕ Unit) → Mm → Prop} (hc : Jc κ RX7 cX7_needDot 3 6 1 6 100) (he : Ed κ cX7_needDot 1 6 (fun (b : Unit) => wV b) .return_ (fun b M => fin (.inr b) M)) (hX : EdX κ 1 6 fin) : Jg κ (wM κ) 3 fin 0 0 26 [none, none, none] [] (fX7_needDot_L26) := by
  unfold fX7_needDot_L26
  exact J_throwW (pc := 26) (k := 2) (i := 21) hc hX cdX2 rfl tw578 tw32 dX7_needDot_26 dX7_needDot_29 dX7_needDot_30 dX7_needDot_33 dX7_needDot_36 (Nat.le_of_ble_eq_true rfl) (Nat.le_of_ble_eq_true rfl) (Nat.le_of_ble_eq_true rfl) (Nat.le_of_ble_eq_true rfl) (Nat.le_of_ble_eq_true rfl)
set_option maxRecDepth 100000 in
set_option maxHeartbeats 4000000 in
theorem jX7_needDot {κ : Cx} {fin : (Nat ⊕ Unit) → Mm → Prop} (hc : Jc κ RX7 cX7_needDot 3 6 1 6 100) (he : Ed κ cX7_needDot 1 6 (fun (b : Unit) => wV b) .return_ (fun b M => fin (.inr b) M)) (hX : EdX κ 1 6 fin) (x0 : Nat) (x1 : Int32) (x2 : Int32) : Jg κ (wM κ) 3 fin 0 0 0 [some ((7, .ref x0) : TV), some ((0, .int x1) : TV), some ((0, .int x2) : TV)] [] (fX7_needDot x0 x1 x2) := by
  unfold fX7_needDot
  refine J_aload_n (pc := 0) hc dX7_needDot_0 rfl rfl ?_
  refine J_getA (pc := 1) hc clX7 (k := 0) (kd := 2) (Nat.le_of_ble_eq_true rfl) rfl (Nat.le_of_ble_eq_true rfl) tw295 (Or.inl rfl) dX7_needDot_1 (fun v1 => ?_)
  refine J_iload_n (pc := 4) hc dX7_needDot_4 rfl rfl ?_
  refine J_callVi (pc := 5) hc clX2 (As := [((0, .int x1) : TV)]) (KX2_hasLine v1 x1) dX7_needDot_5 moX2_hasLine rfl tw577 tw469 tw470 tw3 tw471 rfl (Nat.le_of_ble_eq_true rfl) (Nat.le_of_ble_eq_true rfl) (Nat.le_of_ble_eq_true rfl) (Nat.le_of_ble_eq_true rfl) (Nat.le_of_ble_eq_true rfl) rfl (fun v2 => ?_)
  refine J_if_eq (pc := 8) (tgt := 26) hc dX7_needDot_8 (by decide) ?_ ?_
  · refine J_sub (l' := [none, none, none]) (show subL _ _ from trivial) ?_
    exact jX7_needDot_L26 hc he hX 
  · refine J_iload_n (pc := 11) hc dX7_needDot_11 rfl rfl ?_
    refine J_if_lt (pc := 12) (tgt := 26) hc dX7_needDot_12 (by decide) ?_ ?_
    · refine J_sub (l' := [none, none, none]) (show subL _ _ from trivial) ?_
      exact jX7_needDot_L26 hc he hX 
    · refine J_iload_n (pc := 15) hc dX7_needDot_15 rfl rfl ?_
      refine J_aload_n (pc := 16) hc dX7_needDot_16 rfl rfl ?_
      refine J_getA (pc := 17) hc clX7 (k := 0) (kd := 2) (Nat.le_of_ble_eq_true rfl) rfl (Nat.le_of_ble_eq_true rfl) tw295 (Or.inl rfl) dX7_needDot_17 (fun v3 => ?_)
      refine J_getI (pc := 20) hc clX2 (k := 0) (Nat.le_of_ble_eq_true rfl) rfl tw56 (Or.inl rfl) dX7_needDot_20 (fun v4 => ?_)
      refine J_icmp_lt (pc := 23) (tgt := 37) hc dX7_needDot_23 (by decide) ?_ ?_
      · refine J_widen (k := 1) (n := 6) (Nat.le_of_ble_eq_true rfl) (Nat.le_of_ble_eq_true rfl) ?_
        exact J_vretX (pc := 37) he dX7_needDot_37
      · refine J_sub (l' := [none, none, none]) (show subL _ _ from trivial) ?_
        exact jX7_needDot_L26 hc he hX 
theorem moX7_needDot : MOk yX7_needDot 2 := ⟨by decide +kernel, by decide +kernel, by decide +kernel⟩
set_option maxRecDepth 100000 in
set_option maxHeartbeats 4000000 in
theorem KX7_needDot (x0 : Nat) (x1 : Int32) (x2 : Int32) : CtX wV yX7_needDot cX7_needDot 3 none 6 1 6 100 [((7, .ref x0) : TV), ((0, .int x1) : TV), ((0, .int x2) : TV)] (fX7_needDot x0 x1 x2) :=
  CtX_V (j := 0) (by decide +kernel) rfl rfl (Nat.le_of_ble_eq_true rfl) (fun κ fin hc he hX => jX7_needDot hc he hX x0 x1 x2)
set_option maxRecDepth 100000 in
set_option maxHeartbeats 4000000 in
theorem jX7_dot {κ : Cx} {fin : (Nat ⊕ Int32) → Mm → Prop} (hc : Jc κ RX7 cX7_dot 3 7 1 6 122) (he : Ed κ cX7_dot 1 6 (fun (b : Int32) => wI b) .ireturn (fun b M => fin (.inr b) M)) (hX : EdX κ 1 6 fin) (x0 : Nat) (x1 : Int32) (x2 : Int32) : Jg κ (wM κ) 3 fin 0 0 0 [some ((7, .ref x0) : TV), some ((0, .int x1) : TV), some ((0, .int x2) : TV)] [] (fX7_dot x0 x1 x2) := by
  unfold fX7_dot
  refine J_aload_n (pc := 0) hc dX7_dot_0 rfl rfl ?_
  refine J_iload_n (pc := 1) hc dX7_dot_1 rfl rfl ?_
  refine J_iload_n (pc := 2) hc dX7_dot_2 rfl rfl ?_
  refine J_callVXv (pc := 3) hc hX clX7 (As := [((0, .int x1) : TV), ((0, .int x2) : TV)]) (KX7_needDot x0 x1 x2) dX7_dot_3 moX7_needDot rfl tw1050 tw1052 twp32 tw2 tw1053 rfl (Nat.le_of_ble_eq_true rfl) (Nat.le_of_ble_eq_true rfl) (Nat.le_of_ble_eq_true rfl) (Nat.le_of_ble_eq_true rfl) (Nat.le_of_ble_eq_true rfl) rfl (fun _ => ?_)
  refine J_aload_n (pc := 6) hc dX7_dot_6 rfl rfl ?_
  refine J_getA (pc := 7) hc clX7 (k := 0) (kd := 2) (Nat.le_of_ble_eq_true rfl) rfl (Nat.le_of_ble_eq_true rfl) tw295 (Or.inl rfl) dX7_dot_7 (fun v1 => ?_)
  refine J_iload_n (pc := 10) hc dX7_dot_10 rfl rfl ?_
  refine J_callVj (pc := 11) hc clX2 (As := [((0, .int x1) : TV)]) (KX2_rowAt v1 x1) dX7_dot_11 moX2_rowAt rfl tw676 tw491 tw492 tw3 tw493 rfl (Nat.le_of_ble_eq_true rfl) (Nat.le_of_ble_eq_true rfl) (Nat.le_of_ble_eq_true rfl) (Nat.le_of_ble_eq_true rfl) (Nat.le_of_ble_eq_true rfl) rfl (fun v2 => ?_)
  refine J_iload_n (pc := 14) hc dX7_dot_14 rfl rfl ?_
  refine J_callSi (pc := 15) hc (As := [((0, .long v2) : TV), ((0, .int x2) : TV)]) (KX7_colourAt v2 x2) dX7_dot_15 moX7_colourAt tw1055 tw1056 tw2 tw1057 rfl (Nat.le_of_ble_eq_true rfl) (Nat.le_of_ble_eq_true rfl) (Nat.le_of_ble_eq_true rfl) (Nat.le_of_ble_eq_true rfl) (Nat.le_of_ble_eq_true rfl) rfl (fun v3 => ?_)
  exact J_iretX (pc := 18) he dX7_dot_18
theorem moX7_dot : MOk yX7_dot 2 := ⟨by decide +kernel, by decide +kernel, by decide +kernel⟩
set_option maxRecDepth 100000 in
set_option maxHeartbeats 4000000 in
theorem KX7_dot (x0 : Nat) (x1 : Int32) (x2 : Int32) : CtX wI yX7_dot cX7_dot 3 (some .int) 7 1 6 122 [((7, .ref x0) : TV), ((0, .int x1) : TV), ((0, .int x2) : TV)] (fX7_dot x0 x1 x2) :=
  CtX_I (j := 0) (by decide +kernel) rfl rfl (Nat.le_of_ble_eq_true rfl) (fun κ fin hc he hX => jX7_dot hc he hX x0 x1 x2)
set_option maxRecDepth 100000 in
set_option maxHeartbeats 4000000 in
theorem jX7_needLine {κ : Cx} {fin : (Nat ⊕ Unit) → Mm → Prop} (hc : Jc κ RX7 cX7_needLine 2 6 1 6 100) (he : Ed κ cX7_needLine 1 6 (fun (b : Unit) => wV b) .return_ (fun b M => fin (.inr b) M)) (hX : EdX κ 1 6 fin) (x0 : Nat) (x1 : Int32) : Jg κ (wM κ) 2 fin 0 0 0 [some ((7, .ref x0) : TV), some ((0, .int x1) : TV)] [] (fX7_needLine x0 x1) := by
  unfold fX7_needLine
  refine J_aload_n (pc := 0) hc dX7_needLine_0 rfl rfl ?_
  refine J_getA (pc := 1) hc clX7 (k := 0) (kd := 2) (Nat.le_of_ble_eq_true rfl) rfl (Nat.le_of_ble_eq_true rfl) tw295 (Or.inl rfl) dX7_needLine_1 (fun v1 => ?_)
  refine J_iload_n (pc := 4) hc dX7_needLine_4 rfl rfl ?_
  refine J_callVi (pc := 5) hc clX2 (As := [((0, .int x1) : TV)]) (KX2_hasLine v1 x1) dX7_needLine_5 moX2_hasLine rfl tw577 tw469 tw470 tw3 tw471 rfl (Nat.le_of_ble_eq_true rfl) (Nat.le_of_ble_eq_true rfl) (Nat.le_of_ble_eq_true rfl) (Nat.le_of_ble_eq_true rfl) (Nat.le_of_ble_eq_true rfl) rfl (fun v2 => ?_)
  refine J_if_ne (pc := 8) (tgt := 22) hc dX7_needLine_8 (by decide) ?_ ?_
  · refine J_widen (k := 1) (n := 6) (Nat.le_of_ble_eq_true rfl) (Nat.le_of_ble_eq_true rfl) ?_
    exact J_vretX (pc := 22) he dX7_needLine_22
  · exact J_throwW (pc := 11) (k := 2) (i := 14) hc hX cdX2 rfl tw578 tw32 dX7_needLine_11 dX7_needLine_14 dX7_needLine_15 dX7_needLine_18 dX7_needLine_21 (Nat.le_of_ble_eq_true rfl) (Nat.le_of_ble_eq_true rfl) (Nat.le_of_ble_eq_true rfl) (Nat.le_of_ble_eq_true rfl) (Nat.le_of_ble_eq_true rfl)
theorem moX7_needLine : MOk yX7_needLine 1 := ⟨by decide +kernel, by decide +kernel, by decide +kernel⟩
set_option maxRecDepth 100000 in
set_option maxHeartbeats 4000000 in
theorem KX7_needLine (x0 : Nat) (x1 : Int32) : CtX wV yX7_needLine cX7_needLine 2 none 6 1 6 100 [((7, .ref x0) : TV), ((0, .int x1) : TV)] (fX7_needLine x0 x1) :=
  CtX_V (j := 0) (by decide +kernel) rfl rfl (Nat.le_of_ble_eq_true rfl) (fun κ fin hc he hX => jX7_needLine hc he hX x0 x1)
set_option maxRecDepth 100000 in
set_option maxHeartbeats 4000000 in
theorem jX7_latestMark_L2 {κ : Cx} {fin : Int32 → Mm → Prop} (hc : Jc κ RX7 cX7_latestMark 3 6 0 0 145) (he : Ed κ cX7_latestMark 0 0 wI .ireturn fin) : ∀ (n : Nat) (x0 : Nat) (x2 : Int32), Jg κ (wM κ) 3 fin 0 0 2 [some ((7, .ref x0) : TV), none, some ((0, .int x2) : TV)] [] (fX7_latestMark_L2 n x0 x2) := by
  intro n
  induction n with
  | zero => intro x0 x2; exact J_fail
  | succ n ih =>
    intro x0 x2
    unfold fX7_latestMark_L2
    refine J_iload_n (pc := 2) hc dX7_latestMark_2 rfl rfl ?_
    refine J_if_le (pc := 3) (tgt := 22) hc dX7_latestMark_3 (by decide) ?_ ?_
    · refine J_iconst (pc := 22) (v := 0) hc dX7_latestMark_22 (by decide) ?_
      exact J_iret (pc := 23) he dX7_latestMark_23
    · refine J_aload_n (pc := 6) hc dX7_latestMark_6 rfl rfl ?_
      refine J_iload_n (pc := 7) hc dX7_latestMark_7 rfl rfl ?_
      refine J_callVi (pc := 8) hc clX7 (As := [((0, .int x2) : TV)]) (KX7_isMark x0 x2) dX7_latestMark_8 moX7_isMark rfl tw997 tw999 twp27 tw2 tw1000 rfl (Nat.le_of_ble_eq_true rfl) (Nat.le_of_ble_eq_true rfl) (Nat.le_of_ble_eq_true rfl) (Nat.le_of_ble_eq_true rfl) (Nat.le_of_ble_eq_true rfl) rfl (fun v1 => ?_)
      refine J_if_eq (pc := 11) (tgt := 16) hc dX7_latestMark_11 (by decide) ?_ ?_
      · refine J_iinc (pc := 16) (v := x2 + (-1)) (l' := [some ((7, .ref x0) : TV), none, some ((0, .int (x2 + (-1))) : TV)]) hc dX7_latestMark_16 rfl rfl (by decide) rfl rfl ?_
        refine J_goto (pc := 19) (tgt := 2) hc dX7_latestMark_19 (by decide) ?_
        refine J_sub (l' := [some ((7, .ref x0) : TV), none, some ((0, .int (x2 + (-1))) : TV)]) ⟨rfl, ⟨rfl, trivial⟩⟩ ?_
        exact ih x0 (x2 + (-1))
      · refine J_iload_n (pc := 14) hc dX7_latestMark_14 rfl rfl ?_
        exact J_iret (pc := 15) he dX7_latestMark_15
set_option maxRecDepth 100000 in
set_option maxHeartbeats 4000000 in
theorem jX7_latestMark {κ : Cx} {fin : Int32 → Mm → Prop} (hc : Jc κ RX7 cX7_latestMark 3 6 0 0 145) (he : Ed κ cX7_latestMark 0 0 wI .ireturn fin) (x0 : Nat) (x1 : Int32) : Jg κ (wM κ) 3 fin 0 0 0 [some ((7, .ref x0) : TV), some ((0, .int x1) : TV), none] [] (fX7_latestMark x0 x1) := by
  unfold fX7_latestMark
  refine J_iload_n (pc := 0) hc dX7_latestMark_0 rfl rfl ?_
  refine J_istore_n (pc := 1) (l' := [some ((7, .ref x0) : TV), some ((0, .int x1) : TV), some ((0, .int x1) : TV)]) hc dX7_latestMark_1 rfl (by decide) rfl rfl ?_
  refine J_sub (l' := [some ((7, .ref x0) : TV), none, some ((0, .int x1) : TV)]) ⟨rfl, ⟨rfl, trivial⟩⟩ ?_
  exact jX7_latestMark_L2 hc he fu x0 x1
theorem moX7_latestMark : MOk yX7_latestMark 1 := ⟨by decide +kernel, by decide +kernel, by decide +kernel⟩
set_option maxRecDepth 100000 in
set_option maxHeartbeats 4000000 in
theorem KX7_latestMark (x0 : Nat) (x1 : Int32) : Ct wI yX7_latestMark cX7_latestMark 3 (some .int) 6 0 0 145 [((7, .ref x0) : TV), ((0, .int x1) : TV)] (fX7_latestMark x0 x1) :=
  Ct_I (j := 1) (by decide +kernel) rfl rfl (Nat.le_of_ble_eq_true rfl) (fun κ fin hc he => jX7_latestMark hc he x0 x1)
set_option maxRecDepth 100000 in
set_option maxHeartbeats 4000000 in
theorem jX7_line_L15 {κ : Cx} {fin : (Nat ⊕ Int32) → Mm → Prop} (hc : Jc κ RX7 cX7_line 3 7 2 12 167) (he : Ed κ cX7_line 2 12 (fun (b : Int32) => wI b) .ireturn (fun b M => fin (.inr b) M)) (hX : EdX κ 2 12 fin) : Jg κ (wM κ) 3 fin 1 6 15 [none, none, none] [] (fX7_line_L15) := by
  unfold fX7_line_L15
  exact J_throw (pc := 15) (k := 0) (i := 20) hc hX cdX0 rfl tw649 tw29 dX7_line_15 dX7_line_18 dX7_line_19 dX7_line_21 dX7_line_24 (Nat.le_of_ble_eq_true rfl) (Nat.le_of_ble_eq_true rfl) (Nat.le_of_ble_eq_true rfl) (Nat.le_of_ble_eq_true rfl) (Nat.le_of_ble_eq_true rfl)
set_option maxRecDepth 100000 in
set_option maxHeartbeats 4000000 in
theorem jX7_line {κ : Cx} {fin : (Nat ⊕ Int32) → Mm → Prop} (hc : Jc κ RX7 cX7_line 3 7 2 12 167) (he : Ed κ cX7_line 2 12 (fun (b : Int32) => wI b) .ireturn (fun b M => fin (.inr b) M)) (hX : EdX κ 2 12 fin) (x0 : Nat) (x1 : Int32) (x2 : Int32) : Jg κ (wM κ) 3 fin 0 0 0 [some ((7, .ref x0) : TV), some ((0, .int x1) : TV), some ((0, .int x2) : TV)] [] (fX7_line x0 x1 x2) := by
  unfold fX7_line
  refine J_aload_n (pc := 0) hc dX7_line_0 rfl rfl ?_
  refine J_iload_n (pc := 1) hc dX7_line_1 rfl rfl ?_
  refine J_callVXv (pc := 2) hc hX clX7 (As := [((0, .int x1) : TV)]) (KX7_needLine x0 x1) dX7_line_2 moX7_needLine rfl tw573 tw575 twp17 tw2 tw576 rfl (Nat.le_of_ble_eq_true rfl) (Nat.le_of_ble_eq_true rfl) (Nat.le_of_ble_eq_true rfl) (Nat.le_of_ble_eq_true rfl) (Nat.le_of_ble_eq_true rfl) rfl (fun _ => ?_)
  refine J_iload_n (pc := 5) hc dX7_line_5 rfl rfl ?_
  refine J_if_lt (pc := 6) (tgt := 15) hc dX7_line_6 (by decide) ?_ ?_
  · refine J_sub (l' := [none, none, none]) (show subL _ _ from trivial) ?_
    exact jX7_line_L15 hc he hX 
  · refine J_iload_n (pc := 9) hc dX7_line_9 rfl rfl ?_
    refine J_bipush (pc := 10) (v := 11) hc dX7_line_10 (by decide) ?_
    refine J_icmp_le (pc := 12) (tgt := 25) hc dX7_line_12 (by decide) ?_ ?_
    · refine J_aload_n (pc := 25) hc dX7_line_25 rfl rfl ?_
      refine J_iload_n (pc := 26) hc dX7_line_26 rfl rfl ?_
      refine J_callVv (pc := 27) hc clX7 (As := [((0, .int x1) : TV)]) (KX7_codeLine x0 x1) dX7_line_27 moX7_codeLine rfl tw1004 tw1006 twp28 tw2 tw1007 rfl (Nat.le_of_ble_eq_true rfl) (Nat.le_of_ble_eq_true rfl) (Nat.le_of_ble_eq_true rfl) (Nat.le_of_ble_eq_true rfl) (Nat.le_of_ble_eq_true rfl) rfl (fun _ => ?_)
      refine J_iload_n (pc := 30) hc dX7_line_30 rfl rfl ?_
      refine J_swc (pc := 31) (v := 0) (tgt := 88) hc dX7_line_31 (by decide) (by decide) rfl (by decide) (by decide) ?_ (fun h31_0 => ?_)
      · refine J_aload_n (pc := 88) hc dX7_line_88 rfl rfl ?_
        refine J_iload_n (pc := 89) hc dX7_line_89 rfl rfl ?_
        refine J_callVi (pc := 90) hc clX7 (As := [((0, .int x1) : TV)]) (KX7_isMark x0 x1) dX7_line_90 moX7_isMark rfl tw997 tw999 twp27 tw2 tw1000 rfl (Nat.le_of_ble_eq_true rfl) (Nat.le_of_ble_eq_true rfl) (Nat.le_of_ble_eq_true rfl) (Nat.le_of_ble_eq_true rfl) (Nat.le_of_ble_eq_true rfl) rfl (fun v1 => ?_)
        refine J_if_eq (pc := 93) (tgt := 100) hc dX7_line_93 (by decide) ?_ ?_
        · refine J_iconst (pc := 100) (v := 0) hc dX7_line_100 (by decide) ?_
          refine J_widen (k := 2) (n := 12) (Nat.le_of_ble_eq_true rfl) (Nat.le_of_ble_eq_true rfl) ?_
          exact J_iretX (pc := 101) he dX7_line_101
        · refine J_iconst (pc := 96) (v := 1) hc dX7_line_96 (by decide) ?_
          refine J_goto (pc := 97) (tgt := 101) hc dX7_line_97 (by decide) ?_
          refine J_widen (k := 2) (n := 12) (Nat.le_of_ble_eq_true rfl) (Nat.le_of_ble_eq_true rfl) ?_
          exact J_iretX (pc := 101) he dX7_line_101
      refine J_swc (pc := 31) (v := 1) (tgt := 102) hc dX7_line_31 (by decide) (by decide) rfl (by decide) (by decide) ?_ (fun h31_1 => ?_)
      · refine J_aload_n (pc := 102) hc dX7_line_102 rfl rfl ?_
        refine J_getA (pc := 103) hc clX7 (k := 0) (kd := 2) (Nat.le_of_ble_eq_true rfl) rfl (Nat.le_of_ble_eq_true rfl) tw295 (Or.inl rfl) dX7_line_103 (fun v2 => ?_)
        refine J_iload_n (pc := 106) hc dX7_line_106 rfl rfl ?_
        refine J_callVj (pc := 107) hc clX2 (As := [((0, .int x1) : TV)]) (KX2_rowAt v2 x1) dX7_line_107 moX2_rowAt rfl tw676 tw491 tw492 tw3 tw493 rfl (Nat.le_of_ble_eq_true rfl) (Nat.le_of_ble_eq_true rfl) (Nat.le_of_ble_eq_true rfl) (Nat.le_of_ble_eq_true rfl) (Nat.le_of_ble_eq_true rfl) rfl (fun v3 => ?_)
        refine J_aload_n (pc := 110) hc dX7_line_110 rfl rfl ?_
        refine J_getA (pc := 111) hc clX7 (k := 0) (kd := 2) (Nat.le_of_ble_eq_true rfl) rfl (Nat.le_of_ble_eq_true rfl) tw295 (Or.inl rfl) dX7_line_111 (fun v4 => ?_)
        refine J_getI (pc := 114) hc clX2 (k := 0) (Nat.le_of_ble_eq_true rfl) rfl tw56 (Or.inl rfl) dX7_line_114 (fun v5 => ?_)
        refine J_callSi (pc := 117) hc (As := [((0, .long v3) : TV), ((0, .int v5) : TV)]) (KX7_aloneBits v3 v5) dX7_line_117 moX7_aloneBits tw1035 tw1036 tw2 tw1037 rfl (Nat.le_of_ble_eq_true rfl) (Nat.le_of_ble_eq_true rfl) (Nat.le_of_ble_eq_true rfl) (Nat.le_of_ble_eq_true rfl) (Nat.le_of_ble_eq_true rfl) rfl (fun v6 => ?_)
        refine J_widen (k := 2) (n := 12) (Nat.le_of_ble_eq_true rfl) (Nat.le_of_ble_eq_true rfl) ?_
        exact J_iretX (pc := 120) he dX7_line_120
      refine J_swc (pc := 31) (v := 2) (tgt := 121) hc dX7_line_31 (by decide) (by decide) rfl (by decide) (by decide) ?_ (fun h31_2 => ?_)
      · refine J_aload_n (pc := 121) hc dX7_line_121 rfl rfl ?_
        refine J_getA (pc := 122) hc clX7 (k := 4) (kd := 0) (Nat.le_of_ble_eq_true rfl) rfl (Nat.le_of_ble_eq_true rfl) tw299 (Or.inl rfl) dX7_line_122 (fun v7 => ?_)
        refine J_getI (pc := 125) hc clX0 (k := 1) (Nat.le_of_ble_eq_true rfl) rfl tw205 (Or.inl rfl) dX7_line_125 (fun v8 => ?_)
        refine J_widen (k := 2) (n := 12) (Nat.le_of_ble_eq_true rfl) (Nat.le_of_ble_eq_true rfl) ?_
        exact J_iretX (pc := 128) he dX7_line_128
      refine J_swc (pc := 31) (v := 3) (tgt := 129) hc dX7_line_31 (by decide) (by decide) rfl (by decide) (by decide) ?_ (fun h31_3 => ?_)
      · refine J_aload_n (pc := 129) hc dX7_line_129 rfl rfl ?_
        refine J_iload_n (pc := 130) hc dX7_line_130 rfl rfl ?_
        refine J_callVi (pc := 131) hc clX7 (As := [((0, .int x1) : TV)]) (KX7_isMark x0 x1) dX7_line_131 moX7_isMark rfl tw997 tw999 twp27 tw2 tw1000 rfl (Nat.le_of_ble_eq_true rfl) (Nat.le_of_ble_eq_true rfl) (Nat.le_of_ble_eq_true rfl) (Nat.le_of_ble_eq_true rfl) (Nat.le_of_ble_eq_true rfl) rfl (fun v9 => ?_)
        refine J_if_eq (pc := 134) (tgt := 158) hc dX7_line_134 (by decide) ?_ ?_
        · refine J_aload_n (pc := 158) hc dX7_line_158 rfl rfl ?_
          refine J_getA (pc := 159) hc clX7 (k := 4) (kd := 0) (Nat.le_of_ble_eq_true rfl) rfl (Nat.le_of_ble_eq_true rfl) tw299 (Or.inl rfl) dX7_line_159 (fun v10 => ?_)
          refine J_getI (pc := 162) hc clX0 (k := 1) (Nat.le_of_ble_eq_true rfl) rfl tw205 (Or.inl rfl) dX7_line_162 (fun v11 => ?_)
          refine J_widen (k := 2) (n := 12) (Nat.le_of_ble_eq_true rfl) (Nat.le_of_ble_eq_true rfl) ?_
          exact J_iretX (pc := 165) he dX7_line_165
        · refine J_aload_n (pc := 137) hc dX7_line_137 rfl rfl ?_
          refine J_getA (pc := 138) hc clX7 (k := 0) (kd := 2) (Nat.le_of_ble_eq_true rfl) rfl (Nat.le_of_ble_eq_true rfl) tw295 (Or.inl rfl) dX7_line_138 (fun v12 => ?_)
          refine J_iload_n (pc := 141) hc dX7_line_141 rfl rfl ?_
          refine J_callVj (pc := 142) hc clX2 (As := [((0, .int x1) : TV)]) (KX2_rowAt v12 x1) dX7_line_142 moX2_rowAt rfl tw676 tw491 tw492 tw3 tw493 rfl (Nat.le_of_ble_eq_true rfl) (Nat.le_of_ble_eq_true rfl) (Nat.le_of_ble_eq_true rfl) (Nat.le_of_ble_eq_true rfl) (Nat.le_of_ble_eq_true rfl) rfl (fun v13 => ?_)
          refine J_aload_n (pc := 145) hc dX7_line_145 rfl rfl ?_
          refine J_getA (pc := 146) hc clX7 (k := 0) (kd := 2) (Nat.le_of_ble_eq_true rfl) rfl (Nat.le_of_ble_eq_true rfl) tw295 (Or.inl rfl) dX7_line_146 (fun v14 => ?_)
          refine J_getI (pc := 149) hc clX2 (k := 0) (Nat.le_of_ble_eq_true rfl) rfl tw56 (Or.inl rfl) dX7_line_149 (fun v15 => ?_)
          refine J_callSi (pc := 152) hc (As := [((0, .long v13) : TV), ((0, .int v15) : TV)]) (KX7_aloneBits v13 v15) dX7_line_152 moX7_aloneBits tw1035 tw1036 tw2 tw1037 rfl (Nat.le_of_ble_eq_true rfl) (Nat.le_of_ble_eq_true rfl) (Nat.le_of_ble_eq_true rfl) (Nat.le_of_ble_eq_true rfl) (Nat.le_of_ble_eq_true rfl) rfl (fun v16 => ?_)
          refine J_goto (pc := 155) (tgt := 165) hc dX7_line_155 (by decide) ?_
          refine J_widen (k := 2) (n := 12) (Nat.le_of_ble_eq_true rfl) (Nat.le_of_ble_eq_true rfl) ?_
          exact J_iretX (pc := 165) he dX7_line_165
      refine J_swc (pc := 31) (v := 4) (tgt := 166) hc dX7_line_31 (by decide) (by decide) rfl (by decide) (by decide) ?_ (fun h31_4 => ?_)
      · refine J_aload_n (pc := 166) hc dX7_line_166 rfl rfl ?_
        refine J_getA (pc := 167) hc clX7 (k := 0) (kd := 2) (Nat.le_of_ble_eq_true rfl) rfl (Nat.le_of_ble_eq_true rfl) tw295 (Or.inl rfl) dX7_line_167 (fun v17 => ?_)
        refine J_iload_n (pc := 170) hc dX7_line_170 rfl rfl ?_
        refine J_callVj (pc := 171) hc clX2 (As := [((0, .int x1) : TV)]) (KX2_rowAt v17 x1) dX7_line_171 moX2_rowAt rfl tw676 tw491 tw492 tw3 tw493 rfl (Nat.le_of_ble_eq_true rfl) (Nat.le_of_ble_eq_true rfl) (Nat.le_of_ble_eq_true rfl) (Nat.le_of_ble_eq_true rfl) (Nat.le_of_ble_eq_true rfl) rfl (fun v18 => ?_)
        refine J_aload_n (pc := 174) hc dX7_line_174 rfl rfl ?_
        refine J_getA (pc := 175) hc clX7 (k := 0) (kd := 2) (Nat.le_of_ble_eq_true rfl) rfl (Nat.le_of_ble_eq_true rfl) tw295 (Or.inl rfl) dX7_line_175 (fun v19 => ?_)
        refine J_getI (pc := 178) hc clX2 (k := 0) (Nat.le_of_ble_eq_true rfl) rfl tw56 (Or.inl rfl) dX7_line_178 (fun v20 => ?_)
        refine J_callSj (pc := 181) hc (As := [((0, .long v18) : TV), ((0, .int v20) : TV)]) (KX7_changesOf v18 v20) dX7_line_181 moX7_changesOf tw992 tw499 tw2 tw500 rfl (Nat.le_of_ble_eq_true rfl) (Nat.le_of_ble_eq_true rfl) (Nat.le_of_ble_eq_true rfl) (Nat.le_of_ble_eq_true rfl) (Nat.le_of_ble_eq_true rfl) rfl (fun v21 => ?_)
        refine J_callSi (pc := 184) hc (As := [((0, .long v21) : TV)]) (KJ13_bitCount_95d88 v21) dX7_line_184 moJ13_bitCount_95d88 tw511 tw512 tw31 tw513 rfl (Nat.le_of_ble_eq_true rfl) (Nat.le_of_ble_eq_true rfl) (Nat.le_of_ble_eq_true rfl) (Nat.le_of_ble_eq_true rfl) (Nat.le_of_ble_eq_true rfl) rfl (fun v22 => ?_)
        refine J_iconst (pc := 187) (v := 1) hc dX7_line_187 (by decide) ?_
        refine J_iadd (pc := 188) hc dX7_line_188 ?_
        refine J_widen (k := 2) (n := 12) (Nat.le_of_ble_eq_true rfl) (Nat.le_of_ble_eq_true rfl) ?_
        exact J_iretX (pc := 189) he dX7_line_189
      refine J_swc (pc := 31) (v := 5) (tgt := 190) hc dX7_line_31 (by decide) (by decide) rfl (by decide) (by decide) ?_ (fun h31_5 => ?_)
      · refine J_aload_n (pc := 190) hc dX7_line_190 rfl rfl ?_
        refine J_getA (pc := 191) hc clX7 (k := 4) (kd := 0) (Nat.le_of_ble_eq_true rfl) rfl (Nat.le_of_ble_eq_true rfl) tw299 (Or.inl rfl) dX7_line_191 (fun v23 => ?_)
        refine J_getI (pc := 194) hc clX0 (k := 0) (Nat.le_of_ble_eq_true rfl) rfl tw202 (Or.inl rfl) dX7_line_194 (fun v24 => ?_)
        refine J_widen (k := 2) (n := 12) (Nat.le_of_ble_eq_true rfl) (Nat.le_of_ble_eq_true rfl) ?_
        exact J_iretX (pc := 197) he dX7_line_197
      refine J_swc (pc := 31) (v := 6) (tgt := 198) hc dX7_line_31 (by decide) (by decide) rfl (by decide) (by decide) ?_ (fun h31_6 => ?_)
      · refine J_aload_n (pc := 198) hc dX7_line_198 rfl rfl ?_
        refine J_getA (pc := 199) hc clX7 (k := 4) (kd := 0) (Nat.le_of_ble_eq_true rfl) rfl (Nat.le_of_ble_eq_true rfl) tw299 (Or.inl rfl) dX7_line_199 (fun v25 => ?_)
        refine J_iconst (pc := 202) (v := 0) hc dX7_line_202 (by decide) ?_
        refine J_callVi (pc := 203) hc clX0 (As := [((0, .int 0) : TV)]) (KX0_modesOfKind v25 0) dX7_line_203 moX0_modesOfKind rfl tw1157 tw1158 tw1159 tw8 tw1160 rfl (Nat.le_of_ble_eq_true rfl) (Nat.le_of_ble_eq_true rfl) (Nat.le_of_ble_eq_true rfl) (Nat.le_of_ble_eq_true rfl) (Nat.le_of_ble_eq_true rfl) rfl (fun v26 => ?_)
        refine J_widen (k := 2) (n := 12) (Nat.le_of_ble_eq_true rfl) (Nat.le_of_ble_eq_true rfl) ?_
        exact J_iretX (pc := 206) he dX7_line_206
      refine J_swc (pc := 31) (v := 7) (tgt := 207) hc dX7_line_31 (by decide) (by decide) rfl (by decide) (by decide) ?_ (fun h31_7 => ?_)
      · refine J_aload_n (pc := 207) hc dX7_line_207 rfl rfl ?_
        refine J_getA (pc := 208) hc clX7 (k := 4) (kd := 0) (Nat.le_of_ble_eq_true rfl) rfl (Nat.le_of_ble_eq_true rfl) tw299 (Or.inl rfl) dX7_line_208 (fun v27 => ?_)
        refine J_iconst (pc := 211) (v := 1) hc dX7_line_211 (by decide) ?_
        refine J_callVi (pc := 212) hc clX0 (As := [((0, .int 1) : TV)]) (KX0_modesOfKind v27 1) dX7_line_212 moX0_modesOfKind rfl tw1157 tw1158 tw1159 tw8 tw1160 rfl (Nat.le_of_ble_eq_true rfl) (Nat.le_of_ble_eq_true rfl) (Nat.le_of_ble_eq_true rfl) (Nat.le_of_ble_eq_true rfl) (Nat.le_of_ble_eq_true rfl) rfl (fun v28 => ?_)
        refine J_widen (k := 2) (n := 12) (Nat.le_of_ble_eq_true rfl) (Nat.le_of_ble_eq_true rfl) ?_
        exact J_iretX (pc := 215) he dX7_line_215
      refine J_swc (pc := 31) (v := 8) (tgt := 216) hc dX7_line_31 (by decide) (by decide) rfl (by decide) (by decide) ?_ (fun h31_8 => ?_)
      · refine J_aload_n (pc := 216) hc dX7_line_216 rfl rfl ?_
        refine J_getA (pc := 217) hc clX7 (k := 4) (kd := 0) (Nat.le_of_ble_eq_true rfl) rfl (Nat.le_of_ble_eq_true rfl) tw299 (Or.inl rfl) dX7_line_217 (fun v29 => ?_)
        refine J_iconst (pc := 220) (v := 2) hc dX7_line_220 (by decide) ?_
        refine J_callVi (pc := 221) hc clX0 (As := [((0, .int 2) : TV)]) (KX0_modesOfKind v29 2) dX7_line_221 moX0_modesOfKind rfl tw1157 tw1158 tw1159 tw8 tw1160 rfl (Nat.le_of_ble_eq_true rfl) (Nat.le_of_ble_eq_true rfl) (Nat.le_of_ble_eq_true rfl) (Nat.le_of_ble_eq_true rfl) (Nat.le_of_ble_eq_true rfl) rfl (fun v30 => ?_)
        refine J_widen (k := 2) (n := 12) (Nat.le_of_ble_eq_true rfl) (Nat.le_of_ble_eq_true rfl) ?_
        exact J_iretX (pc := 224) he dX7_line_224
      refine J_swc (pc := 31) (v := 9) (tgt := 225) hc dX7_line_31 (by decide) (by decide) rfl (by decide) (by decide) ?_ (fun h31_9 => ?_)
      · refine J_aload_n (pc := 225) hc dX7_line_225 rfl rfl ?_
        refine J_getA (pc := 226) hc clX7 (k := 0) (kd := 2) (Nat.le_of_ble_eq_true rfl) rfl (Nat.le_of_ble_eq_true rfl) tw295 (Or.inl rfl) dX7_line_226 (fun v31 => ?_)
        refine J_getA (pc := 229) hc clX2 (k := 3) (kd := 11) (Nat.le_of_ble_eq_true rfl) rfl (Nat.le_of_ble_eq_true rfl) tw64 (Or.inl rfl) dX7_line_229 (fun v32 => ?_)
        refine J_iload_n (pc := 232) hc dX7_line_232 rfl rfl ?_
        refine J_iald (pc := 233) hc dX7_line_233 (fun v33 => ?_)
        refine J_widen (k := 2) (n := 12) (Nat.le_of_ble_eq_true rfl) (Nat.le_of_ble_eq_true rfl) ?_
        exact J_iretX (pc := 234) he dX7_line_234
      refine J_swc (pc := 31) (v := 10) (tgt := 235) hc dX7_line_31 (by decide) (by decide) rfl (by decide) (by decide) ?_ (fun h31_10 => ?_)
      · refine J_aload_n (pc := 235) hc dX7_line_235 rfl rfl ?_
        refine J_getA (pc := 236) hc clX7 (k := 0) (kd := 2) (Nat.le_of_ble_eq_true rfl) rfl (Nat.le_of_ble_eq_true rfl) tw295 (Or.inl rfl) dX7_line_236 (fun v34 => ?_)
        refine J_iload_n (pc := 239) hc dX7_line_239 rfl rfl ?_
        refine J_callVj (pc := 240) hc clX2 (As := [((0, .int x1) : TV)]) (KX2_rowAt v34 x1) dX7_line_240 moX2_rowAt rfl tw676 tw491 tw492 tw3 tw493 rfl (Nat.le_of_ble_eq_true rfl) (Nat.le_of_ble_eq_true rfl) (Nat.le_of_ble_eq_true rfl) (Nat.le_of_ble_eq_true rfl) (Nat.le_of_ble_eq_true rfl) rfl (fun v35 => ?_)
        refine J_callSi (pc := 243) hc (As := [((0, .long v35) : TV)]) (KJ13_bitCount_95d88 v35) dX7_line_243 moJ13_bitCount_95d88 tw511 tw512 tw31 tw513 rfl (Nat.le_of_ble_eq_true rfl) (Nat.le_of_ble_eq_true rfl) (Nat.le_of_ble_eq_true rfl) (Nat.le_of_ble_eq_true rfl) (Nat.le_of_ble_eq_true rfl) rfl (fun v36 => ?_)
        refine J_widen (k := 2) (n := 12) (Nat.le_of_ble_eq_true rfl) (Nat.le_of_ble_eq_true rfl) ?_
        exact J_iretX (pc := 246) he dX7_line_246
      refine J_swd (pc := 31) (tgt := 247) hc dX7_line_31 (by omega) (by decide) ?_
      · refine J_aload_n (pc := 247) hc dX7_line_247 rfl rfl ?_
        refine J_iload_n (pc := 248) hc dX7_line_248 rfl rfl ?_
        refine J_callVi (pc := 249) hc clX7 (As := [((0, .int x1) : TV)]) (KX7_latestMark x0 x1) dX7_line_249 moX7_latestMark rfl tw1161 tw1163 twp33 tw2 tw1164 rfl (Nat.le_of_ble_eq_true rfl) (Nat.le_of_ble_eq_true rfl) (Nat.le_of_ble_eq_true rfl) (Nat.le_of_ble_eq_true rfl) (Nat.le_of_ble_eq_true rfl) rfl (fun v37 => ?_)
        refine J_widen (k := 2) (n := 12) (Nat.le_of_ble_eq_true rfl) (Nat.le_of_ble_eq_true rfl) ?_
        exact J_iretX (pc := 252) he dX7_line_252
    · refine J_sub (l' := [none, none, none]) (show subL _ _ from trivial) ?_
      exact jX7_line_L15 hc he hX 
theorem moX7_line : MOk yX7_line 2 := ⟨by decide +kernel, by decide +kernel, by decide +kernel⟩
set_option maxRecDepth 100000 in
set_option maxHeartbeats 4000000 in
theorem KX7_line (x0 : Nat) (x1 : Int32) (x2 : Int32) : CtX wI yX7_line cX7_line 3 (some .int) 7 2 12 167 [((7, .ref x0) : TV), ((0, .int x1) : TV), ((0, .int x2) : TV)] (fX7_line x0 x1 x2) :=
  CtX_I (j := 0) (by decide +kernel) rfl rfl (Nat.le_of_ble_eq_true rfl) (fun κ fin hc he hX => jX7_line hc he hX x0 x1 x2)
set_option maxRecDepth 100000 in
set_option maxHeartbeats 4000000 in
theorem jX7_needPlace_L15 {κ : Cx} {fin : (Nat ⊕ Unit) → Mm → Prop} (hc : Jc κ RX7 cX7_needPlace 3 6 1 6 100) (he : Ed κ cX7_needPlace 1 6 (fun (b : Unit) => wV b) .return_ (fun b M => fin (.inr b) M)) (hX : EdX κ 1 6 fin) : Jg κ (wM κ) 3 fin 0 0 15 [none, none, none] [] (fX7_needPlace_L15) := by
  unfold fX7_needPlace_L15
  exact J_throwW (pc := 15) (k := 2) (i := 22) hc hX cdX2 rfl tw578 tw32 dX7_needPlace_15 dX7_needPlace_18 dX7_needPlace_19 dX7_needPlace_22 dX7_needPlace_25 (Nat.le_of_ble_eq_true rfl) (Nat.le_of_ble_eq_true rfl) (Nat.le_of_ble_eq_true rfl) (Nat.le_of_ble_eq_true rfl) (Nat.le_of_ble_eq_true rfl)
set_option maxRecDepth 100000 in
set_option maxHeartbeats 4000000 in
theorem jX7_needPlace {κ : Cx} {fin : (Nat ⊕ Unit) → Mm → Prop} (hc : Jc κ RX7 cX7_needPlace 3 6 1 6 100) (he : Ed κ cX7_needPlace 1 6 (fun (b : Unit) => wV b) .return_ (fun b M => fin (.inr b) M)) (hX : EdX κ 1 6 fin) (x0 : Nat) (x1 : Int32) (x2 : Int32) : Jg κ (wM κ) 3 fin 0 0 0 [some ((7, .ref x0) : TV), some ((0, .int x1) : TV), some ((0, .int x2) : TV)] [] (fX7_needPlace x0 x1 x2) := by
  unfold fX7_needPlace
  refine J_aload_n (pc := 0) hc dX7_needPlace_0 rfl rfl ?_
  refine J_getA (pc := 1) hc clX7 (k := 0) (kd := 2) (Nat.le_of_ble_eq_true rfl) rfl (Nat.le_of_ble_eq_true rfl) tw295 (Or.inl rfl) dX7_needPlace_1 (fun v1 => ?_)
  refine J_iload_n (pc := 4) hc dX7_needPlace_4 rfl rfl ?_
  refine J_callVi (pc := 5) hc clX2 (As := [((0, .int x1) : TV)]) (KX2_hasLine v1 x1) dX7_needPlace_5 moX2_hasLine rfl tw577 tw469 tw470 tw3 tw471 rfl (Nat.le_of_ble_eq_true rfl) (Nat.le_of_ble_eq_true rfl) (Nat.le_of_ble_eq_true rfl) (Nat.le_of_ble_eq_true rfl) (Nat.le_of_ble_eq_true rfl) rfl (fun v2 => ?_)
  refine J_if_eq (pc := 8) (tgt := 15) hc dX7_needPlace_8 (by decide) ?_ ?_
  · refine J_sub (l' := [none, none, none]) (show subL _ _ from trivial) ?_
    exact jX7_needPlace_L15 hc he hX 
  · refine J_iload_n (pc := 11) hc dX7_needPlace_11 rfl rfl ?_
    refine J_if_ge (pc := 12) (tgt := 26) hc dX7_needPlace_12 (by decide) ?_ ?_
    · refine J_widen (k := 1) (n := 6) (Nat.le_of_ble_eq_true rfl) (Nat.le_of_ble_eq_true rfl) ?_
      exact J_vretX (pc := 26) he dX7_needPlace_26
    · refine J_sub (l' := [none, none, none]) (show subL _ _ from trivial) ?_
      exact jX7_needPlace_L15 hc he hX 
theorem moX7_needPlace : MOk yX7_needPlace 2 := ⟨by decide +kernel, by decide +kernel, by decide +kernel⟩
set_option maxRecDepth 100000 in
set_option maxHeartbeats 4000000 in
theorem KX7_needPlace (x0 : Nat) (x1 : Int32) (x2 : Int32) : CtX wV yX7_needPlace cX7_needPlace 3 none 6 1 6 100 [((7, .ref x0) : TV), ((0, .int x1) : TV), ((0, .int x2) : TV)] (fX7_needPlace x0 x1 x2) :=
  CtX_V (j := 0) (by decide +kernel) rfl rfl (Nat.le_of_ble_eq_true rfl) (fun κ fin hc he hX => jX7_needPlace hc he hX x0 x1 x2)
set_option maxRecDepth 100000 in
set_option maxHeartbeats 4000000 in
theorem jX7_run {κ : Cx} {fin : (Nat ⊕ Int32) → Mm → Prop} (hc : Jc κ RX7 cX7_run 3 7 1 6 122) (he : Ed κ cX7_run 1 6 (fun (b : Int32) => wI b) .ireturn (fun b M => fin (.inr b) M)) (hX : EdX κ 1 6 fin) (x0 : Nat) (x1 : Int32) (x2 : Int32) : Jg κ (wM κ) 3 fin 0 0 0 [some ((7, .ref x0) : TV), some ((0, .int x1) : TV), some ((0, .int x2) : TV)] [] (fX7_run x0 x1 x2) := by
  unfold fX7_run
  refine J_aload_n (pc := 0) hc dX7_run_0 rfl rfl ?_
  refine J_iload_n (pc := 1) hc dX7_run_1 rfl rfl ?_
  refine J_iload_n (pc := 2) hc dX7_run_2 rfl rfl ?_
  refine J_callVXv (pc := 3) hc hX clX7 (As := [((0, .int x1) : TV), ((0, .int x2) : TV)]) (KX7_needPlace x0 x1 x2) dX7_run_3 moX7_needPlace rfl tw1197 tw1199 twp34 tw2 tw1200 rfl (Nat.le_of_ble_eq_true rfl) (Nat.le_of_ble_eq_true rfl) (Nat.le_of_ble_eq_true rfl) (Nat.le_of_ble_eq_true rfl) (Nat.le_of_ble_eq_true rfl) rfl (fun _ => ?_)
  refine J_aload_n (pc := 6) hc dX7_run_6 rfl rfl ?_
  refine J_getA (pc := 7) hc clX7 (k := 0) (kd := 2) (Nat.le_of_ble_eq_true rfl) rfl (Nat.le_of_ble_eq_true rfl) tw295 (Or.inl rfl) dX7_run_7 (fun v1 => ?_)
  refine J_iload_n (pc := 10) hc dX7_run_10 rfl rfl ?_
  refine J_callVj (pc := 11) hc clX2 (As := [((0, .int x1) : TV)]) (KX2_rowAt v1 x1) dX7_run_11 moX2_rowAt rfl tw676 tw491 tw492 tw3 tw493 rfl (Nat.le_of_ble_eq_true rfl) (Nat.le_of_ble_eq_true rfl) (Nat.le_of_ble_eq_true rfl) (Nat.le_of_ble_eq_true rfl) (Nat.le_of_ble_eq_true rfl) rfl (fun v2 => ?_)
  refine J_aload_n (pc := 14) hc dX7_run_14 rfl rfl ?_
  refine J_getA (pc := 15) hc clX7 (k := 0) (kd := 2) (Nat.le_of_ble_eq_true rfl) rfl (Nat.le_of_ble_eq_true rfl) tw295 (Or.inl rfl) dX7_run_15 (fun v3 => ?_)
  refine J_getI (pc := 18) hc clX2 (k := 0) (Nat.le_of_ble_eq_true rfl) rfl tw56 (Or.inl rfl) dX7_run_18 (fun v4 => ?_)
  refine J_iload_n (pc := 21) hc dX7_run_21 rfl rfl ?_
  refine J_callSi (pc := 22) hc (As := [((0, .long v2) : TV), ((0, .int v4) : TV), ((0, .int x2) : TV)]) (KX7_runAt v2 v4 x2) dX7_run_22 moX7_runAt tw1202 tw1203 tw2 tw1204 rfl (Nat.le_of_ble_eq_true rfl) (Nat.le_of_ble_eq_true rfl) (Nat.le_of_ble_eq_true rfl) (Nat.le_of_ble_eq_true rfl) (Nat.le_of_ble_eq_true rfl) rfl (fun v5 => ?_)
  exact J_iretX (pc := 25) he dX7_run_25
theorem moX7_run : MOk yX7_run 2 := ⟨by decide +kernel, by decide +kernel, by decide +kernel⟩
set_option maxRecDepth 100000 in
set_option maxHeartbeats 4000000 in
theorem KX7_run (x0 : Nat) (x1 : Int32) (x2 : Int32) : CtX wI yX7_run cX7_run 3 (some .int) 7 1 6 122 [((7, .ref x0) : TV), ((0, .int x1) : TV), ((0, .int x2) : TV)] (fX7_run x0 x1 x2) :=
  CtX_I (j := 0) (by decide +kernel) rfl rfl (Nat.le_of_ble_eq_true rfl) (fun κ fin hc he hX => jX7_run hc he hX x0 x1 x2)
set_option maxRecDepth 100000 in
set_option maxHeartbeats 4000000 in
theorem jX7_mode_L15 {κ : Cx} {fin : (Nat ⊕ Int32) → Mm → Prop} (hc : Jc κ RX7 cX7_mode 4 7 2 12 124) (he : Ed κ cX7_mode 2 12 (fun (b : Int32) => wI b) .ireturn (fun b M => fin (.inr b) M)) (hX : EdX κ 2 12 fin) : Jg κ (wM κ) 4 fin 1 6 15 [none, none, none, none] [] (fX7_mode_L15) := by
  unfold fX7_mode_L15
  exact J_throw (pc := 15) (k := 0) (i := 20) hc hX cdX0 rfl tw649 tw29 dX7_mode_15 dX7_mode_18 dX7_mode_19 dX7_mode_21 dX7_mode_24 (Nat.le_of_ble_eq_true rfl) (Nat.le_of_ble_eq_true rfl) (Nat.le_of_ble_eq_true rfl) (Nat.le_of_ble_eq_true rfl) (Nat.le_of_ble_eq_true rfl)
set_option maxRecDepth 100000 in
set_option maxHeartbeats 4000000 in
theorem jX7_mode {κ : Cx} {fin : (Nat ⊕ Int32) → Mm → Prop} (hc : Jc κ RX7 cX7_mode 4 7 2 12 124) (he : Ed κ cX7_mode 2 12 (fun (b : Int32) => wI b) .ireturn (fun b M => fin (.inr b) M)) (hX : EdX κ 2 12 fin) (x0 : Nat) (x1 : Int32) (x2 : Int32) (x3 : Int32) : Jg κ (wM κ) 4 fin 0 0 0 [some ((7, .ref x0) : TV), some ((0, .int x1) : TV), some ((0, .int x2) : TV), some ((0, .int x3) : TV)] [] (fX7_mode x0 x1 x2 x3) := by
  unfold fX7_mode
  refine J_aload_n (pc := 0) hc dX7_mode_0 rfl rfl ?_
  refine J_iload_n (pc := 1) hc dX7_mode_1 rfl rfl ?_
  refine J_iload_n (pc := 2) hc dX7_mode_2 rfl rfl ?_
  refine J_callVXv (pc := 3) hc hX clX7 (As := [((0, .int x1) : TV), ((0, .int x2) : TV)]) (KX7_needPlace x0 x1 x2) dX7_mode_3 moX7_needPlace rfl tw1197 tw1199 twp34 tw2 tw1200 rfl (Nat.le_of_ble_eq_true rfl) (Nat.le_of_ble_eq_true rfl) (Nat.le_of_ble_eq_true rfl) (Nat.le_of_ble_eq_true rfl) (Nat.le_of_ble_eq_true rfl) rfl (fun _ => ?_)
  refine J_iload_n (pc := 6) hc dX7_mode_6 rfl rfl ?_
  refine J_if_lt (pc := 7) (tgt := 15) hc dX7_mode_7 (by decide) ?_ ?_
  · refine J_sub (l' := [none, none, none, none]) (show subL _ _ from trivial) ?_
    exact jX7_mode_L15 hc he hX 
  · refine J_iload_n (pc := 10) hc dX7_mode_10 rfl rfl ?_
    refine J_iconst (pc := 11) (v := 3) hc dX7_mode_11 (by decide) ?_
    refine J_icmp_le (pc := 12) (tgt := 25) hc dX7_mode_12 (by decide) ?_ ?_
    · refine J_aload_n (pc := 25) hc dX7_mode_25 rfl rfl ?_
      refine J_iload_n (pc := 26) hc dX7_mode_26 rfl rfl ?_
      refine J_callVv (pc := 27) hc clX7 (As := [((0, .int x1) : TV)]) (KX7_codeLine x0 x1) dX7_mode_27 moX7_codeLine rfl tw1004 tw1006 twp28 tw2 tw1007 rfl (Nat.le_of_ble_eq_true rfl) (Nat.le_of_ble_eq_true rfl) (Nat.le_of_ble_eq_true rfl) (Nat.le_of_ble_eq_true rfl) (Nat.le_of_ble_eq_true rfl) rfl (fun _ => ?_)
      refine J_aload_n (pc := 30) hc dX7_mode_30 rfl rfl ?_
      refine J_getA (pc := 31) hc clX7 (k := 4) (kd := 0) (Nat.le_of_ble_eq_true rfl) rfl (Nat.le_of_ble_eq_true rfl) tw299 (Or.inl rfl) dX7_mode_31 (fun v1 => ?_)
      refine J_iload_n (pc := 34) hc dX7_mode_34 rfl rfl ?_
      refine J_iload_n (pc := 35) hc dX7_mode_35 rfl rfl ?_
      refine J_callVi (pc := 36) hc clX0 (As := [((0, .int x2) : TV), ((0, .int x3) : TV)]) (KX0_modeNumber v1 x2 x3) dX7_mode_36 moX0_modeNumber rfl tw1212 tw1213 tw1214 tw8 tw1215 rfl (Nat.le_of_ble_eq_true rfl) (Nat.le_of_ble_eq_true rfl) (Nat.le_of_ble_eq_true rfl) (Nat.le_of_ble_eq_true rfl) (Nat.le_of_ble_eq_true rfl) rfl (fun v2 => ?_)
      refine J_widen (k := 2) (n := 12) (Nat.le_of_ble_eq_true rfl) (Nat.le_of_ble_eq_true rfl) ?_
      exact J_iretX (pc := 39) he dX7_mode_39
    · refine J_sub (l' := [none, none, none, none]) (show subL _ _ from trivial) ?_
      exact jX7_mode_L15 hc he hX 
theorem moX7_mode : MOk yX7_mode 3 := ⟨by decide +kernel, by decide +kernel, by decide +kernel⟩
set_option maxRecDepth 100000 in
set_option maxHeartbeats 4000000 in
theorem KX7_mode (x0 : Nat) (x1 : Int32) (x2 : Int32) (x3 : Int32) : CtX wI yX7_mode cX7_mode 4 (some .int) 7 2 12 124 [((7, .ref x0) : TV), ((0, .int x1) : TV), ((0, .int x2) : TV), ((0, .int x3) : TV)] (fX7_mode x0 x1 x2 x3) :=
  CtX_I (j := 0) (by decide +kernel) rfl rfl (Nat.le_of_ble_eq_true rfl) (fun κ fin hc he hX => jX7_mode hc he hX x0 x1 x2 x3)
set_option maxRecDepth 100000 in
set_option maxHeartbeats 4000000 in
theorem jX7_readBelow_L15 {κ : Cx} {fin : (Nat ⊕ Int32) → Mm → Prop} (hc : Jc κ RX7 cX7_readBelow 5 7 2 12 124) (he : Ed κ cX7_readBelow 2 12 (fun (b : Int32) => wI b) .ireturn (fun b M => fin (.inr b) M)) (hX : EdX κ 2 12 fin) (x0 : Nat) (x1 : Int32) (x2 : Int32) : Jg κ (wM κ) 5 fin 2 12 15 [some ((7, .ref x0) : TV), some ((0, .int x1) : TV), some ((0, .int x2) : TV), none, none] [] (fX7_readBelow_L15 x0 x1 x2) := by
  unfold fX7_readBelow_L15
  refine J_aload_n (pc := 15) hc dX7_readBelow_15 rfl rfl ?_
  refine J_iload_n (pc := 16) hc dX7_readBelow_16 rfl rfl ?_
  refine J_callVv (pc := 17) hc clX7 (As := [((0, .int x1) : TV)]) (KX7_codeLine x0 x1) dX7_readBelow_17 moX7_codeLine rfl tw1004 tw1006 twp28 tw2 tw1007 rfl (Nat.le_of_ble_eq_true rfl) (Nat.le_of_ble_eq_true rfl) (Nat.le_of_ble_eq_true rfl) (Nat.le_of_ble_eq_true rfl) (Nat.le_of_ble_eq_true rfl) rfl (fun _ => ?_)
  refine J_aload_n (pc := 20) hc dX7_readBelow_20 rfl rfl ?_
  refine J_getA (pc := 21) hc clX7 (k := 4) (kd := 0) (Nat.le_of_ble_eq_true rfl) rfl (Nat.le_of_ble_eq_true rfl) tw299 (Or.inl rfl) dX7_readBelow_21 (fun v1 => ?_)
  refine J_aload_n (pc := 24) hc dX7_readBelow_24 rfl rfl ?_
  refine J_getA (pc := 25) hc clX7 (k := 0) (kd := 2) (Nat.le_of_ble_eq_true rfl) rfl (Nat.le_of_ble_eq_true rfl) tw295 (Or.inl rfl) dX7_readBelow_25 (fun v2 => ?_)
  refine J_iload_n (pc := 28) hc dX7_readBelow_28 rfl rfl ?_
  refine J_callVj (pc := 29) hc clX2 (As := [((0, .int x2) : TV)]) (KX2_rowAt v2 x2) dX7_readBelow_29 moX2_rowAt rfl tw676 tw491 tw492 tw3 tw493 rfl (Nat.le_of_ble_eq_true rfl) (Nat.le_of_ble_eq_true rfl) (Nat.le_of_ble_eq_true rfl) (Nat.le_of_ble_eq_true rfl) (Nat.le_of_ble_eq_true rfl) rfl (fun v3 => ?_)
  refine J_aload_n (pc := 32) hc dX7_readBelow_32 rfl rfl ?_
  refine J_getA (pc := 33) hc clX7 (k := 0) (kd := 2) (Nat.le_of_ble_eq_true rfl) rfl (Nat.le_of_ble_eq_true rfl) tw295 (Or.inl rfl) dX7_readBelow_33 (fun v4 => ?_)
  refine J_getI (pc := 36) hc clX2 (k := 0) (Nat.le_of_ble_eq_true rfl) rfl tw56 (Or.inl rfl) dX7_readBelow_36 (fun v5 => ?_)
  refine J_callVj (pc := 39) hc clX0 (As := [((0, .long v3) : TV), ((0, .int v5) : TV)]) (KX0_readUnder v1 v3 v5) dX7_readBelow_39 moX0_readUnder rfl tw1224 tw1225 tw1226 tw8 tw1227 rfl (Nat.le_of_ble_eq_true rfl) (Nat.le_of_ble_eq_true rfl) (Nat.le_of_ble_eq_true rfl) (Nat.le_of_ble_eq_true rfl) (Nat.le_of_ble_eq_true rfl) rfl (fun v6 => ?_)
  refine J_lstore_n (pc := 42) (l' := [some ((7, .ref x0) : TV), some ((0, .int x1) : TV), some ((0, .int x2) : TV), some ((0, .long v6) : TV), none]) hc dX7_readBelow_42 rfl (by decide) rfl rfl ?_
  refine J_lload_n (pc := 43) hc dX7_readBelow_43 rfl rfl ?_
  refine J_ldc2 (pc := 44) (v := (-1)) hc dX7_readBelow_44 tw510 ?_
  refine J_lcmp (pc := 47) hc dX7_readBelow_47 ?_
  refine J_if_ne (pc := 48) (tgt := 55) hc dX7_readBelow_48 (by decide) ?_ ?_
  · refine J_lload_n (pc := 55) hc dX7_readBelow_55 rfl rfl ?_
    refine J_aload_n (pc := 56) hc dX7_readBelow_56 rfl rfl ?_
    refine J_getA (pc := 57) hc clX7 (k := 0) (kd := 2) (Nat.le_of_ble_eq_true rfl) rfl (Nat.le_of_ble_eq_true rfl) tw295 (Or.inl rfl) dX7_readBelow_57 (fun v7 => ?_)
    refine J_iload_n (pc := 60) hc dX7_readBelow_60 rfl rfl ?_
    refine J_callVj (pc := 61) hc clX2 (As := [((0, .int x1) : TV)]) (KX2_rowAt v7 x1) dX7_readBelow_61 moX2_rowAt rfl tw676 tw491 tw492 tw3 tw493 rfl (Nat.le_of_ble_eq_true rfl) (Nat.le_of_ble_eq_true rfl) (Nat.le_of_ble_eq_true rfl) (Nat.le_of_ble_eq_true rfl) (Nat.le_of_ble_eq_true rfl) rfl (fun v8 => ?_)
    refine J_lxor (pc := 64) hc dX7_readBelow_64 ?_
    refine J_callSi (pc := 65) hc (As := [((0, .long (v6 ^^^ v8)) : TV)]) (KJ13_bitCount_95d88 (v6 ^^^ v8)) dX7_readBelow_65 moJ13_bitCount_95d88 tw511 tw512 tw31 tw513 rfl (Nat.le_of_ble_eq_true rfl) (Nat.le_of_ble_eq_true rfl) (Nat.le_of_ble_eq_true rfl) (Nat.le_of_ble_eq_true rfl) (Nat.le_of_ble_eq_true rfl) rfl (fun v9 => ?_)
    exact J_iretX (pc := 68) he dX7_readBelow_68
  · refine J_iconst (pc := 51) (v := (-1)) hc dX7_readBelow_51 (by decide) ?_
    refine J_goto (pc := 52) (tgt := 68) hc dX7_readBelow_52 (by decide) ?_
    exact J_iretX (pc := 68) he dX7_readBelow_68
set_option maxRecDepth 100000 in
set_option maxHeartbeats 4000000 in
theorem jX7_readBelow {κ : Cx} {fin : (Nat ⊕ Int32) → Mm → Prop} (hc : Jc κ RX7 cX7_readBelow 5 7 2 12 124) (he : Ed κ cX7_readBelow 2 12 (fun (b : Int32) => wI b) .ireturn (fun b M => fin (.inr b) M)) (hX : EdX κ 2 12 fin) (x0 : Nat) (x1 : Int32) (x2 : Int32) : Jg κ (wM κ) 5 fin 0 0 0 [some ((7, .ref x0) : TV), some ((0, .int x1) : TV), some ((0, .int x2) : TV), none, none] [] (fX7_readBelow x0 x1 x2) := by
  unfold fX7_readBelow
  refine J_aload_n (pc := 0) hc dX7_readBelow_0 rfl rfl ?_
  refine J_iload_n (pc := 1) hc dX7_readBelow_1 rfl rfl ?_
  refine J_callVXv (pc := 2) hc hX clX7 (As := [((0, .int x1) : TV)]) (KX7_needLine x0 x1) dX7_readBelow_2 moX7_needLine rfl tw573 tw575 twp17 tw2 tw576 rfl (Nat.le_of_ble_eq_true rfl) (Nat.le_of_ble_eq_true rfl) (Nat.le_of_ble_eq_true rfl) (Nat.le_of_ble_eq_true rfl) (Nat.le_of_ble_eq_true rfl) rfl (fun _ => ?_)
  refine J_iload_n (pc := 5) hc dX7_readBelow_5 rfl rfl ?_
  refine J_iconst (pc := 6) (v := (-1)) hc dX7_readBelow_6 (by decide) ?_
  refine J_icmp_eq (pc := 7) (tgt := 15) hc dX7_readBelow_7 (by decide) ?_ ?_
  · refine J_widen (k := 2) (n := 12) (Nat.le_of_ble_eq_true rfl) (Nat.le_of_ble_eq_true rfl) ?_
    refine J_sub (l' := [some ((7, .ref x0) : TV), some ((0, .int x1) : TV), some ((0, .int x2) : TV), none, none]) ⟨rfl, ⟨rfl, ⟨rfl, trivial⟩⟩⟩ ?_
    exact jX7_readBelow_L15 hc he hX x0 x1 x2
  · refine J_aload_n (pc := 10) hc dX7_readBelow_10 rfl rfl ?_
    refine J_iload_n (pc := 11) hc dX7_readBelow_11 rfl rfl ?_
    refine J_callVXv (pc := 12) hc hX clX7 (As := [((0, .int x2) : TV)]) (KX7_needLine x0 x2) dX7_readBelow_12 moX7_needLine rfl tw573 tw575 twp17 tw2 tw576 rfl (Nat.le_of_ble_eq_true rfl) (Nat.le_of_ble_eq_true rfl) (Nat.le_of_ble_eq_true rfl) (Nat.le_of_ble_eq_true rfl) (Nat.le_of_ble_eq_true rfl) rfl (fun _ => ?_)
    refine J_sub (l' := [some ((7, .ref x0) : TV), some ((0, .int x1) : TV), some ((0, .int x2) : TV), none, none]) ⟨rfl, ⟨rfl, ⟨rfl, trivial⟩⟩⟩ ?_
    exact jX7_readBelow_L15 hc he hX x0 x1 x2
theorem moX7_readBelow : MOk yX7_readBelow 2 := ⟨by decide +kernel, by decide +kernel, by decide +kernel⟩
set_option maxRecDepth 100000 in
set_option maxHeartbeats 4000000 in
theorem KX7_readBelow (x0 : Nat) (x1 : Int32) (x2 : Int32) : CtX wI yX7_readBelow cX7_readBelow 5 (some .int) 7 2 12 124 [((7, .ref x0) : TV), ((0, .int x1) : TV), ((0, .int x2) : TV)] (fX7_readBelow x0 x1 x2) :=
  CtX_I (j := 2) (by decide +kernel) rfl rfl (Nat.le_of_ble_eq_true rfl) (fun κ fin hc he hX => jX7_readBelow hc he hX x0 x1 x2)
set_option maxRecDepth 100000 in
set_option maxHeartbeats 4000000 in
theorem jX7_needSpan_L31 {κ : Cx} {fin : (Nat ⊕ Unit) → Mm → Prop} (hc : Jc κ RX7 cX7_needSpan 3 6 1 6 100) (he : Ed κ cX7_needSpan 1 6 (fun (b : Unit) => wV b) .return_ (fun b M => fin (.inr b) M)) (hX : EdX κ 1 6 fin) : Jg κ (wM κ) 3 fin 0 0 31 [none, none, none] [] (fX7_needSpan_L31) := by
  unfold fX7_needSpan_L31
  exact J_throwW (pc := 31) (k := 0) (i := 15) hc hX cdX0 rfl tw649 tw29 dX7_needSpan_31 dX7_needSpan_34 dX7_needSpan_35 dX7_needSpan_38 dX7_needSpan_41 (Nat.le_of_ble_eq_true rfl) (Nat.le_of_ble_eq_true rfl) (Nat.le_of_ble_eq_true rfl) (Nat.le_of_ble_eq_true rfl) (Nat.le_of_ble_eq_true rfl)
set_option maxRecDepth 100000 in
set_option maxHeartbeats 4000000 in
theorem jX7_needSpan {κ : Cx} {fin : (Nat ⊕ Unit) → Mm → Prop} (hc : Jc κ RX7 cX7_needSpan 3 6 1 6 100) (he : Ed κ cX7_needSpan 1 6 (fun (b : Unit) => wV b) .return_ (fun b M => fin (.inr b) M)) (hX : EdX κ 1 6 fin) (x0 : Nat) (x1 : Int32) (x2 : Int32) : Jg κ (wM κ) 3 fin 0 0 0 [some ((7, .ref x0) : TV), some ((0, .int x1) : TV), some ((0, .int x2) : TV)] [] (fX7_needSpan x0 x1 x2) := by
  unfold fX7_needSpan
  refine J_iload_n (pc := 0) hc dX7_needSpan_0 rfl rfl ?_
  refine J_if_lt (pc := 1) (tgt := 31) hc dX7_needSpan_1 (by decide) ?_ ?_
  · refine J_sub (l' := [none, none, none]) (show subL _ _ from trivial) ?_
    exact jX7_needSpan_L31 hc he hX 
  · refine J_iload_n (pc := 4) hc dX7_needSpan_4 rfl rfl ?_
    refine J_aload_n (pc := 5) hc dX7_needSpan_5 rfl rfl ?_
    refine J_getA (pc := 6) hc clX7 (k := 0) (kd := 2) (Nat.le_of_ble_eq_true rfl) rfl (Nat.le_of_ble_eq_true rfl) tw295 (Or.inl rfl) dX7_needSpan_6 (fun v1 => ?_)
    refine J_getI (pc := 9) hc clX2 (k := 0) (Nat.le_of_ble_eq_true rfl) rfl tw56 (Or.inl rfl) dX7_needSpan_9 (fun v2 => ?_)
    refine J_icmp_gt (pc := 12) (tgt := 31) hc dX7_needSpan_12 (by decide) ?_ ?_
    · refine J_sub (l' := [none, none, none]) (show subL _ _ from trivial) ?_
      exact jX7_needSpan_L31 hc he hX 
    · refine J_iload_n (pc := 15) hc dX7_needSpan_15 rfl rfl ?_
      refine J_iload_n (pc := 16) hc dX7_needSpan_16 rfl rfl ?_
      refine J_icmp_lt (pc := 17) (tgt := 31) hc dX7_needSpan_17 (by decide) ?_ ?_
      · refine J_sub (l' := [none, none, none]) (show subL _ _ from trivial) ?_
        exact jX7_needSpan_L31 hc he hX 
      · refine J_iload_n (pc := 20) hc dX7_needSpan_20 rfl rfl ?_
        refine J_aload_n (pc := 21) hc dX7_needSpan_21 rfl rfl ?_
        refine J_getA (pc := 22) hc clX7 (k := 0) (kd := 2) (Nat.le_of_ble_eq_true rfl) rfl (Nat.le_of_ble_eq_true rfl) tw295 (Or.inl rfl) dX7_needSpan_22 (fun v3 => ?_)
        refine J_getI (pc := 25) hc clX2 (k := 0) (Nat.le_of_ble_eq_true rfl) rfl tw56 (Or.inl rfl) dX7_needSpan_25 (fun v4 => ?_)
        refine J_icmp_le (pc := 28) (tgt := 42) hc dX7_needSpan_28 (by decide) ?_ ?_
        · refine J_widen (k := 1) (n := 6) (Nat.le_of_ble_eq_true rfl) (Nat.le_of_ble_eq_true rfl) ?_
          exact J_vretX (pc := 42) he dX7_needSpan_42
        · refine J_sub (l' := [none, none, none]) (show subL _ _ from trivial) ?_
          exact jX7_needSpan_L31 hc he hX 
theorem moX7_needSpan : MOk yX7_needSpan 2 := ⟨by decide +kernel, by decide +kernel, by decide +kernel⟩
set_option maxRecDepth 100000 in
set_option maxHeartbeats 4000000 in
theorem KX7_needSpan (x0 : Nat) (x1 : Int32) (x2 : Int32) : CtX wV yX7_needSpan cX7_needSpan 3 none 6 1 6 100 [((7, .ref x0) : TV), ((0, .int x1) : TV), ((0, .int x2) : TV)] (fX7_needSpan x0 x1 x2) :=
  CtX_V (j := 0) (by decide +kernel) rfl rfl (Nat.le_of_ble_eq_true rfl) (fun κ fin hc he hX => jX7_needSpan hc he hX x0 x1 x2)
set_option maxRecDepth 100000 in
set_option maxHeartbeats 4000000 in
theorem jX7_paint_L66 {κ : Cx} {fin : (Nat ⊕ Int32) → Mm → Prop} (hc : Jc κ RX7 cX7_paint 9 7 7 69 122) (he : Ed κ cX7_paint 7 69 (fun (b : Int32) => wI b) .ireturn (fun b M => fin (.inr b) M)) (hX : EdX κ 7 69 fin) (x0 : Nat) (x1 : Int32) (x5 : Int64) (s0 : Int64) : Jg κ (wM κ) 9 fin 7 69 66 [some ((7, .ref x0) : TV), some ((0, .int x1) : TV), none, none, none, some ((0, .long x5) : TV), none, none, none] [((0, .long s0) : TV)] (fX7_paint_L66 x0 x1 x5 s0) := by
  unfold fX7_paint_L66
  refine J_lstore (pc := 66) (l' := [some ((7, .ref x0) : TV), some ((0, .int x1) : TV), none, none, none, some ((0, .long x5) : TV), none, some ((0, .long s0) : TV), none]) hc dX7_paint_66 (by decide) rfl rfl ?_
  refine J_aload_n (pc := 68) hc dX7_paint_68 rfl rfl ?_
  refine J_getA (pc := 69) hc clX7 (k := 0) (kd := 2) (Nat.le_of_ble_eq_true rfl) rfl (Nat.le_of_ble_eq_true rfl) tw295 (Or.inl rfl) dX7_paint_69 (fun v1 => ?_)
  refine J_iload_n (pc := 72) hc dX7_paint_72 rfl rfl ?_
  refine J_lload (pc := 73) hc dX7_paint_73 rfl ?_
  refine J_callVv (pc := 75) hc clX2 (As := [((0, .int x1) : TV), ((0, .long s0) : TV)]) (KX2_putRow v1 x1 s0) dX7_paint_75 moX2_putRow rfl tw678 tw465 tw466 tw3 tw467 rfl (Nat.le_of_ble_eq_true rfl) (Nat.le_of_ble_eq_true rfl) (Nat.le_of_ble_eq_true rfl) (Nat.le_of_ble_eq_true rfl) (Nat.le_of_ble_eq_true rfl) rfl (fun _ => ?_)
  refine J_lload (pc := 78) hc dX7_paint_78 rfl ?_
  refine J_lload (pc := 80) hc dX7_paint_80 rfl ?_
  refine J_lxor (pc := 82) hc dX7_paint_82 ?_
  refine J_callSi (pc := 83) hc (As := [((0, .long (x5 ^^^ s0)) : TV)]) (KJ13_bitCount_95d88 (x5 ^^^ s0)) dX7_paint_83 moJ13_bitCount_95d88 tw511 tw512 tw31 tw513 rfl (Nat.le_of_ble_eq_true rfl) (Nat.le_of_ble_eq_true rfl) (Nat.le_of_ble_eq_true rfl) (Nat.le_of_ble_eq_true rfl) (Nat.le_of_ble_eq_true rfl) rfl (fun v2 => ?_)
  exact J_iretX (pc := 86) he dX7_paint_86
set_option maxRecDepth 100000 in
set_option maxHeartbeats 4000000 in
theorem jX7_paint {κ : Cx} {fin : (Nat ⊕ Int32) → Mm → Prop} (hc : Jc κ RX7 cX7_paint 9 7 7 69 122) (he : Ed κ cX7_paint 7 69 (fun (b : Int32) => wI b) .ireturn (fun b M => fin (.inr b) M)) (hX : EdX κ 7 69 fin) (x0 : Nat) (x1 : Int32) (x2 : Int32) (x3 : Int32) (x4 : Int32) : Jg κ (wM κ) 9 fin 0 0 0 [some ((7, .ref x0) : TV), some ((0, .int x1) : TV), some ((0, .int x2) : TV), some ((0, .int x3) : TV), some ((0, .int x4) : TV), none, none, none, none] [] (fX7_paint x0 x1 x2 x3 x4) := by
  unfold fX7_paint
  refine J_aload_n (pc := 0) hc dX7_paint_0 rfl rfl ?_
  refine J_iload_n (pc := 1) hc dX7_paint_1 rfl rfl ?_
  refine J_callVXv (pc := 2) hc hX clX7 (As := [((0, .int x1) : TV)]) (KX7_needLine x0 x1) dX7_paint_2 moX7_needLine rfl tw573 tw575 twp17 tw2 tw576 rfl (Nat.le_of_ble_eq_true rfl) (Nat.le_of_ble_eq_true rfl) (Nat.le_of_ble_eq_true rfl) (Nat.le_of_ble_eq_true rfl) (Nat.le_of_ble_eq_true rfl) rfl (fun _ => ?_)
  refine J_aload_n (pc := 5) hc dX7_paint_5 rfl rfl ?_
  refine J_iload_n (pc := 6) hc dX7_paint_6 rfl rfl ?_
  refine J_iload_n (pc := 7) hc dX7_paint_7 rfl rfl ?_
  refine J_callVXv (pc := 8) hc hX clX7 (As := [((0, .int x2) : TV), ((0, .int x3) : TV)]) (KX7_needSpan x0 x2 x3) dX7_paint_8 moX7_needSpan rfl tw645 tw647 twp19 tw2 tw648 rfl (Nat.le_of_ble_eq_true rfl) (Nat.le_of_ble_eq_true rfl) (Nat.le_of_ble_eq_true rfl) (Nat.le_of_ble_eq_true rfl) (Nat.le_of_ble_eq_true rfl) rfl (fun _ => ?_)
  refine J_iload (pc := 11) hc dX7_paint_11 rfl ?_
  refine J_callSXv (pc := 13) hc hX (As := [((0, .int x4) : TV)]) (KX7_needColour x4) dX7_paint_13 moX7_needColour tw665 tw666 tw2 tw667 rfl (Nat.le_of_ble_eq_true rfl) (Nat.le_of_ble_eq_true rfl) (Nat.le_of_ble_eq_true rfl) (Nat.le_of_ble_eq_true rfl) (Nat.le_of_ble_eq_true rfl) rfl (fun _ => ?_)
  refine J_aload_n (pc := 16) hc dX7_paint_16 rfl rfl ?_
  refine J_getA (pc := 17) hc clX7 (k := 1) (kd := 1) (Nat.le_of_ble_eq_true rfl) rfl (Nat.le_of_ble_eq_true rfl) tw296 (Or.inl rfl) dX7_paint_17 (fun v3 => ?_)
  refine J_aload_n (pc := 20) hc dX7_paint_20 rfl rfl ?_
  refine J_getA (pc := 21) hc clX7 (k := 0) (kd := 2) (Nat.le_of_ble_eq_true rfl) rfl (Nat.le_of_ble_eq_true rfl) tw295 (Or.inl rfl) dX7_paint_21 (fun v4 => ?_)
  refine J_callVv (pc := 24) hc clX1 (As := [((2, .ref v4) : TV)]) (KX1_keep v3 v4) dX7_paint_24 moX1_keep rfl tw669 tw670 tw671 tw4 tw672 rfl (Nat.le_of_ble_eq_true rfl) (Nat.le_of_ble_eq_true rfl) (Nat.le_of_ble_eq_true rfl) (Nat.le_of_ble_eq_true rfl) (Nat.le_of_ble_eq_true rfl) rfl (fun _ => ?_)
  refine J_aload_n (pc := 27) hc dX7_paint_27 rfl rfl ?_
  refine J_getA (pc := 28) hc clX7 (k := 0) (kd := 2) (Nat.le_of_ble_eq_true rfl) rfl (Nat.le_of_ble_eq_true rfl) tw295 (Or.inl rfl) dX7_paint_28 (fun v5 => ?_)
  refine J_iload_n (pc := 31) hc dX7_paint_31 rfl rfl ?_
  refine J_callVj (pc := 32) hc clX2 (As := [((0, .int x1) : TV)]) (KX2_rowAt v5 x1) dX7_paint_32 moX2_rowAt rfl tw676 tw491 tw492 tw3 tw493 rfl (Nat.le_of_ble_eq_true rfl) (Nat.le_of_ble_eq_true rfl) (Nat.le_of_ble_eq_true rfl) (Nat.le_of_ble_eq_true rfl) (Nat.le_of_ble_eq_true rfl) rfl (fun v6 => ?_)
  refine J_lstore (pc := 35) (l' := [some ((7, .ref x0) : TV), some ((0, .int x1) : TV), some ((0, .int x2) : TV), some ((0, .int x3) : TV), some ((0, .int x4) : TV), some ((0, .long v6) : TV), none, none, none]) hc dX7_paint_35 (by decide) rfl rfl ?_
  refine J_iload (pc := 37) hc dX7_paint_37 rfl ?_
  refine J_iconst (pc := 39) (v := 1) hc dX7_paint_39 (by decide) ?_
  refine J_icmp_ne (pc := 40) (tgt := 54) hc dX7_paint_40 (by decide) ?_ ?_
  · refine J_lload (pc := 54) hc dX7_paint_54 rfl ?_
    refine J_iload_n (pc := 56) hc dX7_paint_56 rfl rfl ?_
    refine J_iload_n (pc := 57) hc dX7_paint_57 rfl rfl ?_
    refine J_callSj (pc := 58) hc (As := [((0, .int x2) : TV), ((0, .int x3) : TV)]) (KX7_span x2 x3) dX7_paint_58 moX7_span tw677 tw480 tw2 tw481 rfl (Nat.le_of_ble_eq_true rfl) (Nat.le_of_ble_eq_true rfl) (Nat.le_of_ble_eq_true rfl) (Nat.le_of_ble_eq_true rfl) (Nat.le_of_ble_eq_true rfl) rfl (fun v7 => ?_)
    refine J_ldc2 (pc := 61) (v := (-1)) hc dX7_paint_61 tw510 ?_
    refine J_lxor (pc := 64) hc dX7_paint_64 ?_
    refine J_land (pc := 65) hc dX7_paint_65 ?_
    refine J_sub (l' := [some ((7, .ref x0) : TV), some ((0, .int x1) : TV), none, none, none, some ((0, .long v6) : TV), none, none, none]) ⟨rfl, ⟨rfl, ⟨rfl, trivial⟩⟩⟩ ?_
    exact jX7_paint_L66 hc he hX x0 x1 v6 (v6 &&& (v7 ^^^ (-1)))
  · refine J_lload (pc := 43) hc dX7_paint_43 rfl ?_
    refine J_iload_n (pc := 45) hc dX7_paint_45 rfl rfl ?_
    refine J_iload_n (pc := 46) hc dX7_paint_46 rfl rfl ?_
    refine J_callSj (pc := 47) hc (As := [((0, .int x2) : TV), ((0, .int x3) : TV)]) (KX7_span x2 x3) dX7_paint_47 moX7_span tw677 tw480 tw2 tw481 rfl (Nat.le_of_ble_eq_true rfl) (Nat.le_of_ble_eq_true rfl) (Nat.le_of_ble_eq_true rfl) (Nat.le_of_ble_eq_true rfl) (Nat.le_of_ble_eq_true rfl) rfl (fun v8 => ?_)
    refine J_lor (pc := 50) hc dX7_paint_50 ?_
    refine J_goto (pc := 51) (tgt := 66) hc dX7_paint_51 (by decide) ?_
    refine J_sub (l' := [some ((7, .ref x0) : TV), some ((0, .int x1) : TV), none, none, none, some ((0, .long v6) : TV), none, none, none]) ⟨rfl, ⟨rfl, ⟨rfl, trivial⟩⟩⟩ ?_
    exact jX7_paint_L66 hc he hX x0 x1 v6 (v6 ||| v8)
theorem moX7_paint : MOk yX7_paint 4 := ⟨by decide +kernel, by decide +kernel, by decide +kernel⟩
set_option maxRecDepth 100000 in
set_option maxHeartbeats 4000000 in
theorem KX7_paint (x0 : Nat) (x1 : Int32) (x2 : Int32) (x3 : Int32) (x4 : Int32) : CtX wI yX7_paint cX7_paint 9 (some .int) 7 7 69 122 [((7, .ref x0) : TV), ((0, .int x1) : TV), ((0, .int x2) : TV), ((0, .int x3) : TV), ((0, .int x4) : TV)] (fX7_paint x0 x1 x2 x3 x4) :=
  CtX_I (j := 4) (by decide +kernel) rfl rfl (Nat.le_of_ble_eq_true rfl) (fun κ fin hc he hX => jX7_paint hc he hX x0 x1 x2 x3 x4)
set_option maxRecDepth 100000 in
set_option maxHeartbeats 4000000 in
theorem jX7_shift_L66 {κ : Cx} {fin : (Nat ⊕ Int32) → Mm → Prop} (hc : Jc κ RX7 cX7_shift 5 7 5 57 121) (he : Ed κ cX7_shift 5 57 (fun (b : Int32) => wI b) .ireturn (fun b M => fin (.inr b) M)) (hX : EdX κ 5 57 fin) (x0 : Nat) (x1 : Int32) (s0 : Int64) (s1 : Int32) (s2 : Nat) : Jg κ (wM κ) 5 fin 5 57 66 [some ((7, .ref x0) : TV), some ((0, .int x1) : TV), none, none, none] [((0, .long s0) : TV), ((0, .int s1) : TV), ((2, .ref s2) : TV)] (fX7_shift_L66 x0 x1 s0 s1 s2) := by
  unfold fX7_shift_L66
  refine J_callVv (pc := 66) hc clX2 (As := [((0, .int s1) : TV), ((0, .long s0) : TV)]) (KX2_putRow s2 s1 s0) dX7_shift_66 moX2_putRow rfl tw678 tw465 tw466 tw3 tw467 rfl (Nat.le_of_ble_eq_true rfl) (Nat.le_of_ble_eq_true rfl) (Nat.le_of_ble_eq_true rfl) (Nat.le_of_ble_eq_true rfl) (Nat.le_of_ble_eq_true rfl) rfl (fun _ => ?_)
  refine J_aload_n (pc := 69) hc dX7_shift_69 rfl rfl ?_
  refine J_getA (pc := 70) hc clX7 (k := 0) (kd := 2) (Nat.le_of_ble_eq_true rfl) rfl (Nat.le_of_ble_eq_true rfl) tw295 (Or.inl rfl) dX7_shift_70 (fun v1 => ?_)
  refine J_iload_n (pc := 73) hc dX7_shift_73 rfl rfl ?_
  refine J_callVj (pc := 74) hc clX2 (As := [((0, .int x1) : TV)]) (KX2_rowAt v1 x1) dX7_shift_74 moX2_rowAt rfl tw676 tw491 tw492 tw3 tw493 rfl (Nat.le_of_ble_eq_true rfl) (Nat.le_of_ble_eq_true rfl) (Nat.le_of_ble_eq_true rfl) (Nat.le_of_ble_eq_true rfl) (Nat.le_of_ble_eq_true rfl) rfl (fun v2 => ?_)
  refine J_callSi (pc := 77) hc (As := [((0, .long v2) : TV)]) (KJ13_bitCount_95d88 v2) dX7_shift_77 moJ13_bitCount_95d88 tw511 tw512 tw31 tw513 rfl (Nat.le_of_ble_eq_true rfl) (Nat.le_of_ble_eq_true rfl) (Nat.le_of_ble_eq_true rfl) (Nat.le_of_ble_eq_true rfl) (Nat.le_of_ble_eq_true rfl) rfl (fun v3 => ?_)
  exact J_iretX (pc := 80) he dX7_shift_80
set_option maxRecDepth 100000 in
set_option maxHeartbeats 4000000 in
theorem jX7_shift_L17 {κ : Cx} {fin : (Nat ⊕ Int32) → Mm → Prop} (hc : Jc κ RX7 cX7_shift 5 7 5 57 121) (he : Ed κ cX7_shift 5 57 (fun (b : Int32) => wI b) .ireturn (fun b M => fin (.inr b) M)) (hX : EdX κ 5 57 fin) : Jg κ (wM κ) 5 fin 1 6 17 [none, none, none, none, none] [] (fX7_shift_L17) := by
  unfold fX7_shift_L17
  exact J_throw (pc := 17) (k := 0) (i := 17) hc hX cdX0 rfl tw649 tw29 dX7_shift_17 dX7_shift_20 dX7_shift_21 dX7_shift_23 dX7_shift_26 (Nat.le_of_ble_eq_true rfl) (Nat.le_of_ble_eq_true rfl) (Nat.le_of_ble_eq_true rfl) (Nat.le_of_ble_eq_true rfl) (Nat.le_of_ble_eq_true rfl)
set_option maxRecDepth 100000 in
set_option maxHeartbeats 4000000 in
theorem jX7_shift {κ : Cx} {fin : (Nat ⊕ Int32) → Mm → Prop} (hc : Jc κ RX7 cX7_shift 5 7 5 57 121) (he : Ed κ cX7_shift 5 57 (fun (b : Int32) => wI b) .ireturn (fun b M => fin (.inr b) M)) (hX : EdX κ 5 57 fin) (x0 : Nat) (x1 : Int32) (x2 : Int32) : Jg κ (wM κ) 5 fin 0 0 0 [some ((7, .ref x0) : TV), some ((0, .int x1) : TV), some ((0, .int x2) : TV), none, none] [] (fX7_shift x0 x1 x2) := by
  unfold fX7_shift
  refine J_aload_n (pc := 0) hc dX7_shift_0 rfl rfl ?_
  refine J_iload_n (pc := 1) hc dX7_shift_1 rfl rfl ?_
  refine J_callVXv (pc := 2) hc hX clX7 (As := [((0, .int x1) : TV)]) (KX7_needLine x0 x1) dX7_shift_2 moX7_needLine rfl tw573 tw575 twp17 tw2 tw576 rfl (Nat.le_of_ble_eq_true rfl) (Nat.le_of_ble_eq_true rfl) (Nat.le_of_ble_eq_true rfl) (Nat.le_of_ble_eq_true rfl) (Nat.le_of_ble_eq_true rfl) rfl (fun _ => ?_)
  refine J_iload_n (pc := 5) hc dX7_shift_5 rfl rfl ?_
  refine J_bipush (pc := 6) (v := (-40)) hc dX7_shift_6 (by decide) ?_
  refine J_icmp_lt (pc := 8) (tgt := 17) hc dX7_shift_8 (by decide) ?_ ?_
  · refine J_sub (l' := [none, none, none, none, none]) (show subL _ _ from trivial) ?_
    exact jX7_shift_L17 hc he hX 
  · refine J_iload_n (pc := 11) hc dX7_shift_11 rfl rfl ?_
    refine J_bipush (pc := 12) (v := 40) hc dX7_shift_12 (by decide) ?_
    refine J_icmp_le (pc := 14) (tgt := 27) hc dX7_shift_14 (by decide) ?_ ?_
    · refine J_aload_n (pc := 27) hc dX7_shift_27 rfl rfl ?_
      refine J_getA (pc := 28) hc clX7 (k := 1) (kd := 1) (Nat.le_of_ble_eq_true rfl) rfl (Nat.le_of_ble_eq_true rfl) tw296 (Or.inl rfl) dX7_shift_28 (fun v4 => ?_)
      refine J_aload_n (pc := 31) hc dX7_shift_31 rfl rfl ?_
      refine J_getA (pc := 32) hc clX7 (k := 0) (kd := 2) (Nat.le_of_ble_eq_true rfl) rfl (Nat.le_of_ble_eq_true rfl) tw295 (Or.inl rfl) dX7_shift_32 (fun v5 => ?_)
      refine J_callVv (pc := 35) hc clX1 (As := [((2, .ref v5) : TV)]) (KX1_keep v4 v5) dX7_shift_35 moX1_keep rfl tw669 tw670 tw671 tw4 tw672 rfl (Nat.le_of_ble_eq_true rfl) (Nat.le_of_ble_eq_true rfl) (Nat.le_of_ble_eq_true rfl) (Nat.le_of_ble_eq_true rfl) (Nat.le_of_ble_eq_true rfl) rfl (fun _ => ?_)
      refine J_aload_n (pc := 38) hc dX7_shift_38 rfl rfl ?_
      refine J_getA (pc := 39) hc clX7 (k := 0) (kd := 2) (Nat.le_of_ble_eq_true rfl) rfl (Nat.le_of_ble_eq_true rfl) tw295 (Or.inl rfl) dX7_shift_39 (fun v6 => ?_)
      refine J_iload_n (pc := 42) hc dX7_shift_42 rfl rfl ?_
      refine J_callVj (pc := 43) hc clX2 (As := [((0, .int x1) : TV)]) (KX2_rowAt v6 x1) dX7_shift_43 moX2_rowAt rfl tw676 tw491 tw492 tw3 tw493 rfl (Nat.le_of_ble_eq_true rfl) (Nat.le_of_ble_eq_true rfl) (Nat.le_of_ble_eq_true rfl) (Nat.le_of_ble_eq_true rfl) (Nat.le_of_ble_eq_true rfl) rfl (fun v7 => ?_)
      refine J_lstore_n (pc := 46) (l' := [some ((7, .ref x0) : TV), some ((0, .int x1) : TV), some ((0, .int x2) : TV), some ((0, .long v7) : TV), none]) hc dX7_shift_46 rfl (by decide) rfl rfl ?_
      refine J_aload_n (pc := 47) hc dX7_shift_47 rfl rfl ?_
      refine J_getA (pc := 48) hc clX7 (k := 0) (kd := 2) (Nat.le_of_ble_eq_true rfl) rfl (Nat.le_of_ble_eq_true rfl) tw295 (Or.inl rfl) dX7_shift_48 (fun v8 => ?_)
      refine J_iload_n (pc := 51) hc dX7_shift_51 rfl rfl ?_
      refine J_iload_n (pc := 52) hc dX7_shift_52 rfl rfl ?_
      refine J_if_ge (pc := 53) (tgt := 63) hc dX7_shift_53 (by decide) ?_ ?_
      · refine J_lload_n (pc := 63) hc dX7_shift_63 rfl rfl ?_
        refine J_iload_n (pc := 64) hc dX7_shift_64 rfl rfl ?_
        refine J_lshlN (pc := 65) hc dX7_shift_65 ?_
        refine J_sub (l' := [some ((7, .ref x0) : TV), some ((0, .int x1) : TV), none, none, none]) ⟨rfl, ⟨rfl, trivial⟩⟩ ?_
        exact jX7_shift_L66 hc he hX x0 x1 (lsh v7 x2) x1 v8
      · refine J_lload_n (pc := 56) hc dX7_shift_56 rfl rfl ?_
        refine J_iload_n (pc := 57) hc dX7_shift_57 rfl rfl ?_
        refine J_ineg (pc := 58) hc dX7_shift_58 ?_
        refine J_lushrN (pc := 59) hc dX7_shift_59 ?_
        refine J_goto (pc := 60) (tgt := 66) hc dX7_shift_60 (by decide) ?_
        refine J_sub (l' := [some ((7, .ref x0) : TV), some ((0, .int x1) : TV), none, none, none]) ⟨rfl, ⟨rfl, trivial⟩⟩ ?_
        exact jX7_shift_L66 hc he hX x0 x1 (lush v7 (-x2)) x1 v8
    · refine J_sub (l' := [none, none, none, none, none]) (show subL _ _ from trivial) ?_
      exact jX7_shift_L17 hc he hX 
theorem moX7_shift : MOk yX7_shift 2 := ⟨by decide +kernel, by decide +kernel, by decide +kernel⟩
set_option maxRecDepth 100000 in
set_option maxHeartbeats 4000000 in
theorem KX7_shift (x0 : Nat) (x1 : Int32) (x2 : Int32) : CtX wI yX7_shift cX7_shift 5 (some .int) 7 5 57 121 [((7, .ref x0) : TV), ((0, .int x1) : TV), ((0, .int x2) : TV)] (fX7_shift x0 x1 x2) :=
  CtX_I (j := 2) (by decide +kernel) rfl rfl (Nat.le_of_ble_eq_true rfl) (fun κ fin hc he hX => jX7_shift hc he hX x0 x1 x2)
set_option maxRecDepth 100000 in
set_option maxHeartbeats 4000000 in
theorem jX7_needRoom {κ : Cx} {fin : (Nat ⊕ Unit) → Mm → Prop} (hc : Jc κ RX7 cX7_needRoom 1 6 1 6 100) (he : Ed κ cX7_needRoom 1 6 (fun (b : Unit) => wV b) .return_ (fun b M => fin (.inr b) M)) (hX : EdX κ 1 6 fin) (x0 : Nat) : Jg κ (wM κ) 1 fin 0 0 0 [some ((7, .ref x0) : TV)] [] (fX7_needRoom x0) := by
  unfold fX7_needRoom
  refine J_aload_n (pc := 0) hc dX7_needRoom_0 rfl rfl ?_
  refine J_getA (pc := 1) hc clX7 (k := 0) (kd := 2) (Nat.le_of_ble_eq_true rfl) rfl (Nat.le_of_ble_eq_true rfl) tw295 (Or.inl rfl) dX7_needRoom_1 (fun v1 => ?_)
  refine J_getI (pc := 4) hc clX2 (k := 1) (Nat.le_of_ble_eq_true rfl) rfl tw59 (Or.inl rfl) dX7_needRoom_4 (fun v2 => ?_)
  refine J_bipush (pc := 7) (v := 20) hc dX7_needRoom_7 (by decide) ?_
  refine J_icmp_lt (pc := 9) (tgt := 23) hc dX7_needRoom_9 (by decide) ?_ ?_
  · refine J_widen (k := 1) (n := 6) (Nat.le_of_ble_eq_true rfl) (Nat.le_of_ble_eq_true rfl) ?_
    exact J_vretX (pc := 23) he dX7_needRoom_23
  · exact J_throwW (pc := 12) (k := 1) (i := 19) hc hX cdX1 rfl tw693 tw30 dX7_needRoom_12 dX7_needRoom_15 dX7_needRoom_16 dX7_needRoom_19 dX7_needRoom_22 (Nat.le_of_ble_eq_true rfl) (Nat.le_of_ble_eq_true rfl) (Nat.le_of_ble_eq_true rfl) (Nat.le_of_ble_eq_true rfl) (Nat.le_of_ble_eq_true rfl)
theorem moX7_needRoom : MOk yX7_needRoom 0 := ⟨by decide +kernel, by decide +kernel, by decide +kernel⟩
set_option maxRecDepth 100000 in
set_option maxHeartbeats 4000000 in
theorem KX7_needRoom (x0 : Nat) : CtX wV yX7_needRoom cX7_needRoom 1 none 6 1 6 100 [((7, .ref x0) : TV)] (fX7_needRoom x0) :=
  CtX_V (j := 0) (by decide +kernel) rfl rfl (Nat.le_of_ble_eq_true rfl) (fun κ fin hc he hX => jX7_needRoom hc he hX x0)
set_option maxRecDepth 100000 in
set_option maxHeartbeats 4000000 in
theorem jX7_copyLine_L20 {κ : Cx} {fin : (Nat ⊕ Int32) → Mm → Prop} (hc : Jc κ RX7 cX7_copyLine 3 7 6 63 121) (he : Ed κ cX7_copyLine 6 63 (fun (b : Int32) => wI b) .ireturn (fun b M => fin (.inr b) M)) (hX : EdX κ 6 63 fin) : Jg κ (wM κ) 3 fin 1 6 20 [none, none, none] [] (fX7_copyLine_L20) := by
  unfold fX7_copyLine_L20
  exact J_throw (pc := 20) (k := 2) (i := 18) hc hX cdX2 rfl tw578 tw32 dX7_copyLine_20 dX7_copyLine_23 dX7_copyLine_24 dX7_copyLine_26 dX7_copyLine_29 (Nat.le_of_ble_eq_true rfl) (Nat.le_of_ble_eq_true rfl) (Nat.le_of_ble_eq_true rfl) (Nat.le_of_ble_eq_true rfl) (Nat.le_of_ble_eq_true rfl)
set_option maxRecDepth 100000 in
set_option maxHeartbeats 4000000 in
theorem jX7_copyLine {κ : Cx} {fin : (Nat ⊕ Int32) → Mm → Prop} (hc : Jc κ RX7 cX7_copyLine 3 7 6 63 121) (he : Ed κ cX7_copyLine 6 63 (fun (b : Int32) => wI b) .ireturn (fun b M => fin (.inr b) M)) (hX : EdX κ 6 63 fin) (x0 : Nat) (x1 : Int32) (x2 : Int32) : Jg κ (wM κ) 3 fin 0 0 0 [some ((7, .ref x0) : TV), some ((0, .int x1) : TV), some ((0, .int x2) : TV)] [] (fX7_copyLine x0 x1 x2) := by
  unfold fX7_copyLine
  refine J_aload_n (pc := 0) hc dX7_copyLine_0 rfl rfl ?_
  refine J_iload_n (pc := 1) hc dX7_copyLine_1 rfl rfl ?_
  refine J_callVXv (pc := 2) hc hX clX7 (As := [((0, .int x1) : TV)]) (KX7_needLine x0 x1) dX7_copyLine_2 moX7_needLine rfl tw573 tw575 twp17 tw2 tw576 rfl (Nat.le_of_ble_eq_true rfl) (Nat.le_of_ble_eq_true rfl) (Nat.le_of_ble_eq_true rfl) (Nat.le_of_ble_eq_true rfl) (Nat.le_of_ble_eq_true rfl) rfl (fun _ => ?_)
  refine J_iload_n (pc := 5) hc dX7_copyLine_5 rfl rfl ?_
  refine J_if_lt (pc := 6) (tgt := 20) hc dX7_copyLine_6 (by decide) ?_ ?_
  · refine J_sub (l' := [none, none, none]) (show subL _ _ from trivial) ?_
    exact jX7_copyLine_L20 hc he hX 
  · refine J_iload_n (pc := 9) hc dX7_copyLine_9 rfl rfl ?_
    refine J_aload_n (pc := 10) hc dX7_copyLine_10 rfl rfl ?_
    refine J_getA (pc := 11) hc clX7 (k := 0) (kd := 2) (Nat.le_of_ble_eq_true rfl) rfl (Nat.le_of_ble_eq_true rfl) tw295 (Or.inl rfl) dX7_copyLine_11 (fun v1 => ?_)
    refine J_getI (pc := 14) hc clX2 (k := 1) (Nat.le_of_ble_eq_true rfl) rfl tw59 (Or.inl rfl) dX7_copyLine_14 (fun v2 => ?_)
    refine J_icmp_le (pc := 17) (tgt := 30) hc dX7_copyLine_17 (by decide) ?_ ?_
    · refine J_aload_n (pc := 30) hc dX7_copyLine_30 rfl rfl ?_
      refine J_callVXv (pc := 31) hc hX clX7 (As := []) (KX7_needRoom x0) dX7_copyLine_31 moX7_needRoom rfl tw689 tw691 twp20 tw2 tw692 rfl (Nat.le_of_ble_eq_true rfl) (Nat.le_of_ble_eq_true rfl) (Nat.le_of_ble_eq_true rfl) (Nat.le_of_ble_eq_true rfl) (Nat.le_of_ble_eq_true rfl) rfl (fun _ => ?_)
      refine J_aload_n (pc := 34) hc dX7_copyLine_34 rfl rfl ?_
      refine J_getA (pc := 35) hc clX7 (k := 1) (kd := 1) (Nat.le_of_ble_eq_true rfl) rfl (Nat.le_of_ble_eq_true rfl) tw296 (Or.inl rfl) dX7_copyLine_35 (fun v3 => ?_)
      refine J_aload_n (pc := 38) hc dX7_copyLine_38 rfl rfl ?_
      refine J_getA (pc := 39) hc clX7 (k := 0) (kd := 2) (Nat.le_of_ble_eq_true rfl) rfl (Nat.le_of_ble_eq_true rfl) tw295 (Or.inl rfl) dX7_copyLine_39 (fun v4 => ?_)
      refine J_callVv (pc := 42) hc clX1 (As := [((2, .ref v4) : TV)]) (KX1_keep v3 v4) dX7_copyLine_42 moX1_keep rfl tw669 tw670 tw671 tw4 tw672 rfl (Nat.le_of_ble_eq_true rfl) (Nat.le_of_ble_eq_true rfl) (Nat.le_of_ble_eq_true rfl) (Nat.le_of_ble_eq_true rfl) (Nat.le_of_ble_eq_true rfl) rfl (fun _ => ?_)
      refine J_aload_n (pc := 45) hc dX7_copyLine_45 rfl rfl ?_
      refine J_getA (pc := 46) hc clX7 (k := 0) (kd := 2) (Nat.le_of_ble_eq_true rfl) rfl (Nat.le_of_ble_eq_true rfl) tw295 (Or.inl rfl) dX7_copyLine_46 (fun v5 => ?_)
      refine J_iload_n (pc := 49) hc dX7_copyLine_49 rfl rfl ?_
      refine J_aload_n (pc := 50) hc dX7_copyLine_50 rfl rfl ?_
      refine J_getA (pc := 51) hc clX7 (k := 0) (kd := 2) (Nat.le_of_ble_eq_true rfl) rfl (Nat.le_of_ble_eq_true rfl) tw295 (Or.inl rfl) dX7_copyLine_51 (fun v6 => ?_)
      refine J_iload_n (pc := 54) hc dX7_copyLine_54 rfl rfl ?_
      refine J_callVj (pc := 55) hc clX2 (As := [((0, .int x1) : TV)]) (KX2_rowAt v6 x1) dX7_copyLine_55 moX2_rowAt rfl tw676 tw491 tw492 tw3 tw493 rfl (Nat.le_of_ble_eq_true rfl) (Nat.le_of_ble_eq_true rfl) (Nat.le_of_ble_eq_true rfl) (Nat.le_of_ble_eq_true rfl) (Nat.le_of_ble_eq_true rfl) rfl (fun v7 => ?_)
      refine J_callVv (pc := 58) hc clX2 (As := [((0, .int x2) : TV), ((0, .long v7) : TV)]) (KX2_insertRow v5 x2 v7) dX7_copyLine_58 moX2_insertRow rfl tw709 tw461 tw462 tw3 tw463 rfl (Nat.le_of_ble_eq_true rfl) (Nat.le_of_ble_eq_true rfl) (Nat.le_of_ble_eq_true rfl) (Nat.le_of_ble_eq_true rfl) (Nat.le_of_ble_eq_true rfl) rfl (fun _ => ?_)
      refine J_aload_n (pc := 61) hc dX7_copyLine_61 rfl rfl ?_
      refine J_getA (pc := 62) hc clX7 (k := 0) (kd := 2) (Nat.le_of_ble_eq_true rfl) rfl (Nat.le_of_ble_eq_true rfl) tw295 (Or.inl rfl) dX7_copyLine_62 (fun v8 => ?_)
      refine J_getI (pc := 65) hc clX2 (k := 1) (Nat.le_of_ble_eq_true rfl) rfl tw59 (Or.inl rfl) dX7_copyLine_65 (fun v9 => ?_)
      exact J_iretX (pc := 68) he dX7_copyLine_68
    · refine J_sub (l' := [none, none, none]) (show subL _ _ from trivial) ?_
      exact jX7_copyLine_L20 hc he hX 
theorem moX7_copyLine : MOk yX7_copyLine 2 := ⟨by decide +kernel, by decide +kernel, by decide +kernel⟩
set_option maxRecDepth 100000 in
set_option maxHeartbeats 4000000 in
theorem KX7_copyLine (x0 : Nat) (x1 : Int32) (x2 : Int32) : CtX wI yX7_copyLine cX7_copyLine 3 (some .int) 7 6 63 121 [((7, .ref x0) : TV), ((0, .int x1) : TV), ((0, .int x2) : TV)] (fX7_copyLine x0 x1 x2) :=
  CtX_I (j := 0) (by decide +kernel) rfl rfl (Nat.le_of_ble_eq_true rfl) (fun κ fin hc he hX => jX7_copyLine hc he hX x0 x1 x2)
set_option maxRecDepth 100000 in
set_option maxHeartbeats 4000000 in
theorem jX7_removeLine {κ : Cx} {fin : (Nat ⊕ Int32) → Mm → Prop} (hc : Jc κ RX7 cX7_removeLine 2 7 5 57 121) (he : Ed κ cX7_removeLine 5 57 (fun (b : Int32) => wI b) .ireturn (fun b M => fin (.inr b) M)) (hX : EdX κ 5 57 fin) (x0 : Nat) (x1 : Int32) : Jg κ (wM κ) 2 fin 0 0 0 [some ((7, .ref x0) : TV), some ((0, .int x1) : TV)] [] (fX7_removeLine x0 x1) := by
  unfold fX7_removeLine
  refine J_aload_n (pc := 0) hc dX7_removeLine_0 rfl rfl ?_
  refine J_iload_n (pc := 1) hc dX7_removeLine_1 rfl rfl ?_
  refine J_callVXv (pc := 2) hc hX clX7 (As := [((0, .int x1) : TV)]) (KX7_needLine x0 x1) dX7_removeLine_2 moX7_needLine rfl tw573 tw575 twp17 tw2 tw576 rfl (Nat.le_of_ble_eq_true rfl) (Nat.le_of_ble_eq_true rfl) (Nat.le_of_ble_eq_true rfl) (Nat.le_of_ble_eq_true rfl) (Nat.le_of_ble_eq_true rfl) rfl (fun _ => ?_)
  refine J_aload_n (pc := 5) hc dX7_removeLine_5 rfl rfl ?_
  refine J_getA (pc := 6) hc clX7 (k := 1) (kd := 1) (Nat.le_of_ble_eq_true rfl) rfl (Nat.le_of_ble_eq_true rfl) tw296 (Or.inl rfl) dX7_removeLine_6 (fun v1 => ?_)
  refine J_aload_n (pc := 9) hc dX7_removeLine_9 rfl rfl ?_
  refine J_getA (pc := 10) hc clX7 (k := 0) (kd := 2) (Nat.le_of_ble_eq_true rfl) rfl (Nat.le_of_ble_eq_true rfl) tw295 (Or.inl rfl) dX7_removeLine_10 (fun v2 => ?_)
  refine J_callVv (pc := 13) hc clX1 (As := [((2, .ref v2) : TV)]) (KX1_keep v1 v2) dX7_removeLine_13 moX1_keep rfl tw669 tw670 tw671 tw4 tw672 rfl (Nat.le_of_ble_eq_true rfl) (Nat.le_of_ble_eq_true rfl) (Nat.le_of_ble_eq_true rfl) (Nat.le_of_ble_eq_true rfl) (Nat.le_of_ble_eq_true rfl) rfl (fun _ => ?_)
  refine J_aload_n (pc := 16) hc dX7_removeLine_16 rfl rfl ?_
  refine J_getA (pc := 17) hc clX7 (k := 0) (kd := 2) (Nat.le_of_ble_eq_true rfl) rfl (Nat.le_of_ble_eq_true rfl) tw295 (Or.inl rfl) dX7_removeLine_17 (fun v3 => ?_)
  refine J_iload_n (pc := 20) hc dX7_removeLine_20 rfl rfl ?_
  refine J_callVv (pc := 21) hc clX2 (As := [((0, .int x1) : TV)]) (KX2_deleteRow v3 x1) dX7_removeLine_21 moX2_deleteRow rfl tw714 tw715 tw716 tw3 tw717 rfl (Nat.le_of_ble_eq_true rfl) (Nat.le_of_ble_eq_true rfl) (Nat.le_of_ble_eq_true rfl) (Nat.le_of_ble_eq_true rfl) (Nat.le_of_ble_eq_true rfl) rfl (fun _ => ?_)
  refine J_aload_n (pc := 24) hc dX7_removeLine_24 rfl rfl ?_
  refine J_getA (pc := 25) hc clX7 (k := 0) (kd := 2) (Nat.le_of_ble_eq_true rfl) rfl (Nat.le_of_ble_eq_true rfl) tw295 (Or.inl rfl) dX7_removeLine_25 (fun v4 => ?_)
  refine J_getI (pc := 28) hc clX2 (k := 1) (Nat.le_of_ble_eq_true rfl) rfl tw59 (Or.inl rfl) dX7_removeLine_28 (fun v5 => ?_)
  exact J_iretX (pc := 31) he dX7_removeLine_31
theorem moX7_removeLine : MOk yX7_removeLine 1 := ⟨by decide +kernel, by decide +kernel, by decide +kernel⟩
set_option maxRecDepth 100000 in
set_option maxHeartbeats 4000000 in
theorem KX7_removeLine (x0 : Nat) (x1 : Int32) : CtX wI yX7_removeLine cX7_removeLine 2 (some .int) 7 5 57 121 [((7, .ref x0) : TV), ((0, .int x1) : TV)] (fX7_removeLine x0 x1) :=
  CtX_I (j := 0) (by decide +kernel) rfl rfl (Nat.le_of_ble_eq_true rfl) (fun κ fin hc he hX => jX7_removeLine hc he hX x0 x1)
set_option maxRecDepth 100000 in
set_option maxHeartbeats 4000000 in
theorem jX7_invert {κ : Cx} {fin : (Nat ⊕ Int32) → Mm → Prop} (hc : Jc κ RX7 cX7_invert 2 7 5 57 121) (he : Ed κ cX7_invert 5 57 (fun (b : Int32) => wI b) .ireturn (fun b M => fin (.inr b) M)) (hX : EdX κ 5 57 fin) (x0 : Nat) (x1 : Int32) : Jg κ (wM κ) 2 fin 0 0 0 [some ((7, .ref x0) : TV), some ((0, .int x1) : TV)] [] (fX7_invert x0 x1) := by
  unfold fX7_invert
  refine J_aload_n (pc := 0) hc dX7_invert_0 rfl rfl ?_
  refine J_iload_n (pc := 1) hc dX7_invert_1 rfl rfl ?_
  refine J_callVXv (pc := 2) hc hX clX7 (As := [((0, .int x1) : TV)]) (KX7_needLine x0 x1) dX7_invert_2 moX7_needLine rfl tw573 tw575 twp17 tw2 tw576 rfl (Nat.le_of_ble_eq_true rfl) (Nat.le_of_ble_eq_true rfl) (Nat.le_of_ble_eq_true rfl) (Nat.le_of_ble_eq_true rfl) (Nat.le_of_ble_eq_true rfl) rfl (fun _ => ?_)
  refine J_aload_n (pc := 5) hc dX7_invert_5 rfl rfl ?_
  refine J_getA (pc := 6) hc clX7 (k := 1) (kd := 1) (Nat.le_of_ble_eq_true rfl) rfl (Nat.le_of_ble_eq_true rfl) tw296 (Or.inl rfl) dX7_invert_6 (fun v1 => ?_)
  refine J_aload_n (pc := 9) hc dX7_invert_9 rfl rfl ?_
  refine J_getA (pc := 10) hc clX7 (k := 0) (kd := 2) (Nat.le_of_ble_eq_true rfl) rfl (Nat.le_of_ble_eq_true rfl) tw295 (Or.inl rfl) dX7_invert_10 (fun v2 => ?_)
  refine J_callVv (pc := 13) hc clX1 (As := [((2, .ref v2) : TV)]) (KX1_keep v1 v2) dX7_invert_13 moX1_keep rfl tw669 tw670 tw671 tw4 tw672 rfl (Nat.le_of_ble_eq_true rfl) (Nat.le_of_ble_eq_true rfl) (Nat.le_of_ble_eq_true rfl) (Nat.le_of_ble_eq_true rfl) (Nat.le_of_ble_eq_true rfl) rfl (fun _ => ?_)
  refine J_aload_n (pc := 16) hc dX7_invert_16 rfl rfl ?_
  refine J_getA (pc := 17) hc clX7 (k := 0) (kd := 2) (Nat.le_of_ble_eq_true rfl) rfl (Nat.le_of_ble_eq_true rfl) tw295 (Or.inl rfl) dX7_invert_17 (fun v3 => ?_)
  refine J_iload_n (pc := 20) hc dX7_invert_20 rfl rfl ?_
  refine J_aload_n (pc := 21) hc dX7_invert_21 rfl rfl ?_
  refine J_getA (pc := 22) hc clX7 (k := 0) (kd := 2) (Nat.le_of_ble_eq_true rfl) rfl (Nat.le_of_ble_eq_true rfl) tw295 (Or.inl rfl) dX7_invert_22 (fun v4 => ?_)
  refine J_iload_n (pc := 25) hc dX7_invert_25 rfl rfl ?_
  refine J_callVj (pc := 26) hc clX2 (As := [((0, .int x1) : TV)]) (KX2_rowAt v4 x1) dX7_invert_26 moX2_rowAt rfl tw676 tw491 tw492 tw3 tw493 rfl (Nat.le_of_ble_eq_true rfl) (Nat.le_of_ble_eq_true rfl) (Nat.le_of_ble_eq_true rfl) (Nat.le_of_ble_eq_true rfl) (Nat.le_of_ble_eq_true rfl) rfl (fun v5 => ?_)
  refine J_ldc2 (pc := 29) (v := (-1)) hc dX7_invert_29 tw510 ?_
  refine J_lxor (pc := 32) hc dX7_invert_32 ?_
  refine J_callVv (pc := 33) hc clX2 (As := [((0, .int x1) : TV), ((0, .long (v5 ^^^ (-1))) : TV)]) (KX2_putRow v3 x1 (v5 ^^^ (-1))) dX7_invert_33 moX2_putRow rfl tw678 tw465 tw466 tw3 tw467 rfl (Nat.le_of_ble_eq_true rfl) (Nat.le_of_ble_eq_true rfl) (Nat.le_of_ble_eq_true rfl) (Nat.le_of_ble_eq_true rfl) (Nat.le_of_ble_eq_true rfl) rfl (fun _ => ?_)
  refine J_aload_n (pc := 36) hc dX7_invert_36 rfl rfl ?_
  refine J_getA (pc := 37) hc clX7 (k := 0) (kd := 2) (Nat.le_of_ble_eq_true rfl) rfl (Nat.le_of_ble_eq_true rfl) tw295 (Or.inl rfl) dX7_invert_37 (fun v6 => ?_)
  refine J_iload_n (pc := 40) hc dX7_invert_40 rfl rfl ?_
  refine J_callVj (pc := 41) hc clX2 (As := [((0, .int x1) : TV)]) (KX2_rowAt v6 x1) dX7_invert_41 moX2_rowAt rfl tw676 tw491 tw492 tw3 tw493 rfl (Nat.le_of_ble_eq_true rfl) (Nat.le_of_ble_eq_true rfl) (Nat.le_of_ble_eq_true rfl) (Nat.le_of_ble_eq_true rfl) (Nat.le_of_ble_eq_true rfl) rfl (fun v7 => ?_)
  refine J_callSi (pc := 44) hc (As := [((0, .long v7) : TV)]) (KJ13_bitCount_95d88 v7) dX7_invert_44 moJ13_bitCount_95d88 tw511 tw512 tw31 tw513 rfl (Nat.le_of_ble_eq_true rfl) (Nat.le_of_ble_eq_true rfl) (Nat.le_of_ble_eq_true rfl) (Nat.le_of_ble_eq_true rfl) (Nat.le_of_ble_eq_true rfl) rfl (fun v8 => ?_)
  exact J_iretX (pc := 47) he dX7_invert_47
theorem moX7_invert : MOk yX7_invert 1 := ⟨by decide +kernel, by decide +kernel, by decide +kernel⟩
set_option maxRecDepth 100000 in
set_option maxHeartbeats 4000000 in
theorem KX7_invert (x0 : Nat) (x1 : Int32) : CtX wI yX7_invert cX7_invert 2 (some .int) 7 5 57 121 [((7, .ref x0) : TV), ((0, .int x1) : TV)] (fX7_invert x0 x1) :=
  CtX_I (j := 0) (by decide +kernel) rfl rfl (Nat.le_of_ble_eq_true rfl) (fun κ fin hc he hX => jX7_invert hc he hX x0 x1)
set_option maxRecDepth 100000 in
set_option maxHeartbeats 4000000 in
theorem jX7_swap {κ : Cx} {fin : (Nat ⊕ Int32) → Mm → Prop} (hc : Jc κ RX7 cX7_swap 7 7 6 63 121) (he : Ed κ cX7_swap 6 63 (fun (b : Int32) => wI b) .ireturn (fun b M => fin (.inr b) M)) (hX : EdX κ 6 63 fin) (x0 : Nat) (x1 : Int32) (x2 : Int32) : Jg κ (wM κ) 7 fin 0 0 0 [some ((7, .ref x0) : TV), some ((0, .int x1) : TV), some ((0, .int x2) : TV), none, none, none, none] [] (fX7_swap x0 x1 x2) := by
  unfold fX7_swap
  refine J_aload_n (pc := 0) hc dX7_swap_0 rfl rfl ?_
  refine J_iload_n (pc := 1) hc dX7_swap_1 rfl rfl ?_
  refine J_callVXv (pc := 2) hc hX clX7 (As := [((0, .int x1) : TV)]) (KX7_needLine x0 x1) dX7_swap_2 moX7_needLine rfl tw573 tw575 twp17 tw2 tw576 rfl (Nat.le_of_ble_eq_true rfl) (Nat.le_of_ble_eq_true rfl) (Nat.le_of_ble_eq_true rfl) (Nat.le_of_ble_eq_true rfl) (Nat.le_of_ble_eq_true rfl) rfl (fun _ => ?_)
  refine J_aload_n (pc := 5) hc dX7_swap_5 rfl rfl ?_
  refine J_iload_n (pc := 6) hc dX7_swap_6 rfl rfl ?_
  refine J_callVXv (pc := 7) hc hX clX7 (As := [((0, .int x2) : TV)]) (KX7_needLine x0 x2) dX7_swap_7 moX7_needLine rfl tw573 tw575 twp17 tw2 tw576 rfl (Nat.le_of_ble_eq_true rfl) (Nat.le_of_ble_eq_true rfl) (Nat.le_of_ble_eq_true rfl) (Nat.le_of_ble_eq_true rfl) (Nat.le_of_ble_eq_true rfl) rfl (fun _ => ?_)
  refine J_aload_n (pc := 10) hc dX7_swap_10 rfl rfl ?_
  refine J_getA (pc := 11) hc clX7 (k := 1) (kd := 1) (Nat.le_of_ble_eq_true rfl) rfl (Nat.le_of_ble_eq_true rfl) tw296 (Or.inl rfl) dX7_swap_11 (fun v1 => ?_)
  refine J_aload_n (pc := 14) hc dX7_swap_14 rfl rfl ?_
  refine J_getA (pc := 15) hc clX7 (k := 0) (kd := 2) (Nat.le_of_ble_eq_true rfl) rfl (Nat.le_of_ble_eq_true rfl) tw295 (Or.inl rfl) dX7_swap_15 (fun v2 => ?_)
  refine J_callVv (pc := 18) hc clX1 (As := [((2, .ref v2) : TV)]) (KX1_keep v1 v2) dX7_swap_18 moX1_keep rfl tw669 tw670 tw671 tw4 tw672 rfl (Nat.le_of_ble_eq_true rfl) (Nat.le_of_ble_eq_true rfl) (Nat.le_of_ble_eq_true rfl) (Nat.le_of_ble_eq_true rfl) (Nat.le_of_ble_eq_true rfl) rfl (fun _ => ?_)
  refine J_aload_n (pc := 21) hc dX7_swap_21 rfl rfl ?_
  refine J_getA (pc := 22) hc clX7 (k := 0) (kd := 2) (Nat.le_of_ble_eq_true rfl) rfl (Nat.le_of_ble_eq_true rfl) tw295 (Or.inl rfl) dX7_swap_22 (fun v3 => ?_)
  refine J_iload_n (pc := 25) hc dX7_swap_25 rfl rfl ?_
  refine J_callVj (pc := 26) hc clX2 (As := [((0, .int x1) : TV)]) (KX2_rowAt v3 x1) dX7_swap_26 moX2_rowAt rfl tw676 tw491 tw492 tw3 tw493 rfl (Nat.le_of_ble_eq_true rfl) (Nat.le_of_ble_eq_true rfl) (Nat.le_of_ble_eq_true rfl) (Nat.le_of_ble_eq_true rfl) (Nat.le_of_ble_eq_true rfl) rfl (fun v4 => ?_)
  refine J_lstore_n (pc := 29) (l' := [some ((7, .ref x0) : TV), some ((0, .int x1) : TV), some ((0, .int x2) : TV), some ((0, .long v4) : TV), none, none, none]) hc dX7_swap_29 rfl (by decide) rfl rfl ?_
  refine J_aload_n (pc := 30) hc dX7_swap_30 rfl rfl ?_
  refine J_getA (pc := 31) hc clX7 (k := 0) (kd := 2) (Nat.le_of_ble_eq_true rfl) rfl (Nat.le_of_ble_eq_true rfl) tw295 (Or.inl rfl) dX7_swap_31 (fun v5 => ?_)
  refine J_iload_n (pc := 34) hc dX7_swap_34 rfl rfl ?_
  refine J_callVj (pc := 35) hc clX2 (As := [((0, .int x2) : TV)]) (KX2_rowAt v5 x2) dX7_swap_35 moX2_rowAt rfl tw676 tw491 tw492 tw3 tw493 rfl (Nat.le_of_ble_eq_true rfl) (Nat.le_of_ble_eq_true rfl) (Nat.le_of_ble_eq_true rfl) (Nat.le_of_ble_eq_true rfl) (Nat.le_of_ble_eq_true rfl) rfl (fun v6 => ?_)
  refine J_lstore (pc := 38) (l' := [some ((7, .ref x0) : TV), some ((0, .int x1) : TV), some ((0, .int x2) : TV), some ((0, .long v4) : TV), none, some ((0, .long v6) : TV), none]) hc dX7_swap_38 (by decide) rfl rfl ?_
  refine J_aload_n (pc := 40) hc dX7_swap_40 rfl rfl ?_
  refine J_getA (pc := 41) hc clX7 (k := 0) (kd := 2) (Nat.le_of_ble_eq_true rfl) rfl (Nat.le_of_ble_eq_true rfl) tw295 (Or.inl rfl) dX7_swap_41 (fun v7 => ?_)
  refine J_iload_n (pc := 44) hc dX7_swap_44 rfl rfl ?_
  refine J_lload (pc := 45) hc dX7_swap_45 rfl ?_
  refine J_callVv (pc := 47) hc clX2 (As := [((0, .int x1) : TV), ((0, .long v6) : TV)]) (KX2_putRow v7 x1 v6) dX7_swap_47 moX2_putRow rfl tw678 tw465 tw466 tw3 tw467 rfl (Nat.le_of_ble_eq_true rfl) (Nat.le_of_ble_eq_true rfl) (Nat.le_of_ble_eq_true rfl) (Nat.le_of_ble_eq_true rfl) (Nat.le_of_ble_eq_true rfl) rfl (fun _ => ?_)
  refine J_aload_n (pc := 50) hc dX7_swap_50 rfl rfl ?_
  refine J_getA (pc := 51) hc clX7 (k := 0) (kd := 2) (Nat.le_of_ble_eq_true rfl) rfl (Nat.le_of_ble_eq_true rfl) tw295 (Or.inl rfl) dX7_swap_51 (fun v8 => ?_)
  refine J_iload_n (pc := 54) hc dX7_swap_54 rfl rfl ?_
  refine J_lload_n (pc := 55) hc dX7_swap_55 rfl rfl ?_
  refine J_callVv (pc := 56) hc clX2 (As := [((0, .int x2) : TV), ((0, .long v4) : TV)]) (KX2_putRow v8 x2 v4) dX7_swap_56 moX2_putRow rfl tw678 tw465 tw466 tw3 tw467 rfl (Nat.le_of_ble_eq_true rfl) (Nat.le_of_ble_eq_true rfl) (Nat.le_of_ble_eq_true rfl) (Nat.le_of_ble_eq_true rfl) (Nat.le_of_ble_eq_true rfl) rfl (fun _ => ?_)
  refine J_lload_n (pc := 59) hc dX7_swap_59 rfl rfl ?_
  refine J_lload (pc := 60) hc dX7_swap_60 rfl ?_
  refine J_lxor (pc := 62) hc dX7_swap_62 ?_
  refine J_callSi (pc := 63) hc (As := [((0, .long (v4 ^^^ v6)) : TV)]) (KJ13_bitCount_95d88 (v4 ^^^ v6)) dX7_swap_63 moJ13_bitCount_95d88 tw511 tw512 tw31 tw513 rfl (Nat.le_of_ble_eq_true rfl) (Nat.le_of_ble_eq_true rfl) (Nat.le_of_ble_eq_true rfl) (Nat.le_of_ble_eq_true rfl) (Nat.le_of_ble_eq_true rfl) rfl (fun v9 => ?_)
  exact J_iretX (pc := 66) he dX7_swap_66
theorem moX7_swap : MOk yX7_swap 2 := ⟨by decide +kernel, by decide +kernel, by decide +kernel⟩
set_option maxRecDepth 100000 in
set_option maxHeartbeats 4000000 in
theorem KX7_swap (x0 : Nat) (x1 : Int32) (x2 : Int32) : CtX wI yX7_swap cX7_swap 7 (some .int) 7 6 63 121 [((7, .ref x0) : TV), ((0, .int x1) : TV), ((0, .int x2) : TV)] (fX7_swap x0 x1 x2) :=
  CtX_I (j := 4) (by decide +kernel) rfl rfl (Nat.le_of_ble_eq_true rfl) (fun κ fin hc he hX => jX7_swap hc he hX x0 x1 x2)
set_option maxRecDepth 100000 in
set_option maxHeartbeats 4000000 in
theorem jX7_sent_L10 {κ : Cx} {fin : (Nat ⊕ Int32) → Mm → Prop} (hc : Jc κ RX7 cX7_sent 2 7 1 6 175) (he : Ed κ cX7_sent 1 6 (fun (b : Int32) => wI b) .ireturn (fun b M => fin (.inr b) M)) (hX : EdX κ 1 6 fin) : Jg κ (wM κ) 2 fin 0 0 10 [none, none] [] (fX7_sent_L10) := by
  unfold fX7_sent_L10
  exact J_throw (pc := 10) (k := 0) (i := 20) hc hX cdX0 rfl tw649 tw29 dX7_sent_10 dX7_sent_13 dX7_sent_14 dX7_sent_16 dX7_sent_19 (Nat.le_of_ble_eq_true rfl) (Nat.le_of_ble_eq_true rfl) (Nat.le_of_ble_eq_true rfl) (Nat.le_of_ble_eq_true rfl) (Nat.le_of_ble_eq_true rfl)
set_option maxRecDepth 100000 in
set_option maxHeartbeats 4000000 in
theorem jX7_sent {κ : Cx} {fin : (Nat ⊕ Int32) → Mm → Prop} (hc : Jc κ RX7 cX7_sent 2 7 1 6 175) (he : Ed κ cX7_sent 1 6 (fun (b : Int32) => wI b) .ireturn (fun b M => fin (.inr b) M)) (hX : EdX κ 1 6 fin) (x0 : Nat) (x1 : Int32) : Jg κ (wM κ) 2 fin 0 0 0 [some ((7, .ref x0) : TV), some ((0, .int x1) : TV)] [] (fX7_sent x0 x1) := by
  unfold fX7_sent
  refine J_iload_n (pc := 0) hc dX7_sent_0 rfl rfl ?_
  refine J_if_lt (pc := 1) (tgt := 10) hc dX7_sent_1 (by decide) ?_ ?_
  · refine J_sub (l' := [none, none]) (show subL _ _ from trivial) ?_
    exact jX7_sent_L10 hc he hX 
  · refine J_iload_n (pc := 4) hc dX7_sent_4 rfl rfl ?_
    refine J_bipush (pc := 5) (v := 9) hc dX7_sent_5 (by decide) ?_
    refine J_icmp_le (pc := 7) (tgt := 20) hc dX7_sent_7 (by decide) ?_ ?_
    · refine J_aload_n (pc := 20) hc dX7_sent_20 rfl rfl ?_
      refine J_getA (pc := 21) hc clX7 (k := 5) (kd := 5) (Nat.le_of_ble_eq_true rfl) rfl (Nat.le_of_ble_eq_true rfl) tw300 (Or.inl rfl) dX7_sent_21 (fun v1 => ?_)
      refine J_aload_n (pc := 24) hc dX7_sent_24 rfl rfl ?_
      refine J_getA (pc := 25) hc clX7 (k := 0) (kd := 2) (Nat.le_of_ble_eq_true rfl) rfl (Nat.le_of_ble_eq_true rfl) tw295 (Or.inl rfl) dX7_sent_25 (fun v2 => ?_)
      refine J_callVv (pc := 28) hc clX5 (As := [((2, .ref v2) : TV)]) (KX5_prepare v1 v2) dX7_sent_28 moX5_prepare rfl tw1253 tw1254 tw1255 tw9 tw1256 rfl (Nat.le_of_ble_eq_true rfl) (Nat.le_of_ble_eq_true rfl) (Nat.le_of_ble_eq_true rfl) (Nat.le_of_ble_eq_true rfl) (Nat.le_of_ble_eq_true rfl) rfl (fun _ => ?_)
      refine J_aload_n (pc := 31) hc dX7_sent_31 rfl rfl ?_
      refine J_getA (pc := 32) hc clX7 (k := 5) (kd := 5) (Nat.le_of_ble_eq_true rfl) rfl (Nat.le_of_ble_eq_true rfl) tw300 (Or.inl rfl) dX7_sent_32 (fun v3 => ?_)
      refine J_aload_n (pc := 35) hc dX7_sent_35 rfl rfl ?_
      refine J_getA (pc := 36) hc clX7 (k := 0) (kd := 2) (Nat.le_of_ble_eq_true rfl) rfl (Nat.le_of_ble_eq_true rfl) tw295 (Or.inl rfl) dX7_sent_36 (fun v4 => ?_)
      refine J_callVv (pc := 39) hc clX5 (As := [((2, .ref v4) : TV)]) (KX5_sendPage v3 v4) dX7_sent_39 moX5_sendPage rfl tw1260 tw1261 tw1262 tw9 tw1263 rfl (Nat.le_of_ble_eq_true rfl) (Nat.le_of_ble_eq_true rfl) (Nat.le_of_ble_eq_true rfl) (Nat.le_of_ble_eq_true rfl) (Nat.le_of_ble_eq_true rfl) rfl (fun _ => ?_)
      refine J_iload_n (pc := 42) hc dX7_sent_42 rfl rfl ?_
      refine J_swc (pc := 43) (v := 0) (tgt := 96) hc dX7_sent_43 (by decide) (by decide) rfl (by decide) (by decide) ?_ (fun h43_0 => ?_)
      · refine J_aload_n (pc := 96) hc dX7_sent_96 rfl rfl ?_
        refine J_getA (pc := 97) hc clX7 (k := 5) (kd := 5) (Nat.le_of_ble_eq_true rfl) rfl (Nat.le_of_ble_eq_true rfl) tw300 (Or.inl rfl) dX7_sent_97 (fun v5 => ?_)
        refine J_getI (pc := 100) hc clX5 (k := 2) (Nat.le_of_ble_eq_true rfl) rfl tw239 (Or.inl rfl) dX7_sent_100 (fun v6 => ?_)
        refine J_widen (k := 1) (n := 6) (Nat.le_of_ble_eq_true rfl) (Nat.le_of_ble_eq_true rfl) ?_
        exact J_iretX (pc := 103) he dX7_sent_103
      refine J_swc (pc := 43) (v := 1) (tgt := 104) hc dX7_sent_43 (by decide) (by decide) rfl (by decide) (by decide) ?_ (fun h43_1 => ?_)
      · refine J_aload_n (pc := 104) hc dX7_sent_104 rfl rfl ?_
        refine J_getA (pc := 105) hc clX7 (k := 5) (kd := 5) (Nat.le_of_ble_eq_true rfl) rfl (Nat.le_of_ble_eq_true rfl) tw300 (Or.inl rfl) dX7_sent_105 (fun v7 => ?_)
        refine J_getI (pc := 108) hc clX5 (k := 3) (Nat.le_of_ble_eq_true rfl) rfl tw241 (Or.inl rfl) dX7_sent_108 (fun v8 => ?_)
        refine J_widen (k := 1) (n := 6) (Nat.le_of_ble_eq_true rfl) (Nat.le_of_ble_eq_true rfl) ?_
        exact J_iretX (pc := 111) he dX7_sent_111
      refine J_swc (pc := 43) (v := 2) (tgt := 112) hc dX7_sent_43 (by decide) (by decide) rfl (by decide) (by decide) ?_ (fun h43_2 => ?_)
      · refine J_aload_n (pc := 112) hc dX7_sent_112 rfl rfl ?_
        refine J_getA (pc := 113) hc clX7 (k := 5) (kd := 5) (Nat.le_of_ble_eq_true rfl) rfl (Nat.le_of_ble_eq_true rfl) tw300 (Or.inl rfl) dX7_sent_113 (fun v9 => ?_)
        refine J_getI (pc := 116) hc clX5 (k := 4) (Nat.le_of_ble_eq_true rfl) rfl tw243 (Or.inl rfl) dX7_sent_116 (fun v10 => ?_)
        refine J_widen (k := 1) (n := 6) (Nat.le_of_ble_eq_true rfl) (Nat.le_of_ble_eq_true rfl) ?_
        exact J_iretX (pc := 119) he dX7_sent_119
      refine J_swc (pc := 43) (v := 3) (tgt := 148) hc dX7_sent_43 (by decide) (by decide) rfl (by decide) (by decide) ?_ (fun h43_3 => ?_)
      · refine J_aload_n (pc := 148) hc dX7_sent_148 rfl rfl ?_
        refine J_getA (pc := 149) hc clX7 (k := 5) (kd := 5) (Nat.le_of_ble_eq_true rfl) rfl (Nat.le_of_ble_eq_true rfl) tw300 (Or.inl rfl) dX7_sent_149 (fun v11 => ?_)
        refine J_iload_n (pc := 152) hc dX7_sent_152 rfl rfl ?_
        refine J_iconst (pc := 153) (v := 3) hc dX7_sent_153 (by decide) ?_
        refine J_isub (pc := 154) hc dX7_sent_154 ?_
        refine J_aload_n (pc := 155) hc dX7_sent_155 rfl rfl ?_
        refine J_getA (pc := 156) hc clX7 (k := 0) (kd := 2) (Nat.le_of_ble_eq_true rfl) rfl (Nat.le_of_ble_eq_true rfl) tw295 (Or.inl rfl) dX7_sent_156 (fun v12 => ?_)
        refine J_getI (pc := 159) hc clX2 (k := 1) (Nat.le_of_ble_eq_true rfl) rfl tw59 (Or.inl rfl) dX7_sent_159 (fun v13 => ?_)
        refine J_callVi (pc := 162) hc clX5 (As := [((0, .int (x1 - 3)) : TV), ((0, .int v13) : TV)]) (KX5_linesOfState v11 (x1 - 3) v13) dX7_sent_162 moX5_linesOfState rfl tw1301 tw1302 tw1303 tw9 tw1304 rfl (Nat.le_of_ble_eq_true rfl) (Nat.le_of_ble_eq_true rfl) (Nat.le_of_ble_eq_true rfl) (Nat.le_of_ble_eq_true rfl) (Nat.le_of_ble_eq_true rfl) rfl (fun v14 => ?_)
        refine J_widen (k := 1) (n := 6) (Nat.le_of_ble_eq_true rfl) (Nat.le_of_ble_eq_true rfl) ?_
        exact J_iretX (pc := 165) he dX7_sent_165
      refine J_swc (pc := 43) (v := 4) (tgt := 148) hc dX7_sent_43 (by decide) (by decide) rfl (by decide) (by decide) ?_ (fun h43_4 => ?_)
      · refine J_aload_n (pc := 148) hc dX7_sent_148 rfl rfl ?_
        refine J_getA (pc := 149) hc clX7 (k := 5) (kd := 5) (Nat.le_of_ble_eq_true rfl) rfl (Nat.le_of_ble_eq_true rfl) tw300 (Or.inl rfl) dX7_sent_149 (fun v15 => ?_)
        refine J_iload_n (pc := 152) hc dX7_sent_152 rfl rfl ?_
        refine J_iconst (pc := 153) (v := 3) hc dX7_sent_153 (by decide) ?_
        refine J_isub (pc := 154) hc dX7_sent_154 ?_
        refine J_aload_n (pc := 155) hc dX7_sent_155 rfl rfl ?_
        refine J_getA (pc := 156) hc clX7 (k := 0) (kd := 2) (Nat.le_of_ble_eq_true rfl) rfl (Nat.le_of_ble_eq_true rfl) tw295 (Or.inl rfl) dX7_sent_156 (fun v16 => ?_)
        refine J_getI (pc := 159) hc clX2 (k := 1) (Nat.le_of_ble_eq_true rfl) rfl tw59 (Or.inl rfl) dX7_sent_159 (fun v17 => ?_)
        refine J_callVi (pc := 162) hc clX5 (As := [((0, .int (x1 - 3)) : TV), ((0, .int v17) : TV)]) (KX5_linesOfState v15 (x1 - 3) v17) dX7_sent_162 moX5_linesOfState rfl tw1301 tw1302 tw1303 tw9 tw1304 rfl (Nat.le_of_ble_eq_true rfl) (Nat.le_of_ble_eq_true rfl) (Nat.le_of_ble_eq_true rfl) (Nat.le_of_ble_eq_true rfl) (Nat.le_of_ble_eq_true rfl) rfl (fun v18 => ?_)
        refine J_widen (k := 1) (n := 6) (Nat.le_of_ble_eq_true rfl) (Nat.le_of_ble_eq_true rfl) ?_
        exact J_iretX (pc := 165) he dX7_sent_165
      refine J_swc (pc := 43) (v := 5) (tgt := 148) hc dX7_sent_43 (by decide) (by decide) rfl (by decide) (by decide) ?_ (fun h43_5 => ?_)
      · refine J_aload_n (pc := 148) hc dX7_sent_148 rfl rfl ?_
        refine J_getA (pc := 149) hc clX7 (k := 5) (kd := 5) (Nat.le_of_ble_eq_true rfl) rfl (Nat.le_of_ble_eq_true rfl) tw300 (Or.inl rfl) dX7_sent_149 (fun v19 => ?_)
        refine J_iload_n (pc := 152) hc dX7_sent_152 rfl rfl ?_
        refine J_iconst (pc := 153) (v := 3) hc dX7_sent_153 (by decide) ?_
        refine J_isub (pc := 154) hc dX7_sent_154 ?_
        refine J_aload_n (pc := 155) hc dX7_sent_155 rfl rfl ?_
        refine J_getA (pc := 156) hc clX7 (k := 0) (kd := 2) (Nat.le_of_ble_eq_true rfl) rfl (Nat.le_of_ble_eq_true rfl) tw295 (Or.inl rfl) dX7_sent_156 (fun v20 => ?_)
        refine J_getI (pc := 159) hc clX2 (k := 1) (Nat.le_of_ble_eq_true rfl) rfl tw59 (Or.inl rfl) dX7_sent_159 (fun v21 => ?_)
        refine J_callVi (pc := 162) hc clX5 (As := [((0, .int (x1 - 3)) : TV), ((0, .int v21) : TV)]) (KX5_linesOfState v19 (x1 - 3) v21) dX7_sent_162 moX5_linesOfState rfl tw1301 tw1302 tw1303 tw9 tw1304 rfl (Nat.le_of_ble_eq_true rfl) (Nat.le_of_ble_eq_true rfl) (Nat.le_of_ble_eq_true rfl) (Nat.le_of_ble_eq_true rfl) (Nat.le_of_ble_eq_true rfl) rfl (fun v22 => ?_)
        refine J_widen (k := 1) (n := 6) (Nat.le_of_ble_eq_true rfl) (Nat.le_of_ble_eq_true rfl) ?_
        exact J_iretX (pc := 165) he dX7_sent_165
      refine J_swc (pc := 43) (v := 6) (tgt := 148) hc dX7_sent_43 (by decide) (by decide) rfl (by decide) (by decide) ?_ (fun h43_6 => ?_)
      · refine J_aload_n (pc := 148) hc dX7_sent_148 rfl rfl ?_
        refine J_getA (pc := 149) hc clX7 (k := 5) (kd := 5) (Nat.le_of_ble_eq_true rfl) rfl (Nat.le_of_ble_eq_true rfl) tw300 (Or.inl rfl) dX7_sent_149 (fun v23 => ?_)
        refine J_iload_n (pc := 152) hc dX7_sent_152 rfl rfl ?_
        refine J_iconst (pc := 153) (v := 3) hc dX7_sent_153 (by decide) ?_
        refine J_isub (pc := 154) hc dX7_sent_154 ?_
        refine J_aload_n (pc := 155) hc dX7_sent_155 rfl rfl ?_
        refine J_getA (pc := 156) hc clX7 (k := 0) (kd := 2) (Nat.le_of_ble_eq_true rfl) rfl (Nat.le_of_ble_eq_true rfl) tw295 (Or.inl rfl) dX7_sent_156 (fun v24 => ?_)
        refine J_getI (pc := 159) hc clX2 (k := 1) (Nat.le_of_ble_eq_true rfl) rfl tw59 (Or.inl rfl) dX7_sent_159 (fun v25 => ?_)
        refine J_callVi (pc := 162) hc clX5 (As := [((0, .int (x1 - 3)) : TV), ((0, .int v25) : TV)]) (KX5_linesOfState v23 (x1 - 3) v25) dX7_sent_162 moX5_linesOfState rfl tw1301 tw1302 tw1303 tw9 tw1304 rfl (Nat.le_of_ble_eq_true rfl) (Nat.le_of_ble_eq_true rfl) (Nat.le_of_ble_eq_true rfl) (Nat.le_of_ble_eq_true rfl) (Nat.le_of_ble_eq_true rfl) rfl (fun v26 => ?_)
        refine J_widen (k := 1) (n := 6) (Nat.le_of_ble_eq_true rfl) (Nat.le_of_ble_eq_true rfl) ?_
        exact J_iretX (pc := 165) he dX7_sent_165
      refine J_swc (pc := 43) (v := 7) (tgt := 120) hc dX7_sent_43 (by decide) (by decide) rfl (by decide) (by decide) ?_ (fun h43_7 => ?_)
      · refine J_aload_n (pc := 120) hc dX7_sent_120 rfl rfl ?_
        refine J_getA (pc := 121) hc clX7 (k := 5) (kd := 5) (Nat.le_of_ble_eq_true rfl) rfl (Nat.le_of_ble_eq_true rfl) tw300 (Or.inl rfl) dX7_sent_121 (fun v27 => ?_)
        refine J_aload_n (pc := 124) hc dX7_sent_124 rfl rfl ?_
        refine J_getA (pc := 125) hc clX7 (k := 0) (kd := 2) (Nat.le_of_ble_eq_true rfl) rfl (Nat.le_of_ble_eq_true rfl) tw295 (Or.inl rfl) dX7_sent_125 (fun v28 => ?_)
        refine J_callVi (pc := 128) hc clX5 (As := [((2, .ref v28) : TV)]) (KX5_wrongDots v27 v28) dX7_sent_128 moX5_wrongDots rfl tw1292 tw1293 tw1294 tw9 tw1295 rfl (Nat.le_of_ble_eq_true rfl) (Nat.le_of_ble_eq_true rfl) (Nat.le_of_ble_eq_true rfl) (Nat.le_of_ble_eq_true rfl) (Nat.le_of_ble_eq_true rfl) rfl (fun v29 => ?_)
        refine J_widen (k := 1) (n := 6) (Nat.le_of_ble_eq_true rfl) (Nat.le_of_ble_eq_true rfl) ?_
        exact J_iretX (pc := 131) he dX7_sent_131
      refine J_swc (pc := 43) (v := 8) (tgt := 132) hc dX7_sent_43 (by decide) (by decide) rfl (by decide) (by decide) ?_ (fun h43_8 => ?_)
      · refine J_aload_n (pc := 132) hc dX7_sent_132 rfl rfl ?_
        refine J_getA (pc := 133) hc clX7 (k := 5) (kd := 5) (Nat.le_of_ble_eq_true rfl) rfl (Nat.le_of_ble_eq_true rfl) tw300 (Or.inl rfl) dX7_sent_133 (fun v30 => ?_)
        refine J_getI (pc := 136) hc clX5 (k := 5) (Nat.le_of_ble_eq_true rfl) rfl tw245 (Or.inl rfl) dX7_sent_136 (fun v31 => ?_)
        refine J_widen (k := 1) (n := 6) (Nat.le_of_ble_eq_true rfl) (Nat.le_of_ble_eq_true rfl) ?_
        exact J_iretX (pc := 139) he dX7_sent_139
      refine J_swc (pc := 43) (v := 9) (tgt := 140) hc dX7_sent_43 (by decide) (by decide) rfl (by decide) (by decide) ?_ (fun h43_9 => ?_)
      · refine J_aload_n (pc := 140) hc dX7_sent_140 rfl rfl ?_
        refine J_getA (pc := 141) hc clX7 (k := 5) (kd := 5) (Nat.le_of_ble_eq_true rfl) rfl (Nat.le_of_ble_eq_true rfl) tw300 (Or.inl rfl) dX7_sent_141 (fun v32 => ?_)
        refine J_getI (pc := 144) hc clX5 (k := 6) (Nat.le_of_ble_eq_true rfl) rfl tw247 (Or.inl rfl) dX7_sent_144 (fun v33 => ?_)
        refine J_widen (k := 1) (n := 6) (Nat.le_of_ble_eq_true rfl) (Nat.le_of_ble_eq_true rfl) ?_
        exact J_iretX (pc := 147) he dX7_sent_147
      refine J_swd (pc := 43) (tgt := 148) hc dX7_sent_43 (by omega) (by decide) ?_
      · refine J_aload_n (pc := 148) hc dX7_sent_148 rfl rfl ?_
        refine J_getA (pc := 149) hc clX7 (k := 5) (kd := 5) (Nat.le_of_ble_eq_true rfl) rfl (Nat.le_of_ble_eq_true rfl) tw300 (Or.inl rfl) dX7_sent_149 (fun v34 => ?_)
        refine J_iload_n (pc := 152) hc dX7_sent_152 rfl rfl ?_
        refine J_iconst (pc := 153) (v := 3) hc dX7_sent_153 (by decide) ?_
        refine J_isub (pc := 154) hc dX7_sent_154 ?_
        refine J_aload_n (pc := 155) hc dX7_sent_155 rfl rfl ?_
        refine J_getA (pc := 156) hc clX7 (k := 0) (kd := 2) (Nat.le_of_ble_eq_true rfl) rfl (Nat.le_of_ble_eq_true rfl) tw295 (Or.inl rfl) dX7_sent_156 (fun v35 => ?_)
        refine J_getI (pc := 159) hc clX2 (k := 1) (Nat.le_of_ble_eq_true rfl) rfl tw59 (Or.inl rfl) dX7_sent_159 (fun v36 => ?_)
        refine J_callVi (pc := 162) hc clX5 (As := [((0, .int (x1 - 3)) : TV), ((0, .int v36) : TV)]) (KX5_linesOfState v34 (x1 - 3) v36) dX7_sent_162 moX5_linesOfState rfl tw1301 tw1302 tw1303 tw9 tw1304 rfl (Nat.le_of_ble_eq_true rfl) (Nat.le_of_ble_eq_true rfl) (Nat.le_of_ble_eq_true rfl) (Nat.le_of_ble_eq_true rfl) (Nat.le_of_ble_eq_true rfl) rfl (fun v37 => ?_)
        refine J_widen (k := 1) (n := 6) (Nat.le_of_ble_eq_true rfl) (Nat.le_of_ble_eq_true rfl) ?_
        exact J_iretX (pc := 165) he dX7_sent_165
    · refine J_sub (l' := [none, none]) (show subL _ _ from trivial) ?_
      exact jX7_sent_L10 hc he hX 
theorem moX7_sent : MOk yX7_sent 1 := ⟨by decide +kernel, by decide +kernel, by decide +kernel⟩
set_option maxRecDepth 100000 in
set_option maxHeartbeats 4000000 in
theorem KX7_sent (x0 : Nat) (x1 : Int32) : CtX wI yX7_sent cX7_sent 2 (some .int) 7 1 6 175 [((7, .ref x0) : TV), ((0, .int x1) : TV)] (fX7_sent x0 x1) :=
  CtX_I (j := 0) (by decide +kernel) rfl rfl (Nat.le_of_ble_eq_true rfl) (fun κ fin hc he hX => jX7_sent hc he hX x0 x1)
set_option maxRecDepth 100000 in
set_option maxHeartbeats 4000000 in
theorem jX7_sentLine_L14 {κ : Cx} {fin : (Nat ⊕ Int32) → Mm → Prop} (hc : Jc κ RX7 cX7_sentLine 3 7 2 12 175) (he : Ed κ cX7_sentLine 2 12 (fun (b : Int32) => wI b) .ireturn (fun b M => fin (.inr b) M)) (hX : EdX κ 2 12 fin) : Jg κ (wM κ) 3 fin 1 6 14 [none, none, none] [] (fX7_sentLine_L14) := by
  unfold fX7_sentLine_L14
  exact J_throw (pc := 14) (k := 0) (i := 20) hc hX cdX0 rfl tw649 tw29 dX7_sentLine_14 dX7_sentLine_17 dX7_sentLine_18 dX7_sentLine_20 dX7_sentLine_23 (Nat.le_of_ble_eq_true rfl) (Nat.le_of_ble_eq_true rfl) (Nat.le_of_ble_eq_true rfl) (Nat.le_of_ble_eq_true rfl) (Nat.le_of_ble_eq_true rfl)
set_option maxRecDepth 100000 in
set_option maxHeartbeats 4000000 in
theorem jX7_sentLine {κ : Cx} {fin : (Nat ⊕ Int32) → Mm → Prop} (hc : Jc κ RX7 cX7_sentLine 3 7 2 12 175) (he : Ed κ cX7_sentLine 2 12 (fun (b : Int32) => wI b) .ireturn (fun b M => fin (.inr b) M)) (hX : EdX κ 2 12 fin) (x0 : Nat) (x1 : Int32) (x2 : Int32) : Jg κ (wM κ) 3 fin 0 0 0 [some ((7, .ref x0) : TV), some ((0, .int x1) : TV), some ((0, .int x2) : TV)] [] (fX7_sentLine x0 x1 x2) := by
  unfold fX7_sentLine
  refine J_aload_n (pc := 0) hc dX7_sentLine_0 rfl rfl ?_
  refine J_iload_n (pc := 1) hc dX7_sentLine_1 rfl rfl ?_
  refine J_callVXv (pc := 2) hc hX clX7 (As := [((0, .int x1) : TV)]) (KX7_needLine x0 x1) dX7_sentLine_2 moX7_needLine rfl tw573 tw575 twp17 tw2 tw576 rfl (Nat.le_of_ble_eq_true rfl) (Nat.le_of_ble_eq_true rfl) (Nat.le_of_ble_eq_true rfl) (Nat.le_of_ble_eq_true rfl) (Nat.le_of_ble_eq_true rfl) rfl (fun _ => ?_)
  refine J_iload_n (pc := 5) hc dX7_sentLine_5 rfl rfl ?_
  refine J_if_lt (pc := 6) (tgt := 14) hc dX7_sentLine_6 (by decide) ?_ ?_
  · refine J_sub (l' := [none, none, none]) (show subL _ _ from trivial) ?_
    exact jX7_sentLine_L14 hc he hX 
  · refine J_iload_n (pc := 9) hc dX7_sentLine_9 rfl rfl ?_
    refine J_iconst (pc := 10) (v := 4) hc dX7_sentLine_10 (by decide) ?_
    refine J_icmp_le (pc := 11) (tgt := 24) hc dX7_sentLine_11 (by decide) ?_ ?_
    · refine J_aload_n (pc := 24) hc dX7_sentLine_24 rfl rfl ?_
      refine J_getA (pc := 25) hc clX7 (k := 5) (kd := 5) (Nat.le_of_ble_eq_true rfl) rfl (Nat.le_of_ble_eq_true rfl) tw300 (Or.inl rfl) dX7_sentLine_25 (fun v1 => ?_)
      refine J_aload_n (pc := 28) hc dX7_sentLine_28 rfl rfl ?_
      refine J_getA (pc := 29) hc clX7 (k := 0) (kd := 2) (Nat.le_of_ble_eq_true rfl) rfl (Nat.le_of_ble_eq_true rfl) tw295 (Or.inl rfl) dX7_sentLine_29 (fun v2 => ?_)
      refine J_callVv (pc := 32) hc clX5 (As := [((2, .ref v2) : TV)]) (KX5_prepare v1 v2) dX7_sentLine_32 moX5_prepare rfl tw1253 tw1254 tw1255 tw9 tw1256 rfl (Nat.le_of_ble_eq_true rfl) (Nat.le_of_ble_eq_true rfl) (Nat.le_of_ble_eq_true rfl) (Nat.le_of_ble_eq_true rfl) (Nat.le_of_ble_eq_true rfl) rfl (fun _ => ?_)
      refine J_aload_n (pc := 35) hc dX7_sentLine_35 rfl rfl ?_
      refine J_getA (pc := 36) hc clX7 (k := 5) (kd := 5) (Nat.le_of_ble_eq_true rfl) rfl (Nat.le_of_ble_eq_true rfl) tw300 (Or.inl rfl) dX7_sentLine_36 (fun v3 => ?_)
      refine J_aload_n (pc := 39) hc dX7_sentLine_39 rfl rfl ?_
      refine J_getA (pc := 40) hc clX7 (k := 0) (kd := 2) (Nat.le_of_ble_eq_true rfl) rfl (Nat.le_of_ble_eq_true rfl) tw295 (Or.inl rfl) dX7_sentLine_40 (fun v4 => ?_)
      refine J_callVv (pc := 43) hc clX5 (As := [((2, .ref v4) : TV)]) (KX5_sendPage v3 v4) dX7_sentLine_43 moX5_sendPage rfl tw1260 tw1261 tw1262 tw9 tw1263 rfl (Nat.le_of_ble_eq_true rfl) (Nat.le_of_ble_eq_true rfl) (Nat.le_of_ble_eq_true rfl) (Nat.le_of_ble_eq_true rfl) (Nat.le_of_ble_eq_true rfl) rfl (fun _ => ?_)
      refine J_iload_n (pc := 46) hc dX7_sentLine_46 rfl rfl ?_
      refine J_swc (pc := 47) (v := 0) (tgt := 76) hc dX7_sentLine_47 (by decide) (by decide) rfl (by decide) (by decide) ?_ (fun h47_0 => ?_)
      · refine J_aload_n (pc := 76) hc dX7_sentLine_76 rfl rfl ?_
        refine J_getA (pc := 77) hc clX7 (k := 5) (kd := 5) (Nat.le_of_ble_eq_true rfl) rfl (Nat.le_of_ble_eq_true rfl) tw300 (Or.inl rfl) dX7_sentLine_77 (fun v5 => ?_)
        refine J_getA (pc := 80) hc clX5 (k := 8) (kd := 11) (Nat.le_of_ble_eq_true rfl) rfl (Nat.le_of_ble_eq_true rfl) tw251 (Or.inl rfl) dX7_sentLine_80 (fun v6 => ?_)
        refine J_iload_n (pc := 83) hc dX7_sentLine_83 rfl rfl ?_
        refine J_iald (pc := 84) hc dX7_sentLine_84 (fun v7 => ?_)
        refine J_widen (k := 2) (n := 12) (Nat.le_of_ble_eq_true rfl) (Nat.le_of_ble_eq_true rfl) ?_
        exact J_iretX (pc := 85) he dX7_sentLine_85
      refine J_swc (pc := 47) (v := 1) (tgt := 86) hc dX7_sentLine_47 (by decide) (by decide) rfl (by decide) (by decide) ?_ (fun h47_1 => ?_)
      · refine J_aload_n (pc := 86) hc dX7_sentLine_86 rfl rfl ?_
        refine J_getA (pc := 87) hc clX7 (k := 5) (kd := 5) (Nat.le_of_ble_eq_true rfl) rfl (Nat.le_of_ble_eq_true rfl) tw300 (Or.inl rfl) dX7_sentLine_87 (fun v8 => ?_)
        refine J_getA (pc := 90) hc clX5 (k := 9) (kd := 11) (Nat.le_of_ble_eq_true rfl) rfl (Nat.le_of_ble_eq_true rfl) tw253 (Or.inl rfl) dX7_sentLine_90 (fun v9 => ?_)
        refine J_iload_n (pc := 93) hc dX7_sentLine_93 rfl rfl ?_
        refine J_iald (pc := 94) hc dX7_sentLine_94 (fun v10 => ?_)
        refine J_widen (k := 2) (n := 12) (Nat.le_of_ble_eq_true rfl) (Nat.le_of_ble_eq_true rfl) ?_
        exact J_iretX (pc := 95) he dX7_sentLine_95
      refine J_swc (pc := 47) (v := 2) (tgt := 96) hc dX7_sentLine_47 (by decide) (by decide) rfl (by decide) (by decide) ?_ (fun h47_2 => ?_)
      · refine J_aload_n (pc := 96) hc dX7_sentLine_96 rfl rfl ?_
        refine J_getA (pc := 97) hc clX7 (k := 5) (kd := 5) (Nat.le_of_ble_eq_true rfl) rfl (Nat.le_of_ble_eq_true rfl) tw300 (Or.inl rfl) dX7_sentLine_97 (fun v11 => ?_)
        refine J_getA (pc := 100) hc clX5 (k := 10) (kd := 11) (Nat.le_of_ble_eq_true rfl) rfl (Nat.le_of_ble_eq_true rfl) tw255 (Or.inl rfl) dX7_sentLine_100 (fun v12 => ?_)
        refine J_iload_n (pc := 103) hc dX7_sentLine_103 rfl rfl ?_
        refine J_iald (pc := 104) hc dX7_sentLine_104 (fun v13 => ?_)
        refine J_widen (k := 2) (n := 12) (Nat.le_of_ble_eq_true rfl) (Nat.le_of_ble_eq_true rfl) ?_
        exact J_iretX (pc := 105) he dX7_sentLine_105
      refine J_swc (pc := 47) (v := 3) (tgt := 106) hc dX7_sentLine_47 (by decide) (by decide) rfl (by decide) (by decide) ?_ (fun h47_3 => ?_)
      · refine J_aload_n (pc := 106) hc dX7_sentLine_106 rfl rfl ?_
        refine J_getA (pc := 107) hc clX7 (k := 5) (kd := 5) (Nat.le_of_ble_eq_true rfl) rfl (Nat.le_of_ble_eq_true rfl) tw300 (Or.inl rfl) dX7_sentLine_107 (fun v14 => ?_)
        refine J_iload_n (pc := 110) hc dX7_sentLine_110 rfl rfl ?_
        refine J_aload_n (pc := 111) hc dX7_sentLine_111 rfl rfl ?_
        refine J_getA (pc := 112) hc clX7 (k := 0) (kd := 2) (Nat.le_of_ble_eq_true rfl) rfl (Nat.le_of_ble_eq_true rfl) tw295 (Or.inl rfl) dX7_sentLine_112 (fun v15 => ?_)
        refine J_callVi (pc := 115) hc clX5 (As := [((0, .int x1) : TV), ((2, .ref v15) : TV)]) (KX5_wrongDotsOf v14 x1 v15) dX7_sentLine_115 moX5_wrongDotsOf rfl tw1317 tw1297 tw1298 tw9 tw1299 rfl (Nat.le_of_ble_eq_true rfl) (Nat.le_of_ble_eq_true rfl) (Nat.le_of_ble_eq_true rfl) (Nat.le_of_ble_eq_true rfl) (Nat.le_of_ble_eq_true rfl) rfl (fun v16 => ?_)
        refine J_widen (k := 2) (n := 12) (Nat.le_of_ble_eq_true rfl) (Nat.le_of_ble_eq_true rfl) ?_
        exact J_iretX (pc := 118) he dX7_sentLine_118
      refine J_swd (pc := 47) (tgt := 119) hc dX7_sentLine_47 (by omega) (by decide) ?_
      · refine J_aload_n (pc := 119) hc dX7_sentLine_119 rfl rfl ?_
        refine J_getA (pc := 120) hc clX7 (k := 5) (kd := 5) (Nat.le_of_ble_eq_true rfl) rfl (Nat.le_of_ble_eq_true rfl) tw300 (Or.inl rfl) dX7_sentLine_120 (fun v17 => ?_)
        refine J_getA (pc := 123) hc clX5 (k := 11) (kd := 11) (Nat.le_of_ble_eq_true rfl) rfl (Nat.le_of_ble_eq_true rfl) tw257 (Or.inl rfl) dX7_sentLine_123 (fun v18 => ?_)
        refine J_iload_n (pc := 126) hc dX7_sentLine_126 rfl rfl ?_
        refine J_iald (pc := 127) hc dX7_sentLine_127 (fun v19 => ?_)
        refine J_widen (k := 2) (n := 12) (Nat.le_of_ble_eq_true rfl) (Nat.le_of_ble_eq_true rfl) ?_
        exact J_iretX (pc := 128) he dX7_sentLine_128
    · refine J_sub (l' := [none, none, none]) (show subL _ _ from trivial) ?_
      exact jX7_sentLine_L14 hc he hX 
theorem moX7_sentLine : MOk yX7_sentLine 2 := ⟨by decide +kernel, by decide +kernel, by decide +kernel⟩
set_option maxRecDepth 100000 in
set_option maxHeartbeats 4000000 in
theorem KX7_sentLine (x0 : Nat) (x1 : Int32) (x2 : Int32) : CtX wI yX7_sentLine cX7_sentLine 3 (some .int) 7 2 12 175 [((7, .ref x0) : TV), ((0, .int x1) : TV), ((0, .int x2) : TV)] (fX7_sentLine x0 x1 x2) :=
  CtX_I (j := 0) (by decide +kernel) rfl rfl (Nat.le_of_ble_eq_true rfl) (fun κ fin hc he hX => jX7_sentLine hc he hX x0 x1 x2)
set_option maxRecDepth 100000 in
set_option maxHeartbeats 4000000 in
theorem jX7_received {κ : Cx} {fin : (Nat ⊕ Int32) → Mm → Prop} (hc : Jc κ RX7 cX7_received 3 7 1 6 175) (he : Ed κ cX7_received 1 6 (fun (b : Int32) => wI b) .ireturn (fun b M => fin (.inr b) M)) (hX : EdX κ 1 6 fin) (x0 : Nat) (x1 : Int32) (x2 : Int32) : Jg κ (wM κ) 3 fin 0 0 0 [some ((7, .ref x0) : TV), some ((0, .int x1) : TV), some ((0, .int x2) : TV)] [] (fX7_received x0 x1 x2) := by
  unfold fX7_received
  refine J_aload_n (pc := 0) hc dX7_received_0 rfl rfl ?_
  refine J_iload_n (pc := 1) hc dX7_received_1 rfl rfl ?_
  refine J_iload_n (pc := 2) hc dX7_received_2 rfl rfl ?_
  refine J_callVXv (pc := 3) hc hX clX7 (As := [((0, .int x1) : TV), ((0, .int x2) : TV)]) (KX7_needDot x0 x1 x2) dX7_received_3 moX7_needDot rfl tw1050 tw1052 twp32 tw2 tw1053 rfl (Nat.le_of_ble_eq_true rfl) (Nat.le_of_ble_eq_true rfl) (Nat.le_of_ble_eq_true rfl) (Nat.le_of_ble_eq_true rfl) (Nat.le_of_ble_eq_true rfl) rfl (fun _ => ?_)
  refine J_aload_n (pc := 6) hc dX7_received_6 rfl rfl ?_
  refine J_getA (pc := 7) hc clX7 (k := 5) (kd := 5) (Nat.le_of_ble_eq_true rfl) rfl (Nat.le_of_ble_eq_true rfl) tw300 (Or.inl rfl) dX7_received_7 (fun v1 => ?_)
  refine J_aload_n (pc := 10) hc dX7_received_10 rfl rfl ?_
  refine J_getA (pc := 11) hc clX7 (k := 0) (kd := 2) (Nat.le_of_ble_eq_true rfl) rfl (Nat.le_of_ble_eq_true rfl) tw295 (Or.inl rfl) dX7_received_11 (fun v2 => ?_)
  refine J_callVv (pc := 14) hc clX5 (As := [((2, .ref v2) : TV)]) (KX5_prepare v1 v2) dX7_received_14 moX5_prepare rfl tw1253 tw1254 tw1255 tw9 tw1256 rfl (Nat.le_of_ble_eq_true rfl) (Nat.le_of_ble_eq_true rfl) (Nat.le_of_ble_eq_true rfl) (Nat.le_of_ble_eq_true rfl) (Nat.le_of_ble_eq_true rfl) rfl (fun _ => ?_)
  refine J_aload_n (pc := 17) hc dX7_received_17 rfl rfl ?_
  refine J_getA (pc := 18) hc clX7 (k := 5) (kd := 5) (Nat.le_of_ble_eq_true rfl) rfl (Nat.le_of_ble_eq_true rfl) tw300 (Or.inl rfl) dX7_received_18 (fun v3 => ?_)
  refine J_aload_n (pc := 21) hc dX7_received_21 rfl rfl ?_
  refine J_getA (pc := 22) hc clX7 (k := 0) (kd := 2) (Nat.le_of_ble_eq_true rfl) rfl (Nat.le_of_ble_eq_true rfl) tw295 (Or.inl rfl) dX7_received_22 (fun v4 => ?_)
  refine J_callVv (pc := 25) hc clX5 (As := [((2, .ref v4) : TV)]) (KX5_sendPage v3 v4) dX7_received_25 moX5_sendPage rfl tw1260 tw1261 tw1262 tw9 tw1263 rfl (Nat.le_of_ble_eq_true rfl) (Nat.le_of_ble_eq_true rfl) (Nat.le_of_ble_eq_true rfl) (Nat.le_of_ble_eq_true rfl) (Nat.le_of_ble_eq_true rfl) rfl (fun _ => ?_)
  refine J_aload_n (pc := 28) hc dX7_received_28 rfl rfl ?_
  refine J_getA (pc := 29) hc clX7 (k := 5) (kd := 5) (Nat.le_of_ble_eq_true rfl) rfl (Nat.le_of_ble_eq_true rfl) tw300 (Or.inl rfl) dX7_received_29 (fun v5 => ?_)
  refine J_getA (pc := 32) hc clX5 (k := 7) (kd := 12) (Nat.le_of_ble_eq_true rfl) rfl (Nat.le_of_ble_eq_true rfl) tw249 (Or.inl rfl) dX7_received_32 (fun v6 => ?_)
  refine J_iload_n (pc := 35) hc dX7_received_35 rfl rfl ?_
  refine J_lald (pc := 36) hc dX7_received_36 (fun v7 => ?_)
  refine J_iload_n (pc := 37) hc dX7_received_37 rfl rfl ?_
  refine J_callSi (pc := 38) hc (As := [((0, .long v7) : TV), ((0, .int x2) : TV)]) (KX7_colourAt v7 x2) dX7_received_38 moX7_colourAt tw1055 tw1056 tw2 tw1057 rfl (Nat.le_of_ble_eq_true rfl) (Nat.le_of_ble_eq_true rfl) (Nat.le_of_ble_eq_true rfl) (Nat.le_of_ble_eq_true rfl) (Nat.le_of_ble_eq_true rfl) rfl (fun v8 => ?_)
  exact J_iretX (pc := 41) he dX7_received_41
theorem moX7_received : MOk yX7_received 2 := ⟨by decide +kernel, by decide +kernel, by decide +kernel⟩
set_option maxRecDepth 100000 in
set_option maxHeartbeats 4000000 in
theorem KX7_received (x0 : Nat) (x1 : Int32) (x2 : Int32) : CtX wI yX7_received cX7_received 3 (some .int) 7 1 6 175 [((7, .ref x0) : TV), ((0, .int x1) : TV), ((0, .int x2) : TV)] (fX7_received x0 x1 x2) :=
  CtX_I (j := 0) (by decide +kernel) rfl rfl (Nat.le_of_ble_eq_true rfl) (fun κ fin hc he hX => jX7_received hc he hX x0 x1 x2)
set_option maxRecDepth 100000 in
set_option maxHeartbeats 4000000 in
theorem jX7_harm_L14 {κ : Cx} {fin : (Nat ⊕ Int32) → Mm → Prop} (hc : Jc κ RX7 cX7_harm 3 7 2 12 175) (he : Ed κ cX7_harm 2 12 (fun (b : Int32) => wI b) .ireturn (fun b M => fin (.inr b) M)) (hX : EdX κ 2 12 fin) : Jg κ (wM κ) 3 fin 1 6 14 [none, none, none] [] (fX7_harm_L14) := by
  unfold fX7_harm_L14
  exact J_throw (pc := 14) (k := 0) (i := 20) hc hX cdX0 rfl tw649 tw29 dX7_harm_14 dX7_harm_17 dX7_harm_18 dX7_harm_20 dX7_harm_23 (Nat.le_of_ble_eq_true rfl) (Nat.le_of_ble_eq_true rfl) (Nat.le_of_ble_eq_true rfl) (Nat.le_of_ble_eq_true rfl) (Nat.le_of_ble_eq_true rfl)
set_option maxRecDepth 100000 in
set_option maxHeartbeats 4000000 in
theorem jX7_harm {κ : Cx} {fin : (Nat ⊕ Int32) → Mm → Prop} (hc : Jc κ RX7 cX7_harm 3 7 2 12 175) (he : Ed κ cX7_harm 2 12 (fun (b : Int32) => wI b) .ireturn (fun b M => fin (.inr b) M)) (hX : EdX κ 2 12 fin) (x0 : Nat) (x1 : Int32) (x2 : Int32) : Jg κ (wM κ) 3 fin 0 0 0 [some ((7, .ref x0) : TV), some ((0, .int x1) : TV), some ((0, .int x2) : TV)] [] (fX7_harm x0 x1 x2) := by
  unfold fX7_harm
  refine J_aload_n (pc := 0) hc dX7_harm_0 rfl rfl ?_
  refine J_iload_n (pc := 1) hc dX7_harm_1 rfl rfl ?_
  refine J_callVXv (pc := 2) hc hX clX7 (As := [((0, .int x1) : TV)]) (KX7_needLine x0 x1) dX7_harm_2 moX7_needLine rfl tw573 tw575 twp17 tw2 tw576 rfl (Nat.le_of_ble_eq_true rfl) (Nat.le_of_ble_eq_true rfl) (Nat.le_of_ble_eq_true rfl) (Nat.le_of_ble_eq_true rfl) (Nat.le_of_ble_eq_true rfl) rfl (fun _ => ?_)
  refine J_iload_n (pc := 5) hc dX7_harm_5 rfl rfl ?_
  refine J_if_lt (pc := 6) (tgt := 14) hc dX7_harm_6 (by decide) ?_ ?_
  · refine J_sub (l' := [none, none, none]) (show subL _ _ from trivial) ?_
    exact jX7_harm_L14 hc he hX 
  · refine J_iload_n (pc := 9) hc dX7_harm_9 rfl rfl ?_
    refine J_iconst (pc := 10) (v := 2) hc dX7_harm_10 (by decide) ?_
    refine J_icmp_le (pc := 11) (tgt := 24) hc dX7_harm_11 (by decide) ?_ ?_
    · refine J_aload_n (pc := 24) hc dX7_harm_24 rfl rfl ?_
      refine J_getA (pc := 25) hc clX7 (k := 5) (kd := 5) (Nat.le_of_ble_eq_true rfl) rfl (Nat.le_of_ble_eq_true rfl) tw300 (Or.inl rfl) dX7_harm_25 (fun v1 => ?_)
      refine J_aload_n (pc := 28) hc dX7_harm_28 rfl rfl ?_
      refine J_getA (pc := 29) hc clX7 (k := 0) (kd := 2) (Nat.le_of_ble_eq_true rfl) rfl (Nat.le_of_ble_eq_true rfl) tw295 (Or.inl rfl) dX7_harm_29 (fun v2 => ?_)
      refine J_callVv (pc := 32) hc clX5 (As := [((2, .ref v2) : TV)]) (KX5_prepare v1 v2) dX7_harm_32 moX5_prepare rfl tw1253 tw1254 tw1255 tw9 tw1256 rfl (Nat.le_of_ble_eq_true rfl) (Nat.le_of_ble_eq_true rfl) (Nat.le_of_ble_eq_true rfl) (Nat.le_of_ble_eq_true rfl) (Nat.le_of_ble_eq_true rfl) rfl (fun _ => ?_)
      refine J_aload_n (pc := 35) hc dX7_harm_35 rfl rfl ?_
      refine J_getA (pc := 36) hc clX7 (k := 5) (kd := 5) (Nat.le_of_ble_eq_true rfl) rfl (Nat.le_of_ble_eq_true rfl) tw300 (Or.inl rfl) dX7_harm_36 (fun v3 => ?_)
      refine J_iload_n (pc := 39) hc dX7_harm_39 rfl rfl ?_
      refine J_callVv (pc := 40) hc clX5 (As := [((0, .int x1) : TV)]) (KX5_loseOnly v3 x1) dX7_harm_40 moX5_loseOnly rfl tw1330 tw1331 tw1332 tw9 tw1333 rfl (Nat.le_of_ble_eq_true rfl) (Nat.le_of_ble_eq_true rfl) (Nat.le_of_ble_eq_true rfl) (Nat.le_of_ble_eq_true rfl) (Nat.le_of_ble_eq_true rfl) rfl (fun _ => ?_)
      refine J_aload_n (pc := 43) hc dX7_harm_43 rfl rfl ?_
      refine J_getA (pc := 44) hc clX7 (k := 5) (kd := 5) (Nat.le_of_ble_eq_true rfl) rfl (Nat.le_of_ble_eq_true rfl) tw300 (Or.inl rfl) dX7_harm_44 (fun v4 => ?_)
      refine J_aload_n (pc := 47) hc dX7_harm_47 rfl rfl ?_
      refine J_getA (pc := 48) hc clX7 (k := 0) (kd := 2) (Nat.le_of_ble_eq_true rfl) rfl (Nat.le_of_ble_eq_true rfl) tw295 (Or.inl rfl) dX7_harm_48 (fun v5 => ?_)
      refine J_callVv (pc := 51) hc clX5 (As := [((2, .ref v5) : TV)]) (KX5_sendPage v4 v5) dX7_harm_51 moX5_sendPage rfl tw1260 tw1261 tw1262 tw9 tw1263 rfl (Nat.le_of_ble_eq_true rfl) (Nat.le_of_ble_eq_true rfl) (Nat.le_of_ble_eq_true rfl) (Nat.le_of_ble_eq_true rfl) (Nat.le_of_ble_eq_true rfl) rfl (fun _ => ?_)
      refine J_iload_n (pc := 54) hc dX7_harm_54 rfl rfl ?_
      refine J_if_ne (pc := 55) (tgt := 70) hc dX7_harm_55 (by decide) ?_ ?_
      · refine J_iload_n (pc := 70) hc dX7_harm_70 rfl rfl ?_
        refine J_iconst (pc := 71) (v := 1) hc dX7_harm_71 (by decide) ?_
        refine J_icmp_ne (pc := 72) (tgt := 89) hc dX7_harm_72 (by decide) ?_ ?_
        · refine J_aload_n (pc := 89) hc dX7_harm_89 rfl rfl ?_
          refine J_getA (pc := 90) hc clX7 (k := 5) (kd := 5) (Nat.le_of_ble_eq_true rfl) rfl (Nat.le_of_ble_eq_true rfl) tw300 (Or.inl rfl) dX7_harm_90 (fun v6 => ?_)
          refine J_aload_n (pc := 93) hc dX7_harm_93 rfl rfl ?_
          refine J_getA (pc := 94) hc clX7 (k := 0) (kd := 2) (Nat.le_of_ble_eq_true rfl) rfl (Nat.le_of_ble_eq_true rfl) tw295 (Or.inl rfl) dX7_harm_94 (fun v7 => ?_)
          refine J_callVi (pc := 97) hc clX5 (As := [((2, .ref v7) : TV)]) (KX5_lastWrongLine v6 v7) dX7_harm_97 moX5_lastWrongLine rfl tw1338 tw1339 tw1340 tw9 tw1341 rfl (Nat.le_of_ble_eq_true rfl) (Nat.le_of_ble_eq_true rfl) (Nat.le_of_ble_eq_true rfl) (Nat.le_of_ble_eq_true rfl) (Nat.le_of_ble_eq_true rfl) rfl (fun v8 => ?_)
          refine J_widen (k := 2) (n := 12) (Nat.le_of_ble_eq_true rfl) (Nat.le_of_ble_eq_true rfl) ?_
          exact J_iretX (pc := 100) he dX7_harm_100
        · refine J_aload_n (pc := 75) hc dX7_harm_75 rfl rfl ?_
          refine J_getA (pc := 76) hc clX7 (k := 5) (kd := 5) (Nat.le_of_ble_eq_true rfl) rfl (Nat.le_of_ble_eq_true rfl) tw300 (Or.inl rfl) dX7_harm_76 (fun v9 => ?_)
          refine J_aload_n (pc := 79) hc dX7_harm_79 rfl rfl ?_
          refine J_getA (pc := 80) hc clX7 (k := 0) (kd := 2) (Nat.le_of_ble_eq_true rfl) rfl (Nat.le_of_ble_eq_true rfl) tw295 (Or.inl rfl) dX7_harm_80 (fun v10 => ?_)
          refine J_callVi (pc := 83) hc clX5 (As := [((2, .ref v10) : TV)]) (KX5_wrongDots v9 v10) dX7_harm_83 moX5_wrongDots rfl tw1292 tw1293 tw1294 tw9 tw1295 rfl (Nat.le_of_ble_eq_true rfl) (Nat.le_of_ble_eq_true rfl) (Nat.le_of_ble_eq_true rfl) (Nat.le_of_ble_eq_true rfl) (Nat.le_of_ble_eq_true rfl) rfl (fun v11 => ?_)
          refine J_goto (pc := 86) (tgt := 100) hc dX7_harm_86 (by decide) ?_
          refine J_widen (k := 2) (n := 12) (Nat.le_of_ble_eq_true rfl) (Nat.le_of_ble_eq_true rfl) ?_
          exact J_iretX (pc := 100) he dX7_harm_100
      · refine J_aload_n (pc := 58) hc dX7_harm_58 rfl rfl ?_
        refine J_getA (pc := 59) hc clX7 (k := 5) (kd := 5) (Nat.le_of_ble_eq_true rfl) rfl (Nat.le_of_ble_eq_true rfl) tw300 (Or.inl rfl) dX7_harm_59 (fun v12 => ?_)
        refine J_aload_n (pc := 62) hc dX7_harm_62 rfl rfl ?_
        refine J_getA (pc := 63) hc clX7 (k := 0) (kd := 2) (Nat.le_of_ble_eq_true rfl) rfl (Nat.le_of_ble_eq_true rfl) tw295 (Or.inl rfl) dX7_harm_63 (fun v13 => ?_)
        refine J_callVi (pc := 66) hc clX5 (As := [((2, .ref v13) : TV)]) (KX5_wrongLines v12 v13) dX7_harm_66 moX5_wrongLines rfl tw1334 tw1335 tw1336 tw9 tw1337 rfl (Nat.le_of_ble_eq_true rfl) (Nat.le_of_ble_eq_true rfl) (Nat.le_of_ble_eq_true rfl) (Nat.le_of_ble_eq_true rfl) (Nat.le_of_ble_eq_true rfl) rfl (fun v14 => ?_)
        refine J_widen (k := 2) (n := 12) (Nat.le_of_ble_eq_true rfl) (Nat.le_of_ble_eq_true rfl) ?_
        exact J_iretX (pc := 69) he dX7_harm_69
    · refine J_sub (l' := [none, none, none]) (show subL _ _ from trivial) ?_
      exact jX7_harm_L14 hc he hX 
theorem moX7_harm : MOk yX7_harm 2 := ⟨by decide +kernel, by decide +kernel, by decide +kernel⟩
set_option maxRecDepth 100000 in
set_option maxHeartbeats 4000000 in
theorem KX7_harm (x0 : Nat) (x1 : Int32) (x2 : Int32) : CtX wI yX7_harm cX7_harm 3 (some .int) 7 2 12 175 [((7, .ref x0) : TV), ((0, .int x1) : TV), ((0, .int x2) : TV)] (fX7_harm x0 x1 x2) :=
  CtX_I (j := 0) (by decide +kernel) rfl rfl (Nat.le_of_ble_eq_true rfl) (fun κ fin hc he hX => jX7_harm hc he hX x0 x1 x2)
set_option maxRecDepth 100000 in
set_option maxHeartbeats 4000000 in
theorem jX7_worst_L71 {κ : Cx} {fin : Int32 → Mm → Prop} (hc : Jc κ RX7 cX7_worst 5 7 0 0 175) (he : Ed κ cX7_worst 0 0 wI .ireturn fin) {k17 : Nat → Int32 → Int32 → Int32 → Mm → Option (Int32 × Mm)} (hk17 : ∀ (x0 : Nat) (x1 : Int32) (x2 : Int32) (x3 : Int32), Jg κ (wM κ) 5 fin 0 0 17 [some ((7, .ref x0) : TV), some ((0, .int x1) : TV), some ((0, .int x2) : TV), some ((0, .int x3) : TV), none] [] (k17 x0 x1 x2 x3)) (x0 : Nat) (x1 : Int32) (x2 : Int32) (x3 : Int32) : Jg κ (wM κ) 5 fin 0 0 71 [some ((7, .ref x0) : TV), some ((0, .int x1) : TV), some ((0, .int x2) : TV), some ((0, .int x3) : TV), none] [] (fX7_worst_L71 k17 x0 x1 x2 x3) := by
  unfold fX7_worst_L71
  refine J_iinc (pc := 71) (v := x3 + 1) (l' := [some ((7, .ref x0) : TV), some ((0, .int x1) : TV), some ((0, .int x2) : TV), some ((0, .int (x3 + 1)) : TV), none]) hc dX7_worst_71 rfl rfl (by decide) rfl rfl ?_
  refine J_goto (pc := 74) (tgt := 17) hc dX7_worst_74 (by decide) ?_
  refine J_sub (l' := [some ((7, .ref x0) : TV), some ((0, .int x1) : TV), some ((0, .int x2) : TV), some ((0, .int (x3 + 1)) : TV), none]) ⟨rfl, ⟨rfl, ⟨rfl, ⟨rfl, trivial⟩⟩⟩⟩ ?_
  exact hk17 x0 x1 x2 (x3 + 1)
set_option maxRecDepth 100000 in
set_option maxHeartbeats 4000000 in
theorem jX7_worst_L17 {κ : Cx} {fin : Int32 → Mm → Prop} (hc : Jc κ RX7 cX7_worst 5 7 0 0 175) (he : Ed κ cX7_worst 0 0 wI .ireturn fin) : ∀ (n : Nat) (x0 : Nat) (x1 : Int32) (x2 : Int32) (x3 : Int32), Jg κ (wM κ) 5 fin 0 0 17 [some ((7, .ref x0) : TV), some ((0, .int x1) : TV), some ((0, .int x2) : TV), some ((0, .int x3) : TV), none] [] (fX7_worst_L17 n x0 x1 x2 x3) := by
  intro n
  induction n with
  | zero => intro x0 x1 x2 x3; exact J_fail
  | succ n ih =>
    intro x0 x1 x2 x3
    unfold fX7_worst_L17
    refine J_iload_n (pc := 17) hc dX7_worst_17 rfl rfl ?_
    refine J_aload_n (pc := 18) hc dX7_worst_18 rfl rfl ?_
    refine J_getA (pc := 19) hc clX7 (k := 0) (kd := 2) (Nat.le_of_ble_eq_true rfl) rfl (Nat.le_of_ble_eq_true rfl) tw295 (Or.inl rfl) dX7_worst_19 (fun v1 => ?_)
    refine J_getI (pc := 22) hc clX2 (k := 1) (Nat.le_of_ble_eq_true rfl) rfl tw59 (Or.inl rfl) dX7_worst_22 (fun v2 => ?_)
    refine J_icmp_ge (pc := 25) (tgt := 77) hc dX7_worst_25 (by decide) ?_ ?_
    · refine J_iload_n (pc := 77) hc dX7_worst_77 rfl rfl ?_
      exact J_iret (pc := 78) he dX7_worst_78
    · refine J_aload_n (pc := 28) hc dX7_worst_28 rfl rfl ?_
      refine J_getA (pc := 29) hc clX7 (k := 5) (kd := 5) (Nat.le_of_ble_eq_true rfl) rfl (Nat.le_of_ble_eq_true rfl) tw300 (Or.inl rfl) dX7_worst_29 (fun v3 => ?_)
      refine J_iload_n (pc := 32) hc dX7_worst_32 rfl rfl ?_
      refine J_callVv (pc := 33) hc clX5 (As := [((0, .int x3) : TV)]) (KX5_loseOnly v3 x3) dX7_worst_33 moX5_loseOnly rfl tw1330 tw1331 tw1332 tw9 tw1333 rfl (Nat.le_of_ble_eq_true rfl) (Nat.le_of_ble_eq_true rfl) (Nat.le_of_ble_eq_true rfl) (Nat.le_of_ble_eq_true rfl) (Nat.le_of_ble_eq_true rfl) rfl (fun _ => ?_)
      refine J_aload_n (pc := 36) hc dX7_worst_36 rfl rfl ?_
      refine J_getA (pc := 37) hc clX7 (k := 5) (kd := 5) (Nat.le_of_ble_eq_true rfl) rfl (Nat.le_of_ble_eq_true rfl) tw300 (Or.inl rfl) dX7_worst_37 (fun v4 => ?_)
      refine J_aload_n (pc := 40) hc dX7_worst_40 rfl rfl ?_
      refine J_getA (pc := 41) hc clX7 (k := 0) (kd := 2) (Nat.le_of_ble_eq_true rfl) rfl (Nat.le_of_ble_eq_true rfl) tw295 (Or.inl rfl) dX7_worst_41 (fun v5 => ?_)
      refine J_callVv (pc := 44) hc clX5 (As := [((2, .ref v5) : TV)]) (KX5_sendPage v4 v5) dX7_worst_44 moX5_sendPage rfl tw1260 tw1261 tw1262 tw9 tw1263 rfl (Nat.le_of_ble_eq_true rfl) (Nat.le_of_ble_eq_true rfl) (Nat.le_of_ble_eq_true rfl) (Nat.le_of_ble_eq_true rfl) (Nat.le_of_ble_eq_true rfl) rfl (fun _ => ?_)
      refine J_aload_n (pc := 47) hc dX7_worst_47 rfl rfl ?_
      refine J_getA (pc := 48) hc clX7 (k := 5) (kd := 5) (Nat.le_of_ble_eq_true rfl) rfl (Nat.le_of_ble_eq_true rfl) tw300 (Or.inl rfl) dX7_worst_48 (fun v6 => ?_)
      refine J_aload_n (pc := 51) hc dX7_worst_51 rfl rfl ?_
      refine J_getA (pc := 52) hc clX7 (k := 0) (kd := 2) (Nat.le_of_ble_eq_true rfl) rfl (Nat.le_of_ble_eq_true rfl) tw295 (Or.inl rfl) dX7_worst_52 (fun v7 => ?_)
      refine J_callVi (pc := 55) hc clX5 (As := [((2, .ref v7) : TV)]) (KX5_wrongDots v6 v7) dX7_worst_55 moX5_wrongDots rfl tw1292 tw1293 tw1294 tw9 tw1295 rfl (Nat.le_of_ble_eq_true rfl) (Nat.le_of_ble_eq_true rfl) (Nat.le_of_ble_eq_true rfl) (Nat.le_of_ble_eq_true rfl) (Nat.le_of_ble_eq_true rfl) rfl (fun v8 => ?_)
      refine J_istore (pc := 58) (l' := [some ((7, .ref x0) : TV), some ((0, .int x1) : TV), some ((0, .int x2) : TV), some ((0, .int x3) : TV), some ((0, .int v8) : TV)]) hc dX7_worst_58 (by decide) rfl rfl ?_
      refine J_iload (pc := 60) hc dX7_worst_60 rfl ?_
      refine J_iload_n (pc := 62) hc dX7_worst_62 rfl rfl ?_
      refine J_icmp_le (pc := 63) (tgt := 71) hc dX7_worst_63 (by decide) ?_ ?_
      · refine J_sub (l' := [some ((7, .ref x0) : TV), some ((0, .int x1) : TV), some ((0, .int x2) : TV), some ((0, .int x3) : TV), none]) ⟨rfl, ⟨rfl, ⟨rfl, ⟨rfl, trivial⟩⟩⟩⟩ ?_
        exact jX7_worst_L71 hc he ih x0 x1 x2 x3
      · refine J_iload (pc := 66) hc dX7_worst_66 rfl ?_
        refine J_istore_n (pc := 68) (l' := [some ((7, .ref x0) : TV), some ((0, .int x1) : TV), some ((0, .int v8) : TV), some ((0, .int x3) : TV), some ((0, .int v8) : TV)]) hc dX7_worst_68 rfl (by decide) rfl rfl ?_
        refine J_iload_n (pc := 69) hc dX7_worst_69 rfl rfl ?_
        refine J_istore_n (pc := 70) (l' := [some ((7, .ref x0) : TV), some ((0, .int x3) : TV), some ((0, .int v8) : TV), some ((0, .int x3) : TV), some ((0, .int v8) : TV)]) hc dX7_worst_70 rfl (by decide) rfl rfl ?_
        refine J_sub (l' := [some ((7, .ref x0) : TV), some ((0, .int x3) : TV), some ((0, .int v8) : TV), some ((0, .int x3) : TV), none]) ⟨rfl, ⟨rfl, ⟨rfl, ⟨rfl, trivial⟩⟩⟩⟩ ?_
        exact jX7_worst_L71 hc he ih x0 x3 v8 x3
set_option maxRecDepth 100000 in
set_option maxHeartbeats 4000000 in
theorem jX7_worst {κ : Cx} {fin : Int32 → Mm → Prop} (hc : Jc κ RX7 cX7_worst 5 7 0 0 175) (he : Ed κ cX7_worst 0 0 wI .ireturn fin) (x0 : Nat) : Jg κ (wM κ) 5 fin 0 0 0 [some ((7, .ref x0) : TV), none, none, none, none] [] (fX7_worst x0) := by
  unfold fX7_worst
  refine J_aload_n (pc := 0) hc dX7_worst_0 rfl rfl ?_
  refine J_getA (pc := 1) hc clX7 (k := 5) (kd := 5) (Nat.le_of_ble_eq_true rfl) rfl (Nat.le_of_ble_eq_true rfl) tw300 (Or.inl rfl) dX7_worst_1 (fun v9 => ?_)
  refine J_aload_n (pc := 4) hc dX7_worst_4 rfl rfl ?_
  refine J_getA (pc := 5) hc clX7 (k := 0) (kd := 2) (Nat.le_of_ble_eq_true rfl) rfl (Nat.le_of_ble_eq_true rfl) tw295 (Or.inl rfl) dX7_worst_5 (fun v10 => ?_)
  refine J_callVv (pc := 8) hc clX5 (As := [((2, .ref v10) : TV)]) (KX5_prepare v9 v10) dX7_worst_8 moX5_prepare rfl tw1253 tw1254 tw1255 tw9 tw1256 rfl (Nat.le_of_ble_eq_true rfl) (Nat.le_of_ble_eq_true rfl) (Nat.le_of_ble_eq_true rfl) (Nat.le_of_ble_eq_true rfl) (Nat.le_of_ble_eq_true rfl) rfl (fun _ => ?_)
  refine J_iconst (pc := 11) (v := (-1)) hc dX7_worst_11 (by decide) ?_
  refine J_istore_n (pc := 12) (l' := [some ((7, .ref x0) : TV), some ((0, .int (-1)) : TV), none, none, none]) hc dX7_worst_12 rfl (by decide) rfl rfl ?_
  refine J_iconst (pc := 13) (v := (-1)) hc dX7_worst_13 (by decide) ?_
  refine J_istore_n (pc := 14) (l' := [some ((7, .ref x0) : TV), some ((0, .int (-1)) : TV), some ((0, .int (-1)) : TV), none, none]) hc dX7_worst_14 rfl (by decide) rfl rfl ?_
  refine J_iconst (pc := 15) (v := 0) hc dX7_worst_15 (by decide) ?_
  refine J_istore_n (pc := 16) (l' := [some ((7, .ref x0) : TV), some ((0, .int (-1)) : TV), some ((0, .int (-1)) : TV), some ((0, .int 0) : TV), none]) hc dX7_worst_16 rfl (by decide) rfl rfl ?_
  refine J_sub (l' := [some ((7, .ref x0) : TV), some ((0, .int (-1)) : TV), some ((0, .int (-1)) : TV), some ((0, .int 0) : TV), none]) ⟨rfl, ⟨rfl, ⟨rfl, ⟨rfl, trivial⟩⟩⟩⟩ ?_
  exact jX7_worst_L17 hc he fu x0 (-1) (-1) 0
theorem moX7_worst : MOk yX7_worst 0 := ⟨by decide +kernel, by decide +kernel, by decide +kernel⟩
set_option maxRecDepth 100000 in
set_option maxHeartbeats 4000000 in
theorem KX7_worst (x0 : Nat) : Ct wI yX7_worst cX7_worst 5 (some .int) 7 0 0 175 [((7, .ref x0) : TV)] (fX7_worst x0) :=
  Ct_I (j := 4) (by decide +kernel) rfl rfl (Nat.le_of_ble_eq_true rfl) (fun κ fin hc he => jX7_worst hc he x0)
set_option maxRecDepth 100000 in
set_option maxHeartbeats 4000000 in
theorem jX7_bestEvery_L109 {κ : Cx} {fin : Int32 → Mm → Prop} (hc : Jc κ RX7 cX7_bestEvery 6 7 0 0 175) (he : Ed κ cX7_bestEvery 0 0 wI .ireturn fin) {k24 : Nat → Int32 → Int32 → Int32 → Int32 → Mm → Option (Int32 × Mm)} (hk24 : ∀ (x0 : Nat) (x1 : Int32) (x2 : Int32) (x3 : Int32) (x4 : Int32), Jg κ (wM κ) 6 fin 0 0 24 [some ((7, .ref x0) : TV), some ((0, .int x1) : TV), some ((0, .int x2) : TV), some ((0, .int x3) : TV), some ((0, .int x4) : TV), none] [] (k24 x0 x1 x2 x3 x4)) (x0 : Nat) (x1 : Int32) (x2 : Int32) (x3 : Int32) (x4 : Int32) : Jg κ (wM κ) 6 fin 0 0 109 [some ((7, .ref x0) : TV), some ((0, .int x1) : TV), some ((0, .int x2) : TV), some ((0, .int x3) : TV), some ((0, .int x4) : TV), none] [] (fX7_bestEvery_L109 k24 x0 x1 x2 x3 x4) := by
  unfold fX7_bestEvery_L109
  refine J_iinc (pc := 109) (v := x4 + 1) (l' := [some ((7, .ref x0) : TV), some ((0, .int x1) : TV), some ((0, .int x2) : TV), some ((0, .int x3) : TV), some ((0, .int (x4 + 1)) : TV), none]) hc dX7_bestEvery_109 rfl rfl (by decide) rfl rfl ?_
  refine J_goto (pc := 112) (tgt := 24) hc dX7_bestEvery_112 (by decide) ?_
  refine J_sub (l' := [some ((7, .ref x0) : TV), some ((0, .int x1) : TV), some ((0, .int x2) : TV), some ((0, .int x3) : TV), some ((0, .int (x4 + 1)) : TV), none]) ⟨rfl, ⟨rfl, ⟨rfl, ⟨rfl, ⟨rfl, trivial⟩⟩⟩⟩⟩ ?_
  exact hk24 x0 x1 x2 x3 (x4 + 1)
set_option maxRecDepth 100000 in
set_option maxHeartbeats 4000000 in
theorem jX7_bestEvery_L95 {κ : Cx} {fin : Int32 → Mm → Prop} (hc : Jc κ RX7 cX7_bestEvery 6 7 0 0 175) (he : Ed κ cX7_bestEvery 0 0 wI .ireturn fin) {k24 : Nat → Int32 → Int32 → Int32 → Int32 → Mm → Option (Int32 × Mm)} (hk24 : ∀ (x0 : Nat) (x1 : Int32) (x2 : Int32) (x3 : Int32) (x4 : Int32), Jg κ (wM κ) 6 fin 0 0 24 [some ((7, .ref x0) : TV), some ((0, .int x1) : TV), some ((0, .int x2) : TV), some ((0, .int x3) : TV), some ((0, .int x4) : TV), none] [] (k24 x0 x1 x2 x3 x4)) (x0 : Nat) (x4 : Int32) (x5 : Int32) : Jg κ (wM κ) 6 fin 0 0 95 [some ((7, .ref x0) : TV), none, none, none, some ((0, .int x4) : TV), some ((0, .int x5) : TV)] [] (fX7_bestEvery_L95 k24 x0 x4 x5) := by
  unfold fX7_bestEvery_L95
  refine J_iload (pc := 95) hc dX7_bestEvery_95 rfl ?_
  refine J_istore_n (pc := 97) (l' := [some ((7, .ref x0) : TV), some ((0, .int x4) : TV), none, none, some ((0, .int x4) : TV), some ((0, .int x5) : TV)]) hc dX7_bestEvery_97 rfl (by decide) rfl rfl ?_
  refine J_iload (pc := 98) hc dX7_bestEvery_98 rfl ?_
  refine J_istore_n (pc := 100) (l' := [some ((7, .ref x0) : TV), some ((0, .int x4) : TV), some ((0, .int x5) : TV), none, some ((0, .int x4) : TV), some ((0, .int x5) : TV)]) hc dX7_bestEvery_100 rfl (by decide) rfl rfl ?_
  refine J_aload_n (pc := 101) hc dX7_bestEvery_101 rfl rfl ?_
  refine J_getA (pc := 102) hc clX7 (k := 5) (kd := 5) (Nat.le_of_ble_eq_true rfl) rfl (Nat.le_of_ble_eq_true rfl) tw300 (Or.inl rfl) dX7_bestEvery_102 (fun v1 => ?_)
  refine J_getI (pc := 105) hc clX5 (k := 2) (Nat.le_of_ble_eq_true rfl) rfl tw239 (Or.inl rfl) dX7_bestEvery_105 (fun v2 => ?_)
  refine J_istore_n (pc := 108) (l' := [some ((7, .ref x0) : TV), some ((0, .int x4) : TV), some ((0, .int x5) : TV), some ((0, .int v2) : TV), some ((0, .int x4) : TV), some ((0, .int x5) : TV)]) hc dX7_bestEvery_108 rfl (by decide) rfl rfl ?_
  refine J_sub (l' := [some ((7, .ref x0) : TV), some ((0, .int x4) : TV), some ((0, .int x5) : TV), some ((0, .int v2) : TV), some ((0, .int x4) : TV), none]) ⟨rfl, ⟨rfl, ⟨rfl, ⟨rfl, ⟨rfl, trivial⟩⟩⟩⟩⟩ ?_
  exact jX7_bestEvery_L109 hc he hk24 x0 x4 x5 v2 x4
set_option maxRecDepth 100000 in
set_option maxHeartbeats 4000000 in
theorem jX7_bestEvery_L24 {κ : Cx} {fin : Int32 → Mm → Prop} (hc : Jc κ RX7 cX7_bestEvery 6 7 0 0 175) (he : Ed κ cX7_bestEvery 0 0 wI .ireturn fin) : ∀ (n : Nat) (x0 : Nat) (x1 : Int32) (x2 : Int32) (x3 : Int32) (x4 : Int32), Jg κ (wM κ) 6 fin 0 0 24 [some ((7, .ref x0) : TV), some ((0, .int x1) : TV), some ((0, .int x2) : TV), some ((0, .int x3) : TV), some ((0, .int x4) : TV), none] [] (fX7_bestEvery_L24 n x0 x1 x2 x3 x4) := by
  intro n
  induction n with
  | zero => intro x0 x1 x2 x3 x4; exact J_fail
  | succ n ih =>
    intro x0 x1 x2 x3 x4
    unfold fX7_bestEvery_L24
    refine J_iload (pc := 24) hc dX7_bestEvery_24 rfl ?_
    refine J_gets (pc := 26) (j := 2) hc (by decide) tw1351 dX7_bestEvery_26 ?_
    refine J_iconst (pc := 29) (v := 0) hc dX7_bestEvery_29 (by decide) ?_
    refine J_tald (pc := 30) (j := 2) hc (by decide) dX7_bestEvery_30 (fun v3 => ?_)
    refine J_icmp_gt (pc := 31) (tgt := 115) hc dX7_bestEvery_31 (by decide) ?_ ?_
    · refine J_iload_n (pc := 115) hc dX7_bestEvery_115 rfl rfl ?_
      exact J_iret (pc := 116) he dX7_bestEvery_116
    · refine J_aload_n (pc := 34) hc dX7_bestEvery_34 rfl rfl ?_
      refine J_getA (pc := 35) hc clX7 (k := 5) (kd := 5) (Nat.le_of_ble_eq_true rfl) rfl (Nat.le_of_ble_eq_true rfl) tw300 (Or.inl rfl) dX7_bestEvery_35 (fun v4 => ?_)
      refine J_iload (pc := 38) hc dX7_bestEvery_38 rfl ?_
      refine J_putI (pc := 40) hc clX5 (k := 0) (Nat.le_of_ble_eq_true rfl) rfl rfl tw235 (Or.inl rfl) rfl dX7_bestEvery_40 ?_
      refine J_aload_n (pc := 43) hc dX7_bestEvery_43 rfl rfl ?_
      refine J_getA (pc := 44) hc clX7 (k := 5) (kd := 5) (Nat.le_of_ble_eq_true rfl) rfl (Nat.le_of_ble_eq_true rfl) tw300 (Or.inl rfl) dX7_bestEvery_44 (fun v5 => ?_)
      refine J_aload_n (pc := 47) hc dX7_bestEvery_47 rfl rfl ?_
      refine J_getA (pc := 48) hc clX7 (k := 0) (kd := 2) (Nat.le_of_ble_eq_true rfl) rfl (Nat.le_of_ble_eq_true rfl) tw295 (Or.inl rfl) dX7_bestEvery_48 (fun v6 => ?_)
      refine J_callVv (pc := 51) hc clX5 (As := [((2, .ref v6) : TV)]) (KX5_sendPage v5 v6) dX7_bestEvery_51 moX5_sendPage rfl tw1260 tw1261 tw1262 tw9 tw1263 rfl (Nat.le_of_ble_eq_true rfl) (Nat.le_of_ble_eq_true rfl) (Nat.le_of_ble_eq_true rfl) (Nat.le_of_ble_eq_true rfl) (Nat.le_of_ble_eq_true rfl) rfl (fun _ => ?_)
      refine J_aload_n (pc := 54) hc dX7_bestEvery_54 rfl rfl ?_
      refine J_getA (pc := 55) hc clX7 (k := 5) (kd := 5) (Nat.le_of_ble_eq_true rfl) rfl (Nat.le_of_ble_eq_true rfl) tw300 (Or.inl rfl) dX7_bestEvery_55 (fun v7 => ?_)
      refine J_aload_n (pc := 58) hc dX7_bestEvery_58 rfl rfl ?_
      refine J_getA (pc := 59) hc clX7 (k := 0) (kd := 2) (Nat.le_of_ble_eq_true rfl) rfl (Nat.le_of_ble_eq_true rfl) tw295 (Or.inl rfl) dX7_bestEvery_59 (fun v8 => ?_)
      refine J_callVi (pc := 62) hc clX5 (As := [((2, .ref v8) : TV)]) (KX5_wrongDots v7 v8) dX7_bestEvery_62 moX5_wrongDots rfl tw1292 tw1293 tw1294 tw9 tw1295 rfl (Nat.le_of_ble_eq_true rfl) (Nat.le_of_ble_eq_true rfl) (Nat.le_of_ble_eq_true rfl) (Nat.le_of_ble_eq_true rfl) (Nat.le_of_ble_eq_true rfl) rfl (fun v9 => ?_)
      refine J_istore (pc := 65) (l' := [some ((7, .ref x0) : TV), some ((0, .int x1) : TV), some ((0, .int x2) : TV), some ((0, .int x3) : TV), some ((0, .int x4) : TV), some ((0, .int v9) : TV)]) hc dX7_bestEvery_65 (by decide) rfl rfl ?_
      refine J_iload_n (pc := 67) hc dX7_bestEvery_67 rfl rfl ?_
      refine J_iconst (pc := 68) (v := (-1)) hc dX7_bestEvery_68 (by decide) ?_
      refine J_icmp_eq (pc := 69) (tgt := 95) hc dX7_bestEvery_69 (by decide) ?_ ?_
      · refine J_sub (l' := [some ((7, .ref x0) : TV), none, none, none, some ((0, .int x4) : TV), some ((0, .int v9) : TV)]) ⟨rfl, ⟨rfl, ⟨rfl, trivial⟩⟩⟩ ?_
        exact jX7_bestEvery_L95 hc he ih x0 x4 v9
      · refine J_iload (pc := 72) hc dX7_bestEvery_72 rfl ?_
        refine J_iload_n (pc := 74) hc dX7_bestEvery_74 rfl rfl ?_
        refine J_icmp_lt (pc := 75) (tgt := 95) hc dX7_bestEvery_75 (by decide) ?_ ?_
        · refine J_sub (l' := [some ((7, .ref x0) : TV), none, none, none, some ((0, .int x4) : TV), some ((0, .int v9) : TV)]) ⟨rfl, ⟨rfl, ⟨rfl, trivial⟩⟩⟩ ?_
          exact jX7_bestEvery_L95 hc he ih x0 x4 v9
        · refine J_iload (pc := 78) hc dX7_bestEvery_78 rfl ?_
          refine J_iload_n (pc := 80) hc dX7_bestEvery_80 rfl rfl ?_
          refine J_icmp_ne (pc := 81) (tgt := 109) hc dX7_bestEvery_81 (by decide) ?_ ?_
          · refine J_sub (l' := [some ((7, .ref x0) : TV), some ((0, .int x1) : TV), some ((0, .int x2) : TV), some ((0, .int x3) : TV), some ((0, .int x4) : TV), none]) ⟨rfl, ⟨rfl, ⟨rfl, ⟨rfl, ⟨rfl, trivial⟩⟩⟩⟩⟩ ?_
            exact jX7_bestEvery_L109 hc he ih x0 x1 x2 x3 x4
          · refine J_aload_n (pc := 84) hc dX7_bestEvery_84 rfl rfl ?_
            refine J_getA (pc := 85) hc clX7 (k := 5) (kd := 5) (Nat.le_of_ble_eq_true rfl) rfl (Nat.le_of_ble_eq_true rfl) tw300 (Or.inl rfl) dX7_bestEvery_85 (fun v10 => ?_)
            refine J_getI (pc := 88) hc clX5 (k := 2) (Nat.le_of_ble_eq_true rfl) rfl tw239 (Or.inl rfl) dX7_bestEvery_88 (fun v11 => ?_)
            refine J_iload_n (pc := 91) hc dX7_bestEvery_91 rfl rfl ?_
            refine J_icmp_ge (pc := 92) (tgt := 109) hc dX7_bestEvery_92 (by decide) ?_ ?_
            · refine J_sub (l' := [some ((7, .ref x0) : TV), some ((0, .int x1) : TV), some ((0, .int x2) : TV), some ((0, .int x3) : TV), some ((0, .int x4) : TV), none]) ⟨rfl, ⟨rfl, ⟨rfl, ⟨rfl, ⟨rfl, trivial⟩⟩⟩⟩⟩ ?_
              exact jX7_bestEvery_L109 hc he ih x0 x1 x2 x3 x4
            · refine J_sub (l' := [some ((7, .ref x0) : TV), none, none, none, some ((0, .int x4) : TV), some ((0, .int v9) : TV)]) ⟨rfl, ⟨rfl, ⟨rfl, trivial⟩⟩⟩ ?_
              exact jX7_bestEvery_L95 hc he ih x0 x4 v9
set_option maxRecDepth 100000 in
set_option maxHeartbeats 4000000 in
theorem jX7_bestEvery {κ : Cx} {fin : Int32 → Mm → Prop} (hc : Jc κ RX7 cX7_bestEvery 6 7 0 0 175) (he : Ed κ cX7_bestEvery 0 0 wI .ireturn fin) (x0 : Nat) : Jg κ (wM κ) 6 fin 0 0 0 [some ((7, .ref x0) : TV), none, none, none, none, none] [] (fX7_bestEvery x0) := by
  unfold fX7_bestEvery
  refine J_aload_n (pc := 0) hc dX7_bestEvery_0 rfl rfl ?_
  refine J_getA (pc := 1) hc clX7 (k := 5) (kd := 5) (Nat.le_of_ble_eq_true rfl) rfl (Nat.le_of_ble_eq_true rfl) tw300 (Or.inl rfl) dX7_bestEvery_1 (fun v12 => ?_)
  refine J_aload_n (pc := 4) hc dX7_bestEvery_4 rfl rfl ?_
  refine J_getA (pc := 5) hc clX7 (k := 0) (kd := 2) (Nat.le_of_ble_eq_true rfl) rfl (Nat.le_of_ble_eq_true rfl) tw295 (Or.inl rfl) dX7_bestEvery_5 (fun v13 => ?_)
  refine J_callVv (pc := 8) hc clX5 (As := [((2, .ref v13) : TV)]) (KX5_prepare v12 v13) dX7_bestEvery_8 moX5_prepare rfl tw1253 tw1254 tw1255 tw9 tw1256 rfl (Nat.le_of_ble_eq_true rfl) (Nat.le_of_ble_eq_true rfl) (Nat.le_of_ble_eq_true rfl) (Nat.le_of_ble_eq_true rfl) (Nat.le_of_ble_eq_true rfl) rfl (fun _ => ?_)
  refine J_iconst (pc := 11) (v := (-1)) hc dX7_bestEvery_11 (by decide) ?_
  refine J_istore_n (pc := 12) (l' := [some ((7, .ref x0) : TV), some ((0, .int (-1)) : TV), none, none, none, none]) hc dX7_bestEvery_12 rfl (by decide) rfl rfl ?_
  refine J_iconst (pc := 13) (v := 0) hc dX7_bestEvery_13 (by decide) ?_
  refine J_istore_n (pc := 14) (l' := [some ((7, .ref x0) : TV), some ((0, .int (-1)) : TV), some ((0, .int 0) : TV), none, none, none]) hc dX7_bestEvery_14 rfl (by decide) rfl rfl ?_
  refine J_iconst (pc := 15) (v := 0) hc dX7_bestEvery_15 (by decide) ?_
  refine J_istore_n (pc := 16) (l' := [some ((7, .ref x0) : TV), some ((0, .int (-1)) : TV), some ((0, .int 0) : TV), some ((0, .int 0) : TV), none, none]) hc dX7_bestEvery_16 rfl (by decide) rfl rfl ?_
  refine J_gets (pc := 17) (j := 1) hc (by decide) tw1350 dX7_bestEvery_17 ?_
  refine J_iconst (pc := 20) (v := 0) hc dX7_bestEvery_20 (by decide) ?_
  refine J_tald (pc := 21) (j := 1) hc (by decide) dX7_bestEvery_21 (fun v14 => ?_)
  refine J_istore (pc := 22) (l' := [some ((7, .ref x0) : TV), some ((0, .int (-1)) : TV), some ((0, .int 0) : TV), some ((0, .int 0) : TV), some ((0, .int v14) : TV), none]) hc dX7_bestEvery_22 (by decide) rfl rfl ?_
  refine J_sub (l' := [some ((7, .ref x0) : TV), some ((0, .int (-1)) : TV), some ((0, .int 0) : TV), some ((0, .int 0) : TV), some ((0, .int v14) : TV), none]) ⟨rfl, ⟨rfl, ⟨rfl, ⟨rfl, ⟨rfl, trivial⟩⟩⟩⟩⟩ ?_
  exact jX7_bestEvery_L24 hc he fu x0 (-1) 0 0 v14
theorem moX7_bestEvery : MOk yX7_bestEvery 0 := ⟨by decide +kernel, by decide +kernel, by decide +kernel⟩
set_option maxRecDepth 100000 in
set_option maxHeartbeats 4000000 in
theorem KX7_bestEvery (x0 : Nat) : Ct wI yX7_bestEvery cX7_bestEvery 6 (some .int) 7 0 0 175 [((7, .ref x0) : TV)] (fX7_bestEvery x0) :=
  Ct_I (j := 5) (by decide +kernel) rfl rfl (Nat.le_of_ble_eq_true rfl) (fun κ fin hc he => jX7_bestEvery hc he x0)
set_option maxRecDepth 100000 in
set_option maxHeartbeats 4000000 in
theorem jX7_needsSteps_L17 {κ : Cx} {fin : Int32 → Mm → Prop} (hc : Jc κ RX7 cX7_needsSteps 2 7 0 0 175) (he : Ed κ cX7_needsSteps 0 0 wI .ireturn fin) : ∀ (n : Nat) (x0 : Nat) (x1 : Int32), Jg κ (wM κ) 2 fin 0 0 17 [some ((7, .ref x0) : TV), some ((0, .int x1) : TV)] [] (fX7_needsSteps_L17 n x0 x1) := by
  intro n
  induction n with
  | zero => intro x0 x1; exact J_fail
  | succ n ih =>
    intro x0 x1
    unfold fX7_needsSteps_L17
    refine J_iload_n (pc := 17) hc dX7_needsSteps_17 rfl rfl ?_
    refine J_gets (pc := 18) (j := 2) hc (by decide) tw1351 dX7_needsSteps_18 ?_
    refine J_iconst (pc := 21) (v := 3) hc dX7_needsSteps_21 (by decide) ?_
    refine J_tald (pc := 22) (j := 2) hc (by decide) dX7_needsSteps_22 (fun v1 => ?_)
    refine J_icmp_gt (pc := 23) (tgt := 67) hc dX7_needsSteps_23 (by decide) ?_ ?_
    · refine J_iconst (pc := 67) (v := (-1)) hc dX7_needsSteps_67 (by decide) ?_
      exact J_iret (pc := 68) he dX7_needsSteps_68
    · refine J_aload_n (pc := 26) hc dX7_needsSteps_26 rfl rfl ?_
      refine J_getA (pc := 27) hc clX7 (k := 5) (kd := 5) (Nat.le_of_ble_eq_true rfl) rfl (Nat.le_of_ble_eq_true rfl) tw300 (Or.inl rfl) dX7_needsSteps_27 (fun v2 => ?_)
      refine J_iload_n (pc := 30) hc dX7_needsSteps_30 rfl rfl ?_
      refine J_putI (pc := 31) hc clX5 (k := 1) (Nat.le_of_ble_eq_true rfl) rfl rfl tw237 (Or.inl rfl) rfl dX7_needsSteps_31 ?_
      refine J_aload_n (pc := 34) hc dX7_needsSteps_34 rfl rfl ?_
      refine J_getA (pc := 35) hc clX7 (k := 5) (kd := 5) (Nat.le_of_ble_eq_true rfl) rfl (Nat.le_of_ble_eq_true rfl) tw300 (Or.inl rfl) dX7_needsSteps_35 (fun v3 => ?_)
      refine J_aload_n (pc := 38) hc dX7_needsSteps_38 rfl rfl ?_
      refine J_getA (pc := 39) hc clX7 (k := 0) (kd := 2) (Nat.le_of_ble_eq_true rfl) rfl (Nat.le_of_ble_eq_true rfl) tw295 (Or.inl rfl) dX7_needsSteps_39 (fun v4 => ?_)
      refine J_callVv (pc := 42) hc clX5 (As := [((2, .ref v4) : TV)]) (KX5_sendPage v3 v4) dX7_needsSteps_42 moX5_sendPage rfl tw1260 tw1261 tw1262 tw9 tw1263 rfl (Nat.le_of_ble_eq_true rfl) (Nat.le_of_ble_eq_true rfl) (Nat.le_of_ble_eq_true rfl) (Nat.le_of_ble_eq_true rfl) (Nat.le_of_ble_eq_true rfl) rfl (fun _ => ?_)
      refine J_aload_n (pc := 45) hc dX7_needsSteps_45 rfl rfl ?_
      refine J_getA (pc := 46) hc clX7 (k := 5) (kd := 5) (Nat.le_of_ble_eq_true rfl) rfl (Nat.le_of_ble_eq_true rfl) tw300 (Or.inl rfl) dX7_needsSteps_46 (fun v5 => ?_)
      refine J_aload_n (pc := 49) hc dX7_needsSteps_49 rfl rfl ?_
      refine J_getA (pc := 50) hc clX7 (k := 0) (kd := 2) (Nat.le_of_ble_eq_true rfl) rfl (Nat.le_of_ble_eq_true rfl) tw295 (Or.inl rfl) dX7_needsSteps_50 (fun v6 => ?_)
      refine J_callVi (pc := 53) hc clX5 (As := [((2, .ref v6) : TV)]) (KX5_wrongDots v5 v6) dX7_needsSteps_53 moX5_wrongDots rfl tw1292 tw1293 tw1294 tw9 tw1295 rfl (Nat.le_of_ble_eq_true rfl) (Nat.le_of_ble_eq_true rfl) (Nat.le_of_ble_eq_true rfl) (Nat.le_of_ble_eq_true rfl) (Nat.le_of_ble_eq_true rfl) rfl (fun v7 => ?_)
      refine J_if_ne (pc := 56) (tgt := 61) hc dX7_needsSteps_56 (by decide) ?_ ?_
      · refine J_iinc (pc := 61) (v := x1 + 1) (l' := [some ((7, .ref x0) : TV), some ((0, .int (x1 + 1)) : TV)]) hc dX7_needsSteps_61 rfl rfl (by decide) rfl rfl ?_
        refine J_goto (pc := 64) (tgt := 17) hc dX7_needsSteps_64 (by decide) ?_
        refine J_sub (l' := [some ((7, .ref x0) : TV), some ((0, .int (x1 + 1)) : TV)]) ⟨rfl, ⟨rfl, trivial⟩⟩ ?_
        exact ih x0 (x1 + 1)
      · refine J_iload_n (pc := 59) hc dX7_needsSteps_59 rfl rfl ?_
        exact J_iret (pc := 60) he dX7_needsSteps_60
set_option maxRecDepth 100000 in
set_option maxHeartbeats 4000000 in
theorem jX7_needsSteps {κ : Cx} {fin : Int32 → Mm → Prop} (hc : Jc κ RX7 cX7_needsSteps 2 7 0 0 175) (he : Ed κ cX7_needsSteps 0 0 wI .ireturn fin) (x0 : Nat) : Jg κ (wM κ) 2 fin 0 0 0 [some ((7, .ref x0) : TV), none] [] (fX7_needsSteps x0) := by
  unfold fX7_needsSteps
  refine J_aload_n (pc := 0) hc dX7_needsSteps_0 rfl rfl ?_
  refine J_getA (pc := 1) hc clX7 (k := 5) (kd := 5) (Nat.le_of_ble_eq_true rfl) rfl (Nat.le_of_ble_eq_true rfl) tw300 (Or.inl rfl) dX7_needsSteps_1 (fun v8 => ?_)
  refine J_aload_n (pc := 4) hc dX7_needsSteps_4 rfl rfl ?_
  refine J_getA (pc := 5) hc clX7 (k := 0) (kd := 2) (Nat.le_of_ble_eq_true rfl) rfl (Nat.le_of_ble_eq_true rfl) tw295 (Or.inl rfl) dX7_needsSteps_5 (fun v9 => ?_)
  refine J_callVv (pc := 8) hc clX5 (As := [((2, .ref v9) : TV)]) (KX5_prepare v8 v9) dX7_needsSteps_8 moX5_prepare rfl tw1253 tw1254 tw1255 tw9 tw1256 rfl (Nat.le_of_ble_eq_true rfl) (Nat.le_of_ble_eq_true rfl) (Nat.le_of_ble_eq_true rfl) (Nat.le_of_ble_eq_true rfl) (Nat.le_of_ble_eq_true rfl) rfl (fun _ => ?_)
  refine J_gets (pc := 11) (j := 1) hc (by decide) tw1350 dX7_needsSteps_11 ?_
  refine J_iconst (pc := 14) (v := 3) hc dX7_needsSteps_14 (by decide) ?_
  refine J_tald (pc := 15) (j := 1) hc (by decide) dX7_needsSteps_15 (fun v10 => ?_)
  refine J_istore_n (pc := 16) (l' := [some ((7, .ref x0) : TV), some ((0, .int v10) : TV)]) hc dX7_needsSteps_16 rfl (by decide) rfl rfl ?_
  refine J_sub (l' := [some ((7, .ref x0) : TV), some ((0, .int v10) : TV)]) ⟨rfl, ⟨rfl, trivial⟩⟩ ?_
  exact jX7_needsSteps_L17 hc he fu x0 v10
theorem moX7_needsSteps : MOk yX7_needsSteps 0 := ⟨by decide +kernel, by decide +kernel, by decide +kernel⟩
set_option maxRecDepth 100000 in
set_option maxHeartbeats 4000000 in
theorem KX7_needsSteps (x0 : Nat) : Ct wI yX7_needsSteps cX7_needsSteps 2 (some .int) 7 0 0 175 [((7, .ref x0) : TV)] (fX7_needsSteps x0) :=
  Ct_I (j := 1) (by decide +kernel) rfl rfl (Nat.le_of_ble_eq_true rfl) (fun κ fin hc he => jX7_needsSteps hc he x0)
set_option maxRecDepth 100000 in
set_option maxHeartbeats 4000000 in
theorem jX7_undo {κ : Cx} {fin : Int32 → Mm → Prop} (hc : Jc κ RX7 cX7_undo 1 2 0 0 44) (he : Ed κ cX7_undo 0 0 wI .ireturn fin) (x0 : Nat) : Jg κ (wM κ) 1 fin 0 0 0 [some ((7, .ref x0) : TV)] [] (fX7_undo x0) := by
  unfold fX7_undo
  refine J_aload_n (pc := 0) hc dX7_undo_0 rfl rfl ?_
  refine J_getA (pc := 1) hc clX7 (k := 1) (kd := 1) (Nat.le_of_ble_eq_true rfl) rfl (Nat.le_of_ble_eq_true rfl) tw296 (Or.inl rfl) dX7_undo_1 (fun v1 => ?_)
  refine J_aload_n (pc := 4) hc dX7_undo_4 rfl rfl ?_
  refine J_getA (pc := 5) hc clX7 (k := 0) (kd := 2) (Nat.le_of_ble_eq_true rfl) rfl (Nat.le_of_ble_eq_true rfl) tw295 (Or.inl rfl) dX7_undo_5 (fun v2 => ?_)
  refine J_callVi (pc := 8) hc clX1 (As := [((2, .ref v2) : TV)]) (KX1_takeBack v1 v2) dX7_undo_8 moX1_takeBack rfl tw730 tw731 tw732 tw4 tw733 rfl (Nat.le_of_ble_eq_true rfl) (Nat.le_of_ble_eq_true rfl) (Nat.le_of_ble_eq_true rfl) (Nat.le_of_ble_eq_true rfl) (Nat.le_of_ble_eq_true rfl) rfl (fun v3 => ?_)
  refine J_if_eq (pc := 11) (tgt := 24) hc dX7_undo_11 (by decide) ?_ ?_
  · refine J_iconst (pc := 24) (v := (-1)) hc dX7_undo_24 (by decide) ?_
    exact J_iret (pc := 25) he dX7_undo_25
  · refine J_aload_n (pc := 14) hc dX7_undo_14 rfl rfl ?_
    refine J_getA (pc := 15) hc clX7 (k := 1) (kd := 1) (Nat.le_of_ble_eq_true rfl) rfl (Nat.le_of_ble_eq_true rfl) tw296 (Or.inl rfl) dX7_undo_15 (fun v4 => ?_)
    refine J_getI (pc := 18) hc clX1 (k := 0) (Nat.le_of_ble_eq_true rfl) rfl tw92 (Or.inl rfl) dX7_undo_18 (fun v5 => ?_)
    refine J_goto (pc := 21) (tgt := 25) hc dX7_undo_21 (by decide) ?_
    exact J_iret (pc := 25) he dX7_undo_25
theorem moX7_undo : MOk yX7_undo 0 := ⟨by decide +kernel, by decide +kernel, by decide +kernel⟩
set_option maxRecDepth 100000 in
set_option maxHeartbeats 4000000 in
theorem KX7_undo (x0 : Nat) : Ct wI yX7_undo cX7_undo 1 (some .int) 2 0 0 44 [((7, .ref x0) : TV)] (fX7_undo x0) :=
  Ct_I (j := 0) (by decide +kernel) rfl rfl (Nat.le_of_ble_eq_true rfl) (fun κ fin hc he => jX7_undo hc he x0)
