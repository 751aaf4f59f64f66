set_option maxRecDepth 100000 in
set_option maxHeartbeats 4000000 in
theorem jX8_begins_L2 {κ : Cx} {fin : Unit → Mm → Prop} (hc : Jc κ RX8 cX8_begins 3 0 0 0 0) (he : Ed κ cX8_begins 0 0 wV .return_ fin) : ∀ (n : Nat) (x0 : Nat) (x1 : Int32) (x2 : Int32), Jg κ (wM κ) 3 fin 0 0 2 [some ((8, .ref x0) : TV), some ((0, .int x1) : TV), some ((0, .int x2) : TV)] [] (fX8_begins_L2 n x0 x1 x2) := by
  intro n
  induction n with
  | zero => intro x0 x1 x2; exact J_fail
  | succ n ih =>
    intro x0 x1 x2
    unfold fX8_begins_L2
    refine J_iload_n (pc := 2) hc dX8_begins_2 rfl rfl ?_
    refine J_sipush (pc := 3) (v := 828) hc dX8_begins_3 (by decide) ?_
    refine J_icmp_ge (pc := 6) (tgt := 22) hc dX8_begins_6 (by decide) ?_ ?_
    · refine J_aload_n (pc := 22) hc dX8_begins_22 rfl rfl ?_
      refine J_getA (pc := 23) hc clX8 (k := 2) (kd := 11) (Nat.le_of_ble_eq_true rfl) rfl (Nat.le_of_ble_eq_true rfl) (Nat.le_of_ble_eq_true rfl) tw1164 rfl dX8_begins_23 (fun v1 => ?_)
      refine J_iconst (pc := 26) (v := 0) hc dX8_begins_26 (by decide) ?_
      refine J_iload_n (pc := 27) hc dX8_begins_27 rfl rfl ?_
      refine J_iast (pc := 28) hc dX8_begins_28 ?_
      refine J_aload_n (pc := 29) hc dX8_begins_29 rfl rfl ?_
      refine J_getA (pc := 30) hc clX8 (k := 2) (kd := 11) (Nat.le_of_ble_eq_true rfl) rfl (Nat.le_of_ble_eq_true rfl) (Nat.le_of_ble_eq_true rfl) tw1164 rfl dX8_begins_30 (fun v2 => ?_)
      refine J_iconst (pc := 33) (v := 2) hc dX8_begins_33 (by decide) ?_
      refine J_iconst (pc := 34) (v := 4) hc dX8_begins_34 (by decide) ?_
      refine J_iast (pc := 35) hc dX8_begins_35 ?_
      refine J_aload_n (pc := 36) hc dX8_begins_36 rfl rfl ?_
      refine J_getA (pc := 37) hc clX8 (k := 2) (kd := 11) (Nat.le_of_ble_eq_true rfl) rfl (Nat.le_of_ble_eq_true rfl) (Nat.le_of_ble_eq_true rfl) tw1164 rfl dX8_begins_37 (fun v3 => ?_)
      refine J_bipush (pc := 40) (v := 6) hc dX8_begins_40 (by decide) ?_
      refine J_bipush (pc := 42) (v := 8) hc dX8_begins_42 (by decide) ?_
      refine J_iast (pc := 44) hc dX8_begins_44 ?_
      refine J_aload_n (pc := 45) hc dX8_begins_45 rfl rfl ?_
      refine J_getA (pc := 46) hc clX8 (k := 2) (kd := 11) (Nat.le_of_ble_eq_true rfl) rfl (Nat.le_of_ble_eq_true rfl) (Nat.le_of_ble_eq_true rfl) tw1164 rfl dX8_begins_46 (fun v4 => ?_)
      refine J_bipush (pc := 49) (v := 7) hc dX8_begins_49 (by decide) ?_
      refine J_bipush (pc := 51) (v := 16) hc dX8_begins_51 (by decide) ?_
      refine J_iast (pc := 53) hc dX8_begins_53 ?_
      exact J_vret (pc := 54) he dX8_begins_54
    · refine J_aload_n (pc := 9) hc dX8_begins_9 rfl rfl ?_
      refine J_getA (pc := 10) hc clX8 (k := 2) (kd := 11) (Nat.le_of_ble_eq_true rfl) rfl (Nat.le_of_ble_eq_true rfl) (Nat.le_of_ble_eq_true rfl) tw1164 rfl dX8_begins_10 (fun v5 => ?_)
      refine J_iload_n (pc := 13) hc dX8_begins_13 rfl rfl ?_
      refine J_iconst (pc := 14) (v := 0) hc dX8_begins_14 (by decide) ?_
      refine J_iast (pc := 15) hc dX8_begins_15 ?_
      refine J_iinc (pc := 16) (v := x2 + 1) (l' := [some ((8, .ref x0) : TV), some ((0, .int x1) : TV), some ((0, .int (x2 + 1)) : TV)]) hc dX8_begins_16 rfl rfl (by decide) rfl rfl ?_
      refine J_goto (pc := 19) (tgt := 2) hc dX8_begins_19 (by decide) ?_
      refine J_sub (l' := [some ((8, .ref x0) : TV), some ((0, .int x1) : TV), some ((0, .int (x2 + 1)) : TV)]) ⟨rfl, ⟨rfl, ⟨rfl, trivial⟩⟩⟩ ?_
      exact ih x0 x1 (x2 + 1)
set_option maxRecDepth 100000 in
set_option maxHeartbeats 4000000 in
theorem jX8_begins {κ : Cx} {fin : Unit → Mm → Prop} (hc : Jc κ RX8 cX8_begins 3 0 0 0 0) (he : Ed κ cX8_begins 0 0 wV .return_ fin) (x0 : Nat) (x1 : Int32) : Jg κ (wM κ) 3 fin 0 0 0 [some ((8, .ref x0) : TV), some ((0, .int x1) : TV), none] [] (fX8_begins x0 x1) := by
  unfold fX8_begins
  refine J_iconst (pc := 0) (v := 0) hc dX8_begins_0 (by decide) ?_
  refine J_istore_n (pc := 1) (l' := [some ((8, .ref x0) : TV), some ((0, .int x1) : TV), some ((0, .int 0) : TV)]) hc dX8_begins_1 rfl (by decide) rfl rfl ?_
  refine J_sub (l' := [some ((8, .ref x0) : TV), some ((0, .int x1) : TV), some ((0, .int 0) : TV)]) ⟨rfl, ⟨rfl, ⟨rfl, trivial⟩⟩⟩ ?_
  exact jX8_begins_L2 hc he fu x0 x1 0
theorem moX8_begins : MOk yX8_begins 1 := ⟨by decide +kernel, by decide +kernel, by decide +kernel⟩
set_option maxRecDepth 100000 in
set_option maxHeartbeats 4000000 in
theorem KX8_begins (x0 : Nat) (x1 : Int32) : Ct wV yX8_begins cX8_begins 3 none 0 0 0 0 [((8, .ref x0) : TV), ((0, .int x1) : TV)] (fX8_begins x0 x1) :=
  Ct_V (j := 1) (by decide +kernel) rfl rfl (Nat.le_of_ble_eq_true rfl) (fun κ fin hc he hin => jX8_begins hc he x0 x1)
set_option maxRecDepth 100000 in
set_option maxHeartbeats 4000000 in
theorem jX8_copies_L3 {κ : Cx} {fin : Unit → Mm → Prop} (hc : Jc κ RX8 cX8_copies 5 0 0 0 0) (he : Ed κ cX8_copies 0 0 wV .return_ fin) : ∀ (n : Nat) (x0 : Nat) (x1 : Int32) (x2 : Nat) (x3 : Int32) (x4 : Int32), Jg κ (wM κ) 5 fin 0 0 3 [some ((11, .ref x0) : TV), some ((0, .int x1) : TV), some ((11, .ref x2) : TV), some ((0, .int x3) : TV), some ((0, .int x4) : TV)] [] (fX8_copies_L3 n x0 x1 x2 x3 x4) := by
  intro n
  induction n with
  | zero => intro x0 x1 x2 x3 x4; exact J_fail
  | succ n ih =>
    intro x0 x1 x2 x3 x4
    unfold fX8_copies_L3
    refine J_iload (pc := 3) hc dX8_copies_3 rfl ?_
    refine J_sipush (pc := 5) (v := 828) hc dX8_copies_5 (by decide) ?_
    refine J_icmp_ge (pc := 8) (tgt := 29) hc dX8_copies_8 (by decide) ?_ ?_
    · exact J_vret (pc := 29) he dX8_copies_29
    · refine J_aload_n (pc := 11) hc dX8_copies_11 rfl rfl ?_
      refine J_iload_n (pc := 12) hc dX8_copies_12 rfl rfl ?_
      refine J_iload (pc := 13) hc dX8_copies_13 rfl ?_
      refine J_iadd (pc := 15) hc dX8_copies_15 ?_
      refine J_aload_n (pc := 16) hc dX8_copies_16 rfl rfl ?_
      refine J_iload_n (pc := 17) hc dX8_copies_17 rfl rfl ?_
      refine J_iload (pc := 18) hc dX8_copies_18 rfl ?_
      refine J_iadd (pc := 20) hc dX8_copies_20 ?_
      refine J_iald (pc := 21) hc dX8_copies_21 (fun v1 => ?_)
      refine J_iast (pc := 22) hc dX8_copies_22 ?_
      refine J_iinc (pc := 23) (v := x4 + 1) (l' := [some ((11, .ref x0) : TV), some ((0, .int x1) : TV), some ((11, .ref x2) : TV), some ((0, .int x3) : TV), some ((0, .int (x4 + 1)) : TV)]) hc dX8_copies_23 rfl rfl (by decide) rfl rfl ?_
      refine J_goto (pc := 26) (tgt := 3) hc dX8_copies_26 (by decide) ?_
      refine J_sub (l' := [some ((11, .ref x0) : TV), some ((0, .int x1) : TV), some ((11, .ref x2) : TV), some ((0, .int x3) : TV), some ((0, .int (x4 + 1)) : TV)]) ⟨rfl, ⟨rfl, ⟨rfl, ⟨rfl, ⟨rfl, trivial⟩⟩⟩⟩⟩ ?_
      exact ih x0 x1 x2 x3 (x4 + 1)
set_option maxRecDepth 100000 in
set_option maxHeartbeats 4000000 in
theorem jX8_copies {κ : Cx} {fin : Unit → Mm → Prop} (hc : Jc κ RX8 cX8_copies 5 0 0 0 0) (he : Ed κ cX8_copies 0 0 wV .return_ fin) (x0 : Nat) (x1 : Int32) (x2 : Nat) (x3 : Int32) : Jg κ (wM κ) 5 fin 0 0 0 [some ((11, .ref x0) : TV), some ((0, .int x1) : TV), some ((11, .ref x2) : TV), some ((0, .int x3) : TV), none] [] (fX8_copies x0 x1 x2 x3) := by
  unfold fX8_copies
  refine J_iconst (pc := 0) (v := 0) hc dX8_copies_0 (by decide) ?_
  refine J_istore (pc := 1) (l' := [some ((11, .ref x0) : TV), some ((0, .int x1) : TV), some ((11, .ref x2) : TV), some ((0, .int x3) : TV), some ((0, .int 0) : TV)]) hc dX8_copies_1 (by decide) rfl rfl ?_
  refine J_sub (l' := [some ((11, .ref x0) : TV), some ((0, .int x1) : TV), some ((11, .ref x2) : TV), some ((0, .int x3) : TV), some ((0, .int 0) : TV)]) ⟨rfl, ⟨rfl, ⟨rfl, ⟨rfl, ⟨rfl, trivial⟩⟩⟩⟩⟩ ?_
  exact jX8_copies_L3 hc he fu x0 x1 x2 x3 0
theorem moX8_copies : MOk yX8_copies 4 := ⟨by decide +kernel, by decide +kernel, by decide +kernel⟩
set_option maxRecDepth 100000 in
set_option maxHeartbeats 4000000 in
theorem KX8_copies (x0 : Nat) (x1 : Int32) (x2 : Nat) (x3 : Int32) : Ct wV yX8_copies cX8_copies 5 none 0 0 0 0 [((11, .ref x0) : TV), ((0, .int x1) : TV), ((11, .ref x2) : TV), ((0, .int x3) : TV)] (fX8_copies x0 x1 x2 x3) :=
  Ct_V (j := 1) (by decide +kernel) rfl rfl (Nat.le_of_ble_eq_true rfl) (fun κ fin hc he hin => jX8_copies hc he x0 x1 x2 x3)
set_option maxRecDepth 100000 in
set_option maxHeartbeats 4000000 in
theorem jX8_init {κ : Cx} {fin : Unit → Mm → Prop} (hc : Jc κ RX8 cX8_init 1 1 22 14387 24) (he : Ed κ cX8_init 22 14387 wV .return_ fin) (hin : Mh κ = "<init>") (x0 : Nat) : Jg κ (wM κ) 1 fin 0 0 0 [some ((8, .ref x0) : TV)] [] (fX8_init x0) := by
  unfold fX8_init
  refine J_aload_n (pc := 0) hc dX8_init_0 rfl rfl ?_
  refine J_objInit (pc := 1) hc tw1154 tw28 tw29 (Nat.le_of_ble_eq_true rfl) (Nat.le_of_ble_eq_true rfl) (Nat.le_of_ble_eq_true rfl) dX8_init_1 ?_
  refine J_aload_n (pc := 4) hc dX8_init_4 rfl rfl ?_
  refine J_sipush (pc := 5) (v := 828) hc dX8_init_5 (by decide) ?_
  refine J_newa11 (pc := 8) (N9 := 828) hc tw67 (by decide) (by decide) (Nat.le_of_ble_eq_true rfl) (Nat.le_of_ble_eq_true rfl) (Nat.le_of_ble_eq_true rfl) dX8_init_8 (fun h1 => ?_)
  refine J_putA (pc := 10) hc hin clX8 (k := 1) (kd := 11) (Nat.le_of_ble_eq_true rfl) rfl (Nat.le_of_ble_eq_true rfl) (fun _ => rfl) (fun _ => rfl) tw1163 rfl rfl rfl dX8_init_10 ?_
  refine J_aload_n (pc := 13) hc dX8_init_13 rfl rfl ?_
  refine J_sipush (pc := 14) (v := 828) hc dX8_init_14 (by decide) ?_
  refine J_newa11 (pc := 17) (N9 := 828) hc tw67 (by decide) (by decide) (Nat.le_of_ble_eq_true rfl) (Nat.le_of_ble_eq_true rfl) (Nat.le_of_ble_eq_true rfl) dX8_init_17 (fun h2 => ?_)
  refine J_putA (pc := 19) hc hin clX8 (k := 2) (kd := 11) (Nat.le_of_ble_eq_true rfl) rfl (Nat.le_of_ble_eq_true rfl) (fun _ => rfl) (fun _ => rfl) tw1164 rfl rfl rfl dX8_init_19 ?_
  refine J_aload_n (pc := 22) hc dX8_init_22 rfl rfl ?_
  refine J_sipush (pc := 23) (v := 8280) hc dX8_init_23 (by decide) ?_
  refine J_newa11 (pc := 26) (N9 := 8280) hc tw67 (by decide) (by decide) (Nat.le_of_ble_eq_true rfl) (Nat.le_of_ble_eq_true rfl) (Nat.le_of_ble_eq_true rfl) dX8_init_26 (fun h3 => ?_)
  refine J_putA (pc := 28) hc hin clX8 (k := 3) (kd := 11) (Nat.le_of_ble_eq_true rfl) rfl (Nat.le_of_ble_eq_true rfl) (fun _ => rfl) (fun _ => rfl) tw1165 rfl rfl rfl dX8_init_28 ?_
  refine J_aload_n (pc := 31) hc dX8_init_31 rfl rfl ?_
  refine J_sipush (pc := 32) (v := 1656) hc dX8_init_32 (by decide) ?_
  refine J_newa11 (pc := 35) (N9 := 1656) hc tw67 (by decide) (by decide) (Nat.le_of_ble_eq_true rfl) (Nat.le_of_ble_eq_true rfl) (Nat.le_of_ble_eq_true rfl) dX8_init_35 (fun h4 => ?_)
  refine J_putA (pc := 37) hc hin clX8 (k := 5) (kd := 11) (Nat.le_of_ble_eq_true rfl) rfl (Nat.le_of_ble_eq_true rfl) (fun _ => rfl) (fun _ => rfl) tw1167 rfl rfl rfl dX8_init_37 ?_
  refine J_aload_n (pc := 40) hc dX8_init_40 rfl rfl ?_
  refine J_iconst (pc := 41) (v := 2) hc dX8_init_41 (by decide) ?_
  refine J_newa13 (pc := 42) (N9 := 2) hc tw1289 (by decide) (by decide) (Nat.le_of_ble_eq_true rfl) (Nat.le_of_ble_eq_true rfl) (Nat.le_of_ble_eq_true rfl) dX8_init_42 (fun h5 => ?_)
  refine J_putA (pc := 44) hc hin clX8 (k := 6) (kd := 13) (Nat.le_of_ble_eq_true rfl) rfl (Nat.le_of_ble_eq_true rfl) (fun _ => rfl) (fun _ => rfl) tw1168 rfl rfl rfl dX8_init_44 ?_
  refine J_aload_n (pc := 47) hc dX8_init_47 rfl rfl ?_
  refine J_bipush (pc := 48) (v := 40) hc dX8_init_48 (by decide) ?_
  refine J_newa11 (pc := 50) (N9 := 40) hc tw67 (by decide) (by decide) (Nat.le_of_ble_eq_true rfl) (Nat.le_of_ble_eq_true rfl) (Nat.le_of_ble_eq_true rfl) dX8_init_50 (fun h6 => ?_)
  refine J_putA (pc := 52) hc hin clX8 (k := 7) (kd := 11) (Nat.le_of_ble_eq_true rfl) rfl (Nat.le_of_ble_eq_true rfl) (fun _ => rfl) (fun _ => rfl) tw1169 rfl rfl rfl dX8_init_52 ?_
  refine J_aload_n (pc := 55) hc dX8_init_55 rfl rfl ?_
  refine J_bipush (pc := 56) (v := 40) hc dX8_init_56 (by decide) ?_
  refine J_newa11 (pc := 58) (N9 := 40) hc tw67 (by decide) (by decide) (Nat.le_of_ble_eq_true rfl) (Nat.le_of_ble_eq_true rfl) (Nat.le_of_ble_eq_true rfl) dX8_init_58 (fun h7 => ?_)
  refine J_putA (pc := 60) hc hin clX8 (k := 8) (kd := 11) (Nat.le_of_ble_eq_true rfl) rfl (Nat.le_of_ble_eq_true rfl) (fun _ => rfl) (fun _ => rfl) tw1170 rfl rfl rfl dX8_init_60 ?_
  refine J_aload_n (pc := 63) hc dX8_init_63 rfl rfl ?_
  refine J_bipush (pc := 64) (v := 48) hc dX8_init_64 (by decide) ?_
  refine J_newa11 (pc := 66) (N9 := 48) hc tw67 (by decide) (by decide) (Nat.le_of_ble_eq_true rfl) (Nat.le_of_ble_eq_true rfl) (Nat.le_of_ble_eq_true rfl) dX8_init_66 (fun h8 => ?_)
  refine J_putA (pc := 68) hc hin clX8 (k := 10) (kd := 11) (Nat.le_of_ble_eq_true rfl) rfl (Nat.le_of_ble_eq_true rfl) (fun _ => rfl) (fun _ => rfl) tw1172 rfl rfl rfl dX8_init_68 ?_
  refine J_aload_n (pc := 71) hc dX8_init_71 rfl rfl ?_
  refine J_bipush (pc := 72) (v := 48) hc dX8_init_72 (by decide) ?_
  refine J_newa11 (pc := 74) (N9 := 48) hc tw67 (by decide) (by decide) (Nat.le_of_ble_eq_true rfl) (Nat.le_of_ble_eq_true rfl) (Nat.le_of_ble_eq_true rfl) dX8_init_74 (fun h9 => ?_)
  refine J_putA (pc := 76) hc hin clX8 (k := 11) (kd := 11) (Nat.le_of_ble_eq_true rfl) rfl (Nat.le_of_ble_eq_true rfl) (fun _ => rfl) (fun _ => rfl) tw1173 rfl rfl rfl dX8_init_76 ?_
  refine J_aload_n (pc := 79) hc dX8_init_79 rfl rfl ?_
  refine J_bipush (pc := 80) (v := 48) hc dX8_init_80 (by decide) ?_
  refine J_newa11 (pc := 82) (N9 := 48) hc tw67 (by decide) (by decide) (Nat.le_of_ble_eq_true rfl) (Nat.le_of_ble_eq_true rfl) (Nat.le_of_ble_eq_true rfl) dX8_init_82 (fun h10 => ?_)
  refine J_putA (pc := 84) hc hin clX8 (k := 12) (kd := 11) (Nat.le_of_ble_eq_true rfl) rfl (Nat.le_of_ble_eq_true rfl) (fun _ => rfl) (fun _ => rfl) tw1174 rfl rfl rfl dX8_init_84 ?_
  refine J_aload_n (pc := 87) hc dX8_init_87 rfl rfl ?_
  refine J_bipush (pc := 88) (v := 48) hc dX8_init_88 (by decide) ?_
  refine J_newa11 (pc := 90) (N9 := 48) hc tw67 (by decide) (by decide) (Nat.le_of_ble_eq_true rfl) (Nat.le_of_ble_eq_true rfl) (Nat.le_of_ble_eq_true rfl) dX8_init_90 (fun h11 => ?_)
  refine J_putA (pc := 92) hc hin clX8 (k := 13) (kd := 11) (Nat.le_of_ble_eq_true rfl) rfl (Nat.le_of_ble_eq_true rfl) (fun _ => rfl) (fun _ => rfl) tw1175 rfl rfl rfl dX8_init_92 ?_
  refine J_aload_n (pc := 95) hc dX8_init_95 rfl rfl ?_
  refine J_bipush (pc := 96) (v := 40) hc dX8_init_96 (by decide) ?_
  refine J_newa11 (pc := 98) (N9 := 40) hc tw67 (by decide) (by decide) (Nat.le_of_ble_eq_true rfl) (Nat.le_of_ble_eq_true rfl) (Nat.le_of_ble_eq_true rfl) dX8_init_98 (fun h12 => ?_)
  refine J_putA (pc := 100) hc hin clX8 (k := 15) (kd := 11) (Nat.le_of_ble_eq_true rfl) rfl (Nat.le_of_ble_eq_true rfl) (fun _ => rfl) (fun _ => rfl) tw1177 rfl rfl rfl dX8_init_100 ?_
  refine J_aload_n (pc := 103) hc dX8_init_103 rfl rfl ?_
  refine J_bipush (pc := 104) (v := 44) hc dX8_init_104 (by decide) ?_
  refine J_newa11 (pc := 106) (N9 := 44) hc tw67 (by decide) (by decide) (Nat.le_of_ble_eq_true rfl) (Nat.le_of_ble_eq_true rfl) (Nat.le_of_ble_eq_true rfl) dX8_init_106 (fun h13 => ?_)
  refine J_putA (pc := 108) hc hin clX8 (k := 18) (kd := 11) (Nat.le_of_ble_eq_true rfl) rfl (Nat.le_of_ble_eq_true rfl) (fun _ => rfl) (fun _ => rfl) tw1180 rfl rfl rfl dX8_init_108 ?_
  refine J_aload_n (pc := 111) hc dX8_init_111 rfl rfl ?_
  refine J_sipush (pc := 112) (v := 800) hc dX8_init_112 (by decide) ?_
  refine J_newa11 (pc := 115) (N9 := 800) hc tw67 (by decide) (by decide) (Nat.le_of_ble_eq_true rfl) (Nat.le_of_ble_eq_true rfl) (Nat.le_of_ble_eq_true rfl) dX8_init_115 (fun h14 => ?_)
  refine J_putA (pc := 117) hc hin clX8 (k := 20) (kd := 11) (Nat.le_of_ble_eq_true rfl) rfl (Nat.le_of_ble_eq_true rfl) (fun _ => rfl) (fun _ => rfl) tw1182 rfl rfl rfl dX8_init_117 ?_
  refine J_aload_n (pc := 120) hc dX8_init_120 rfl rfl ?_
  refine J_bipush (pc := 121) (v := 20) hc dX8_init_121 (by decide) ?_
  refine J_newa11 (pc := 123) (N9 := 20) hc tw67 (by decide) (by decide) (Nat.le_of_ble_eq_true rfl) (Nat.le_of_ble_eq_true rfl) (Nat.le_of_ble_eq_true rfl) dX8_init_123 (fun h15 => ?_)
  refine J_putA (pc := 125) hc hin clX8 (k := 21) (kd := 11) (Nat.le_of_ble_eq_true rfl) rfl (Nat.le_of_ble_eq_true rfl) (fun _ => rfl) (fun _ => rfl) tw1183 rfl rfl rfl dX8_init_125 ?_
  refine J_aload_n (pc := 128) hc dX8_init_128 rfl rfl ?_
  refine J_bipush (pc := 129) (v := 20) hc dX8_init_129 (by decide) ?_
  refine J_newa11 (pc := 131) (N9 := 20) hc tw67 (by decide) (by decide) (Nat.le_of_ble_eq_true rfl) (Nat.le_of_ble_eq_true rfl) (Nat.le_of_ble_eq_true rfl) dX8_init_131 (fun h16 => ?_)
  refine J_putA (pc := 133) hc hin clX8 (k := 22) (kd := 11) (Nat.le_of_ble_eq_true rfl) rfl (Nat.le_of_ble_eq_true rfl) (fun _ => rfl) (fun _ => rfl) tw1184 rfl rfl rfl dX8_init_133 ?_
  refine J_aload_n (pc := 136) hc dX8_init_136 rfl rfl ?_
  refine J_bipush (pc := 137) (v := 20) hc dX8_init_137 (by decide) ?_
  refine J_newa11 (pc := 139) (N9 := 20) hc tw67 (by decide) (by decide) (Nat.le_of_ble_eq_true rfl) (Nat.le_of_ble_eq_true rfl) (Nat.le_of_ble_eq_true rfl) dX8_init_139 (fun h17 => ?_)
  refine J_putA (pc := 141) hc hin clX8 (k := 23) (kd := 11) (Nat.le_of_ble_eq_true rfl) rfl (Nat.le_of_ble_eq_true rfl) (fun _ => rfl) (fun _ => rfl) tw1185 rfl rfl rfl dX8_init_141 ?_
  refine J_aload_n (pc := 144) hc dX8_init_144 rfl rfl ?_
  refine J_bipush (pc := 145) (v := 20) hc dX8_init_145 (by decide) ?_
  refine J_newa11 (pc := 147) (N9 := 20) hc tw67 (by decide) (by decide) (Nat.le_of_ble_eq_true rfl) (Nat.le_of_ble_eq_true rfl) (Nat.le_of_ble_eq_true rfl) dX8_init_147 (fun h18 => ?_)
  refine J_putA (pc := 149) hc hin clX8 (k := 24) (kd := 11) (Nat.le_of_ble_eq_true rfl) rfl (Nat.le_of_ble_eq_true rfl) (fun _ => rfl) (fun _ => rfl) tw1186 rfl rfl rfl dX8_init_149 ?_
  refine J_aload_n (pc := 152) hc dX8_init_152 rfl rfl ?_
  refine J_bipush (pc := 153) (v := 20) hc dX8_init_153 (by decide) ?_
  refine J_newa11 (pc := 155) (N9 := 20) hc tw67 (by decide) (by decide) (Nat.le_of_ble_eq_true rfl) (Nat.le_of_ble_eq_true rfl) (Nat.le_of_ble_eq_true rfl) dX8_init_155 (fun h19 => ?_)
  refine J_putA (pc := 157) hc hin clX8 (k := 25) (kd := 11) (Nat.le_of_ble_eq_true rfl) rfl (Nat.le_of_ble_eq_true rfl) (fun _ => rfl) (fun _ => rfl) tw1187 rfl rfl rfl dX8_init_157 ?_
  refine J_aload_n (pc := 160) hc dX8_init_160 rfl rfl ?_
  refine J_sipush (pc := 161) (v := 900) hc dX8_init_161 (by decide) ?_
  refine J_newa10 (pc := 164) (N9 := 900) hc tw119 (by decide) (by decide) (Nat.le_of_ble_eq_true rfl) (Nat.le_of_ble_eq_true rfl) (Nat.le_of_ble_eq_true rfl) dX8_init_164 (fun h20 => ?_)
  refine J_putA (pc := 166) hc hin clX8 (k := 31) (kd := 10) (Nat.le_of_ble_eq_true rfl) rfl (Nat.le_of_ble_eq_true rfl) (fun _ => rfl) (fun _ => rfl) tw1193 rfl rfl rfl dX8_init_166 ?_
  refine J_aload_n (pc := 169) hc dX8_init_169 rfl rfl ?_
  refine J_iconst (pc := 170) (v := (-1)) hc dX8_init_170 (by decide) ?_
  refine J_putI (pc := 171) hc clX8 (k := 38) (Nat.le_of_ble_eq_true rfl) rfl rfl tw1200 rfl rfl dX8_init_171 ?_
  refine J_aload_n (pc := 174) hc dX8_init_174 rfl rfl ?_
  refine J_bipush (pc := 175) (v := 37) hc dX8_init_175 (by decide) ?_
  refine J_newa10 (pc := 177) (N9 := 37) hc tw119 (by decide) (by decide) (Nat.le_of_ble_eq_true rfl) (Nat.le_of_ble_eq_true rfl) (Nat.le_of_ble_eq_true rfl) dX8_init_177 (fun h21 => ?_)
  refine J_dup (pc := 179) hc dX8_init_179 rfl ?_
  refine J_iconst (pc := 180) (v := 0) hc dX8_init_180 (by decide) ?_
  refine J_bipush (pc := 181) (v := 108) hc dX8_init_181 (by decide) ?_
  refine J_bast (pc := 183) hc dX8_init_183 ?_
  refine J_dup (pc := 184) hc dX8_init_184 rfl ?_
  refine J_iconst (pc := 185) (v := 1) hc dX8_init_185 (by decide) ?_
  refine J_bipush (pc := 186) (v := 105) hc dX8_init_186 (by decide) ?_
  refine J_bast (pc := 188) hc dX8_init_188 ?_
  refine J_dup (pc := 189) hc dX8_init_189 rfl ?_
  refine J_iconst (pc := 190) (v := 2) hc dX8_init_190 (by decide) ?_
  refine J_bipush (pc := 191) (v := 110) hc dX8_init_191 (by decide) ?_
  refine J_bast (pc := 193) hc dX8_init_193 ?_
  refine J_dup (pc := 194) hc dX8_init_194 rfl ?_
  refine J_iconst (pc := 195) (v := 3) hc dX8_init_195 (by decide) ?_
  refine J_bipush (pc := 196) (v := 101) hc dX8_init_196 (by decide) ?_
  refine J_bast (pc := 198) hc dX8_init_198 ?_
  refine J_dup (pc := 199) hc dX8_init_199 rfl ?_
  refine J_iconst (pc := 200) (v := 4) hc dX8_init_200 (by decide) ?_
  refine J_bipush (pc := 201) (v := 32) hc dX8_init_201 (by decide) ?_
  refine J_bast (pc := 203) hc dX8_init_203 ?_
  refine J_dup (pc := 204) hc dX8_init_204 rfl ?_
  refine J_iconst (pc := 205) (v := 5) hc dX8_init_205 (by decide) ?_
  refine J_bipush (pc := 206) (v := 97) hc dX8_init_206 (by decide) ?_
  refine J_bast (pc := 208) hc dX8_init_208 ?_
  refine J_dup (pc := 209) hc dX8_init_209 rfl ?_
  refine J_bipush (pc := 210) (v := 6) hc dX8_init_210 (by decide) ?_
  refine J_bipush (pc := 212) (v := 108) hc dX8_init_212 (by decide) ?_
  refine J_bast (pc := 214) hc dX8_init_214 ?_
  refine J_dup (pc := 215) hc dX8_init_215 rfl ?_
  refine J_bipush (pc := 216) (v := 7) hc dX8_init_216 (by decide) ?_
  refine J_bipush (pc := 218) (v := 111) hc dX8_init_218 (by decide) ?_
  refine J_bast (pc := 220) hc dX8_init_220 ?_
  refine J_dup (pc := 221) hc dX8_init_221 rfl ?_
  refine J_bipush (pc := 222) (v := 8) hc dX8_init_222 (by decide) ?_
  refine J_bipush (pc := 224) (v := 110) hc dX8_init_224 (by decide) ?_
  refine J_bast (pc := 226) hc dX8_init_226 ?_
  refine J_dup (pc := 227) hc dX8_init_227 rfl ?_
  refine J_bipush (pc := 228) (v := 9) hc dX8_init_228 (by decide) ?_
  refine J_bipush (pc := 230) (v := 101) hc dX8_init_230 (by decide) ?_
  refine J_bast (pc := 232) hc dX8_init_232 ?_
  refine J_dup (pc := 233) hc dX8_init_233 rfl ?_
  refine J_bipush (pc := 234) (v := 10) hc dX8_init_234 (by decide) ?_
  refine J_bipush (pc := 236) (v := 32) hc dX8_init_236 (by decide) ?_
  refine J_bast (pc := 238) hc dX8_init_238 ?_
  refine J_dup (pc := 239) hc dX8_init_239 rfl ?_
  refine J_bipush (pc := 240) (v := 11) hc dX8_init_240 (by decide) ?_
  refine J_bipush (pc := 242) (v := 97) hc dX8_init_242 (by decide) ?_
  refine J_bast (pc := 244) hc dX8_init_244 ?_
  refine J_dup (pc := 245) hc dX8_init_245 rfl ?_
  refine J_bipush (pc := 246) (v := 12) hc dX8_init_246 (by decide) ?_
  refine J_bipush (pc := 248) (v := 98) hc dX8_init_248 (by decide) ?_
  refine J_bast (pc := 250) hc dX8_init_250 ?_
  refine J_dup (pc := 251) hc dX8_init_251 rfl ?_
  refine J_bipush (pc := 252) (v := 13) hc dX8_init_252 (by decide) ?_
  refine J_bipush (pc := 254) (v := 111) hc dX8_init_254 (by decide) ?_
  refine J_bast (pc := 256) hc dX8_init_256 ?_
  refine J_dup (pc := 257) hc dX8_init_257 rfl ?_
  refine J_bipush (pc := 258) (v := 14) hc dX8_init_258 (by decide) ?_
  refine J_bipush (pc := 260) (v := 118) hc dX8_init_260 (by decide) ?_
  refine J_bast (pc := 262) hc dX8_init_262 ?_
  refine J_dup (pc := 263) hc dX8_init_263 rfl ?_
  refine J_bipush (pc := 264) (v := 15) hc dX8_init_264 (by decide) ?_
  refine J_bipush (pc := 266) (v := 101) hc dX8_init_266 (by decide) ?_
  refine J_bast (pc := 268) hc dX8_init_268 ?_
  refine J_dup (pc := 269) hc dX8_init_269 rfl ?_
  refine J_bipush (pc := 270) (v := 16) hc dX8_init_270 (by decide) ?_
  refine J_bipush (pc := 272) (v := 32) hc dX8_init_272 (by decide) ?_
  refine J_bast (pc := 274) hc dX8_init_274 ?_
  refine J_dup (pc := 275) hc dX8_init_275 rfl ?_
  refine J_bipush (pc := 276) (v := 17) hc dX8_init_276 (by decide) ?_
  refine J_bipush (pc := 278) (v := 115) hc dX8_init_278 (by decide) ?_
  refine J_bast (pc := 280) hc dX8_init_280 ?_
  refine J_dup (pc := 281) hc dX8_init_281 rfl ?_
  refine J_bipush (pc := 282) (v := 18) hc dX8_init_282 (by decide) ?_
  refine J_bipush (pc := 284) (v := 101) hc dX8_init_284 (by decide) ?_
  refine J_bast (pc := 286) hc dX8_init_286 ?_
  refine J_dup (pc := 287) hc dX8_init_287 rfl ?_
  refine J_bipush (pc := 288) (v := 19) hc dX8_init_288 (by decide) ?_
  refine J_bipush (pc := 290) (v := 116) hc dX8_init_290 (by decide) ?_
  refine J_bast (pc := 292) hc dX8_init_292 ?_
  refine J_dup (pc := 293) hc dX8_init_293 rfl ?_
  refine J_bipush (pc := 294) (v := 20) hc dX8_init_294 (by decide) ?_
  refine J_bipush (pc := 296) (v := 32) hc dX8_init_296 (by decide) ?_
  refine J_bast (pc := 298) hc dX8_init_298 ?_
  refine J_dup (pc := 299) hc dX8_init_299 rfl ?_
  refine J_bipush (pc := 300) (v := 21) hc dX8_init_300 (by decide) ?_
  refine J_bipush (pc := 302) (v := 108) hc dX8_init_302 (by decide) ?_
  refine J_bast (pc := 304) hc dX8_init_304 ?_
  refine J_dup (pc := 305) hc dX8_init_305 rfl ?_
  refine J_bipush (pc := 306) (v := 22) hc dX8_init_306 (by decide) ?_
  refine J_bipush (pc := 308) (v := 111) hc dX8_init_308 (by decide) ?_
  refine J_bast (pc := 310) hc dX8_init_310 ?_
  refine J_dup (pc := 311) hc dX8_init_311 rfl ?_
  refine J_bipush (pc := 312) (v := 23) hc dX8_init_312 (by decide) ?_
  refine J_bipush (pc := 314) (v := 115) hc dX8_init_314 (by decide) ?_
  refine J_bast (pc := 316) hc dX8_init_316 ?_
  refine J_dup (pc := 317) hc dX8_init_317 rfl ?_
  refine J_bipush (pc := 318) (v := 24) hc dX8_init_318 (by decide) ?_
  refine J_bipush (pc := 320) (v := 115) hc dX8_init_320 (by decide) ?_
  refine J_bast (pc := 322) hc dX8_init_322 ?_
  refine J_dup (pc := 323) hc dX8_init_323 rfl ?_
  refine J_bipush (pc := 324) (v := 25) hc dX8_init_324 (by decide) ?_
  refine J_bipush (pc := 326) (v := 32) hc dX8_init_326 (by decide) ?_
  refine J_bast (pc := 328) hc dX8_init_328 ?_
  refine J_dup (pc := 329) hc dX8_init_329 rfl ?_
  refine J_bipush (pc := 330) (v := 26) hc dX8_init_330 (by decide) ?_
  refine J_bipush (pc := 332) (v := 119) hc dX8_init_332 (by decide) ?_
  refine J_bast (pc := 334) hc dX8_init_334 ?_
  refine J_dup (pc := 335) hc dX8_init_335 rfl ?_
  refine J_bipush (pc := 336) (v := 27) hc dX8_init_336 (by decide) ?_
  refine J_bipush (pc := 338) (v := 105) hc dX8_init_338 (by decide) ?_
  refine J_bast (pc := 340) hc dX8_init_340 ?_
  refine J_dup (pc := 341) hc dX8_init_341 rfl ?_
  refine J_bipush (pc := 342) (v := 28) hc dX8_init_342 (by decide) ?_
  refine J_bipush (pc := 344) (v := 100) hc dX8_init_344 (by decide) ?_
  refine J_bast (pc := 346) hc dX8_init_346 ?_
  refine J_dup (pc := 347) hc dX8_init_347 rfl ?_
  refine J_bipush (pc := 348) (v := 29) hc dX8_init_348 (by decide) ?_
  refine J_bipush (pc := 350) (v := 101) hc dX8_init_350 (by decide) ?_
  refine J_bast (pc := 352) hc dX8_init_352 ?_
  refine J_dup (pc := 353) hc dX8_init_353 rfl ?_
  refine J_bipush (pc := 354) (v := 30) hc dX8_init_354 (by decide) ?_
  refine J_bipush (pc := 356) (v := 32) hc dX8_init_356 (by decide) ?_
  refine J_bast (pc := 358) hc dX8_init_358 ?_
  refine J_dup (pc := 359) hc dX8_init_359 rfl ?_
  refine J_bipush (pc := 360) (v := 31) hc dX8_init_360 (by decide) ?_
  refine J_bipush (pc := 362) (v := 112) hc dX8_init_362 (by decide) ?_
  refine J_bast (pc := 364) hc dX8_init_364 ?_
  refine J_dup (pc := 365) hc dX8_init_365 rfl ?_
  refine J_bipush (pc := 366) (v := 32) hc dX8_init_366 (by decide) ?_
  refine J_bipush (pc := 368) (v := 32) hc dX8_init_368 (by decide) ?_
  refine J_bast (pc := 370) hc dX8_init_370 ?_
  refine J_dup (pc := 371) hc dX8_init_371 rfl ?_
  refine J_bipush (pc := 372) (v := 33) hc dX8_init_372 (by decide) ?_
  refine J_bipush (pc := 374) (v := 118) hc dX8_init_374 (by decide) ?_
  refine J_bast (pc := 376) hc dX8_init_376 ?_
  refine J_dup (pc := 377) hc dX8_init_377 rfl ?_
  refine J_bipush (pc := 378) (v := 34) hc dX8_init_378 (by decide) ?_
  refine J_bipush (pc := 380) (v := 32) hc dX8_init_380 (by decide) ?_
  refine J_bast (pc := 382) hc dX8_init_382 ?_
  refine J_dup (pc := 383) hc dX8_init_383 rfl ?_
  refine J_bipush (pc := 384) (v := 35) hc dX8_init_384 (by decide) ?_
  refine J_bipush (pc := 386) (v := 104) hc dX8_init_386 (by decide) ?_
  refine J_bast (pc := 388) hc dX8_init_388 ?_
  refine J_dup (pc := 389) hc dX8_init_389 rfl ?_
  refine J_bipush (pc := 390) (v := 36) hc dX8_init_390 (by decide) ?_
  refine J_bipush (pc := 392) (v := 32) hc dX8_init_392 (by decide) ?_
  refine J_bast (pc := 394) hc dX8_init_394 ?_
  refine J_putA (pc := 395) hc hin clX8 (k := 39) (kd := 10) (Nat.le_of_ble_eq_true rfl) rfl (Nat.le_of_ble_eq_true rfl) (fun _ => rfl) (fun _ => rfl) tw1201 rfl rfl rfl dX8_init_395 ?_
  refine J_aload_n (pc := 398) hc dX8_init_398 rfl rfl ?_
  refine J_sipush (pc := 399) (v := 600) hc dX8_init_399 (by decide) ?_
  refine J_newa10 (pc := 402) (N9 := 600) hc tw119 (by decide) (by decide) (Nat.le_of_ble_eq_true rfl) (Nat.le_of_ble_eq_true rfl) (Nat.le_of_ble_eq_true rfl) dX8_init_402 (fun h22 => ?_)
  refine J_putA (pc := 404) hc hin clX8 (k := 40) (kd := 10) (Nat.le_of_ble_eq_true rfl) rfl (Nat.le_of_ble_eq_true rfl) (fun _ => rfl) (fun _ => rfl) tw1202 rfl rfl rfl dX8_init_404 ?_
  refine J_aload_n (pc := 407) hc dX8_init_407 rfl rfl ?_
  refine J_bipush (pc := 408) (v := 16) hc dX8_init_408 (by decide) ?_
  refine J_callVv (pc := 410) hc clX8 (As := [((0, .int 16) : TV)]) (KX8_begins x0 16) dX8_init_410 moX8_begins rfl tw1155 tw1157 twp46 tw9 tw1158 rfl (Nat.le_of_ble_eq_true rfl) (Nat.le_of_ble_eq_true rfl) (Nat.le_of_ble_eq_true rfl) (Nat.le_of_ble_eq_true rfl) (Nat.le_of_ble_eq_true rfl) rfl (fun _ => ?_)
  refine J_aload_n (pc := 413) hc dX8_init_413 rfl rfl ?_
  refine J_getA (pc := 414) hc clX8 (k := 2) (kd := 11) (Nat.le_of_ble_eq_true rfl) rfl (Nat.le_of_ble_eq_true rfl) (Nat.le_of_ble_eq_true rfl) tw1164 rfl dX8_init_414 (fun v23 => ?_)
  refine J_iconst (pc := 417) (v := 0) hc dX8_init_417 (by decide) ?_
  refine J_aload_n (pc := 418) hc dX8_init_418 rfl rfl ?_
  refine J_getA (pc := 419) hc clX8 (k := 1) (kd := 11) (Nat.le_of_ble_eq_true rfl) rfl (Nat.le_of_ble_eq_true rfl) (Nat.le_of_ble_eq_true rfl) tw1163 rfl dX8_init_419 (fun v24 => ?_)
  refine J_iconst (pc := 422) (v := 0) hc dX8_init_422 (by decide) ?_
  refine J_callSv (pc := 423) hc (As := [((11, .ref v23) : TV), ((0, .int 0) : TV), ((11, .ref v24) : TV), ((0, .int 0) : TV)]) (KX8_copies v23 0 v24 0) dX8_init_423 moX8_copies tw1159 tw1160 tw9 tw1161 rfl (Nat.le_of_ble_eq_true rfl) (Nat.le_of_ble_eq_true rfl) (Nat.le_of_ble_eq_true rfl) (Nat.le_of_ble_eq_true rfl) (Nat.le_of_ble_eq_true rfl) rfl (fun _ => ?_)
  exact J_vret (pc := 426) he dX8_init_426
theorem moX8_init : MOk yX8_init 0 := ⟨by decide +kernel, by decide +kernel, by decide +kernel⟩
set_option maxRecDepth 100000 in
set_option maxHeartbeats 4000000 in
theorem KX8_init (x0 : Nat) : Ct wV yX8_init cX8_init 1 none 1 22 14387 24 [((8, .ref x0) : TV)] (fX8_init x0) :=
  Ct_V (j := 0) (by decide +kernel) rfl rfl (Nat.le_of_ble_eq_true rfl) (fun κ fin hc he hin => jX8_init hc he hin x0)
set_option maxRecDepth 100000 in
set_option maxHeartbeats 4000000 in
theorem jX8_thrown {κ : Cx} {fin : Int32 → Mm → Prop} (hc : Jc κ RX8 cX8_thrown 1 0 0 0 0) (he : Ed κ cX8_thrown 0 0 wI .ireturn fin) (x0 : Nat) : Jg κ (wM κ) 1 fin 0 0 0 [some ((8, .ref x0) : TV)] [] (fX8_thrown x0) := by
  unfold fX8_thrown
  refine J_aload_n (pc := 0) hc dX8_thrown_0 rfl rfl ?_
  refine J_getI (pc := 1) hc clX8 (k := 0) (Nat.le_of_ble_eq_true rfl) rfl tw1162 rfl dX8_thrown_1 (fun v1 => ?_)
  exact J_iret (pc := 4) he dX8_thrown_4
theorem moX8_thrown : MOk yX8_thrown 0 := ⟨by decide +kernel, by decide +kernel, by decide +kernel⟩
set_option maxRecDepth 100000 in
set_option maxHeartbeats 4000000 in
theorem KX8_thrown (x0 : Nat) : Ct wI yX8_thrown cX8_thrown 1 (some .int) 0 0 0 0 [((8, .ref x0) : TV)] (fX8_thrown x0) :=
  Ct_I (j := 0) (by decide +kernel) rfl rfl (Nat.le_of_ble_eq_true rfl) (fun κ fin hc he => jX8_thrown hc he x0)
set_option maxRecDepth 100000 in
set_option maxHeartbeats 4000000 in
theorem jX8_in {κ : Cx} {fin : Int32 → Mm → Prop} (hc : Jc κ RX8 cX8_in 3 0 0 0 0) (he : EdZ κ cX8_in 0 0 id fin) (x0 : Int32) (x1 : Int32) (x2 : Int32) : Jg κ (wM κ) 3 fin 0 0 0 [some ((0, .int x0) : TV), some ((0, .int x1) : TV), some ((0, .int x2) : TV)] [] (fX8_in x0 x1 x2) := by
  unfold fX8_in
  refine J_iload_n (pc := 0) hc dX8_in_0 rfl rfl ?_
  refine J_iload_n (pc := 1) hc dX8_in_1 rfl rfl ?_
  refine J_icmp_lt (pc := 2) (tgt := 14) hc dX8_in_2 (by decide) ?_ ?_
  · refine J_iconst (pc := 14) (v := 0) hc dX8_in_14 (by decide) ?_
    exact J_zret (pc := 15) he dX8_in_15
  · refine J_iload_n (pc := 5) hc dX8_in_5 rfl rfl ?_
    refine J_iload_n (pc := 6) hc dX8_in_6 rfl rfl ?_
    refine J_icmp_gt (pc := 7) (tgt := 14) hc dX8_in_7 (by decide) ?_ ?_
    · refine J_iconst (pc := 14) (v := 0) hc dX8_in_14 (by decide) ?_
      exact J_zret (pc := 15) he dX8_in_15
    · refine J_iconst (pc := 10) (v := 1) hc dX8_in_10 (by decide) ?_
      refine J_goto (pc := 11) (tgt := 15) hc dX8_in_11 (by decide) ?_
      exact J_zret (pc := 15) he dX8_in_15
theorem moX8_in : MOk yX8_in 3 := ⟨by decide +kernel, by decide +kernel, by decide +kernel⟩
set_option maxRecDepth 100000 in
set_option maxHeartbeats 4000000 in
theorem KX8_in (x0 : Int32) (x1 : Int32) (x2 : Int32) : Ct wI yX8_in cX8_in 3 (some .boolean) 0 0 0 0 [((0, .int x0) : TV), ((0, .int x1) : TV), ((0, .int x2) : TV)] (fX8_in x0 x1 x2) :=
  Ct_Z ⟨rfl, rfl⟩ (j := 0) (by decide +kernel) rfl rfl (Nat.le_of_ble_eq_true rfl) (fun κ fin hc he => jX8_in hc he x0 x1 x2)
set_option maxRecDepth 100000 in
set_option maxHeartbeats 4000000 in
theorem jX8_dotAt {κ : Cx} {fin : Int32 → Mm → Prop} (hc : Jc κ RX8 cX8_dotAt 2 0 0 0 0) (he : Ed κ cX8_dotAt 0 0 wI .ireturn fin) (x0 : Int32) (x1 : Int32) : Jg κ (wM κ) 2 fin 0 0 0 [some ((0, .int x0) : TV), some ((0, .int x1) : TV)] [] (fX8_dotAt x0 x1) := by
  unfold fX8_dotAt
  refine J_bipush (pc := 0) (v := 28) hc dX8_dotAt_0 (by decide) ?_
  refine J_bipush (pc := 2) (v := 40) hc dX8_dotAt_2 (by decide) ?_
  refine J_iload_n (pc := 4) hc dX8_dotAt_4 rfl rfl ?_
  refine J_imul (pc := 5) hc dX8_dotAt_5 ?_
  refine J_iadd (pc := 6) hc dX8_dotAt_6 ?_
  refine J_iload_n (pc := 7) hc dX8_dotAt_7 rfl rfl ?_
  refine J_iadd (pc := 8) hc dX8_dotAt_8 ?_
  exact J_iret (pc := 9) he dX8_dotAt_9
theorem moX8_dotAt : MOk yX8_dotAt 2 := ⟨by decide +kernel, by decide +kernel, by decide +kernel⟩
set_option maxRecDepth 100000 in
set_option maxHeartbeats 4000000 in
theorem KX8_dotAt (x0 : Int32) (x1 : Int32) : Ct wI yX8_dotAt cX8_dotAt 2 (some .int) 0 0 0 0 [((0, .int x0) : TV), ((0, .int x1) : TV)] (fX8_dotAt x0 x1) :=
  Ct_I (j := 0) (by decide +kernel) rfl rfl (Nat.le_of_ble_eq_true rfl) (fun κ fin hc he => jX8_dotAt hc he x0 x1)
set_option maxRecDepth 100000 in
set_option maxHeartbeats 4000000 in
theorem jX8_laysUpper_L27 {κ : Cx} {fin : Unit → Mm → Prop} (hc : Jc κ RX8 cX8_laysUpper 4 0 0 0 0) (he : Ed κ cX8_laysUpper 0 0 wV .return_ fin) {k2 : Nat → Nat → Int32 → Int32 → Mm → Option (Unit × Mm)} (hk2 : ∀ (x0 : Nat) (x1 : Nat) (x2 : Int32) (x3 : Int32), Jg κ (wM κ) 4 fin 0 0 2 [some ((8, .ref x0) : TV), some ((11, .ref x1) : TV), some ((0, .int x2) : TV), some ((0, .int x3) : TV)] [] (k2 x0 x1 x2 x3)) (x0 : Nat) (x1 : Nat) (x2 : Int32) (x3 : Int32) (s0 : Int32) (s1 : Int32) (s2 : Nat) : Jg κ (wM κ) 4 fin 0 0 27 [some ((8, .ref x0) : TV), some ((11, .ref x1) : TV), some ((0, .int x2) : TV), some ((0, .int x3) : TV)] [((0, .int s0) : TV), ((0, .int s1) : TV), ((11, .ref s2) : TV)] (fX8_laysUpper_L27 k2 x0 x1 x2 x3 s0 s1 s2) := by
  unfold fX8_laysUpper_L27
  refine J_iast (pc := 27) hc dX8_laysUpper_27 ?_
  refine J_iinc (pc := 28) (v := x3 + 1) (l' := [some ((8, .ref x0) : TV), some ((11, .ref x1) : TV), some ((0, .int x2) : TV), some ((0, .int (x3 + 1)) : TV)]) hc dX8_laysUpper_28 rfl rfl (by decide) rfl rfl ?_
  refine J_goto (pc := 31) (tgt := 2) hc dX8_laysUpper_31 (by decide) ?_
  refine J_sub (l' := [some ((8, .ref x0) : TV), some ((11, .ref x1) : TV), some ((0, .int x2) : TV), some ((0, .int (x3 + 1)) : TV)]) ⟨rfl, ⟨rfl, ⟨rfl, ⟨rfl, trivial⟩⟩⟩⟩ ?_
  exact hk2 x0 x1 x2 (x3 + 1)
set_option maxRecDepth 100000 in
set_option maxHeartbeats 4000000 in
theorem jX8_laysUpper_L2 {κ : Cx} {fin : Unit → Mm → Prop} (hc : Jc κ RX8 cX8_laysUpper 4 0 0 0 0) (he : Ed κ cX8_laysUpper 0 0 wV .return_ fin) : ∀ (n : Nat) (x0 : Nat) (x1 : Nat) (x2 : Int32) (x3 : Int32), Jg κ (wM κ) 4 fin 0 0 2 [some ((8, .ref x0) : TV), some ((11, .ref x1) : TV), some ((0, .int x2) : TV), some ((0, .int x3) : TV)] [] (fX8_laysUpper_L2 n x0 x1 x2 x3) := by
  intro n
  induction n with
  | zero => intro x0 x1 x2 x3; exact J_fail
  | succ n ih =>
    intro x0 x1 x2 x3
    unfold fX8_laysUpper_L2
    refine J_iload_n (pc := 2) hc dX8_laysUpper_2 rfl rfl ?_
    refine J_bipush (pc := 3) (v := 40) hc dX8_laysUpper_3 (by decide) ?_
    refine J_icmp_ge (pc := 5) (tgt := 34) hc dX8_laysUpper_5 (by decide) ?_ ?_
    · exact J_vret (pc := 34) he dX8_laysUpper_34
    · refine J_aload_n (pc := 8) hc dX8_laysUpper_8 rfl rfl ?_
      refine J_getA (pc := 9) hc clX8 (k := 7) (kd := 11) (Nat.le_of_ble_eq_true rfl) rfl (Nat.le_of_ble_eq_true rfl) (Nat.le_of_ble_eq_true rfl) tw1169 rfl dX8_laysUpper_9 (fun v1 => ?_)
      refine J_iload_n (pc := 12) hc dX8_laysUpper_12 rfl rfl ?_
      refine J_iload_n (pc := 13) hc dX8_laysUpper_13 rfl rfl ?_
      refine J_iconst (pc := 14) (v := (-1)) hc dX8_laysUpper_14 (by decide) ?_
      refine J_icmp_ne (pc := 15) (tgt := 22) hc dX8_laysUpper_15 (by decide) ?_ ?_
      · refine J_aload_n (pc := 22) hc dX8_laysUpper_22 rfl rfl ?_
        refine J_iload_n (pc := 23) hc dX8_laysUpper_23 rfl rfl ?_
        refine J_iload_n (pc := 24) hc dX8_laysUpper_24 rfl rfl ?_
        refine J_iadd (pc := 25) hc dX8_laysUpper_25 ?_
        refine J_iald (pc := 26) hc dX8_laysUpper_26 (fun v2 => ?_)
        refine J_sub (l' := [some ((8, .ref x0) : TV), some ((11, .ref x1) : TV), some ((0, .int x2) : TV), some ((0, .int x3) : TV)]) ⟨rfl, ⟨rfl, ⟨rfl, ⟨rfl, trivial⟩⟩⟩⟩ ?_
        exact jX8_laysUpper_L27 hc he ih x0 x1 x2 x3 v2 x3 v1
      · refine J_iconst (pc := 18) (v := 0) hc dX8_laysUpper_18 (by decide) ?_
        refine J_goto (pc := 19) (tgt := 27) hc dX8_laysUpper_19 (by decide) ?_
        refine J_sub (l' := [some ((8, .ref x0) : TV), some ((11, .ref x1) : TV), some ((0, .int x2) : TV), some ((0, .int x3) : TV)]) ⟨rfl, ⟨rfl, ⟨rfl, ⟨rfl, trivial⟩⟩⟩⟩ ?_
        exact jX8_laysUpper_L27 hc he ih x0 x1 x2 x3 0 x3 v1
set_option maxRecDepth 100000 in
set_option maxHeartbeats 4000000 in
theorem jX8_laysUpper {κ : Cx} {fin : Unit → Mm → Prop} (hc : Jc κ RX8 cX8_laysUpper 4 0 0 0 0) (he : Ed κ cX8_laysUpper 0 0 wV .return_ fin) (x0 : Nat) (x1 : Nat) (x2 : Int32) : Jg κ (wM κ) 4 fin 0 0 0 [some ((8, .ref x0) : TV), some ((11, .ref x1) : TV), some ((0, .int x2) : TV), none] [] (fX8_laysUpper x0 x1 x2) := by
  unfold fX8_laysUpper
  refine J_iconst (pc := 0) (v := 0) hc dX8_laysUpper_0 (by decide) ?_
  refine J_istore_n (pc := 1) (l' := [some ((8, .ref x0) : TV), some ((11, .ref x1) : TV), some ((0, .int x2) : TV), some ((0, .int 0) : TV)]) hc dX8_laysUpper_1 rfl (by decide) rfl rfl ?_
  refine J_sub (l' := [some ((8, .ref x0) : TV), some ((11, .ref x1) : TV), some ((0, .int x2) : TV), some ((0, .int 0) : TV)]) ⟨rfl, ⟨rfl, ⟨rfl, ⟨rfl, trivial⟩⟩⟩⟩ ?_
  exact jX8_laysUpper_L2 hc he fu x0 x1 x2 0
theorem moX8_laysUpper : MOk yX8_laysUpper 2 := ⟨by decide +kernel, by decide +kernel, by decide +kernel⟩
set_option maxRecDepth 100000 in
set_option maxHeartbeats 4000000 in
theorem KX8_laysUpper (x0 : Nat) (x1 : Nat) (x2 : Int32) : Ct wV yX8_laysUpper cX8_laysUpper 4 none 0 0 0 0 [((8, .ref x0) : TV), ((11, .ref x1) : TV), ((0, .int x2) : TV)] (fX8_laysUpper x0 x1 x2) :=
  Ct_V (j := 1) (by decide +kernel) rfl rfl (Nat.le_of_ble_eq_true rfl) (fun κ fin hc he hin => jX8_laysUpper hc he x0 x1 x2)
set_option maxRecDepth 100000 in
set_option maxHeartbeats 4000000 in
theorem jX8_laysLower_L2 {κ : Cx} {fin : Unit → Mm → Prop} (hc : Jc κ RX8 cX8_laysLower 4 0 0 0 0) (he : Ed κ cX8_laysLower 0 0 wV .return_ fin) : ∀ (n : Nat) (x0 : Nat) (x1 : Nat) (x2 : Int32) (x3 : Int32), Jg κ (wM κ) 4 fin 0 0 2 [some ((8, .ref x0) : TV), some ((11, .ref x1) : TV), some ((0, .int x2) : TV), some ((0, .int x3) : TV)] [] (fX8_laysLower_L2 n x0 x1 x2 x3) := by
  intro n
  induction n with
  | zero => intro x0 x1 x2 x3; exact J_fail
  | succ n ih =>
    intro x0 x1 x2 x3
    unfold fX8_laysLower_L2
    refine J_iload_n (pc := 2) hc dX8_laysLower_2 rfl rfl ?_
    refine J_bipush (pc := 3) (v := 40) hc dX8_laysLower_3 (by decide) ?_
    refine J_icmp_ge (pc := 5) (tgt := 25) hc dX8_laysLower_5 (by decide) ?_ ?_
    · exact J_vret (pc := 25) he dX8_laysLower_25
    · refine J_aload_n (pc := 8) hc dX8_laysLower_8 rfl rfl ?_
      refine J_getA (pc := 9) hc clX8 (k := 8) (kd := 11) (Nat.le_of_ble_eq_true rfl) rfl (Nat.le_of_ble_eq_true rfl) (Nat.le_of_ble_eq_true rfl) tw1170 rfl dX8_laysLower_9 (fun v1 => ?_)
      refine J_iload_n (pc := 12) hc dX8_laysLower_12 rfl rfl ?_
      refine J_aload_n (pc := 13) hc dX8_laysLower_13 rfl rfl ?_
      refine J_iload_n (pc := 14) hc dX8_laysLower_14 rfl rfl ?_
      refine J_iload_n (pc := 15) hc dX8_laysLower_15 rfl rfl ?_
      refine J_iadd (pc := 16) hc dX8_laysLower_16 ?_
      refine J_iald (pc := 17) hc dX8_laysLower_17 (fun v2 => ?_)
      refine J_iast (pc := 18) hc dX8_laysLower_18 ?_
      refine J_iinc (pc := 19) (v := x3 + 1) (l' := [some ((8, .ref x0) : TV), some ((11, .ref x1) : TV), some ((0, .int x2) : TV), some ((0, .int (x3 + 1)) : TV)]) hc dX8_laysLower_19 rfl rfl (by decide) rfl rfl ?_
      refine J_goto (pc := 22) (tgt := 2) hc dX8_laysLower_22 (by decide) ?_
      refine J_sub (l' := [some ((8, .ref x0) : TV), some ((11, .ref x1) : TV), some ((0, .int x2) : TV), some ((0, .int (x3 + 1)) : TV)]) ⟨rfl, ⟨rfl, ⟨rfl, ⟨rfl, trivial⟩⟩⟩⟩ ?_
      exact ih x0 x1 x2 (x3 + 1)
set_option maxRecDepth 100000 in
set_option maxHeartbeats 4000000 in
theorem jX8_laysLower {κ : Cx} {fin : Unit → Mm → Prop} (hc : Jc κ RX8 cX8_laysLower 4 0 0 0 0) (he : Ed κ cX8_laysLower 0 0 wV .return_ fin) (x0 : Nat) (x1 : Nat) (x2 : Int32) : Jg κ (wM κ) 4 fin 0 0 0 [some ((8, .ref x0) : TV), some ((11, .ref x1) : TV), some ((0, .int x2) : TV), none] [] (fX8_laysLower x0 x1 x2) := by
  unfold fX8_laysLower
  refine J_iconst (pc := 0) (v := 0) hc dX8_laysLower_0 (by decide) ?_
  refine J_istore_n (pc := 1) (l' := [some ((8, .ref x0) : TV), some ((11, .ref x1) : TV), some ((0, .int x2) : TV), some ((0, .int 0) : TV)]) hc dX8_laysLower_1 rfl (by decide) rfl rfl ?_
  refine J_sub (l' := [some ((8, .ref x0) : TV), some ((11, .ref x1) : TV), some ((0, .int x2) : TV), some ((0, .int 0) : TV)]) ⟨rfl, ⟨rfl, ⟨rfl, ⟨rfl, trivial⟩⟩⟩⟩ ?_
  exact jX8_laysLower_L2 hc he fu x0 x1 x2 0
theorem moX8_laysLower : MOk yX8_laysLower 2 := ⟨by decide +kernel, by decide +kernel, by decide +kernel⟩
set_option maxRecDepth 100000 in
set_option maxHeartbeats 4000000 in
theorem KX8_laysLower (x0 : Nat) (x1 : Nat) (x2 : Int32) : Ct wV yX8_laysLower cX8_laysLower 4 none 0 0 0 0 [((8, .ref x0) : TV), ((11, .ref x1) : TV), ((0, .int x2) : TV)] (fX8_laysLower x0 x1 x2) :=
  Ct_V (j := 1) (by decide +kernel) rfl rfl (Nat.le_of_ble_eq_true rfl) (fun κ fin hc he hin => jX8_laysLower hc he x0 x1 x2)
set_option maxRecDepth 100000 in
set_option maxHeartbeats 4000000 in
theorem jX8_laysLine_L30 {κ : Cx} {fin : Unit → Mm → Prop} (hc : Jc κ RX8 cX8_laysLine 2 1 0 0 23) (he : Ed κ cX8_laysLine 0 0 wV .return_ fin) (x0 : Nat) (x1 : Int32) (s0 : Int32) (s1 : Nat) (s2 : Nat) : Jg κ (wM κ) 2 fin 0 0 30 [some ((8, .ref x0) : TV), some ((0, .int x1) : TV)] [((0, .int s0) : TV), ((11, .ref s1) : TV), ((8, .ref s2) : TV)] (fX8_laysLine_L30 x0 x1 s0 s1 s2) := by
  unfold fX8_laysLine_L30
  refine J_callVv (pc := 30) hc clX8 (As := [((11, .ref s1) : TV), ((0, .int s0) : TV)]) (KX8_laysUpper s2 s1 s0) dX8_laysLine_30 moX8_laysUpper rfl tw1332 tw1334 twp54 tw9 tw1335 rfl (Nat.le_of_ble_eq_true rfl) (Nat.le_of_ble_eq_true rfl) (Nat.le_of_ble_eq_true rfl) (Nat.le_of_ble_eq_true rfl) (Nat.le_of_ble_eq_true rfl) rfl (fun _ => ?_)
  refine J_aload_n (pc := 33) hc dX8_laysLine_33 rfl rfl ?_
  refine J_aload_n (pc := 34) hc dX8_laysLine_34 rfl rfl ?_
  refine J_getA (pc := 35) hc clX8 (k := 1) (kd := 11) (Nat.le_of_ble_eq_true rfl) rfl (Nat.le_of_ble_eq_true rfl) (Nat.le_of_ble_eq_true rfl) tw1163 rfl dX8_laysLine_35 (fun v1 => ?_)
  refine J_iload_n (pc := 38) hc dX8_laysLine_38 rfl rfl ?_
  refine J_iconst (pc := 39) (v := 0) hc dX8_laysLine_39 (by decide) ?_
  refine J_callSi (pc := 40) hc (As := [((0, .int x1) : TV), ((0, .int 0) : TV)]) (KX8_dotAt x1 0) dX8_laysLine_40 moX8_dotAt tw1309 tw1310 tw9 tw1311 rfl (Nat.le_of_ble_eq_true rfl) (Nat.le_of_ble_eq_true rfl) (Nat.le_of_ble_eq_true rfl) (Nat.le_of_ble_eq_true rfl) (Nat.le_of_ble_eq_true rfl) rfl (fun v2 => ?_)
  refine J_callVv (pc := 43) hc clX8 (As := [((11, .ref v1) : TV), ((0, .int v2) : TV)]) (KX8_laysLower x0 v1 v2) dX8_laysLine_43 moX8_laysLower rfl tw1336 tw1338 twp55 tw9 tw1339 rfl (Nat.le_of_ble_eq_true rfl) (Nat.le_of_ble_eq_true rfl) (Nat.le_of_ble_eq_true rfl) (Nat.le_of_ble_eq_true rfl) (Nat.le_of_ble_eq_true rfl) rfl (fun _ => ?_)
  exact J_vret (pc := 46) he dX8_laysLine_46
set_option maxRecDepth 100000 in
set_option maxHeartbeats 4000000 in
theorem jX8_laysLine {κ : Cx} {fin : Unit → Mm → Prop} (hc : Jc κ RX8 cX8_laysLine 2 1 0 0 23) (he : Ed κ cX8_laysLine 0 0 wV .return_ fin) (x0 : Nat) (x1 : Int32) : Jg κ (wM κ) 2 fin 0 0 0 [some ((8, .ref x0) : TV), some ((0, .int x1) : TV)] [] (fX8_laysLine x0 x1) := by
  unfold fX8_laysLine
  refine J_aload_n (pc := 0) hc dX8_laysLine_0 rfl rfl ?_
  refine J_aload_n (pc := 1) hc dX8_laysLine_1 rfl rfl ?_
  refine J_getA (pc := 2) hc clX8 (k := 1) (kd := 11) (Nat.le_of_ble_eq_true rfl) rfl (Nat.le_of_ble_eq_true rfl) (Nat.le_of_ble_eq_true rfl) tw1163 rfl dX8_laysLine_2 (fun v3 => ?_)
  refine J_iconst (pc := 5) (v := 0) hc dX8_laysLine_5 (by decide) ?_
  refine J_iald (pc := 6) hc dX8_laysLine_6 (fun v4 => ?_)
  refine J_putI (pc := 7) hc clX8 (k := 9) (Nat.le_of_ble_eq_true rfl) rfl rfl tw1171 rfl rfl dX8_laysLine_7 ?_
  refine J_aload_n (pc := 10) hc dX8_laysLine_10 rfl rfl ?_
  refine J_aload_n (pc := 11) hc dX8_laysLine_11 rfl rfl ?_
  refine J_getA (pc := 12) hc clX8 (k := 1) (kd := 11) (Nat.le_of_ble_eq_true rfl) rfl (Nat.le_of_ble_eq_true rfl) (Nat.le_of_ble_eq_true rfl) tw1163 rfl dX8_laysLine_12 (fun v5 => ?_)
  refine J_iload_n (pc := 15) hc dX8_laysLine_15 rfl rfl ?_
  refine J_if_ne (pc := 16) (tgt := 23) hc dX8_laysLine_16 (by decide) ?_ ?_
  · refine J_iload_n (pc := 23) hc dX8_laysLine_23 rfl rfl ?_
    refine J_iconst (pc := 24) (v := 1) hc dX8_laysLine_24 (by decide) ?_
    refine J_isub (pc := 25) hc dX8_laysLine_25 ?_
    refine J_iconst (pc := 26) (v := 0) hc dX8_laysLine_26 (by decide) ?_
    refine J_callSi (pc := 27) hc (As := [((0, .int (x1 - 1)) : TV), ((0, .int 0) : TV)]) (KX8_dotAt (x1 - 1) 0) dX8_laysLine_27 moX8_dotAt tw1309 tw1310 tw9 tw1311 rfl (Nat.le_of_ble_eq_true rfl) (Nat.le_of_ble_eq_true rfl) (Nat.le_of_ble_eq_true rfl) (Nat.le_of_ble_eq_true rfl) (Nat.le_of_ble_eq_true rfl) rfl (fun v6 => ?_)
    refine J_sub (l' := [some ((8, .ref x0) : TV), some ((0, .int x1) : TV)]) ⟨rfl, ⟨rfl, trivial⟩⟩ ?_
    exact jX8_laysLine_L30 hc he x0 x1 v6 v5 x0
  · refine J_iconst (pc := 19) (v := (-1)) hc dX8_laysLine_19 (by decide) ?_
    refine J_goto (pc := 20) (tgt := 30) hc dX8_laysLine_20 (by decide) ?_
    refine J_sub (l' := [some ((8, .ref x0) : TV), some ((0, .int x1) : TV)]) ⟨rfl, ⟨rfl, trivial⟩⟩ ?_
    exact jX8_laysLine_L30 hc he x0 x1 (-1) v5 x0
theorem moX8_laysLine : MOk yX8_laysLine 1 := ⟨by decide +kernel, by decide +kernel, by decide +kernel⟩
set_option maxRecDepth 100000 in
set_option maxHeartbeats 4000000 in
theorem KX8_laysLine (x0 : Nat) (x1 : Int32) : Ct wV yX8_laysLine cX8_laysLine 2 none 1 0 0 23 [((8, .ref x0) : TV), ((0, .int x1) : TV)] (fX8_laysLine x0 x1) :=
  Ct_V (j := 0) (by decide +kernel) rfl rfl (Nat.le_of_ble_eq_true rfl) (fun κ fin hc he hin => jX8_laysLine hc he x0 x1)
set_option maxRecDepth 100000 in
set_option maxHeartbeats 4000000 in
theorem jX8_isChange_L22 {κ : Cx} {fin : Int32 → Mm → Prop} (hc : Jc κ RX8 cX8_isChange 2 0 0 0 0) (he : EdZ κ cX8_isChange 0 0 id fin) (s0 : Int32) (s1 : Int32) : Jg κ (wM κ) 2 fin 0 0 22 [none, none] [((0, .int s0) : TV), ((0, .int s1) : TV)] (fX8_isChange_L22 s0 s1) := by
  unfold fX8_isChange_L22
  refine J_icmp_eq (pc := 22) (tgt := 29) hc dX8_isChange_22 (by decide) ?_ ?_
  · refine J_iconst (pc := 29) (v := 0) hc dX8_isChange_29 (by decide) ?_
    exact J_zret (pc := 30) he dX8_isChange_30
  · refine J_iconst (pc := 25) (v := 1) hc dX8_isChange_25 (by decide) ?_
    refine J_goto (pc := 26) (tgt := 30) hc dX8_isChange_26 (by decide) ?_
    exact J_zret (pc := 30) he dX8_isChange_30
set_option maxRecDepth 100000 in
set_option maxHeartbeats 4000000 in
theorem jX8_isChange {κ : Cx} {fin : Int32 → Mm → Prop} (hc : Jc κ RX8 cX8_isChange 2 0 0 0 0) (he : EdZ κ cX8_isChange 0 0 id fin) (x0 : Nat) (x1 : Int32) : Jg κ (wM κ) 2 fin 0 0 0 [some ((8, .ref x0) : TV), some ((0, .int x1) : TV)] [] (fX8_isChange x0 x1) := by
  unfold fX8_isChange
  refine J_aload_n (pc := 0) hc dX8_isChange_0 rfl rfl ?_
  refine J_getA (pc := 1) hc clX8 (k := 7) (kd := 11) (Nat.le_of_ble_eq_true rfl) rfl (Nat.le_of_ble_eq_true rfl) (Nat.le_of_ble_eq_true rfl) tw1169 rfl dX8_isChange_1 (fun v1 => ?_)
  refine J_iload_n (pc := 4) hc dX8_isChange_4 rfl rfl ?_
  refine J_iald (pc := 5) hc dX8_isChange_5 (fun v2 => ?_)
  refine J_iload_n (pc := 6) hc dX8_isChange_6 rfl rfl ?_
  refine J_if_ne (pc := 7) (tgt := 14) hc dX8_isChange_7 (by decide) ?_ ?_
  · refine J_aload_n (pc := 14) hc dX8_isChange_14 rfl rfl ?_
    refine J_getA (pc := 15) hc clX8 (k := 7) (kd := 11) (Nat.le_of_ble_eq_true rfl) rfl (Nat.le_of_ble_eq_true rfl) (Nat.le_of_ble_eq_true rfl) tw1169 rfl dX8_isChange_15 (fun v3 => ?_)
    refine J_iload_n (pc := 18) hc dX8_isChange_18 rfl rfl ?_
    refine J_iconst (pc := 19) (v := 1) hc dX8_isChange_19 (by decide) ?_
    refine J_isub (pc := 20) hc dX8_isChange_20 ?_
    refine J_iald (pc := 21) hc dX8_isChange_21 (fun v4 => ?_)
    refine J_sub (l' := [none, none]) (show subL _ _ from trivial) ?_
    exact jX8_isChange_L22 hc he v4 v2
  · refine J_iconst (pc := 10) (v := 0) hc dX8_isChange_10 (by decide) ?_
    refine J_goto (pc := 11) (tgt := 22) hc dX8_isChange_11 (by decide) ?_
    refine J_sub (l' := [none, none]) (show subL _ _ from trivial) ?_
    exact jX8_isChange_L22 hc he 0 v2
theorem moX8_isChange : MOk yX8_isChange 1 := ⟨by decide +kernel, by decide +kernel, by decide +kernel⟩
set_option maxRecDepth 100000 in
set_option maxHeartbeats 4000000 in
theorem KX8_isChange (x0 : Nat) (x1 : Int32) : Ct wI yX8_isChange cX8_isChange 2 (some .boolean) 0 0 0 0 [((8, .ref x0) : TV), ((0, .int x1) : TV)] (fX8_isChange x0 x1) :=
  Ct_Z ⟨rfl, rfl⟩ (j := 0) (by decide +kernel) rfl rfl (Nat.le_of_ble_eq_true rfl) (fun κ fin hc he => jX8_isChange hc he x0 x1)
set_option maxRecDepth 100000 in
set_option maxHeartbeats 4000000 in
theorem jX8_changeBehind_L36 {κ : Cx} {fin : Int32 → Mm → Prop} (hc : Jc κ RX8 cX8_changeBehind 4 1 0 0 21) (he : Ed κ cX8_changeBehind 0 0 wI .ireturn fin) (x0 : Nat) (x3 : Int32) : Jg κ (wM κ) 4 fin 0 0 36 [some ((8, .ref x0) : TV), none, none, some ((0, .int x3) : TV)] [] (fX8_changeBehind_L36 x0 x3) := by
  unfold fX8_changeBehind_L36
  refine J_iload_n (pc := 36) hc dX8_changeBehind_36 rfl rfl ?_
  refine J_aload_n (pc := 37) hc dX8_changeBehind_37 rfl rfl ?_
  refine J_getI (pc := 38) hc clX8 (k := 9) (Nat.le_of_ble_eq_true rfl) rfl tw1171 rfl dX8_changeBehind_38 (fun v1 => ?_)
  refine J_icmp_ge (pc := 41) (tgt := 48) hc dX8_changeBehind_41 (by decide) ?_ ?_
  · refine J_aload_n (pc := 48) hc dX8_changeBehind_48 rfl rfl ?_
    refine J_getI (pc := 49) hc clX8 (k := 9) (Nat.le_of_ble_eq_true rfl) rfl tw1171 rfl dX8_changeBehind_49 (fun v2 => ?_)
    exact J_iret (pc := 52) he dX8_changeBehind_52
  · refine J_iload_n (pc := 44) hc dX8_changeBehind_44 rfl rfl ?_
    refine J_goto (pc := 45) (tgt := 52) hc dX8_changeBehind_45 (by decide) ?_
    exact J_iret (pc := 52) he dX8_changeBehind_52
set_option maxRecDepth 100000 in
set_option maxHeartbeats 4000000 in
theorem jX8_changeBehind_L30 {κ : Cx} {fin : Int32 → Mm → Prop} (hc : Jc κ RX8 cX8_changeBehind 4 1 0 0 21) (he : Ed κ cX8_changeBehind 0 0 wI .ireturn fin) {k4 : Nat → Int32 → Int32 → Mm → Option (Int32 × Mm)} (hk4 : ∀ (x0 : Nat) (x2 : Int32) (x3 : Int32), Jg κ (wM κ) 4 fin 0 0 4 [some ((8, .ref x0) : TV), none, some ((0, .int x2) : TV), some ((0, .int x3) : TV)] [] (k4 x0 x2 x3)) (x0 : Nat) (x2 : Int32) (x3 : Int32) : Jg κ (wM κ) 4 fin 0 0 30 [some ((8, .ref x0) : TV), none, some ((0, .int x2) : TV), some ((0, .int x3) : TV)] [] (fX8_changeBehind_L30 k4 x0 x2 x3) := by
  unfold fX8_changeBehind_L30
  refine J_iinc (pc := 30) (v := x3 + 1) (l' := [some ((8, .ref x0) : TV), none, some ((0, .int x2) : TV), some ((0, .int (x3 + 1)) : TV)]) hc dX8_changeBehind_30 rfl rfl (by decide) rfl rfl ?_
  refine J_goto (pc := 33) (tgt := 4) hc dX8_changeBehind_33 (by decide) ?_
  refine J_sub (l' := [some ((8, .ref x0) : TV), none, some ((0, .int x2) : TV), some ((0, .int (x3 + 1)) : TV)]) ⟨rfl, ⟨rfl, ⟨rfl, trivial⟩⟩⟩ ?_
  exact hk4 x0 x2 (x3 + 1)
set_option maxRecDepth 100000 in
set_option maxHeartbeats 4000000 in
theorem jX8_changeBehind_L4 {κ : Cx} {fin : Int32 → Mm → Prop} (hc : Jc κ RX8 cX8_changeBehind 4 1 0 0 21) (he : Ed κ cX8_changeBehind 0 0 wI .ireturn fin) : ∀ (n : Nat) (x0 : Nat) (x2 : Int32) (x3 : Int32), Jg κ (wM κ) 4 fin 0 0 4 [some ((8, .ref x0) : TV), none, some ((0, .int x2) : TV), some ((0, .int x3) : TV)] [] (fX8_changeBehind_L4 n x0 x2 x3) := by
  intro n
  induction n with
  | zero => intro x0 x2 x3; exact J_fail
  | succ n ih =>
    intro x0 x2 x3
    unfold fX8_changeBehind_L4
    refine J_iload_n (pc := 4) hc dX8_changeBehind_4 rfl rfl ?_
    refine J_aload_n (pc := 5) hc dX8_changeBehind_5 rfl rfl ?_
    refine J_getI (pc := 6) hc clX8 (k := 9) (Nat.le_of_ble_eq_true rfl) rfl tw1171 rfl dX8_changeBehind_6 (fun v3 => ?_)
    refine J_icmp_ge (pc := 9) (tgt := 36) hc dX8_changeBehind_9 (by decide) ?_ ?_
    · refine J_sub (l' := [some ((8, .ref x0) : TV), none, none, some ((0, .int x3) : TV)]) ⟨rfl, ⟨rfl, trivial⟩⟩ ?_
      exact jX8_changeBehind_L36 hc he x0 x3
    · refine J_aload_n (pc := 12) hc dX8_changeBehind_12 rfl rfl ?_
      refine J_iload_n (pc := 13) hc dX8_changeBehind_13 rfl rfl ?_
      refine J_callVi (pc := 14) hc clX8 (As := [((0, .int x3) : TV)]) (KX8_isChange x0 x3) dX8_changeBehind_14 moX8_isChange rfl tw1352 tw1354 twp59 tw9 tw1355 rfl (Nat.le_of_ble_eq_true rfl) (Nat.le_of_ble_eq_true rfl) (Nat.le_of_ble_eq_true rfl) (Nat.le_of_ble_eq_true rfl) (Nat.le_of_ble_eq_true rfl) rfl (fun v4 => ?_)
      refine J_if_eq (pc := 17) (tgt := 30) hc dX8_changeBehind_17 (by decide) ?_ ?_
      · refine J_sub (l' := [some ((8, .ref x0) : TV), none, some ((0, .int x2) : TV), some ((0, .int x3) : TV)]) ⟨rfl, ⟨rfl, ⟨rfl, trivial⟩⟩⟩ ?_
        exact jX8_changeBehind_L30 hc he ih x0 x2 x3
      · refine J_aload_n (pc := 20) hc dX8_changeBehind_20 rfl rfl ?_
        refine J_getA (pc := 21) hc clX8 (k := 7) (kd := 11) (Nat.le_of_ble_eq_true rfl) rfl (Nat.le_of_ble_eq_true rfl) (Nat.le_of_ble_eq_true rfl) tw1169 rfl dX8_changeBehind_21 (fun v5 => ?_)
        refine J_iload_n (pc := 24) hc dX8_changeBehind_24 rfl rfl ?_
        refine J_iald (pc := 25) hc dX8_changeBehind_25 (fun v6 => ?_)
        refine J_iload_n (pc := 26) hc dX8_changeBehind_26 rfl rfl ?_
        refine J_icmp_ne (pc := 27) (tgt := 36) hc dX8_changeBehind_27 (by decide) ?_ ?_
        · refine J_sub (l' := [some ((8, .ref x0) : TV), none, none, some ((0, .int x3) : TV)]) ⟨rfl, ⟨rfl, trivial⟩⟩ ?_
          exact jX8_changeBehind_L36 hc he x0 x3
        · refine J_sub (l' := [some ((8, .ref x0) : TV), none, some ((0, .int x2) : TV), some ((0, .int x3) : TV)]) ⟨rfl, ⟨rfl, ⟨rfl, trivial⟩⟩⟩ ?_
          exact jX8_changeBehind_L30 hc he ih x0 x2 x3
set_option maxRecDepth 100000 in
set_option maxHeartbeats 4000000 in
theorem jX8_changeBehind {κ : Cx} {fin : Int32 → Mm → Prop} (hc : Jc κ RX8 cX8_changeBehind 4 1 0 0 21) (he : Ed κ cX8_changeBehind 0 0 wI .ireturn fin) (x0 : Nat) (x1 : Int32) (x2 : Int32) : Jg κ (wM κ) 4 fin 0 0 0 [some ((8, .ref x0) : TV), some ((0, .int x1) : TV), some ((0, .int x2) : TV), none] [] (fX8_changeBehind x0 x1 x2) := by
  unfold fX8_changeBehind
  refine J_iload_n (pc := 0) hc dX8_changeBehind_0 rfl rfl ?_
  refine J_iconst (pc := 1) (v := 1) hc dX8_changeBehind_1 (by decide) ?_
  refine J_iadd (pc := 2) hc dX8_changeBehind_2 ?_
  refine J_nmi (fun v7 => ?_)
  refine J_istore_n (pc := 3) (l' := [some ((8, .ref x0) : TV), some ((0, .int x1) : TV), some ((0, .int x2) : TV), some ((0, .int v7) : TV)]) hc dX8_changeBehind_3 rfl (by decide) rfl rfl ?_
  refine J_sub (l' := [some ((8, .ref x0) : TV), none, some ((0, .int x2) : TV), some ((0, .int v7) : TV)]) ⟨rfl, ⟨rfl, ⟨rfl, trivial⟩⟩⟩ ?_
  exact jX8_changeBehind_L4 hc he fu x0 x2 v7
theorem moX8_changeBehind : MOk yX8_changeBehind 2 := ⟨by decide +kernel, by decide +kernel, by decide +kernel⟩
set_option maxRecDepth 100000 in
set_option maxHeartbeats 4000000 in
theorem KX8_changeBehind (x0 : Nat) (x1 : Int32) (x2 : Int32) : Ct wI yX8_changeBehind cX8_changeBehind 4 (some .int) 1 0 0 21 [((8, .ref x0) : TV), ((0, .int x1) : TV), ((0, .int x2) : TV)] (fX8_changeBehind x0 x1 x2) :=
  Ct_I (j := 1) (by decide +kernel) rfl rfl (Nat.le_of_ble_eq_true rfl) (fun κ fin hc he => jX8_changeBehind hc he x0 x1 x2)
set_option maxRecDepth 100000 in
set_option maxHeartbeats 4000000 in
theorem jX8_dotBehind_L28 {κ : Cx} {fin : Int32 → Mm → Prop} (hc : Jc κ RX8 cX8_dotBehind 4 0 0 0 0) (he : Ed κ cX8_dotBehind 0 0 wI .ireturn fin) (x0 : Nat) (x3 : Int32) : Jg κ (wM κ) 4 fin 0 0 28 [some ((8, .ref x0) : TV), none, none, some ((0, .int x3) : TV)] [] (fX8_dotBehind_L28 x0 x3) := by
  unfold fX8_dotBehind_L28
  refine J_iload_n (pc := 28) hc dX8_dotBehind_28 rfl rfl ?_
  refine J_aload_n (pc := 29) hc dX8_dotBehind_29 rfl rfl ?_
  refine J_getI (pc := 30) hc clX8 (k := 9) (Nat.le_of_ble_eq_true rfl) rfl tw1171 rfl dX8_dotBehind_30 (fun v1 => ?_)
  refine J_icmp_ge (pc := 33) (tgt := 40) hc dX8_dotBehind_33 (by decide) ?_ ?_
  · refine J_aload_n (pc := 40) hc dX8_dotBehind_40 rfl rfl ?_
    refine J_getI (pc := 41) hc clX8 (k := 9) (Nat.le_of_ble_eq_true rfl) rfl tw1171 rfl dX8_dotBehind_41 (fun v2 => ?_)
    exact J_iret (pc := 44) he dX8_dotBehind_44
  · refine J_iload_n (pc := 36) hc dX8_dotBehind_36 rfl rfl ?_
    refine J_goto (pc := 37) (tgt := 44) hc dX8_dotBehind_37 (by decide) ?_
    exact J_iret (pc := 44) he dX8_dotBehind_44
set_option maxRecDepth 100000 in
set_option maxHeartbeats 4000000 in
theorem jX8_dotBehind_L4 {κ : Cx} {fin : Int32 → Mm → Prop} (hc : Jc κ RX8 cX8_dotBehind 4 0 0 0 0) (he : Ed κ cX8_dotBehind 0 0 wI .ireturn fin) : ∀ (n : Nat) (x0 : Nat) (x2 : Int32) (x3 : Int32), Jg κ (wM κ) 4 fin 0 0 4 [some ((8, .ref x0) : TV), none, some ((0, .int x2) : TV), some ((0, .int x3) : TV)] [] (fX8_dotBehind_L4 n x0 x2 x3) := by
  intro n
  induction n with
  | zero => intro x0 x2 x3; exact J_fail
  | succ n ih =>
    intro x0 x2 x3
    unfold fX8_dotBehind_L4
    refine J_iload_n (pc := 4) hc dX8_dotBehind_4 rfl rfl ?_
    refine J_aload_n (pc := 5) hc dX8_dotBehind_5 rfl rfl ?_
    refine J_getI (pc := 6) hc clX8 (k := 9) (Nat.le_of_ble_eq_true rfl) rfl tw1171 rfl dX8_dotBehind_6 (fun v3 => ?_)
    refine J_icmp_ge (pc := 9) (tgt := 28) hc dX8_dotBehind_9 (by decide) ?_ ?_
    · refine J_sub (l' := [some ((8, .ref x0) : TV), none, none, some ((0, .int x3) : TV)]) ⟨rfl, ⟨rfl, trivial⟩⟩ ?_
      exact jX8_dotBehind_L28 hc he x0 x3
    · refine J_aload_n (pc := 12) hc dX8_dotBehind_12 rfl rfl ?_
      refine J_getA (pc := 13) hc clX8 (k := 8) (kd := 11) (Nat.le_of_ble_eq_true rfl) rfl (Nat.le_of_ble_eq_true rfl) (Nat.le_of_ble_eq_true rfl) tw1170 rfl dX8_dotBehind_13 (fun v4 => ?_)
      refine J_iload_n (pc := 16) hc dX8_dotBehind_16 rfl rfl ?_
      refine J_iald (pc := 17) hc dX8_dotBehind_17 (fun v5 => ?_)
      refine J_iload_n (pc := 18) hc dX8_dotBehind_18 rfl rfl ?_
      refine J_icmp_eq (pc := 19) (tgt := 28) hc dX8_dotBehind_19 (by decide) ?_ ?_
      · refine J_sub (l' := [some ((8, .ref x0) : TV), none, none, some ((0, .int x3) : TV)]) ⟨rfl, ⟨rfl, trivial⟩⟩ ?_
        exact jX8_dotBehind_L28 hc he x0 x3
      · refine J_iinc (pc := 22) (v := x3 + 1) (l' := [some ((8, .ref x0) : TV), none, some ((0, .int x2) : TV), some ((0, .int (x3 + 1)) : TV)]) hc dX8_dotBehind_22 rfl rfl (by decide) rfl rfl ?_
        refine J_goto (pc := 25) (tgt := 4) hc dX8_dotBehind_25 (by decide) ?_
        refine J_sub (l' := [some ((8, .ref x0) : TV), none, some ((0, .int x2) : TV), some ((0, .int (x3 + 1)) : TV)]) ⟨rfl, ⟨rfl, ⟨rfl, trivial⟩⟩⟩ ?_
        exact ih x0 x2 (x3 + 1)
set_option maxRecDepth 100000 in
set_option maxHeartbeats 4000000 in
theorem jX8_dotBehind {κ : Cx} {fin : Int32 → Mm → Prop} (hc : Jc κ RX8 cX8_dotBehind 4 0 0 0 0) (he : Ed κ cX8_dotBehind 0 0 wI .ireturn fin) (x0 : Nat) (x1 : Int32) (x2 : Int32) : Jg κ (wM κ) 4 fin 0 0 0 [some ((8, .ref x0) : TV), some ((0, .int x1) : TV), some ((0, .int x2) : TV), none] [] (fX8_dotBehind x0 x1 x2) := by
  unfold fX8_dotBehind
  refine J_iload_n (pc := 0) hc dX8_dotBehind_0 rfl rfl ?_
  refine J_iconst (pc := 1) (v := 1) hc dX8_dotBehind_1 (by decide) ?_
  refine J_iadd (pc := 2) hc dX8_dotBehind_2 ?_
  refine J_nmi (fun v6 => ?_)
  refine J_istore_n (pc := 3) (l' := [some ((8, .ref x0) : TV), some ((0, .int x1) : TV), some ((0, .int x2) : TV), some ((0, .int v6) : TV)]) hc dX8_dotBehind_3 rfl (by decide) rfl rfl ?_
  refine J_sub (l' := [some ((8, .ref x0) : TV), none, some ((0, .int x2) : TV), some ((0, .int v6) : TV)]) ⟨rfl, ⟨rfl, ⟨rfl, trivial⟩⟩⟩ ?_
  exact jX8_dotBehind_L4 hc he fu x0 x2 v6
theorem moX8_dotBehind : MOk yX8_dotBehind 2 := ⟨by decide +kernel, by decide +kernel, by decide +kernel⟩
set_option maxRecDepth 100000 in
set_option maxHeartbeats 4000000 in
theorem KX8_dotBehind (x0 : Nat) (x1 : Int32) (x2 : Int32) : Ct wI yX8_dotBehind cX8_dotBehind 4 (some .int) 0 0 0 0 [((8, .ref x0) : TV), ((0, .int x1) : TV), ((0, .int x2) : TV)] (fX8_dotBehind x0 x1 x2) :=
  Ct_I (j := 1) (by decide +kernel) rfl rfl (Nat.le_of_ble_eq_true rfl) (fun κ fin hc he => jX8_dotBehind hc he x0 x1 x2)
set_option maxRecDepth 100000 in
set_option maxHeartbeats 4000000 in
theorem jX8_adds {κ : Cx} {fin : Unit → Mm → Prop} (hc : Jc κ RX8 cX8_adds 5 0 0 0 0) (he : Ed κ cX8_adds 0 0 wV .return_ fin) (x0 : Nat) (x1 : Int32) (x2 : Int32) (x3 : Int32) (x4 : Int32) : Jg κ (wM κ) 5 fin 0 0 0 [some ((8, .ref x0) : TV), some ((0, .int x1) : TV), some ((0, .int x2) : TV), some ((0, .int x3) : TV), some ((0, .int x4) : TV)] [] (fX8_adds x0 x1 x2 x3 x4) := by
  unfold fX8_adds
  refine J_aload_n (pc := 0) hc dX8_adds_0 rfl rfl ?_
  refine J_getA (pc := 1) hc clX8 (k := 10) (kd := 11) (Nat.le_of_ble_eq_true rfl) rfl (Nat.le_of_ble_eq_true rfl) (Nat.le_of_ble_eq_true rfl) tw1172 rfl dX8_adds_1 (fun v1 => ?_)
  refine J_aload_n (pc := 4) hc dX8_adds_4 rfl rfl ?_
  refine J_getI (pc := 5) hc clX8 (k := 14) (Nat.le_of_ble_eq_true rfl) rfl tw1176 rfl dX8_adds_5 (fun v2 => ?_)
  refine J_iload_n (pc := 8) hc dX8_adds_8 rfl rfl ?_
  refine J_iast (pc := 9) hc dX8_adds_9 ?_
  refine J_aload_n (pc := 10) hc dX8_adds_10 rfl rfl ?_
  refine J_getA (pc := 11) hc clX8 (k := 11) (kd := 11) (Nat.le_of_ble_eq_true rfl) rfl (Nat.le_of_ble_eq_true rfl) (Nat.le_of_ble_eq_true rfl) tw1173 rfl dX8_adds_11 (fun v3 => ?_)
  refine J_aload_n (pc := 14) hc dX8_adds_14 rfl rfl ?_
  refine J_getI (pc := 15) hc clX8 (k := 14) (Nat.le_of_ble_eq_true rfl) rfl tw1176 rfl dX8_adds_15 (fun v4 => ?_)
  refine J_iload_n (pc := 18) hc dX8_adds_18 rfl rfl ?_
  refine J_iast (pc := 19) hc dX8_adds_19 ?_
  refine J_aload_n (pc := 20) hc dX8_adds_20 rfl rfl ?_
  refine J_getA (pc := 21) hc clX8 (k := 12) (kd := 11) (Nat.le_of_ble_eq_true rfl) rfl (Nat.le_of_ble_eq_true rfl) (Nat.le_of_ble_eq_true rfl) tw1174 rfl dX8_adds_21 (fun v5 => ?_)
  refine J_aload_n (pc := 24) hc dX8_adds_24 rfl rfl ?_
  refine J_getI (pc := 25) hc clX8 (k := 14) (Nat.le_of_ble_eq_true rfl) rfl tw1176 rfl dX8_adds_25 (fun v6 => ?_)
  refine J_iload_n (pc := 28) hc dX8_adds_28 rfl rfl ?_
  refine J_iast (pc := 29) hc dX8_adds_29 ?_
  refine J_aload_n (pc := 30) hc dX8_adds_30 rfl rfl ?_
  refine J_getA (pc := 31) hc clX8 (k := 13) (kd := 11) (Nat.le_of_ble_eq_true rfl) rfl (Nat.le_of_ble_eq_true rfl) (Nat.le_of_ble_eq_true rfl) tw1175 rfl dX8_adds_31 (fun v7 => ?_)
  refine J_aload_n (pc := 34) hc dX8_adds_34 rfl rfl ?_
  refine J_getI (pc := 35) hc clX8 (k := 14) (Nat.le_of_ble_eq_true rfl) rfl tw1176 rfl dX8_adds_35 (fun v8 => ?_)
  refine J_iload (pc := 38) hc dX8_adds_38 rfl ?_
  refine J_iast (pc := 40) hc dX8_adds_40 ?_
  refine J_aload_n (pc := 41) hc dX8_adds_41 rfl rfl ?_
  refine J_dup (pc := 42) hc dX8_adds_42 rfl ?_
  refine J_getI (pc := 43) hc clX8 (k := 14) (Nat.le_of_ble_eq_true rfl) rfl tw1176 rfl dX8_adds_43 (fun v9 => ?_)
  refine J_iconst (pc := 46) (v := 1) hc dX8_adds_46 (by decide) ?_
  refine J_iadd (pc := 47) hc dX8_adds_47 ?_
  refine J_putI (pc := 48) hc clX8 (k := 14) (Nat.le_of_ble_eq_true rfl) rfl rfl tw1176 rfl rfl dX8_adds_48 ?_
  exact J_vret (pc := 51) he dX8_adds_51
theorem moX8_adds : MOk yX8_adds 4 := ⟨by decide +kernel, by decide +kernel, by decide +kernel⟩
set_option maxRecDepth 100000 in
set_option maxHeartbeats 4000000 in
theorem KX8_adds (x0 : Nat) (x1 : Int32) (x2 : Int32) (x3 : Int32) (x4 : Int32) : Ct wV yX8_adds cX8_adds 5 none 0 0 0 0 [((8, .ref x0) : TV), ((0, .int x1) : TV), ((0, .int x2) : TV), ((0, .int x3) : TV), ((0, .int x4) : TV)] (fX8_adds x0 x1 x2 x3 x4) :=
  Ct_V (j := 0) (by decide +kernel) rfl rfl (Nat.le_of_ble_eq_true rfl) (fun κ fin hc he hin => jX8_adds hc he x0 x1 x2 x3 x4)
set_option maxRecDepth 100000 in
set_option maxHeartbeats 4000000 in
theorem jX8_least0 {κ : Cx} {fin : Int32 → Mm → Prop} (hc : Jc κ RX8 cX8_least0 1 0 0 0 0) (he : Ed κ cX8_least0 0 0 wI .ireturn fin) (x0 : Int32) : Jg κ (wM κ) 1 fin 0 0 0 [some ((0, .int x0) : TV)] [] (fX8_least0 x0) := by
  unfold fX8_least0
  refine J_iload_n (pc := 0) hc dX8_least0_0 rfl rfl ?_
  refine J_if_ge (pc := 1) (tgt := 8) hc dX8_least0_1 (by decide) ?_ ?_
  · refine J_iload_n (pc := 8) hc dX8_least0_8 rfl rfl ?_
    exact J_iret (pc := 9) he dX8_least0_9
  · refine J_iconst (pc := 4) (v := 0) hc dX8_least0_4 (by decide) ?_
    refine J_goto (pc := 5) (tgt := 9) hc dX8_least0_5 (by decide) ?_
    exact J_iret (pc := 9) he dX8_least0_9
theorem moX8_least0 : MOk yX8_least0 1 := ⟨by decide +kernel, by decide +kernel, by decide +kernel⟩
set_option maxRecDepth 100000 in
set_option maxHeartbeats 4000000 in
theorem KX8_least0 (x0 : Int32) : Ct wI yX8_least0 cX8_least0 1 (some .int) 0 0 0 0 [((0, .int x0) : TV)] (fX8_least0 x0) :=
  Ct_I (j := 0) (by decide +kernel) rfl rfl (Nat.le_of_ble_eq_true rfl) (fun κ fin hc he => jX8_least0 hc he x0)
set_option maxRecDepth 100000 in
set_option maxHeartbeats 4000000 in
theorem jX8_codes_L156 {κ : Cx} {fin : Unit → Mm → Prop} (hc : Jc κ RX8 cX8_codes 7 2 0 0 44) (he : Ed κ cX8_codes 0 0 wV .return_ fin) {k9 : Nat → Int32 → Int32 → Mm → Option (Unit × Mm)} (hk9 : ∀ (x0 : Nat) (x1 : Int32) (x2 : Int32), Jg κ (wM κ) 7 fin 0 0 9 [some ((8, .ref x0) : TV), some ((0, .int x1) : TV), some ((0, .int x2) : TV), none, none, none, none] [] (k9 x0 x1 x2)) (x0 : Nat) (x1 : Int32) (x2 : Int32) : Jg κ (wM κ) 7 fin 0 0 156 [some ((8, .ref x0) : TV), some ((0, .int x1) : TV), some ((0, .int x2) : TV), none, none, none, none] [] (fX8_codes_L156 k9 x0 x1 x2) := by
  unfold fX8_codes_L156
  refine J_goto (pc := 156) (tgt := 9) hc dX8_codes_156 (by decide) ?_
  refine J_sub (l' := [some ((8, .ref x0) : TV), some ((0, .int x1) : TV), some ((0, .int x2) : TV), none, none, none, none]) ⟨rfl, ⟨rfl, ⟨rfl, trivial⟩⟩⟩ ?_
  exact hk9 x0 x1 x2
set_option maxRecDepth 100000 in
set_option maxHeartbeats 4000000 in
theorem jX8_codes_L134 {κ : Cx} {fin : Unit → Mm → Prop} (hc : Jc κ RX8 cX8_codes 7 2 0 0 44) (he : Ed κ cX8_codes 0 0 wV .return_ fin) {k9 : Nat → Int32 → Int32 → Mm → Option (Unit × Mm)} (hk9 : ∀ (x0 : Nat) (x1 : Int32) (x2 : Int32), Jg κ (wM κ) 7 fin 0 0 9 [some ((8, .ref x0) : TV), some ((0, .int x1) : TV), some ((0, .int x2) : TV), none, none, none, none] [] (k9 x0 x1 x2)) (x0 : Nat) (x1 : Int32) (x2 : Int32) (x3 : Int32) (s0 : Int32) : Jg κ (wM κ) 7 fin 0 0 134 [some ((8, .ref x0) : TV), some ((0, .int x1) : TV), some ((0, .int x2) : TV), some ((0, .int x3) : TV), none, none, none] [((0, .int s0) : TV)] (fX8_codes_L134 k9 x0 x1 x2 x3 s0) := by
  unfold fX8_codes_L134
  refine J_istore (pc := 134) (l' := [some ((8, .ref x0) : TV), some ((0, .int x1) : TV), some ((0, .int x2) : TV), some ((0, .int x3) : TV), none, none, some ((0, .int s0) : TV)]) hc dX8_codes_134 (by decide) rfl rfl ?_
  refine J_aload_n (pc := 136) hc dX8_codes_136 rfl rfl ?_
  refine J_iconst (pc := 137) (v := 2) hc dX8_codes_137 (by decide) ?_
  refine J_iload_n (pc := 138) hc dX8_codes_138 rfl rfl ?_
  refine J_iload_n (pc := 139) hc dX8_codes_139 rfl rfl ?_
  refine J_callSi (pc := 140) hc (As := [((0, .int x1) : TV)]) (KX8_least0 x1) dX8_codes_140 moX8_least0 tw1360 tw1361 tw9 tw1362 rfl (Nat.le_of_ble_eq_true rfl) (Nat.le_of_ble_eq_true rfl) (Nat.le_of_ble_eq_true rfl) (Nat.le_of_ble_eq_true rfl) (Nat.le_of_ble_eq_true rfl) rfl (fun v1 => ?_)
  refine J_isub (pc := 143) hc dX8_codes_143 ?_
  refine J_iload (pc := 144) hc dX8_codes_144 rfl ?_
  refine J_iload_n (pc := 146) hc dX8_codes_146 rfl rfl ?_
  refine J_isub (pc := 147) hc dX8_codes_147 ?_
  refine J_iload (pc := 148) hc dX8_codes_148 rfl ?_
  refine J_callVv (pc := 150) hc clX8 (As := [((0, .int 2) : TV), ((0, .int (x3 - v1)) : TV), ((0, .int (s0 - x3)) : TV), ((0, .int s0) : TV)]) (KX8_adds x0 2 (x3 - v1) (s0 - x3) s0) dX8_codes_150 moX8_adds rfl tw1356 tw1358 twp60 tw9 tw1359 rfl (Nat.le_of_ble_eq_true rfl) (Nat.le_of_ble_eq_true rfl) (Nat.le_of_ble_eq_true rfl) (Nat.le_of_ble_eq_true rfl) (Nat.le_of_ble_eq_true rfl) rfl (fun _ => ?_)
  refine J_iload (pc := 153) hc dX8_codes_153 rfl ?_
  refine J_istore_n (pc := 155) (l' := [some ((8, .ref x0) : TV), some ((0, .int s0) : TV), some ((0, .int x2) : TV), some ((0, .int x3) : TV), none, none, some ((0, .int s0) : TV)]) hc dX8_codes_155 rfl (by decide) rfl rfl ?_
  refine J_sub (l' := [some ((8, .ref x0) : TV), some ((0, .int s0) : TV), some ((0, .int x2) : TV), none, none, none, none]) ⟨rfl, ⟨rfl, ⟨rfl, trivial⟩⟩⟩ ?_
  exact jX8_codes_L156 hc he hk9 x0 s0 x2
set_option maxRecDepth 100000 in
set_option maxHeartbeats 4000000 in
theorem jX8_codes_L57 {κ : Cx} {fin : Unit → Mm → Prop} (hc : Jc κ RX8 cX8_codes 7 2 0 0 44) (he : Ed κ cX8_codes 0 0 wV .return_ fin) {k9 : Nat → Int32 → Int32 → Mm → Option (Unit × Mm)} (hk9 : ∀ (x0 : Nat) (x1 : Int32) (x2 : Int32), Jg κ (wM κ) 7 fin 0 0 9 [some ((8, .ref x0) : TV), some ((0, .int x1) : TV), some ((0, .int x2) : TV), none, none, none, none] [] (k9 x0 x1 x2)) (x0 : Nat) (x1 : Int32) (x2 : Int32) (x3 : Int32) (x4 : Int32) (s0 : Int32) : Jg κ (wM κ) 7 fin 0 0 57 [some ((8, .ref x0) : TV), some ((0, .int x1) : TV), some ((0, .int x2) : TV), some ((0, .int x3) : TV), some ((0, .int x4) : TV), none, none] [((0, .int s0) : TV)] (fX8_codes_L57 k9 x0 x1 x2 x3 x4 s0) := by
  unfold fX8_codes_L57
  refine J_istore (pc := 57) (l' := [some ((8, .ref x0) : TV), some ((0, .int x1) : TV), some ((0, .int x2) : TV), some ((0, .int x3) : TV), some ((0, .int x4) : TV), some ((0, .int s0) : TV), none]) hc dX8_codes_57 (by decide) rfl rfl ?_
  refine J_iload (pc := 59) hc dX8_codes_59 rfl ?_
  refine J_iload_n (pc := 61) hc dX8_codes_61 rfl rfl ?_
  refine J_icmp_ge (pc := 62) (tgt := 80) hc dX8_codes_62 (by decide) ?_ ?_
  · refine J_iload_n (pc := 80) hc dX8_codes_80 rfl rfl ?_
    refine J_iload (pc := 81) hc dX8_codes_81 rfl ?_
    refine J_isub (pc := 83) hc dX8_codes_83 ?_
    refine J_bipush (pc := 84) (v := (-3)) hc dX8_codes_84 (by decide) ?_
    refine J_iconst (pc := 86) (v := 3) hc dX8_codes_86 (by decide) ?_
    refine J_callSi (pc := 87) hc (As := [((0, .int (x3 - x4)) : TV), ((0, .int (-3)) : TV), ((0, .int 3) : TV)]) (KX8_in (x3 - x4) (-3) 3) dX8_codes_87 moX8_in tw1298 tw1299 tw9 tw1300 rfl (Nat.le_of_ble_eq_true rfl) (Nat.le_of_ble_eq_true rfl) (Nat.le_of_ble_eq_true rfl) (Nat.le_of_ble_eq_true rfl) (Nat.le_of_ble_eq_true rfl) rfl (fun v2 => ?_)
    refine J_if_eq (pc := 90) (tgt := 113) hc dX8_codes_90 (by decide) ?_ ?_
    · refine J_iload_n (pc := 113) hc dX8_codes_113 rfl rfl ?_
      refine J_aload_n (pc := 114) hc dX8_codes_114 rfl rfl ?_
      refine J_getI (pc := 115) hc clX8 (k := 9) (Nat.le_of_ble_eq_true rfl) rfl tw1171 rfl dX8_codes_115 (fun v3 => ?_)
      refine J_icmp_ne (pc := 118) (tgt := 128) hc dX8_codes_118 (by decide) ?_ ?_
      · refine J_aload_n (pc := 128) hc dX8_codes_128 rfl rfl ?_
        refine J_iload_n (pc := 129) hc dX8_codes_129 rfl rfl ?_
        refine J_iload_n (pc := 130) hc dX8_codes_130 rfl rfl ?_
        refine J_callVi (pc := 131) hc clX8 (As := [((0, .int x3) : TV), ((0, .int x2) : TV)]) (KX8_dotBehind x0 x3 x2) dX8_codes_131 moX8_dotBehind rfl tw1344 tw1346 twp57 tw9 tw1347 rfl (Nat.le_of_ble_eq_true rfl) (Nat.le_of_ble_eq_true rfl) (Nat.le_of_ble_eq_true rfl) (Nat.le_of_ble_eq_true rfl) (Nat.le_of_ble_eq_true rfl) rfl (fun v4 => ?_)
        refine J_sub (l' := [some ((8, .ref x0) : TV), some ((0, .int x1) : TV), some ((0, .int x2) : TV), some ((0, .int x3) : TV), none, none, none]) ⟨rfl, ⟨rfl, ⟨rfl, ⟨rfl, trivial⟩⟩⟩⟩ ?_
        exact jX8_codes_L134 hc he hk9 x0 x1 x2 x3 v4
      · refine J_aload_n (pc := 121) hc dX8_codes_121 rfl rfl ?_
        refine J_getI (pc := 122) hc clX8 (k := 9) (Nat.le_of_ble_eq_true rfl) rfl tw1171 rfl dX8_codes_122 (fun v5 => ?_)
        refine J_goto (pc := 125) (tgt := 134) hc dX8_codes_125 (by decide) ?_
        refine J_sub (l' := [some ((8, .ref x0) : TV), some ((0, .int x1) : TV), some ((0, .int x2) : TV), some ((0, .int x3) : TV), none, none, none]) ⟨rfl, ⟨rfl, ⟨rfl, ⟨rfl, trivial⟩⟩⟩⟩ ?_
        exact jX8_codes_L134 hc he hk9 x0 x1 x2 x3 v5
    · refine J_aload_n (pc := 93) hc dX8_codes_93 rfl rfl ?_
      refine J_iconst (pc := 94) (v := 1) hc dX8_codes_94 (by decide) ?_
      refine J_iload_n (pc := 95) hc dX8_codes_95 rfl rfl ?_
      refine J_iload (pc := 96) hc dX8_codes_96 rfl ?_
      refine J_isub (pc := 98) hc dX8_codes_98 ?_
      refine J_iconst (pc := 99) (v := 0) hc dX8_codes_99 (by decide) ?_
      refine J_iload_n (pc := 100) hc dX8_codes_100 rfl rfl ?_
      refine J_callVv (pc := 101) hc clX8 (As := [((0, .int 1) : TV), ((0, .int (x3 - x4)) : TV), ((0, .int 0) : TV), ((0, .int x3) : TV)]) (KX8_adds x0 1 (x3 - x4) 0 x3) dX8_codes_101 moX8_adds rfl tw1356 tw1358 twp60 tw9 tw1359 rfl (Nat.le_of_ble_eq_true rfl) (Nat.le_of_ble_eq_true rfl) (Nat.le_of_ble_eq_true rfl) (Nat.le_of_ble_eq_true rfl) (Nat.le_of_ble_eq_true rfl) rfl (fun _ => ?_)
      refine J_iload_n (pc := 104) hc dX8_codes_104 rfl rfl ?_
      refine J_istore_n (pc := 105) (l' := [some ((8, .ref x0) : TV), some ((0, .int x3) : TV), some ((0, .int x2) : TV), some ((0, .int x3) : TV), some ((0, .int x4) : TV), some ((0, .int s0) : TV), none]) hc dX8_codes_105 rfl (by decide) rfl rfl ?_
      refine J_iconst (pc := 106) (v := 1) hc dX8_codes_106 (by decide) ?_
      refine J_iload_n (pc := 107) hc dX8_codes_107 rfl rfl ?_
      refine J_isub (pc := 108) hc dX8_codes_108 ?_
      refine J_nmi (fun v6 => ?_)
      refine J_istore_n (pc := 109) (l' := [some ((8, .ref x0) : TV), some ((0, .int x3) : TV), some ((0, .int v6) : TV), some ((0, .int x3) : TV), some ((0, .int x4) : TV), some ((0, .int s0) : TV), none]) hc dX8_codes_109 rfl (by decide) rfl rfl ?_
      refine J_goto (pc := 110) (tgt := 156) hc dX8_codes_110 (by decide) ?_
      refine J_sub (l' := [some ((8, .ref x0) : TV), some ((0, .int x3) : TV), some ((0, .int v6) : TV), none, none, none, none]) ⟨rfl, ⟨rfl, ⟨rfl, trivial⟩⟩⟩ ?_
      exact jX8_codes_L156 hc he hk9 x0 x3 v6
  · refine J_aload_n (pc := 65) hc dX8_codes_65 rfl rfl ?_
    refine J_iconst (pc := 66) (v := 0) hc dX8_codes_66 (by decide) ?_
    refine J_iconst (pc := 67) (v := 0) hc dX8_codes_67 (by decide) ?_
    refine J_iconst (pc := 68) (v := 0) hc dX8_codes_68 (by decide) ?_
    refine J_iload (pc := 69) hc dX8_codes_69 rfl ?_
    refine J_callVv (pc := 71) hc clX8 (As := [((0, .int 0) : TV), ((0, .int 0) : TV), ((0, .int 0) : TV), ((0, .int s0) : TV)]) (KX8_adds x0 0 0 0 s0) dX8_codes_71 moX8_adds rfl tw1356 tw1358 twp60 tw9 tw1359 rfl (Nat.le_of_ble_eq_true rfl) (Nat.le_of_ble_eq_true rfl) (Nat.le_of_ble_eq_true rfl) (Nat.le_of_ble_eq_true rfl) (Nat.le_of_ble_eq_true rfl) rfl (fun _ => ?_)
    refine J_iload (pc := 74) hc dX8_codes_74 rfl ?_
    refine J_istore_n (pc := 76) (l' := [some ((8, .ref x0) : TV), some ((0, .int s0) : TV), some ((0, .int x2) : TV), some ((0, .int x3) : TV), some ((0, .int x4) : TV), some ((0, .int s0) : TV), none]) hc dX8_codes_76 rfl (by decide) rfl rfl ?_
    refine J_goto (pc := 77) (tgt := 156) hc dX8_codes_77 (by decide) ?_
    refine J_sub (l' := [some ((8, .ref x0) : TV), some ((0, .int s0) : TV), some ((0, .int x2) : TV), none, none, none, none]) ⟨rfl, ⟨rfl, ⟨rfl, trivial⟩⟩⟩ ?_
    exact jX8_codes_L156 hc he hk9 x0 s0 x2
set_option maxRecDepth 100000 in
set_option maxHeartbeats 4000000 in
theorem jX8_codes_L9 {κ : Cx} {fin : Unit → Mm → Prop} (hc : Jc κ RX8 cX8_codes 7 2 0 0 44) (he : Ed κ cX8_codes 0 0 wV .return_ fin) : ∀ (n : Nat) (x0 : Nat) (x1 : Int32) (x2 : Int32), Jg κ (wM κ) 7 fin 0 0 9 [some ((8, .ref x0) : TV), some ((0, .int x1) : TV), some ((0, .int x2) : TV), none, none, none, none] [] (fX8_codes_L9 n x0 x1 x2) := by
  intro n
  induction n with
  | zero => intro x0 x1 x2; exact J_fail
  | succ n ih =>
    intro x0 x1 x2
    unfold fX8_codes_L9
    refine J_iload_n (pc := 9) hc dX8_codes_9 rfl rfl ?_
    refine J_aload_n (pc := 10) hc dX8_codes_10 rfl rfl ?_
    refine J_getI (pc := 11) hc clX8 (k := 9) (Nat.le_of_ble_eq_true rfl) rfl tw1171 rfl dX8_codes_11 (fun v7 => ?_)
    refine J_icmp_eq (pc := 14) (tgt := 159) hc dX8_codes_14 (by decide) ?_ ?_
    · exact J_vret (pc := 159) he dX8_codes_159
    · refine J_aload_n (pc := 17) hc dX8_codes_17 rfl rfl ?_
      refine J_iload_n (pc := 18) hc dX8_codes_18 rfl rfl ?_
      refine J_iconst (pc := 19) (v := 1) hc dX8_codes_19 (by decide) ?_
      refine J_iload_n (pc := 20) hc dX8_codes_20 rfl rfl ?_
      refine J_isub (pc := 21) hc dX8_codes_21 ?_
      refine J_callVi (pc := 22) hc clX8 (As := [((0, .int x1) : TV), ((0, .int (1 - x2)) : TV)]) (KX8_dotBehind x0 x1 (1 - x2)) dX8_codes_22 moX8_dotBehind rfl tw1344 tw1346 twp57 tw9 tw1347 rfl (Nat.le_of_ble_eq_true rfl) (Nat.le_of_ble_eq_true rfl) (Nat.le_of_ble_eq_true rfl) (Nat.le_of_ble_eq_true rfl) (Nat.le_of_ble_eq_true rfl) rfl (fun v8 => ?_)
      refine J_istore_n (pc := 25) (l' := [some ((8, .ref x0) : TV), some ((0, .int x1) : TV), some ((0, .int x2) : TV), some ((0, .int v8) : TV), none, none, none]) hc dX8_codes_25 rfl (by decide) rfl rfl ?_
      refine J_aload_n (pc := 26) hc dX8_codes_26 rfl rfl ?_
      refine J_iload_n (pc := 27) hc dX8_codes_27 rfl rfl ?_
      refine J_iload_n (pc := 28) hc dX8_codes_28 rfl rfl ?_
      refine J_callVi (pc := 29) hc clX8 (As := [((0, .int x1) : TV), ((0, .int x2) : TV)]) (KX8_changeBehind x0 x1 x2) dX8_codes_29 moX8_changeBehind rfl tw1348 tw1350 twp58 tw9 tw1351 rfl (Nat.le_of_ble_eq_true rfl) (Nat.le_of_ble_eq_true rfl) (Nat.le_of_ble_eq_true rfl) (Nat.le_of_ble_eq_true rfl) (Nat.le_of_ble_eq_true rfl) rfl (fun v9 => ?_)
      refine J_istore (pc := 32) (l' := [some ((8, .ref x0) : TV), some ((0, .int x1) : TV), some ((0, .int x2) : TV), some ((0, .int v8) : TV), some ((0, .int v9) : TV), none, none]) hc dX8_codes_32 (by decide) rfl rfl ?_
      refine J_iload (pc := 34) hc dX8_codes_34 rfl ?_
      refine J_aload_n (pc := 36) hc dX8_codes_36 rfl rfl ?_
      refine J_getI (pc := 37) hc clX8 (k := 9) (Nat.le_of_ble_eq_true rfl) rfl tw1171 rfl dX8_codes_37 (fun v10 => ?_)
      refine J_icmp_ne (pc := 40) (tgt := 50) hc dX8_codes_40 (by decide) ?_ ?_
      · refine J_aload_n (pc := 50) hc dX8_codes_50 rfl rfl ?_
        refine J_iload (pc := 51) hc dX8_codes_51 rfl ?_
        refine J_iconst (pc := 53) (v := 2) hc dX8_codes_53 (by decide) ?_
        refine J_callVi (pc := 54) hc clX8 (As := [((0, .int v9) : TV), ((0, .int 2) : TV)]) (KX8_changeBehind x0 v9 2) dX8_codes_54 moX8_changeBehind rfl tw1348 tw1350 twp58 tw9 tw1351 rfl (Nat.le_of_ble_eq_true rfl) (Nat.le_of_ble_eq_true rfl) (Nat.le_of_ble_eq_true rfl) (Nat.le_of_ble_eq_true rfl) (Nat.le_of_ble_eq_true rfl) rfl (fun v11 => ?_)
        refine J_sub (l' := [some ((8, .ref x0) : TV), some ((0, .int x1) : TV), some ((0, .int x2) : TV), some ((0, .int v8) : TV), some ((0, .int v9) : TV), none, none]) ⟨rfl, ⟨rfl, ⟨rfl, ⟨rfl, ⟨rfl, trivial⟩⟩⟩⟩⟩ ?_
        exact jX8_codes_L57 hc he ih x0 x1 x2 v8 v9 v11
      · refine J_aload_n (pc := 43) hc dX8_codes_43 rfl rfl ?_
        refine J_getI (pc := 44) hc clX8 (k := 9) (Nat.le_of_ble_eq_true rfl) rfl tw1171 rfl dX8_codes_44 (fun v12 => ?_)
        refine J_goto (pc := 47) (tgt := 57) hc dX8_codes_47 (by decide) ?_
        refine J_sub (l' := [some ((8, .ref x0) : TV), some ((0, .int x1) : TV), some ((0, .int x2) : TV), some ((0, .int v8) : TV), some ((0, .int v9) : TV), none, none]) ⟨rfl, ⟨rfl, ⟨rfl, ⟨rfl, ⟨rfl, trivial⟩⟩⟩⟩⟩ ?_
        exact jX8_codes_L57 hc he ih x0 x1 x2 v8 v9 v12
set_option maxRecDepth 100000 in
set_option maxHeartbeats 4000000 in
theorem jX8_codes {κ : Cx} {fin : Unit → Mm → Prop} (hc : Jc κ RX8 cX8_codes 7 2 0 0 44) (he : Ed κ cX8_codes 0 0 wV .return_ fin) (x0 : Nat) : Jg κ (wM κ) 7 fin 0 0 0 [some ((8, .ref x0) : TV), none, none, none, none, none, none] [] (fX8_codes x0) := by
  unfold fX8_codes
  refine J_aload_n (pc := 0) hc dX8_codes_0 rfl rfl ?_
  refine J_iconst (pc := 1) (v := 0) hc dX8_codes_1 (by decide) ?_
  refine J_putI (pc := 2) hc clX8 (k := 14) (Nat.le_of_ble_eq_true rfl) rfl rfl tw1176 rfl rfl dX8_codes_2 ?_
  refine J_iconst (pc := 5) (v := (-1)) hc dX8_codes_5 (by decide) ?_
  refine J_istore_n (pc := 6) (l' := [some ((8, .ref x0) : TV), some ((0, .int (-1)) : TV), none, none, none, none, none]) hc dX8_codes_6 rfl (by decide) rfl rfl ?_
  refine J_iconst (pc := 7) (v := 0) hc dX8_codes_7 (by decide) ?_
  refine J_istore_n (pc := 8) (l' := [some ((8, .ref x0) : TV), some ((0, .int (-1)) : TV), some ((0, .int 0) : TV), none, none, none, none]) hc dX8_codes_8 rfl (by decide) rfl rfl ?_
  refine J_sub (l' := [some ((8, .ref x0) : TV), some ((0, .int (-1)) : TV), some ((0, .int 0) : TV), none, none, none, none]) ⟨rfl, ⟨rfl, ⟨rfl, trivial⟩⟩⟩ ?_
  exact jX8_codes_L9 hc he fu x0 (-1) 0
theorem moX8_codes : MOk yX8_codes 0 := ⟨by decide +kernel, by decide +kernel, by decide +kernel⟩
set_option maxRecDepth 100000 in
set_option maxHeartbeats 4000000 in
theorem KX8_codes (x0 : Nat) : Ct wV yX8_codes cX8_codes 7 none 2 0 0 44 [((8, .ref x0) : TV)] (fX8_codes x0) :=
  Ct_V (j := 6) (by decide +kernel) rfl rfl (Nat.le_of_ble_eq_true rfl) (fun κ fin hc he hin => jX8_codes hc he x0)
set_option maxRecDepth 100000 in
set_option maxHeartbeats 4000000 in
theorem jX8_numberBits {κ : Cx} {fin : Int32 → Mm → Prop} (hc : Jc κ RX8 cX8_numberBits 1 0 0 0 0) (he : Ed κ cX8_numberBits 0 0 wI .ireturn fin) (x0 : Int32) : Jg κ (wM κ) 1 fin 0 0 0 [some ((0, .int x0) : TV)] [] (fX8_numberBits x0) := by
  unfold fX8_numberBits
  refine J_iload_n (pc := 0) hc dX8_numberBits_0 rfl rfl ?_
  refine J_bipush (pc := 1) (v := 8) hc dX8_numberBits_1 (by decide) ?_
  refine J_icmp_ge (pc := 3) (tgt := 10) hc dX8_numberBits_3 (by decide) ?_ ?_
  · refine J_bipush (pc := 10) (v := 8) hc dX8_numberBits_10 (by decide) ?_
    exact J_iret (pc := 12) he dX8_numberBits_12
  · refine J_iconst (pc := 6) (v := 4) hc dX8_numberBits_6 (by decide) ?_
    refine J_goto (pc := 7) (tgt := 12) hc dX8_numberBits_7 (by decide) ?_
    exact J_iret (pc := 12) he dX8_numberBits_12
theorem moX8_numberBits : MOk yX8_numberBits 1 := ⟨by decide +kernel, by decide +kernel, by decide +kernel⟩
set_option maxRecDepth 100000 in
set_option maxHeartbeats 4000000 in
theorem KX8_numberBits (x0 : Int32) : Ct wI yX8_numberBits cX8_numberBits 1 (some .int) 0 0 0 0 [((0, .int x0) : TV)] (fX8_numberBits x0) :=
  Ct_I (j := 0) (by decide +kernel) rfl rfl (Nat.le_of_ble_eq_true rfl) (fun κ fin hc he => jX8_numberBits hc he x0)
set_option maxRecDepth 100000 in
set_option maxHeartbeats 4000000 in
theorem jX8_codeBits_L115 {κ : Cx} {fin : Int32 → Mm → Prop} (hc : Jc κ RX8 cX8_codeBits 4 1 0 0 20) (he : Ed κ cX8_codeBits 0 0 wI .ireturn fin) {k4 : Nat → Int32 → Int32 → Mm → Option (Int32 × Mm)} (hk4 : ∀ (x0 : Nat) (x1 : Int32) (x2 : Int32), Jg κ (wM κ) 4 fin 0 0 4 [some ((8, .ref x0) : TV), some ((0, .int x1) : TV), some ((0, .int x2) : TV), none] [] (k4 x0 x1 x2)) (x0 : Nat) (x2 : Int32) (s0 : Int32) (s1 : Int32) : Jg κ (wM κ) 4 fin 0 0 115 [some ((8, .ref x0) : TV), none, some ((0, .int x2) : TV), none] [((0, .int s0) : TV), ((0, .int s1) : TV)] (fX8_codeBits_L115 k4 x0 x2 s0 s1) := by
  unfold fX8_codeBits_L115
  refine J_iadd (pc := 115) hc dX8_codeBits_115 ?_
  refine J_nmi (fun v1 => ?_)
  refine J_istore_n (pc := 116) (l' := [some ((8, .ref x0) : TV), some ((0, .int v1) : TV), some ((0, .int x2) : TV), none]) hc dX8_codeBits_116 rfl (by decide) rfl rfl ?_
  refine J_iinc (pc := 117) (v := x2 + 1) (l' := [some ((8, .ref x0) : TV), some ((0, .int v1) : TV), some ((0, .int (x2 + 1)) : TV), none]) hc dX8_codeBits_117 rfl rfl (by decide) rfl rfl ?_
  refine J_goto (pc := 120) (tgt := 4) hc dX8_codeBits_120 (by decide) ?_
  refine J_sub (l' := [some ((8, .ref x0) : TV), some ((0, .int v1) : TV), some ((0, .int (x2 + 1)) : TV), none]) ⟨rfl, ⟨rfl, ⟨rfl, trivial⟩⟩⟩ ?_
  exact hk4 x0 v1 (x2 + 1)
set_option maxRecDepth 100000 in
set_option maxHeartbeats 4000000 in
theorem jX8_codeBits_L37 {κ : Cx} {fin : Int32 → Mm → Prop} (hc : Jc κ RX8 cX8_codeBits 4 1 0 0 20) (he : Ed κ cX8_codeBits 0 0 wI .ireturn fin) {k4 : Nat → Int32 → Int32 → Mm → Option (Int32 × Mm)} (hk4 : ∀ (x0 : Nat) (x1 : Int32) (x2 : Int32), Jg κ (wM κ) 4 fin 0 0 4 [some ((8, .ref x0) : TV), some ((0, .int x1) : TV), some ((0, .int x2) : TV), none] [] (k4 x0 x1 x2)) (x0 : Nat) (x1 : Int32) (x2 : Int32) (s0 : Int32) : Jg κ (wM κ) 4 fin 0 0 37 [some ((8, .ref x0) : TV), some ((0, .int x1) : TV), some ((0, .int x2) : TV), none] [((0, .int s0) : TV)] (fX8_codeBits_L37 k4 x0 x1 x2 s0) := by
  unfold fX8_codeBits_L37
  refine J_istore_n (pc := 37) (l' := [some ((8, .ref x0) : TV), some ((0, .int x1) : TV), some ((0, .int x2) : TV), some ((0, .int s0) : TV)]) hc dX8_codeBits_37 rfl (by decide) rfl rfl ?_
  refine J_iload_n (pc := 38) hc dX8_codeBits_38 rfl rfl ?_
  refine J_aload_n (pc := 39) hc dX8_codeBits_39 rfl rfl ?_
  refine J_getA (pc := 40) hc clX8 (k := 10) (kd := 11) (Nat.le_of_ble_eq_true rfl) rfl (Nat.le_of_ble_eq_true rfl) (Nat.le_of_ble_eq_true rfl) tw1172 rfl dX8_codeBits_40 (fun v2 => ?_)
  refine J_iload_n (pc := 43) hc dX8_codeBits_43 rfl rfl ?_
  refine J_iald (pc := 44) hc dX8_codeBits_44 (fun v3 => ?_)
  refine J_if_ne (pc := 45) (tgt := 52) hc dX8_codeBits_45 (by decide) ?_ ?_
  · refine J_aload_n (pc := 52) hc dX8_codeBits_52 rfl rfl ?_
    refine J_getA (pc := 53) hc clX8 (k := 10) (kd := 11) (Nat.le_of_ble_eq_true rfl) rfl (Nat.le_of_ble_eq_true rfl) (Nat.le_of_ble_eq_true rfl) tw1172 rfl dX8_codeBits_53 (fun v4 => ?_)
    refine J_iload_n (pc := 56) hc dX8_codeBits_56 rfl rfl ?_
    refine J_iald (pc := 57) hc dX8_codeBits_57 (fun v5 => ?_)
    refine J_iconst (pc := 58) (v := 2) hc dX8_codeBits_58 (by decide) ?_
    refine J_icmp_ne (pc := 59) (tgt := 86) hc dX8_codeBits_59 (by decide) ?_ ?_
    · refine J_iload_n (pc := 86) hc dX8_codeBits_86 rfl rfl ?_
      refine J_if_ne (pc := 87) (tgt := 94) hc dX8_codeBits_87 (by decide) ?_ ?_
      · refine J_iload_n (pc := 94) hc dX8_codeBits_94 rfl rfl ?_
        refine J_iconst (pc := 95) (v := 1) hc dX8_codeBits_95 (by decide) ?_
        refine J_icmp_ne (pc := 96) (tgt := 103) hc dX8_codeBits_96 (by decide) ?_ ?_
        · refine J_iload_n (pc := 103) hc dX8_codeBits_103 rfl rfl ?_
          refine J_iconst (pc := 104) (v := 2) hc dX8_codeBits_104 (by decide) ?_
          refine J_icmp_ne (pc := 105) (tgt := 113) hc dX8_codeBits_105 (by decide) ?_ ?_
          · refine J_bipush (pc := 113) (v := 7) hc dX8_codeBits_113 (by decide) ?_
            refine J_sub (l' := [some ((8, .ref x0) : TV), none, some ((0, .int x2) : TV), none]) ⟨rfl, ⟨rfl, trivial⟩⟩ ?_
            exact jX8_codeBits_L115 hc he hk4 x0 x2 7 x1
          · refine J_bipush (pc := 108) (v := 6) hc dX8_codeBits_108 (by decide) ?_
            refine J_goto (pc := 110) (tgt := 115) hc dX8_codeBits_110 (by decide) ?_
            refine J_sub (l' := [some ((8, .ref x0) : TV), none, some ((0, .int x2) : TV), none]) ⟨rfl, ⟨rfl, trivial⟩⟩ ?_
            exact jX8_codeBits_L115 hc he hk4 x0 x2 6 x1
        · refine J_iconst (pc := 99) (v := 3) hc dX8_codeBits_99 (by decide) ?_
          refine J_goto (pc := 100) (tgt := 115) hc dX8_codeBits_100 (by decide) ?_
          refine J_sub (l' := [some ((8, .ref x0) : TV), none, some ((0, .int x2) : TV), none]) ⟨rfl, ⟨rfl, trivial⟩⟩ ?_
          exact jX8_codeBits_L115 hc he hk4 x0 x2 3 x1
      · refine J_iconst (pc := 90) (v := 1) hc dX8_codeBits_90 (by decide) ?_
        refine J_goto (pc := 91) (tgt := 115) hc dX8_codeBits_91 (by decide) ?_
        refine J_sub (l' := [some ((8, .ref x0) : TV), none, some ((0, .int x2) : TV), none]) ⟨rfl, ⟨rfl, trivial⟩⟩ ?_
        exact jX8_codeBits_L115 hc he hk4 x0 x2 1 x1
    · refine J_iconst (pc := 62) (v := 3) hc dX8_codeBits_62 (by decide) ?_
      refine J_aload_n (pc := 63) hc dX8_codeBits_63 rfl rfl ?_
      refine J_getA (pc := 64) hc clX8 (k := 11) (kd := 11) (Nat.le_of_ble_eq_true rfl) rfl (Nat.le_of_ble_eq_true rfl) (Nat.le_of_ble_eq_true rfl) tw1173 rfl dX8_codeBits_64 (fun v6 => ?_)
      refine J_iload_n (pc := 67) hc dX8_codeBits_67 rfl rfl ?_
      refine J_iald (pc := 68) hc dX8_codeBits_68 (fun v7 => ?_)
      refine J_callSi (pc := 69) hc (As := [((0, .int v7) : TV)]) (KX8_numberBits v7) dX8_codeBits_69 moX8_numberBits tw1371 tw1372 tw9 tw1373 rfl (Nat.le_of_ble_eq_true rfl) (Nat.le_of_ble_eq_true rfl) (Nat.le_of_ble_eq_true rfl) (Nat.le_of_ble_eq_true rfl) (Nat.le_of_ble_eq_true rfl) rfl (fun v8 => ?_)
      refine J_iadd (pc := 72) hc dX8_codeBits_72 ?_
      refine J_aload_n (pc := 73) hc dX8_codeBits_73 rfl rfl ?_
      refine J_getA (pc := 74) hc clX8 (k := 12) (kd := 11) (Nat.le_of_ble_eq_true rfl) rfl (Nat.le_of_ble_eq_true rfl) (Nat.le_of_ble_eq_true rfl) tw1174 rfl dX8_codeBits_74 (fun v9 => ?_)
      refine J_iload_n (pc := 77) hc dX8_codeBits_77 rfl rfl ?_
      refine J_iald (pc := 78) hc dX8_codeBits_78 (fun v10 => ?_)
      refine J_callSi (pc := 79) hc (As := [((0, .int v10) : TV)]) (KX8_numberBits v10) dX8_codeBits_79 moX8_numberBits tw1371 tw1372 tw9 tw1373 rfl (Nat.le_of_ble_eq_true rfl) (Nat.le_of_ble_eq_true rfl) (Nat.le_of_ble_eq_true rfl) (Nat.le_of_ble_eq_true rfl) (Nat.le_of_ble_eq_true rfl) rfl (fun v11 => ?_)
      refine J_iadd (pc := 82) hc dX8_codeBits_82 ?_
      refine J_goto (pc := 83) (tgt := 115) hc dX8_codeBits_83 (by decide) ?_
      refine J_sub (l' := [some ((8, .ref x0) : TV), none, some ((0, .int x2) : TV), none]) ⟨rfl, ⟨rfl, trivial⟩⟩ ?_
      exact jX8_codeBits_L115 hc he hk4 x0 x2 ((3 + v8) + v11) x1
  · refine J_iconst (pc := 48) (v := 4) hc dX8_codeBits_48 (by decide) ?_
    refine J_goto (pc := 49) (tgt := 115) hc dX8_codeBits_49 (by decide) ?_
    refine J_sub (l' := [some ((8, .ref x0) : TV), none, some ((0, .int x2) : TV), none]) ⟨rfl, ⟨rfl, trivial⟩⟩ ?_
    exact jX8_codeBits_L115 hc he hk4 x0 x2 4 x1
set_option maxRecDepth 100000 in
set_option maxHeartbeats 4000000 in
theorem jX8_codeBits_L4 {κ : Cx} {fin : Int32 → Mm → Prop} (hc : Jc κ RX8 cX8_codeBits 4 1 0 0 20) (he : Ed κ cX8_codeBits 0 0 wI .ireturn fin) : ∀ (n : Nat) (x0 : Nat) (x1 : Int32) (x2 : Int32), Jg κ (wM κ) 4 fin 0 0 4 [some ((8, .ref x0) : TV), some ((0, .int x1) : TV), some ((0, .int x2) : TV), none] [] (fX8_codeBits_L4 n x0 x1 x2) := by
  intro n
  induction n with
  | zero => intro x0 x1 x2; exact J_fail
  | succ n ih =>
    intro x0 x1 x2
    unfold fX8_codeBits_L4
    refine J_iload_n (pc := 4) hc dX8_codeBits_4 rfl rfl ?_
    refine J_aload_n (pc := 5) hc dX8_codeBits_5 rfl rfl ?_
    refine J_getI (pc := 6) hc clX8 (k := 14) (Nat.le_of_ble_eq_true rfl) rfl tw1176 rfl dX8_codeBits_6 (fun v12 => ?_)
    refine J_icmp_ge (pc := 9) (tgt := 123) hc dX8_codeBits_9 (by decide) ?_ ?_
    · refine J_iload_n (pc := 123) hc dX8_codeBits_123 rfl rfl ?_
      exact J_iret (pc := 124) he dX8_codeBits_124
    · refine J_aload_n (pc := 12) hc dX8_codeBits_12 rfl rfl ?_
      refine J_getA (pc := 13) hc clX8 (k := 11) (kd := 11) (Nat.le_of_ble_eq_true rfl) rfl (Nat.le_of_ble_eq_true rfl) (Nat.le_of_ble_eq_true rfl) tw1173 rfl dX8_codeBits_13 (fun v13 => ?_)
      refine J_iload_n (pc := 16) hc dX8_codeBits_16 rfl rfl ?_
      refine J_iald (pc := 17) hc dX8_codeBits_17 (fun v14 => ?_)
      refine J_if_ge (pc := 18) (tgt := 31) hc dX8_codeBits_18 (by decide) ?_ ?_
      · refine J_aload_n (pc := 31) hc dX8_codeBits_31 rfl rfl ?_
        refine J_getA (pc := 32) hc clX8 (k := 11) (kd := 11) (Nat.le_of_ble_eq_true rfl) rfl (Nat.le_of_ble_eq_true rfl) (Nat.le_of_ble_eq_true rfl) tw1173 rfl dX8_codeBits_32 (fun v15 => ?_)
        refine J_iload_n (pc := 35) hc dX8_codeBits_35 rfl rfl ?_
        refine J_iald (pc := 36) hc dX8_codeBits_36 (fun v16 => ?_)
        refine J_sub (l' := [some ((8, .ref x0) : TV), some ((0, .int x1) : TV), some ((0, .int x2) : TV), none]) ⟨rfl, ⟨rfl, ⟨rfl, trivial⟩⟩⟩ ?_
        exact jX8_codeBits_L37 hc he ih x0 x1 x2 v16
      · refine J_aload_n (pc := 21) hc dX8_codeBits_21 rfl rfl ?_
        refine J_getA (pc := 22) hc clX8 (k := 11) (kd := 11) (Nat.le_of_ble_eq_true rfl) rfl (Nat.le_of_ble_eq_true rfl) (Nat.le_of_ble_eq_true rfl) tw1173 rfl dX8_codeBits_22 (fun v17 => ?_)
        refine J_iload_n (pc := 25) hc dX8_codeBits_25 rfl rfl ?_
        refine J_iald (pc := 26) hc dX8_codeBits_26 (fun v18 => ?_)
        refine J_ineg (pc := 27) hc dX8_codeBits_27 ?_
        refine J_goto (pc := 28) (tgt := 37) hc dX8_codeBits_28 (by decide) ?_
        refine J_sub (l' := [some ((8, .ref x0) : TV), some ((0, .int x1) : TV), some ((0, .int x2) : TV), none]) ⟨rfl, ⟨rfl, ⟨rfl, trivial⟩⟩⟩ ?_
        exact jX8_codeBits_L37 hc he ih x0 x1 x2 (-v18)
set_option maxRecDepth 100000 in
set_option maxHeartbeats 4000000 in
theorem jX8_codeBits {κ : Cx} {fin : Int32 → Mm → Prop} (hc : Jc κ RX8 cX8_codeBits 4 1 0 0 20) (he : Ed κ cX8_codeBits 0 0 wI .ireturn fin) (x0 : Nat) : Jg κ (wM κ) 4 fin 0 0 0 [some ((8, .ref x0) : TV), none, none, none] [] (fX8_codeBits x0) := by
  unfold fX8_codeBits
  refine J_iconst (pc := 0) (v := 0) hc dX8_codeBits_0 (by decide) ?_
  refine J_istore_n (pc := 1) (l' := [some ((8, .ref x0) : TV), some ((0, .int 0) : TV), none, none]) hc dX8_codeBits_1 rfl (by decide) rfl rfl ?_
  refine J_iconst (pc := 2) (v := 0) hc dX8_codeBits_2 (by decide) ?_
  refine J_istore_n (pc := 3) (l' := [some ((8, .ref x0) : TV), some ((0, .int 0) : TV), some ((0, .int 0) : TV), none]) hc dX8_codeBits_3 rfl (by decide) rfl rfl ?_
  refine J_sub (l' := [some ((8, .ref x0) : TV), some ((0, .int 0) : TV), some ((0, .int 0) : TV), none]) ⟨rfl, ⟨rfl, ⟨rfl, trivial⟩⟩⟩ ?_
  exact jX8_codeBits_L4 hc he fu x0 0 0
theorem moX8_codeBits : MOk yX8_codeBits 0 := ⟨by decide +kernel, by decide +kernel, by decide +kernel⟩
set_option maxRecDepth 100000 in
set_option maxHeartbeats 4000000 in
theorem KX8_codeBits (x0 : Nat) : Ct wI yX8_codeBits cX8_codeBits 4 (some .int) 1 0 0 20 [((8, .ref x0) : TV)] (fX8_codeBits x0) :=
  Ct_I (j := 3) (by decide +kernel) rfl rfl (Nat.le_of_ble_eq_true rfl) (fun κ fin hc he => jX8_codeBits hc he x0)
set_option maxRecDepth 100000 in
set_option maxHeartbeats 4000000 in
theorem jX8_startsReading_L12 {κ : Cx} {fin : Unit → Mm → Prop} (hc : Jc κ RX8 cX8_startsReading 2 0 0 0 0) (he : Ed κ cX8_startsReading 0 0 wV .return_ fin) : ∀ (n : Nat) (x0 : Nat) (x1 : Int32), Jg κ (wM κ) 2 fin 0 0 12 [some ((8, .ref x0) : TV), some ((0, .int x1) : TV)] [] (fX8_startsReading_L12 n x0 x1) := by
  intro n
  induction n with
  | zero => intro x0 x1; exact J_fail
  | succ n ih =>
    intro x0 x1
    unfold fX8_startsReading_L12
    refine J_iload_n (pc := 12) hc dX8_startsReading_12 rfl rfl ?_
    refine J_bipush (pc := 13) (v := 40) hc dX8_startsReading_13 (by decide) ?_
    refine J_icmp_ge (pc := 15) (tgt := 31) hc dX8_startsReading_15 (by decide) ?_ ?_
    · exact J_vret (pc := 31) he dX8_startsReading_31
    · refine J_aload_n (pc := 18) hc dX8_startsReading_18 rfl rfl ?_
      refine J_getA (pc := 19) hc clX8 (k := 15) (kd := 11) (Nat.le_of_ble_eq_true rfl) rfl (Nat.le_of_ble_eq_true rfl) (Nat.le_of_ble_eq_true rfl) tw1177 rfl dX8_startsReading_19 (fun v1 => ?_)
      refine J_iload_n (pc := 22) hc dX8_startsReading_22 rfl rfl ?_
      refine J_iconst (pc := 23) (v := 0) hc dX8_startsReading_23 (by decide) ?_
      refine J_iast (pc := 24) hc dX8_startsReading_24 ?_
      refine J_iinc (pc := 25) (v := x1 + 1) (l' := [some ((8, .ref x0) : TV), some ((0, .int (x1 + 1)) : TV)]) hc dX8_startsReading_25 rfl rfl (by decide) rfl rfl ?_
      refine J_goto (pc := 28) (tgt := 12) hc dX8_startsReading_28 (by decide) ?_
      refine J_sub (l' := [some ((8, .ref x0) : TV), some ((0, .int (x1 + 1)) : TV)]) ⟨rfl, ⟨rfl, trivial⟩⟩ ?_
      exact ih x0 (x1 + 1)
set_option maxRecDepth 100000 in
set_option maxHeartbeats 4000000 in
theorem jX8_startsReading {κ : Cx} {fin : Unit → Mm → Prop} (hc : Jc κ RX8 cX8_startsReading 2 0 0 0 0) (he : Ed κ cX8_startsReading 0 0 wV .return_ fin) (x0 : Nat) : Jg κ (wM κ) 2 fin 0 0 0 [some ((8, .ref x0) : TV), none] [] (fX8_startsReading x0) := by
  unfold fX8_startsReading
  refine J_aload_n (pc := 0) hc dX8_startsReading_0 rfl rfl ?_
  refine J_iconst (pc := 1) (v := (-1)) hc dX8_startsReading_1 (by decide) ?_
  refine J_putI (pc := 2) hc clX8 (k := 16) (Nat.le_of_ble_eq_true rfl) rfl rfl tw1178 rfl rfl dX8_startsReading_2 ?_
  refine J_aload_n (pc := 5) hc dX8_startsReading_5 rfl rfl ?_
  refine J_iconst (pc := 6) (v := 0) hc dX8_startsReading_6 (by decide) ?_
  refine J_putI (pc := 7) hc clX8 (k := 17) (Nat.le_of_ble_eq_true rfl) rfl rfl tw1179 rfl rfl dX8_startsReading_7 ?_
  refine J_iconst (pc := 10) (v := 0) hc dX8_startsReading_10 (by decide) ?_
  refine J_istore_n (pc := 11) (l' := [some ((8, .ref x0) : TV), some ((0, .int 0) : TV)]) hc dX8_startsReading_11 rfl (by decide) rfl rfl ?_
  refine J_sub (l' := [some ((8, .ref x0) : TV), some ((0, .int 0) : TV)]) ⟨rfl, ⟨rfl, trivial⟩⟩ ?_
  exact jX8_startsReading_L12 hc he fu x0 0
theorem moX8_startsReading : MOk yX8_startsReading 0 := ⟨by decide +kernel, by decide +kernel, by decide +kernel⟩
set_option maxRecDepth 100000 in
set_option maxHeartbeats 4000000 in
theorem KX8_startsReading (x0 : Nat) : Ct wV yX8_startsReading cX8_startsReading 2 none 0 0 0 0 [((8, .ref x0) : TV)] (fX8_startsReading x0) :=
  Ct_V (j := 1) (by decide +kernel) rfl rfl (Nat.le_of_ble_eq_true rfl) (fun κ fin hc he hin => jX8_startsReading hc he x0)
set_option maxRecDepth 100000 in
set_option maxHeartbeats 4000000 in
theorem jX8_paints_L3 {κ : Cx} {fin : Unit → Mm → Prop} (hc : Jc κ RX8 cX8_paints 5 0 0 0 0) (he : Ed κ cX8_paints 0 0 wV .return_ fin) : ∀ (n : Nat) (x0 : Nat) (x2 : Int32) (x3 : Int32) (x4 : Int32), Jg κ (wM κ) 5 fin 0 0 3 [some ((8, .ref x0) : TV), none, some ((0, .int x2) : TV), some ((0, .int x3) : TV), some ((0, .int x4) : TV)] [] (fX8_paints_L3 n x0 x2 x3 x4) := by
  intro n
  induction n with
  | zero => intro x0 x2 x3 x4; exact J_fail
  | succ n ih =>
    intro x0 x2 x3 x4
    unfold fX8_paints_L3
    refine J_iload (pc := 3) hc dX8_paints_3 rfl ?_
    refine J_iload_n (pc := 5) hc dX8_paints_5 rfl rfl ?_
    refine J_icmp_ge (pc := 6) (tgt := 23) hc dX8_paints_6 (by decide) ?_ ?_
    · exact J_vret (pc := 23) he dX8_paints_23
    · refine J_aload_n (pc := 9) hc dX8_paints_9 rfl rfl ?_
      refine J_getA (pc := 10) hc clX8 (k := 15) (kd := 11) (Nat.le_of_ble_eq_true rfl) rfl (Nat.le_of_ble_eq_true rfl) (Nat.le_of_ble_eq_true rfl) tw1177 rfl dX8_paints_10 (fun v1 => ?_)
      refine J_iload (pc := 13) hc dX8_paints_13 rfl ?_
      refine J_iload_n (pc := 15) hc dX8_paints_15 rfl rfl ?_
      refine J_iast (pc := 16) hc dX8_paints_16 ?_
      refine J_iinc (pc := 17) (v := x4 + 1) (l' := [some ((8, .ref x0) : TV), none, some ((0, .int x2) : TV), some ((0, .int x3) : TV), some ((0, .int (x4 + 1)) : TV)]) hc dX8_paints_17 rfl rfl (by decide) rfl rfl ?_
      refine J_goto (pc := 20) (tgt := 3) hc dX8_paints_20 (by decide) ?_
      refine J_sub (l' := [some ((8, .ref x0) : TV), none, some ((0, .int x2) : TV), some ((0, .int x3) : TV), some ((0, .int (x4 + 1)) : TV)]) ⟨rfl, ⟨rfl, ⟨rfl, ⟨rfl, trivial⟩⟩⟩⟩ ?_
      exact ih x0 x2 x3 (x4 + 1)
set_option maxRecDepth 100000 in
set_option maxHeartbeats 4000000 in
theorem jX8_paints {κ : Cx} {fin : Unit → Mm → Prop} (hc : Jc κ RX8 cX8_paints 5 0 0 0 0) (he : Ed κ cX8_paints 0 0 wV .return_ fin) (x0 : Nat) (x1 : Int32) (x2 : Int32) (x3 : Int32) : Jg κ (wM κ) 5 fin 0 0 0 [some ((8, .ref x0) : TV), some ((0, .int x1) : TV), some ((0, .int x2) : TV), some ((0, .int x3) : TV), none] [] (fX8_paints x0 x1 x2 x3) := by
  unfold fX8_paints
  refine J_iload_n (pc := 0) hc dX8_paints_0 rfl rfl ?_
  refine J_istore (pc := 1) (l' := [some ((8, .ref x0) : TV), some ((0, .int x1) : TV), some ((0, .int x2) : TV), some ((0, .int x3) : TV), some ((0, .int x1) : TV)]) hc dX8_paints_1 (by decide) rfl rfl ?_
  refine J_sub (l' := [some ((8, .ref x0) : TV), none, some ((0, .int x2) : TV), some ((0, .int x3) : TV), some ((0, .int x1) : TV)]) ⟨rfl, ⟨rfl, ⟨rfl, ⟨rfl, trivial⟩⟩⟩⟩ ?_
  exact jX8_paints_L3 hc he fu x0 x2 x3 x1
theorem moX8_paints : MOk yX8_paints 3 := ⟨by decide +kernel, by decide +kernel, by decide +kernel⟩
set_option maxRecDepth 100000 in
set_option maxHeartbeats 4000000 in
theorem KX8_paints (x0 : Nat) (x1 : Int32) (x2 : Int32) (x3 : Int32) : Ct wV yX8_paints cX8_paints 5 none 0 0 0 0 [((8, .ref x0) : TV), ((0, .int x1) : TV), ((0, .int x2) : TV), ((0, .int x3) : TV)] (fX8_paints x0 x1 x2 x3) :=
  Ct_V (j := 1) (by decide +kernel) rfl rfl (Nat.le_of_ble_eq_true rfl) (fun κ fin hc he hin => jX8_paints hc he x0 x1 x2 x3)
set_option maxRecDepth 100000 in
set_option maxHeartbeats 4000000 in
theorem jX8_readsMode_L190 {κ : Cx} {fin : Int32 → Mm → Prop} (hc : Jc κ RX8 cX8_readsMode 8 2 0 0 44) (he : EdZ κ cX8_readsMode 0 0 id fin) (s0 : Int32) (s1 : Nat) : Jg κ (wM κ) 8 fin 0 0 190 [none, none, none, none, none, none, none, none] [((0, .int s0) : TV), ((8, .ref s1) : TV)] (fX8_readsMode_L190 s0 s1) := by
  unfold fX8_readsMode_L190
  refine J_putI (pc := 190) hc clX8 (k := 17) (Nat.le_of_ble_eq_true rfl) rfl rfl tw1179 rfl rfl dX8_readsMode_190 ?_
  refine J_iconst (pc := 193) (v := 1) hc dX8_readsMode_193 (by decide) ?_
  exact J_zret (pc := 194) he dX8_readsMode_194
set_option maxRecDepth 100000 in
set_option maxHeartbeats 4000000 in
theorem jX8_readsMode_L117 {κ : Cx} {fin : Int32 → Mm → Prop} (hc : Jc κ RX8 cX8_readsMode 8 2 0 0 44) (he : EdZ κ cX8_readsMode 0 0 id fin) (x0 : Nat) (x1 : Int32) (x4 : Int32) (x6 : Int32) (s0 : Int32) : Jg κ (wM κ) 8 fin 0 0 117 [some ((8, .ref x0) : TV), some ((0, .int x1) : TV), none, none, some ((0, .int x4) : TV), none, some ((0, .int x6) : TV), none] [((0, .int s0) : TV)] (fX8_readsMode_L117 x0 x1 x4 x6 s0) := by
  unfold fX8_readsMode_L117
  refine J_istore (pc := 117) (l' := [some ((8, .ref x0) : TV), some ((0, .int x1) : TV), none, none, some ((0, .int x4) : TV), none, some ((0, .int x6) : TV), some ((0, .int s0) : TV)]) hc dX8_readsMode_117 (by decide) rfl rfl ?_
  refine J_iload (pc := 119) hc dX8_readsMode_119 rfl ?_
  refine J_aload_n (pc := 121) hc dX8_readsMode_121 rfl rfl ?_
  refine J_getI (pc := 122) hc clX8 (k := 16) (Nat.le_of_ble_eq_true rfl) rfl tw1178 rfl dX8_readsMode_122 (fun v1 => ?_)
  refine J_icmp_le (pc := 125) (tgt := 137) hc dX8_readsMode_125 (by decide) ?_ ?_
  · refine J_iconst (pc := 137) (v := 0) hc dX8_readsMode_137 (by decide) ?_
    exact J_zret (pc := 138) he dX8_readsMode_138
  · refine J_iload (pc := 128) hc dX8_readsMode_128 rfl ?_
    refine J_aload_n (pc := 130) hc dX8_readsMode_130 rfl rfl ?_
    refine J_getI (pc := 131) hc clX8 (k := 9) (Nat.le_of_ble_eq_true rfl) rfl tw1171 rfl dX8_readsMode_131 (fun v2 => ?_)
    refine J_icmp_le (pc := 134) (tgt := 139) hc dX8_readsMode_134 (by decide) ?_ ?_
    · refine J_aload_n (pc := 139) hc dX8_readsMode_139 rfl rfl ?_
      refine J_iload (pc := 140) hc dX8_readsMode_140 rfl ?_
      refine J_iload (pc := 142) hc dX8_readsMode_142 rfl ?_
      refine J_aload_n (pc := 144) hc dX8_readsMode_144 rfl rfl ?_
      refine J_getI (pc := 145) hc clX8 (k := 17) (Nat.le_of_ble_eq_true rfl) rfl tw1179 rfl dX8_readsMode_145 (fun v3 => ?_)
      refine J_callVv (pc := 148) hc clX8 (As := [((0, .int x4) : TV), ((0, .int x6) : TV), ((0, .int v3) : TV)]) (KX8_paints x0 x4 x6 v3) dX8_readsMode_148 moX8_paints rfl tw1454 tw1456 twp75 tw9 tw1457 rfl (Nat.le_of_ble_eq_true rfl) (Nat.le_of_ble_eq_true rfl) (Nat.le_of_ble_eq_true rfl) (Nat.le_of_ble_eq_true rfl) (Nat.le_of_ble_eq_true rfl) rfl (fun _ => ?_)
      refine J_aload_n (pc := 151) hc dX8_readsMode_151 rfl rfl ?_
      refine J_iload (pc := 152) hc dX8_readsMode_152 rfl ?_
      refine J_iload (pc := 154) hc dX8_readsMode_154 rfl ?_
      refine J_iconst (pc := 156) (v := 1) hc dX8_readsMode_156 (by decide) ?_
      refine J_aload_n (pc := 157) hc dX8_readsMode_157 rfl rfl ?_
      refine J_getI (pc := 158) hc clX8 (k := 17) (Nat.le_of_ble_eq_true rfl) rfl tw1179 rfl dX8_readsMode_158 (fun v4 => ?_)
      refine J_isub (pc := 161) hc dX8_readsMode_161 ?_
      refine J_callVv (pc := 162) hc clX8 (As := [((0, .int x6) : TV), ((0, .int s0) : TV), ((0, .int (1 - v4)) : TV)]) (KX8_paints x0 x6 s0 (1 - v4)) dX8_readsMode_162 moX8_paints rfl tw1454 tw1456 twp75 tw9 tw1457 rfl (Nat.le_of_ble_eq_true rfl) (Nat.le_of_ble_eq_true rfl) (Nat.le_of_ble_eq_true rfl) (Nat.le_of_ble_eq_true rfl) (Nat.le_of_ble_eq_true rfl) rfl (fun _ => ?_)
      refine J_aload_n (pc := 165) hc dX8_readsMode_165 rfl rfl ?_
      refine J_iload (pc := 166) hc dX8_readsMode_166 rfl ?_
      refine J_putI (pc := 168) hc clX8 (k := 16) (Nat.le_of_ble_eq_true rfl) rfl rfl tw1178 rfl rfl dX8_readsMode_168 ?_
      refine J_aload_n (pc := 171) hc dX8_readsMode_171 rfl rfl ?_
      refine J_iload_n (pc := 172) hc dX8_readsMode_172 rfl rfl ?_
      refine J_iconst (pc := 173) (v := 1) hc dX8_readsMode_173 (by decide) ?_
      refine J_icmp_ne (pc := 174) (tgt := 186) hc dX8_readsMode_174 (by decide) ?_ ?_
      · refine J_aload_n (pc := 186) hc dX8_readsMode_186 rfl rfl ?_
        refine J_getI (pc := 187) hc clX8 (k := 17) (Nat.le_of_ble_eq_true rfl) rfl tw1179 rfl dX8_readsMode_187 (fun v5 => ?_)
        refine J_sub (l' := [none, none, none, none, none, none, none, none]) (show subL _ _ from trivial) ?_
        exact jX8_readsMode_L190 hc he v5 x0
      · refine J_iconst (pc := 177) (v := 1) hc dX8_readsMode_177 (by decide) ?_
        refine J_aload_n (pc := 178) hc dX8_readsMode_178 rfl rfl ?_
        refine J_getI (pc := 179) hc clX8 (k := 17) (Nat.le_of_ble_eq_true rfl) rfl tw1179 rfl dX8_readsMode_179 (fun v6 => ?_)
        refine J_isub (pc := 182) hc dX8_readsMode_182 ?_
        refine J_goto (pc := 183) (tgt := 190) hc dX8_readsMode_183 (by decide) ?_
        refine J_sub (l' := [none, none, none, none, none, none, none, none]) (show subL _ _ from trivial) ?_
        exact jX8_readsMode_L190 hc he (1 - v6) x0
    · refine J_iconst (pc := 137) (v := 0) hc dX8_readsMode_137 (by decide) ?_
      exact J_zret (pc := 138) he dX8_readsMode_138
set_option maxRecDepth 100000 in
set_option maxHeartbeats 4000000 in
theorem jX8_readsMode_L101 {κ : Cx} {fin : Int32 → Mm → Prop} (hc : Jc κ RX8 cX8_readsMode 8 2 0 0 44) (he : EdZ κ cX8_readsMode 0 0 id fin) (x0 : Nat) (x1 : Int32) (x3 : Int32) (x4 : Int32) (s0 : Int32) : Jg κ (wM κ) 8 fin 0 0 101 [some ((8, .ref x0) : TV), some ((0, .int x1) : TV), none, some ((0, .int x3) : TV), some ((0, .int x4) : TV), none, none, none] [((0, .int s0) : TV)] (fX8_readsMode_L101 x0 x1 x3 x4 s0) := by
  unfold fX8_readsMode_L101
  refine J_istore (pc := 101) (l' := [some ((8, .ref x0) : TV), some ((0, .int x1) : TV), none, some ((0, .int x3) : TV), some ((0, .int x4) : TV), none, some ((0, .int s0) : TV), none]) hc dX8_readsMode_101 (by decide) rfl rfl ?_
  refine J_iload_n (pc := 103) hc dX8_readsMode_103 rfl rfl ?_
  refine J_iconst (pc := 104) (v := 1) hc dX8_readsMode_104 (by decide) ?_
  refine J_icmp_ne (pc := 105) (tgt := 113) hc dX8_readsMode_105 (by decide) ?_ ?_
  · refine J_iload (pc := 113) hc dX8_readsMode_113 rfl ?_
    refine J_iload_n (pc := 115) hc dX8_readsMode_115 rfl rfl ?_
    refine J_iadd (pc := 116) hc dX8_readsMode_116 ?_
    refine J_sub (l' := [some ((8, .ref x0) : TV), some ((0, .int x1) : TV), none, none, some ((0, .int x4) : TV), none, some ((0, .int s0) : TV), none]) ⟨rfl, ⟨rfl, ⟨rfl, ⟨rfl, trivial⟩⟩⟩⟩ ?_
    exact jX8_readsMode_L117 hc he x0 x1 x4 s0 (s0 + x3)
  · refine J_iload (pc := 108) hc dX8_readsMode_108 rfl ?_
    refine J_goto (pc := 110) (tgt := 117) hc dX8_readsMode_110 (by decide) ?_
    refine J_sub (l' := [some ((8, .ref x0) : TV), some ((0, .int x1) : TV), none, none, some ((0, .int x4) : TV), none, some ((0, .int s0) : TV), none]) ⟨rfl, ⟨rfl, ⟨rfl, ⟨rfl, trivial⟩⟩⟩⟩ ?_
    exact jX8_readsMode_L117 hc he x0 x1 x4 s0 s0
set_option maxRecDepth 100000 in
set_option maxHeartbeats 4000000 in
theorem jX8_readsMode_L63 {κ : Cx} {fin : Int32 → Mm → Prop} (hc : Jc κ RX8 cX8_readsMode 8 2 0 0 44) (he : EdZ κ cX8_readsMode 0 0 id fin) (x0 : Nat) (x4 : Int32) (s0 : Int32) : Jg κ (wM κ) 8 fin 0 0 63 [some ((8, .ref x0) : TV), none, none, none, some ((0, .int x4) : TV), none, none, none] [((0, .int s0) : TV)] (fX8_readsMode_L63 x0 x4 s0) := by
  unfold fX8_readsMode_L63
  refine J_istore (pc := 63) (l' := [some ((8, .ref x0) : TV), none, none, none, some ((0, .int x4) : TV), none, some ((0, .int s0) : TV), none]) hc dX8_readsMode_63 (by decide) rfl rfl ?_
  refine J_aload_n (pc := 65) hc dX8_readsMode_65 rfl rfl ?_
  refine J_iload (pc := 66) hc dX8_readsMode_66 rfl ?_
  refine J_iload (pc := 68) hc dX8_readsMode_68 rfl ?_
  refine J_aload_n (pc := 70) hc dX8_readsMode_70 rfl rfl ?_
  refine J_getI (pc := 71) hc clX8 (k := 17) (Nat.le_of_ble_eq_true rfl) rfl tw1179 rfl dX8_readsMode_71 (fun v7 => ?_)
  refine J_callVv (pc := 74) hc clX8 (As := [((0, .int x4) : TV), ((0, .int s0) : TV), ((0, .int v7) : TV)]) (KX8_paints x0 x4 s0 v7) dX8_readsMode_74 moX8_paints rfl tw1454 tw1456 twp75 tw9 tw1457 rfl (Nat.le_of_ble_eq_true rfl) (Nat.le_of_ble_eq_true rfl) (Nat.le_of_ble_eq_true rfl) (Nat.le_of_ble_eq_true rfl) (Nat.le_of_ble_eq_true rfl) rfl (fun _ => ?_)
  refine J_aload_n (pc := 77) hc dX8_readsMode_77 rfl rfl ?_
  refine J_iload (pc := 78) hc dX8_readsMode_78 rfl ?_
  refine J_putI (pc := 80) hc clX8 (k := 16) (Nat.le_of_ble_eq_true rfl) rfl rfl tw1178 rfl rfl dX8_readsMode_80 ?_
  refine J_iconst (pc := 83) (v := 1) hc dX8_readsMode_83 (by decide) ?_
  exact J_zret (pc := 84) he dX8_readsMode_84
set_option maxRecDepth 100000 in
set_option maxHeartbeats 4000000 in
theorem jX8_readsMode {κ : Cx} {fin : Int32 → Mm → Prop} (hc : Jc κ RX8 cX8_readsMode 8 2 0 0 44) (he : EdZ κ cX8_readsMode 0 0 id fin) (x0 : Nat) (x1 : Int32) (x2 : Int32) (x3 : Int32) : Jg κ (wM κ) 8 fin 0 0 0 [some ((8, .ref x0) : TV), some ((0, .int x1) : TV), some ((0, .int x2) : TV), some ((0, .int x3) : TV), none, none, none, none] [] (fX8_readsMode x0 x1 x2 x3) := by
  unfold fX8_readsMode
  refine J_aload_n (pc := 0) hc dX8_readsMode_0 rfl rfl ?_
  refine J_getI (pc := 1) hc clX8 (k := 16) (Nat.le_of_ble_eq_true rfl) rfl tw1178 rfl dX8_readsMode_1 (fun v8 => ?_)
  refine J_aload_n (pc := 4) hc dX8_readsMode_4 rfl rfl ?_
  refine J_getI (pc := 5) hc clX8 (k := 9) (Nat.le_of_ble_eq_true rfl) rfl tw1171 rfl dX8_readsMode_5 (fun v9 => ?_)
  refine J_icmp_ne (pc := 8) (tgt := 13) hc dX8_readsMode_8 (by decide) ?_ ?_
  · refine J_aload_n (pc := 13) hc dX8_readsMode_13 rfl rfl ?_
    refine J_getI (pc := 14) hc clX8 (k := 16) (Nat.le_of_ble_eq_true rfl) rfl tw1178 rfl dX8_readsMode_14 (fun v10 => ?_)
    refine J_callSi (pc := 17) hc (As := [((0, .int v10) : TV)]) (KX8_least0 v10) dX8_readsMode_17 moX8_least0 tw1360 tw1361 tw9 tw1362 rfl (Nat.le_of_ble_eq_true rfl) (Nat.le_of_ble_eq_true rfl) (Nat.le_of_ble_eq_true rfl) (Nat.le_of_ble_eq_true rfl) (Nat.le_of_ble_eq_true rfl) rfl (fun v11 => ?_)
    refine J_istore (pc := 20) (l' := [some ((8, .ref x0) : TV), some ((0, .int x1) : TV), some ((0, .int x2) : TV), some ((0, .int x3) : TV), some ((0, .int v11) : TV), none, none, none]) hc dX8_readsMode_20 (by decide) rfl rfl ?_
    refine J_aload_n (pc := 22) hc dX8_readsMode_22 rfl rfl ?_
    refine J_aload_n (pc := 23) hc dX8_readsMode_23 rfl rfl ?_
    refine J_getI (pc := 24) hc clX8 (k := 16) (Nat.le_of_ble_eq_true rfl) rfl tw1178 rfl dX8_readsMode_24 (fun v12 => ?_)
    refine J_aload_n (pc := 27) hc dX8_readsMode_27 rfl rfl ?_
    refine J_getI (pc := 28) hc clX8 (k := 17) (Nat.le_of_ble_eq_true rfl) rfl tw1179 rfl dX8_readsMode_28 (fun v13 => ?_)
    refine J_callVi (pc := 31) hc clX8 (As := [((0, .int v12) : TV), ((0, .int v13) : TV)]) (KX8_changeBehind x0 v12 v13) dX8_readsMode_31 moX8_changeBehind rfl tw1348 tw1350 twp58 tw9 tw1351 rfl (Nat.le_of_ble_eq_true rfl) (Nat.le_of_ble_eq_true rfl) (Nat.le_of_ble_eq_true rfl) (Nat.le_of_ble_eq_true rfl) (Nat.le_of_ble_eq_true rfl) rfl (fun v14 => ?_)
    refine J_istore (pc := 34) (l' := [some ((8, .ref x0) : TV), some ((0, .int x1) : TV), some ((0, .int x2) : TV), some ((0, .int x3) : TV), some ((0, .int v11) : TV), some ((0, .int v14) : TV), none, none]) hc dX8_readsMode_34 (by decide) rfl rfl ?_
    refine J_iload_n (pc := 36) hc dX8_readsMode_36 rfl rfl ?_
    refine J_if_ne (pc := 37) (tgt := 85) hc dX8_readsMode_37 (by decide) ?_ ?_
    · refine J_iload_n (pc := 85) hc dX8_readsMode_85 rfl rfl ?_
      refine J_iconst (pc := 86) (v := 1) hc dX8_readsMode_86 (by decide) ?_
      refine J_icmp_ne (pc := 87) (tgt := 97) hc dX8_readsMode_87 (by decide) ?_ ?_
      · refine J_iload (pc := 97) hc dX8_readsMode_97 rfl ?_
        refine J_iload_n (pc := 99) hc dX8_readsMode_99 rfl rfl ?_
        refine J_iadd (pc := 100) hc dX8_readsMode_100 ?_
        refine J_sub (l' := [some ((8, .ref x0) : TV), some ((0, .int x1) : TV), none, some ((0, .int x3) : TV), some ((0, .int v11) : TV), none, none, none]) ⟨rfl, ⟨rfl, ⟨rfl, ⟨rfl, trivial⟩⟩⟩⟩ ?_
        exact jX8_readsMode_L101 hc he x0 x1 x3 v11 (v11 + x2)
      · refine J_iload (pc := 90) hc dX8_readsMode_90 rfl ?_
        refine J_iload_n (pc := 92) hc dX8_readsMode_92 rfl rfl ?_
        refine J_iadd (pc := 93) hc dX8_readsMode_93 ?_
        refine J_goto (pc := 94) (tgt := 101) hc dX8_readsMode_94 (by decide) ?_
        refine J_sub (l' := [some ((8, .ref x0) : TV), some ((0, .int x1) : TV), none, some ((0, .int x3) : TV), some ((0, .int v11) : TV), none, none, none]) ⟨rfl, ⟨rfl, ⟨rfl, ⟨rfl, trivial⟩⟩⟩⟩ ?_
        exact jX8_readsMode_L101 hc he x0 x1 x3 v11 (v14 + x2)
    · refine J_iload (pc := 40) hc dX8_readsMode_40 rfl ?_
      refine J_aload_n (pc := 42) hc dX8_readsMode_42 rfl rfl ?_
      refine J_getI (pc := 43) hc clX8 (k := 9) (Nat.le_of_ble_eq_true rfl) rfl tw1171 rfl dX8_readsMode_43 (fun v15 => ?_)
      refine J_icmp_ne (pc := 46) (tgt := 56) hc dX8_readsMode_46 (by decide) ?_ ?_
      · refine J_aload_n (pc := 56) hc dX8_readsMode_56 rfl rfl ?_
        refine J_iload (pc := 57) hc dX8_readsMode_57 rfl ?_
        refine J_iconst (pc := 59) (v := 2) hc dX8_readsMode_59 (by decide) ?_
        refine J_callVi (pc := 60) hc clX8 (As := [((0, .int v14) : TV), ((0, .int 2) : TV)]) (KX8_changeBehind x0 v14 2) dX8_readsMode_60 moX8_changeBehind rfl tw1348 tw1350 twp58 tw9 tw1351 rfl (Nat.le_of_ble_eq_true rfl) (Nat.le_of_ble_eq_true rfl) (Nat.le_of_ble_eq_true rfl) (Nat.le_of_ble_eq_true rfl) (Nat.le_of_ble_eq_true rfl) rfl (fun v16 => ?_)
        refine J_sub (l' := [some ((8, .ref x0) : TV), none, none, none, some ((0, .int v11) : TV), none, none, none]) ⟨rfl, ⟨rfl, trivial⟩⟩ ?_
        exact jX8_readsMode_L63 hc he x0 v11 v16
      · refine J_aload_n (pc := 49) hc dX8_readsMode_49 rfl rfl ?_
        refine J_getI (pc := 50) hc clX8 (k := 9) (Nat.le_of_ble_eq_true rfl) rfl tw1171 rfl dX8_readsMode_50 (fun v17 => ?_)
        refine J_goto (pc := 53) (tgt := 63) hc dX8_readsMode_53 (by decide) ?_
        refine J_sub (l' := [some ((8, .ref x0) : TV), none, none, none, some ((0, .int v11) : TV), none, none, none]) ⟨rfl, ⟨rfl, trivial⟩⟩ ?_
        exact jX8_readsMode_L63 hc he x0 v11 v17
  · refine J_iconst (pc := 11) (v := 0) hc dX8_readsMode_11 (by decide) ?_
    exact J_zret (pc := 12) he dX8_readsMode_12
theorem moX8_readsMode : MOk yX8_readsMode 3 := ⟨by decide +kernel, by decide +kernel, by decide +kernel⟩
set_option maxRecDepth 100000 in
set_option maxHeartbeats 4000000 in
theorem KX8_readsMode (x0 : Nat) (x1 : Int32) (x2 : Int32) (x3 : Int32) : Ct wI yX8_readsMode cX8_readsMode 8 (some .boolean) 2 0 0 44 [((8, .ref x0) : TV), ((0, .int x1) : TV), ((0, .int x2) : TV), ((0, .int x3) : TV)] (fX8_readsMode x0 x1 x2 x3) :=
  Ct_Z ⟨rfl, rfl⟩ (j := 4) (by decide +kernel) rfl rfl (Nat.le_of_ble_eq_true rfl) (fun κ fin hc he => jX8_readsMode hc he x0 x1 x2 x3)
set_option maxRecDepth 100000 in
set_option maxHeartbeats 4000000 in
theorem jX8_readsCode_L49 {κ : Cx} {fin : Int32 → Mm → Prop} (hc : Jc κ RX8 cX8_readsCode 3 3 0 0 71) (he : EdZ κ cX8_readsCode 0 0 id fin) (x0 : Nat) (x1 : Int32) : Jg κ (wM κ) 3 fin 0 0 49 [some ((8, .ref x0) : TV), some ((0, .int x1) : TV), none] [] (fX8_readsCode_L49 x0 x1) := by
  unfold fX8_readsCode_L49
  refine J_iload_n (pc := 49) hc dX8_readsCode_49 rfl rfl ?_
  refine J_if_eq (pc := 50) (tgt := 68) hc dX8_readsCode_50 (by decide) ?_ ?_
  · refine J_iconst (pc := 68) (v := 0) hc dX8_readsCode_68 (by decide) ?_
    exact J_zret (pc := 69) he dX8_readsCode_69
  · refine J_aload_n (pc := 53) hc dX8_readsCode_53 rfl rfl ?_
    refine J_getI (pc := 54) hc clX8 (k := 16) (Nat.le_of_ble_eq_true rfl) rfl tw1178 rfl dX8_readsCode_54 (fun v1 => ?_)
    refine J_aload_n (pc := 57) hc dX8_readsCode_57 rfl rfl ?_
    refine J_getI (pc := 58) hc clX8 (k := 9) (Nat.le_of_ble_eq_true rfl) rfl tw1171 rfl dX8_readsCode_58 (fun v2 => ?_)
    refine J_icmp_ne (pc := 61) (tgt := 68) hc dX8_readsCode_61 (by decide) ?_ ?_
    · refine J_iconst (pc := 68) (v := 0) hc dX8_readsCode_68 (by decide) ?_
      exact J_zret (pc := 69) he dX8_readsCode_69
    · refine J_iconst (pc := 64) (v := 1) hc dX8_readsCode_64 (by decide) ?_
      refine J_goto (pc := 65) (tgt := 69) hc dX8_readsCode_65 (by decide) ?_
      exact J_zret (pc := 69) he dX8_readsCode_69
set_option maxRecDepth 100000 in
set_option maxHeartbeats 4000000 in
theorem jX8_readsCode_L8 {κ : Cx} {fin : Int32 → Mm → Prop} (hc : Jc κ RX8 cX8_readsCode 3 3 0 0 71) (he : EdZ κ cX8_readsCode 0 0 id fin) : ∀ (n : Nat) (x0 : Nat) (x1 : Int32) (x2 : Int32), Jg κ (wM κ) 3 fin 0 0 8 [some ((8, .ref x0) : TV), some ((0, .int x1) : TV), some ((0, .int x2) : TV)] [] (fX8_readsCode_L8 n x0 x1 x2) := by
  intro n
  induction n with
  | zero => intro x0 x1 x2; exact J_fail
  | succ n ih =>
    intro x0 x1 x2
    unfold fX8_readsCode_L8
    refine J_iload_n (pc := 8) hc dX8_readsCode_8 rfl rfl ?_
    refine J_aload_n (pc := 9) hc dX8_readsCode_9 rfl rfl ?_
    refine J_getI (pc := 10) hc clX8 (k := 14) (Nat.le_of_ble_eq_true rfl) rfl tw1176 rfl dX8_readsCode_10 (fun v3 => ?_)
    refine J_icmp_ge (pc := 13) (tgt := 49) hc dX8_readsCode_13 (by decide) ?_ ?_
    · refine J_sub (l' := [some ((8, .ref x0) : TV), some ((0, .int x1) : TV), none]) ⟨rfl, ⟨rfl, trivial⟩⟩ ?_
      exact jX8_readsCode_L49 hc he x0 x1
    · refine J_iload_n (pc := 16) hc dX8_readsCode_16 rfl rfl ?_
      refine J_if_eq (pc := 17) (tgt := 49) hc dX8_readsCode_17 (by decide) ?_ ?_
      · refine J_sub (l' := [some ((8, .ref x0) : TV), some ((0, .int x1) : TV), none]) ⟨rfl, ⟨rfl, trivial⟩⟩ ?_
        exact jX8_readsCode_L49 hc he x0 x1
      · refine J_aload_n (pc := 20) hc dX8_readsCode_20 rfl rfl ?_
        refine J_aload_n (pc := 21) hc dX8_readsCode_21 rfl rfl ?_
        refine J_getA (pc := 22) hc clX8 (k := 10) (kd := 11) (Nat.le_of_ble_eq_true rfl) rfl (Nat.le_of_ble_eq_true rfl) (Nat.le_of_ble_eq_true rfl) tw1172 rfl dX8_readsCode_22 (fun v4 => ?_)
        refine J_iload_n (pc := 25) hc dX8_readsCode_25 rfl rfl ?_
        refine J_iald (pc := 26) hc dX8_readsCode_26 (fun v5 => ?_)
        refine J_aload_n (pc := 27) hc dX8_readsCode_27 rfl rfl ?_
        refine J_getA (pc := 28) hc clX8 (k := 11) (kd := 11) (Nat.le_of_ble_eq_true rfl) rfl (Nat.le_of_ble_eq_true rfl) (Nat.le_of_ble_eq_true rfl) tw1173 rfl dX8_readsCode_28 (fun v6 => ?_)
        refine J_iload_n (pc := 31) hc dX8_readsCode_31 rfl rfl ?_
        refine J_iald (pc := 32) hc dX8_readsCode_32 (fun v7 => ?_)
        refine J_aload_n (pc := 33) hc dX8_readsCode_33 rfl rfl ?_
        refine J_getA (pc := 34) hc clX8 (k := 12) (kd := 11) (Nat.le_of_ble_eq_true rfl) rfl (Nat.le_of_ble_eq_true rfl) (Nat.le_of_ble_eq_true rfl) tw1174 rfl dX8_readsCode_34 (fun v8 => ?_)
        refine J_iload_n (pc := 37) hc dX8_readsCode_37 rfl rfl ?_
        refine J_iald (pc := 38) hc dX8_readsCode_38 (fun v9 => ?_)
        refine J_callVi (pc := 39) hc clX8 (As := [((0, .int v5) : TV), ((0, .int v7) : TV), ((0, .int v9) : TV)]) (KX8_readsMode x0 v5 v7 v9) dX8_readsCode_39 moX8_readsMode rfl tw1450 tw1452 twp74 tw9 tw1453 rfl (Nat.le_of_ble_eq_true rfl) (Nat.le_of_ble_eq_true rfl) (Nat.le_of_ble_eq_true rfl) (Nat.le_of_ble_eq_true rfl) (Nat.le_of_ble_eq_true rfl) rfl (fun v10 => ?_)
        refine J_istore_n (pc := 42) (l' := [some ((8, .ref x0) : TV), some ((0, .int v10) : TV), some ((0, .int x2) : TV)]) hc dX8_readsCode_42 rfl (by decide) rfl rfl ?_
        refine J_iinc (pc := 43) (v := x2 + 1) (l' := [some ((8, .ref x0) : TV), some ((0, .int v10) : TV), some ((0, .int (x2 + 1)) : TV)]) hc dX8_readsCode_43 rfl rfl (by decide) rfl rfl ?_
        refine J_goto (pc := 46) (tgt := 8) hc dX8_readsCode_46 (by decide) ?_
        refine J_sub (l' := [some ((8, .ref x0) : TV), some ((0, .int v10) : TV), some ((0, .int (x2 + 1)) : TV)]) ⟨rfl, ⟨rfl, ⟨rfl, trivial⟩⟩⟩ ?_
        exact ih x0 v10 (x2 + 1)
set_option maxRecDepth 100000 in
set_option maxHeartbeats 4000000 in
theorem jX8_readsCode {κ : Cx} {fin : Int32 → Mm → Prop} (hc : Jc κ RX8 cX8_readsCode 3 3 0 0 71) (he : EdZ κ cX8_readsCode 0 0 id fin) (x0 : Nat) : Jg κ (wM κ) 3 fin 0 0 0 [some ((8, .ref x0) : TV), none, none] [] (fX8_readsCode x0) := by
  unfold fX8_readsCode
  refine J_aload_n (pc := 0) hc dX8_readsCode_0 rfl rfl ?_
  refine J_callVv (pc := 1) hc clX8 (As := []) (KX8_startsReading x0) dX8_readsCode_1 moX8_startsReading rfl tw1446 tw1448 twp73 tw9 tw1449 rfl (Nat.le_of_ble_eq_true rfl) (Nat.le_of_ble_eq_true rfl) (Nat.le_of_ble_eq_true rfl) (Nat.le_of_ble_eq_true rfl) (Nat.le_of_ble_eq_true rfl) rfl (fun _ => ?_)
  refine J_iconst (pc := 4) (v := 1) hc dX8_readsCode_4 (by decide) ?_
  refine J_istore_n (pc := 5) (l' := [some ((8, .ref x0) : TV), some ((0, .int 1) : TV), none]) hc dX8_readsCode_5 rfl (by decide) rfl rfl ?_
  refine J_iconst (pc := 6) (v := 0) hc dX8_readsCode_6 (by decide) ?_
  refine J_istore_n (pc := 7) (l' := [some ((8, .ref x0) : TV), some ((0, .int 1) : TV), some ((0, .int 0) : TV)]) hc dX8_readsCode_7 rfl (by decide) rfl rfl ?_
  refine J_sub (l' := [some ((8, .ref x0) : TV), some ((0, .int 1) : TV), some ((0, .int 0) : TV)]) ⟨rfl, ⟨rfl, ⟨rfl, trivial⟩⟩⟩ ?_
  exact jX8_readsCode_L8 hc he fu x0 1 0
theorem moX8_readsCode : MOk yX8_readsCode 0 := ⟨by decide +kernel, by decide +kernel, by decide +kernel⟩
set_option maxRecDepth 100000 in
set_option maxHeartbeats 4000000 in
theorem KX8_readsCode (x0 : Nat) : Ct wI yX8_readsCode cX8_readsCode 3 (some .boolean) 3 0 0 71 [((8, .ref x0) : TV)] (fX8_readsCode x0) :=
  Ct_Z ⟨rfl, rfl⟩ (j := 2) (by decide +kernel) rfl rfl (Nat.le_of_ble_eq_true rfl) (fun κ fin hc he => jX8_readsCode hc he x0)
set_option maxRecDepth 100000 in
set_option maxHeartbeats 4000000 in
theorem jX8_codesAlone_L50 {κ : Cx} {fin : Unit → Mm → Prop} (hc : Jc κ RX8 cX8_codesAlone 4 0 0 0 0) (he : Ed κ cX8_codesAlone 0 0 wV .return_ fin) {k9 : Nat → Int32 → Int32 → Mm → Option (Unit × Mm)} (hk9 : ∀ (x0 : Nat) (x1 : Int32) (x2 : Int32), Jg κ (wM κ) 4 fin 0 0 9 [some ((8, .ref x0) : TV), some ((0, .int x1) : TV), some ((0, .int x2) : TV), none] [] (k9 x0 x1 x2)) (x0 : Nat) (x1 : Int32) (x2 : Int32) (x3 : Int32) : Jg κ (wM κ) 4 fin 0 0 50 [some ((8, .ref x0) : TV), some ((0, .int x1) : TV), some ((0, .int x2) : TV), some ((0, .int x3) : TV)] [] (fX8_codesAlone_L50 k9 x0 x1 x2 x3) := by
  unfold fX8_codesAlone_L50
  refine J_aload_n (pc := 50) hc dX8_codesAlone_50 rfl rfl ?_
  refine J_getA (pc := 51) hc clX8 (k := 18) (kd := 11) (Nat.le_of_ble_eq_true rfl) rfl (Nat.le_of_ble_eq_true rfl) (Nat.le_of_ble_eq_true rfl) tw1180 rfl dX8_codesAlone_51 (fun v1 => ?_)
  refine J_aload_n (pc := 54) hc dX8_codesAlone_54 rfl rfl ?_
  refine J_getI (pc := 55) hc clX8 (k := 19) (Nat.le_of_ble_eq_true rfl) rfl tw1181 rfl dX8_codesAlone_55 (fun v2 => ?_)
  refine J_iload_n (pc := 58) hc dX8_codesAlone_58 rfl rfl ?_
  refine J_iload_n (pc := 59) hc dX8_codesAlone_59 rfl rfl ?_
  refine J_isub (pc := 60) hc dX8_codesAlone_60 ?_
  refine J_iast (pc := 61) hc dX8_codesAlone_61 ?_
  refine J_aload_n (pc := 62) hc dX8_codesAlone_62 rfl rfl ?_
  refine J_dup (pc := 63) hc dX8_codesAlone_63 rfl ?_
  refine J_getI (pc := 64) hc clX8 (k := 19) (Nat.le_of_ble_eq_true rfl) rfl tw1181 rfl dX8_codesAlone_64 (fun v3 => ?_)
  refine J_iconst (pc := 67) (v := 1) hc dX8_codesAlone_67 (by decide) ?_
  refine J_iadd (pc := 68) hc dX8_codesAlone_68 ?_
  refine J_putI (pc := 69) hc clX8 (k := 19) (Nat.le_of_ble_eq_true rfl) rfl rfl tw1181 rfl rfl dX8_codesAlone_69 ?_
  refine J_iload_n (pc := 72) hc dX8_codesAlone_72 rfl rfl ?_
  refine J_istore_n (pc := 73) (l' := [some ((8, .ref x0) : TV), some ((0, .int x1) : TV), some ((0, .int x3) : TV), some ((0, .int x3) : TV)]) hc dX8_codesAlone_73 rfl (by decide) rfl rfl ?_
  refine J_iconst (pc := 74) (v := 1) hc dX8_codesAlone_74 (by decide) ?_
  refine J_iload_n (pc := 75) hc dX8_codesAlone_75 rfl rfl ?_
  refine J_isub (pc := 76) hc dX8_codesAlone_76 ?_
  refine J_nmi (fun v4 => ?_)
  refine J_istore_n (pc := 77) (l' := [some ((8, .ref x0) : TV), some ((0, .int v4) : TV), some ((0, .int x3) : TV), some ((0, .int x3) : TV)]) hc dX8_codesAlone_77 rfl (by decide) rfl rfl ?_
  refine J_goto (pc := 78) (tgt := 9) hc dX8_codesAlone_78 (by decide) ?_
  refine J_sub (l' := [some ((8, .ref x0) : TV), some ((0, .int v4) : TV), some ((0, .int x3) : TV), none]) ⟨rfl, ⟨rfl, ⟨rfl, trivial⟩⟩⟩ ?_
  exact hk9 x0 v4 x3
set_option maxRecDepth 100000 in
set_option maxHeartbeats 4000000 in
theorem jX8_codesAlone_L26 {κ : Cx} {fin : Unit → Mm → Prop} (hc : Jc κ RX8 cX8_codesAlone 4 0 0 0 0) (he : Ed κ cX8_codesAlone 0 0 wV .return_ fin) {k9 : Nat → Int32 → Int32 → Mm → Option (Unit × Mm)} (hk9 : ∀ (x0 : Nat) (x1 : Int32) (x2 : Int32), Jg κ (wM κ) 4 fin 0 0 9 [some ((8, .ref x0) : TV), some ((0, .int x1) : TV), some ((0, .int x2) : TV), none] [] (k9 x0 x1 x2)) : ∀ (n : Nat) (x0 : Nat) (x1 : Int32) (x2 : Int32) (x3 : Int32), Jg κ (wM κ) 4 fin 0 0 26 [some ((8, .ref x0) : TV), some ((0, .int x1) : TV), some ((0, .int x2) : TV), some ((0, .int x3) : TV)] [] (fX8_codesAlone_L26 k9 n x0 x1 x2 x3) := by
  intro n
  induction n with
  | zero => intro x0 x1 x2 x3; exact J_fail
  | succ n ih =>
    intro x0 x1 x2 x3
    unfold fX8_codesAlone_L26
    refine J_iload_n (pc := 26) hc dX8_codesAlone_26 rfl rfl ?_
    refine J_aload_n (pc := 27) hc dX8_codesAlone_27 rfl rfl ?_
    refine J_getI (pc := 28) hc clX8 (k := 9) (Nat.le_of_ble_eq_true rfl) rfl tw1171 rfl dX8_codesAlone_28 (fun v5 => ?_)
    refine J_icmp_ge (pc := 31) (tgt := 50) hc dX8_codesAlone_31 (by decide) ?_ ?_
    · refine J_sub (l' := [some ((8, .ref x0) : TV), some ((0, .int x1) : TV), some ((0, .int x2) : TV), some ((0, .int x3) : TV)]) ⟨rfl, ⟨rfl, ⟨rfl, ⟨rfl, trivial⟩⟩⟩⟩ ?_
      exact jX8_codesAlone_L50 hc he hk9 x0 x1 x2 x3
    · refine J_aload_n (pc := 34) hc dX8_codesAlone_34 rfl rfl ?_
      refine J_getA (pc := 35) hc clX8 (k := 8) (kd := 11) (Nat.le_of_ble_eq_true rfl) rfl (Nat.le_of_ble_eq_true rfl) (Nat.le_of_ble_eq_true rfl) tw1170 rfl dX8_codesAlone_35 (fun v6 => ?_)
      refine J_iload_n (pc := 38) hc dX8_codesAlone_38 rfl rfl ?_
      refine J_iald (pc := 39) hc dX8_codesAlone_39 (fun v7 => ?_)
      refine J_iload_n (pc := 40) hc dX8_codesAlone_40 rfl rfl ?_
      refine J_icmp_ne (pc := 41) (tgt := 50) hc dX8_codesAlone_41 (by decide) ?_ ?_
      · refine J_sub (l' := [some ((8, .ref x0) : TV), some ((0, .int x1) : TV), some ((0, .int x2) : TV), some ((0, .int x3) : TV)]) ⟨rfl, ⟨rfl, ⟨rfl, ⟨rfl, trivial⟩⟩⟩⟩ ?_
        exact jX8_codesAlone_L50 hc he hk9 x0 x1 x2 x3
      · refine J_iinc (pc := 44) (v := x3 + 1) (l' := [some ((8, .ref x0) : TV), some ((0, .int x1) : TV), some ((0, .int x2) : TV), some ((0, .int (x3 + 1)) : TV)]) hc dX8_codesAlone_44 rfl rfl (by decide) rfl rfl ?_
        refine J_goto (pc := 47) (tgt := 26) hc dX8_codesAlone_47 (by decide) ?_
        refine J_sub (l' := [some ((8, .ref x0) : TV), some ((0, .int x1) : TV), some ((0, .int x2) : TV), some ((0, .int (x3 + 1)) : TV)]) ⟨rfl, ⟨rfl, ⟨rfl, ⟨rfl, trivial⟩⟩⟩⟩ ?_
        exact ih x0 x1 x2 (x3 + 1)
set_option maxRecDepth 100000 in
set_option maxHeartbeats 4000000 in
theorem jX8_codesAlone_L24 {κ : Cx} {fin : Unit → Mm → Prop} (hc : Jc κ RX8 cX8_codesAlone 4 0 0 0 0) (he : Ed κ cX8_codesAlone 0 0 wV .return_ fin) {k9 : Nat → Int32 → Int32 → Mm → Option (Unit × Mm)} (hk9 : ∀ (x0 : Nat) (x1 : Int32) (x2 : Int32), Jg κ (wM κ) 4 fin 0 0 9 [some ((8, .ref x0) : TV), some ((0, .int x1) : TV), some ((0, .int x2) : TV), none] [] (k9 x0 x1 x2)) (x0 : Nat) (x1 : Int32) (x2 : Int32) : Jg κ (wM κ) 4 fin 0 0 24 [some ((8, .ref x0) : TV), some ((0, .int x1) : TV), some ((0, .int x2) : TV), none] [] (fX8_codesAlone_L24 k9 x0 x1 x2) := by
  unfold fX8_codesAlone_L24
  refine J_iload_n (pc := 24) hc dX8_codesAlone_24 rfl rfl ?_
  refine J_istore_n (pc := 25) (l' := [some ((8, .ref x0) : TV), some ((0, .int x1) : TV), some ((0, .int x2) : TV), some ((0, .int x2) : TV)]) hc dX8_codesAlone_25 rfl (by decide) rfl rfl ?_
  refine J_sub (l' := [some ((8, .ref x0) : TV), some ((0, .int x1) : TV), some ((0, .int x2) : TV), some ((0, .int x2) : TV)]) ⟨rfl, ⟨rfl, ⟨rfl, ⟨rfl, trivial⟩⟩⟩⟩ ?_
  exact jX8_codesAlone_L26 hc he hk9 fu x0 x1 x2 x2
set_option maxRecDepth 100000 in
set_option maxHeartbeats 4000000 in
theorem jX8_codesAlone_L9 {κ : Cx} {fin : Unit → Mm → Prop} (hc : Jc κ RX8 cX8_codesAlone 4 0 0 0 0) (he : Ed κ cX8_codesAlone 0 0 wV .return_ fin) : ∀ (n : Nat) (x0 : Nat) (x1 : Int32) (x2 : Int32), Jg κ (wM κ) 4 fin 0 0 9 [some ((8, .ref x0) : TV), some ((0, .int x1) : TV), some ((0, .int x2) : TV), none] [] (fX8_codesAlone_L9 n x0 x1 x2) := by
  intro n
  induction n with
  | zero => intro x0 x1 x2; exact J_fail
  | succ n ih =>
    intro x0 x1 x2
    unfold fX8_codesAlone_L9
    refine J_iload_n (pc := 9) hc dX8_codesAlone_9 rfl rfl ?_
    refine J_aload_n (pc := 10) hc dX8_codesAlone_10 rfl rfl ?_
    refine J_getI (pc := 11) hc clX8 (k := 9) (Nat.le_of_ble_eq_true rfl) rfl tw1171 rfl dX8_codesAlone_11 (fun v8 => ?_)
    refine J_icmp_lt (pc := 14) (tgt := 24) hc dX8_codesAlone_14 (by decide) ?_ ?_
    · refine J_sub (l' := [some ((8, .ref x0) : TV), some ((0, .int x1) : TV), some ((0, .int x2) : TV), none]) ⟨rfl, ⟨rfl, ⟨rfl, trivial⟩⟩⟩ ?_
      exact jX8_codesAlone_L24 hc he ih x0 x1 x2
    · refine J_aload_n (pc := 17) hc dX8_codesAlone_17 rfl rfl ?_
      refine J_getI (pc := 18) hc clX8 (k := 19) (Nat.le_of_ble_eq_true rfl) rfl tw1181 rfl dX8_codesAlone_18 (fun v9 => ?_)
      refine J_if_ne (pc := 21) (tgt := 81) hc dX8_codesAlone_21 (by decide) ?_ ?_
      · exact J_vret (pc := 81) he dX8_codesAlone_81
      · refine J_sub (l' := [some ((8, .ref x0) : TV), some ((0, .int x1) : TV), some ((0, .int x2) : TV), none]) ⟨rfl, ⟨rfl, ⟨rfl, trivial⟩⟩⟩ ?_
        exact jX8_codesAlone_L24 hc he ih x0 x1 x2
set_option maxRecDepth 100000 in
set_option maxHeartbeats 4000000 in
theorem jX8_codesAlone {κ : Cx} {fin : Unit → Mm → Prop} (hc : Jc κ RX8 cX8_codesAlone 4 0 0 0 0) (he : Ed κ cX8_codesAlone 0 0 wV .return_ fin) (x0 : Nat) : Jg κ (wM κ) 4 fin 0 0 0 [some ((8, .ref x0) : TV), none, none, none] [] (fX8_codesAlone x0) := by
  unfold fX8_codesAlone
  refine J_aload_n (pc := 0) hc dX8_codesAlone_0 rfl rfl ?_
  refine J_iconst (pc := 1) (v := 0) hc dX8_codesAlone_1 (by decide) ?_
  refine J_putI (pc := 2) hc clX8 (k := 19) (Nat.le_of_ble_eq_true rfl) rfl rfl tw1181 rfl rfl dX8_codesAlone_2 ?_
  refine J_iconst (pc := 5) (v := 0) hc dX8_codesAlone_5 (by decide) ?_
  refine J_istore_n (pc := 6) (l' := [some ((8, .ref x0) : TV), some ((0, .int 0) : TV), none, none]) hc dX8_codesAlone_6 rfl (by decide) rfl rfl ?_
  refine J_iconst (pc := 7) (v := 0) hc dX8_codesAlone_7 (by decide) ?_
  refine J_istore_n (pc := 8) (l' := [some ((8, .ref x0) : TV), some ((0, .int 0) : TV), some ((0, .int 0) : TV), none]) hc dX8_codesAlone_8 rfl (by decide) rfl rfl ?_
  refine J_sub (l' := [some ((8, .ref x0) : TV), some ((0, .int 0) : TV), some ((0, .int 0) : TV), none]) ⟨rfl, ⟨rfl, ⟨rfl, trivial⟩⟩⟩ ?_
  exact jX8_codesAlone_L9 hc he fu x0 0 0
theorem moX8_codesAlone : MOk yX8_codesAlone 0 := ⟨by decide +kernel, by decide +kernel, by decide +kernel⟩
set_option maxRecDepth 100000 in
set_option maxHeartbeats 4000000 in
theorem KX8_codesAlone (x0 : Nat) : Ct wV yX8_codesAlone cX8_codesAlone 4 none 0 0 0 0 [((8, .ref x0) : TV)] (fX8_codesAlone x0) :=
  Ct_V (j := 3) (by decide +kernel) rfl rfl (Nat.le_of_ble_eq_true rfl) (fun κ fin hc he hin => jX8_codesAlone hc he x0)
set_option maxRecDepth 100000 in
set_option maxHeartbeats 4000000 in
theorem jX8_aloneBits_L4 {κ : Cx} {fin : Int32 → Mm → Prop} (hc : Jc κ RX8 cX8_aloneBits 3 1 0 0 20) (he : Ed κ cX8_aloneBits 0 0 wI .ireturn fin) : ∀ (n : Nat) (x0 : Nat) (x1 : Int32) (x2 : Int32), Jg κ (wM κ) 3 fin 0 0 4 [some ((8, .ref x0) : TV), some ((0, .int x1) : TV), some ((0, .int x2) : TV)] [] (fX8_aloneBits_L4 n x0 x1 x2) := by
  intro n
  induction n with
  | zero => intro x0 x1 x2; exact J_fail
  | succ n ih =>
    intro x0 x1 x2
    unfold fX8_aloneBits_L4
    refine J_iload_n (pc := 4) hc dX8_aloneBits_4 rfl rfl ?_
    refine J_aload_n (pc := 5) hc dX8_aloneBits_5 rfl rfl ?_
    refine J_getI (pc := 6) hc clX8 (k := 19) (Nat.le_of_ble_eq_true rfl) rfl tw1181 rfl dX8_aloneBits_6 (fun v1 => ?_)
    refine J_icmp_ge (pc := 9) (tgt := 30) hc dX8_aloneBits_9 (by decide) ?_ ?_
    · refine J_iload_n (pc := 30) hc dX8_aloneBits_30 rfl rfl ?_
      exact J_iret (pc := 31) he dX8_aloneBits_31
    · refine J_iload_n (pc := 12) hc dX8_aloneBits_12 rfl rfl ?_
      refine J_aload_n (pc := 13) hc dX8_aloneBits_13 rfl rfl ?_
      refine J_getA (pc := 14) hc clX8 (k := 18) (kd := 11) (Nat.le_of_ble_eq_true rfl) rfl (Nat.le_of_ble_eq_true rfl) (Nat.le_of_ble_eq_true rfl) tw1180 rfl dX8_aloneBits_14 (fun v2 => ?_)
      refine J_iload_n (pc := 17) hc dX8_aloneBits_17 rfl rfl ?_
      refine J_iald (pc := 18) hc dX8_aloneBits_18 (fun v3 => ?_)
      refine J_callSi (pc := 19) hc (As := [((0, .int v3) : TV)]) (KX8_numberBits v3) dX8_aloneBits_19 moX8_numberBits tw1371 tw1372 tw9 tw1373 rfl (Nat.le_of_ble_eq_true rfl) (Nat.le_of_ble_eq_true rfl) (Nat.le_of_ble_eq_true rfl) (Nat.le_of_ble_eq_true rfl) (Nat.le_of_ble_eq_true rfl) rfl (fun v4 => ?_)
      refine J_iadd (pc := 22) hc dX8_aloneBits_22 ?_
      refine J_nmi (fun v5 => ?_)
      refine J_istore_n (pc := 23) (l' := [some ((8, .ref x0) : TV), some ((0, .int v5) : TV), some ((0, .int x2) : TV)]) hc dX8_aloneBits_23 rfl (by decide) rfl rfl ?_
      refine J_iinc (pc := 24) (v := x2 + 1) (l' := [some ((8, .ref x0) : TV), some ((0, .int v5) : TV), some ((0, .int (x2 + 1)) : TV)]) hc dX8_aloneBits_24 rfl rfl (by decide) rfl rfl ?_
      refine J_goto (pc := 27) (tgt := 4) hc dX8_aloneBits_27 (by decide) ?_
      refine J_sub (l' := [some ((8, .ref x0) : TV), some ((0, .int v5) : TV), some ((0, .int (x2 + 1)) : TV)]) ⟨rfl, ⟨rfl, ⟨rfl, trivial⟩⟩⟩ ?_
      exact ih x0 v5 (x2 + 1)
set_option maxRecDepth 100000 in
set_option maxHeartbeats 4000000 in
theorem jX8_aloneBits {κ : Cx} {fin : Int32 → Mm → Prop} (hc : Jc κ RX8 cX8_aloneBits 3 1 0 0 20) (he : Ed κ cX8_aloneBits 0 0 wI .ireturn fin) (x0 : Nat) : Jg κ (wM κ) 3 fin 0 0 0 [some ((8, .ref x0) : TV), none, none] [] (fX8_aloneBits x0) := by
  unfold fX8_aloneBits
  refine J_iconst (pc := 0) (v := 0) hc dX8_aloneBits_0 (by decide) ?_
  refine J_istore_n (pc := 1) (l' := [some ((8, .ref x0) : TV), some ((0, .int 0) : TV), none]) hc dX8_aloneBits_1 rfl (by decide) rfl rfl ?_
  refine J_iconst (pc := 2) (v := 0) hc dX8_aloneBits_2 (by decide) ?_
  refine J_istore_n (pc := 3) (l' := [some ((8, .ref x0) : TV), some ((0, .int 0) : TV), some ((0, .int 0) : TV)]) hc dX8_aloneBits_3 rfl (by decide) rfl rfl ?_
  refine J_sub (l' := [some ((8, .ref x0) : TV), some ((0, .int 0) : TV), some ((0, .int 0) : TV)]) ⟨rfl, ⟨rfl, ⟨rfl, trivial⟩⟩⟩ ?_
  exact jX8_aloneBits_L4 hc he fu x0 0 0
theorem moX8_aloneBits : MOk yX8_aloneBits 0 := ⟨by decide +kernel, by decide +kernel, by decide +kernel⟩
set_option maxRecDepth 100000 in
set_option maxHeartbeats 4000000 in
theorem KX8_aloneBits (x0 : Nat) : Ct wI yX8_aloneBits cX8_aloneBits 3 (some .int) 1 0 0 20 [((8, .ref x0) : TV)] (fX8_aloneBits x0) :=
  Ct_I (j := 2) (by decide +kernel) rfl rfl (Nat.le_of_ble_eq_true rfl) (fun κ fin hc he => jX8_aloneBits hc he x0)
set_option maxRecDepth 100000 in
set_option maxHeartbeats 4000000 in
theorem jX8_codesLine {κ : Cx} {fin : Unit → Mm → Prop} (hc : Jc κ RX8 cX8_codesLine 2 3 0 0 70) (he : Ed κ cX8_codesLine 0 0 wV .return_ fin) (x0 : Nat) (x1 : Int32) : Jg κ (wM κ) 2 fin 0 0 0 [some ((8, .ref x0) : TV), some ((0, .int x1) : TV)] [] (fX8_codesLine x0 x1) := by
  unfold fX8_codesLine
  refine J_aload_n (pc := 0) hc dX8_codesLine_0 rfl rfl ?_
  refine J_iload_n (pc := 1) hc dX8_codesLine_1 rfl rfl ?_
  refine J_callVv (pc := 2) hc clX8 (As := [((0, .int x1) : TV)]) (KX8_laysLine x0 x1) dX8_codesLine_2 moX8_laysLine rfl tw1328 tw1330 twp53 tw9 tw1331 rfl (Nat.le_of_ble_eq_true rfl) (Nat.le_of_ble_eq_true rfl) (Nat.le_of_ble_eq_true rfl) (Nat.le_of_ble_eq_true rfl) (Nat.le_of_ble_eq_true rfl) rfl (fun _ => ?_)
  refine J_aload_n (pc := 5) hc dX8_codesLine_5 rfl rfl ?_
  refine J_callVv (pc := 6) hc clX8 (As := []) (KX8_codes x0) dX8_codesLine_6 moX8_codes rfl tw1340 tw1342 twp56 tw9 tw1343 rfl (Nat.le_of_ble_eq_true rfl) (Nat.le_of_ble_eq_true rfl) (Nat.le_of_ble_eq_true rfl) (Nat.le_of_ble_eq_true rfl) (Nat.le_of_ble_eq_true rfl) rfl (fun _ => ?_)
  refine J_aload_n (pc := 9) hc dX8_codesLine_9 rfl rfl ?_
  refine J_callVv (pc := 10) hc clX8 (As := []) (KX8_codesAlone x0) dX8_codesLine_10 moX8_codesAlone rfl tw1363 tw1365 twp61 tw9 tw1366 rfl (Nat.le_of_ble_eq_true rfl) (Nat.le_of_ble_eq_true rfl) (Nat.le_of_ble_eq_true rfl) (Nat.le_of_ble_eq_true rfl) (Nat.le_of_ble_eq_true rfl) rfl (fun _ => ?_)
  exact J_vret (pc := 13) he dX8_codesLine_13
theorem moX8_codesLine : MOk yX8_codesLine 1 := ⟨by decide +kernel, by decide +kernel, by decide +kernel⟩
set_option maxRecDepth 100000 in
set_option maxHeartbeats 4000000 in
theorem KX8_codesLine (x0 : Nat) (x1 : Int32) : Ct wV yX8_codesLine cX8_codesLine 2 none 3 0 0 70 [((8, .ref x0) : TV), ((0, .int x1) : TV)] (fX8_codesLine x0 x1) :=
  Ct_V (j := 0) (by decide +kernel) rfl rfl (Nat.le_of_ble_eq_true rfl) (fun κ fin hc he hin => jX8_codesLine hc he x0 x1)
set_option maxRecDepth 100000 in
set_option maxHeartbeats 4000000 in
theorem jX8_isMark {κ : Cx} {fin : Int32 → Mm → Prop} (hc : Jc κ RX8 cX8_isMark 2 4 0 0 91) (he : EdZ κ cX8_isMark 0 0 id fin) (x0 : Nat) (x1 : Int32) : Jg κ (wM κ) 2 fin 0 0 0 [some ((8, .ref x0) : TV), some ((0, .int x1) : TV)] [] (fX8_isMark x0 x1) := by
  unfold fX8_isMark
  refine J_iload_n (pc := 0) hc dX8_isMark_0 rfl rfl ?_
  refine J_aload_n (pc := 1) hc dX8_isMark_1 rfl rfl ?_
  refine J_getA (pc := 2) hc clX8 (k := 1) (kd := 11) (Nat.le_of_ble_eq_true rfl) rfl (Nat.le_of_ble_eq_true rfl) (Nat.le_of_ble_eq_true rfl) tw1163 rfl dX8_isMark_2 (fun v1 => ?_)
  refine J_iconst (pc := 5) (v := 2) hc dX8_isMark_5 (by decide) ?_
  refine J_iald (pc := 6) hc dX8_isMark_6 (fun v2 => ?_)
  refine J_irem (pc := 7) hc dX8_isMark_7 ?_
  refine J_if_ne (pc := 8) (tgt := 13) hc dX8_isMark_8 (by decide) ?_ ?_
  · refine J_aload_n (pc := 13) hc dX8_isMark_13 rfl rfl ?_
    refine J_iload_n (pc := 14) hc dX8_isMark_14 rfl rfl ?_
    refine J_callVv (pc := 15) hc clX8 (As := [((0, .int x1) : TV)]) (KX8_codesLine x0 x1) dX8_isMark_15 moX8_codesLine rfl tw1324 tw1326 twp52 tw9 tw1327 rfl (Nat.le_of_ble_eq_true rfl) (Nat.le_of_ble_eq_true rfl) (Nat.le_of_ble_eq_true rfl) (Nat.le_of_ble_eq_true rfl) (Nat.le_of_ble_eq_true rfl) rfl (fun _ => ?_)
    refine J_aload_n (pc := 18) hc dX8_isMark_18 rfl rfl ?_
    refine J_getA (pc := 19) hc clX8 (k := 1) (kd := 11) (Nat.le_of_ble_eq_true rfl) rfl (Nat.le_of_ble_eq_true rfl) (Nat.le_of_ble_eq_true rfl) tw1163 rfl dX8_isMark_19 (fun v3 => ?_)
    refine J_iconst (pc := 22) (v := 3) hc dX8_isMark_22 (by decide) ?_
    refine J_iald (pc := 23) hc dX8_isMark_23 (fun v4 => ?_)
    refine J_iconst (pc := 24) (v := 1) hc dX8_isMark_24 (by decide) ?_
    refine J_icmp_ne (pc := 25) (tgt := 43) hc dX8_isMark_25 (by decide) ?_ ?_
    · refine J_iconst (pc := 43) (v := 0) hc dX8_isMark_43 (by decide) ?_
      exact J_zret (pc := 44) he dX8_isMark_44
    · refine J_aload_n (pc := 28) hc dX8_isMark_28 rfl rfl ?_
      refine J_callVi (pc := 29) hc clX8 (As := []) (KX8_aloneBits x0) dX8_isMark_29 moX8_aloneBits rfl tw1367 tw1369 twp62 tw9 tw1370 rfl (Nat.le_of_ble_eq_true rfl) (Nat.le_of_ble_eq_true rfl) (Nat.le_of_ble_eq_true rfl) (Nat.le_of_ble_eq_true rfl) (Nat.le_of_ble_eq_true rfl) rfl (fun v5 => ?_)
      refine J_aload_n (pc := 32) hc dX8_isMark_32 rfl rfl ?_
      refine J_callVi (pc := 33) hc clX8 (As := []) (KX8_codeBits x0) dX8_isMark_33 moX8_codeBits rfl tw1374 tw1376 twp63 tw9 tw1377 rfl (Nat.le_of_ble_eq_true rfl) (Nat.le_of_ble_eq_true rfl) (Nat.le_of_ble_eq_true rfl) (Nat.le_of_ble_eq_true rfl) (Nat.le_of_ble_eq_true rfl) rfl (fun v6 => ?_)
      refine J_icmp_ge (pc := 36) (tgt := 43) hc dX8_isMark_36 (by decide) ?_ ?_
      · refine J_iconst (pc := 43) (v := 0) hc dX8_isMark_43 (by decide) ?_
        exact J_zret (pc := 44) he dX8_isMark_44
      · refine J_iconst (pc := 39) (v := 1) hc dX8_isMark_39 (by decide) ?_
        refine J_goto (pc := 40) (tgt := 44) hc dX8_isMark_40 (by decide) ?_
        exact J_zret (pc := 44) he dX8_isMark_44
  · refine J_iconst (pc := 11) (v := 1) hc dX8_isMark_11 (by decide) ?_
    exact J_zret (pc := 12) he dX8_isMark_12
theorem moX8_isMark : MOk yX8_isMark 1 := ⟨by decide +kernel, by decide +kernel, by decide +kernel⟩
set_option maxRecDepth 100000 in
set_option maxHeartbeats 4000000 in
theorem KX8_isMark (x0 : Nat) (x1 : Int32) : Ct wI yX8_isMark cX8_isMark 2 (some .boolean) 4 0 0 91 [((8, .ref x0) : TV), ((0, .int x1) : TV)] (fX8_isMark x0 x1) :=
  Ct_Z ⟨rfl, rfl⟩ (j := 0) (by decide +kernel) rfl rfl (Nat.le_of_ble_eq_true rfl) (fun κ fin hc he => jX8_isMark hc he x0 x1)
set_option maxRecDepth 100000 in
set_option maxHeartbeats 4000000 in
theorem jX8_sentBits {κ : Cx} {fin : Int32 → Mm → Prop} (hc : Jc κ RX8 cX8_sentBits 3 5 0 0 112) (he : Ed κ cX8_sentBits 0 0 wI .ireturn fin) (x0 : Nat) (x1 : Int32) : Jg κ (wM κ) 3 fin 0 0 0 [some ((8, .ref x0) : TV), some ((0, .int x1) : TV), none] [] (fX8_sentBits x0 x1) := by
  unfold fX8_sentBits
  refine J_aload_n (pc := 0) hc dX8_sentBits_0 rfl rfl ?_
  refine J_iload_n (pc := 1) hc dX8_sentBits_1 rfl rfl ?_
  refine J_callVi (pc := 2) hc clX8 (As := [((0, .int x1) : TV)]) (KX8_isMark x0 x1) dX8_sentBits_2 moX8_isMark rfl tw1320 tw1322 twp51 tw9 tw1323 rfl (Nat.le_of_ble_eq_true rfl) (Nat.le_of_ble_eq_true rfl) (Nat.le_of_ble_eq_true rfl) (Nat.le_of_ble_eq_true rfl) (Nat.le_of_ble_eq_true rfl) rfl (fun v1 => ?_)
  refine J_istore_n (pc := 5) (l' := [some ((8, .ref x0) : TV), some ((0, .int x1) : TV), some ((0, .int v1) : TV)]) hc dX8_sentBits_5 rfl (by decide) rfl rfl ?_
  refine J_aload_n (pc := 6) hc dX8_sentBits_6 rfl rfl ?_
  refine J_iload_n (pc := 7) hc dX8_sentBits_7 rfl rfl ?_
  refine J_callVv (pc := 8) hc clX8 (As := [((0, .int x1) : TV)]) (KX8_codesLine x0 x1) dX8_sentBits_8 moX8_codesLine rfl tw1324 tw1326 twp52 tw9 tw1327 rfl (Nat.le_of_ble_eq_true rfl) (Nat.le_of_ble_eq_true rfl) (Nat.le_of_ble_eq_true rfl) (Nat.le_of_ble_eq_true rfl) (Nat.le_of_ble_eq_true rfl) rfl (fun _ => ?_)
  refine J_iload_n (pc := 11) hc dX8_sentBits_11 rfl rfl ?_
  refine J_if_eq (pc := 12) (tgt := 22) hc dX8_sentBits_12 (by decide) ?_ ?_
  · refine J_aload_n (pc := 22) hc dX8_sentBits_22 rfl rfl ?_
    refine J_callVi (pc := 23) hc clX8 (As := []) (KX8_codeBits x0) dX8_sentBits_23 moX8_codeBits rfl tw1374 tw1376 twp63 tw9 tw1377 rfl (Nat.le_of_ble_eq_true rfl) (Nat.le_of_ble_eq_true rfl) (Nat.le_of_ble_eq_true rfl) (Nat.le_of_ble_eq_true rfl) (Nat.le_of_ble_eq_true rfl) rfl (fun v2 => ?_)
    exact J_iret (pc := 26) he dX8_sentBits_26
  · refine J_aload_n (pc := 15) hc dX8_sentBits_15 rfl rfl ?_
    refine J_callVi (pc := 16) hc clX8 (As := []) (KX8_aloneBits x0) dX8_sentBits_16 moX8_aloneBits rfl tw1367 tw1369 twp62 tw9 tw1370 rfl (Nat.le_of_ble_eq_true rfl) (Nat.le_of_ble_eq_true rfl) (Nat.le_of_ble_eq_true rfl) (Nat.le_of_ble_eq_true rfl) (Nat.le_of_ble_eq_true rfl) rfl (fun v3 => ?_)
    refine J_goto (pc := 19) (tgt := 26) hc dX8_sentBits_19 (by decide) ?_
    exact J_iret (pc := 26) he dX8_sentBits_26
theorem moX8_sentBits : MOk yX8_sentBits 1 := ⟨by decide +kernel, by decide +kernel, by decide +kernel⟩
set_option maxRecDepth 100000 in
set_option maxHeartbeats 4000000 in
theorem KX8_sentBits (x0 : Nat) (x1 : Int32) : Ct wI yX8_sentBits cX8_sentBits 3 (some .int) 5 0 0 112 [((8, .ref x0) : TV), ((0, .int x1) : TV)] (fX8_sentBits x0 x1) :=
  Ct_I (j := 1) (by decide +kernel) rfl rfl (Nat.le_of_ble_eq_true rfl) (fun κ fin hc he => jX8_sentBits hc he x0 x1)
set_option maxRecDepth 100000 in
set_option maxHeartbeats 4000000 in
theorem jX8_markUpTo_L2 {κ : Cx} {fin : Int32 → Mm → Prop} (hc : Jc κ RX8 cX8_markUpTo 3 5 0 0 112) (he : Ed κ cX8_markUpTo 0 0 wI .ireturn fin) : ∀ (n : Nat) (x0 : Nat) (x2 : Int32), Jg κ (wM κ) 3 fin 0 0 2 [some ((8, .ref x0) : TV), none, some ((0, .int x2) : TV)] [] (fX8_markUpTo_L2 n x0 x2) := by
  intro n
  induction n with
  | zero => intro x0 x2; exact J_fail
  | succ n ih =>
    intro x0 x2
    unfold fX8_markUpTo_L2
    refine J_aload_n (pc := 2) hc dX8_markUpTo_2 rfl rfl ?_
    refine J_iload_n (pc := 3) hc dX8_markUpTo_3 rfl rfl ?_
    refine J_callVi (pc := 4) hc clX8 (As := [((0, .int x2) : TV)]) (KX8_isMark x0 x2) dX8_markUpTo_4 moX8_isMark rfl tw1320 tw1322 twp51 tw9 tw1323 rfl (Nat.le_of_ble_eq_true rfl) (Nat.le_of_ble_eq_true rfl) (Nat.le_of_ble_eq_true rfl) (Nat.le_of_ble_eq_true rfl) (Nat.le_of_ble_eq_true rfl) rfl (fun v1 => ?_)
    refine J_if_ne (pc := 7) (tgt := 16) hc dX8_markUpTo_7 (by decide) ?_ ?_
    · refine J_iload_n (pc := 16) hc dX8_markUpTo_16 rfl rfl ?_
      exact J_iret (pc := 17) he dX8_markUpTo_17
    · refine J_iinc (pc := 10) (v := x2 + (-1)) (l' := [some ((8, .ref x0) : TV), none, some ((0, .int (x2 + (-1))) : TV)]) hc dX8_markUpTo_10 rfl rfl (by decide) rfl rfl ?_
      refine J_goto (pc := 13) (tgt := 2) hc dX8_markUpTo_13 (by decide) ?_
      refine J_sub (l' := [some ((8, .ref x0) : TV), none, some ((0, .int (x2 + (-1))) : TV)]) ⟨rfl, ⟨rfl, trivial⟩⟩ ?_
      exact ih x0 (x2 + (-1))
set_option maxRecDepth 100000 in
set_option maxHeartbeats 4000000 in
theorem jX8_markUpTo {κ : Cx} {fin : Int32 → Mm → Prop} (hc : Jc κ RX8 cX8_markUpTo 3 5 0 0 112) (he : Ed κ cX8_markUpTo 0 0 wI .ireturn fin) (x0 : Nat) (x1 : Int32) : Jg κ (wM κ) 3 fin 0 0 0 [some ((8, .ref x0) : TV), some ((0, .int x1) : TV), none] [] (fX8_markUpTo x0 x1) := by
  unfold fX8_markUpTo
  refine J_iload_n (pc := 0) hc dX8_markUpTo_0 rfl rfl ?_
  refine J_istore_n (pc := 1) (l' := [some ((8, .ref x0) : TV), some ((0, .int x1) : TV), some ((0, .int x1) : TV)]) hc dX8_markUpTo_1 rfl (by decide) rfl rfl ?_
  refine J_sub (l' := [some ((8, .ref x0) : TV), none, some ((0, .int x1) : TV)]) ⟨rfl, ⟨rfl, trivial⟩⟩ ?_
  exact jX8_markUpTo_L2 hc he fu x0 x1
theorem moX8_markUpTo : MOk yX8_markUpTo 1 := ⟨by decide +kernel, by decide +kernel, by decide +kernel⟩
set_option maxRecDepth 100000 in
set_option maxHeartbeats 4000000 in
theorem KX8_markUpTo (x0 : Nat) (x1 : Int32) : Ct wI yX8_markUpTo cX8_markUpTo 3 (some .int) 5 0 0 112 [((8, .ref x0) : TV), ((0, .int x1) : TV)] (fX8_markUpTo x0 x1) :=
  Ct_I (j := 1) (by decide +kernel) rfl rfl (Nat.le_of_ble_eq_true rfl) (fun κ fin hc he => jX8_markUpTo hc he x0 x1)
set_option maxRecDepth 100000 in
set_option maxHeartbeats 4000000 in
theorem jX8_blacks_L4 {κ : Cx} {fin : Int32 → Mm → Prop} (hc : Jc κ RX8 cX8_blacks 4 1 0 0 21) (he : Ed κ cX8_blacks 0 0 wI .ireturn fin) : ∀ (n : Nat) (x0 : Nat) (x1 : Int32) (x2 : Int32) (x3 : Int32), Jg κ (wM κ) 4 fin 0 0 4 [some ((8, .ref x0) : TV), some ((0, .int x1) : TV), some ((0, .int x2) : TV), some ((0, .int x3) : TV)] [] (fX8_blacks_L4 n x0 x1 x2 x3) := by
  intro n
  induction n with
  | zero => intro x0 x1 x2 x3; exact J_fail
  | succ n ih =>
    intro x0 x1 x2 x3
    unfold fX8_blacks_L4
    refine J_iload_n (pc := 4) hc dX8_blacks_4 rfl rfl ?_
    refine J_aload_n (pc := 5) hc dX8_blacks_5 rfl rfl ?_
    refine J_getA (pc := 6) hc clX8 (k := 1) (kd := 11) (Nat.le_of_ble_eq_true rfl) rfl (Nat.le_of_ble_eq_true rfl) (Nat.le_of_ble_eq_true rfl) tw1163 rfl dX8_blacks_6 (fun v1 => ?_)
    refine J_iconst (pc := 9) (v := 0) hc dX8_blacks_9 (by decide) ?_
    refine J_iald (pc := 10) hc dX8_blacks_10 (fun v2 => ?_)
    refine J_icmp_ge (pc := 11) (tgt := 33) hc dX8_blacks_11 (by decide) ?_ ?_
    · refine J_iload_n (pc := 33) hc dX8_blacks_33 rfl rfl ?_
      exact J_iret (pc := 34) he dX8_blacks_34
    · refine J_iload_n (pc := 14) hc dX8_blacks_14 rfl rfl ?_
      refine J_aload_n (pc := 15) hc dX8_blacks_15 rfl rfl ?_
      refine J_getA (pc := 16) hc clX8 (k := 1) (kd := 11) (Nat.le_of_ble_eq_true rfl) rfl (Nat.le_of_ble_eq_true rfl) (Nat.le_of_ble_eq_true rfl) tw1163 rfl dX8_blacks_16 (fun v3 => ?_)
      refine J_iload_n (pc := 19) hc dX8_blacks_19 rfl rfl ?_
      refine J_iload_n (pc := 20) hc dX8_blacks_20 rfl rfl ?_
      refine J_callSi (pc := 21) hc (As := [((0, .int x1) : TV), ((0, .int x3) : TV)]) (KX8_dotAt x1 x3) dX8_blacks_21 moX8_dotAt tw1309 tw1310 tw9 tw1311 rfl (Nat.le_of_ble_eq_true rfl) (Nat.le_of_ble_eq_true rfl) (Nat.le_of_ble_eq_true rfl) (Nat.le_of_ble_eq_true rfl) (Nat.le_of_ble_eq_true rfl) rfl (fun v4 => ?_)
      refine J_iald (pc := 24) hc dX8_blacks_24 (fun v5 => ?_)
      refine J_iadd (pc := 25) hc dX8_blacks_25 ?_
      refine J_nmi (fun v6 => ?_)
      refine J_istore_n (pc := 26) (l' := [some ((8, .ref x0) : TV), some ((0, .int x1) : TV), some ((0, .int v6) : TV), some ((0, .int x3) : TV)]) hc dX8_blacks_26 rfl (by decide) rfl rfl ?_
      refine J_iinc (pc := 27) (v := x3 + 1) (l' := [some ((8, .ref x0) : TV), some ((0, .int x1) : TV), some ((0, .int v6) : TV), some ((0, .int (x3 + 1)) : TV)]) hc dX8_blacks_27 rfl rfl (by decide) rfl rfl ?_
      refine J_goto (pc := 30) (tgt := 4) hc dX8_blacks_30 (by decide) ?_
      refine J_sub (l' := [some ((8, .ref x0) : TV), some ((0, .int x1) : TV), some ((0, .int v6) : TV), some ((0, .int (x3 + 1)) : TV)]) ⟨rfl, ⟨rfl, ⟨rfl, ⟨rfl, trivial⟩⟩⟩⟩ ?_
      exact ih x0 x1 v6 (x3 + 1)
set_option maxRecDepth 100000 in
set_option maxHeartbeats 4000000 in
theorem jX8_blacks {κ : Cx} {fin : Int32 → Mm → Prop} (hc : Jc κ RX8 cX8_blacks 4 1 0 0 21) (he : Ed κ cX8_blacks 0 0 wI .ireturn fin) (x0 : Nat) (x1 : Int32) : Jg κ (wM κ) 4 fin 0 0 0 [some ((8, .ref x0) : TV), some ((0, .int x1) : TV), none, none] [] (fX8_blacks x0 x1) := by
  unfold fX8_blacks
  refine J_iconst (pc := 0) (v := 0) hc dX8_blacks_0 (by decide) ?_
  refine J_istore_n (pc := 1) (l' := [some ((8, .ref x0) : TV), some ((0, .int x1) : TV), some ((0, .int 0) : TV), none]) hc dX8_blacks_1 rfl (by decide) rfl rfl ?_
  refine J_iconst (pc := 2) (v := 0) hc dX8_blacks_2 (by decide) ?_
  refine J_istore_n (pc := 3) (l' := [some ((8, .ref x0) : TV), some ((0, .int x1) : TV), some ((0, .int 0) : TV), some ((0, .int 0) : TV)]) hc dX8_blacks_3 rfl (by decide) rfl rfl ?_
  refine J_sub (l' := [some ((8, .ref x0) : TV), some ((0, .int x1) : TV), some ((0, .int 0) : TV), some ((0, .int 0) : TV)]) ⟨rfl, ⟨rfl, ⟨rfl, ⟨rfl, trivial⟩⟩⟩⟩ ?_
  exact jX8_blacks_L4 hc he fu x0 x1 0 0
theorem moX8_blacks : MOk yX8_blacks 1 := ⟨by decide +kernel, by decide +kernel, by decide +kernel⟩
set_option maxRecDepth 100000 in
set_option maxHeartbeats 4000000 in
theorem KX8_blacks (x0 : Nat) (x1 : Int32) : Ct wI yX8_blacks cX8_blacks 4 (some .int) 1 0 0 21 [((8, .ref x0) : TV), ((0, .int x1) : TV)] (fX8_blacks x0 x1) :=
  Ct_I (j := 2) (by decide +kernel) rfl rfl (Nat.le_of_ble_eq_true rfl) (fun κ fin hc he => jX8_blacks hc he x0 x1)
set_option maxRecDepth 100000 in
set_option maxHeartbeats 4000000 in
theorem jX8_ahead {κ : Cx} {fin : Int32 → Mm → Prop} (hc : Jc κ RX8 cX8_ahead 3 1 0 0 21) (he : Ed κ cX8_ahead 0 0 wI .ireturn fin) (x0 : Nat) (x1 : Int32) (x2 : Int32) : Jg κ (wM κ) 3 fin 0 0 0 [some ((8, .ref x0) : TV), some ((0, .int x1) : TV), some ((0, .int x2) : TV)] [] (fX8_ahead x0 x1 x2) := by
  unfold fX8_ahead
  refine J_iload_n (pc := 0) hc dX8_ahead_0 rfl rfl ?_
  refine J_if_ne (pc := 1) (tgt := 8) hc dX8_ahead_1 (by decide) ?_ ?_
  · refine J_aload_n (pc := 8) hc dX8_ahead_8 rfl rfl ?_
    refine J_getA (pc := 9) hc clX8 (k := 1) (kd := 11) (Nat.le_of_ble_eq_true rfl) rfl (Nat.le_of_ble_eq_true rfl) (Nat.le_of_ble_eq_true rfl) tw1163 rfl dX8_ahead_9 (fun v1 => ?_)
    refine J_iload_n (pc := 12) hc dX8_ahead_12 rfl rfl ?_
    refine J_iload_n (pc := 13) hc dX8_ahead_13 rfl rfl ?_
    refine J_iconst (pc := 14) (v := 1) hc dX8_ahead_14 (by decide) ?_
    refine J_isub (pc := 15) hc dX8_ahead_15 ?_
    refine J_callSi (pc := 16) hc (As := [((0, .int x1) : TV), ((0, .int (x2 - 1)) : TV)]) (KX8_dotAt x1 (x2 - 1)) dX8_ahead_16 moX8_dotAt tw1309 tw1310 tw9 tw1311 rfl (Nat.le_of_ble_eq_true rfl) (Nat.le_of_ble_eq_true rfl) (Nat.le_of_ble_eq_true rfl) (Nat.le_of_ble_eq_true rfl) (Nat.le_of_ble_eq_true rfl) rfl (fun v2 => ?_)
    refine J_iald (pc := 19) hc dX8_ahead_19 (fun v3 => ?_)
    exact J_iret (pc := 20) he dX8_ahead_20
  · refine J_iconst (pc := 4) (v := 0) hc dX8_ahead_4 (by decide) ?_
    refine J_goto (pc := 5) (tgt := 20) hc dX8_ahead_5 (by decide) ?_
    exact J_iret (pc := 20) he dX8_ahead_20
theorem moX8_ahead : MOk yX8_ahead 2 := ⟨by decide +kernel, by decide +kernel, by decide +kernel⟩
set_option maxRecDepth 100000 in
set_option maxHeartbeats 4000000 in
theorem KX8_ahead (x0 : Nat) (x1 : Int32) (x2 : Int32) : Ct wI yX8_ahead cX8_ahead 3 (some .int) 1 0 0 21 [((8, .ref x0) : TV), ((0, .int x1) : TV), ((0, .int x2) : TV)] (fX8_ahead x0 x1 x2) :=
  Ct_I (j := 0) (by decide +kernel) rfl rfl (Nat.le_of_ble_eq_true rfl) (fun κ fin hc he => jX8_ahead hc he x0 x1 x2)
set_option maxRecDepth 100000 in
set_option maxHeartbeats 4000000 in
theorem jX8_changes_L39 {κ : Cx} {fin : Int32 → Mm → Prop} (hc : Jc κ RX8 cX8_changes 4 2 0 0 43) (he : Ed κ cX8_changes 0 0 wI .ireturn fin) {k4 : Nat → Int32 → Int32 → Int32 → Mm → Option (Int32 × Mm)} (hk4 : ∀ (x0 : Nat) (x1 : Int32) (x2 : Int32) (x3 : Int32), Jg κ (wM κ) 4 fin 0 0 4 [some ((8, .ref x0) : TV), some ((0, .int x1) : TV), some ((0, .int x2) : TV), some ((0, .int x3) : TV)] [] (k4 x0 x1 x2 x3)) (x0 : Nat) (x1 : Int32) (x3 : Int32) (s0 : Int32) (s1 : Int32) : Jg κ (wM κ) 4 fin 0 0 39 [some ((8, .ref x0) : TV), some ((0, .int x1) : TV), none, some ((0, .int x3) : TV)] [((0, .int s0) : TV), ((0, .int s1) : TV)] (fX8_changes_L39 k4 x0 x1 x3 s0 s1) := by
  unfold fX8_changes_L39
  refine J_iadd (pc := 39) hc dX8_changes_39 ?_
  refine J_nmi (fun v1 => ?_)
  refine J_istore_n (pc := 40) (l' := [some ((8, .ref x0) : TV), some ((0, .int x1) : TV), some ((0, .int v1) : TV), some ((0, .int x3) : TV)]) hc dX8_changes_40 rfl (by decide) rfl rfl ?_
  refine J_iinc (pc := 41) (v := x3 + 1) (l' := [some ((8, .ref x0) : TV), some ((0, .int x1) : TV), some ((0, .int v1) : TV), some ((0, .int (x3 + 1)) : TV)]) hc dX8_changes_41 rfl rfl (by decide) rfl rfl ?_
  refine J_goto (pc := 44) (tgt := 4) hc dX8_changes_44 (by decide) ?_
  refine J_sub (l' := [some ((8, .ref x0) : TV), some ((0, .int x1) : TV), some ((0, .int v1) : TV), some ((0, .int (x3 + 1)) : TV)]) ⟨rfl, ⟨rfl, ⟨rfl, ⟨rfl, trivial⟩⟩⟩⟩ ?_
  exact hk4 x0 x1 v1 (x3 + 1)
set_option maxRecDepth 100000 in
set_option maxHeartbeats 4000000 in
theorem jX8_changes_L4 {κ : Cx} {fin : Int32 → Mm → Prop} (hc : Jc κ RX8 cX8_changes 4 2 0 0 43) (he : Ed κ cX8_changes 0 0 wI .ireturn fin) : ∀ (n : Nat) (x0 : Nat) (x1 : Int32) (x2 : Int32) (x3 : Int32), Jg κ (wM κ) 4 fin 0 0 4 [some ((8, .ref x0) : TV), some ((0, .int x1) : TV), some ((0, .int x2) : TV), some ((0, .int x3) : TV)] [] (fX8_changes_L4 n x0 x1 x2 x3) := by
  intro n
  induction n with
  | zero => intro x0 x1 x2 x3; exact J_fail
  | succ n ih =>
    intro x0 x1 x2 x3
    unfold fX8_changes_L4
    refine J_iload_n (pc := 4) hc dX8_changes_4 rfl rfl ?_
    refine J_aload_n (pc := 5) hc dX8_changes_5 rfl rfl ?_
    refine J_getA (pc := 6) hc clX8 (k := 1) (kd := 11) (Nat.le_of_ble_eq_true rfl) rfl (Nat.le_of_ble_eq_true rfl) (Nat.le_of_ble_eq_true rfl) tw1163 rfl dX8_changes_6 (fun v2 => ?_)
    refine J_iconst (pc := 9) (v := 0) hc dX8_changes_9 (by decide) ?_
    refine J_iald (pc := 10) hc dX8_changes_10 (fun v3 => ?_)
    refine J_icmp_ge (pc := 11) (tgt := 47) hc dX8_changes_11 (by decide) ?_ ?_
    · refine J_iload_n (pc := 47) hc dX8_changes_47 rfl rfl ?_
      exact J_iret (pc := 48) he dX8_changes_48
    · refine J_iload_n (pc := 14) hc dX8_changes_14 rfl rfl ?_
      refine J_aload_n (pc := 15) hc dX8_changes_15 rfl rfl ?_
      refine J_getA (pc := 16) hc clX8 (k := 1) (kd := 11) (Nat.le_of_ble_eq_true rfl) rfl (Nat.le_of_ble_eq_true rfl) (Nat.le_of_ble_eq_true rfl) tw1163 rfl dX8_changes_16 (fun v4 => ?_)
      refine J_iload_n (pc := 19) hc dX8_changes_19 rfl rfl ?_
      refine J_iload_n (pc := 20) hc dX8_changes_20 rfl rfl ?_
      refine J_callSi (pc := 21) hc (As := [((0, .int x1) : TV), ((0, .int x3) : TV)]) (KX8_dotAt x1 x3) dX8_changes_21 moX8_dotAt tw1309 tw1310 tw9 tw1311 rfl (Nat.le_of_ble_eq_true rfl) (Nat.le_of_ble_eq_true rfl) (Nat.le_of_ble_eq_true rfl) (Nat.le_of_ble_eq_true rfl) (Nat.le_of_ble_eq_true rfl) rfl (fun v5 => ?_)
      refine J_iald (pc := 24) hc dX8_changes_24 (fun v6 => ?_)
      refine J_aload_n (pc := 25) hc dX8_changes_25 rfl rfl ?_
      refine J_iload_n (pc := 26) hc dX8_changes_26 rfl rfl ?_
      refine J_iload_n (pc := 27) hc dX8_changes_27 rfl rfl ?_
      refine J_callVi (pc := 28) hc clX8 (As := [((0, .int x1) : TV), ((0, .int x3) : TV)]) (KX8_ahead x0 x1 x3) dX8_changes_28 moX8_ahead rfl tw1316 tw1318 twp50 tw9 tw1319 rfl (Nat.le_of_ble_eq_true rfl) (Nat.le_of_ble_eq_true rfl) (Nat.le_of_ble_eq_true rfl) (Nat.le_of_ble_eq_true rfl) (Nat.le_of_ble_eq_true rfl) rfl (fun v7 => ?_)
      refine J_icmp_eq (pc := 31) (tgt := 38) hc dX8_changes_31 (by decide) ?_ ?_
      · refine J_iconst (pc := 38) (v := 0) hc dX8_changes_38 (by decide) ?_
        refine J_sub (l' := [some ((8, .ref x0) : TV), some ((0, .int x1) : TV), none, some ((0, .int x3) : TV)]) ⟨rfl, ⟨rfl, ⟨rfl, trivial⟩⟩⟩ ?_
        exact jX8_changes_L39 hc he ih x0 x1 x3 0 x2
      · refine J_iconst (pc := 34) (v := 1) hc dX8_changes_34 (by decide) ?_
        refine J_goto (pc := 35) (tgt := 39) hc dX8_changes_35 (by decide) ?_
        refine J_sub (l' := [some ((8, .ref x0) : TV), some ((0, .int x1) : TV), none, some ((0, .int x3) : TV)]) ⟨rfl, ⟨rfl, ⟨rfl, trivial⟩⟩⟩ ?_
        exact jX8_changes_L39 hc he ih x0 x1 x3 1 x2
set_option maxRecDepth 100000 in
set_option maxHeartbeats 4000000 in
theorem jX8_changes {κ : Cx} {fin : Int32 → Mm → Prop} (hc : Jc κ RX8 cX8_changes 4 2 0 0 43) (he : Ed κ cX8_changes 0 0 wI .ireturn fin) (x0 : Nat) (x1 : Int32) : Jg κ (wM κ) 4 fin 0 0 0 [some ((8, .ref x0) : TV), some ((0, .int x1) : TV), none, none] [] (fX8_changes x0 x1) := by
  unfold fX8_changes
  refine J_iconst (pc := 0) (v := 0) hc dX8_changes_0 (by decide) ?_
  refine J_istore_n (pc := 1) (l' := [some ((8, .ref x0) : TV), some ((0, .int x1) : TV), some ((0, .int 0) : TV), none]) hc dX8_changes_1 rfl (by decide) rfl rfl ?_
  refine J_iconst (pc := 2) (v := 0) hc dX8_changes_2 (by decide) ?_
  refine J_istore_n (pc := 3) (l' := [some ((8, .ref x0) : TV), some ((0, .int x1) : TV), some ((0, .int 0) : TV), some ((0, .int 0) : TV)]) hc dX8_changes_3 rfl (by decide) rfl rfl ?_
  refine J_sub (l' := [some ((8, .ref x0) : TV), some ((0, .int x1) : TV), some ((0, .int 0) : TV), some ((0, .int 0) : TV)]) ⟨rfl, ⟨rfl, ⟨rfl, ⟨rfl, trivial⟩⟩⟩⟩ ?_
  exact jX8_changes_L4 hc he fu x0 x1 0 0
theorem moX8_changes : MOk yX8_changes 1 := ⟨by decide +kernel, by decide +kernel, by decide +kernel⟩
set_option maxRecDepth 100000 in
set_option maxHeartbeats 4000000 in
theorem KX8_changes (x0 : Nat) (x1 : Int32) : Ct wI yX8_changes cX8_changes 4 (some .int) 2 0 0 43 [((8, .ref x0) : TV), ((0, .int x1) : TV)] (fX8_changes x0 x1) :=
  Ct_I (j := 2) (by decide +kernel) rfl rfl (Nat.le_of_ble_eq_true rfl) (fun κ fin hc he => jX8_changes hc he x0 x1)
set_option maxRecDepth 100000 in
set_option maxHeartbeats 4000000 in
theorem jX8_differs_L56 {κ : Cx} {fin : Int32 → Mm → Prop} (hc : Jc κ RX8 cX8_differs 5 1 0 0 21) (he : Ed κ cX8_differs 0 0 wI .ireturn fin) {k5 : Nat → Int32 → Int32 → Int32 → Int32 → Mm → Option (Int32 × Mm)} (hk5 : ∀ (x0 : Nat) (x1 : Int32) (x2 : Int32) (x3 : Int32) (x4 : Int32), Jg κ (wM κ) 5 fin 0 0 5 [some ((8, .ref x0) : TV), some ((0, .int x1) : TV), some ((0, .int x2) : TV), some ((0, .int x3) : TV), some ((0, .int x4) : TV)] [] (k5 x0 x1 x2 x3 x4)) (x0 : Nat) (x1 : Int32) (x2 : Int32) (x4 : Int32) (s0 : Int32) (s1 : Int32) : Jg κ (wM κ) 5 fin 0 0 56 [some ((8, .ref x0) : TV), some ((0, .int x1) : TV), some ((0, .int x2) : TV), none, some ((0, .int x4) : TV)] [((0, .int s0) : TV), ((0, .int s1) : TV)] (fX8_differs_L56 k5 x0 x1 x2 x4 s0 s1) := by
  unfold fX8_differs_L56
  refine J_iadd (pc := 56) hc dX8_differs_56 ?_
  refine J_nmi (fun v1 => ?_)
  refine J_istore_n (pc := 57) (l' := [some ((8, .ref x0) : TV), some ((0, .int x1) : TV), some ((0, .int x2) : TV), some ((0, .int v1) : TV), some ((0, .int x4) : TV)]) hc dX8_differs_57 rfl (by decide) rfl rfl ?_
  refine J_iinc (pc := 58) (v := x4 + 1) (l' := [some ((8, .ref x0) : TV), some ((0, .int x1) : TV), some ((0, .int x2) : TV), some ((0, .int v1) : TV), some ((0, .int (x4 + 1)) : TV)]) hc dX8_differs_58 rfl rfl (by decide) rfl rfl ?_
  refine J_goto (pc := 61) (tgt := 5) hc dX8_differs_61 (by decide) ?_
  refine J_sub (l' := [some ((8, .ref x0) : TV), some ((0, .int x1) : TV), some ((0, .int x2) : TV), some ((0, .int v1) : TV), some ((0, .int (x4 + 1)) : TV)]) ⟨rfl, ⟨rfl, ⟨rfl, ⟨rfl, ⟨rfl, trivial⟩⟩⟩⟩⟩ ?_
  exact hk5 x0 x1 x2 v1 (x4 + 1)
set_option maxRecDepth 100000 in
set_option maxHeartbeats 4000000 in
theorem jX8_differs_L48 {κ : Cx} {fin : Int32 → Mm → Prop} (hc : Jc κ RX8 cX8_differs 5 1 0 0 21) (he : Ed κ cX8_differs 0 0 wI .ireturn fin) {k5 : Nat → Int32 → Int32 → Int32 → Int32 → Mm → Option (Int32 × Mm)} (hk5 : ∀ (x0 : Nat) (x1 : Int32) (x2 : Int32) (x3 : Int32) (x4 : Int32), Jg κ (wM κ) 5 fin 0 0 5 [some ((8, .ref x0) : TV), some ((0, .int x1) : TV), some ((0, .int x2) : TV), some ((0, .int x3) : TV), some ((0, .int x4) : TV)] [] (k5 x0 x1 x2 x3 x4)) (x0 : Nat) (x1 : Int32) (x2 : Int32) (x4 : Int32) (s0 : Int32) (s1 : Int32) (s2 : Int32) : Jg κ (wM κ) 5 fin 0 0 48 [some ((8, .ref x0) : TV), some ((0, .int x1) : TV), some ((0, .int x2) : TV), none, some ((0, .int x4) : TV)] [((0, .int s0) : TV), ((0, .int s1) : TV), ((0, .int s2) : TV)] (fX8_differs_L48 k5 x0 x1 x2 x4 s0 s1 s2) := by
  unfold fX8_differs_L48
  refine J_icmp_ne (pc := 48) (tgt := 55) hc dX8_differs_48 (by decide) ?_ ?_
  · refine J_iconst (pc := 55) (v := 1) hc dX8_differs_55 (by decide) ?_
    refine J_sub (l' := [some ((8, .ref x0) : TV), some ((0, .int x1) : TV), some ((0, .int x2) : TV), none, some ((0, .int x4) : TV)]) ⟨rfl, ⟨rfl, ⟨rfl, ⟨rfl, trivial⟩⟩⟩⟩ ?_
    exact jX8_differs_L56 hc he hk5 x0 x1 x2 x4 1 s2
  · refine J_iconst (pc := 51) (v := 0) hc dX8_differs_51 (by decide) ?_
    refine J_goto (pc := 52) (tgt := 56) hc dX8_differs_52 (by decide) ?_
    refine J_sub (l' := [some ((8, .ref x0) : TV), some ((0, .int x1) : TV), some ((0, .int x2) : TV), none, some ((0, .int x4) : TV)]) ⟨rfl, ⟨rfl, ⟨rfl, ⟨rfl, trivial⟩⟩⟩⟩ ?_
    exact jX8_differs_L56 hc he hk5 x0 x1 x2 x4 0 s2
set_option maxRecDepth 100000 in
set_option maxHeartbeats 4000000 in
theorem jX8_differs_L5 {κ : Cx} {fin : Int32 → Mm → Prop} (hc : Jc κ RX8 cX8_differs 5 1 0 0 21) (he : Ed κ cX8_differs 0 0 wI .ireturn fin) : ∀ (n : Nat) (x0 : Nat) (x1 : Int32) (x2 : Int32) (x3 : Int32) (x4 : Int32), Jg κ (wM κ) 5 fin 0 0 5 [some ((8, .ref x0) : TV), some ((0, .int x1) : TV), some ((0, .int x2) : TV), some ((0, .int x3) : TV), some ((0, .int x4) : TV)] [] (fX8_differs_L5 n x0 x1 x2 x3 x4) := by
  intro n
  induction n with
  | zero => intro x0 x1 x2 x3 x4; exact J_fail
  | succ n ih =>
    intro x0 x1 x2 x3 x4
    unfold fX8_differs_L5
    refine J_iload (pc := 5) hc dX8_differs_5 rfl ?_
    refine J_aload_n (pc := 7) hc dX8_differs_7 rfl rfl ?_
    refine J_getA (pc := 8) hc clX8 (k := 1) (kd := 11) (Nat.le_of_ble_eq_true rfl) rfl (Nat.le_of_ble_eq_true rfl) (Nat.le_of_ble_eq_true rfl) tw1163 rfl dX8_differs_8 (fun v2 => ?_)
    refine J_iconst (pc := 11) (v := 0) hc dX8_differs_11 (by decide) ?_
    refine J_iald (pc := 12) hc dX8_differs_12 (fun v3 => ?_)
    refine J_icmp_ge (pc := 13) (tgt := 64) hc dX8_differs_13 (by decide) ?_ ?_
    · refine J_iload_n (pc := 64) hc dX8_differs_64 rfl rfl ?_
      exact J_iret (pc := 65) he dX8_differs_65
    · refine J_iload_n (pc := 16) hc dX8_differs_16 rfl rfl ?_
      refine J_aload_n (pc := 17) hc dX8_differs_17 rfl rfl ?_
      refine J_getA (pc := 18) hc clX8 (k := 1) (kd := 11) (Nat.le_of_ble_eq_true rfl) rfl (Nat.le_of_ble_eq_true rfl) (Nat.le_of_ble_eq_true rfl) tw1163 rfl dX8_differs_18 (fun v4 => ?_)
      refine J_iload_n (pc := 21) hc dX8_differs_21 rfl rfl ?_
      refine J_iload (pc := 22) hc dX8_differs_22 rfl ?_
      refine J_callSi (pc := 24) hc (As := [((0, .int x1) : TV), ((0, .int x4) : TV)]) (KX8_dotAt x1 x4) dX8_differs_24 moX8_dotAt tw1309 tw1310 tw9 tw1311 rfl (Nat.le_of_ble_eq_true rfl) (Nat.le_of_ble_eq_true rfl) (Nat.le_of_ble_eq_true rfl) (Nat.le_of_ble_eq_true rfl) (Nat.le_of_ble_eq_true rfl) rfl (fun v5 => ?_)
      refine J_iald (pc := 27) hc dX8_differs_27 (fun v6 => ?_)
      refine J_iload_n (pc := 28) hc dX8_differs_28 rfl rfl ?_
      refine J_iconst (pc := 29) (v := (-1)) hc dX8_differs_29 (by decide) ?_
      refine J_icmp_ne (pc := 30) (tgt := 37) hc dX8_differs_30 (by decide) ?_ ?_
      · refine J_aload_n (pc := 37) hc dX8_differs_37 rfl rfl ?_
        refine J_getA (pc := 38) hc clX8 (k := 1) (kd := 11) (Nat.le_of_ble_eq_true rfl) rfl (Nat.le_of_ble_eq_true rfl) (Nat.le_of_ble_eq_true rfl) tw1163 rfl dX8_differs_38 (fun v7 => ?_)
        refine J_iload_n (pc := 41) hc dX8_differs_41 rfl rfl ?_
        refine J_iload (pc := 42) hc dX8_differs_42 rfl ?_
        refine J_callSi (pc := 44) hc (As := [((0, .int x2) : TV), ((0, .int x4) : TV)]) (KX8_dotAt x2 x4) dX8_differs_44 moX8_dotAt tw1309 tw1310 tw9 tw1311 rfl (Nat.le_of_ble_eq_true rfl) (Nat.le_of_ble_eq_true rfl) (Nat.le_of_ble_eq_true rfl) (Nat.le_of_ble_eq_true rfl) (Nat.le_of_ble_eq_true rfl) rfl (fun v8 => ?_)
        refine J_iald (pc := 47) hc dX8_differs_47 (fun v9 => ?_)
        refine J_sub (l' := [some ((8, .ref x0) : TV), some ((0, .int x1) : TV), some ((0, .int x2) : TV), none, some ((0, .int x4) : TV)]) ⟨rfl, ⟨rfl, ⟨rfl, ⟨rfl, trivial⟩⟩⟩⟩ ?_
        exact jX8_differs_L48 hc he ih x0 x1 x2 x4 v9 v6 x3
      · refine J_iconst (pc := 33) (v := 0) hc dX8_differs_33 (by decide) ?_
        refine J_goto (pc := 34) (tgt := 48) hc dX8_differs_34 (by decide) ?_
        refine J_sub (l' := [some ((8, .ref x0) : TV), some ((0, .int x1) : TV), some ((0, .int x2) : TV), none, some ((0, .int x4) : TV)]) ⟨rfl, ⟨rfl, ⟨rfl, ⟨rfl, trivial⟩⟩⟩⟩ ?_
        exact jX8_differs_L48 hc he ih x0 x1 x2 x4 0 v6 x3
set_option maxRecDepth 100000 in
set_option maxHeartbeats 4000000 in
theorem jX8_differs {κ : Cx} {fin : Int32 → Mm → Prop} (hc : Jc κ RX8 cX8_differs 5 1 0 0 21) (he : Ed κ cX8_differs 0 0 wI .ireturn fin) (x0 : Nat) (x1 : Int32) (x2 : Int32) : Jg κ (wM κ) 5 fin 0 0 0 [some ((8, .ref x0) : TV), some ((0, .int x1) : TV), some ((0, .int x2) : TV), none, none] [] (fX8_differs x0 x1 x2) := by
  unfold fX8_differs
  refine J_iconst (pc := 0) (v := 0) hc dX8_differs_0 (by decide) ?_
  refine J_istore_n (pc := 1) (l' := [some ((8, .ref x0) : TV), some ((0, .int x1) : TV), some ((0, .int x2) : TV), some ((0, .int 0) : TV), none]) hc dX8_differs_1 rfl (by decide) rfl rfl ?_
  refine J_iconst (pc := 2) (v := 0) hc dX8_differs_2 (by decide) ?_
  refine J_istore (pc := 3) (l' := [some ((8, .ref x0) : TV), some ((0, .int x1) : TV), some ((0, .int x2) : TV), some ((0, .int 0) : TV), some ((0, .int 0) : TV)]) hc dX8_differs_3 (by decide) rfl rfl ?_
  refine J_sub (l' := [some ((8, .ref x0) : TV), some ((0, .int x1) : TV), some ((0, .int x2) : TV), some ((0, .int 0) : TV), some ((0, .int 0) : TV)]) ⟨rfl, ⟨rfl, ⟨rfl, ⟨rfl, ⟨rfl, trivial⟩⟩⟩⟩⟩ ?_
  exact jX8_differs_L5 hc he fu x0 x1 x2 0 0
theorem moX8_differs : MOk yX8_differs 2 := ⟨by decide +kernel, by decide +kernel, by decide +kernel⟩
set_option maxRecDepth 100000 in
set_option maxHeartbeats 4000000 in
theorem KX8_differs (x0 : Nat) (x1 : Int32) (x2 : Int32) : Ct wI yX8_differs cX8_differs 5 (some .int) 1 0 0 21 [((8, .ref x0) : TV), ((0, .int x1) : TV), ((0, .int x2) : TV)] (fX8_differs x0 x1 x2) :=
  Ct_I (j := 2) (by decide +kernel) rfl rfl (Nat.le_of_ble_eq_true rfl) (fun κ fin hc he => jX8_differs hc he x0 x1 x2)
set_option maxRecDepth 100000 in
set_option maxHeartbeats 4000000 in
theorem jX8_sumOf_L81 {κ : Cx} {fin : Int32 → Mm → Prop} (hc : Jc κ RX8 cX8_sumOf 4 5 0 0 112) (he : Ed κ cX8_sumOf 0 0 wI .ireturn fin) {k4 : Nat → Int32 → Int32 → Int32 → Mm → Option (Int32 × Mm)} (hk4 : ∀ (x0 : Nat) (x1 : Int32) (x2 : Int32) (x3 : Int32), Jg κ (wM κ) 4 fin 0 0 4 [some ((8, .ref x0) : TV), some ((0, .int x1) : TV), some ((0, .int x2) : TV), some ((0, .int x3) : TV)] [] (k4 x0 x1 x2 x3)) (x0 : Nat) (x1 : Int32) (x3 : Int32) (s0 : Int32) (s1 : Int32) : Jg κ (wM κ) 4 fin 0 0 81 [some ((8, .ref x0) : TV), some ((0, .int x1) : TV), none, some ((0, .int x3) : TV)] [((0, .int s0) : TV), ((0, .int s1) : TV)] (fX8_sumOf_L81 k4 x0 x1 x3 s0 s1) := by
  unfold fX8_sumOf_L81
  refine J_iadd (pc := 81) hc dX8_sumOf_81 ?_
  refine J_nmi (fun v1 => ?_)
  refine J_istore_n (pc := 82) (l' := [some ((8, .ref x0) : TV), some ((0, .int x1) : TV), some ((0, .int v1) : TV), some ((0, .int x3) : TV)]) hc dX8_sumOf_82 rfl (by decide) rfl rfl ?_
  refine J_iinc (pc := 83) (v := x3 + 1) (l' := [some ((8, .ref x0) : TV), some ((0, .int x1) : TV), some ((0, .int v1) : TV), some ((0, .int (x3 + 1)) : TV)]) hc dX8_sumOf_83 rfl rfl (by decide) rfl rfl ?_
  refine J_goto (pc := 86) (tgt := 4) hc dX8_sumOf_86 (by decide) ?_
  refine J_sub (l' := [some ((8, .ref x0) : TV), some ((0, .int x1) : TV), some ((0, .int v1) : TV), some ((0, .int (x3 + 1)) : TV)]) ⟨rfl, ⟨rfl, ⟨rfl, ⟨rfl, trivial⟩⟩⟩⟩ ?_
  exact hk4 x0 x1 v1 (x3 + 1)
set_option maxRecDepth 100000 in
set_option maxHeartbeats 4000000 in
theorem jX8_sumOf_L4 {κ : Cx} {fin : Int32 → Mm → Prop} (hc : Jc κ RX8 cX8_sumOf 4 5 0 0 112) (he : Ed κ cX8_sumOf 0 0 wI .ireturn fin) : ∀ (n : Nat) (x0 : Nat) (x1 : Int32) (x2 : Int32) (x3 : Int32), Jg κ (wM κ) 4 fin 0 0 4 [some ((8, .ref x0) : TV), some ((0, .int x1) : TV), some ((0, .int x2) : TV), some ((0, .int x3) : TV)] [] (fX8_sumOf_L4 n x0 x1 x2 x3) := by
  intro n
  induction n with
  | zero => intro x0 x1 x2 x3; exact J_fail
  | succ n ih =>
    intro x0 x1 x2 x3
    unfold fX8_sumOf_L4
    refine J_iload_n (pc := 4) hc dX8_sumOf_4 rfl rfl ?_
    refine J_aload_n (pc := 5) hc dX8_sumOf_5 rfl rfl ?_
    refine J_getA (pc := 6) hc clX8 (k := 1) (kd := 11) (Nat.le_of_ble_eq_true rfl) rfl (Nat.le_of_ble_eq_true rfl) (Nat.le_of_ble_eq_true rfl) tw1163 rfl dX8_sumOf_6 (fun v2 => ?_)
    refine J_iconst (pc := 9) (v := 1) hc dX8_sumOf_9 (by decide) ?_
    refine J_iald (pc := 10) hc dX8_sumOf_10 (fun v3 => ?_)
    refine J_icmp_ge (pc := 11) (tgt := 89) hc dX8_sumOf_11 (by decide) ?_ ?_
    · refine J_iload_n (pc := 89) hc dX8_sumOf_89 rfl rfl ?_
      exact J_iret (pc := 90) he dX8_sumOf_90
    · refine J_iload_n (pc := 14) hc dX8_sumOf_14 rfl rfl ?_
      refine J_iload_n (pc := 15) hc dX8_sumOf_15 rfl rfl ?_
      refine J_bipush (pc := 16) (v := 8) hc dX8_sumOf_16 (by decide) ?_
      refine J_icmp_ne (pc := 18) (tgt := 29) hc dX8_sumOf_18 (by decide) ?_ ?_
      · refine J_iload_n (pc := 29) hc dX8_sumOf_29 rfl rfl ?_
        refine J_bipush (pc := 30) (v := 9) hc dX8_sumOf_30 (by decide) ?_
        refine J_icmp_ne (pc := 32) (tgt := 43) hc dX8_sumOf_32 (by decide) ?_ ?_
        · refine J_iload_n (pc := 43) hc dX8_sumOf_43 rfl rfl ?_
          refine J_bipush (pc := 44) (v := 10) hc dX8_sumOf_44 (by decide) ?_
          refine J_icmp_ne (pc := 46) (tgt := 65) hc dX8_sumOf_46 (by decide) ?_ ?_
          · refine J_aload_n (pc := 65) hc dX8_sumOf_65 rfl rfl ?_
            refine J_iload_n (pc := 66) hc dX8_sumOf_66 rfl rfl ?_
            refine J_iload_n (pc := 67) hc dX8_sumOf_67 rfl rfl ?_
            refine J_iconst (pc := 68) (v := 1) hc dX8_sumOf_68 (by decide) ?_
            refine J_isub (pc := 69) hc dX8_sumOf_69 ?_
            refine J_callVi (pc := 70) hc clX8 (As := [((0, .int x3) : TV), ((0, .int (x3 - 1)) : TV)]) (KX8_differs x0 x3 (x3 - 1)) dX8_sumOf_70 moX8_differs rfl tw1378 tw1380 twp64 tw9 tw1381 rfl (Nat.le_of_ble_eq_true rfl) (Nat.le_of_ble_eq_true rfl) (Nat.le_of_ble_eq_true rfl) (Nat.le_of_ble_eq_true rfl) (Nat.le_of_ble_eq_true rfl) rfl (fun v4 => ?_)
            refine J_if_ne (pc := 73) (tgt := 80) hc dX8_sumOf_73 (by decide) ?_ ?_
            · refine J_iconst (pc := 80) (v := 0) hc dX8_sumOf_80 (by decide) ?_
              refine J_sub (l' := [some ((8, .ref x0) : TV), some ((0, .int x1) : TV), none, some ((0, .int x3) : TV)]) ⟨rfl, ⟨rfl, ⟨rfl, trivial⟩⟩⟩ ?_
              exact jX8_sumOf_L81 hc he ih x0 x1 x3 0 x2
            · refine J_iconst (pc := 76) (v := 1) hc dX8_sumOf_76 (by decide) ?_
              refine J_goto (pc := 77) (tgt := 81) hc dX8_sumOf_77 (by decide) ?_
              refine J_sub (l' := [some ((8, .ref x0) : TV), some ((0, .int x1) : TV), none, some ((0, .int x3) : TV)]) ⟨rfl, ⟨rfl, ⟨rfl, trivial⟩⟩⟩ ?_
              exact jX8_sumOf_L81 hc he ih x0 x1 x3 1 x2
          · refine J_aload_n (pc := 49) hc dX8_sumOf_49 rfl rfl ?_
            refine J_iload_n (pc := 50) hc dX8_sumOf_50 rfl rfl ?_
            refine J_callVi (pc := 51) hc clX8 (As := [((0, .int x3) : TV)]) (KX8_isMark x0 x3) dX8_sumOf_51 moX8_isMark rfl tw1320 tw1322 twp51 tw9 tw1323 rfl (Nat.le_of_ble_eq_true rfl) (Nat.le_of_ble_eq_true rfl) (Nat.le_of_ble_eq_true rfl) (Nat.le_of_ble_eq_true rfl) (Nat.le_of_ble_eq_true rfl) rfl (fun v5 => ?_)
            refine J_if_eq (pc := 54) (tgt := 61) hc dX8_sumOf_54 (by decide) ?_ ?_
            · refine J_iconst (pc := 61) (v := 0) hc dX8_sumOf_61 (by decide) ?_
              refine J_goto (pc := 62) (tgt := 81) hc dX8_sumOf_62 (by decide) ?_
              refine J_sub (l' := [some ((8, .ref x0) : TV), some ((0, .int x1) : TV), none, some ((0, .int x3) : TV)]) ⟨rfl, ⟨rfl, ⟨rfl, trivial⟩⟩⟩ ?_
              exact jX8_sumOf_L81 hc he ih x0 x1 x3 0 x2
            · refine J_iconst (pc := 57) (v := 1) hc dX8_sumOf_57 (by decide) ?_
              refine J_goto (pc := 58) (tgt := 81) hc dX8_sumOf_58 (by decide) ?_
              refine J_sub (l' := [some ((8, .ref x0) : TV), some ((0, .int x1) : TV), none, some ((0, .int x3) : TV)]) ⟨rfl, ⟨rfl, ⟨rfl, trivial⟩⟩⟩ ?_
              exact jX8_sumOf_L81 hc he ih x0 x1 x3 1 x2
        · refine J_aload_n (pc := 35) hc dX8_sumOf_35 rfl rfl ?_
          refine J_iload_n (pc := 36) hc dX8_sumOf_36 rfl rfl ?_
          refine J_callVi (pc := 37) hc clX8 (As := [((0, .int x3) : TV)]) (KX8_changes x0 x3) dX8_sumOf_37 moX8_changes rfl tw1312 tw1314 twp49 tw9 tw1315 rfl (Nat.le_of_ble_eq_true rfl) (Nat.le_of_ble_eq_true rfl) (Nat.le_of_ble_eq_true rfl) (Nat.le_of_ble_eq_true rfl) (Nat.le_of_ble_eq_true rfl) rfl (fun v6 => ?_)
          refine J_goto (pc := 40) (tgt := 81) hc dX8_sumOf_40 (by decide) ?_
          refine J_sub (l' := [some ((8, .ref x0) : TV), some ((0, .int x1) : TV), none, some ((0, .int x3) : TV)]) ⟨rfl, ⟨rfl, ⟨rfl, trivial⟩⟩⟩ ?_
          exact jX8_sumOf_L81 hc he ih x0 x1 x3 v6 x2
      · refine J_aload_n (pc := 21) hc dX8_sumOf_21 rfl rfl ?_
        refine J_iload_n (pc := 22) hc dX8_sumOf_22 rfl rfl ?_
        refine J_callVi (pc := 23) hc clX8 (As := [((0, .int x3) : TV)]) (KX8_blacks x0 x3) dX8_sumOf_23 moX8_blacks rfl tw1305 tw1307 twp48 tw9 tw1308 rfl (Nat.le_of_ble_eq_true rfl) (Nat.le_of_ble_eq_true rfl) (Nat.le_of_ble_eq_true rfl) (Nat.le_of_ble_eq_true rfl) (Nat.le_of_ble_eq_true rfl) rfl (fun v7 => ?_)
        refine J_goto (pc := 26) (tgt := 81) hc dX8_sumOf_26 (by decide) ?_
        refine J_sub (l' := [some ((8, .ref x0) : TV), some ((0, .int x1) : TV), none, some ((0, .int x3) : TV)]) ⟨rfl, ⟨rfl, ⟨rfl, trivial⟩⟩⟩ ?_
        exact jX8_sumOf_L81 hc he ih x0 x1 x3 v7 x2
set_option maxRecDepth 100000 in
set_option maxHeartbeats 4000000 in
theorem jX8_sumOf {κ : Cx} {fin : Int32 → Mm → Prop} (hc : Jc κ RX8 cX8_sumOf 4 5 0 0 112) (he : Ed κ cX8_sumOf 0 0 wI .ireturn fin) (x0 : Nat) (x1 : Int32) : Jg κ (wM κ) 4 fin 0 0 0 [some ((8, .ref x0) : TV), some ((0, .int x1) : TV), none, none] [] (fX8_sumOf x0 x1) := by
  unfold fX8_sumOf
  refine J_iconst (pc := 0) (v := 0) hc dX8_sumOf_0 (by decide) ?_
  refine J_istore_n (pc := 1) (l' := [some ((8, .ref x0) : TV), some ((0, .int x1) : TV), some ((0, .int 0) : TV), none]) hc dX8_sumOf_1 rfl (by decide) rfl rfl ?_
  refine J_iconst (pc := 2) (v := 0) hc dX8_sumOf_2 (by decide) ?_
  refine J_istore_n (pc := 3) (l' := [some ((8, .ref x0) : TV), some ((0, .int x1) : TV), some ((0, .int 0) : TV), some ((0, .int 0) : TV)]) hc dX8_sumOf_3 rfl (by decide) rfl rfl ?_
  refine J_sub (l' := [some ((8, .ref x0) : TV), some ((0, .int x1) : TV), some ((0, .int 0) : TV), some ((0, .int 0) : TV)]) ⟨rfl, ⟨rfl, ⟨rfl, ⟨rfl, trivial⟩⟩⟩⟩ ?_
  exact jX8_sumOf_L4 hc he fu x0 x1 0 0
theorem moX8_sumOf : MOk yX8_sumOf 1 := ⟨by decide +kernel, by decide +kernel, by decide +kernel⟩
set_option maxRecDepth 100000 in
set_option maxHeartbeats 4000000 in
theorem KX8_sumOf (x0 : Nat) (x1 : Int32) : Ct wI yX8_sumOf cX8_sumOf 4 (some .int) 5 0 0 112 [((8, .ref x0) : TV), ((0, .int x1) : TV)] (fX8_sumOf x0 x1) :=
  Ct_I (j := 2) (by decide +kernel) rfl rfl (Nat.le_of_ble_eq_true rfl) (fun κ fin hc he => jX8_sumOf hc he x0 x1)
set_option maxRecDepth 100000 in
set_option maxHeartbeats 4000000 in
theorem jX8_count_L31 {κ : Cx} {fin : Int32 → Mm → Prop} (hc : Jc κ RX8 cX8_count 2 6 0 0 135) (he : Ed κ cX8_count 0 0 wI .ireturn fin) (x0 : Nat) (x1 : Int32) (s0 : Int32) : Jg κ (wM κ) 2 fin 0 0 31 [some ((8, .ref x0) : TV), some ((0, .int x1) : TV)] [((0, .int s0) : TV)] (fX8_count_L31 x0 x1 s0) := by
  unfold fX8_count_L31
  refine J_swc (pc := 31) (v := -1) (tgt := 100) hc dX8_count_31 (by decide) (by decide) rfl (by decide) (by decide) ?_ (fun h31_m1 => ?_)
  · refine J_iconst (pc := 100) (v := 0) hc dX8_count_100 (by decide) ?_
    exact J_iret (pc := 101) he dX8_count_101
  refine J_swc (pc := 31) (v := 0) (tgt := 127) hc dX8_count_31 (by decide) (by decide) rfl (by decide) (by decide) ?_ (fun h31_0 => ?_)
  · refine J_aload_n (pc := 127) hc dX8_count_127 rfl rfl ?_
    refine J_getA (pc := 128) hc clX8 (k := 1) (kd := 11) (Nat.le_of_ble_eq_true rfl) rfl (Nat.le_of_ble_eq_true rfl) (Nat.le_of_ble_eq_true rfl) tw1163 rfl dX8_count_128 (fun v1 => ?_)
    refine J_iconst (pc := 131) (v := 2) hc dX8_count_131 (by decide) ?_
    refine J_iload_n (pc := 132) hc dX8_count_132 rfl rfl ?_
    refine J_iadd (pc := 133) hc dX8_count_133 ?_
    refine J_iald (pc := 134) hc dX8_count_134 (fun v2 => ?_)
    exact J_iret (pc := 135) he dX8_count_135
  refine J_swc (pc := 31) (v := 1) (tgt := 127) hc dX8_count_31 (by decide) (by decide) rfl (by decide) (by decide) ?_ (fun h31_1 => ?_)
  · refine J_aload_n (pc := 127) hc dX8_count_127 rfl rfl ?_
    refine J_getA (pc := 128) hc clX8 (k := 1) (kd := 11) (Nat.le_of_ble_eq_true rfl) rfl (Nat.le_of_ble_eq_true rfl) (Nat.le_of_ble_eq_true rfl) tw1163 rfl dX8_count_128 (fun v3 => ?_)
    refine J_iconst (pc := 131) (v := 2) hc dX8_count_131 (by decide) ?_
    refine J_iload_n (pc := 132) hc dX8_count_132 rfl rfl ?_
    refine J_iadd (pc := 133) hc dX8_count_133 ?_
    refine J_iald (pc := 134) hc dX8_count_134 (fun v4 => ?_)
    exact J_iret (pc := 135) he dX8_count_135
  refine J_swc (pc := 31) (v := 2) (tgt := 127) hc dX8_count_31 (by decide) (by decide) rfl (by decide) (by decide) ?_ (fun h31_2 => ?_)
  · refine J_aload_n (pc := 127) hc dX8_count_127 rfl rfl ?_
    refine J_getA (pc := 128) hc clX8 (k := 1) (kd := 11) (Nat.le_of_ble_eq_true rfl) rfl (Nat.le_of_ble_eq_true rfl) (Nat.le_of_ble_eq_true rfl) tw1163 rfl dX8_count_128 (fun v5 => ?_)
    refine J_iconst (pc := 131) (v := 2) hc dX8_count_131 (by decide) ?_
    refine J_iload_n (pc := 132) hc dX8_count_132 rfl rfl ?_
    refine J_iadd (pc := 133) hc dX8_count_133 ?_
    refine J_iald (pc := 134) hc dX8_count_134 (fun v6 => ?_)
    exact J_iret (pc := 135) he dX8_count_135
  refine J_swc (pc := 31) (v := 3) (tgt := 127) hc dX8_count_31 (by decide) (by decide) rfl (by decide) (by decide) ?_ (fun h31_3 => ?_)
  · refine J_aload_n (pc := 127) hc dX8_count_127 rfl rfl ?_
    refine J_getA (pc := 128) hc clX8 (k := 1) (kd := 11) (Nat.le_of_ble_eq_true rfl) rfl (Nat.le_of_ble_eq_true rfl) (Nat.le_of_ble_eq_true rfl) tw1163 rfl dX8_count_128 (fun v7 => ?_)
    refine J_iconst (pc := 131) (v := 2) hc dX8_count_131 (by decide) ?_
    refine J_iload_n (pc := 132) hc dX8_count_132 rfl rfl ?_
    refine J_iadd (pc := 133) hc dX8_count_133 ?_
    refine J_iald (pc := 134) hc dX8_count_134 (fun v8 => ?_)
    exact J_iret (pc := 135) he dX8_count_135
  refine J_swc (pc := 31) (v := 4) (tgt := 127) hc dX8_count_31 (by decide) (by decide) rfl (by decide) (by decide) ?_ (fun h31_4 => ?_)
  · refine J_aload_n (pc := 127) hc dX8_count_127 rfl rfl ?_
    refine J_getA (pc := 128) hc clX8 (k := 1) (kd := 11) (Nat.le_of_ble_eq_true rfl) rfl (Nat.le_of_ble_eq_true rfl) (Nat.le_of_ble_eq_true rfl) tw1163 rfl dX8_count_128 (fun v9 => ?_)
    refine J_iconst (pc := 131) (v := 2) hc dX8_count_131 (by decide) ?_
    refine J_iload_n (pc := 132) hc dX8_count_132 rfl rfl ?_
    refine J_iadd (pc := 133) hc dX8_count_133 ?_
    refine J_iald (pc := 134) hc dX8_count_134 (fun v10 => ?_)
    exact J_iret (pc := 135) he dX8_count_135
  refine J_swc (pc := 31) (v := 5) (tgt := 127) hc dX8_count_31 (by decide) (by decide) rfl (by decide) (by decide) ?_ (fun h31_5 => ?_)
  · refine J_aload_n (pc := 127) hc dX8_count_127 rfl rfl ?_
    refine J_getA (pc := 128) hc clX8 (k := 1) (kd := 11) (Nat.le_of_ble_eq_true rfl) rfl (Nat.le_of_ble_eq_true rfl) (Nat.le_of_ble_eq_true rfl) tw1163 rfl dX8_count_128 (fun v11 => ?_)
    refine J_iconst (pc := 131) (v := 2) hc dX8_count_131 (by decide) ?_
    refine J_iload_n (pc := 132) hc dX8_count_132 rfl rfl ?_
    refine J_iadd (pc := 133) hc dX8_count_133 ?_
    refine J_iald (pc := 134) hc dX8_count_134 (fun v12 => ?_)
    exact J_iret (pc := 135) he dX8_count_135
  refine J_swc (pc := 31) (v := 6) (tgt := 102) hc dX8_count_31 (by decide) (by decide) rfl (by decide) (by decide) ?_ (fun h31_6 => ?_)
  · refine J_aload_n (pc := 102) hc dX8_count_102 rfl rfl ?_
    refine J_getA (pc := 103) hc clX8 (k := 1) (kd := 11) (Nat.le_of_ble_eq_true rfl) rfl (Nat.le_of_ble_eq_true rfl) (Nat.le_of_ble_eq_true rfl) tw1163 rfl dX8_count_103 (fun v13 => ?_)
    refine J_iconst (pc := 106) (v := 0) hc dX8_count_106 (by decide) ?_
    refine J_iald (pc := 107) hc dX8_count_107 (fun v14 => ?_)
    exact J_iret (pc := 108) he dX8_count_108
  refine J_swc (pc := 31) (v := 7) (tgt := 109) hc dX8_count_31 (by decide) (by decide) rfl (by decide) (by decide) ?_ (fun h31_7 => ?_)
  · refine J_aload_n (pc := 109) hc dX8_count_109 rfl rfl ?_
    refine J_getA (pc := 110) hc clX8 (k := 1) (kd := 11) (Nat.le_of_ble_eq_true rfl) rfl (Nat.le_of_ble_eq_true rfl) (Nat.le_of_ble_eq_true rfl) tw1163 rfl dX8_count_110 (fun v15 => ?_)
    refine J_iconst (pc := 113) (v := 1) hc dX8_count_113 (by decide) ?_
    refine J_iald (pc := 114) hc dX8_count_114 (fun v16 => ?_)
    exact J_iret (pc := 115) he dX8_count_115
  refine J_swc (pc := 31) (v := 8) (tgt := 116) hc dX8_count_31 (by decide) (by decide) rfl (by decide) (by decide) ?_ (fun h31_8 => ?_)
  · refine J_aload_n (pc := 116) hc dX8_count_116 rfl rfl ?_
    refine J_iload_n (pc := 117) hc dX8_count_117 rfl rfl ?_
    refine J_callVi (pc := 118) hc clX8 (As := [((0, .int x1) : TV)]) (KX8_sumOf x0 x1) dX8_count_118 moX8_sumOf rfl tw1301 tw1303 twp47 tw9 tw1304 rfl (Nat.le_of_ble_eq_true rfl) (Nat.le_of_ble_eq_true rfl) (Nat.le_of_ble_eq_true rfl) (Nat.le_of_ble_eq_true rfl) (Nat.le_of_ble_eq_true rfl) rfl (fun v17 => ?_)
    exact J_iret (pc := 121) he dX8_count_121
  refine J_swc (pc := 31) (v := 9) (tgt := 116) hc dX8_count_31 (by decide) (by decide) rfl (by decide) (by decide) ?_ (fun h31_9 => ?_)
  · refine J_aload_n (pc := 116) hc dX8_count_116 rfl rfl ?_
    refine J_iload_n (pc := 117) hc dX8_count_117 rfl rfl ?_
    refine J_callVi (pc := 118) hc clX8 (As := [((0, .int x1) : TV)]) (KX8_sumOf x0 x1) dX8_count_118 moX8_sumOf rfl tw1301 tw1303 twp47 tw9 tw1304 rfl (Nat.le_of_ble_eq_true rfl) (Nat.le_of_ble_eq_true rfl) (Nat.le_of_ble_eq_true rfl) (Nat.le_of_ble_eq_true rfl) (Nat.le_of_ble_eq_true rfl) rfl (fun v18 => ?_)
    exact J_iret (pc := 121) he dX8_count_121
  refine J_swc (pc := 31) (v := 10) (tgt := 116) hc dX8_count_31 (by decide) (by decide) rfl (by decide) (by decide) ?_ (fun h31_10 => ?_)
  · refine J_aload_n (pc := 116) hc dX8_count_116 rfl rfl ?_
    refine J_iload_n (pc := 117) hc dX8_count_117 rfl rfl ?_
    refine J_callVi (pc := 118) hc clX8 (As := [((0, .int x1) : TV)]) (KX8_sumOf x0 x1) dX8_count_118 moX8_sumOf rfl tw1301 tw1303 twp47 tw9 tw1304 rfl (Nat.le_of_ble_eq_true rfl) (Nat.le_of_ble_eq_true rfl) (Nat.le_of_ble_eq_true rfl) (Nat.le_of_ble_eq_true rfl) (Nat.le_of_ble_eq_true rfl) rfl (fun v19 => ?_)
    exact J_iret (pc := 121) he dX8_count_121
  refine J_swc (pc := 31) (v := 11) (tgt := 122) hc dX8_count_31 (by decide) (by decide) rfl (by decide) (by decide) ?_ (fun h31_11 => ?_)
  · refine J_aload_n (pc := 122) hc dX8_count_122 rfl rfl ?_
    refine J_getI (pc := 123) hc clX8 (k := 4) (Nat.le_of_ble_eq_true rfl) rfl tw1166 rfl dX8_count_123 (fun v20 => ?_)
    exact J_iret (pc := 126) he dX8_count_126
  refine J_swc (pc := 31) (v := 12) (tgt := 116) hc dX8_count_31 (by decide) (by decide) rfl (by decide) (by decide) ?_ (fun h31_12 => ?_)
  · refine J_aload_n (pc := 116) hc dX8_count_116 rfl rfl ?_
    refine J_iload_n (pc := 117) hc dX8_count_117 rfl rfl ?_
    refine J_callVi (pc := 118) hc clX8 (As := [((0, .int x1) : TV)]) (KX8_sumOf x0 x1) dX8_count_118 moX8_sumOf rfl tw1301 tw1303 twp47 tw9 tw1304 rfl (Nat.le_of_ble_eq_true rfl) (Nat.le_of_ble_eq_true rfl) (Nat.le_of_ble_eq_true rfl) (Nat.le_of_ble_eq_true rfl) (Nat.le_of_ble_eq_true rfl) rfl (fun v21 => ?_)
    exact J_iret (pc := 121) he dX8_count_121
  refine J_swd (pc := 31) (tgt := 127) hc dX8_count_31 (by omega) (by decide) ?_
  · refine J_aload_n (pc := 127) hc dX8_count_127 rfl rfl ?_
    refine J_getA (pc := 128) hc clX8 (k := 1) (kd := 11) (Nat.le_of_ble_eq_true rfl) rfl (Nat.le_of_ble_eq_true rfl) (Nat.le_of_ble_eq_true rfl) tw1163 rfl dX8_count_128 (fun v22 => ?_)
    refine J_iconst (pc := 131) (v := 2) hc dX8_count_131 (by decide) ?_
    refine J_iload_n (pc := 132) hc dX8_count_132 rfl rfl ?_
    refine J_iadd (pc := 133) hc dX8_count_133 ?_
    refine J_iald (pc := 134) hc dX8_count_134 (fun v23 => ?_)
    exact J_iret (pc := 135) he dX8_count_135
set_option maxRecDepth 100000 in
set_option maxHeartbeats 4000000 in
theorem jX8_count_L16 {κ : Cx} {fin : Int32 → Mm → Prop} (hc : Jc κ RX8 cX8_count 2 6 0 0 135) (he : Ed κ cX8_count 0 0 wI .ireturn fin) (x0 : Nat) (x1 : Int32) (s0 : Int32) (s1 : Nat) : Jg κ (wM κ) 2 fin 0 0 16 [some ((8, .ref x0) : TV), some ((0, .int x1) : TV)] [((0, .int s0) : TV), ((8, .ref s1) : TV)] (fX8_count_L16 x0 x1 s0 s1) := by
  unfold fX8_count_L16
  refine J_putI (pc := 16) hc clX8 (k := 0) (Nat.le_of_ble_eq_true rfl) rfl rfl tw1162 rfl rfl dX8_count_16 ?_
  refine J_aload_n (pc := 19) hc dX8_count_19 rfl rfl ?_
  refine J_getI (pc := 20) hc clX8 (k := 0) (Nat.le_of_ble_eq_true rfl) rfl tw1162 rfl dX8_count_20 (fun v24 => ?_)
  refine J_if_le (pc := 23) (tgt := 30) hc dX8_count_23 (by decide) ?_ ?_
  · refine J_iload_n (pc := 30) hc dX8_count_30 rfl rfl ?_
    refine J_sub (l' := [some ((8, .ref x0) : TV), some ((0, .int x1) : TV)]) ⟨rfl, ⟨rfl, trivial⟩⟩ ?_
    exact jX8_count_L31 hc he x0 x1 x1
  · refine J_iconst (pc := 26) (v := (-1)) hc dX8_count_26 (by decide) ?_
    refine J_goto (pc := 27) (tgt := 31) hc dX8_count_27 (by decide) ?_
    refine J_sub (l' := [some ((8, .ref x0) : TV), some ((0, .int x1) : TV)]) ⟨rfl, ⟨rfl, trivial⟩⟩ ?_
    exact jX8_count_L31 hc he x0 x1 (-1)
set_option maxRecDepth 100000 in
set_option maxHeartbeats 4000000 in
theorem jX8_count {κ : Cx} {fin : Int32 → Mm → Prop} (hc : Jc κ RX8 cX8_count 2 6 0 0 135) (he : Ed κ cX8_count 0 0 wI .ireturn fin) (x0 : Nat) (x1 : Int32) : Jg κ (wM κ) 2 fin 0 0 0 [some ((8, .ref x0) : TV), some ((0, .int x1) : TV)] [] (fX8_count x0 x1) := by
  unfold fX8_count
  refine J_aload_n (pc := 0) hc dX8_count_0 rfl rfl ?_
  refine J_iload_n (pc := 1) hc dX8_count_1 rfl rfl ?_
  refine J_iconst (pc := 2) (v := 0) hc dX8_count_2 (by decide) ?_
  refine J_bipush (pc := 3) (v := 12) hc dX8_count_3 (by decide) ?_
  refine J_callSi (pc := 5) hc (As := [((0, .int x1) : TV), ((0, .int 0) : TV), ((0, .int 12) : TV)]) (KX8_in x1 0 12) dX8_count_5 moX8_in tw1298 tw1299 tw9 tw1300 rfl (Nat.le_of_ble_eq_true rfl) (Nat.le_of_ble_eq_true rfl) (Nat.le_of_ble_eq_true rfl) (Nat.le_of_ble_eq_true rfl) (Nat.le_of_ble_eq_true rfl) rfl (fun v25 => ?_)
  refine J_if_eq (pc := 8) (tgt := 15) hc dX8_count_8 (by decide) ?_ ?_
  · refine J_iconst (pc := 15) (v := 1) hc dX8_count_15 (by decide) ?_
    refine J_sub (l' := [some ((8, .ref x0) : TV), some ((0, .int x1) : TV)]) ⟨rfl, ⟨rfl, trivial⟩⟩ ?_
    exact jX8_count_L16 hc he x0 x1 1 x0
  · refine J_iconst (pc := 11) (v := 0) hc dX8_count_11 (by decide) ?_
    refine J_goto (pc := 12) (tgt := 16) hc dX8_count_12 (by decide) ?_
    refine J_sub (l' := [some ((8, .ref x0) : TV), some ((0, .int x1) : TV)]) ⟨rfl, ⟨rfl, trivial⟩⟩ ?_
    exact jX8_count_L16 hc he x0 x1 0 x0
theorem moX8_count : MOk yX8_count 1 := ⟨by decide +kernel, by decide +kernel, by decide +kernel⟩
set_option maxRecDepth 100000 in
set_option maxHeartbeats 4000000 in
theorem KX8_count (x0 : Nat) (x1 : Int32) : Ct wI yX8_count cX8_count 2 (some .int) 6 0 0 135 [((8, .ref x0) : TV), ((0, .int x1) : TV)] (fX8_count x0 x1) :=
  Ct_I (j := 0) (by decide +kernel) rfl rfl (Nat.le_of_ble_eq_true rfl) (fun κ fin hc he => jX8_count hc he x0 x1)
set_option maxRecDepth 100000 in
set_option maxHeartbeats 4000000 in
theorem jX8_isLine {κ : Cx} {fin : Int32 → Mm → Prop} (hc : Jc κ RX8 cX8_isLine 2 1 0 0 22) (he : EdZ κ cX8_isLine 0 0 id fin) (x0 : Nat) (x1 : Int32) : Jg κ (wM κ) 2 fin 0 0 0 [some ((8, .ref x0) : TV), some ((0, .int x1) : TV)] [] (fX8_isLine x0 x1) := by
  unfold fX8_isLine
  refine J_iload_n (pc := 0) hc dX8_isLine_0 rfl rfl ?_
  refine J_iconst (pc := 1) (v := 0) hc dX8_isLine_1 (by decide) ?_
  refine J_aload_n (pc := 2) hc dX8_isLine_2 rfl rfl ?_
  refine J_getA (pc := 3) hc clX8 (k := 1) (kd := 11) (Nat.le_of_ble_eq_true rfl) rfl (Nat.le_of_ble_eq_true rfl) (Nat.le_of_ble_eq_true rfl) tw1163 rfl dX8_isLine_3 (fun v1 => ?_)
  refine J_iconst (pc := 6) (v := 1) hc dX8_isLine_6 (by decide) ?_
  refine J_iald (pc := 7) hc dX8_isLine_7 (fun v2 => ?_)
  refine J_iconst (pc := 8) (v := 1) hc dX8_isLine_8 (by decide) ?_
  refine J_isub (pc := 9) hc dX8_isLine_9 ?_
  refine J_callSi (pc := 10) hc (As := [((0, .int x1) : TV), ((0, .int 0) : TV), ((0, .int (v2 - 1)) : TV)]) (KX8_in x1 0 (v2 - 1)) dX8_isLine_10 moX8_in tw1298 tw1299 tw9 tw1300 rfl (Nat.le_of_ble_eq_true rfl) (Nat.le_of_ble_eq_true rfl) (Nat.le_of_ble_eq_true rfl) (Nat.le_of_ble_eq_true rfl) (Nat.le_of_ble_eq_true rfl) rfl (fun v3 => ?_)
  exact J_zret (pc := 13) he dX8_isLine_13
theorem moX8_isLine : MOk yX8_isLine 1 := ⟨by decide +kernel, by decide +kernel, by decide +kernel⟩
set_option maxRecDepth 100000 in
set_option maxHeartbeats 4000000 in
theorem KX8_isLine (x0 : Nat) (x1 : Int32) : Ct wI yX8_isLine cX8_isLine 2 (some .boolean) 1 0 0 22 [((8, .ref x0) : TV), ((0, .int x1) : TV)] (fX8_isLine x0 x1) :=
  Ct_Z ⟨rfl, rfl⟩ (j := 0) (by decide +kernel) rfl rfl (Nat.le_of_ble_eq_true rfl) (fun κ fin hc he => jX8_isLine hc he x0 x1)
set_option maxRecDepth 100000 in
set_option maxHeartbeats 4000000 in
theorem jX8_isDot {κ : Cx} {fin : Int32 → Mm → Prop} (hc : Jc κ RX8 cX8_isDot 3 2 0 0 43) (he : EdZ κ cX8_isDot 0 0 id fin) (x0 : Nat) (x1 : Int32) (x2 : Int32) : Jg κ (wM κ) 3 fin 0 0 0 [some ((8, .ref x0) : TV), some ((0, .int x1) : TV), some ((0, .int x2) : TV)] [] (fX8_isDot x0 x1 x2) := by
  unfold fX8_isDot
  refine J_aload_n (pc := 0) hc dX8_isDot_0 rfl rfl ?_
  refine J_iload_n (pc := 1) hc dX8_isDot_1 rfl rfl ?_
  refine J_callVi (pc := 2) hc clX8 (As := [((0, .int x1) : TV)]) (KX8_isLine x0 x1) dX8_isDot_2 moX8_isLine rfl tw1390 tw1392 twp66 tw9 tw1393 rfl (Nat.le_of_ble_eq_true rfl) (Nat.le_of_ble_eq_true rfl) (Nat.le_of_ble_eq_true rfl) (Nat.le_of_ble_eq_true rfl) (Nat.le_of_ble_eq_true rfl) rfl (fun v1 => ?_)
  refine J_if_eq (pc := 5) (tgt := 28) hc dX8_isDot_5 (by decide) ?_ ?_
  · refine J_iconst (pc := 28) (v := 0) hc dX8_isDot_28 (by decide) ?_
    exact J_zret (pc := 29) he dX8_isDot_29
  · refine J_iload_n (pc := 8) hc dX8_isDot_8 rfl rfl ?_
    refine J_iconst (pc := 9) (v := 0) hc dX8_isDot_9 (by decide) ?_
    refine J_aload_n (pc := 10) hc dX8_isDot_10 rfl rfl ?_
    refine J_getA (pc := 11) hc clX8 (k := 1) (kd := 11) (Nat.le_of_ble_eq_true rfl) rfl (Nat.le_of_ble_eq_true rfl) (Nat.le_of_ble_eq_true rfl) tw1163 rfl dX8_isDot_11 (fun v2 => ?_)
    refine J_iconst (pc := 14) (v := 0) hc dX8_isDot_14 (by decide) ?_
    refine J_iald (pc := 15) hc dX8_isDot_15 (fun v3 => ?_)
    refine J_iconst (pc := 16) (v := 1) hc dX8_isDot_16 (by decide) ?_
    refine J_isub (pc := 17) hc dX8_isDot_17 ?_
    refine J_callSi (pc := 18) hc (As := [((0, .int x2) : TV), ((0, .int 0) : TV), ((0, .int (v3 - 1)) : TV)]) (KX8_in x2 0 (v3 - 1)) dX8_isDot_18 moX8_in tw1298 tw1299 tw9 tw1300 rfl (Nat.le_of_ble_eq_true rfl) (Nat.le_of_ble_eq_true rfl) (Nat.le_of_ble_eq_true rfl) (Nat.le_of_ble_eq_true rfl) (Nat.le_of_ble_eq_true rfl) rfl (fun v4 => ?_)
    refine J_if_eq (pc := 21) (tgt := 28) hc dX8_isDot_21 (by decide) ?_ ?_
    · refine J_iconst (pc := 28) (v := 0) hc dX8_isDot_28 (by decide) ?_
      exact J_zret (pc := 29) he dX8_isDot_29
    · refine J_iconst (pc := 24) (v := 1) hc dX8_isDot_24 (by decide) ?_
      refine J_goto (pc := 25) (tgt := 29) hc dX8_isDot_25 (by decide) ?_
      exact J_zret (pc := 29) he dX8_isDot_29
theorem moX8_isDot : MOk yX8_isDot 2 := ⟨by decide +kernel, by decide +kernel, by decide +kernel⟩
set_option maxRecDepth 100000 in
set_option maxHeartbeats 4000000 in
theorem KX8_isDot (x0 : Nat) (x1 : Int32) (x2 : Int32) : Ct wI yX8_isDot cX8_isDot 3 (some .boolean) 2 0 0 43 [((8, .ref x0) : TV), ((0, .int x1) : TV), ((0, .int x2) : TV)] (fX8_isDot x0 x1 x2) :=
  Ct_Z ⟨rfl, rfl⟩ (j := 0) (by decide +kernel) rfl rfl (Nat.le_of_ble_eq_true rfl) (fun κ fin hc he => jX8_isDot hc he x0 x1 x2)
set_option maxRecDepth 100000 in
set_option maxHeartbeats 4000000 in
theorem jX8_dot_L15 {κ : Cx} {fin : Int32 → Mm → Prop} (hc : Jc κ RX8 cX8_dot 3 3 0 0 65) (he : Ed κ cX8_dot 0 0 wI .ireturn fin) (x0 : Nat) (x1 : Int32) (x2 : Int32) (s0 : Int32) (s1 : Nat) : Jg κ (wM κ) 3 fin 0 0 15 [some ((8, .ref x0) : TV), some ((0, .int x1) : TV), some ((0, .int x2) : TV)] [((0, .int s0) : TV), ((8, .ref s1) : TV)] (fX8_dot_L15 x0 x1 x2 s0 s1) := by
  unfold fX8_dot_L15
  refine J_putI (pc := 15) hc clX8 (k := 0) (Nat.le_of_ble_eq_true rfl) rfl rfl tw1162 rfl rfl dX8_dot_15 ?_
  refine J_aload_n (pc := 18) hc dX8_dot_18 rfl rfl ?_
  refine J_getI (pc := 19) hc clX8 (k := 0) (Nat.le_of_ble_eq_true rfl) rfl tw1162 rfl dX8_dot_19 (fun v1 => ?_)
  refine J_if_le (pc := 22) (tgt := 29) hc dX8_dot_22 (by decide) ?_ ?_
  · refine J_aload_n (pc := 29) hc dX8_dot_29 rfl rfl ?_
    refine J_getA (pc := 30) hc clX8 (k := 1) (kd := 11) (Nat.le_of_ble_eq_true rfl) rfl (Nat.le_of_ble_eq_true rfl) (Nat.le_of_ble_eq_true rfl) tw1163 rfl dX8_dot_30 (fun v2 => ?_)
    refine J_iload_n (pc := 33) hc dX8_dot_33 rfl rfl ?_
    refine J_iload_n (pc := 34) hc dX8_dot_34 rfl rfl ?_
    refine J_callSi (pc := 35) hc (As := [((0, .int x1) : TV), ((0, .int x2) : TV)]) (KX8_dotAt x1 x2) dX8_dot_35 moX8_dotAt tw1309 tw1310 tw9 tw1311 rfl (Nat.le_of_ble_eq_true rfl) (Nat.le_of_ble_eq_true rfl) (Nat.le_of_ble_eq_true rfl) (Nat.le_of_ble_eq_true rfl) (Nat.le_of_ble_eq_true rfl) rfl (fun v3 => ?_)
    refine J_iald (pc := 38) hc dX8_dot_38 (fun v4 => ?_)
    exact J_iret (pc := 39) he dX8_dot_39
  · refine J_iconst (pc := 25) (v := 0) hc dX8_dot_25 (by decide) ?_
    refine J_goto (pc := 26) (tgt := 39) hc dX8_dot_26 (by decide) ?_
    exact J_iret (pc := 39) he dX8_dot_39
set_option maxRecDepth 100000 in
set_option maxHeartbeats 4000000 in
theorem jX8_dot {κ : Cx} {fin : Int32 → Mm → Prop} (hc : Jc κ RX8 cX8_dot 3 3 0 0 65) (he : Ed κ cX8_dot 0 0 wI .ireturn fin) (x0 : Nat) (x1 : Int32) (x2 : Int32) : Jg κ (wM κ) 3 fin 0 0 0 [some ((8, .ref x0) : TV), some ((0, .int x1) : TV), some ((0, .int x2) : TV)] [] (fX8_dot x0 x1 x2) := by
  unfold fX8_dot
  refine J_aload_n (pc := 0) hc dX8_dot_0 rfl rfl ?_
  refine J_aload_n (pc := 1) hc dX8_dot_1 rfl rfl ?_
  refine J_iload_n (pc := 2) hc dX8_dot_2 rfl rfl ?_
  refine J_iload_n (pc := 3) hc dX8_dot_3 rfl rfl ?_
  refine J_callVi (pc := 4) hc clX8 (As := [((0, .int x1) : TV), ((0, .int x2) : TV)]) (KX8_isDot x0 x1 x2) dX8_dot_4 moX8_isDot rfl tw1386 tw1388 twp65 tw9 tw1389 rfl (Nat.le_of_ble_eq_true rfl) (Nat.le_of_ble_eq_true rfl) (Nat.le_of_ble_eq_true rfl) (Nat.le_of_ble_eq_true rfl) (Nat.le_of_ble_eq_true rfl) rfl (fun v5 => ?_)
  refine J_if_eq (pc := 7) (tgt := 14) hc dX8_dot_7 (by decide) ?_ ?_
  · refine J_iconst (pc := 14) (v := 1) hc dX8_dot_14 (by decide) ?_
    refine J_sub (l' := [some ((8, .ref x0) : TV), some ((0, .int x1) : TV), some ((0, .int x2) : TV)]) ⟨rfl, ⟨rfl, ⟨rfl, trivial⟩⟩⟩ ?_
    exact jX8_dot_L15 hc he x0 x1 x2 1 x0
  · refine J_iconst (pc := 10) (v := 0) hc dX8_dot_10 (by decide) ?_
    refine J_goto (pc := 11) (tgt := 15) hc dX8_dot_11 (by decide) ?_
    refine J_sub (l' := [some ((8, .ref x0) : TV), some ((0, .int x1) : TV), some ((0, .int x2) : TV)]) ⟨rfl, ⟨rfl, ⟨rfl, trivial⟩⟩⟩ ?_
    exact jX8_dot_L15 hc he x0 x1 x2 0 x0
theorem moX8_dot : MOk yX8_dot 2 := ⟨by decide +kernel, by decide +kernel, by decide +kernel⟩
set_option maxRecDepth 100000 in
set_option maxHeartbeats 4000000 in
theorem KX8_dot (x0 : Nat) (x1 : Int32) (x2 : Int32) : Ct wI yX8_dot cX8_dot 3 (some .int) 3 0 0 65 [((8, .ref x0) : TV), ((0, .int x1) : TV), ((0, .int x2) : TV)] (fX8_dot x0 x1 x2) :=
  Ct_I (j := 0) (by decide +kernel) rfl rfl (Nat.le_of_ble_eq_true rfl) (fun κ fin hc he => jX8_dot hc he x0 x1 x2)
set_option maxRecDepth 100000 in
set_option maxHeartbeats 4000000 in
theorem jX8_modesOf_L28 {κ : Cx} {fin : Int32 → Mm → Prop} (hc : Jc κ RX8 cX8_modesOf 4 0 0 0 0) (he : Ed κ cX8_modesOf 0 0 wI .ireturn fin) {k4 : Nat → Int32 → Int32 → Int32 → Mm → Option (Int32 × Mm)} (hk4 : ∀ (x0 : Nat) (x1 : Int32) (x2 : Int32) (x3 : Int32), Jg κ (wM κ) 4 fin 0 0 4 [some ((8, .ref x0) : TV), some ((0, .int x1) : TV), some ((0, .int x2) : TV), some ((0, .int x3) : TV)] [] (k4 x0 x1 x2 x3)) (x0 : Nat) (x1 : Int32) (x3 : Int32) (s0 : Int32) (s1 : Int32) : Jg κ (wM κ) 4 fin 0 0 28 [some ((8, .ref x0) : TV), some ((0, .int x1) : TV), none, some ((0, .int x3) : TV)] [((0, .int s0) : TV), ((0, .int s1) : TV)] (fX8_modesOf_L28 k4 x0 x1 x3 s0 s1) := by
  unfold fX8_modesOf_L28
  refine J_iadd (pc := 28) hc dX8_modesOf_28 ?_
  refine J_nmi (fun v1 => ?_)
  refine J_istore_n (pc := 29) (l' := [some ((8, .ref x0) : TV), some ((0, .int x1) : TV), some ((0, .int v1) : TV), some ((0, .int x3) : TV)]) hc dX8_modesOf_29 rfl (by decide) rfl rfl ?_
  refine J_iinc (pc := 30) (v := x3 + 1) (l' := [some ((8, .ref x0) : TV), some ((0, .int x1) : TV), some ((0, .int v1) : TV), some ((0, .int (x3 + 1)) : TV)]) hc dX8_modesOf_30 rfl rfl (by decide) rfl rfl ?_
  refine J_goto (pc := 33) (tgt := 4) hc dX8_modesOf_33 (by decide) ?_
  refine J_sub (l' := [some ((8, .ref x0) : TV), some ((0, .int x1) : TV), some ((0, .int v1) : TV), some ((0, .int (x3 + 1)) : TV)]) ⟨rfl, ⟨rfl, ⟨rfl, ⟨rfl, trivial⟩⟩⟩⟩ ?_
  exact hk4 x0 x1 v1 (x3 + 1)
set_option maxRecDepth 100000 in
set_option maxHeartbeats 4000000 in
theorem jX8_modesOf_L4 {κ : Cx} {fin : Int32 → Mm → Prop} (hc : Jc κ RX8 cX8_modesOf 4 0 0 0 0) (he : Ed κ cX8_modesOf 0 0 wI .ireturn fin) : ∀ (n : Nat) (x0 : Nat) (x1 : Int32) (x2 : Int32) (x3 : Int32), Jg κ (wM κ) 4 fin 0 0 4 [some ((8, .ref x0) : TV), some ((0, .int x1) : TV), some ((0, .int x2) : TV), some ((0, .int x3) : TV)] [] (fX8_modesOf_L4 n x0 x1 x2 x3) := by
  intro n
  induction n with
  | zero => intro x0 x1 x2 x3; exact J_fail
  | succ n ih =>
    intro x0 x1 x2 x3
    unfold fX8_modesOf_L4
    refine J_iload_n (pc := 4) hc dX8_modesOf_4 rfl rfl ?_
    refine J_aload_n (pc := 5) hc dX8_modesOf_5 rfl rfl ?_
    refine J_getI (pc := 6) hc clX8 (k := 14) (Nat.le_of_ble_eq_true rfl) rfl tw1176 rfl dX8_modesOf_6 (fun v2 => ?_)
    refine J_icmp_ge (pc := 9) (tgt := 36) hc dX8_modesOf_9 (by decide) ?_ ?_
    · refine J_iload_n (pc := 36) hc dX8_modesOf_36 rfl rfl ?_
      exact J_iret (pc := 37) he dX8_modesOf_37
    · refine J_iload_n (pc := 12) hc dX8_modesOf_12 rfl rfl ?_
      refine J_aload_n (pc := 13) hc dX8_modesOf_13 rfl rfl ?_
      refine J_getA (pc := 14) hc clX8 (k := 10) (kd := 11) (Nat.le_of_ble_eq_true rfl) rfl (Nat.le_of_ble_eq_true rfl) (Nat.le_of_ble_eq_true rfl) tw1172 rfl dX8_modesOf_14 (fun v3 => ?_)
      refine J_iload_n (pc := 17) hc dX8_modesOf_17 rfl rfl ?_
      refine J_iald (pc := 18) hc dX8_modesOf_18 (fun v4 => ?_)
      refine J_iload_n (pc := 19) hc dX8_modesOf_19 rfl rfl ?_
      refine J_icmp_ne (pc := 20) (tgt := 27) hc dX8_modesOf_20 (by decide) ?_ ?_
      · refine J_iconst (pc := 27) (v := 0) hc dX8_modesOf_27 (by decide) ?_
        refine J_sub (l' := [some ((8, .ref x0) : TV), some ((0, .int x1) : TV), none, some ((0, .int x3) : TV)]) ⟨rfl, ⟨rfl, ⟨rfl, trivial⟩⟩⟩ ?_
        exact jX8_modesOf_L28 hc he ih x0 x1 x3 0 x2
      · refine J_iconst (pc := 23) (v := 1) hc dX8_modesOf_23 (by decide) ?_
        refine J_goto (pc := 24) (tgt := 28) hc dX8_modesOf_24 (by decide) ?_
        refine J_sub (l' := [some ((8, .ref x0) : TV), some ((0, .int x1) : TV), none, some ((0, .int x3) : TV)]) ⟨rfl, ⟨rfl, ⟨rfl, trivial⟩⟩⟩ ?_
        exact jX8_modesOf_L28 hc he ih x0 x1 x3 1 x2
set_option maxRecDepth 100000 in
set_option maxHeartbeats 4000000 in
theorem jX8_modesOf {κ : Cx} {fin : Int32 → Mm → Prop} (hc : Jc κ RX8 cX8_modesOf 4 0 0 0 0) (he : Ed κ cX8_modesOf 0 0 wI .ireturn fin) (x0 : Nat) (x1 : Int32) : Jg κ (wM κ) 4 fin 0 0 0 [some ((8, .ref x0) : TV), some ((0, .int x1) : TV), none, none] [] (fX8_modesOf x0 x1) := by
  unfold fX8_modesOf
  refine J_iconst (pc := 0) (v := 0) hc dX8_modesOf_0 (by decide) ?_
  refine J_istore_n (pc := 1) (l' := [some ((8, .ref x0) : TV), some ((0, .int x1) : TV), some ((0, .int 0) : TV), none]) hc dX8_modesOf_1 rfl (by decide) rfl rfl ?_
  refine J_iconst (pc := 2) (v := 0) hc dX8_modesOf_2 (by decide) ?_
  refine J_istore_n (pc := 3) (l' := [some ((8, .ref x0) : TV), some ((0, .int x1) : TV), some ((0, .int 0) : TV), some ((0, .int 0) : TV)]) hc dX8_modesOf_3 rfl (by decide) rfl rfl ?_
  refine J_sub (l' := [some ((8, .ref x0) : TV), some ((0, .int x1) : TV), some ((0, .int 0) : TV), some ((0, .int 0) : TV)]) ⟨rfl, ⟨rfl, ⟨rfl, ⟨rfl, trivial⟩⟩⟩⟩ ?_
  exact jX8_modesOf_L4 hc he fu x0 x1 0 0
theorem moX8_modesOf : MOk yX8_modesOf 1 := ⟨by decide +kernel, by decide +kernel, by decide +kernel⟩
set_option maxRecDepth 100000 in
set_option maxHeartbeats 4000000 in
theorem KX8_modesOf (x0 : Nat) (x1 : Int32) : Ct wI yX8_modesOf cX8_modesOf 4 (some .int) 0 0 0 0 [((8, .ref x0) : TV), ((0, .int x1) : TV)] (fX8_modesOf x0 x1) :=
  Ct_I (j := 2) (by decide +kernel) rfl rfl (Nat.le_of_ble_eq_true rfl) (fun κ fin hc he => jX8_modesOf hc he x0 x1)
set_option maxRecDepth 100000 in
set_option maxHeartbeats 4000000 in
theorem jX8_line_L28 {κ : Cx} {fin : Int32 → Mm → Prop} (hc : Jc κ RX8 cX8_line 3 6 0 0 134) (he : Ed κ cX8_line 0 0 wI .ireturn fin) (x0 : Nat) (x1 : Int32) (x2 : Int32) (s0 : Int32) (s1 : Nat) : Jg κ (wM κ) 3 fin 0 0 28 [some ((8, .ref x0) : TV), some ((0, .int x1) : TV), some ((0, .int x2) : TV)] [((0, .int s0) : TV), ((8, .ref s1) : TV)] (fX8_line_L28 x0 x1 x2 s0 s1) := by
  unfold fX8_line_L28
  refine J_putI (pc := 28) hc clX8 (k := 0) (Nat.le_of_ble_eq_true rfl) rfl rfl tw1162 rfl rfl dX8_line_28 ?_
  refine J_aload_n (pc := 31) hc dX8_line_31 rfl rfl ?_
  refine J_getI (pc := 32) hc clX8 (k := 0) (Nat.le_of_ble_eq_true rfl) rfl tw1162 rfl dX8_line_32 (fun v1 => ?_)
  refine J_if_le (pc := 35) (tgt := 40) hc dX8_line_35 (by decide) ?_ ?_
  · refine J_aload_n (pc := 40) hc dX8_line_40 rfl rfl ?_
    refine J_iload_n (pc := 41) hc dX8_line_41 rfl rfl ?_
    refine J_callVv (pc := 42) hc clX8 (As := [((0, .int x1) : TV)]) (KX8_codesLine x0 x1) dX8_line_42 moX8_codesLine rfl tw1324 tw1326 twp52 tw9 tw1327 rfl (Nat.le_of_ble_eq_true rfl) (Nat.le_of_ble_eq_true rfl) (Nat.le_of_ble_eq_true rfl) (Nat.le_of_ble_eq_true rfl) (Nat.le_of_ble_eq_true rfl) rfl (fun _ => ?_)
    refine J_iload_n (pc := 45) hc dX8_line_45 rfl rfl ?_
    refine J_swc (pc := 46) (v := 0) (tgt := 108) hc dX8_line_46 (by decide) (by decide) rfl (by decide) (by decide) ?_ (fun h46_0 => ?_)
    · refine J_aload_n (pc := 108) hc dX8_line_108 rfl rfl ?_
      refine J_iload_n (pc := 109) hc dX8_line_109 rfl rfl ?_
      refine J_callVi (pc := 110) hc clX8 (As := [((0, .int x1) : TV)]) (KX8_isMark x0 x1) dX8_line_110 moX8_isMark rfl tw1320 tw1322 twp51 tw9 tw1323 rfl (Nat.le_of_ble_eq_true rfl) (Nat.le_of_ble_eq_true rfl) (Nat.le_of_ble_eq_true rfl) (Nat.le_of_ble_eq_true rfl) (Nat.le_of_ble_eq_true rfl) rfl (fun v2 => ?_)
      refine J_if_eq (pc := 113) (tgt := 120) hc dX8_line_113 (by decide) ?_ ?_
      · refine J_iconst (pc := 120) (v := 0) hc dX8_line_120 (by decide) ?_
        exact J_iret (pc := 121) he dX8_line_121
      · refine J_iconst (pc := 116) (v := 1) hc dX8_line_116 (by decide) ?_
        refine J_goto (pc := 117) (tgt := 121) hc dX8_line_117 (by decide) ?_
        exact J_iret (pc := 121) he dX8_line_121
    refine J_swc (pc := 46) (v := 1) (tgt := 122) hc dX8_line_46 (by decide) (by decide) rfl (by decide) (by decide) ?_ (fun h46_1 => ?_)
    · refine J_aload_n (pc := 122) hc dX8_line_122 rfl rfl ?_
      refine J_callVi (pc := 123) hc clX8 (As := []) (KX8_aloneBits x0) dX8_line_123 moX8_aloneBits rfl tw1367 tw1369 twp62 tw9 tw1370 rfl (Nat.le_of_ble_eq_true rfl) (Nat.le_of_ble_eq_true rfl) (Nat.le_of_ble_eq_true rfl) (Nat.le_of_ble_eq_true rfl) (Nat.le_of_ble_eq_true rfl) rfl (fun v3 => ?_)
      exact J_iret (pc := 126) he dX8_line_126
    refine J_swc (pc := 46) (v := 2) (tgt := 127) hc dX8_line_46 (by decide) (by decide) rfl (by decide) (by decide) ?_ (fun h46_2 => ?_)
    · refine J_aload_n (pc := 127) hc dX8_line_127 rfl rfl ?_
      refine J_callVi (pc := 128) hc clX8 (As := []) (KX8_codeBits x0) dX8_line_128 moX8_codeBits rfl tw1374 tw1376 twp63 tw9 tw1377 rfl (Nat.le_of_ble_eq_true rfl) (Nat.le_of_ble_eq_true rfl) (Nat.le_of_ble_eq_true rfl) (Nat.le_of_ble_eq_true rfl) (Nat.le_of_ble_eq_true rfl) rfl (fun v4 => ?_)
      exact J_iret (pc := 131) he dX8_line_131
    refine J_swc (pc := 46) (v := 3) (tgt := 132) hc dX8_line_46 (by decide) (by decide) rfl (by decide) (by decide) ?_ (fun h46_3 => ?_)
    · refine J_aload_n (pc := 132) hc dX8_line_132 rfl rfl ?_
      refine J_iload_n (pc := 133) hc dX8_line_133 rfl rfl ?_
      refine J_callVi (pc := 134) hc clX8 (As := [((0, .int x1) : TV)]) (KX8_sentBits x0 x1) dX8_line_134 moX8_sentBits rfl tw1398 tw1400 twp67 tw9 tw1401 rfl (Nat.le_of_ble_eq_true rfl) (Nat.le_of_ble_eq_true rfl) (Nat.le_of_ble_eq_true rfl) (Nat.le_of_ble_eq_true rfl) (Nat.le_of_ble_eq_true rfl) rfl (fun v5 => ?_)
      exact J_iret (pc := 137) he dX8_line_137
    refine J_swc (pc := 46) (v := 4) (tgt := 138) hc dX8_line_46 (by decide) (by decide) rfl (by decide) (by decide) ?_ (fun h46_4 => ?_)
    · refine J_aload_n (pc := 138) hc dX8_line_138 rfl rfl ?_
      refine J_getI (pc := 139) hc clX8 (k := 19) (Nat.le_of_ble_eq_true rfl) rfl tw1181 rfl dX8_line_139 (fun v6 => ?_)
      exact J_iret (pc := 142) he dX8_line_142
    refine J_swc (pc := 46) (v := 5) (tgt := 143) hc dX8_line_46 (by decide) (by decide) rfl (by decide) (by decide) ?_ (fun h46_5 => ?_)
    · refine J_aload_n (pc := 143) hc dX8_line_143 rfl rfl ?_
      refine J_getI (pc := 144) hc clX8 (k := 14) (Nat.le_of_ble_eq_true rfl) rfl tw1176 rfl dX8_line_144 (fun v7 => ?_)
      exact J_iret (pc := 147) he dX8_line_147
    refine J_swc (pc := 46) (v := 6) (tgt := 170) hc dX8_line_46 (by decide) (by decide) rfl (by decide) (by decide) ?_ (fun h46_6 => ?_)
    · refine J_aload_n (pc := 170) hc dX8_line_170 rfl rfl ?_
      refine J_iload_n (pc := 171) hc dX8_line_171 rfl rfl ?_
      refine J_bipush (pc := 172) (v := 6) hc dX8_line_172 (by decide) ?_
      refine J_isub (pc := 174) hc dX8_line_174 ?_
      refine J_callVi (pc := 175) hc clX8 (As := [((0, .int (x2 - 6)) : TV)]) (KX8_modesOf x0 (x2 - 6)) dX8_line_175 moX8_modesOf rfl tw1406 tw1408 twp69 tw9 tw1409 rfl (Nat.le_of_ble_eq_true rfl) (Nat.le_of_ble_eq_true rfl) (Nat.le_of_ble_eq_true rfl) (Nat.le_of_ble_eq_true rfl) (Nat.le_of_ble_eq_true rfl) rfl (fun v8 => ?_)
      exact J_iret (pc := 178) he dX8_line_178
    refine J_swc (pc := 46) (v := 7) (tgt := 170) hc dX8_line_46 (by decide) (by decide) rfl (by decide) (by decide) ?_ (fun h46_7 => ?_)
    · refine J_aload_n (pc := 170) hc dX8_line_170 rfl rfl ?_
      refine J_iload_n (pc := 171) hc dX8_line_171 rfl rfl ?_
      refine J_bipush (pc := 172) (v := 6) hc dX8_line_172 (by decide) ?_
      refine J_isub (pc := 174) hc dX8_line_174 ?_
      refine J_callVi (pc := 175) hc clX8 (As := [((0, .int (x2 - 6)) : TV)]) (KX8_modesOf x0 (x2 - 6)) dX8_line_175 moX8_modesOf rfl tw1406 tw1408 twp69 tw9 tw1409 rfl (Nat.le_of_ble_eq_true rfl) (Nat.le_of_ble_eq_true rfl) (Nat.le_of_ble_eq_true rfl) (Nat.le_of_ble_eq_true rfl) (Nat.le_of_ble_eq_true rfl) rfl (fun v9 => ?_)
      exact J_iret (pc := 178) he dX8_line_178
    refine J_swc (pc := 46) (v := 8) (tgt := 170) hc dX8_line_46 (by decide) (by decide) rfl (by decide) (by decide) ?_ (fun h46_8 => ?_)
    · refine J_aload_n (pc := 170) hc dX8_line_170 rfl rfl ?_
      refine J_iload_n (pc := 171) hc dX8_line_171 rfl rfl ?_
      refine J_bipush (pc := 172) (v := 6) hc dX8_line_172 (by decide) ?_
      refine J_isub (pc := 174) hc dX8_line_174 ?_
      refine J_callVi (pc := 175) hc clX8 (As := [((0, .int (x2 - 6)) : TV)]) (KX8_modesOf x0 (x2 - 6)) dX8_line_175 moX8_modesOf rfl tw1406 tw1408 twp69 tw9 tw1409 rfl (Nat.le_of_ble_eq_true rfl) (Nat.le_of_ble_eq_true rfl) (Nat.le_of_ble_eq_true rfl) (Nat.le_of_ble_eq_true rfl) (Nat.le_of_ble_eq_true rfl) rfl (fun v10 => ?_)
      exact J_iret (pc := 178) he dX8_line_178
    refine J_swc (pc := 46) (v := 9) (tgt := 148) hc dX8_line_46 (by decide) (by decide) rfl (by decide) (by decide) ?_ (fun h46_9 => ?_)
    · refine J_aload_n (pc := 148) hc dX8_line_148 rfl rfl ?_
      refine J_getA (pc := 149) hc clX8 (k := 1) (kd := 11) (Nat.le_of_ble_eq_true rfl) rfl (Nat.le_of_ble_eq_true rfl) (Nat.le_of_ble_eq_true rfl) tw1163 rfl dX8_line_149 (fun v11 => ?_)
      refine J_bipush (pc := 152) (v := 8) hc dX8_line_152 (by decide) ?_
      refine J_iload_n (pc := 154) hc dX8_line_154 rfl rfl ?_
      refine J_iadd (pc := 155) hc dX8_line_155 ?_
      refine J_iald (pc := 156) hc dX8_line_156 (fun v12 => ?_)
      exact J_iret (pc := 157) he dX8_line_157
    refine J_swc (pc := 46) (v := 10) (tgt := 158) hc dX8_line_46 (by decide) (by decide) rfl (by decide) (by decide) ?_ (fun h46_10 => ?_)
    · refine J_aload_n (pc := 158) hc dX8_line_158 rfl rfl ?_
      refine J_iload_n (pc := 159) hc dX8_line_159 rfl rfl ?_
      refine J_callVi (pc := 160) hc clX8 (As := [((0, .int x1) : TV)]) (KX8_blacks x0 x1) dX8_line_160 moX8_blacks rfl tw1305 tw1307 twp48 tw9 tw1308 rfl (Nat.le_of_ble_eq_true rfl) (Nat.le_of_ble_eq_true rfl) (Nat.le_of_ble_eq_true rfl) (Nat.le_of_ble_eq_true rfl) (Nat.le_of_ble_eq_true rfl) rfl (fun v13 => ?_)
      exact J_iret (pc := 163) he dX8_line_163
    refine J_swc (pc := 46) (v := 11) (tgt := 164) hc dX8_line_46 (by decide) (by decide) rfl (by decide) (by decide) ?_ (fun h46_11 => ?_)
    · refine J_aload_n (pc := 164) hc dX8_line_164 rfl rfl ?_
      refine J_iload_n (pc := 165) hc dX8_line_165 rfl rfl ?_
      refine J_callVi (pc := 166) hc clX8 (As := [((0, .int x1) : TV)]) (KX8_markUpTo x0 x1) dX8_line_166 moX8_markUpTo rfl tw1402 tw1404 twp68 tw9 tw1405 rfl (Nat.le_of_ble_eq_true rfl) (Nat.le_of_ble_eq_true rfl) (Nat.le_of_ble_eq_true rfl) (Nat.le_of_ble_eq_true rfl) (Nat.le_of_ble_eq_true rfl) rfl (fun v14 => ?_)
      exact J_iret (pc := 169) he dX8_line_169
    refine J_swd (pc := 46) (tgt := 170) hc dX8_line_46 (by omega) (by decide) ?_
    · refine J_aload_n (pc := 170) hc dX8_line_170 rfl rfl ?_
      refine J_iload_n (pc := 171) hc dX8_line_171 rfl rfl ?_
      refine J_bipush (pc := 172) (v := 6) hc dX8_line_172 (by decide) ?_
      refine J_isub (pc := 174) hc dX8_line_174 ?_
      refine J_callVi (pc := 175) hc clX8 (As := [((0, .int (x2 - 6)) : TV)]) (KX8_modesOf x0 (x2 - 6)) dX8_line_175 moX8_modesOf rfl tw1406 tw1408 twp69 tw9 tw1409 rfl (Nat.le_of_ble_eq_true rfl) (Nat.le_of_ble_eq_true rfl) (Nat.le_of_ble_eq_true rfl) (Nat.le_of_ble_eq_true rfl) (Nat.le_of_ble_eq_true rfl) rfl (fun v15 => ?_)
      exact J_iret (pc := 178) he dX8_line_178
  · refine J_iconst (pc := 38) (v := 0) hc dX8_line_38 (by decide) ?_
    exact J_iret (pc := 39) he dX8_line_39
set_option maxRecDepth 100000 in
set_option maxHeartbeats 4000000 in
theorem jX8_line {κ : Cx} {fin : Int32 → Mm → Prop} (hc : Jc κ RX8 cX8_line 3 6 0 0 134) (he : Ed κ cX8_line 0 0 wI .ireturn fin) (x0 : Nat) (x1 : Int32) (x2 : Int32) : Jg κ (wM κ) 3 fin 0 0 0 [some ((8, .ref x0) : TV), some ((0, .int x1) : TV), some ((0, .int x2) : TV)] [] (fX8_line x0 x1 x2) := by
  unfold fX8_line
  refine J_aload_n (pc := 0) hc dX8_line_0 rfl rfl ?_
  refine J_aload_n (pc := 1) hc dX8_line_1 rfl rfl ?_
  refine J_iload_n (pc := 2) hc dX8_line_2 rfl rfl ?_
  refine J_callVi (pc := 3) hc clX8 (As := [((0, .int x1) : TV)]) (KX8_isLine x0 x1) dX8_line_3 moX8_isLine rfl tw1390 tw1392 twp66 tw9 tw1393 rfl (Nat.le_of_ble_eq_true rfl) (Nat.le_of_ble_eq_true rfl) (Nat.le_of_ble_eq_true rfl) (Nat.le_of_ble_eq_true rfl) (Nat.le_of_ble_eq_true rfl) rfl (fun v16 => ?_)
  refine J_if_ne (pc := 6) (tgt := 13) hc dX8_line_6 (by decide) ?_ ?_
  · refine J_iload_n (pc := 13) hc dX8_line_13 rfl rfl ?_
    refine J_iconst (pc := 14) (v := 0) hc dX8_line_14 (by decide) ?_
    refine J_bipush (pc := 15) (v := 11) hc dX8_line_15 (by decide) ?_
    refine J_callSi (pc := 17) hc (As := [((0, .int x2) : TV), ((0, .int 0) : TV), ((0, .int 11) : TV)]) (KX8_in x2 0 11) dX8_line_17 moX8_in tw1298 tw1299 tw9 tw1300 rfl (Nat.le_of_ble_eq_true rfl) (Nat.le_of_ble_eq_true rfl) (Nat.le_of_ble_eq_true rfl) (Nat.le_of_ble_eq_true rfl) (Nat.le_of_ble_eq_true rfl) rfl (fun v17 => ?_)
    refine J_if_eq (pc := 20) (tgt := 27) hc dX8_line_20 (by decide) ?_ ?_
    · refine J_iconst (pc := 27) (v := 2) hc dX8_line_27 (by decide) ?_
      refine J_sub (l' := [some ((8, .ref x0) : TV), some ((0, .int x1) : TV), some ((0, .int x2) : TV)]) ⟨rfl, ⟨rfl, ⟨rfl, trivial⟩⟩⟩ ?_
      exact jX8_line_L28 hc he x0 x1 x2 2 x0
    · refine J_iconst (pc := 23) (v := 0) hc dX8_line_23 (by decide) ?_
      refine J_goto (pc := 24) (tgt := 28) hc dX8_line_24 (by decide) ?_
      refine J_sub (l' := [some ((8, .ref x0) : TV), some ((0, .int x1) : TV), some ((0, .int x2) : TV)]) ⟨rfl, ⟨rfl, ⟨rfl, trivial⟩⟩⟩ ?_
      exact jX8_line_L28 hc he x0 x1 x2 0 x0
  · refine J_iconst (pc := 9) (v := 1) hc dX8_line_9 (by decide) ?_
    refine J_goto (pc := 10) (tgt := 28) hc dX8_line_10 (by decide) ?_
    refine J_sub (l' := [some ((8, .ref x0) : TV), some ((0, .int x1) : TV), some ((0, .int x2) : TV)]) ⟨rfl, ⟨rfl, ⟨rfl, trivial⟩⟩⟩ ?_
    exact jX8_line_L28 hc he x0 x1 x2 1 x0
theorem moX8_line : MOk yX8_line 2 := ⟨by decide +kernel, by decide +kernel, by decide +kernel⟩
set_option maxRecDepth 100000 in
set_option maxHeartbeats 4000000 in
theorem KX8_line (x0 : Nat) (x1 : Int32) (x2 : Int32) : Ct wI yX8_line cX8_line 3 (some .int) 6 0 0 134 [((8, .ref x0) : TV), ((0, .int x1) : TV), ((0, .int x2) : TV)] (fX8_line x0 x1 x2) :=
  Ct_I (j := 0) (by decide +kernel) rfl rfl (Nat.le_of_ble_eq_true rfl) (fun κ fin hc he => jX8_line hc he x0 x1 x2)
set_option maxRecDepth 100000 in
set_option maxHeartbeats 4000000 in
theorem jX8_run_L18 {κ : Cx} {fin : Int32 → Mm → Prop} (hc : Jc κ RX8 cX8_run 3 4 0 0 91) (he : Ed κ cX8_run 0 0 wI .ireturn fin) (x0 : Nat) (x1 : Int32) (x2 : Int32) (s0 : Int32) (s1 : Nat) : Jg κ (wM κ) 3 fin 0 0 18 [some ((8, .ref x0) : TV), some ((0, .int x1) : TV), some ((0, .int x2) : TV)] [((0, .int s0) : TV), ((8, .ref s1) : TV)] (fX8_run_L18 x0 x1 x2 s0 s1) := by
  unfold fX8_run_L18
  refine J_putI (pc := 18) hc clX8 (k := 0) (Nat.le_of_ble_eq_true rfl) rfl rfl tw1162 rfl rfl dX8_run_18 ?_
  refine J_aload_n (pc := 21) hc dX8_run_21 rfl rfl ?_
  refine J_getI (pc := 22) hc clX8 (k := 0) (Nat.le_of_ble_eq_true rfl) rfl tw1162 rfl dX8_run_22 (fun v1 => ?_)
  refine J_if_le (pc := 25) (tgt := 30) hc dX8_run_25 (by decide) ?_ ?_
  · refine J_aload_n (pc := 30) hc dX8_run_30 rfl rfl ?_
    refine J_iload_n (pc := 31) hc dX8_run_31 rfl rfl ?_
    refine J_callVv (pc := 32) hc clX8 (As := [((0, .int x1) : TV)]) (KX8_codesLine x0 x1) dX8_run_32 moX8_codesLine rfl tw1324 tw1326 twp52 tw9 tw1327 rfl (Nat.le_of_ble_eq_true rfl) (Nat.le_of_ble_eq_true rfl) (Nat.le_of_ble_eq_true rfl) (Nat.le_of_ble_eq_true rfl) (Nat.le_of_ble_eq_true rfl) rfl (fun _ => ?_)
    refine J_iload_n (pc := 35) hc dX8_run_35 rfl rfl ?_
    refine J_aload_n (pc := 36) hc dX8_run_36 rfl rfl ?_
    refine J_getI (pc := 37) hc clX8 (k := 19) (Nat.le_of_ble_eq_true rfl) rfl tw1181 rfl dX8_run_37 (fun v2 => ?_)
    refine J_icmp_ge (pc := 40) (tgt := 52) hc dX8_run_40 (by decide) ?_ ?_
    · refine J_iconst (pc := 52) (v := (-1)) hc dX8_run_52 (by decide) ?_
      exact J_iret (pc := 53) he dX8_run_53
    · refine J_aload_n (pc := 43) hc dX8_run_43 rfl rfl ?_
      refine J_getA (pc := 44) hc clX8 (k := 18) (kd := 11) (Nat.le_of_ble_eq_true rfl) rfl (Nat.le_of_ble_eq_true rfl) (Nat.le_of_ble_eq_true rfl) tw1180 rfl dX8_run_44 (fun v3 => ?_)
      refine J_iload_n (pc := 47) hc dX8_run_47 rfl rfl ?_
      refine J_iald (pc := 48) hc dX8_run_48 (fun v4 => ?_)
      refine J_goto (pc := 49) (tgt := 53) hc dX8_run_49 (by decide) ?_
      exact J_iret (pc := 53) he dX8_run_53
  · refine J_iconst (pc := 28) (v := 0) hc dX8_run_28 (by decide) ?_
    exact J_iret (pc := 29) he dX8_run_29
set_option maxRecDepth 100000 in
set_option maxHeartbeats 4000000 in
theorem jX8_run_L17 {κ : Cx} {fin : Int32 → Mm → Prop} (hc : Jc κ RX8 cX8_run 3 4 0 0 91) (he : Ed κ cX8_run 0 0 wI .ireturn fin) (x0 : Nat) (x1 : Int32) (x2 : Int32) (s0 : Nat) : Jg κ (wM κ) 3 fin 0 0 17 [some ((8, .ref x0) : TV), some ((0, .int x1) : TV), some ((0, .int x2) : TV)] [((8, .ref s0) : TV)] (fX8_run_L17 x0 x1 x2 s0) := by
  unfold fX8_run_L17
  refine J_iconst (pc := 17) (v := 1) hc dX8_run_17 (by decide) ?_
  refine J_sub (l' := [some ((8, .ref x0) : TV), some ((0, .int x1) : TV), some ((0, .int x2) : TV)]) ⟨rfl, ⟨rfl, ⟨rfl, trivial⟩⟩⟩ ?_
  exact jX8_run_L18 hc he x0 x1 x2 1 s0
set_option maxRecDepth 100000 in
set_option maxHeartbeats 4000000 in
theorem jX8_run {κ : Cx} {fin : Int32 → Mm → Prop} (hc : Jc κ RX8 cX8_run 3 4 0 0 91) (he : Ed κ cX8_run 0 0 wI .ireturn fin) (x0 : Nat) (x1 : Int32) (x2 : Int32) : Jg κ (wM κ) 3 fin 0 0 0 [some ((8, .ref x0) : TV), some ((0, .int x1) : TV), some ((0, .int x2) : TV)] [] (fX8_run x0 x1 x2) := by
  unfold fX8_run
  refine J_aload_n (pc := 0) hc dX8_run_0 rfl rfl ?_
  refine J_aload_n (pc := 1) hc dX8_run_1 rfl rfl ?_
  refine J_iload_n (pc := 2) hc dX8_run_2 rfl rfl ?_
  refine J_callVi (pc := 3) hc clX8 (As := [((0, .int x1) : TV)]) (KX8_isLine x0 x1) dX8_run_3 moX8_isLine rfl tw1390 tw1392 twp66 tw9 tw1393 rfl (Nat.le_of_ble_eq_true rfl) (Nat.le_of_ble_eq_true rfl) (Nat.le_of_ble_eq_true rfl) (Nat.le_of_ble_eq_true rfl) (Nat.le_of_ble_eq_true rfl) rfl (fun v5 => ?_)
  refine J_if_eq (pc := 6) (tgt := 17) hc dX8_run_6 (by decide) ?_ ?_
  · refine J_sub (l' := [some ((8, .ref x0) : TV), some ((0, .int x1) : TV), some ((0, .int x2) : TV)]) ⟨rfl, ⟨rfl, ⟨rfl, trivial⟩⟩⟩ ?_
    exact jX8_run_L17 hc he x0 x1 x2 x0
  · refine J_iload_n (pc := 9) hc dX8_run_9 rfl rfl ?_
    refine J_if_lt (pc := 10) (tgt := 17) hc dX8_run_10 (by decide) ?_ ?_
    · refine J_sub (l' := [some ((8, .ref x0) : TV), some ((0, .int x1) : TV), some ((0, .int x2) : TV)]) ⟨rfl, ⟨rfl, ⟨rfl, trivial⟩⟩⟩ ?_
      exact jX8_run_L17 hc he x0 x1 x2 x0
    · refine J_iconst (pc := 13) (v := 0) hc dX8_run_13 (by decide) ?_
      refine J_goto (pc := 14) (tgt := 18) hc dX8_run_14 (by decide) ?_
      refine J_sub (l' := [some ((8, .ref x0) : TV), some ((0, .int x1) : TV), some ((0, .int x2) : TV)]) ⟨rfl, ⟨rfl, ⟨rfl, trivial⟩⟩⟩ ?_
      exact jX8_run_L18 hc he x0 x1 x2 0 x0
theorem moX8_run : MOk yX8_run 2 := ⟨by decide +kernel, by decide +kernel, by decide +kernel⟩
set_option maxRecDepth 100000 in
set_option maxHeartbeats 4000000 in
theorem KX8_run (x0 : Nat) (x1 : Int32) (x2 : Int32) : Ct wI yX8_run cX8_run 3 (some .int) 4 0 0 91 [((8, .ref x0) : TV), ((0, .int x1) : TV), ((0, .int x2) : TV)] (fX8_run x0 x1 x2) :=
  Ct_I (j := 0) (by decide +kernel) rfl rfl (Nat.le_of_ble_eq_true rfl) (fun κ fin hc he => jX8_run hc he x0 x1 x2)
set_option maxRecDepth 100000 in
set_option maxHeartbeats 4000000 in
theorem jX8_mode_L31 {κ : Cx} {fin : Int32 → Mm → Prop} (hc : Jc κ RX8 cX8_mode 4 4 0 0 91) (he : Ed κ cX8_mode 0 0 wI .ireturn fin) (x0 : Nat) (x1 : Int32) (x2 : Int32) (x3 : Int32) (s0 : Int32) (s1 : Nat) : Jg κ (wM κ) 4 fin 0 0 31 [some ((8, .ref x0) : TV), some ((0, .int x1) : TV), some ((0, .int x2) : TV), some ((0, .int x3) : TV)] [((0, .int s0) : TV), ((8, .ref s1) : TV)] (fX8_mode_L31 x0 x1 x2 x3 s0 s1) := by
  unfold fX8_mode_L31
  refine J_putI (pc := 31) hc clX8 (k := 0) (Nat.le_of_ble_eq_true rfl) rfl rfl tw1162 rfl rfl dX8_mode_31 ?_
  refine J_aload_n (pc := 34) hc dX8_mode_34 rfl rfl ?_
  refine J_getI (pc := 35) hc clX8 (k := 0) (Nat.le_of_ble_eq_true rfl) rfl tw1162 rfl dX8_mode_35 (fun v1 => ?_)
  refine J_if_le (pc := 38) (tgt := 43) hc dX8_mode_38 (by decide) ?_ ?_
  · refine J_aload_n (pc := 43) hc dX8_mode_43 rfl rfl ?_
    refine J_iload_n (pc := 44) hc dX8_mode_44 rfl rfl ?_
    refine J_callVv (pc := 45) hc clX8 (As := [((0, .int x1) : TV)]) (KX8_codesLine x0 x1) dX8_mode_45 moX8_codesLine rfl tw1324 tw1326 twp52 tw9 tw1327 rfl (Nat.le_of_ble_eq_true rfl) (Nat.le_of_ble_eq_true rfl) (Nat.le_of_ble_eq_true rfl) (Nat.le_of_ble_eq_true rfl) (Nat.le_of_ble_eq_true rfl) rfl (fun _ => ?_)
    refine J_iload_n (pc := 48) hc dX8_mode_48 rfl rfl ?_
    refine J_aload_n (pc := 49) hc dX8_mode_49 rfl rfl ?_
    refine J_getI (pc := 50) hc clX8 (k := 14) (Nat.le_of_ble_eq_true rfl) rfl tw1176 rfl dX8_mode_50 (fun v2 => ?_)
    refine J_icmp_lt (pc := 53) (tgt := 59) hc dX8_mode_53 (by decide) ?_ ?_
    · refine J_iload_n (pc := 59) hc dX8_mode_59 rfl rfl ?_
      refine J_if_ne (pc := 60) (tgt := 72) hc dX8_mode_60 (by decide) ?_ ?_
      · refine J_iload_n (pc := 72) hc dX8_mode_72 rfl rfl ?_
        refine J_iconst (pc := 73) (v := 1) hc dX8_mode_73 (by decide) ?_
        refine J_icmp_ne (pc := 74) (tgt := 86) hc dX8_mode_74 (by decide) ?_ ?_
        · refine J_iload_n (pc := 86) hc dX8_mode_86 rfl rfl ?_
          refine J_iconst (pc := 87) (v := 2) hc dX8_mode_87 (by decide) ?_
          refine J_icmp_ne (pc := 88) (tgt := 100) hc dX8_mode_88 (by decide) ?_ ?_
          · refine J_aload_n (pc := 100) hc dX8_mode_100 rfl rfl ?_
            refine J_getA (pc := 101) hc clX8 (k := 13) (kd := 11) (Nat.le_of_ble_eq_true rfl) rfl (Nat.le_of_ble_eq_true rfl) (Nat.le_of_ble_eq_true rfl) tw1175 rfl dX8_mode_101 (fun v3 => ?_)
            refine J_iload_n (pc := 104) hc dX8_mode_104 rfl rfl ?_
            refine J_iald (pc := 105) hc dX8_mode_105 (fun v4 => ?_)
            exact J_iret (pc := 106) he dX8_mode_106
          · refine J_aload_n (pc := 91) hc dX8_mode_91 rfl rfl ?_
            refine J_getA (pc := 92) hc clX8 (k := 12) (kd := 11) (Nat.le_of_ble_eq_true rfl) rfl (Nat.le_of_ble_eq_true rfl) (Nat.le_of_ble_eq_true rfl) tw1174 rfl dX8_mode_92 (fun v5 => ?_)
            refine J_iload_n (pc := 95) hc dX8_mode_95 rfl rfl ?_
            refine J_iald (pc := 96) hc dX8_mode_96 (fun v6 => ?_)
            refine J_goto (pc := 97) (tgt := 106) hc dX8_mode_97 (by decide) ?_
            exact J_iret (pc := 106) he dX8_mode_106
        · refine J_aload_n (pc := 77) hc dX8_mode_77 rfl rfl ?_
          refine J_getA (pc := 78) hc clX8 (k := 11) (kd := 11) (Nat.le_of_ble_eq_true rfl) rfl (Nat.le_of_ble_eq_true rfl) (Nat.le_of_ble_eq_true rfl) tw1173 rfl dX8_mode_78 (fun v7 => ?_)
          refine J_iload_n (pc := 81) hc dX8_mode_81 rfl rfl ?_
          refine J_iald (pc := 82) hc dX8_mode_82 (fun v8 => ?_)
          refine J_goto (pc := 83) (tgt := 106) hc dX8_mode_83 (by decide) ?_
          exact J_iret (pc := 106) he dX8_mode_106
      · refine J_aload_n (pc := 63) hc dX8_mode_63 rfl rfl ?_
        refine J_getA (pc := 64) hc clX8 (k := 10) (kd := 11) (Nat.le_of_ble_eq_true rfl) rfl (Nat.le_of_ble_eq_true rfl) (Nat.le_of_ble_eq_true rfl) tw1172 rfl dX8_mode_64 (fun v9 => ?_)
        refine J_iload_n (pc := 67) hc dX8_mode_67 rfl rfl ?_
        refine J_iald (pc := 68) hc dX8_mode_68 (fun v10 => ?_)
        refine J_goto (pc := 69) (tgt := 106) hc dX8_mode_69 (by decide) ?_
        exact J_iret (pc := 106) he dX8_mode_106
    · refine J_bipush (pc := 56) (v := (-9)) hc dX8_mode_56 (by decide) ?_
      exact J_iret (pc := 58) he dX8_mode_58
  · refine J_iconst (pc := 41) (v := 0) hc dX8_mode_41 (by decide) ?_
    exact J_iret (pc := 42) he dX8_mode_42
set_option maxRecDepth 100000 in
set_option maxHeartbeats 4000000 in
theorem jX8_mode_L13 {κ : Cx} {fin : Int32 → Mm → Prop} (hc : Jc κ RX8 cX8_mode 4 4 0 0 91) (he : Ed κ cX8_mode 0 0 wI .ireturn fin) (x0 : Nat) (x1 : Int32) (x2 : Int32) (x3 : Int32) (s0 : Nat) : Jg κ (wM κ) 4 fin 0 0 13 [some ((8, .ref x0) : TV), some ((0, .int x1) : TV), some ((0, .int x2) : TV), some ((0, .int x3) : TV)] [((8, .ref s0) : TV)] (fX8_mode_L13 x0 x1 x2 x3 s0) := by
  unfold fX8_mode_L13
  refine J_iconst (pc := 13) (v := 1) hc dX8_mode_13 (by decide) ?_
  refine J_goto (pc := 14) (tgt := 31) hc dX8_mode_14 (by decide) ?_
  refine J_sub (l' := [some ((8, .ref x0) : TV), some ((0, .int x1) : TV), some ((0, .int x2) : TV), some ((0, .int x3) : TV)]) ⟨rfl, ⟨rfl, ⟨rfl, ⟨rfl, trivial⟩⟩⟩⟩ ?_
  exact jX8_mode_L31 hc he x0 x1 x2 x3 1 s0
set_option maxRecDepth 100000 in
set_option maxHeartbeats 4000000 in
theorem jX8_mode {κ : Cx} {fin : Int32 → Mm → Prop} (hc : Jc κ RX8 cX8_mode 4 4 0 0 91) (he : Ed κ cX8_mode 0 0 wI .ireturn fin) (x0 : Nat) (x1 : Int32) (x2 : Int32) (x3 : Int32) : Jg κ (wM κ) 4 fin 0 0 0 [some ((8, .ref x0) : TV), some ((0, .int x1) : TV), some ((0, .int x2) : TV), some ((0, .int x3) : TV)] [] (fX8_mode x0 x1 x2 x3) := by
  unfold fX8_mode
  refine J_aload_n (pc := 0) hc dX8_mode_0 rfl rfl ?_
  refine J_aload_n (pc := 1) hc dX8_mode_1 rfl rfl ?_
  refine J_iload_n (pc := 2) hc dX8_mode_2 rfl rfl ?_
  refine J_callVi (pc := 3) hc clX8 (As := [((0, .int x1) : TV)]) (KX8_isLine x0 x1) dX8_mode_3 moX8_isLine rfl tw1390 tw1392 twp66 tw9 tw1393 rfl (Nat.le_of_ble_eq_true rfl) (Nat.le_of_ble_eq_true rfl) (Nat.le_of_ble_eq_true rfl) (Nat.le_of_ble_eq_true rfl) (Nat.le_of_ble_eq_true rfl) rfl (fun v11 => ?_)
  refine J_if_eq (pc := 6) (tgt := 13) hc dX8_mode_6 (by decide) ?_ ?_
  · refine J_sub (l' := [some ((8, .ref x0) : TV), some ((0, .int x1) : TV), some ((0, .int x2) : TV), some ((0, .int x3) : TV)]) ⟨rfl, ⟨rfl, ⟨rfl, ⟨rfl, trivial⟩⟩⟩⟩ ?_
    exact jX8_mode_L13 hc he x0 x1 x2 x3 x0
  · refine J_iload_n (pc := 9) hc dX8_mode_9 rfl rfl ?_
    refine J_if_ge (pc := 10) (tgt := 17) hc dX8_mode_10 (by decide) ?_ ?_
    · refine J_iload_n (pc := 17) hc dX8_mode_17 rfl rfl ?_
      refine J_iconst (pc := 18) (v := 0) hc dX8_mode_18 (by decide) ?_
      refine J_iconst (pc := 19) (v := 3) hc dX8_mode_19 (by decide) ?_
      refine J_callSi (pc := 20) hc (As := [((0, .int x3) : TV), ((0, .int 0) : TV), ((0, .int 3) : TV)]) (KX8_in x3 0 3) dX8_mode_20 moX8_in tw1298 tw1299 tw9 tw1300 rfl (Nat.le_of_ble_eq_true rfl) (Nat.le_of_ble_eq_true rfl) (Nat.le_of_ble_eq_true rfl) (Nat.le_of_ble_eq_true rfl) (Nat.le_of_ble_eq_true rfl) rfl (fun v12 => ?_)
      refine J_if_eq (pc := 23) (tgt := 30) hc dX8_mode_23 (by decide) ?_ ?_
      · refine J_iconst (pc := 30) (v := 2) hc dX8_mode_30 (by decide) ?_
        refine J_sub (l' := [some ((8, .ref x0) : TV), some ((0, .int x1) : TV), some ((0, .int x2) : TV), some ((0, .int x3) : TV)]) ⟨rfl, ⟨rfl, ⟨rfl, ⟨rfl, trivial⟩⟩⟩⟩ ?_
        exact jX8_mode_L31 hc he x0 x1 x2 x3 2 x0
      · refine J_iconst (pc := 26) (v := 0) hc dX8_mode_26 (by decide) ?_
        refine J_goto (pc := 27) (tgt := 31) hc dX8_mode_27 (by decide) ?_
        refine J_sub (l' := [some ((8, .ref x0) : TV), some ((0, .int x1) : TV), some ((0, .int x2) : TV), some ((0, .int x3) : TV)]) ⟨rfl, ⟨rfl, ⟨rfl, ⟨rfl, trivial⟩⟩⟩⟩ ?_
        exact jX8_mode_L31 hc he x0 x1 x2 x3 0 x0
    · refine J_sub (l' := [some ((8, .ref x0) : TV), some ((0, .int x1) : TV), some ((0, .int x2) : TV), some ((0, .int x3) : TV)]) ⟨rfl, ⟨rfl, ⟨rfl, ⟨rfl, trivial⟩⟩⟩⟩ ?_
      exact jX8_mode_L13 hc he x0 x1 x2 x3 x0
theorem moX8_mode : MOk yX8_mode 3 := ⟨by decide +kernel, by decide +kernel, by decide +kernel⟩
set_option maxRecDepth 100000 in
set_option maxHeartbeats 4000000 in
theorem KX8_mode (x0 : Nat) (x1 : Int32) (x2 : Int32) (x3 : Int32) : Ct wI yX8_mode cX8_mode 4 (some .int) 4 0 0 91 [((8, .ref x0) : TV), ((0, .int x1) : TV), ((0, .int x2) : TV), ((0, .int x3) : TV)] (fX8_mode x0 x1 x2 x3) :=
  Ct_I (j := 0) (by decide +kernel) rfl rfl (Nat.le_of_ble_eq_true rfl) (fun κ fin hc he => jX8_mode hc he x0 x1 x2 x3)
set_option maxRecDepth 100000 in
set_option maxHeartbeats 4000000 in
theorem jX8_change_L103 {κ : Cx} {fin : Int32 → Mm → Prop} (hc : Jc κ RX8 cX8_change 6 2 0 0 43) (he : Ed κ cX8_change 0 0 wI .ireturn fin) (x0 : Nat) : Jg κ (wM κ) 6 fin 0 0 103 [some ((8, .ref x0) : TV), none, none, none, none, none] [] (fX8_change_L103 x0) := by
  unfold fX8_change_L103
  refine J_aload_n (pc := 103) hc dX8_change_103 rfl rfl ?_
  refine J_getI (pc := 104) hc clX8 (k := 0) (Nat.le_of_ble_eq_true rfl) rfl tw1162 rfl dX8_change_104 (fun v1 => ?_)
  refine J_if_le (pc := 107) (tgt := 114) hc dX8_change_107 (by decide) ?_ ?_
  · refine J_iconst (pc := 114) (v := (-1)) hc dX8_change_114 (by decide) ?_
    exact J_iret (pc := 115) he dX8_change_115
  · refine J_iconst (pc := 110) (v := 0) hc dX8_change_110 (by decide) ?_
    refine J_goto (pc := 111) (tgt := 115) hc dX8_change_111 (by decide) ?_
    exact J_iret (pc := 115) he dX8_change_115
set_option maxRecDepth 100000 in
set_option maxHeartbeats 4000000 in
theorem jX8_change_L95 {κ : Cx} {fin : Int32 → Mm → Prop} (hc : Jc κ RX8 cX8_change 6 2 0 0 43) (he : Ed κ cX8_change 0 0 wI .ireturn fin) {k26 : Nat → Int32 → Int32 → Int32 → Mm → Option (Int32 × Mm)} (hk26 : ∀ (x0 : Nat) (x1 : Int32) (x3 : Int32) (x4 : Int32), Jg κ (wM κ) 6 fin 0 0 26 [some ((8, .ref x0) : TV), some ((0, .int x1) : TV), none, some ((0, .int x3) : TV), some ((0, .int x4) : TV), none] [] (k26 x0 x1 x3 x4)) (x0 : Nat) (x1 : Int32) (x4 : Int32) (s0 : Int32) (s1 : Int32) : Jg κ (wM κ) 6 fin 0 0 95 [some ((8, .ref x0) : TV), some ((0, .int x1) : TV), none, none, some ((0, .int x4) : TV), none] [((0, .int s0) : TV), ((0, .int s1) : TV)] (fX8_change_L95 k26 x0 x1 x4 s0 s1) := by
  unfold fX8_change_L95
  refine J_isub (pc := 95) hc dX8_change_95 ?_
  refine J_nmi (fun v2 => ?_)
  refine J_istore_n (pc := 96) (l' := [some ((8, .ref x0) : TV), some ((0, .int x1) : TV), none, some ((0, .int v2) : TV), some ((0, .int x4) : TV), none]) hc dX8_change_96 rfl (by decide) rfl rfl ?_
  refine J_iinc (pc := 97) (v := x4 + 1) (l' := [some ((8, .ref x0) : TV), some ((0, .int x1) : TV), none, some ((0, .int v2) : TV), some ((0, .int (x4 + 1)) : TV), none]) hc dX8_change_97 rfl rfl (by decide) rfl rfl ?_
  refine J_goto (pc := 100) (tgt := 26) hc dX8_change_100 (by decide) ?_
  refine J_sub (l' := [some ((8, .ref x0) : TV), some ((0, .int x1) : TV), none, some ((0, .int v2) : TV), some ((0, .int (x4 + 1)) : TV), none]) ⟨rfl, ⟨rfl, ⟨rfl, ⟨rfl, trivial⟩⟩⟩⟩ ?_
  exact hk26 x0 x1 v2 (x4 + 1)
set_option maxRecDepth 100000 in
set_option maxHeartbeats 4000000 in
theorem jX8_change_L84 {κ : Cx} {fin : Int32 → Mm → Prop} (hc : Jc κ RX8 cX8_change 6 2 0 0 43) (he : Ed κ cX8_change 0 0 wI .ireturn fin) {k26 : Nat → Int32 → Int32 → Int32 → Mm → Option (Int32 × Mm)} (hk26 : ∀ (x0 : Nat) (x1 : Int32) (x3 : Int32) (x4 : Int32), Jg κ (wM κ) 6 fin 0 0 26 [some ((8, .ref x0) : TV), some ((0, .int x1) : TV), none, some ((0, .int x3) : TV), some ((0, .int x4) : TV), none] [] (k26 x0 x1 x3 x4)) (x0 : Nat) (x1 : Int32) (x3 : Int32) (x4 : Int32) (x5 : Int32) : Jg κ (wM κ) 6 fin 0 0 84 [some ((8, .ref x0) : TV), some ((0, .int x1) : TV), none, some ((0, .int x3) : TV), some ((0, .int x4) : TV), some ((0, .int x5) : TV)] [] (fX8_change_L84 k26 x0 x1 x3 x4 x5) := by
  unfold fX8_change_L84
  refine J_iload_n (pc := 84) hc dX8_change_84 rfl rfl ?_
  refine J_iload (pc := 85) hc dX8_change_85 rfl ?_
  refine J_if_eq (pc := 87) (tgt := 94) hc dX8_change_87 (by decide) ?_ ?_
  · refine J_iconst (pc := 94) (v := 0) hc dX8_change_94 (by decide) ?_
    refine J_sub (l' := [some ((8, .ref x0) : TV), some ((0, .int x1) : TV), none, none, some ((0, .int x4) : TV), none]) ⟨rfl, ⟨rfl, ⟨rfl, trivial⟩⟩⟩ ?_
    exact jX8_change_L95 hc he hk26 x0 x1 x4 0 x3
  · refine J_iconst (pc := 90) (v := 1) hc dX8_change_90 (by decide) ?_
    refine J_goto (pc := 91) (tgt := 95) hc dX8_change_91 (by decide) ?_
    refine J_sub (l' := [some ((8, .ref x0) : TV), some ((0, .int x1) : TV), none, none, some ((0, .int x4) : TV), none]) ⟨rfl, ⟨rfl, ⟨rfl, trivial⟩⟩⟩ ?_
    exact jX8_change_L95 hc he hk26 x0 x1 x4 1 x3
set_option maxRecDepth 100000 in
set_option maxHeartbeats 4000000 in
theorem jX8_change_L70 {κ : Cx} {fin : Int32 → Mm → Prop} (hc : Jc κ RX8 cX8_change 6 2 0 0 43) (he : Ed κ cX8_change 0 0 wI .ireturn fin) {k26 : Nat → Int32 → Int32 → Int32 → Mm → Option (Int32 × Mm)} (hk26 : ∀ (x0 : Nat) (x1 : Int32) (x3 : Int32) (x4 : Int32), Jg κ (wM κ) 6 fin 0 0 26 [some ((8, .ref x0) : TV), some ((0, .int x1) : TV), none, some ((0, .int x3) : TV), some ((0, .int x4) : TV), none] [] (k26 x0 x1 x3 x4)) (x0 : Nat) (x1 : Int32) (x3 : Int32) (x4 : Int32) (s0 : Int32) : Jg κ (wM κ) 6 fin 0 0 70 [some ((8, .ref x0) : TV), some ((0, .int x1) : TV), none, some ((0, .int x3) : TV), some ((0, .int x4) : TV), none] [((0, .int s0) : TV)] (fX8_change_L70 k26 x0 x1 x3 x4 s0) := by
  unfold fX8_change_L70
  refine J_istore (pc := 70) (l' := [some ((8, .ref x0) : TV), some ((0, .int x1) : TV), none, some ((0, .int x3) : TV), some ((0, .int x4) : TV), some ((0, .int s0) : TV)]) hc dX8_change_70 (by decide) rfl rfl ?_
  refine J_iload (pc := 72) hc dX8_change_72 rfl ?_
  refine J_if_eq (pc := 74) (tgt := 84) hc dX8_change_74 (by decide) ?_ ?_
  · refine J_sub (l' := [some ((8, .ref x0) : TV), some ((0, .int x1) : TV), none, some ((0, .int x3) : TV), some ((0, .int x4) : TV), some ((0, .int s0) : TV)]) ⟨rfl, ⟨rfl, ⟨rfl, ⟨rfl, ⟨rfl, trivial⟩⟩⟩⟩⟩ ?_
    exact jX8_change_L84 hc he hk26 x0 x1 x3 x4 s0
  · refine J_iload_n (pc := 77) hc dX8_change_77 rfl rfl ?_
    refine J_if_ne (pc := 78) (tgt := 84) hc dX8_change_78 (by decide) ?_ ?_
    · refine J_sub (l' := [some ((8, .ref x0) : TV), some ((0, .int x1) : TV), none, some ((0, .int x3) : TV), some ((0, .int x4) : TV), some ((0, .int s0) : TV)]) ⟨rfl, ⟨rfl, ⟨rfl, ⟨rfl, ⟨rfl, trivial⟩⟩⟩⟩⟩ ?_
      exact jX8_change_L84 hc he hk26 x0 x1 x3 x4 s0
    · refine J_iload (pc := 81) hc dX8_change_81 rfl ?_
      exact J_iret (pc := 83) he dX8_change_83
set_option maxRecDepth 100000 in
set_option maxHeartbeats 4000000 in
theorem jX8_change_L26 {κ : Cx} {fin : Int32 → Mm → Prop} (hc : Jc κ RX8 cX8_change 6 2 0 0 43) (he : Ed κ cX8_change 0 0 wI .ireturn fin) : ∀ (n : Nat) (x0 : Nat) (x1 : Int32) (x3 : Int32) (x4 : Int32), Jg κ (wM κ) 6 fin 0 0 26 [some ((8, .ref x0) : TV), some ((0, .int x1) : TV), none, some ((0, .int x3) : TV), some ((0, .int x4) : TV), none] [] (fX8_change_L26 n x0 x1 x3 x4) := by
  intro n
  induction n with
  | zero => intro x0 x1 x3 x4; exact J_fail
  | succ n ih =>
    intro x0 x1 x3 x4
    unfold fX8_change_L26
    refine J_iload (pc := 26) hc dX8_change_26 rfl ?_
    refine J_aload_n (pc := 28) hc dX8_change_28 rfl rfl ?_
    refine J_getA (pc := 29) hc clX8 (k := 1) (kd := 11) (Nat.le_of_ble_eq_true rfl) rfl (Nat.le_of_ble_eq_true rfl) (Nat.le_of_ble_eq_true rfl) tw1163 rfl dX8_change_29 (fun v3 => ?_)
    refine J_iconst (pc := 32) (v := 0) hc dX8_change_32 (by decide) ?_
    refine J_iald (pc := 33) hc dX8_change_33 (fun v4 => ?_)
    refine J_icmp_ge (pc := 34) (tgt := 103) hc dX8_change_34 (by decide) ?_ ?_
    · refine J_sub (l' := [some ((8, .ref x0) : TV), none, none, none, none, none]) ⟨rfl, trivial⟩ ?_
      exact jX8_change_L103 hc he x0
    · refine J_aload_n (pc := 37) hc dX8_change_37 rfl rfl ?_
      refine J_getI (pc := 38) hc clX8 (k := 0) (Nat.le_of_ble_eq_true rfl) rfl tw1162 rfl dX8_change_38 (fun v5 => ?_)
      refine J_if_ne (pc := 41) (tgt := 103) hc dX8_change_41 (by decide) ?_ ?_
      · refine J_sub (l' := [some ((8, .ref x0) : TV), none, none, none, none, none]) ⟨rfl, trivial⟩ ?_
        exact jX8_change_L103 hc he x0
      · refine J_aload_n (pc := 44) hc dX8_change_44 rfl rfl ?_
        refine J_getA (pc := 45) hc clX8 (k := 1) (kd := 11) (Nat.le_of_ble_eq_true rfl) rfl (Nat.le_of_ble_eq_true rfl) (Nat.le_of_ble_eq_true rfl) tw1163 rfl dX8_change_45 (fun v6 => ?_)
        refine J_iload_n (pc := 48) hc dX8_change_48 rfl rfl ?_
        refine J_iload (pc := 49) hc dX8_change_49 rfl ?_
        refine J_callSi (pc := 51) hc (As := [((0, .int x1) : TV), ((0, .int x4) : TV)]) (KX8_dotAt x1 x4) dX8_change_51 moX8_dotAt tw1309 tw1310 tw9 tw1311 rfl (Nat.le_of_ble_eq_true rfl) (Nat.le_of_ble_eq_true rfl) (Nat.le_of_ble_eq_true rfl) (Nat.le_of_ble_eq_true rfl) (Nat.le_of_ble_eq_true rfl) rfl (fun v7 => ?_)
        refine J_iald (pc := 54) hc dX8_change_54 (fun v8 => ?_)
        refine J_aload_n (pc := 55) hc dX8_change_55 rfl rfl ?_
        refine J_iload_n (pc := 56) hc dX8_change_56 rfl rfl ?_
        refine J_iload (pc := 57) hc dX8_change_57 rfl ?_
        refine J_callVi (pc := 59) hc clX8 (As := [((0, .int x1) : TV), ((0, .int x4) : TV)]) (KX8_ahead x0 x1 x4) dX8_change_59 moX8_ahead rfl tw1316 tw1318 twp50 tw9 tw1319 rfl (Nat.le_of_ble_eq_true rfl) (Nat.le_of_ble_eq_true rfl) (Nat.le_of_ble_eq_true rfl) (Nat.le_of_ble_eq_true rfl) (Nat.le_of_ble_eq_true rfl) rfl (fun v9 => ?_)
        refine J_icmp_eq (pc := 62) (tgt := 69) hc dX8_change_62 (by decide) ?_ ?_
        · refine J_iconst (pc := 69) (v := 0) hc dX8_change_69 (by decide) ?_
          refine J_sub (l' := [some ((8, .ref x0) : TV), some ((0, .int x1) : TV), none, some ((0, .int x3) : TV), some ((0, .int x4) : TV), none]) ⟨rfl, ⟨rfl, ⟨rfl, ⟨rfl, trivial⟩⟩⟩⟩ ?_
          exact jX8_change_L70 hc he ih x0 x1 x3 x4 0
        · refine J_iconst (pc := 65) (v := 1) hc dX8_change_65 (by decide) ?_
          refine J_goto (pc := 66) (tgt := 70) hc dX8_change_66 (by decide) ?_
          refine J_sub (l' := [some ((8, .ref x0) : TV), some ((0, .int x1) : TV), none, some ((0, .int x3) : TV), some ((0, .int x4) : TV), none]) ⟨rfl, ⟨rfl, ⟨rfl, ⟨rfl, trivial⟩⟩⟩⟩ ?_
          exact jX8_change_L70 hc he ih x0 x1 x3 x4 1
set_option maxRecDepth 100000 in
set_option maxHeartbeats 4000000 in
theorem jX8_change_L18 {κ : Cx} {fin : Int32 → Mm → Prop} (hc : Jc κ RX8 cX8_change 6 2 0 0 43) (he : Ed κ cX8_change 0 0 wI .ireturn fin) (x0 : Nat) (x1 : Int32) (x2 : Int32) (s0 : Int32) (s1 : Nat) : Jg κ (wM κ) 6 fin 0 0 18 [some ((8, .ref x0) : TV), some ((0, .int x1) : TV), some ((0, .int x2) : TV), none, none, none] [((0, .int s0) : TV), ((8, .ref s1) : TV)] (fX8_change_L18 x0 x1 x2 s0 s1) := by
  unfold fX8_change_L18
  refine J_putI (pc := 18) hc clX8 (k := 0) (Nat.le_of_ble_eq_true rfl) rfl rfl tw1162 rfl rfl dX8_change_18 ?_
  refine J_iload_n (pc := 21) hc dX8_change_21 rfl rfl ?_
  refine J_istore_n (pc := 22) (l' := [some ((8, .ref x0) : TV), some ((0, .int x1) : TV), some ((0, .int x2) : TV), some ((0, .int x2) : TV), none, none]) hc dX8_change_22 rfl (by decide) rfl rfl ?_
  refine J_iconst (pc := 23) (v := 0) hc dX8_change_23 (by decide) ?_
  refine J_istore (pc := 24) (l' := [some ((8, .ref x0) : TV), some ((0, .int x1) : TV), some ((0, .int x2) : TV), some ((0, .int x2) : TV), some ((0, .int 0) : TV), none]) hc dX8_change_24 (by decide) rfl rfl ?_
  refine J_sub (l' := [some ((8, .ref x0) : TV), some ((0, .int x1) : TV), none, some ((0, .int x2) : TV), some ((0, .int 0) : TV), none]) ⟨rfl, ⟨rfl, ⟨rfl, ⟨rfl, trivial⟩⟩⟩⟩ ?_
  exact jX8_change_L26 hc he fu x0 x1 x2 0
set_option maxRecDepth 100000 in
set_option maxHeartbeats 4000000 in
theorem jX8_change_L17 {κ : Cx} {fin : Int32 → Mm → Prop} (hc : Jc κ RX8 cX8_change 6 2 0 0 43) (he : Ed κ cX8_change 0 0 wI .ireturn fin) (x0 : Nat) (x1 : Int32) (x2 : Int32) (s0 : Nat) : Jg κ (wM κ) 6 fin 0 0 17 [some ((8, .ref x0) : TV), some ((0, .int x1) : TV), some ((0, .int x2) : TV), none, none, none] [((8, .ref s0) : TV)] (fX8_change_L17 x0 x1 x2 s0) := by
  unfold fX8_change_L17
  refine J_iconst (pc := 17) (v := 1) hc dX8_change_17 (by decide) ?_
  refine J_sub (l' := [some ((8, .ref x0) : TV), some ((0, .int x1) : TV), some ((0, .int x2) : TV), none, none, none]) ⟨rfl, ⟨rfl, ⟨rfl, trivial⟩⟩⟩ ?_
  exact jX8_change_L18 hc he x0 x1 x2 1 s0
set_option maxRecDepth 100000 in
set_option maxHeartbeats 4000000 in
theorem jX8_change {κ : Cx} {fin : Int32 → Mm → Prop} (hc : Jc κ RX8 cX8_change 6 2 0 0 43) (he : Ed κ cX8_change 0 0 wI .ireturn fin) (x0 : Nat) (x1 : Int32) (x2 : Int32) : Jg κ (wM κ) 6 fin 0 0 0 [some ((8, .ref x0) : TV), some ((0, .int x1) : TV), some ((0, .int x2) : TV), none, none, none] [] (fX8_change x0 x1 x2) := by
  unfold fX8_change
  refine J_aload_n (pc := 0) hc dX8_change_0 rfl rfl ?_
  refine J_aload_n (pc := 1) hc dX8_change_1 rfl rfl ?_
  refine J_iload_n (pc := 2) hc dX8_change_2 rfl rfl ?_
  refine J_callVi (pc := 3) hc clX8 (As := [((0, .int x1) : TV)]) (KX8_isLine x0 x1) dX8_change_3 moX8_isLine rfl tw1390 tw1392 twp66 tw9 tw1393 rfl (Nat.le_of_ble_eq_true rfl) (Nat.le_of_ble_eq_true rfl) (Nat.le_of_ble_eq_true rfl) (Nat.le_of_ble_eq_true rfl) (Nat.le_of_ble_eq_true rfl) rfl (fun v10 => ?_)
  refine J_if_eq (pc := 6) (tgt := 17) hc dX8_change_6 (by decide) ?_ ?_
  · refine J_sub (l' := [some ((8, .ref x0) : TV), some ((0, .int x1) : TV), some ((0, .int x2) : TV), none, none, none]) ⟨rfl, ⟨rfl, ⟨rfl, trivial⟩⟩⟩ ?_
    exact jX8_change_L17 hc he x0 x1 x2 x0
  · refine J_iload_n (pc := 9) hc dX8_change_9 rfl rfl ?_
    refine J_if_lt (pc := 10) (tgt := 17) hc dX8_change_10 (by decide) ?_ ?_
    · refine J_sub (l' := [some ((8, .ref x0) : TV), some ((0, .int x1) : TV), some ((0, .int x2) : TV), none, none, none]) ⟨rfl, ⟨rfl, ⟨rfl, trivial⟩⟩⟩ ?_
      exact jX8_change_L17 hc he x0 x1 x2 x0
    · refine J_iconst (pc := 13) (v := 0) hc dX8_change_13 (by decide) ?_
      refine J_goto (pc := 14) (tgt := 18) hc dX8_change_14 (by decide) ?_
      refine J_sub (l' := [some ((8, .ref x0) : TV), some ((0, .int x1) : TV), some ((0, .int x2) : TV), none, none, none]) ⟨rfl, ⟨rfl, ⟨rfl, trivial⟩⟩⟩ ?_
      exact jX8_change_L18 hc he x0 x1 x2 0 x0
theorem moX8_change : MOk yX8_change 2 := ⟨by decide +kernel, by decide +kernel, by decide +kernel⟩
set_option maxRecDepth 100000 in
set_option maxHeartbeats 4000000 in
theorem KX8_change (x0 : Nat) (x1 : Int32) (x2 : Int32) : Ct wI yX8_change cX8_change 6 (some .int) 2 0 0 43 [((8, .ref x0) : TV), ((0, .int x1) : TV), ((0, .int x2) : TV)] (fX8_change x0 x1 x2) :=
  Ct_I (j := 3) (by decide +kernel) rfl rfl (Nat.le_of_ble_eq_true rfl) (fun κ fin hc he => jX8_change hc he x0 x1 x2)
set_option maxRecDepth 100000 in
set_option maxHeartbeats 4000000 in
theorem jX8_rowFrom_L35 {κ : Cx} {fin : Int32 → Mm → Prop} (hc : Jc κ RX8 cX8_rowFrom 5 1 0 0 21) (he : Ed κ cX8_rowFrom 0 0 wI .ireturn fin) (x2 : Int32) (x4 : Int32) : Jg κ (wM κ) 5 fin 0 0 35 [none, none, some ((0, .int x2) : TV), none, some ((0, .int x4) : TV)] [] (fX8_rowFrom_L35 x2 x4) := by
  unfold fX8_rowFrom_L35
  refine J_iload (pc := 35) hc dX8_rowFrom_35 rfl ?_
  refine J_iload_n (pc := 37) hc dX8_rowFrom_37 rfl rfl ?_
  refine J_isub (pc := 38) hc dX8_rowFrom_38 ?_
  exact J_iret (pc := 39) he dX8_rowFrom_39
set_option maxRecDepth 100000 in
set_option maxHeartbeats 4000000 in
theorem jX8_rowFrom_L3 {κ : Cx} {fin : Int32 → Mm → Prop} (hc : Jc κ RX8 cX8_rowFrom 5 1 0 0 21) (he : Ed κ cX8_rowFrom 0 0 wI .ireturn fin) : ∀ (n : Nat) (x0 : Nat) (x1 : Int32) (x2 : Int32) (x3 : Int32) (x4 : Int32), Jg κ (wM κ) 5 fin 0 0 3 [some ((8, .ref x0) : TV), some ((0, .int x1) : TV), some ((0, .int x2) : TV), some ((0, .int x3) : TV), some ((0, .int x4) : TV)] [] (fX8_rowFrom_L3 n x0 x1 x2 x3 x4) := by
  intro n
  induction n with
  | zero => intro x0 x1 x2 x3 x4; exact J_fail
  | succ n ih =>
    intro x0 x1 x2 x3 x4
    unfold fX8_rowFrom_L3
    refine J_iload (pc := 3) hc dX8_rowFrom_3 rfl ?_
    refine J_aload_n (pc := 5) hc dX8_rowFrom_5 rfl rfl ?_
    refine J_getA (pc := 6) hc clX8 (k := 1) (kd := 11) (Nat.le_of_ble_eq_true rfl) rfl (Nat.le_of_ble_eq_true rfl) (Nat.le_of_ble_eq_true rfl) tw1163 rfl dX8_rowFrom_6 (fun v1 => ?_)
    refine J_iconst (pc := 9) (v := 0) hc dX8_rowFrom_9 (by decide) ?_
    refine J_iald (pc := 10) hc dX8_rowFrom_10 (fun v2 => ?_)
    refine J_icmp_ge (pc := 11) (tgt := 35) hc dX8_rowFrom_11 (by decide) ?_ ?_
    · refine J_sub (l' := [none, none, some ((0, .int x2) : TV), none, some ((0, .int x4) : TV)]) ⟨rfl, ⟨rfl, trivial⟩⟩ ?_
      exact jX8_rowFrom_L35 hc he x2 x4
    · refine J_aload_n (pc := 14) hc dX8_rowFrom_14 rfl rfl ?_
      refine J_getA (pc := 15) hc clX8 (k := 1) (kd := 11) (Nat.le_of_ble_eq_true rfl) rfl (Nat.le_of_ble_eq_true rfl) (Nat.le_of_ble_eq_true rfl) tw1163 rfl dX8_rowFrom_15 (fun v3 => ?_)
      refine J_iload_n (pc := 18) hc dX8_rowFrom_18 rfl rfl ?_
      refine J_iload (pc := 19) hc dX8_rowFrom_19 rfl ?_
      refine J_callSi (pc := 21) hc (As := [((0, .int x1) : TV), ((0, .int x4) : TV)]) (KX8_dotAt x1 x4) dX8_rowFrom_21 moX8_dotAt tw1309 tw1310 tw9 tw1311 rfl (Nat.le_of_ble_eq_true rfl) (Nat.le_of_ble_eq_true rfl) (Nat.le_of_ble_eq_true rfl) (Nat.le_of_ble_eq_true rfl) (Nat.le_of_ble_eq_true rfl) rfl (fun v4 => ?_)
      refine J_iald (pc := 24) hc dX8_rowFrom_24 (fun v5 => ?_)
      refine J_iload_n (pc := 25) hc dX8_rowFrom_25 rfl rfl ?_
      refine J_icmp_ne (pc := 26) (tgt := 35) hc dX8_rowFrom_26 (by decide) ?_ ?_
      · refine J_sub (l' := [none, none, some ((0, .int x2) : TV), none, some ((0, .int x4) : TV)]) ⟨rfl, ⟨rfl, trivial⟩⟩ ?_
        exact jX8_rowFrom_L35 hc he x2 x4
      · refine J_iinc (pc := 29) (v := x4 + 1) (l' := [some ((8, .ref x0) : TV), some ((0, .int x1) : TV), some ((0, .int x2) : TV), some ((0, .int x3) : TV), some ((0, .int (x4 + 1)) : TV)]) hc dX8_rowFrom_29 rfl rfl (by decide) rfl rfl ?_
        refine J_goto (pc := 32) (tgt := 3) hc dX8_rowFrom_32 (by decide) ?_
        refine J_sub (l' := [some ((8, .ref x0) : TV), some ((0, .int x1) : TV), some ((0, .int x2) : TV), some ((0, .int x3) : TV), some ((0, .int (x4 + 1)) : TV)]) ⟨rfl, ⟨rfl, ⟨rfl, ⟨rfl, ⟨rfl, trivial⟩⟩⟩⟩⟩ ?_
        exact ih x0 x1 x2 x3 (x4 + 1)
set_option maxRecDepth 100000 in
set_option maxHeartbeats 4000000 in
theorem jX8_rowFrom {κ : Cx} {fin : Int32 → Mm → Prop} (hc : Jc κ RX8 cX8_rowFrom 5 1 0 0 21) (he : Ed κ cX8_rowFrom 0 0 wI .ireturn fin) (x0 : Nat) (x1 : Int32) (x2 : Int32) (x3 : Int32) : Jg κ (wM κ) 5 fin 0 0 0 [some ((8, .ref x0) : TV), some ((0, .int x1) : TV), some ((0, .int x2) : TV), some ((0, .int x3) : TV), none] [] (fX8_rowFrom x0 x1 x2 x3) := by
  unfold fX8_rowFrom
  refine J_iload_n (pc := 0) hc dX8_rowFrom_0 rfl rfl ?_
  refine J_istore (pc := 1) (l' := [some ((8, .ref x0) : TV), some ((0, .int x1) : TV), some ((0, .int x2) : TV), some ((0, .int x3) : TV), some ((0, .int x2) : TV)]) hc dX8_rowFrom_1 (by decide) rfl rfl ?_
  refine J_sub (l' := [some ((8, .ref x0) : TV), some ((0, .int x1) : TV), some ((0, .int x2) : TV), some ((0, .int x3) : TV), some ((0, .int x2) : TV)]) ⟨rfl, ⟨rfl, ⟨rfl, ⟨rfl, ⟨rfl, trivial⟩⟩⟩⟩⟩ ?_
  exact jX8_rowFrom_L3 hc he fu x0 x1 x2 x3 x2
theorem moX8_rowFrom : MOk yX8_rowFrom 3 := ⟨by decide +kernel, by decide +kernel, by decide +kernel⟩
set_option maxRecDepth 100000 in
set_option maxHeartbeats 4000000 in
theorem KX8_rowFrom (x0 : Nat) (x1 : Int32) (x2 : Int32) (x3 : Int32) : Ct wI yX8_rowFrom cX8_rowFrom 5 (some .int) 1 0 0 21 [((8, .ref x0) : TV), ((0, .int x1) : TV), ((0, .int x2) : TV), ((0, .int x3) : TV)] (fX8_rowFrom x0 x1 x2 x3) :=
  Ct_I (j := 1) (by decide +kernel) rfl rfl (Nat.le_of_ble_eq_true rfl) (fun κ fin hc he => jX8_rowFrom hc he x0 x1 x2 x3)
set_option maxRecDepth 100000 in
set_option maxHeartbeats 4000000 in
theorem jX8_beginsRow_L34 {κ : Cx} {fin : Int32 → Mm → Prop} (hc : Jc κ RX8 cX8_beginsRow 4 1 0 0 21) (he : EdZ κ cX8_beginsRow 0 0 id fin) : Jg κ (wM κ) 4 fin 0 0 34 [none, none, none, none] [] (fX8_beginsRow_L34) := by
  unfold fX8_beginsRow_L34
  refine J_iconst (pc := 34) (v := 1) hc dX8_beginsRow_34 (by decide) ?_
  refine J_goto (pc := 35) (tgt := 39) hc dX8_beginsRow_35 (by decide) ?_
  exact J_zret (pc := 39) he dX8_beginsRow_39
set_option maxRecDepth 100000 in
set_option maxHeartbeats 4000000 in
theorem jX8_beginsRow {κ : Cx} {fin : Int32 → Mm → Prop} (hc : Jc κ RX8 cX8_beginsRow 4 1 0 0 21) (he : EdZ κ cX8_beginsRow 0 0 id fin) (x0 : Nat) (x1 : Int32) (x2 : Int32) (x3 : Int32) : Jg κ (wM κ) 4 fin 0 0 0 [some ((8, .ref x0) : TV), some ((0, .int x1) : TV), some ((0, .int x2) : TV), some ((0, .int x3) : TV)] [] (fX8_beginsRow x0 x1 x2 x3) := by
  unfold fX8_beginsRow
  refine J_aload_n (pc := 0) hc dX8_beginsRow_0 rfl rfl ?_
  refine J_getA (pc := 1) hc clX8 (k := 1) (kd := 11) (Nat.le_of_ble_eq_true rfl) rfl (Nat.le_of_ble_eq_true rfl) (Nat.le_of_ble_eq_true rfl) tw1163 rfl dX8_beginsRow_1 (fun v1 => ?_)
  refine J_iload_n (pc := 4) hc dX8_beginsRow_4 rfl rfl ?_
  refine J_iload_n (pc := 5) hc dX8_beginsRow_5 rfl rfl ?_
  refine J_callSi (pc := 6) hc (As := [((0, .int x1) : TV), ((0, .int x2) : TV)]) (KX8_dotAt x1 x2) dX8_beginsRow_6 moX8_dotAt tw1309 tw1310 tw9 tw1311 rfl (Nat.le_of_ble_eq_true rfl) (Nat.le_of_ble_eq_true rfl) (Nat.le_of_ble_eq_true rfl) (Nat.le_of_ble_eq_true rfl) (Nat.le_of_ble_eq_true rfl) rfl (fun v2 => ?_)
  refine J_iald (pc := 9) hc dX8_beginsRow_9 (fun v3 => ?_)
  refine J_iload_n (pc := 10) hc dX8_beginsRow_10 rfl rfl ?_
  refine J_icmp_ne (pc := 11) (tgt := 38) hc dX8_beginsRow_11 (by decide) ?_ ?_
  · refine J_iconst (pc := 38) (v := 0) hc dX8_beginsRow_38 (by decide) ?_
    exact J_zret (pc := 39) he dX8_beginsRow_39
  · refine J_iload_n (pc := 14) hc dX8_beginsRow_14 rfl rfl ?_
    refine J_if_eq (pc := 15) (tgt := 34) hc dX8_beginsRow_15 (by decide) ?_ ?_
    · refine J_sub (l' := [none, none, none, none]) (show subL _ _ from trivial) ?_
      exact jX8_beginsRow_L34 hc he 
    · refine J_aload_n (pc := 18) hc dX8_beginsRow_18 rfl rfl ?_
      refine J_getA (pc := 19) hc clX8 (k := 1) (kd := 11) (Nat.le_of_ble_eq_true rfl) rfl (Nat.le_of_ble_eq_true rfl) (Nat.le_of_ble_eq_true rfl) tw1163 rfl dX8_beginsRow_19 (fun v4 => ?_)
      refine J_iload_n (pc := 22) hc dX8_beginsRow_22 rfl rfl ?_
      refine J_iload_n (pc := 23) hc dX8_beginsRow_23 rfl rfl ?_
      refine J_iconst (pc := 24) (v := 1) hc dX8_beginsRow_24 (by decide) ?_
      refine J_isub (pc := 25) hc dX8_beginsRow_25 ?_
      refine J_callSi (pc := 26) hc (As := [((0, .int x1) : TV), ((0, .int (x2 - 1)) : TV)]) (KX8_dotAt x1 (x2 - 1)) dX8_beginsRow_26 moX8_dotAt tw1309 tw1310 tw9 tw1311 rfl (Nat.le_of_ble_eq_true rfl) (Nat.le_of_ble_eq_true rfl) (Nat.le_of_ble_eq_true rfl) (Nat.le_of_ble_eq_true rfl) (Nat.le_of_ble_eq_true rfl) rfl (fun v5 => ?_)
      refine J_iald (pc := 29) hc dX8_beginsRow_29 (fun v6 => ?_)
      refine J_iload_n (pc := 30) hc dX8_beginsRow_30 rfl rfl ?_
      refine J_icmp_eq (pc := 31) (tgt := 38) hc dX8_beginsRow_31 (by decide) ?_ ?_
      · refine J_iconst (pc := 38) (v := 0) hc dX8_beginsRow_38 (by decide) ?_
        exact J_zret (pc := 39) he dX8_beginsRow_39
      · refine J_sub (l' := [none, none, none, none]) (show subL _ _ from trivial) ?_
        exact jX8_beginsRow_L34 hc he 
theorem moX8_beginsRow : MOk yX8_beginsRow 3 := ⟨by decide +kernel, by decide +kernel, by decide +kernel⟩
set_option maxRecDepth 100000 in
set_option maxHeartbeats 4000000 in
theorem KX8_beginsRow (x0 : Nat) (x1 : Int32) (x2 : Int32) (x3 : Int32) : Ct wI yX8_beginsRow cX8_beginsRow 4 (some .boolean) 1 0 0 21 [((8, .ref x0) : TV), ((0, .int x1) : TV), ((0, .int x2) : TV), ((0, .int x3) : TV)] (fX8_beginsRow x0 x1 x2 x3) :=
  Ct_Z ⟨rfl, rfl⟩ (j := 0) (by decide +kernel) rfl rfl (Nat.le_of_ble_eq_true rfl) (fun κ fin hc he => jX8_beginsRow hc he x0 x1 x2 x3)
set_option maxRecDepth 100000 in
set_option maxHeartbeats 4000000 in
theorem jX8_longest_L75 {κ : Cx} {fin : Int32 → Mm → Prop} (hc : Jc κ RX8 cX8_longest 6 2 0 0 45) (he : Ed κ cX8_longest 0 0 wI .ireturn fin) {k42 : Nat → Int32 → Int32 → Int32 → Int32 → Mm → Option (Int32 × Mm)} (hk42 : ∀ (x0 : Nat) (x1 : Int32) (x2 : Int32) (x3 : Int32) (x4 : Int32), Jg κ (wM κ) 6 fin 0 0 42 [some ((8, .ref x0) : TV), some ((0, .int x1) : TV), some ((0, .int x2) : TV), some ((0, .int x3) : TV), some ((0, .int x4) : TV), none] [] (k42 x0 x1 x2 x3 x4)) (x0 : Nat) (x1 : Int32) (x3 : Int32) (x4 : Int32) (s0 : Int32) : Jg κ (wM κ) 6 fin 0 0 75 [some ((8, .ref x0) : TV), some ((0, .int x1) : TV), none, some ((0, .int x3) : TV), some ((0, .int x4) : TV), none] [((0, .int s0) : TV)] (fX8_longest_L75 k42 x0 x1 x3 x4 s0) := by
  unfold fX8_longest_L75
  refine J_istore_n (pc := 75) (l' := [some ((8, .ref x0) : TV), some ((0, .int x1) : TV), some ((0, .int s0) : TV), some ((0, .int x3) : TV), some ((0, .int x4) : TV), none]) hc dX8_longest_75 rfl (by decide) rfl rfl ?_
  refine J_iinc (pc := 76) (v := x4 + 1) (l' := [some ((8, .ref x0) : TV), some ((0, .int x1) : TV), some ((0, .int s0) : TV), some ((0, .int x3) : TV), some ((0, .int (x4 + 1)) : TV), none]) hc dX8_longest_76 rfl rfl (by decide) rfl rfl ?_
  refine J_goto (pc := 79) (tgt := 42) hc dX8_longest_79 (by decide) ?_
  refine J_sub (l' := [some ((8, .ref x0) : TV), some ((0, .int x1) : TV), some ((0, .int s0) : TV), some ((0, .int x3) : TV), some ((0, .int (x4 + 1)) : TV), none]) ⟨rfl, ⟨rfl, ⟨rfl, ⟨rfl, ⟨rfl, trivial⟩⟩⟩⟩⟩ ?_
  exact hk42 x0 x1 s0 x3 (x4 + 1)
set_option maxRecDepth 100000 in
set_option maxHeartbeats 4000000 in
theorem jX8_longest_L42 {κ : Cx} {fin : Int32 → Mm → Prop} (hc : Jc κ RX8 cX8_longest 6 2 0 0 45) (he : Ed κ cX8_longest 0 0 wI .ireturn fin) {k22 : Nat → Int32 → Int32 → Int32 → Mm → Option (Int32 × Mm)} (hk22 : ∀ (x0 : Nat) (x1 : Int32) (x2 : Int32) (x3 : Int32), Jg κ (wM κ) 6 fin 0 0 22 [some ((8, .ref x0) : TV), some ((0, .int x1) : TV), some ((0, .int x2) : TV), some ((0, .int x3) : TV), none, none] [] (k22 x0 x1 x2 x3)) : ∀ (n : Nat) (x0 : Nat) (x1 : Int32) (x2 : Int32) (x3 : Int32) (x4 : Int32), Jg κ (wM κ) 6 fin 0 0 42 [some ((8, .ref x0) : TV), some ((0, .int x1) : TV), some ((0, .int x2) : TV), some ((0, .int x3) : TV), some ((0, .int x4) : TV), none] [] (fX8_longest_L42 k22 n x0 x1 x2 x3 x4) := by
  intro n
  induction n with
  | zero => intro x0 x1 x2 x3 x4; exact J_fail
  | succ n ih =>
    intro x0 x1 x2 x3 x4
    unfold fX8_longest_L42
    refine J_iload (pc := 42) hc dX8_longest_42 rfl ?_
    refine J_aload_n (pc := 44) hc dX8_longest_44 rfl rfl ?_
    refine J_getA (pc := 45) hc clX8 (k := 1) (kd := 11) (Nat.le_of_ble_eq_true rfl) rfl (Nat.le_of_ble_eq_true rfl) (Nat.le_of_ble_eq_true rfl) tw1163 rfl dX8_longest_45 (fun v1 => ?_)
    refine J_iconst (pc := 48) (v := 0) hc dX8_longest_48 (by decide) ?_
    refine J_iald (pc := 49) hc dX8_longest_49 (fun v2 => ?_)
    refine J_icmp_ge (pc := 50) (tgt := 82) hc dX8_longest_50 (by decide) ?_ ?_
    · refine J_iinc (pc := 82) (v := x3 + 1) (l' := [some ((8, .ref x0) : TV), some ((0, .int x1) : TV), some ((0, .int x2) : TV), some ((0, .int (x3 + 1)) : TV), some ((0, .int x4) : TV), none]) hc dX8_longest_82 rfl rfl (by decide) rfl rfl ?_
      refine J_goto (pc := 85) (tgt := 22) hc dX8_longest_85 (by decide) ?_
      refine J_sub (l' := [some ((8, .ref x0) : TV), some ((0, .int x1) : TV), some ((0, .int x2) : TV), some ((0, .int (x3 + 1)) : TV), none, none]) ⟨rfl, ⟨rfl, ⟨rfl, ⟨rfl, trivial⟩⟩⟩⟩ ?_
      exact hk22 x0 x1 x2 (x3 + 1)
    · refine J_aload_n (pc := 53) hc dX8_longest_53 rfl rfl ?_
      refine J_iload_n (pc := 54) hc dX8_longest_54 rfl rfl ?_
      refine J_iload (pc := 55) hc dX8_longest_55 rfl ?_
      refine J_iload_n (pc := 57) hc dX8_longest_57 rfl rfl ?_
      refine J_callVi (pc := 58) hc clX8 (As := [((0, .int x3) : TV), ((0, .int x4) : TV), ((0, .int x1) : TV)]) (KX8_rowFrom x0 x3 x4 x1) dX8_longest_58 moX8_rowFrom rfl tw1426 tw1428 twp70 tw9 tw1429 rfl (Nat.le_of_ble_eq_true rfl) (Nat.le_of_ble_eq_true rfl) (Nat.le_of_ble_eq_true rfl) (Nat.le_of_ble_eq_true rfl) (Nat.le_of_ble_eq_true rfl) rfl (fun v3 => ?_)
      refine J_istore (pc := 61) (l' := [some ((8, .ref x0) : TV), some ((0, .int x1) : TV), some ((0, .int x2) : TV), some ((0, .int x3) : TV), some ((0, .int x4) : TV), some ((0, .int v3) : TV)]) hc dX8_longest_61 (by decide) rfl rfl ?_
      refine J_iload (pc := 63) hc dX8_longest_63 rfl ?_
      refine J_iload_n (pc := 65) hc dX8_longest_65 rfl rfl ?_
      refine J_icmp_le (pc := 66) (tgt := 74) hc dX8_longest_66 (by decide) ?_ ?_
      · refine J_iload_n (pc := 74) hc dX8_longest_74 rfl rfl ?_
        refine J_sub (l' := [some ((8, .ref x0) : TV), some ((0, .int x1) : TV), none, some ((0, .int x3) : TV), some ((0, .int x4) : TV), none]) ⟨rfl, ⟨rfl, ⟨rfl, ⟨rfl, trivial⟩⟩⟩⟩ ?_
        exact jX8_longest_L75 hc he ih x0 x1 x3 x4 x2
      · refine J_iload (pc := 69) hc dX8_longest_69 rfl ?_
        refine J_goto (pc := 71) (tgt := 75) hc dX8_longest_71 (by decide) ?_
        refine J_sub (l' := [some ((8, .ref x0) : TV), some ((0, .int x1) : TV), none, some ((0, .int x3) : TV), some ((0, .int x4) : TV), none]) ⟨rfl, ⟨rfl, ⟨rfl, ⟨rfl, trivial⟩⟩⟩⟩ ?_
        exact jX8_longest_L75 hc he ih x0 x1 x3 x4 v3
set_option maxRecDepth 100000 in
set_option maxHeartbeats 4000000 in
theorem jX8_longest_L22 {κ : Cx} {fin : Int32 → Mm → Prop} (hc : Jc κ RX8 cX8_longest 6 2 0 0 45) (he : Ed κ cX8_longest 0 0 wI .ireturn fin) : ∀ (n : Nat) (x0 : Nat) (x1 : Int32) (x2 : Int32) (x3 : Int32), Jg κ (wM κ) 6 fin 0 0 22 [some ((8, .ref x0) : TV), some ((0, .int x1) : TV), some ((0, .int x2) : TV), some ((0, .int x3) : TV), none, none] [] (fX8_longest_L22 n x0 x1 x2 x3) := by
  intro n
  induction n with
  | zero => intro x0 x1 x2 x3; exact J_fail
  | succ n ih =>
    intro x0 x1 x2 x3
    unfold fX8_longest_L22
    refine J_iload_n (pc := 22) hc dX8_longest_22 rfl rfl ?_
    refine J_aload_n (pc := 23) hc dX8_longest_23 rfl rfl ?_
    refine J_getA (pc := 24) hc clX8 (k := 1) (kd := 11) (Nat.le_of_ble_eq_true rfl) rfl (Nat.le_of_ble_eq_true rfl) (Nat.le_of_ble_eq_true rfl) tw1163 rfl dX8_longest_24 (fun v4 => ?_)
    refine J_iconst (pc := 27) (v := 1) hc dX8_longest_27 (by decide) ?_
    refine J_iald (pc := 28) hc dX8_longest_28 (fun v5 => ?_)
    refine J_icmp_ge (pc := 29) (tgt := 88) hc dX8_longest_29 (by decide) ?_ ?_
    · refine J_iload_n (pc := 88) hc dX8_longest_88 rfl rfl ?_
      exact J_iret (pc := 89) he dX8_longest_89
    · refine J_aload_n (pc := 32) hc dX8_longest_32 rfl rfl ?_
      refine J_getI (pc := 33) hc clX8 (k := 0) (Nat.le_of_ble_eq_true rfl) rfl tw1162 rfl dX8_longest_33 (fun v6 => ?_)
      refine J_if_ne (pc := 36) (tgt := 88) hc dX8_longest_36 (by decide) ?_ ?_
      · refine J_iload_n (pc := 88) hc dX8_longest_88 rfl rfl ?_
        exact J_iret (pc := 89) he dX8_longest_89
      · refine J_iconst (pc := 39) (v := 0) hc dX8_longest_39 (by decide) ?_
        refine J_istore (pc := 40) (l' := [some ((8, .ref x0) : TV), some ((0, .int x1) : TV), some ((0, .int x2) : TV), some ((0, .int x3) : TV), some ((0, .int 0) : TV), none]) hc dX8_longest_40 (by decide) rfl rfl ?_
        refine J_sub (l' := [some ((8, .ref x0) : TV), some ((0, .int x1) : TV), some ((0, .int x2) : TV), some ((0, .int x3) : TV), some ((0, .int 0) : TV), none]) ⟨rfl, ⟨rfl, ⟨rfl, ⟨rfl, ⟨rfl, trivial⟩⟩⟩⟩⟩ ?_
        exact jX8_longest_L42 hc he ih fu x0 x1 x2 x3 0
set_option maxRecDepth 100000 in
set_option maxHeartbeats 4000000 in
theorem jX8_longest_L15 {κ : Cx} {fin : Int32 → Mm → Prop} (hc : Jc κ RX8 cX8_longest 6 2 0 0 45) (he : Ed κ cX8_longest 0 0 wI .ireturn fin) (x0 : Nat) (x1 : Int32) (s0 : Int32) (s1 : Nat) : Jg κ (wM κ) 6 fin 0 0 15 [some ((8, .ref x0) : TV), some ((0, .int x1) : TV), none, none, none, none] [((0, .int s0) : TV), ((8, .ref s1) : TV)] (fX8_longest_L15 x0 x1 s0 s1) := by
  unfold fX8_longest_L15
  refine J_putI (pc := 15) hc clX8 (k := 0) (Nat.le_of_ble_eq_true rfl) rfl rfl tw1162 rfl rfl dX8_longest_15 ?_
  refine J_iconst (pc := 18) (v := 0) hc dX8_longest_18 (by decide) ?_
  refine J_istore_n (pc := 19) (l' := [some ((8, .ref x0) : TV), some ((0, .int x1) : TV), some ((0, .int 0) : TV), none, none, none]) hc dX8_longest_19 rfl (by decide) rfl rfl ?_
  refine J_iconst (pc := 20) (v := 0) hc dX8_longest_20 (by decide) ?_
  refine J_istore_n (pc := 21) (l' := [some ((8, .ref x0) : TV), some ((0, .int x1) : TV), some ((0, .int 0) : TV), some ((0, .int 0) : TV), none, none]) hc dX8_longest_21 rfl (by decide) rfl rfl ?_
  refine J_sub (l' := [some ((8, .ref x0) : TV), some ((0, .int x1) : TV), some ((0, .int 0) : TV), some ((0, .int 0) : TV), none, none]) ⟨rfl, ⟨rfl, ⟨rfl, ⟨rfl, trivial⟩⟩⟩⟩ ?_
  exact jX8_longest_L22 hc he fu x0 x1 0 0
set_option maxRecDepth 100000 in
set_option maxHeartbeats 4000000 in
theorem jX8_longest {κ : Cx} {fin : Int32 → Mm → Prop} (hc : Jc κ RX8 cX8_longest 6 2 0 0 45) (he : Ed κ cX8_longest 0 0 wI .ireturn fin) (x0 : Nat) (x1 : Int32) : Jg κ (wM κ) 6 fin 0 0 0 [some ((8, .ref x0) : TV), some ((0, .int x1) : TV), none, none, none, none] [] (fX8_longest x0 x1) := by
  unfold fX8_longest
  refine J_aload_n (pc := 0) hc dX8_longest_0 rfl rfl ?_
  refine J_iload_n (pc := 1) hc dX8_longest_1 rfl rfl ?_
  refine J_iconst (pc := 2) (v := 0) hc dX8_longest_2 (by decide) ?_
  refine J_iconst (pc := 3) (v := 1) hc dX8_longest_3 (by decide) ?_
  refine J_callSi (pc := 4) hc (As := [((0, .int x1) : TV), ((0, .int 0) : TV), ((0, .int 1) : TV)]) (KX8_in x1 0 1) dX8_longest_4 moX8_in tw1298 tw1299 tw9 tw1300 rfl (Nat.le_of_ble_eq_true rfl) (Nat.le_of_ble_eq_true rfl) (Nat.le_of_ble_eq_true rfl) (Nat.le_of_ble_eq_true rfl) (Nat.le_of_ble_eq_true rfl) rfl (fun v7 => ?_)
  refine J_if_eq (pc := 7) (tgt := 14) hc dX8_longest_7 (by decide) ?_ ?_
  · refine J_iconst (pc := 14) (v := 1) hc dX8_longest_14 (by decide) ?_
    refine J_sub (l' := [some ((8, .ref x0) : TV), some ((0, .int x1) : TV), none, none, none, none]) ⟨rfl, ⟨rfl, trivial⟩⟩ ?_
    exact jX8_longest_L15 hc he x0 x1 1 x0
  · refine J_iconst (pc := 10) (v := 0) hc dX8_longest_10 (by decide) ?_
    refine J_goto (pc := 11) (tgt := 15) hc dX8_longest_11 (by decide) ?_
    refine J_sub (l' := [some ((8, .ref x0) : TV), some ((0, .int x1) : TV), none, none, none, none]) ⟨rfl, ⟨rfl, trivial⟩⟩ ?_
    exact jX8_longest_L15 hc he x0 x1 0 x0
theorem moX8_longest : MOk yX8_longest 1 := ⟨by decide +kernel, by decide +kernel, by decide +kernel⟩
set_option maxRecDepth 100000 in
set_option maxHeartbeats 4000000 in
theorem KX8_longest (x0 : Nat) (x1 : Int32) : Ct wI yX8_longest cX8_longest 6 (some .int) 2 0 0 45 [((8, .ref x0) : TV), ((0, .int x1) : TV)] (fX8_longest x0 x1) :=
  Ct_I (j := 4) (by decide +kernel) rfl rfl (Nat.le_of_ble_eq_true rfl) (fun κ fin hc he => jX8_longest hc he x0 x1)
set_option maxRecDepth 100000 in
set_option maxHeartbeats 4000000 in
theorem jX8_runsOf_L96 {κ : Cx} {fin : Int32 → Mm → Prop} (hc : Jc κ RX8 cX8_runsOf 6 2 0 0 45) (he : Ed κ cX8_runsOf 0 0 wI .ireturn fin) {k54 : Nat → Int32 → Int32 → Int32 → Int32 → Int32 → Mm → Option (Int32 × Mm)} (hk54 : ∀ (x0 : Nat) (x1 : Int32) (x2 : Int32) (x3 : Int32) (x4 : Int32) (x5 : Int32), Jg κ (wM κ) 6 fin 0 0 54 [some ((8, .ref x0) : TV), some ((0, .int x1) : TV), some ((0, .int x2) : TV), some ((0, .int x3) : TV), some ((0, .int x4) : TV), some ((0, .int x5) : TV)] [] (k54 x0 x1 x2 x3 x4 x5)) (x0 : Nat) (x1 : Int32) (x2 : Int32) (x4 : Int32) (x5 : Int32) (s0 : Int32) (s1 : Int32) : Jg κ (wM κ) 6 fin 0 0 96 [some ((8, .ref x0) : TV), some ((0, .int x1) : TV), some ((0, .int x2) : TV), none, some ((0, .int x4) : TV), some ((0, .int x5) : TV)] [((0, .int s0) : TV), ((0, .int s1) : TV)] (fX8_runsOf_L96 k54 x0 x1 x2 x4 x5 s0 s1) := by
  unfold fX8_runsOf_L96
  refine J_iadd (pc := 96) hc dX8_runsOf_96 ?_
  refine J_nmi (fun v1 => ?_)
  refine J_istore_n (pc := 97) (l' := [some ((8, .ref x0) : TV), some ((0, .int x1) : TV), some ((0, .int x2) : TV), some ((0, .int v1) : TV), some ((0, .int x4) : TV), some ((0, .int x5) : TV)]) hc dX8_runsOf_97 rfl (by decide) rfl rfl ?_
  refine J_iinc (pc := 98) (v := x5 + 1) (l' := [some ((8, .ref x0) : TV), some ((0, .int x1) : TV), some ((0, .int x2) : TV), some ((0, .int v1) : TV), some ((0, .int x4) : TV), some ((0, .int (x5 + 1)) : TV)]) hc dX8_runsOf_98 rfl rfl (by decide) rfl rfl ?_
  refine J_goto (pc := 101) (tgt := 54) hc dX8_runsOf_101 (by decide) ?_
  refine J_sub (l' := [some ((8, .ref x0) : TV), some ((0, .int x1) : TV), some ((0, .int x2) : TV), some ((0, .int v1) : TV), some ((0, .int x4) : TV), some ((0, .int (x5 + 1)) : TV)]) ⟨rfl, ⟨rfl, ⟨rfl, ⟨rfl, ⟨rfl, ⟨rfl, trivial⟩⟩⟩⟩⟩⟩ ?_
  exact hk54 x0 x1 x2 v1 x4 (x5 + 1)
set_option maxRecDepth 100000 in
set_option maxHeartbeats 4000000 in
theorem jX8_runsOf_L95 {κ : Cx} {fin : Int32 → Mm → Prop} (hc : Jc κ RX8 cX8_runsOf 6 2 0 0 45) (he : Ed κ cX8_runsOf 0 0 wI .ireturn fin) {k54 : Nat → Int32 → Int32 → Int32 → Int32 → Int32 → Mm → Option (Int32 × Mm)} (hk54 : ∀ (x0 : Nat) (x1 : Int32) (x2 : Int32) (x3 : Int32) (x4 : Int32) (x5 : Int32), Jg κ (wM κ) 6 fin 0 0 54 [some ((8, .ref x0) : TV), some ((0, .int x1) : TV), some ((0, .int x2) : TV), some ((0, .int x3) : TV), some ((0, .int x4) : TV), some ((0, .int x5) : TV)] [] (k54 x0 x1 x2 x3 x4 x5)) (x0 : Nat) (x1 : Int32) (x2 : Int32) (x4 : Int32) (x5 : Int32) (s0 : Int32) : Jg κ (wM κ) 6 fin 0 0 95 [some ((8, .ref x0) : TV), some ((0, .int x1) : TV), some ((0, .int x2) : TV), none, some ((0, .int x4) : TV), some ((0, .int x5) : TV)] [((0, .int s0) : TV)] (fX8_runsOf_L95 k54 x0 x1 x2 x4 x5 s0) := by
  unfold fX8_runsOf_L95
  refine J_iconst (pc := 95) (v := 0) hc dX8_runsOf_95 (by decide) ?_
  refine J_sub (l' := [some ((8, .ref x0) : TV), some ((0, .int x1) : TV), some ((0, .int x2) : TV), none, some ((0, .int x4) : TV), some ((0, .int x5) : TV)]) ⟨rfl, ⟨rfl, ⟨rfl, ⟨rfl, ⟨rfl, trivial⟩⟩⟩⟩⟩ ?_
  exact jX8_runsOf_L96 hc he hk54 x0 x1 x2 x4 x5 0 s0
set_option maxRecDepth 100000 in
set_option maxHeartbeats 4000000 in
theorem jX8_runsOf_L54 {κ : Cx} {fin : Int32 → Mm → Prop} (hc : Jc κ RX8 cX8_runsOf 6 2 0 0 45) (he : Ed κ cX8_runsOf 0 0 wI .ireturn fin) {k33 : Nat → Int32 → Int32 → Int32 → Int32 → Mm → Option (Int32 × Mm)} (hk33 : ∀ (x0 : Nat) (x1 : Int32) (x2 : Int32) (x3 : Int32) (x4 : Int32), Jg κ (wM κ) 6 fin 0 0 33 [some ((8, .ref x0) : TV), some ((0, .int x1) : TV), some ((0, .int x2) : TV), some ((0, .int x3) : TV), some ((0, .int x4) : TV), none] [] (k33 x0 x1 x2 x3 x4)) : ∀ (n : Nat) (x0 : Nat) (x1 : Int32) (x2 : Int32) (x3 : Int32) (x4 : Int32) (x5 : Int32), Jg κ (wM κ) 6 fin 0 0 54 [some ((8, .ref x0) : TV), some ((0, .int x1) : TV), some ((0, .int x2) : TV), some ((0, .int x3) : TV), some ((0, .int x4) : TV), some ((0, .int x5) : TV)] [] (fX8_runsOf_L54 k33 n x0 x1 x2 x3 x4 x5) := by
  intro n
  induction n with
  | zero => intro x0 x1 x2 x3 x4 x5; exact J_fail
  | succ n ih =>
    intro x0 x1 x2 x3 x4 x5
    unfold fX8_runsOf_L54
    refine J_iload (pc := 54) hc dX8_runsOf_54 rfl ?_
    refine J_aload_n (pc := 56) hc dX8_runsOf_56 rfl rfl ?_
    refine J_getA (pc := 57) hc clX8 (k := 1) (kd := 11) (Nat.le_of_ble_eq_true rfl) rfl (Nat.le_of_ble_eq_true rfl) (Nat.le_of_ble_eq_true rfl) tw1163 rfl dX8_runsOf_57 (fun v2 => ?_)
    refine J_iconst (pc := 60) (v := 0) hc dX8_runsOf_60 (by decide) ?_
    refine J_iald (pc := 61) hc dX8_runsOf_61 (fun v3 => ?_)
    refine J_icmp_ge (pc := 62) (tgt := 104) hc dX8_runsOf_62 (by decide) ?_ ?_
    · refine J_iinc (pc := 104) (v := x4 + 1) (l' := [some ((8, .ref x0) : TV), some ((0, .int x1) : TV), some ((0, .int x2) : TV), some ((0, .int x3) : TV), some ((0, .int (x4 + 1)) : TV), some ((0, .int x5) : TV)]) hc dX8_runsOf_104 rfl rfl (by decide) rfl rfl ?_
      refine J_goto (pc := 107) (tgt := 33) hc dX8_runsOf_107 (by decide) ?_
      refine J_sub (l' := [some ((8, .ref x0) : TV), some ((0, .int x1) : TV), some ((0, .int x2) : TV), some ((0, .int x3) : TV), some ((0, .int (x4 + 1)) : TV), none]) ⟨rfl, ⟨rfl, ⟨rfl, ⟨rfl, ⟨rfl, trivial⟩⟩⟩⟩⟩ ?_
      exact hk33 x0 x1 x2 x3 (x4 + 1)
    · refine J_iload_n (pc := 65) hc dX8_runsOf_65 rfl rfl ?_
      refine J_aload_n (pc := 66) hc dX8_runsOf_66 rfl rfl ?_
      refine J_iload (pc := 67) hc dX8_runsOf_67 rfl ?_
      refine J_iload (pc := 69) hc dX8_runsOf_69 rfl ?_
      refine J_iload_n (pc := 71) hc dX8_runsOf_71 rfl rfl ?_
      refine J_callVi (pc := 72) hc clX8 (As := [((0, .int x4) : TV), ((0, .int x5) : TV), ((0, .int x1) : TV)]) (KX8_beginsRow x0 x4 x5 x1) dX8_runsOf_72 moX8_beginsRow rfl tw1434 tw1436 twp71 tw9 tw1437 rfl (Nat.le_of_ble_eq_true rfl) (Nat.le_of_ble_eq_true rfl) (Nat.le_of_ble_eq_true rfl) (Nat.le_of_ble_eq_true rfl) (Nat.le_of_ble_eq_true rfl) rfl (fun v4 => ?_)
      refine J_if_eq (pc := 75) (tgt := 95) hc dX8_runsOf_75 (by decide) ?_ ?_
      · refine J_sub (l' := [some ((8, .ref x0) : TV), some ((0, .int x1) : TV), some ((0, .int x2) : TV), none, some ((0, .int x4) : TV), some ((0, .int x5) : TV)]) ⟨rfl, ⟨rfl, ⟨rfl, ⟨rfl, ⟨rfl, trivial⟩⟩⟩⟩⟩ ?_
        exact jX8_runsOf_L95 hc he ih x0 x1 x2 x4 x5 x3
      · refine J_aload_n (pc := 78) hc dX8_runsOf_78 rfl rfl ?_
        refine J_iload (pc := 79) hc dX8_runsOf_79 rfl ?_
        refine J_iload (pc := 81) hc dX8_runsOf_81 rfl ?_
        refine J_iload_n (pc := 83) hc dX8_runsOf_83 rfl rfl ?_
        refine J_callVi (pc := 84) hc clX8 (As := [((0, .int x4) : TV), ((0, .int x5) : TV), ((0, .int x1) : TV)]) (KX8_rowFrom x0 x4 x5 x1) dX8_runsOf_84 moX8_rowFrom rfl tw1426 tw1428 twp70 tw9 tw1429 rfl (Nat.le_of_ble_eq_true rfl) (Nat.le_of_ble_eq_true rfl) (Nat.le_of_ble_eq_true rfl) (Nat.le_of_ble_eq_true rfl) (Nat.le_of_ble_eq_true rfl) rfl (fun v5 => ?_)
        refine J_iload_n (pc := 87) hc dX8_runsOf_87 rfl rfl ?_
        refine J_icmp_ne (pc := 88) (tgt := 95) hc dX8_runsOf_88 (by decide) ?_ ?_
        · refine J_sub (l' := [some ((8, .ref x0) : TV), some ((0, .int x1) : TV), some ((0, .int x2) : TV), none, some ((0, .int x4) : TV), some ((0, .int x5) : TV)]) ⟨rfl, ⟨rfl, ⟨rfl, ⟨rfl, ⟨rfl, trivial⟩⟩⟩⟩⟩ ?_
          exact jX8_runsOf_L95 hc he ih x0 x1 x2 x4 x5 x3
        · refine J_iconst (pc := 91) (v := 1) hc dX8_runsOf_91 (by decide) ?_
          refine J_goto (pc := 92) (tgt := 96) hc dX8_runsOf_92 (by decide) ?_
          refine J_sub (l' := [some ((8, .ref x0) : TV), some ((0, .int x1) : TV), some ((0, .int x2) : TV), none, some ((0, .int x4) : TV), some ((0, .int x5) : TV)]) ⟨rfl, ⟨rfl, ⟨rfl, ⟨rfl, ⟨rfl, trivial⟩⟩⟩⟩⟩ ?_
          exact jX8_runsOf_L96 hc he ih x0 x1 x2 x4 x5 1 x3
set_option maxRecDepth 100000 in
set_option maxHeartbeats 4000000 in
theorem jX8_runsOf_L33 {κ : Cx} {fin : Int32 → Mm → Prop} (hc : Jc κ RX8 cX8_runsOf 6 2 0 0 45) (he : Ed κ cX8_runsOf 0 0 wI .ireturn fin) : ∀ (n : Nat) (x0 : Nat) (x1 : Int32) (x2 : Int32) (x3 : Int32) (x4 : Int32), Jg κ (wM κ) 6 fin 0 0 33 [some ((8, .ref x0) : TV), some ((0, .int x1) : TV), some ((0, .int x2) : TV), some ((0, .int x3) : TV), some ((0, .int x4) : TV), none] [] (fX8_runsOf_L33 n x0 x1 x2 x3 x4) := by
  intro n
  induction n with
  | zero => intro x0 x1 x2 x3 x4; exact J_fail
  | succ n ih =>
    intro x0 x1 x2 x3 x4
    unfold fX8_runsOf_L33
    refine J_iload (pc := 33) hc dX8_runsOf_33 rfl ?_
    refine J_aload_n (pc := 35) hc dX8_runsOf_35 rfl rfl ?_
    refine J_getA (pc := 36) hc clX8 (k := 1) (kd := 11) (Nat.le_of_ble_eq_true rfl) rfl (Nat.le_of_ble_eq_true rfl) (Nat.le_of_ble_eq_true rfl) tw1163 rfl dX8_runsOf_36 (fun v6 => ?_)
    refine J_iconst (pc := 39) (v := 1) hc dX8_runsOf_39 (by decide) ?_
    refine J_iald (pc := 40) hc dX8_runsOf_40 (fun v7 => ?_)
    refine J_icmp_ge (pc := 41) (tgt := 110) hc dX8_runsOf_41 (by decide) ?_ ?_
    · refine J_iload_n (pc := 110) hc dX8_runsOf_110 rfl rfl ?_
      exact J_iret (pc := 111) he dX8_runsOf_111
    · refine J_aload_n (pc := 44) hc dX8_runsOf_44 rfl rfl ?_
      refine J_getI (pc := 45) hc clX8 (k := 0) (Nat.le_of_ble_eq_true rfl) rfl tw1162 rfl dX8_runsOf_45 (fun v8 => ?_)
      refine J_if_ne (pc := 48) (tgt := 110) hc dX8_runsOf_48 (by decide) ?_ ?_
      · refine J_iload_n (pc := 110) hc dX8_runsOf_110 rfl rfl ?_
        exact J_iret (pc := 111) he dX8_runsOf_111
      · refine J_iconst (pc := 51) (v := 0) hc dX8_runsOf_51 (by decide) ?_
        refine J_istore (pc := 52) (l' := [some ((8, .ref x0) : TV), some ((0, .int x1) : TV), some ((0, .int x2) : TV), some ((0, .int x3) : TV), some ((0, .int x4) : TV), some ((0, .int 0) : TV)]) hc dX8_runsOf_52 (by decide) rfl rfl ?_
        refine J_sub (l' := [some ((8, .ref x0) : TV), some ((0, .int x1) : TV), some ((0, .int x2) : TV), some ((0, .int x3) : TV), some ((0, .int x4) : TV), some ((0, .int 0) : TV)]) ⟨rfl, ⟨rfl, ⟨rfl, ⟨rfl, ⟨rfl, ⟨rfl, trivial⟩⟩⟩⟩⟩⟩ ?_
        exact jX8_runsOf_L54 hc he ih fu x0 x1 x2 x3 x4 0
set_option maxRecDepth 100000 in
set_option maxHeartbeats 4000000 in
theorem jX8_runsOf_L25 {κ : Cx} {fin : Int32 → Mm → Prop} (hc : Jc κ RX8 cX8_runsOf 6 2 0 0 45) (he : Ed κ cX8_runsOf 0 0 wI .ireturn fin) (x0 : Nat) (x1 : Int32) (x2 : Int32) (s0 : Int32) (s1 : Nat) : Jg κ (wM κ) 6 fin 0 0 25 [some ((8, .ref x0) : TV), some ((0, .int x1) : TV), some ((0, .int x2) : TV), none, none, none] [((0, .int s0) : TV), ((8, .ref s1) : TV)] (fX8_runsOf_L25 x0 x1 x2 s0 s1) := by
  unfold fX8_runsOf_L25
  refine J_putI (pc := 25) hc clX8 (k := 0) (Nat.le_of_ble_eq_true rfl) rfl rfl tw1162 rfl rfl dX8_runsOf_25 ?_
  refine J_iconst (pc := 28) (v := 0) hc dX8_runsOf_28 (by decide) ?_
  refine J_istore_n (pc := 29) (l' := [some ((8, .ref x0) : TV), some ((0, .int x1) : TV), some ((0, .int x2) : TV), some ((0, .int 0) : TV), none, none]) hc dX8_runsOf_29 rfl (by decide) rfl rfl ?_
  refine J_iconst (pc := 30) (v := 0) hc dX8_runsOf_30 (by decide) ?_
  refine J_istore (pc := 31) (l' := [some ((8, .ref x0) : TV), some ((0, .int x1) : TV), some ((0, .int x2) : TV), some ((0, .int 0) : TV), some ((0, .int 0) : TV), none]) hc dX8_runsOf_31 (by decide) rfl rfl ?_
  refine J_sub (l' := [some ((8, .ref x0) : TV), some ((0, .int x1) : TV), some ((0, .int x2) : TV), some ((0, .int 0) : TV), some ((0, .int 0) : TV), none]) ⟨rfl, ⟨rfl, ⟨rfl, ⟨rfl, ⟨rfl, trivial⟩⟩⟩⟩⟩ ?_
  exact jX8_runsOf_L33 hc he fu x0 x1 x2 0 0
set_option maxRecDepth 100000 in
set_option maxHeartbeats 4000000 in
theorem jX8_runsOf_L24 {κ : Cx} {fin : Int32 → Mm → Prop} (hc : Jc κ RX8 cX8_runsOf 6 2 0 0 45) (he : Ed κ cX8_runsOf 0 0 wI .ireturn fin) (x0 : Nat) (x1 : Int32) (x2 : Int32) (s0 : Nat) : Jg κ (wM κ) 6 fin 0 0 24 [some ((8, .ref x0) : TV), some ((0, .int x1) : TV), some ((0, .int x2) : TV), none, none, none] [((8, .ref s0) : TV)] (fX8_runsOf_L24 x0 x1 x2 s0) := by
  unfold fX8_runsOf_L24
  refine J_iconst (pc := 24) (v := 1) hc dX8_runsOf_24 (by decide) ?_
  refine J_sub (l' := [some ((8, .ref x0) : TV), some ((0, .int x1) : TV), some ((0, .int x2) : TV), none, none, none]) ⟨rfl, ⟨rfl, ⟨rfl, trivial⟩⟩⟩ ?_
  exact jX8_runsOf_L25 hc he x0 x1 x2 1 s0
set_option maxRecDepth 100000 in
set_option maxHeartbeats 4000000 in
theorem jX8_runsOf {κ : Cx} {fin : Int32 → Mm → Prop} (hc : Jc κ RX8 cX8_runsOf 6 2 0 0 45) (he : Ed κ cX8_runsOf 0 0 wI .ireturn fin) (x0 : Nat) (x1 : Int32) (x2 : Int32) : Jg κ (wM κ) 6 fin 0 0 0 [some ((8, .ref x0) : TV), some ((0, .int x1) : TV), some ((0, .int x2) : TV), none, none, none] [] (fX8_runsOf x0 x1 x2) := by
  unfold fX8_runsOf
  refine J_aload_n (pc := 0) hc dX8_runsOf_0 rfl rfl ?_
  refine J_iload_n (pc := 1) hc dX8_runsOf_1 rfl rfl ?_
  refine J_iconst (pc := 2) (v := 0) hc dX8_runsOf_2 (by decide) ?_
  refine J_iconst (pc := 3) (v := 1) hc dX8_runsOf_3 (by decide) ?_
  refine J_callSi (pc := 4) hc (As := [((0, .int x1) : TV), ((0, .int 0) : TV), ((0, .int 1) : TV)]) (KX8_in x1 0 1) dX8_runsOf_4 moX8_in tw1298 tw1299 tw9 tw1300 rfl (Nat.le_of_ble_eq_true rfl) (Nat.le_of_ble_eq_true rfl) (Nat.le_of_ble_eq_true rfl) (Nat.le_of_ble_eq_true rfl) (Nat.le_of_ble_eq_true rfl) rfl (fun v9 => ?_)
  refine J_if_eq (pc := 7) (tgt := 24) hc dX8_runsOf_7 (by decide) ?_ ?_
  · refine J_sub (l' := [some ((8, .ref x0) : TV), some ((0, .int x1) : TV), some ((0, .int x2) : TV), none, none, none]) ⟨rfl, ⟨rfl, ⟨rfl, trivial⟩⟩⟩ ?_
    exact jX8_runsOf_L24 hc he x0 x1 x2 x0
  · refine J_iload_n (pc := 10) hc dX8_runsOf_10 rfl rfl ?_
    refine J_iconst (pc := 11) (v := 1) hc dX8_runsOf_11 (by decide) ?_
    refine J_bipush (pc := 12) (v := 40) hc dX8_runsOf_12 (by decide) ?_
    refine J_callSi (pc := 14) hc (As := [((0, .int x2) : TV), ((0, .int 1) : TV), ((0, .int 40) : TV)]) (KX8_in x2 1 40) dX8_runsOf_14 moX8_in tw1298 tw1299 tw9 tw1300 rfl (Nat.le_of_ble_eq_true rfl) (Nat.le_of_ble_eq_true rfl) (Nat.le_of_ble_eq_true rfl) (Nat.le_of_ble_eq_true rfl) (Nat.le_of_ble_eq_true rfl) rfl (fun v10 => ?_)
    refine J_if_eq (pc := 17) (tgt := 24) hc dX8_runsOf_17 (by decide) ?_ ?_
    · refine J_sub (l' := [some ((8, .ref x0) : TV), some ((0, .int x1) : TV), some ((0, .int x2) : TV), none, none, none]) ⟨rfl, ⟨rfl, ⟨rfl, trivial⟩⟩⟩ ?_
      exact jX8_runsOf_L24 hc he x0 x1 x2 x0
    · refine J_iconst (pc := 20) (v := 0) hc dX8_runsOf_20 (by decide) ?_
      refine J_goto (pc := 21) (tgt := 25) hc dX8_runsOf_21 (by decide) ?_
      refine J_sub (l' := [some ((8, .ref x0) : TV), some ((0, .int x1) : TV), some ((0, .int x2) : TV), none, none, none]) ⟨rfl, ⟨rfl, ⟨rfl, trivial⟩⟩⟩ ?_
      exact jX8_runsOf_L25 hc he x0 x1 x2 0 x0
theorem moX8_runsOf : MOk yX8_runsOf 2 := ⟨by decide +kernel, by decide +kernel, by decide +kernel⟩
set_option maxRecDepth 100000 in
set_option maxHeartbeats 4000000 in
theorem KX8_runsOf (x0 : Nat) (x1 : Int32) (x2 : Int32) : Ct wI yX8_runsOf cX8_runsOf 6 (some .int) 2 0 0 45 [((8, .ref x0) : TV), ((0, .int x1) : TV), ((0, .int x2) : TV)] (fX8_runsOf x0 x1 x2) :=
  Ct_I (j := 3) (by decide +kernel) rfl rfl (Nat.le_of_ble_eq_true rfl) (fun κ fin hc he => jX8_runsOf hc he x0 x1 x2)
set_option maxRecDepth 100000 in
set_option maxHeartbeats 4000000 in
theorem jX8_readBelow_L112 {κ : Cx} {fin : Int32 → Mm → Prop} (hc : Jc κ RX8 cX8_readBelow 5 4 0 0 93) (he : Ed κ cX8_readBelow 0 0 wI .ireturn fin) {k80 : Nat → Int32 → Int32 → Mm → Option (Int32 × Mm)} (hk80 : ∀ (x0 : Nat) (x3 : Int32) (x4 : Int32), Jg κ (wM κ) 5 fin 0 0 80 [some ((8, .ref x0) : TV), none, none, some ((0, .int x3) : TV), some ((0, .int x4) : TV)] [] (k80 x0 x3 x4)) (x0 : Nat) (x4 : Int32) (s0 : Int32) (s1 : Int32) : Jg κ (wM κ) 5 fin 0 0 112 [some ((8, .ref x0) : TV), none, none, none, some ((0, .int x4) : TV)] [((0, .int s0) : TV), ((0, .int s1) : TV)] (fX8_readBelow_L112 k80 x0 x4 s0 s1) := by
  unfold fX8_readBelow_L112
  refine J_iadd (pc := 112) hc dX8_readBelow_112 ?_
  refine J_nmi (fun v1 => ?_)
  refine J_istore_n (pc := 113) (l' := [some ((8, .ref x0) : TV), none, none, some ((0, .int v1) : TV), some ((0, .int x4) : TV)]) hc dX8_readBelow_113 rfl (by decide) rfl rfl ?_
  refine J_iinc (pc := 114) (v := x4 + 1) (l' := [some ((8, .ref x0) : TV), none, none, some ((0, .int v1) : TV), some ((0, .int (x4 + 1)) : TV)]) hc dX8_readBelow_114 rfl rfl (by decide) rfl rfl ?_
  refine J_goto (pc := 117) (tgt := 80) hc dX8_readBelow_117 (by decide) ?_
  refine J_sub (l' := [some ((8, .ref x0) : TV), none, none, some ((0, .int v1) : TV), some ((0, .int (x4 + 1)) : TV)]) ⟨rfl, ⟨rfl, ⟨rfl, trivial⟩⟩⟩ ?_
  exact hk80 x0 v1 (x4 + 1)
set_option maxRecDepth 100000 in
set_option maxHeartbeats 4000000 in
theorem jX8_readBelow_L80 {κ : Cx} {fin : Int32 → Mm → Prop} (hc : Jc κ RX8 cX8_readBelow 5 4 0 0 93) (he : Ed κ cX8_readBelow 0 0 wI .ireturn fin) : ∀ (n : Nat) (x0 : Nat) (x3 : Int32) (x4 : Int32), Jg κ (wM κ) 5 fin 0 0 80 [some ((8, .ref x0) : TV), none, none, some ((0, .int x3) : TV), some ((0, .int x4) : TV)] [] (fX8_readBelow_L80 n x0 x3 x4) := by
  intro n
  induction n with
  | zero => intro x0 x3 x4; exact J_fail
  | succ n ih =>
    intro x0 x3 x4
    unfold fX8_readBelow_L80
    refine J_iload (pc := 80) hc dX8_readBelow_80 rfl ?_
    refine J_aload_n (pc := 82) hc dX8_readBelow_82 rfl rfl ?_
    refine J_getI (pc := 83) hc clX8 (k := 9) (Nat.le_of_ble_eq_true rfl) rfl tw1171 rfl dX8_readBelow_83 (fun v2 => ?_)
    refine J_icmp_ge (pc := 86) (tgt := 120) hc dX8_readBelow_86 (by decide) ?_ ?_
    · refine J_iload_n (pc := 120) hc dX8_readBelow_120 rfl rfl ?_
      exact J_iret (pc := 121) he dX8_readBelow_121
    · refine J_iload_n (pc := 89) hc dX8_readBelow_89 rfl rfl ?_
      refine J_aload_n (pc := 90) hc dX8_readBelow_90 rfl rfl ?_
      refine J_getA (pc := 91) hc clX8 (k := 15) (kd := 11) (Nat.le_of_ble_eq_true rfl) rfl (Nat.le_of_ble_eq_true rfl) (Nat.le_of_ble_eq_true rfl) tw1177 rfl dX8_readBelow_91 (fun v3 => ?_)
      refine J_iload (pc := 94) hc dX8_readBelow_94 rfl ?_
      refine J_iald (pc := 96) hc dX8_readBelow_96 (fun v4 => ?_)
      refine J_aload_n (pc := 97) hc dX8_readBelow_97 rfl rfl ?_
      refine J_getA (pc := 98) hc clX8 (k := 8) (kd := 11) (Nat.le_of_ble_eq_true rfl) rfl (Nat.le_of_ble_eq_true rfl) (Nat.le_of_ble_eq_true rfl) tw1170 rfl dX8_readBelow_98 (fun v5 => ?_)
      refine J_iload (pc := 101) hc dX8_readBelow_101 rfl ?_
      refine J_iald (pc := 103) hc dX8_readBelow_103 (fun v6 => ?_)
      refine J_icmp_ne (pc := 104) (tgt := 111) hc dX8_readBelow_104 (by decide) ?_ ?_
      · refine J_iconst (pc := 111) (v := 1) hc dX8_readBelow_111 (by decide) ?_
        refine J_sub (l' := [some ((8, .ref x0) : TV), none, none, none, some ((0, .int x4) : TV)]) ⟨rfl, ⟨rfl, trivial⟩⟩ ?_
        exact jX8_readBelow_L112 hc he ih x0 x4 1 x3
      · refine J_iconst (pc := 107) (v := 0) hc dX8_readBelow_107 (by decide) ?_
        refine J_goto (pc := 108) (tgt := 112) hc dX8_readBelow_108 (by decide) ?_
        refine J_sub (l' := [some ((8, .ref x0) : TV), none, none, none, some ((0, .int x4) : TV)]) ⟨rfl, ⟨rfl, trivial⟩⟩ ?_
        exact jX8_readBelow_L112 hc he ih x0 x4 0 x3
set_option maxRecDepth 100000 in
set_option maxHeartbeats 4000000 in
theorem jX8_readBelow_L63 {κ : Cx} {fin : Int32 → Mm → Prop} (hc : Jc κ RX8 cX8_readBelow 5 4 0 0 93) (he : Ed κ cX8_readBelow 0 0 wI .ireturn fin) (x0 : Nat) (s0 : Int32) (s1 : Nat) (s2 : Nat) : Jg κ (wM κ) 5 fin 0 0 63 [some ((8, .ref x0) : TV), none, none, none, none] [((0, .int s0) : TV), ((11, .ref s1) : TV), ((8, .ref s2) : TV)] (fX8_readBelow_L63 x0 s0 s1 s2) := by
  unfold fX8_readBelow_L63
  refine J_callVv (pc := 63) hc clX8 (As := [((11, .ref s1) : TV), ((0, .int s0) : TV)]) (KX8_laysUpper s2 s1 s0) dX8_readBelow_63 moX8_laysUpper rfl tw1332 tw1334 twp54 tw9 tw1335 rfl (Nat.le_of_ble_eq_true rfl) (Nat.le_of_ble_eq_true rfl) (Nat.le_of_ble_eq_true rfl) (Nat.le_of_ble_eq_true rfl) (Nat.le_of_ble_eq_true rfl) rfl (fun _ => ?_)
  refine J_aload_n (pc := 66) hc dX8_readBelow_66 rfl rfl ?_
  refine J_callVi (pc := 67) hc clX8 (As := []) (KX8_readsCode x0) dX8_readBelow_67 moX8_readsCode rfl tw1442 tw1444 twp72 tw9 tw1445 rfl (Nat.le_of_ble_eq_true rfl) (Nat.le_of_ble_eq_true rfl) (Nat.le_of_ble_eq_true rfl) (Nat.le_of_ble_eq_true rfl) (Nat.le_of_ble_eq_true rfl) rfl (fun v7 => ?_)
  refine J_if_ne (pc := 70) (tgt := 75) hc dX8_readBelow_70 (by decide) ?_ ?_
  · refine J_iconst (pc := 75) (v := 0) hc dX8_readBelow_75 (by decide) ?_
    refine J_istore_n (pc := 76) (l' := [some ((8, .ref x0) : TV), none, none, some ((0, .int 0) : TV), none]) hc dX8_readBelow_76 rfl (by decide) rfl rfl ?_
    refine J_iconst (pc := 77) (v := 0) hc dX8_readBelow_77 (by decide) ?_
    refine J_istore (pc := 78) (l' := [some ((8, .ref x0) : TV), none, none, some ((0, .int 0) : TV), some ((0, .int 0) : TV)]) hc dX8_readBelow_78 (by decide) rfl rfl ?_
    refine J_sub (l' := [some ((8, .ref x0) : TV), none, none, some ((0, .int 0) : TV), some ((0, .int 0) : TV)]) ⟨rfl, ⟨rfl, ⟨rfl, trivial⟩⟩⟩ ?_
    exact jX8_readBelow_L80 hc he fu x0 0 0
  · refine J_iconst (pc := 73) (v := (-1)) hc dX8_readBelow_73 (by decide) ?_
    exact J_iret (pc := 74) he dX8_readBelow_74
set_option maxRecDepth 100000 in
set_option maxHeartbeats 4000000 in
theorem jX8_readBelow_L27 {κ : Cx} {fin : Int32 → Mm → Prop} (hc : Jc κ RX8 cX8_readBelow 5 4 0 0 93) (he : Ed κ cX8_readBelow 0 0 wI .ireturn fin) (x0 : Nat) (x1 : Int32) (x2 : Int32) (s0 : Int32) (s1 : Nat) : Jg κ (wM κ) 5 fin 0 0 27 [some ((8, .ref x0) : TV), some ((0, .int x1) : TV), some ((0, .int x2) : TV), none, none] [((0, .int s0) : TV), ((8, .ref s1) : TV)] (fX8_readBelow_L27 x0 x1 x2 s0 s1) := by
  unfold fX8_readBelow_L27
  refine J_putI (pc := 27) hc clX8 (k := 0) (Nat.le_of_ble_eq_true rfl) rfl rfl tw1162 rfl rfl dX8_readBelow_27 ?_
  refine J_aload_n (pc := 30) hc dX8_readBelow_30 rfl rfl ?_
  refine J_getI (pc := 31) hc clX8 (k := 0) (Nat.le_of_ble_eq_true rfl) rfl tw1162 rfl dX8_readBelow_31 (fun v8 => ?_)
  refine J_if_le (pc := 34) (tgt := 39) hc dX8_readBelow_34 (by decide) ?_ ?_
  · refine J_aload_n (pc := 39) hc dX8_readBelow_39 rfl rfl ?_
    refine J_iload_n (pc := 40) hc dX8_readBelow_40 rfl rfl ?_
    refine J_callVv (pc := 41) hc clX8 (As := [((0, .int x1) : TV)]) (KX8_codesLine x0 x1) dX8_readBelow_41 moX8_codesLine rfl tw1324 tw1326 twp52 tw9 tw1327 rfl (Nat.le_of_ble_eq_true rfl) (Nat.le_of_ble_eq_true rfl) (Nat.le_of_ble_eq_true rfl) (Nat.le_of_ble_eq_true rfl) (Nat.le_of_ble_eq_true rfl) rfl (fun _ => ?_)
    refine J_aload_n (pc := 44) hc dX8_readBelow_44 rfl rfl ?_
    refine J_aload_n (pc := 45) hc dX8_readBelow_45 rfl rfl ?_
    refine J_getA (pc := 46) hc clX8 (k := 1) (kd := 11) (Nat.le_of_ble_eq_true rfl) rfl (Nat.le_of_ble_eq_true rfl) (Nat.le_of_ble_eq_true rfl) tw1163 rfl dX8_readBelow_46 (fun v9 => ?_)
    refine J_iload_n (pc := 49) hc dX8_readBelow_49 rfl rfl ?_
    refine J_iconst (pc := 50) (v := (-1)) hc dX8_readBelow_50 (by decide) ?_
    refine J_icmp_ne (pc := 51) (tgt := 58) hc dX8_readBelow_51 (by decide) ?_ ?_
    · refine J_iload_n (pc := 58) hc dX8_readBelow_58 rfl rfl ?_
      refine J_iconst (pc := 59) (v := 0) hc dX8_readBelow_59 (by decide) ?_
      refine J_callSi (pc := 60) hc (As := [((0, .int x2) : TV), ((0, .int 0) : TV)]) (KX8_dotAt x2 0) dX8_readBelow_60 moX8_dotAt tw1309 tw1310 tw9 tw1311 rfl (Nat.le_of_ble_eq_true rfl) (Nat.le_of_ble_eq_true rfl) (Nat.le_of_ble_eq_true rfl) (Nat.le_of_ble_eq_true rfl) (Nat.le_of_ble_eq_true rfl) rfl (fun v10 => ?_)
      refine J_sub (l' := [some ((8, .ref x0) : TV), none, none, none, none]) ⟨rfl, trivial⟩ ?_
      exact jX8_readBelow_L63 hc he x0 v10 v9 x0
    · refine J_iconst (pc := 54) (v := (-1)) hc dX8_readBelow_54 (by decide) ?_
      refine J_goto (pc := 55) (tgt := 63) hc dX8_readBelow_55 (by decide) ?_
      refine J_sub (l' := [some ((8, .ref x0) : TV), none, none, none, none]) ⟨rfl, trivial⟩ ?_
      exact jX8_readBelow_L63 hc he x0 (-1) v9 x0
  · refine J_iconst (pc := 37) (v := 0) hc dX8_readBelow_37 (by decide) ?_
    exact J_iret (pc := 38) he dX8_readBelow_38
set_option maxRecDepth 100000 in
set_option maxHeartbeats 4000000 in
theorem jX8_readBelow_L26 {κ : Cx} {fin : Int32 → Mm → Prop} (hc : Jc κ RX8 cX8_readBelow 5 4 0 0 93) (he : Ed κ cX8_readBelow 0 0 wI .ireturn fin) (x0 : Nat) (x1 : Int32) (x2 : Int32) (s0 : Nat) : Jg κ (wM κ) 5 fin 0 0 26 [some ((8, .ref x0) : TV), some ((0, .int x1) : TV), some ((0, .int x2) : TV), none, none] [((8, .ref s0) : TV)] (fX8_readBelow_L26 x0 x1 x2 s0) := by
  unfold fX8_readBelow_L26
  refine J_iconst (pc := 26) (v := 1) hc dX8_readBelow_26 (by decide) ?_
  refine J_sub (l' := [some ((8, .ref x0) : TV), some ((0, .int x1) : TV), some ((0, .int x2) : TV), none, none]) ⟨rfl, ⟨rfl, ⟨rfl, trivial⟩⟩⟩ ?_
  exact jX8_readBelow_L27 hc he x0 x1 x2 1 s0
set_option maxRecDepth 100000 in
set_option maxHeartbeats 4000000 in
theorem jX8_readBelow_L22 {κ : Cx} {fin : Int32 → Mm → Prop} (hc : Jc κ RX8 cX8_readBelow 5 4 0 0 93) (he : Ed κ cX8_readBelow 0 0 wI .ireturn fin) (x0 : Nat) (x1 : Int32) (x2 : Int32) (s0 : Nat) : Jg κ (wM κ) 5 fin 0 0 22 [some ((8, .ref x0) : TV), some ((0, .int x1) : TV), some ((0, .int x2) : TV), none, none] [((8, .ref s0) : TV)] (fX8_readBelow_L22 x0 x1 x2 s0) := by
  unfold fX8_readBelow_L22
  refine J_iconst (pc := 22) (v := 0) hc dX8_readBelow_22 (by decide) ?_
  refine J_goto (pc := 23) (tgt := 27) hc dX8_readBelow_23 (by decide) ?_
  refine J_sub (l' := [some ((8, .ref x0) : TV), some ((0, .int x1) : TV), some ((0, .int x2) : TV), none, none]) ⟨rfl, ⟨rfl, ⟨rfl, trivial⟩⟩⟩ ?_
  exact jX8_readBelow_L27 hc he x0 x1 x2 0 s0
set_option maxRecDepth 100000 in
set_option maxHeartbeats 4000000 in
theorem jX8_readBelow {κ : Cx} {fin : Int32 → Mm → Prop} (hc : Jc κ RX8 cX8_readBelow 5 4 0 0 93) (he : Ed κ cX8_readBelow 0 0 wI .ireturn fin) (x0 : Nat) (x1 : Int32) (x2 : Int32) : Jg κ (wM κ) 5 fin 0 0 0 [some ((8, .ref x0) : TV), some ((0, .int x1) : TV), some ((0, .int x2) : TV), none, none] [] (fX8_readBelow x0 x1 x2) := by
  unfold fX8_readBelow
  refine J_aload_n (pc := 0) hc dX8_readBelow_0 rfl rfl ?_
  refine J_aload_n (pc := 1) hc dX8_readBelow_1 rfl rfl ?_
  refine J_iload_n (pc := 2) hc dX8_readBelow_2 rfl rfl ?_
  refine J_callVi (pc := 3) hc clX8 (As := [((0, .int x1) : TV)]) (KX8_isLine x0 x1) dX8_readBelow_3 moX8_isLine rfl tw1390 tw1392 twp66 tw9 tw1393 rfl (Nat.le_of_ble_eq_true rfl) (Nat.le_of_ble_eq_true rfl) (Nat.le_of_ble_eq_true rfl) (Nat.le_of_ble_eq_true rfl) (Nat.le_of_ble_eq_true rfl) rfl (fun v11 => ?_)
  refine J_if_eq (pc := 6) (tgt := 26) hc dX8_readBelow_6 (by decide) ?_ ?_
  · refine J_sub (l' := [some ((8, .ref x0) : TV), some ((0, .int x1) : TV), some ((0, .int x2) : TV), none, none]) ⟨rfl, ⟨rfl, ⟨rfl, trivial⟩⟩⟩ ?_
    exact jX8_readBelow_L26 hc he x0 x1 x2 x0
  · refine J_iload_n (pc := 9) hc dX8_readBelow_9 rfl rfl ?_
    refine J_iconst (pc := 10) (v := (-1)) hc dX8_readBelow_10 (by decide) ?_
    refine J_icmp_eq (pc := 11) (tgt := 22) hc dX8_readBelow_11 (by decide) ?_ ?_
    · refine J_sub (l' := [some ((8, .ref x0) : TV), some ((0, .int x1) : TV), some ((0, .int x2) : TV), none, none]) ⟨rfl, ⟨rfl, ⟨rfl, trivial⟩⟩⟩ ?_
      exact jX8_readBelow_L22 hc he x0 x1 x2 x0
    · refine J_aload_n (pc := 14) hc dX8_readBelow_14 rfl rfl ?_
      refine J_iload_n (pc := 15) hc dX8_readBelow_15 rfl rfl ?_
      refine J_callVi (pc := 16) hc clX8 (As := [((0, .int x2) : TV)]) (KX8_isLine x0 x2) dX8_readBelow_16 moX8_isLine rfl tw1390 tw1392 twp66 tw9 tw1393 rfl (Nat.le_of_ble_eq_true rfl) (Nat.le_of_ble_eq_true rfl) (Nat.le_of_ble_eq_true rfl) (Nat.le_of_ble_eq_true rfl) (Nat.le_of_ble_eq_true rfl) rfl (fun v12 => ?_)
      refine J_if_eq (pc := 19) (tgt := 26) hc dX8_readBelow_19 (by decide) ?_ ?_
      · refine J_sub (l' := [some ((8, .ref x0) : TV), some ((0, .int x1) : TV), some ((0, .int x2) : TV), none, none]) ⟨rfl, ⟨rfl, ⟨rfl, trivial⟩⟩⟩ ?_
        exact jX8_readBelow_L26 hc he x0 x1 x2 x0
      · refine J_sub (l' := [some ((8, .ref x0) : TV), some ((0, .int x1) : TV), some ((0, .int x2) : TV), none, none]) ⟨rfl, ⟨rfl, ⟨rfl, trivial⟩⟩⟩ ?_
        exact jX8_readBelow_L22 hc he x0 x1 x2 x0
theorem moX8_readBelow : MOk yX8_readBelow 2 := ⟨by decide +kernel, by decide +kernel, by decide +kernel⟩
set_option maxRecDepth 100000 in
set_option maxHeartbeats 4000000 in
theorem KX8_readBelow (x0 : Nat) (x1 : Int32) (x2 : Int32) : Ct wI yX8_readBelow cX8_readBelow 5 (some .int) 4 0 0 93 [((8, .ref x0) : TV), ((0, .int x1) : TV), ((0, .int x2) : TV)] (fX8_readBelow x0 x1 x2) :=
  Ct_I (j := 2) (by decide +kernel) rfl rfl (Nat.le_of_ble_eq_true rfl) (fun κ fin hc he => jX8_readBelow hc he x0 x1 x2)
set_option maxRecDepth 100000 in
set_option maxHeartbeats 4000000 in
theorem jX8_keeps_L50 {κ : Cx} {fin : Unit → Mm → Prop} (hc : Jc κ RX8 cX8_keeps 2 1 0 0 24) (he : Ed κ cX8_keeps 0 0 wV .return_ fin) (x0 : Nat) : Jg κ (wM κ) 2 fin 0 0 50 [some ((8, .ref x0) : TV), none] [] (fX8_keeps_L50 x0) := by
  unfold fX8_keeps_L50
  refine J_aload_n (pc := 50) hc dX8_keeps_50 rfl rfl ?_
  refine J_getA (pc := 51) hc clX8 (k := 1) (kd := 11) (Nat.le_of_ble_eq_true rfl) rfl (Nat.le_of_ble_eq_true rfl) (Nat.le_of_ble_eq_true rfl) tw1163 rfl dX8_keeps_51 (fun v1 => ?_)
  refine J_iconst (pc := 54) (v := 0) hc dX8_keeps_54 (by decide) ?_
  refine J_aload_n (pc := 55) hc dX8_keeps_55 rfl rfl ?_
  refine J_getA (pc := 56) hc clX8 (k := 3) (kd := 11) (Nat.le_of_ble_eq_true rfl) rfl (Nat.le_of_ble_eq_true rfl) (Nat.le_of_ble_eq_true rfl) tw1165 rfl dX8_keeps_56 (fun v2 => ?_)
  refine J_sipush (pc := 59) (v := 828) hc dX8_keeps_59 (by decide) ?_
  refine J_aload_n (pc := 62) hc dX8_keeps_62 rfl rfl ?_
  refine J_getI (pc := 63) hc clX8 (k := 4) (Nat.le_of_ble_eq_true rfl) rfl tw1166 rfl dX8_keeps_63 (fun v3 => ?_)
  refine J_imul (pc := 66) hc dX8_keeps_66 ?_
  refine J_callSv (pc := 67) hc (As := [((11, .ref v1) : TV), ((0, .int 0) : TV), ((11, .ref v2) : TV), ((0, .int (828 * v3)) : TV)]) (KX8_copies v1 0 v2 (828 * v3)) dX8_keeps_67 moX8_copies tw1159 tw1160 tw9 tw1161 rfl (Nat.le_of_ble_eq_true rfl) (Nat.le_of_ble_eq_true rfl) (Nat.le_of_ble_eq_true rfl) (Nat.le_of_ble_eq_true rfl) (Nat.le_of_ble_eq_true rfl) rfl (fun _ => ?_)
  refine J_aload_n (pc := 70) hc dX8_keeps_70 rfl rfl ?_
  refine J_dup (pc := 71) hc dX8_keeps_71 rfl ?_
  refine J_getI (pc := 72) hc clX8 (k := 4) (Nat.le_of_ble_eq_true rfl) rfl tw1166 rfl dX8_keeps_72 (fun v4 => ?_)
  refine J_iconst (pc := 75) (v := 1) hc dX8_keeps_75 (by decide) ?_
  refine J_iadd (pc := 76) hc dX8_keeps_76 ?_
  refine J_putI (pc := 77) hc clX8 (k := 4) (Nat.le_of_ble_eq_true rfl) rfl rfl tw1166 rfl rfl dX8_keeps_77 ?_
  exact J_vret (pc := 80) he dX8_keeps_80
set_option maxRecDepth 100000 in
set_option maxHeartbeats 4000000 in
theorem jX8_keeps_L11 {κ : Cx} {fin : Unit → Mm → Prop} (hc : Jc κ RX8 cX8_keeps 2 1 0 0 24) (he : Ed κ cX8_keeps 0 0 wV .return_ fin) : ∀ (n : Nat) (x0 : Nat) (x1 : Int32), Jg κ (wM κ) 2 fin 0 0 11 [some ((8, .ref x0) : TV), some ((0, .int x1) : TV)] [] (fX8_keeps_L11 n x0 x1) := by
  intro n
  induction n with
  | zero => intro x0 x1; exact J_fail
  | succ n ih =>
    intro x0 x1
    unfold fX8_keeps_L11
    refine J_iload_n (pc := 11) hc dX8_keeps_11 rfl rfl ?_
    refine J_sipush (pc := 12) (v := 7452) hc dX8_keeps_12 (by decide) ?_
    refine J_icmp_ge (pc := 15) (tgt := 40) hc dX8_keeps_15 (by decide) ?_ ?_
    · refine J_aload_n (pc := 40) hc dX8_keeps_40 rfl rfl ?_
      refine J_dup (pc := 41) hc dX8_keeps_41 rfl ?_
      refine J_getI (pc := 42) hc clX8 (k := 4) (Nat.le_of_ble_eq_true rfl) rfl tw1166 rfl dX8_keeps_42 (fun v5 => ?_)
      refine J_iconst (pc := 45) (v := 1) hc dX8_keeps_45 (by decide) ?_
      refine J_isub (pc := 46) hc dX8_keeps_46 ?_
      refine J_putI (pc := 47) hc clX8 (k := 4) (Nat.le_of_ble_eq_true rfl) rfl rfl tw1166 rfl rfl dX8_keeps_47 ?_
      refine J_sub (l' := [some ((8, .ref x0) : TV), none]) ⟨rfl, trivial⟩ ?_
      exact jX8_keeps_L50 hc he x0
    · refine J_aload_n (pc := 18) hc dX8_keeps_18 rfl rfl ?_
      refine J_getA (pc := 19) hc clX8 (k := 3) (kd := 11) (Nat.le_of_ble_eq_true rfl) rfl (Nat.le_of_ble_eq_true rfl) (Nat.le_of_ble_eq_true rfl) tw1165 rfl dX8_keeps_19 (fun v6 => ?_)
      refine J_iload_n (pc := 22) hc dX8_keeps_22 rfl rfl ?_
      refine J_aload_n (pc := 23) hc dX8_keeps_23 rfl rfl ?_
      refine J_getA (pc := 24) hc clX8 (k := 3) (kd := 11) (Nat.le_of_ble_eq_true rfl) rfl (Nat.le_of_ble_eq_true rfl) (Nat.le_of_ble_eq_true rfl) tw1165 rfl dX8_keeps_24 (fun v7 => ?_)
      refine J_iload_n (pc := 27) hc dX8_keeps_27 rfl rfl ?_
      refine J_sipush (pc := 28) (v := 828) hc dX8_keeps_28 (by decide) ?_
      refine J_iadd (pc := 31) hc dX8_keeps_31 ?_
      refine J_iald (pc := 32) hc dX8_keeps_32 (fun v8 => ?_)
      refine J_iast (pc := 33) hc dX8_keeps_33 ?_
      refine J_iinc (pc := 34) (v := x1 + 1) (l' := [some ((8, .ref x0) : TV), some ((0, .int (x1 + 1)) : TV)]) hc dX8_keeps_34 rfl rfl (by decide) rfl rfl ?_
      refine J_goto (pc := 37) (tgt := 11) hc dX8_keeps_37 (by decide) ?_
      refine J_sub (l' := [some ((8, .ref x0) : TV), some ((0, .int (x1 + 1)) : TV)]) ⟨rfl, ⟨rfl, trivial⟩⟩ ?_
      exact ih x0 (x1 + 1)
set_option maxRecDepth 100000 in
set_option maxHeartbeats 4000000 in
theorem jX8_keeps {κ : Cx} {fin : Unit → Mm → Prop} (hc : Jc κ RX8 cX8_keeps 2 1 0 0 24) (he : Ed κ cX8_keeps 0 0 wV .return_ fin) (x0 : Nat) : Jg κ (wM κ) 2 fin 0 0 0 [some ((8, .ref x0) : TV), none] [] (fX8_keeps x0) := by
  unfold fX8_keeps
  refine J_aload_n (pc := 0) hc dX8_keeps_0 rfl rfl ?_
  refine J_getI (pc := 1) hc clX8 (k := 4) (Nat.le_of_ble_eq_true rfl) rfl tw1166 rfl dX8_keeps_1 (fun v9 => ?_)
  refine J_bipush (pc := 4) (v := 10) hc dX8_keeps_4 (by decide) ?_
  refine J_icmp_ne (pc := 6) (tgt := 50) hc dX8_keeps_6 (by decide) ?_ ?_
  · refine J_sub (l' := [some ((8, .ref x0) : TV), none]) ⟨rfl, trivial⟩ ?_
    exact jX8_keeps_L50 hc he x0
  · refine J_iconst (pc := 9) (v := 0) hc dX8_keeps_9 (by decide) ?_
    refine J_istore_n (pc := 10) (l' := [some ((8, .ref x0) : TV), some ((0, .int 0) : TV)]) hc dX8_keeps_10 rfl (by decide) rfl rfl ?_
    refine J_sub (l' := [some ((8, .ref x0) : TV), some ((0, .int 0) : TV)]) ⟨rfl, ⟨rfl, trivial⟩⟩ ?_
    exact jX8_keeps_L11 hc he fu x0 0
theorem moX8_keeps : MOk yX8_keeps 0 := ⟨by decide +kernel, by decide +kernel, by decide +kernel⟩
set_option maxRecDepth 100000 in
set_option maxHeartbeats 4000000 in
theorem KX8_keeps (x0 : Nat) : Ct wV yX8_keeps cX8_keeps 2 none 1 0 0 24 [((8, .ref x0) : TV)] (fX8_keeps x0) :=
  Ct_V (j := 1) (by decide +kernel) rfl rfl (Nat.le_of_ble_eq_true rfl) (fun κ fin hc he hin => jX8_keeps hc he x0)
set_option maxRecDepth 100000 in
set_option maxHeartbeats 4000000 in
theorem jX8_highOf_L19 {κ : Cx} {fin : Int32 → Mm → Prop} (hc : Jc κ RX8 cX8_highOf 1 0 0 0 0) (he : Ed κ cX8_highOf 0 0 wI .ireturn fin) : Jg κ (wM κ) 1 fin 0 0 19 [none] [] (fX8_highOf_L19) := by
  unfold fX8_highOf_L19
  refine J_iconst (pc := 19) (v := 1) hc dX8_highOf_19 (by decide) ?_
  refine J_goto (pc := 20) (tgt := 35) hc dX8_highOf_20 (by decide) ?_
  exact J_iret (pc := 35) he dX8_highOf_35
set_option maxRecDepth 100000 in
set_option maxHeartbeats 4000000 in
theorem jX8_highOf {κ : Cx} {fin : Int32 → Mm → Prop} (hc : Jc κ RX8 cX8_highOf 1 0 0 0 0) (he : Ed κ cX8_highOf 0 0 wI .ireturn fin) (x0 : Int32) : Jg κ (wM κ) 1 fin 0 0 0 [some ((0, .int x0) : TV)] [] (fX8_highOf x0) := by
  unfold fX8_highOf
  refine J_iload_n (pc := 0) hc dX8_highOf_0 rfl rfl ?_
  refine J_if_ne (pc := 1) (tgt := 9) hc dX8_highOf_1 (by decide) ?_ ?_
  · refine J_iload_n (pc := 9) hc dX8_highOf_9 rfl rfl ?_
    refine J_iconst (pc := 10) (v := 1) hc dX8_highOf_10 (by decide) ?_
    refine J_icmp_eq (pc := 11) (tgt := 19) hc dX8_highOf_11 (by decide) ?_ ?_
    · refine J_sub (l' := [none]) (show subL _ _ from trivial) ?_
      exact jX8_highOf_L19 hc he 
    · refine J_iload_n (pc := 14) hc dX8_highOf_14 rfl rfl ?_
      refine J_iconst (pc := 15) (v := 2) hc dX8_highOf_15 (by decide) ?_
      refine J_icmp_ne (pc := 16) (tgt := 23) hc dX8_highOf_16 (by decide) ?_ ?_
      · refine J_iload_n (pc := 23) hc dX8_highOf_23 rfl rfl ?_
        refine J_iconst (pc := 24) (v := 3) hc dX8_highOf_24 (by decide) ?_
        refine J_icmp_ne (pc := 25) (tgt := 33) hc dX8_highOf_25 (by decide) ?_ ?_
        · refine J_bipush (pc := 33) (v := 99) hc dX8_highOf_33 (by decide) ?_
          exact J_iret (pc := 35) he dX8_highOf_35
        · refine J_bipush (pc := 28) (v := 9) hc dX8_highOf_28 (by decide) ?_
          refine J_goto (pc := 30) (tgt := 35) hc dX8_highOf_30 (by decide) ?_
          exact J_iret (pc := 35) he dX8_highOf_35
      · refine J_sub (l' := [none]) (show subL _ _ from trivial) ?_
        exact jX8_highOf_L19 hc he 
  · refine J_bipush (pc := 4) (v := 8) hc dX8_highOf_4 (by decide) ?_
    refine J_goto (pc := 6) (tgt := 35) hc dX8_highOf_6 (by decide) ?_
    exact J_iret (pc := 35) he dX8_highOf_35
theorem moX8_highOf : MOk yX8_highOf 1 := ⟨by decide +kernel, by decide +kernel, by decide +kernel⟩
set_option maxRecDepth 100000 in
set_option maxHeartbeats 4000000 in
theorem KX8_highOf (x0 : Int32) : Ct wI yX8_highOf cX8_highOf 1 (some .int) 0 0 0 0 [((0, .int x0) : TV)] (fX8_highOf x0) :=
  Ct_I (j := 0) (by decide +kernel) rfl rfl (Nat.le_of_ble_eq_true rfl) (fun κ fin hc he => jX8_highOf hc he x0)
set_option maxRecDepth 100000 in
set_option maxHeartbeats 4000000 in
theorem jX8_isSetting_L19 {κ : Cx} {fin : Int32 → Mm → Prop} (hc : Jc κ RX8 cX8_isSetting 2 1 0 0 22) (he : EdZ κ cX8_isSetting 0 0 id fin) (x0 : Int32) (s0 : Int32) (s1 : Int32) : Jg κ (wM κ) 2 fin 0 0 19 [some ((0, .int x0) : TV), none] [((0, .int s0) : TV), ((0, .int s1) : TV)] (fX8_isSetting_L19 x0 s0 s1) := by
  unfold fX8_isSetting_L19
  refine J_iload_n (pc := 19) hc dX8_isSetting_19 rfl rfl ?_
  refine J_callSi (pc := 20) hc (As := [((0, .int x0) : TV)]) (KX8_highOf x0) dX8_isSetting_20 moX8_highOf tw1465 tw1466 tw9 tw1467 rfl (Nat.le_of_ble_eq_true rfl) (Nat.le_of_ble_eq_true rfl) (Nat.le_of_ble_eq_true rfl) (Nat.le_of_ble_eq_true rfl) (Nat.le_of_ble_eq_true rfl) rfl (fun v1 => ?_)
  refine J_callSi (pc := 23) hc (As := [((0, .int s1) : TV), ((0, .int s0) : TV), ((0, .int v1) : TV)]) (KX8_in s1 s0 v1) dX8_isSetting_23 moX8_in tw1298 tw1299 tw9 tw1300 rfl (Nat.le_of_ble_eq_true rfl) (Nat.le_of_ble_eq_true rfl) (Nat.le_of_ble_eq_true rfl) (Nat.le_of_ble_eq_true rfl) (Nat.le_of_ble_eq_true rfl) rfl (fun v2 => ?_)
  refine J_if_eq (pc := 26) (tgt := 33) hc dX8_isSetting_26 (by decide) ?_ ?_
  · refine J_iconst (pc := 33) (v := 0) hc dX8_isSetting_33 (by decide) ?_
    exact J_zret (pc := 34) he dX8_isSetting_34
  · refine J_iconst (pc := 29) (v := 1) hc dX8_isSetting_29 (by decide) ?_
    refine J_goto (pc := 30) (tgt := 34) hc dX8_isSetting_30 (by decide) ?_
    exact J_zret (pc := 34) he dX8_isSetting_34
set_option maxRecDepth 100000 in
set_option maxHeartbeats 4000000 in
theorem jX8_isSetting {κ : Cx} {fin : Int32 → Mm → Prop} (hc : Jc κ RX8 cX8_isSetting 2 1 0 0 22) (he : EdZ κ cX8_isSetting 0 0 id fin) (x0 : Int32) (x1 : Int32) : Jg κ (wM κ) 2 fin 0 0 0 [some ((0, .int x0) : TV), some ((0, .int x1) : TV)] [] (fX8_isSetting x0 x1) := by
  unfold fX8_isSetting
  refine J_iload_n (pc := 0) hc dX8_isSetting_0 rfl rfl ?_
  refine J_iconst (pc := 1) (v := 0) hc dX8_isSetting_1 (by decide) ?_
  refine J_iconst (pc := 2) (v := 5) hc dX8_isSetting_2 (by decide) ?_
  refine J_callSi (pc := 3) hc (As := [((0, .int x0) : TV), ((0, .int 0) : TV), ((0, .int 5) : TV)]) (KX8_in x0 0 5) dX8_isSetting_3 moX8_in tw1298 tw1299 tw9 tw1300 rfl (Nat.le_of_ble_eq_true rfl) (Nat.le_of_ble_eq_true rfl) (Nat.le_of_ble_eq_true rfl) (Nat.le_of_ble_eq_true rfl) (Nat.le_of_ble_eq_true rfl) rfl (fun v3 => ?_)
  refine J_if_eq (pc := 6) (tgt := 33) hc dX8_isSetting_6 (by decide) ?_ ?_
  · refine J_iconst (pc := 33) (v := 0) hc dX8_isSetting_33 (by decide) ?_
    exact J_zret (pc := 34) he dX8_isSetting_34
  · refine J_iload_n (pc := 9) hc dX8_isSetting_9 rfl rfl ?_
    refine J_iload_n (pc := 10) hc dX8_isSetting_10 rfl rfl ?_
    refine J_if_ne (pc := 11) (tgt := 18) hc dX8_isSetting_11 (by decide) ?_ ?_
    · refine J_iconst (pc := 18) (v := 0) hc dX8_isSetting_18 (by decide) ?_
      refine J_sub (l' := [some ((0, .int x0) : TV), none]) ⟨rfl, trivial⟩ ?_
      exact jX8_isSetting_L19 hc he x0 0 x1
    · refine J_iconst (pc := 14) (v := 1) hc dX8_isSetting_14 (by decide) ?_
      refine J_goto (pc := 15) (tgt := 19) hc dX8_isSetting_15 (by decide) ?_
      refine J_sub (l' := [some ((0, .int x0) : TV), none]) ⟨rfl, trivial⟩ ?_
      exact jX8_isSetting_L19 hc he x0 1 x1
theorem moX8_isSetting : MOk yX8_isSetting 2 := ⟨by decide +kernel, by decide +kernel, by decide +kernel⟩
set_option maxRecDepth 100000 in
set_option maxHeartbeats 4000000 in
theorem KX8_isSetting (x0 : Int32) (x1 : Int32) : Ct wI yX8_isSetting cX8_isSetting 2 (some .boolean) 1 0 0 22 [((0, .int x0) : TV), ((0, .int x1) : TV)] (fX8_isSetting x0 x1) :=
  Ct_Z ⟨rfl, rfl⟩ (j := 0) (by decide +kernel) rfl rfl (Nat.le_of_ble_eq_true rfl) (fun κ fin hc he => jX8_isSetting hc he x0 x1)
set_option maxRecDepth 100000 in
set_option maxHeartbeats 4000000 in
theorem jX8_set_L14 {κ : Cx} {fin : Int32 → Mm → Prop} (hc : Jc κ RX8 cX8_set 4 2 0 0 45) (he : Ed κ cX8_set 0 0 wI .ireturn fin) (x0 : Nat) (x1 : Int32) (x2 : Int32) (s0 : Int32) (s1 : Nat) : Jg κ (wM κ) 4 fin 0 0 14 [some ((8, .ref x0) : TV), some ((0, .int x1) : TV), some ((0, .int x2) : TV), none] [((0, .int s0) : TV), ((8, .ref s1) : TV)] (fX8_set_L14 x0 x1 x2 s0 s1) := by
  unfold fX8_set_L14
  refine J_putI (pc := 14) hc clX8 (k := 0) (Nat.le_of_ble_eq_true rfl) rfl rfl tw1162 rfl rfl dX8_set_14 ?_
  refine J_aload_n (pc := 17) hc dX8_set_17 rfl rfl ?_
  refine J_getI (pc := 18) hc clX8 (k := 0) (Nat.le_of_ble_eq_true rfl) rfl tw1162 rfl dX8_set_18 (fun v1 => ?_)
  refine J_if_le (pc := 21) (tgt := 26) hc dX8_set_21 (by decide) ?_ ?_
  · refine J_aload_n (pc := 26) hc dX8_set_26 rfl rfl ?_
    refine J_callVv (pc := 27) hc clX8 (As := []) (KX8_keeps x0) dX8_set_27 moX8_keeps rfl tw1468 tw1470 twp76 tw9 tw1471 rfl (Nat.le_of_ble_eq_true rfl) (Nat.le_of_ble_eq_true rfl) (Nat.le_of_ble_eq_true rfl) (Nat.le_of_ble_eq_true rfl) (Nat.le_of_ble_eq_true rfl) rfl (fun _ => ?_)
    refine J_aload_n (pc := 30) hc dX8_set_30 rfl rfl ?_
    refine J_getA (pc := 31) hc clX8 (k := 1) (kd := 11) (Nat.le_of_ble_eq_true rfl) rfl (Nat.le_of_ble_eq_true rfl) (Nat.le_of_ble_eq_true rfl) tw1163 rfl dX8_set_31 (fun v2 => ?_)
    refine J_iconst (pc := 34) (v := 2) hc dX8_set_34 (by decide) ?_
    refine J_iload_n (pc := 35) hc dX8_set_35 rfl rfl ?_
    refine J_iadd (pc := 36) hc dX8_set_36 ?_
    refine J_iald (pc := 37) hc dX8_set_37 (fun v3 => ?_)
    refine J_istore_n (pc := 38) (l' := [some ((8, .ref x0) : TV), some ((0, .int x1) : TV), some ((0, .int x2) : TV), some ((0, .int v3) : TV)]) hc dX8_set_38 rfl (by decide) rfl rfl ?_
    refine J_aload_n (pc := 39) hc dX8_set_39 rfl rfl ?_
    refine J_getA (pc := 40) hc clX8 (k := 1) (kd := 11) (Nat.le_of_ble_eq_true rfl) rfl (Nat.le_of_ble_eq_true rfl) (Nat.le_of_ble_eq_true rfl) tw1163 rfl dX8_set_40 (fun v4 => ?_)
    refine J_iconst (pc := 43) (v := 2) hc dX8_set_43 (by decide) ?_
    refine J_iload_n (pc := 44) hc dX8_set_44 rfl rfl ?_
    refine J_iadd (pc := 45) hc dX8_set_45 ?_
    refine J_iload_n (pc := 46) hc dX8_set_46 rfl rfl ?_
    refine J_iast (pc := 47) hc dX8_set_47 ?_
    refine J_iload_n (pc := 48) hc dX8_set_48 rfl rfl ?_
    exact J_iret (pc := 49) he dX8_set_49
  · refine J_iconst (pc := 24) (v := 0) hc dX8_set_24 (by decide) ?_
    exact J_iret (pc := 25) he dX8_set_25
set_option maxRecDepth 100000 in
set_option maxHeartbeats 4000000 in
theorem jX8_set {κ : Cx} {fin : Int32 → Mm → Prop} (hc : Jc κ RX8 cX8_set 4 2 0 0 45) (he : Ed κ cX8_set 0 0 wI .ireturn fin) (x0 : Nat) (x1 : Int32) (x2 : Int32) : Jg κ (wM κ) 4 fin 0 0 0 [some ((8, .ref x0) : TV), some ((0, .int x1) : TV), some ((0, .int x2) : TV), none] [] (fX8_set x0 x1 x2) := by
  unfold fX8_set
  refine J_aload_n (pc := 0) hc dX8_set_0 rfl rfl ?_
  refine J_iload_n (pc := 1) hc dX8_set_1 rfl rfl ?_
  refine J_iload_n (pc := 2) hc dX8_set_2 rfl rfl ?_
  refine J_callSi (pc := 3) hc (As := [((0, .int x1) : TV), ((0, .int x2) : TV)]) (KX8_isSetting x1 x2) dX8_set_3 moX8_isSetting tw1462 tw1463 tw9 tw1464 rfl (Nat.le_of_ble_eq_true rfl) (Nat.le_of_ble_eq_true rfl) (Nat.le_of_ble_eq_true rfl) (Nat.le_of_ble_eq_true rfl) (Nat.le_of_ble_eq_true rfl) rfl (fun v5 => ?_)
  refine J_if_eq (pc := 6) (tgt := 13) hc dX8_set_6 (by decide) ?_ ?_
  · refine J_iconst (pc := 13) (v := 1) hc dX8_set_13 (by decide) ?_
    refine J_sub (l' := [some ((8, .ref x0) : TV), some ((0, .int x1) : TV), some ((0, .int x2) : TV), none]) ⟨rfl, ⟨rfl, ⟨rfl, trivial⟩⟩⟩ ?_
    exact jX8_set_L14 hc he x0 x1 x2 1 x0
  · refine J_iconst (pc := 9) (v := 0) hc dX8_set_9 (by decide) ?_
    refine J_goto (pc := 10) (tgt := 14) hc dX8_set_10 (by decide) ?_
    refine J_sub (l' := [some ((8, .ref x0) : TV), some ((0, .int x1) : TV), some ((0, .int x2) : TV), none]) ⟨rfl, ⟨rfl, ⟨rfl, trivial⟩⟩⟩ ?_
    exact jX8_set_L14 hc he x0 x1 x2 0 x0
theorem moX8_set : MOk yX8_set 2 := ⟨by decide +kernel, by decide +kernel, by decide +kernel⟩
set_option maxRecDepth 100000 in
set_option maxHeartbeats 4000000 in
theorem KX8_set (x0 : Nat) (x1 : Int32) (x2 : Int32) : Ct wI yX8_set cX8_set 4 (some .int) 2 0 0 45 [((8, .ref x0) : TV), ((0, .int x1) : TV), ((0, .int x2) : TV)] (fX8_set x0 x1 x2) :=
  Ct_I (j := 1) (by decide +kernel) rfl rfl (Nat.le_of_ble_eq_true rfl) (fun κ fin hc he => jX8_set hc he x0 x1 x2)
set_option maxRecDepth 100000 in
set_option maxHeartbeats 4000000 in
theorem jX8_lose_L29 {κ : Cx} {fin : Int32 → Mm → Prop} (hc : Jc κ RX8 cX8_lose 4 2 0 0 45) (he : Ed κ cX8_lose 0 0 wI .ireturn fin) (x0 : Nat) (x1 : Int32) (x2 : Int32) (s0 : Int32) (s1 : Nat) : Jg κ (wM κ) 4 fin 0 0 29 [some ((8, .ref x0) : TV), some ((0, .int x1) : TV), some ((0, .int x2) : TV), none] [((0, .int s0) : TV), ((8, .ref s1) : TV)] (fX8_lose_L29 x0 x1 x2 s0 s1) := by
  unfold fX8_lose_L29
  refine J_putI (pc := 29) hc clX8 (k := 0) (Nat.le_of_ble_eq_true rfl) rfl rfl tw1162 rfl rfl dX8_lose_29 ?_
  refine J_aload_n (pc := 32) hc dX8_lose_32 rfl rfl ?_
  refine J_getI (pc := 33) hc clX8 (k := 0) (Nat.le_of_ble_eq_true rfl) rfl tw1162 rfl dX8_lose_33 (fun v1 => ?_)
  refine J_if_le (pc := 36) (tgt := 41) hc dX8_lose_36 (by decide) ?_ ?_
  · refine J_aload_n (pc := 41) hc dX8_lose_41 rfl rfl ?_
    refine J_callVv (pc := 42) hc clX8 (As := []) (KX8_keeps x0) dX8_lose_42 moX8_keeps rfl tw1468 tw1470 twp76 tw9 tw1471 rfl (Nat.le_of_ble_eq_true rfl) (Nat.le_of_ble_eq_true rfl) (Nat.le_of_ble_eq_true rfl) (Nat.le_of_ble_eq_true rfl) (Nat.le_of_ble_eq_true rfl) rfl (fun _ => ?_)
    refine J_aload_n (pc := 45) hc dX8_lose_45 rfl rfl ?_
    refine J_getA (pc := 46) hc clX8 (k := 1) (kd := 11) (Nat.le_of_ble_eq_true rfl) rfl (Nat.le_of_ble_eq_true rfl) (Nat.le_of_ble_eq_true rfl) tw1163 rfl dX8_lose_46 (fun v2 => ?_)
    refine J_bipush (pc := 49) (v := 8) hc dX8_lose_49 (by decide) ?_
    refine J_iload_n (pc := 51) hc dX8_lose_51 rfl rfl ?_
    refine J_iadd (pc := 52) hc dX8_lose_52 ?_
    refine J_iald (pc := 53) hc dX8_lose_53 (fun v3 => ?_)
    refine J_istore_n (pc := 54) (l' := [some ((8, .ref x0) : TV), some ((0, .int x1) : TV), some ((0, .int x2) : TV), some ((0, .int v3) : TV)]) hc dX8_lose_54 rfl (by decide) rfl rfl ?_
    refine J_aload_n (pc := 55) hc dX8_lose_55 rfl rfl ?_
    refine J_getA (pc := 56) hc clX8 (k := 1) (kd := 11) (Nat.le_of_ble_eq_true rfl) rfl (Nat.le_of_ble_eq_true rfl) (Nat.le_of_ble_eq_true rfl) tw1163 rfl dX8_lose_56 (fun v4 => ?_)
    refine J_bipush (pc := 59) (v := 8) hc dX8_lose_59 (by decide) ?_
    refine J_iload_n (pc := 61) hc dX8_lose_61 rfl rfl ?_
    refine J_iadd (pc := 62) hc dX8_lose_62 ?_
    refine J_iload_n (pc := 63) hc dX8_lose_63 rfl rfl ?_
    refine J_iast (pc := 64) hc dX8_lose_64 ?_
    refine J_iload_n (pc := 65) hc dX8_lose_65 rfl rfl ?_
    exact J_iret (pc := 66) he dX8_lose_66
  · refine J_iconst (pc := 39) (v := 0) hc dX8_lose_39 (by decide) ?_
    exact J_iret (pc := 40) he dX8_lose_40
set_option maxRecDepth 100000 in
set_option maxHeartbeats 4000000 in
theorem jX8_lose {κ : Cx} {fin : Int32 → Mm → Prop} (hc : Jc κ RX8 cX8_lose 4 2 0 0 45) (he : Ed κ cX8_lose 0 0 wI .ireturn fin) (x0 : Nat) (x1 : Int32) (x2 : Int32) : Jg κ (wM κ) 4 fin 0 0 0 [some ((8, .ref x0) : TV), some ((0, .int x1) : TV), some ((0, .int x2) : TV), none] [] (fX8_lose x0 x1 x2) := by
  unfold fX8_lose
  refine J_aload_n (pc := 0) hc dX8_lose_0 rfl rfl ?_
  refine J_iload_n (pc := 1) hc dX8_lose_1 rfl rfl ?_
  refine J_iconst (pc := 2) (v := 0) hc dX8_lose_2 (by decide) ?_
  refine J_bipush (pc := 3) (v := 19) hc dX8_lose_3 (by decide) ?_
  refine J_callSi (pc := 5) hc (As := [((0, .int x1) : TV), ((0, .int 0) : TV), ((0, .int 19) : TV)]) (KX8_in x1 0 19) dX8_lose_5 moX8_in tw1298 tw1299 tw9 tw1300 rfl (Nat.le_of_ble_eq_true rfl) (Nat.le_of_ble_eq_true rfl) (Nat.le_of_ble_eq_true rfl) (Nat.le_of_ble_eq_true rfl) (Nat.le_of_ble_eq_true rfl) rfl (fun v5 => ?_)
  refine J_if_ne (pc := 8) (tgt := 15) hc dX8_lose_8 (by decide) ?_ ?_
  · refine J_iload_n (pc := 15) hc dX8_lose_15 rfl rfl ?_
    refine J_iconst (pc := 16) (v := 0) hc dX8_lose_16 (by decide) ?_
    refine J_iconst (pc := 17) (v := 5) hc dX8_lose_17 (by decide) ?_
    refine J_callSi (pc := 18) hc (As := [((0, .int x2) : TV), ((0, .int 0) : TV), ((0, .int 5) : TV)]) (KX8_in x2 0 5) dX8_lose_18 moX8_in tw1298 tw1299 tw9 tw1300 rfl (Nat.le_of_ble_eq_true rfl) (Nat.le_of_ble_eq_true rfl) (Nat.le_of_ble_eq_true rfl) (Nat.le_of_ble_eq_true rfl) (Nat.le_of_ble_eq_true rfl) rfl (fun v6 => ?_)
    refine J_if_eq (pc := 21) (tgt := 28) hc dX8_lose_21 (by decide) ?_ ?_
    · refine J_iconst (pc := 28) (v := 2) hc dX8_lose_28 (by decide) ?_
      refine J_sub (l' := [some ((8, .ref x0) : TV), some ((0, .int x1) : TV), some ((0, .int x2) : TV), none]) ⟨rfl, ⟨rfl, ⟨rfl, trivial⟩⟩⟩ ?_
      exact jX8_lose_L29 hc he x0 x1 x2 2 x0
    · refine J_iconst (pc := 24) (v := 0) hc dX8_lose_24 (by decide) ?_
      refine J_goto (pc := 25) (tgt := 29) hc dX8_lose_25 (by decide) ?_
      refine J_sub (l' := [some ((8, .ref x0) : TV), some ((0, .int x1) : TV), some ((0, .int x2) : TV), none]) ⟨rfl, ⟨rfl, ⟨rfl, trivial⟩⟩⟩ ?_
      exact jX8_lose_L29 hc he x0 x1 x2 0 x0
  · refine J_iconst (pc := 11) (v := 1) hc dX8_lose_11 (by decide) ?_
    refine J_goto (pc := 12) (tgt := 29) hc dX8_lose_12 (by decide) ?_
    refine J_sub (l' := [some ((8, .ref x0) : TV), some ((0, .int x1) : TV), some ((0, .int x2) : TV), none]) ⟨rfl, ⟨rfl, ⟨rfl, trivial⟩⟩⟩ ?_
    exact jX8_lose_L29 hc he x0 x1 x2 1 x0
theorem moX8_lose : MOk yX8_lose 2 := ⟨by decide +kernel, by decide +kernel, by decide +kernel⟩
set_option maxRecDepth 100000 in
set_option maxHeartbeats 4000000 in
theorem KX8_lose (x0 : Nat) (x1 : Int32) (x2 : Int32) : Ct wI yX8_lose cX8_lose 4 (some .int) 2 0 0 45 [((8, .ref x0) : TV), ((0, .int x1) : TV), ((0, .int x2) : TV)] (fX8_lose x0 x1 x2) :=
  Ct_I (j := 1) (by decide +kernel) rfl rfl (Nat.le_of_ble_eq_true rfl) (fun κ fin hc he => jX8_lose hc he x0 x1 x2)
set_option maxRecDepth 100000 in
set_option maxHeartbeats 4000000 in
theorem jX8_isPart {κ : Cx} {fin : Int32 → Mm → Prop} (hc : Jc κ RX8 cX8_isPart 3 1 0 0 22) (he : EdZ κ cX8_isPart 0 0 id fin) (x0 : Nat) (x1 : Int32) (x2 : Int32) : Jg κ (wM κ) 3 fin 0 0 0 [some ((8, .ref x0) : TV), some ((0, .int x1) : TV), some ((0, .int x2) : TV)] [] (fX8_isPart x0 x1 x2) := by
  unfold fX8_isPart
  refine J_iload_n (pc := 0) hc dX8_isPart_0 rfl rfl ?_
  refine J_iconst (pc := 1) (v := 0) hc dX8_isPart_1 (by decide) ?_
  refine J_aload_n (pc := 2) hc dX8_isPart_2 rfl rfl ?_
  refine J_getA (pc := 3) hc clX8 (k := 1) (kd := 11) (Nat.le_of_ble_eq_true rfl) rfl (Nat.le_of_ble_eq_true rfl) (Nat.le_of_ble_eq_true rfl) tw1163 rfl dX8_isPart_3 (fun v1 => ?_)
  refine J_iconst (pc := 6) (v := 0) hc dX8_isPart_6 (by decide) ?_
  refine J_iald (pc := 7) hc dX8_isPart_7 (fun v2 => ?_)
  refine J_callSi (pc := 8) hc (As := [((0, .int x1) : TV), ((0, .int 0) : TV), ((0, .int v2) : TV)]) (KX8_in x1 0 v2) dX8_isPart_8 moX8_in tw1298 tw1299 tw9 tw1300 rfl (Nat.le_of_ble_eq_true rfl) (Nat.le_of_ble_eq_true rfl) (Nat.le_of_ble_eq_true rfl) (Nat.le_of_ble_eq_true rfl) (Nat.le_of_ble_eq_true rfl) rfl (fun v3 => ?_)
  refine J_if_eq (pc := 11) (tgt := 32) hc dX8_isPart_11 (by decide) ?_ ?_
  · refine J_iconst (pc := 32) (v := 0) hc dX8_isPart_32 (by decide) ?_
    exact J_zret (pc := 33) he dX8_isPart_33
  · refine J_iload_n (pc := 14) hc dX8_isPart_14 rfl rfl ?_
    refine J_iload_n (pc := 15) hc dX8_isPart_15 rfl rfl ?_
    refine J_aload_n (pc := 16) hc dX8_isPart_16 rfl rfl ?_
    refine J_getA (pc := 17) hc clX8 (k := 1) (kd := 11) (Nat.le_of_ble_eq_true rfl) rfl (Nat.le_of_ble_eq_true rfl) (Nat.le_of_ble_eq_true rfl) tw1163 rfl dX8_isPart_17 (fun v4 => ?_)
    refine J_iconst (pc := 20) (v := 0) hc dX8_isPart_20 (by decide) ?_
    refine J_iald (pc := 21) hc dX8_isPart_21 (fun v5 => ?_)
    refine J_callSi (pc := 22) hc (As := [((0, .int x2) : TV), ((0, .int x1) : TV), ((0, .int v5) : TV)]) (KX8_in x2 x1 v5) dX8_isPart_22 moX8_in tw1298 tw1299 tw9 tw1300 rfl (Nat.le_of_ble_eq_true rfl) (Nat.le_of_ble_eq_true rfl) (Nat.le_of_ble_eq_true rfl) (Nat.le_of_ble_eq_true rfl) (Nat.le_of_ble_eq_true rfl) rfl (fun v6 => ?_)
    refine J_if_eq (pc := 25) (tgt := 32) hc dX8_isPart_25 (by decide) ?_ ?_
    · refine J_iconst (pc := 32) (v := 0) hc dX8_isPart_32 (by decide) ?_
      exact J_zret (pc := 33) he dX8_isPart_33
    · refine J_iconst (pc := 28) (v := 1) hc dX8_isPart_28 (by decide) ?_
      refine J_goto (pc := 29) (tgt := 33) hc dX8_isPart_29 (by decide) ?_
      exact J_zret (pc := 33) he dX8_isPart_33
theorem moX8_isPart : MOk yX8_isPart 2 := ⟨by decide +kernel, by decide +kernel, by decide +kernel⟩
set_option maxRecDepth 100000 in
set_option maxHeartbeats 4000000 in
theorem KX8_isPart (x0 : Nat) (x1 : Int32) (x2 : Int32) : Ct wI yX8_isPart cX8_isPart 3 (some .boolean) 1 0 0 22 [((8, .ref x0) : TV), ((0, .int x1) : TV), ((0, .int x2) : TV)] (fX8_isPart x0 x1 x2) :=
  Ct_Z ⟨rfl, rfl⟩ (j := 0) (by decide +kernel) rfl rfl (Nat.le_of_ble_eq_true rfl) (fun κ fin hc he => jX8_isPart hc he x0 x1 x2)
set_option maxRecDepth 100000 in
set_option maxHeartbeats 4000000 in
theorem jX8_clearsLine_L2 {κ : Cx} {fin : Unit → Mm → Prop} (hc : Jc κ RX8 cX8_clearsLine 3 1 0 0 21) (he : Ed κ cX8_clearsLine 0 0 wV .return_ fin) : ∀ (n : Nat) (x0 : Nat) (x1 : Int32) (x2 : Int32), Jg κ (wM κ) 3 fin 0 0 2 [some ((8, .ref x0) : TV), some ((0, .int x1) : TV), some ((0, .int x2) : TV)] [] (fX8_clearsLine_L2 n x0 x1 x2) := by
  intro n
  induction n with
  | zero => intro x0 x1 x2; exact J_fail
  | succ n ih =>
    intro x0 x1 x2
    unfold fX8_clearsLine_L2
    refine J_iload_n (pc := 2) hc dX8_clearsLine_2 rfl rfl ?_
    refine J_bipush (pc := 3) (v := 40) hc dX8_clearsLine_3 (by decide) ?_
    refine J_icmp_ge (pc := 5) (tgt := 25) hc dX8_clearsLine_5 (by decide) ?_ ?_
    · exact J_vret (pc := 25) he dX8_clearsLine_25
    · refine J_aload_n (pc := 8) hc dX8_clearsLine_8 rfl rfl ?_
      refine J_getA (pc := 9) hc clX8 (k := 1) (kd := 11) (Nat.le_of_ble_eq_true rfl) rfl (Nat.le_of_ble_eq_true rfl) (Nat.le_of_ble_eq_true rfl) tw1163 rfl dX8_clearsLine_9 (fun v1 => ?_)
      refine J_iload_n (pc := 12) hc dX8_clearsLine_12 rfl rfl ?_
      refine J_iload_n (pc := 13) hc dX8_clearsLine_13 rfl rfl ?_
      refine J_callSi (pc := 14) hc (As := [((0, .int x1) : TV), ((0, .int x2) : TV)]) (KX8_dotAt x1 x2) dX8_clearsLine_14 moX8_dotAt tw1309 tw1310 tw9 tw1311 rfl (Nat.le_of_ble_eq_true rfl) (Nat.le_of_ble_eq_true rfl) (Nat.le_of_ble_eq_true rfl) (Nat.le_of_ble_eq_true rfl) (Nat.le_of_ble_eq_true rfl) rfl (fun v2 => ?_)
      refine J_iconst (pc := 17) (v := 0) hc dX8_clearsLine_17 (by decide) ?_
      refine J_iast (pc := 18) hc dX8_clearsLine_18 ?_
      refine J_iinc (pc := 19) (v := x2 + 1) (l' := [some ((8, .ref x0) : TV), some ((0, .int x1) : TV), some ((0, .int (x2 + 1)) : TV)]) hc dX8_clearsLine_19 rfl rfl (by decide) rfl rfl ?_
      refine J_goto (pc := 22) (tgt := 2) hc dX8_clearsLine_22 (by decide) ?_
      refine J_sub (l' := [some ((8, .ref x0) : TV), some ((0, .int x1) : TV), some ((0, .int (x2 + 1)) : TV)]) ⟨rfl, ⟨rfl, ⟨rfl, trivial⟩⟩⟩ ?_
      exact ih x0 x1 (x2 + 1)
set_option maxRecDepth 100000 in
set_option maxHeartbeats 4000000 in
theorem jX8_clearsLine {κ : Cx} {fin : Unit → Mm → Prop} (hc : Jc κ RX8 cX8_clearsLine 3 1 0 0 21) (he : Ed κ cX8_clearsLine 0 0 wV .return_ fin) (x0 : Nat) (x1 : Int32) : Jg κ (wM κ) 3 fin 0 0 0 [some ((8, .ref x0) : TV), some ((0, .int x1) : TV), none] [] (fX8_clearsLine x0 x1) := by
  unfold fX8_clearsLine
  refine J_iconst (pc := 0) (v := 0) hc dX8_clearsLine_0 (by decide) ?_
  refine J_istore_n (pc := 1) (l' := [some ((8, .ref x0) : TV), some ((0, .int x1) : TV), some ((0, .int 0) : TV)]) hc dX8_clearsLine_1 rfl (by decide) rfl rfl ?_
  refine J_sub (l' := [some ((8, .ref x0) : TV), some ((0, .int x1) : TV), some ((0, .int 0) : TV)]) ⟨rfl, ⟨rfl, ⟨rfl, trivial⟩⟩⟩ ?_
  exact jX8_clearsLine_L2 hc he fu x0 x1 0
theorem moX8_clearsLine : MOk yX8_clearsLine 1 := ⟨by decide +kernel, by decide +kernel, by decide +kernel⟩
set_option maxRecDepth 100000 in
set_option maxHeartbeats 4000000 in
theorem KX8_clearsLine (x0 : Nat) (x1 : Int32) : Ct wV yX8_clearsLine cX8_clearsLine 3 none 1 0 0 21 [((8, .ref x0) : TV), ((0, .int x1) : TV)] (fX8_clearsLine x0 x1) :=
  Ct_V (j := 1) (by decide +kernel) rfl rfl (Nat.le_of_ble_eq_true rfl) (fun κ fin hc he hin => jX8_clearsLine hc he x0 x1)
set_option maxRecDepth 100000 in
set_option maxHeartbeats 4000000 in
theorem jX8_paintsLine_L35 {κ : Cx} {fin : Int32 → Mm → Prop} (hc : Jc κ RX8 cX8_paintsLine 7 1 0 0 21) (he : Ed κ cX8_paintsLine 0 0 wI .ireturn fin) {k6 : Nat → Int32 → Int32 → Int32 → Int32 → Int32 → Mm → Option (Int32 × Mm)} (hk6 : ∀ (x0 : Nat) (x1 : Int32) (x3 : Int32) (x4 : Int32) (x5 : Int32) (x6 : Int32), Jg κ (wM κ) 7 fin 0 0 6 [some ((8, .ref x0) : TV), some ((0, .int x1) : TV), none, some ((0, .int x3) : TV), some ((0, .int x4) : TV), some ((0, .int x5) : TV), some ((0, .int x6) : TV)] [] (k6 x0 x1 x3 x4 x5 x6)) (x0 : Nat) (x1 : Int32) (x3 : Int32) (x4 : Int32) (x6 : Int32) (s0 : Int32) (s1 : Int32) : Jg κ (wM κ) 7 fin 0 0 35 [some ((8, .ref x0) : TV), some ((0, .int x1) : TV), none, some ((0, .int x3) : TV), some ((0, .int x4) : TV), none, some ((0, .int x6) : TV)] [((0, .int s0) : TV), ((0, .int s1) : TV)] (fX8_paintsLine_L35 k6 x0 x1 x3 x4 x6 s0 s1) := by
  unfold fX8_paintsLine_L35
  refine J_iadd (pc := 35) hc dX8_paintsLine_35 ?_
  refine J_nmi (fun v1 => ?_)
  refine J_istore (pc := 36) (l' := [some ((8, .ref x0) : TV), some ((0, .int x1) : TV), none, some ((0, .int x3) : TV), some ((0, .int x4) : TV), some ((0, .int v1) : TV), some ((0, .int x6) : TV)]) hc dX8_paintsLine_36 (by decide) rfl rfl ?_
  refine J_aload_n (pc := 38) hc dX8_paintsLine_38 rfl rfl ?_
  refine J_getA (pc := 39) hc clX8 (k := 1) (kd := 11) (Nat.le_of_ble_eq_true rfl) rfl (Nat.le_of_ble_eq_true rfl) (Nat.le_of_ble_eq_true rfl) tw1163 rfl dX8_paintsLine_39 (fun v2 => ?_)
  refine J_iload_n (pc := 42) hc dX8_paintsLine_42 rfl rfl ?_
  refine J_iload (pc := 43) hc dX8_paintsLine_43 rfl ?_
  refine J_callSi (pc := 45) hc (As := [((0, .int x1) : TV), ((0, .int x6) : TV)]) (KX8_dotAt x1 x6) dX8_paintsLine_45 moX8_dotAt tw1309 tw1310 tw9 tw1311 rfl (Nat.le_of_ble_eq_true rfl) (Nat.le_of_ble_eq_true rfl) (Nat.le_of_ble_eq_true rfl) (Nat.le_of_ble_eq_true rfl) (Nat.le_of_ble_eq_true rfl) rfl (fun v3 => ?_)
  refine J_iload (pc := 48) hc dX8_paintsLine_48 rfl ?_
  refine J_iast (pc := 50) hc dX8_paintsLine_50 ?_
  refine J_iinc (pc := 51) (v := x6 + 1) (l' := [some ((8, .ref x0) : TV), some ((0, .int x1) : TV), none, some ((0, .int x3) : TV), some ((0, .int x4) : TV), some ((0, .int v1) : TV), some ((0, .int (x6 + 1)) : TV)]) hc dX8_paintsLine_51 rfl rfl (by decide) rfl rfl ?_
  refine J_goto (pc := 54) (tgt := 6) hc dX8_paintsLine_54 (by decide) ?_
  refine J_sub (l' := [some ((8, .ref x0) : TV), some ((0, .int x1) : TV), none, some ((0, .int x3) : TV), some ((0, .int x4) : TV), some ((0, .int v1) : TV), some ((0, .int (x6 + 1)) : TV)]) ⟨rfl, ⟨rfl, ⟨rfl, ⟨rfl, ⟨rfl, ⟨rfl, trivial⟩⟩⟩⟩⟩⟩ ?_
  exact hk6 x0 x1 x3 x4 v1 (x6 + 1)
set_option maxRecDepth 100000 in
set_option maxHeartbeats 4000000 in
theorem jX8_paintsLine_L6 {κ : Cx} {fin : Int32 → Mm → Prop} (hc : Jc κ RX8 cX8_paintsLine 7 1 0 0 21) (he : Ed κ cX8_paintsLine 0 0 wI .ireturn fin) : ∀ (n : Nat) (x0 : Nat) (x1 : Int32) (x3 : Int32) (x4 : Int32) (x5 : Int32) (x6 : Int32), Jg κ (wM κ) 7 fin 0 0 6 [some ((8, .ref x0) : TV), some ((0, .int x1) : TV), none, some ((0, .int x3) : TV), some ((0, .int x4) : TV), some ((0, .int x5) : TV), some ((0, .int x6) : TV)] [] (fX8_paintsLine_L6 n x0 x1 x3 x4 x5 x6) := by
  intro n
  induction n with
  | zero => intro x0 x1 x3 x4 x5 x6; exact J_fail
  | succ n ih =>
    intro x0 x1 x3 x4 x5 x6
    unfold fX8_paintsLine_L6
    refine J_iload (pc := 6) hc dX8_paintsLine_6 rfl ?_
    refine J_iload_n (pc := 8) hc dX8_paintsLine_8 rfl rfl ?_
    refine J_icmp_ge (pc := 9) (tgt := 57) hc dX8_paintsLine_9 (by decide) ?_ ?_
    · refine J_iload (pc := 57) hc dX8_paintsLine_57 rfl ?_
      exact J_iret (pc := 59) he dX8_paintsLine_59
    · refine J_iload (pc := 12) hc dX8_paintsLine_12 rfl ?_
      refine J_aload_n (pc := 14) hc dX8_paintsLine_14 rfl rfl ?_
      refine J_getA (pc := 15) hc clX8 (k := 1) (kd := 11) (Nat.le_of_ble_eq_true rfl) rfl (Nat.le_of_ble_eq_true rfl) (Nat.le_of_ble_eq_true rfl) tw1163 rfl dX8_paintsLine_15 (fun v4 => ?_)
      refine J_iload_n (pc := 18) hc dX8_paintsLine_18 rfl rfl ?_
      refine J_iload (pc := 19) hc dX8_paintsLine_19 rfl ?_
      refine J_callSi (pc := 21) hc (As := [((0, .int x1) : TV), ((0, .int x6) : TV)]) (KX8_dotAt x1 x6) dX8_paintsLine_21 moX8_dotAt tw1309 tw1310 tw9 tw1311 rfl (Nat.le_of_ble_eq_true rfl) (Nat.le_of_ble_eq_true rfl) (Nat.le_of_ble_eq_true rfl) (Nat.le_of_ble_eq_true rfl) (Nat.le_of_ble_eq_true rfl) rfl (fun v5 => ?_)
      refine J_iald (pc := 24) hc dX8_paintsLine_24 (fun v6 => ?_)
      refine J_iload (pc := 25) hc dX8_paintsLine_25 rfl ?_
      refine J_icmp_ne (pc := 27) (tgt := 34) hc dX8_paintsLine_27 (by decide) ?_ ?_
      · refine J_iconst (pc := 34) (v := 1) hc dX8_paintsLine_34 (by decide) ?_
        refine J_sub (l' := [some ((8, .ref x0) : TV), some ((0, .int x1) : TV), none, some ((0, .int x3) : TV), some ((0, .int x4) : TV), none, some ((0, .int x6) : TV)]) ⟨rfl, ⟨rfl, ⟨rfl, ⟨rfl, ⟨rfl, trivial⟩⟩⟩⟩⟩ ?_
        exact jX8_paintsLine_L35 hc he ih x0 x1 x3 x4 x6 1 x5
      · refine J_iconst (pc := 30) (v := 0) hc dX8_paintsLine_30 (by decide) ?_
        refine J_goto (pc := 31) (tgt := 35) hc dX8_paintsLine_31 (by decide) ?_
        refine J_sub (l' := [some ((8, .ref x0) : TV), some ((0, .int x1) : TV), none, some ((0, .int x3) : TV), some ((0, .int x4) : TV), none, some ((0, .int x6) : TV)]) ⟨rfl, ⟨rfl, ⟨rfl, ⟨rfl, ⟨rfl, trivial⟩⟩⟩⟩⟩ ?_
        exact jX8_paintsLine_L35 hc he ih x0 x1 x3 x4 x6 0 x5
set_option maxRecDepth 100000 in
set_option maxHeartbeats 4000000 in
theorem jX8_paintsLine {κ : Cx} {fin : Int32 → Mm → Prop} (hc : Jc κ RX8 cX8_paintsLine 7 1 0 0 21) (he : Ed κ cX8_paintsLine 0 0 wI .ireturn fin) (x0 : Nat) (x1 : Int32) (x2 : Int32) (x3 : Int32) (x4 : Int32) : Jg κ (wM κ) 7 fin 0 0 0 [some ((8, .ref x0) : TV), some ((0, .int x1) : TV), some ((0, .int x2) : TV), some ((0, .int x3) : TV), some ((0, .int x4) : TV), none, none] [] (fX8_paintsLine x0 x1 x2 x3 x4) := by
  unfold fX8_paintsLine
  refine J_iconst (pc := 0) (v := 0) hc dX8_paintsLine_0 (by decide) ?_
  refine J_istore (pc := 1) (l' := [some ((8, .ref x0) : TV), some ((0, .int x1) : TV), some ((0, .int x2) : TV), some ((0, .int x3) : TV), some ((0, .int x4) : TV), some ((0, .int 0) : TV), none]) hc dX8_paintsLine_1 (by decide) rfl rfl ?_
  refine J_iload_n (pc := 3) hc dX8_paintsLine_3 rfl rfl ?_
  refine J_istore (pc := 4) (l' := [some ((8, .ref x0) : TV), some ((0, .int x1) : TV), some ((0, .int x2) : TV), some ((0, .int x3) : TV), some ((0, .int x4) : TV), some ((0, .int 0) : TV), some ((0, .int x2) : TV)]) hc dX8_paintsLine_4 (by decide) rfl rfl ?_
  refine J_sub (l' := [some ((8, .ref x0) : TV), some ((0, .int x1) : TV), none, some ((0, .int x3) : TV), some ((0, .int x4) : TV), some ((0, .int 0) : TV), some ((0, .int x2) : TV)]) ⟨rfl, ⟨rfl, ⟨rfl, ⟨rfl, ⟨rfl, ⟨rfl, trivial⟩⟩⟩⟩⟩⟩ ?_
  exact jX8_paintsLine_L6 hc he fu x0 x1 x3 x4 0 x2
theorem moX8_paintsLine : MOk yX8_paintsLine 4 := ⟨by decide +kernel, by decide +kernel, by decide +kernel⟩
set_option maxRecDepth 100000 in
set_option maxHeartbeats 4000000 in
theorem KX8_paintsLine (x0 : Nat) (x1 : Int32) (x2 : Int32) (x3 : Int32) (x4 : Int32) : Ct wI yX8_paintsLine cX8_paintsLine 7 (some .int) 1 0 0 21 [((8, .ref x0) : TV), ((0, .int x1) : TV), ((0, .int x2) : TV), ((0, .int x3) : TV), ((0, .int x4) : TV)] (fX8_paintsLine x0 x1 x2 x3 x4) :=
  Ct_I (j := 2) (by decide +kernel) rfl rfl (Nat.le_of_ble_eq_true rfl) (fun κ fin hc he => jX8_paintsLine hc he x0 x1 x2 x3 x4)
set_option maxRecDepth 100000 in
set_option maxHeartbeats 4000000 in
theorem jX8_addLine_L30 {κ : Cx} {fin : Int32 → Mm → Prop} (hc : Jc κ RX8 cX8_addLine 5 2 0 0 47) (he : Ed κ cX8_addLine 0 0 wI .ireturn fin) (x0 : Nat) (x1 : Int32) (x2 : Int32) (s0 : Int32) (s1 : Nat) : Jg κ (wM κ) 5 fin 0 0 30 [some ((8, .ref x0) : TV), some ((0, .int x1) : TV), some ((0, .int x2) : TV), none, none] [((0, .int s0) : TV), ((8, .ref s1) : TV)] (fX8_addLine_L30 x0 x1 x2 s0 s1) := by
  unfold fX8_addLine_L30
  refine J_putI (pc := 30) hc clX8 (k := 0) (Nat.le_of_ble_eq_true rfl) rfl rfl tw1162 rfl rfl dX8_addLine_30 ?_
  refine J_aload_n (pc := 33) hc dX8_addLine_33 rfl rfl ?_
  refine J_getI (pc := 34) hc clX8 (k := 0) (Nat.le_of_ble_eq_true rfl) rfl tw1162 rfl dX8_addLine_34 (fun v1 => ?_)
  refine J_if_le (pc := 37) (tgt := 42) hc dX8_addLine_37 (by decide) ?_ ?_
  · refine J_aload_n (pc := 42) hc dX8_addLine_42 rfl rfl ?_
    refine J_callVv (pc := 43) hc clX8 (As := []) (KX8_keeps x0) dX8_addLine_43 moX8_keeps rfl tw1468 tw1470 twp76 tw9 tw1471 rfl (Nat.le_of_ble_eq_true rfl) (Nat.le_of_ble_eq_true rfl) (Nat.le_of_ble_eq_true rfl) (Nat.le_of_ble_eq_true rfl) (Nat.le_of_ble_eq_true rfl) rfl (fun _ => ?_)
    refine J_aload_n (pc := 46) hc dX8_addLine_46 rfl rfl ?_
    refine J_getA (pc := 47) hc clX8 (k := 1) (kd := 11) (Nat.le_of_ble_eq_true rfl) rfl (Nat.le_of_ble_eq_true rfl) (Nat.le_of_ble_eq_true rfl) tw1163 rfl dX8_addLine_47 (fun v2 => ?_)
    refine J_iconst (pc := 50) (v := 1) hc dX8_addLine_50 (by decide) ?_
    refine J_iald (pc := 51) hc dX8_addLine_51 (fun v3 => ?_)
    refine J_istore_n (pc := 52) (l' := [some ((8, .ref x0) : TV), some ((0, .int x1) : TV), some ((0, .int x2) : TV), some ((0, .int v3) : TV), none]) hc dX8_addLine_52 rfl (by decide) rfl rfl ?_
    refine J_aload_n (pc := 53) hc dX8_addLine_53 rfl rfl ?_
    refine J_iload_n (pc := 54) hc dX8_addLine_54 rfl rfl ?_
    refine J_callVv (pc := 55) hc clX8 (As := [((0, .int v3) : TV)]) (KX8_clearsLine x0 v3) dX8_addLine_55 moX8_clearsLine rfl tw1484 tw1486 twp78 tw9 tw1487 rfl (Nat.le_of_ble_eq_true rfl) (Nat.le_of_ble_eq_true rfl) (Nat.le_of_ble_eq_true rfl) (Nat.le_of_ble_eq_true rfl) (Nat.le_of_ble_eq_true rfl) rfl (fun _ => ?_)
    refine J_aload_n (pc := 58) hc dX8_addLine_58 rfl rfl ?_
    refine J_iload_n (pc := 59) hc dX8_addLine_59 rfl rfl ?_
    refine J_iload_n (pc := 60) hc dX8_addLine_60 rfl rfl ?_
    refine J_iload_n (pc := 61) hc dX8_addLine_61 rfl rfl ?_
    refine J_iconst (pc := 62) (v := 1) hc dX8_addLine_62 (by decide) ?_
    refine J_callVi (pc := 63) hc clX8 (As := [((0, .int v3) : TV), ((0, .int x1) : TV), ((0, .int x2) : TV), ((0, .int 1) : TV)]) (KX8_paintsLine x0 v3 x1 x2 1) dX8_addLine_63 moX8_paintsLine rfl tw1488 tw1490 twp79 tw9 tw1491 rfl (Nat.le_of_ble_eq_true rfl) (Nat.le_of_ble_eq_true rfl) (Nat.le_of_ble_eq_true rfl) (Nat.le_of_ble_eq_true rfl) (Nat.le_of_ble_eq_true rfl) rfl (fun v4 => ?_)
    refine J_istore (pc := 66) (l' := [some ((8, .ref x0) : TV), some ((0, .int x1) : TV), some ((0, .int x2) : TV), some ((0, .int v3) : TV), some ((0, .int v4) : TV)]) hc dX8_addLine_66 (by decide) rfl rfl ?_
    refine J_aload_n (pc := 68) hc dX8_addLine_68 rfl rfl ?_
    refine J_getA (pc := 69) hc clX8 (k := 1) (kd := 11) (Nat.le_of_ble_eq_true rfl) rfl (Nat.le_of_ble_eq_true rfl) (Nat.le_of_ble_eq_true rfl) tw1163 rfl dX8_addLine_69 (fun v5 => ?_)
    refine J_iconst (pc := 72) (v := 1) hc dX8_addLine_72 (by decide) ?_
    refine J_dup2 (pc := 73) hc dX8_addLine_73 rfl rfl ?_
    refine J_iald (pc := 74) hc dX8_addLine_74 (fun v6 => ?_)
    refine J_iconst (pc := 75) (v := 1) hc dX8_addLine_75 (by decide) ?_
    refine J_iadd (pc := 76) hc dX8_addLine_76 ?_
    refine J_iast (pc := 77) hc dX8_addLine_77 ?_
    refine J_iload_n (pc := 78) hc dX8_addLine_78 rfl rfl ?_
    exact J_iret (pc := 79) he dX8_addLine_79
  · refine J_iconst (pc := 40) (v := 0) hc dX8_addLine_40 (by decide) ?_
    exact J_iret (pc := 41) he dX8_addLine_41
set_option maxRecDepth 100000 in
set_option maxHeartbeats 4000000 in
theorem jX8_addLine {κ : Cx} {fin : Int32 → Mm → Prop} (hc : Jc κ RX8 cX8_addLine 5 2 0 0 47) (he : Ed κ cX8_addLine 0 0 wI .ireturn fin) (x0 : Nat) (x1 : Int32) (x2 : Int32) : Jg κ (wM κ) 5 fin 0 0 0 [some ((8, .ref x0) : TV), some ((0, .int x1) : TV), some ((0, .int x2) : TV), none, none] [] (fX8_addLine x0 x1 x2) := by
  unfold fX8_addLine
  refine J_aload_n (pc := 0) hc dX8_addLine_0 rfl rfl ?_
  refine J_aload_n (pc := 1) hc dX8_addLine_1 rfl rfl ?_
  refine J_iload_n (pc := 2) hc dX8_addLine_2 rfl rfl ?_
  refine J_iload_n (pc := 3) hc dX8_addLine_3 rfl rfl ?_
  refine J_callVi (pc := 4) hc clX8 (As := [((0, .int x1) : TV), ((0, .int x2) : TV)]) (KX8_isPart x0 x1 x2) dX8_addLine_4 moX8_isPart rfl tw1480 tw1482 twp77 tw9 tw1483 rfl (Nat.le_of_ble_eq_true rfl) (Nat.le_of_ble_eq_true rfl) (Nat.le_of_ble_eq_true rfl) (Nat.le_of_ble_eq_true rfl) (Nat.le_of_ble_eq_true rfl) rfl (fun v7 => ?_)
  refine J_if_ne (pc := 7) (tgt := 14) hc dX8_addLine_7 (by decide) ?_ ?_
  · refine J_aload_n (pc := 14) hc dX8_addLine_14 rfl rfl ?_
    refine J_getA (pc := 15) hc clX8 (k := 1) (kd := 11) (Nat.le_of_ble_eq_true rfl) rfl (Nat.le_of_ble_eq_true rfl) (Nat.le_of_ble_eq_true rfl) tw1163 rfl dX8_addLine_15 (fun v8 => ?_)
    refine J_iconst (pc := 18) (v := 1) hc dX8_addLine_18 (by decide) ?_
    refine J_iald (pc := 19) hc dX8_addLine_19 (fun v9 => ?_)
    refine J_bipush (pc := 20) (v := 20) hc dX8_addLine_20 (by decide) ?_
    refine J_icmp_ge (pc := 22) (tgt := 29) hc dX8_addLine_22 (by decide) ?_ ?_
    · refine J_iconst (pc := 29) (v := 2) hc dX8_addLine_29 (by decide) ?_
      refine J_sub (l' := [some ((8, .ref x0) : TV), some ((0, .int x1) : TV), some ((0, .int x2) : TV), none, none]) ⟨rfl, ⟨rfl, ⟨rfl, trivial⟩⟩⟩ ?_
      exact jX8_addLine_L30 hc he x0 x1 x2 2 x0
    · refine J_iconst (pc := 25) (v := 0) hc dX8_addLine_25 (by decide) ?_
      refine J_goto (pc := 26) (tgt := 30) hc dX8_addLine_26 (by decide) ?_
      refine J_sub (l' := [some ((8, .ref x0) : TV), some ((0, .int x1) : TV), some ((0, .int x2) : TV), none, none]) ⟨rfl, ⟨rfl, ⟨rfl, trivial⟩⟩⟩ ?_
      exact jX8_addLine_L30 hc he x0 x1 x2 0 x0
  · refine J_iconst (pc := 10) (v := 1) hc dX8_addLine_10 (by decide) ?_
    refine J_goto (pc := 11) (tgt := 30) hc dX8_addLine_11 (by decide) ?_
    refine J_sub (l' := [some ((8, .ref x0) : TV), some ((0, .int x1) : TV), some ((0, .int x2) : TV), none, none]) ⟨rfl, ⟨rfl, ⟨rfl, trivial⟩⟩⟩ ?_
    exact jX8_addLine_L30 hc he x0 x1 x2 1 x0
theorem moX8_addLine : MOk yX8_addLine 2 := ⟨by decide +kernel, by decide +kernel, by decide +kernel⟩
set_option maxRecDepth 100000 in
set_option maxHeartbeats 4000000 in
theorem KX8_addLine (x0 : Nat) (x1 : Int32) (x2 : Int32) : Ct wI yX8_addLine cX8_addLine 5 (some .int) 2 0 0 47 [((8, .ref x0) : TV), ((0, .int x1) : TV), ((0, .int x2) : TV)] (fX8_addLine x0 x1 x2) :=
  Ct_I (j := 2) (by decide +kernel) rfl rfl (Nat.le_of_ble_eq_true rfl) (fun κ fin hc he => jX8_addLine hc he x0 x1 x2)
set_option maxRecDepth 100000 in
set_option maxHeartbeats 4000000 in
theorem jX8_paint_L37 {κ : Cx} {fin : Int32 → Mm → Prop} (hc : Jc κ RX8 cX8_paint 5 2 0 0 47) (he : Ed κ cX8_paint 0 0 wI .ireturn fin) (x0 : Nat) (x1 : Int32) (x2 : Int32) (x3 : Int32) (x4 : Int32) (s0 : Int32) (s1 : Nat) : Jg κ (wM κ) 5 fin 0 0 37 [some ((8, .ref x0) : TV), some ((0, .int x1) : TV), some ((0, .int x2) : TV), some ((0, .int x3) : TV), some ((0, .int x4) : TV)] [((0, .int s0) : TV), ((8, .ref s1) : TV)] (fX8_paint_L37 x0 x1 x2 x3 x4 s0 s1) := by
  unfold fX8_paint_L37
  refine J_putI (pc := 37) hc clX8 (k := 0) (Nat.le_of_ble_eq_true rfl) rfl rfl tw1162 rfl rfl dX8_paint_37 ?_
  refine J_aload_n (pc := 40) hc dX8_paint_40 rfl rfl ?_
  refine J_getI (pc := 41) hc clX8 (k := 0) (Nat.le_of_ble_eq_true rfl) rfl tw1162 rfl dX8_paint_41 (fun v1 => ?_)
  refine J_if_le (pc := 44) (tgt := 49) hc dX8_paint_44 (by decide) ?_ ?_
  · refine J_aload_n (pc := 49) hc dX8_paint_49 rfl rfl ?_
    refine J_callVv (pc := 50) hc clX8 (As := []) (KX8_keeps x0) dX8_paint_50 moX8_keeps rfl tw1468 tw1470 twp76 tw9 tw1471 rfl (Nat.le_of_ble_eq_true rfl) (Nat.le_of_ble_eq_true rfl) (Nat.le_of_ble_eq_true rfl) (Nat.le_of_ble_eq_true rfl) (Nat.le_of_ble_eq_true rfl) rfl (fun _ => ?_)
    refine J_aload_n (pc := 53) hc dX8_paint_53 rfl rfl ?_
    refine J_iload_n (pc := 54) hc dX8_paint_54 rfl rfl ?_
    refine J_iload_n (pc := 55) hc dX8_paint_55 rfl rfl ?_
    refine J_iload_n (pc := 56) hc dX8_paint_56 rfl rfl ?_
    refine J_iload (pc := 57) hc dX8_paint_57 rfl ?_
    refine J_callVi (pc := 59) hc clX8 (As := [((0, .int x1) : TV), ((0, .int x2) : TV), ((0, .int x3) : TV), ((0, .int x4) : TV)]) (KX8_paintsLine x0 x1 x2 x3 x4) dX8_paint_59 moX8_paintsLine rfl tw1488 tw1490 twp79 tw9 tw1491 rfl (Nat.le_of_ble_eq_true rfl) (Nat.le_of_ble_eq_true rfl) (Nat.le_of_ble_eq_true rfl) (Nat.le_of_ble_eq_true rfl) (Nat.le_of_ble_eq_true rfl) rfl (fun v2 => ?_)
    exact J_iret (pc := 62) he dX8_paint_62
  · refine J_iconst (pc := 47) (v := 0) hc dX8_paint_47 (by decide) ?_
    exact J_iret (pc := 48) he dX8_paint_48
set_option maxRecDepth 100000 in
set_option maxHeartbeats 4000000 in
theorem jX8_paint_L36 {κ : Cx} {fin : Int32 → Mm → Prop} (hc : Jc κ RX8 cX8_paint 5 2 0 0 47) (he : Ed κ cX8_paint 0 0 wI .ireturn fin) (x0 : Nat) (x1 : Int32) (x2 : Int32) (x3 : Int32) (x4 : Int32) (s0 : Nat) : Jg κ (wM κ) 5 fin 0 0 36 [some ((8, .ref x0) : TV), some ((0, .int x1) : TV), some ((0, .int x2) : TV), some ((0, .int x3) : TV), some ((0, .int x4) : TV)] [((8, .ref s0) : TV)] (fX8_paint_L36 x0 x1 x2 x3 x4 s0) := by
  unfold fX8_paint_L36
  refine J_iconst (pc := 36) (v := 2) hc dX8_paint_36 (by decide) ?_
  refine J_sub (l' := [some ((8, .ref x0) : TV), some ((0, .int x1) : TV), some ((0, .int x2) : TV), some ((0, .int x3) : TV), some ((0, .int x4) : TV)]) ⟨rfl, ⟨rfl, ⟨rfl, ⟨rfl, ⟨rfl, trivial⟩⟩⟩⟩⟩ ?_
  exact jX8_paint_L37 hc he x0 x1 x2 x3 x4 2 s0
set_option maxRecDepth 100000 in
set_option maxHeartbeats 4000000 in
theorem jX8_paint {κ : Cx} {fin : Int32 → Mm → Prop} (hc : Jc κ RX8 cX8_paint 5 2 0 0 47) (he : Ed κ cX8_paint 0 0 wI .ireturn fin) (x0 : Nat) (x1 : Int32) (x2 : Int32) (x3 : Int32) (x4 : Int32) : Jg κ (wM κ) 5 fin 0 0 0 [some ((8, .ref x0) : TV), some ((0, .int x1) : TV), some ((0, .int x2) : TV), some ((0, .int x3) : TV), some ((0, .int x4) : TV)] [] (fX8_paint x0 x1 x2 x3 x4) := by
  unfold fX8_paint
  refine J_aload_n (pc := 0) hc dX8_paint_0 rfl rfl ?_
  refine J_aload_n (pc := 1) hc dX8_paint_1 rfl rfl ?_
  refine J_iload_n (pc := 2) hc dX8_paint_2 rfl rfl ?_
  refine J_callVi (pc := 3) hc clX8 (As := [((0, .int x1) : TV)]) (KX8_isLine x0 x1) dX8_paint_3 moX8_isLine rfl tw1390 tw1392 twp66 tw9 tw1393 rfl (Nat.le_of_ble_eq_true rfl) (Nat.le_of_ble_eq_true rfl) (Nat.le_of_ble_eq_true rfl) (Nat.le_of_ble_eq_true rfl) (Nat.le_of_ble_eq_true rfl) rfl (fun v3 => ?_)
  refine J_if_ne (pc := 6) (tgt := 13) hc dX8_paint_6 (by decide) ?_ ?_
  · refine J_aload_n (pc := 13) hc dX8_paint_13 rfl rfl ?_
    refine J_iload_n (pc := 14) hc dX8_paint_14 rfl rfl ?_
    refine J_iload_n (pc := 15) hc dX8_paint_15 rfl rfl ?_
    refine J_callVi (pc := 16) hc clX8 (As := [((0, .int x2) : TV), ((0, .int x3) : TV)]) (KX8_isPart x0 x2 x3) dX8_paint_16 moX8_isPart rfl tw1480 tw1482 twp77 tw9 tw1483 rfl (Nat.le_of_ble_eq_true rfl) (Nat.le_of_ble_eq_true rfl) (Nat.le_of_ble_eq_true rfl) (Nat.le_of_ble_eq_true rfl) (Nat.le_of_ble_eq_true rfl) rfl (fun v4 => ?_)
    refine J_if_eq (pc := 19) (tgt := 36) hc dX8_paint_19 (by decide) ?_ ?_
    · refine J_sub (l' := [some ((8, .ref x0) : TV), some ((0, .int x1) : TV), some ((0, .int x2) : TV), some ((0, .int x3) : TV), some ((0, .int x4) : TV)]) ⟨rfl, ⟨rfl, ⟨rfl, ⟨rfl, ⟨rfl, trivial⟩⟩⟩⟩⟩ ?_
      exact jX8_paint_L36 hc he x0 x1 x2 x3 x4 x0
    · refine J_iload (pc := 22) hc dX8_paint_22 rfl ?_
      refine J_iconst (pc := 24) (v := 0) hc dX8_paint_24 (by decide) ?_
      refine J_iconst (pc := 25) (v := 1) hc dX8_paint_25 (by decide) ?_
      refine J_callSi (pc := 26) hc (As := [((0, .int x4) : TV), ((0, .int 0) : TV), ((0, .int 1) : TV)]) (KX8_in x4 0 1) dX8_paint_26 moX8_in tw1298 tw1299 tw9 tw1300 rfl (Nat.le_of_ble_eq_true rfl) (Nat.le_of_ble_eq_true rfl) (Nat.le_of_ble_eq_true rfl) (Nat.le_of_ble_eq_true rfl) (Nat.le_of_ble_eq_true rfl) rfl (fun v5 => ?_)
      refine J_if_eq (pc := 29) (tgt := 36) hc dX8_paint_29 (by decide) ?_ ?_
      · refine J_sub (l' := [some ((8, .ref x0) : TV), some ((0, .int x1) : TV), some ((0, .int x2) : TV), some ((0, .int x3) : TV), some ((0, .int x4) : TV)]) ⟨rfl, ⟨rfl, ⟨rfl, ⟨rfl, ⟨rfl, trivial⟩⟩⟩⟩⟩ ?_
        exact jX8_paint_L36 hc he x0 x1 x2 x3 x4 x0
      · refine J_iconst (pc := 32) (v := 0) hc dX8_paint_32 (by decide) ?_
        refine J_goto (pc := 33) (tgt := 37) hc dX8_paint_33 (by decide) ?_
        refine J_sub (l' := [some ((8, .ref x0) : TV), some ((0, .int x1) : TV), some ((0, .int x2) : TV), some ((0, .int x3) : TV), some ((0, .int x4) : TV)]) ⟨rfl, ⟨rfl, ⟨rfl, ⟨rfl, ⟨rfl, trivial⟩⟩⟩⟩⟩ ?_
        exact jX8_paint_L37 hc he x0 x1 x2 x3 x4 0 x0
  · refine J_iconst (pc := 9) (v := 1) hc dX8_paint_9 (by decide) ?_
    refine J_goto (pc := 10) (tgt := 37) hc dX8_paint_10 (by decide) ?_
    refine J_sub (l' := [some ((8, .ref x0) : TV), some ((0, .int x1) : TV), some ((0, .int x2) : TV), some ((0, .int x3) : TV), some ((0, .int x4) : TV)]) ⟨rfl, ⟨rfl, ⟨rfl, ⟨rfl, ⟨rfl, trivial⟩⟩⟩⟩⟩ ?_
    exact jX8_paint_L37 hc he x0 x1 x2 x3 x4 1 x0
theorem moX8_paint : MOk yX8_paint 4 := ⟨by decide +kernel, by decide +kernel, by decide +kernel⟩
set_option maxRecDepth 100000 in
set_option maxHeartbeats 4000000 in
theorem KX8_paint (x0 : Nat) (x1 : Int32) (x2 : Int32) (x3 : Int32) (x4 : Int32) : Ct wI yX8_paint cX8_paint 5 (some .int) 2 0 0 47 [((8, .ref x0) : TV), ((0, .int x1) : TV), ((0, .int x2) : TV), ((0, .int x3) : TV), ((0, .int x4) : TV)] (fX8_paint x0 x1 x2 x3 x4) :=
  Ct_I (j := 0) (by decide +kernel) rfl rfl (Nat.le_of_ble_eq_true rfl) (fun κ fin hc he => jX8_paint hc he x0 x1 x2 x3 x4)
set_option maxRecDepth 100000 in
set_option maxHeartbeats 4000000 in
theorem jX8_shift_L97 {κ : Cx} {fin : Int32 → Mm → Prop} (hc : Jc κ RX8 cX8_shift 4 2 0 0 45) (he : Ed κ cX8_shift 0 0 wI .ireturn fin) {k52 : Nat → Int32 → Int32 → Int32 → Mm → Option (Int32 × Mm)} (hk52 : ∀ (x0 : Nat) (x1 : Int32) (x2 : Int32) (x3 : Int32), Jg κ (wM κ) 4 fin 0 0 52 [some ((8, .ref x0) : TV), some ((0, .int x1) : TV), some ((0, .int x2) : TV), some ((0, .int x3) : TV)] [] (k52 x0 x1 x2 x3)) (x0 : Nat) (x1 : Int32) (x2 : Int32) (x3 : Int32) (s0 : Int32) (s1 : Int32) (s2 : Nat) : Jg κ (wM κ) 4 fin 0 0 97 [some ((8, .ref x0) : TV), some ((0, .int x1) : TV), some ((0, .int x2) : TV), some ((0, .int x3) : TV)] [((0, .int s0) : TV), ((0, .int s1) : TV), ((11, .ref s2) : TV)] (fX8_shift_L97 k52 x0 x1 x2 x3 s0 s1 s2) := by
  unfold fX8_shift_L97
  refine J_iast (pc := 97) hc dX8_shift_97 ?_
  refine J_iinc (pc := 98) (v := x3 + 1) (l' := [some ((8, .ref x0) : TV), some ((0, .int x1) : TV), some ((0, .int x2) : TV), some ((0, .int (x3 + 1)) : TV)]) hc dX8_shift_98 rfl rfl (by decide) rfl rfl ?_
  refine J_goto (pc := 101) (tgt := 52) hc dX8_shift_101 (by decide) ?_
  refine J_sub (l' := [some ((8, .ref x0) : TV), some ((0, .int x1) : TV), some ((0, .int x2) : TV), some ((0, .int (x3 + 1)) : TV)]) ⟨rfl, ⟨rfl, ⟨rfl, ⟨rfl, trivial⟩⟩⟩⟩ ?_
  exact hk52 x0 x1 x2 (x3 + 1)
set_option maxRecDepth 100000 in
set_option maxHeartbeats 4000000 in
theorem jX8_shift_L52 {κ : Cx} {fin : Int32 → Mm → Prop} (hc : Jc κ RX8 cX8_shift 4 2 0 0 45) (he : Ed κ cX8_shift 0 0 wI .ireturn fin) : ∀ (n : Nat) (x0 : Nat) (x1 : Int32) (x2 : Int32) (x3 : Int32), Jg κ (wM κ) 4 fin 0 0 52 [some ((8, .ref x0) : TV), some ((0, .int x1) : TV), some ((0, .int x2) : TV), some ((0, .int x3) : TV)] [] (fX8_shift_L52 n x0 x1 x2 x3) := by
  intro n
  induction n with
  | zero => intro x0 x1 x2 x3; exact J_fail
  | succ n ih =>
    intro x0 x1 x2 x3
    unfold fX8_shift_L52
    refine J_iload_n (pc := 52) hc dX8_shift_52 rfl rfl ?_
    refine J_aload_n (pc := 53) hc dX8_shift_53 rfl rfl ?_
    refine J_getI (pc := 54) hc clX8 (k := 9) (Nat.le_of_ble_eq_true rfl) rfl tw1171 rfl dX8_shift_54 (fun v1 => ?_)
    refine J_icmp_ge (pc := 57) (tgt := 104) hc dX8_shift_57 (by decide) ?_ ?_
    · refine J_aload_n (pc := 104) hc dX8_shift_104 rfl rfl ?_
      refine J_iload_n (pc := 105) hc dX8_shift_105 rfl rfl ?_
      refine J_callVi (pc := 106) hc clX8 (As := [((0, .int x1) : TV)]) (KX8_blacks x0 x1) dX8_shift_106 moX8_blacks rfl tw1305 tw1307 twp48 tw9 tw1308 rfl (Nat.le_of_ble_eq_true rfl) (Nat.le_of_ble_eq_true rfl) (Nat.le_of_ble_eq_true rfl) (Nat.le_of_ble_eq_true rfl) (Nat.le_of_ble_eq_true rfl) rfl (fun v2 => ?_)
      exact J_iret (pc := 109) he dX8_shift_109
    · refine J_aload_n (pc := 60) hc dX8_shift_60 rfl rfl ?_
      refine J_getA (pc := 61) hc clX8 (k := 1) (kd := 11) (Nat.le_of_ble_eq_true rfl) rfl (Nat.le_of_ble_eq_true rfl) (Nat.le_of_ble_eq_true rfl) tw1163 rfl dX8_shift_61 (fun v3 => ?_)
      refine J_iload_n (pc := 64) hc dX8_shift_64 rfl rfl ?_
      refine J_iload_n (pc := 65) hc dX8_shift_65 rfl rfl ?_
      refine J_callSi (pc := 66) hc (As := [((0, .int x1) : TV), ((0, .int x3) : TV)]) (KX8_dotAt x1 x3) dX8_shift_66 moX8_dotAt tw1309 tw1310 tw9 tw1311 rfl (Nat.le_of_ble_eq_true rfl) (Nat.le_of_ble_eq_true rfl) (Nat.le_of_ble_eq_true rfl) (Nat.le_of_ble_eq_true rfl) (Nat.le_of_ble_eq_true rfl) rfl (fun v4 => ?_)
      refine J_iload_n (pc := 69) hc dX8_shift_69 rfl rfl ?_
      refine J_iload_n (pc := 70) hc dX8_shift_70 rfl rfl ?_
      refine J_isub (pc := 71) hc dX8_shift_71 ?_
      refine J_iconst (pc := 72) (v := 0) hc dX8_shift_72 (by decide) ?_
      refine J_aload_n (pc := 73) hc dX8_shift_73 rfl rfl ?_
      refine J_getI (pc := 74) hc clX8 (k := 9) (Nat.le_of_ble_eq_true rfl) rfl tw1171 rfl dX8_shift_74 (fun v5 => ?_)
      refine J_iconst (pc := 77) (v := 1) hc dX8_shift_77 (by decide) ?_
      refine J_isub (pc := 78) hc dX8_shift_78 ?_
      refine J_callSi (pc := 79) hc (As := [((0, .int (x3 - x2)) : TV), ((0, .int 0) : TV), ((0, .int (v5 - 1)) : TV)]) (KX8_in (x3 - x2) 0 (v5 - 1)) dX8_shift_79 moX8_in tw1298 tw1299 tw9 tw1300 rfl (Nat.le_of_ble_eq_true rfl) (Nat.le_of_ble_eq_true rfl) (Nat.le_of_ble_eq_true rfl) (Nat.le_of_ble_eq_true rfl) (Nat.le_of_ble_eq_true rfl) rfl (fun v6 => ?_)
      refine J_if_eq (pc := 82) (tgt := 96) hc dX8_shift_82 (by decide) ?_ ?_
      · refine J_iconst (pc := 96) (v := 0) hc dX8_shift_96 (by decide) ?_
        refine J_sub (l' := [some ((8, .ref x0) : TV), some ((0, .int x1) : TV), some ((0, .int x2) : TV), some ((0, .int x3) : TV)]) ⟨rfl, ⟨rfl, ⟨rfl, ⟨rfl, trivial⟩⟩⟩⟩ ?_
        exact jX8_shift_L97 hc he ih x0 x1 x2 x3 0 v4 v3
      · refine J_aload_n (pc := 85) hc dX8_shift_85 rfl rfl ?_
        refine J_getA (pc := 86) hc clX8 (k := 8) (kd := 11) (Nat.le_of_ble_eq_true rfl) rfl (Nat.le_of_ble_eq_true rfl) (Nat.le_of_ble_eq_true rfl) tw1170 rfl dX8_shift_86 (fun v7 => ?_)
        refine J_iload_n (pc := 89) hc dX8_shift_89 rfl rfl ?_
        refine J_iload_n (pc := 90) hc dX8_shift_90 rfl rfl ?_
        refine J_isub (pc := 91) hc dX8_shift_91 ?_
        refine J_iald (pc := 92) hc dX8_shift_92 (fun v8 => ?_)
        refine J_goto (pc := 93) (tgt := 97) hc dX8_shift_93 (by decide) ?_
        refine J_sub (l' := [some ((8, .ref x0) : TV), some ((0, .int x1) : TV), some ((0, .int x2) : TV), some ((0, .int x3) : TV)]) ⟨rfl, ⟨rfl, ⟨rfl, ⟨rfl, trivial⟩⟩⟩⟩ ?_
        exact jX8_shift_L97 hc he ih x0 x1 x2 x3 v8 v4 v3
set_option maxRecDepth 100000 in
set_option maxHeartbeats 4000000 in
theorem jX8_shift_L29 {κ : Cx} {fin : Int32 → Mm → Prop} (hc : Jc κ RX8 cX8_shift 4 2 0 0 45) (he : Ed κ cX8_shift 0 0 wI .ireturn fin) (x0 : Nat) (x1 : Int32) (x2 : Int32) (s0 : Int32) (s1 : Nat) : Jg κ (wM κ) 4 fin 0 0 29 [some ((8, .ref x0) : TV), some ((0, .int x1) : TV), some ((0, .int x2) : TV), none] [((0, .int s0) : TV), ((8, .ref s1) : TV)] (fX8_shift_L29 x0 x1 x2 s0 s1) := by
  unfold fX8_shift_L29
  refine J_putI (pc := 29) hc clX8 (k := 0) (Nat.le_of_ble_eq_true rfl) rfl rfl tw1162 rfl rfl dX8_shift_29 ?_
  refine J_aload_n (pc := 32) hc dX8_shift_32 rfl rfl ?_
  refine J_getI (pc := 33) hc clX8 (k := 0) (Nat.le_of_ble_eq_true rfl) rfl tw1162 rfl dX8_shift_33 (fun v9 => ?_)
  refine J_if_le (pc := 36) (tgt := 41) hc dX8_shift_36 (by decide) ?_ ?_
  · refine J_aload_n (pc := 41) hc dX8_shift_41 rfl rfl ?_
    refine J_callVv (pc := 42) hc clX8 (As := []) (KX8_keeps x0) dX8_shift_42 moX8_keeps rfl tw1468 tw1470 twp76 tw9 tw1471 rfl (Nat.le_of_ble_eq_true rfl) (Nat.le_of_ble_eq_true rfl) (Nat.le_of_ble_eq_true rfl) (Nat.le_of_ble_eq_true rfl) (Nat.le_of_ble_eq_true rfl) rfl (fun _ => ?_)
    refine J_aload_n (pc := 45) hc dX8_shift_45 rfl rfl ?_
    refine J_iload_n (pc := 46) hc dX8_shift_46 rfl rfl ?_
    refine J_callVv (pc := 47) hc clX8 (As := [((0, .int x1) : TV)]) (KX8_laysLine x0 x1) dX8_shift_47 moX8_laysLine rfl tw1328 tw1330 twp53 tw9 tw1331 rfl (Nat.le_of_ble_eq_true rfl) (Nat.le_of_ble_eq_true rfl) (Nat.le_of_ble_eq_true rfl) (Nat.le_of_ble_eq_true rfl) (Nat.le_of_ble_eq_true rfl) rfl (fun _ => ?_)
    refine J_iconst (pc := 50) (v := 0) hc dX8_shift_50 (by decide) ?_
    refine J_istore_n (pc := 51) (l' := [some ((8, .ref x0) : TV), some ((0, .int x1) : TV), some ((0, .int x2) : TV), some ((0, .int 0) : TV)]) hc dX8_shift_51 rfl (by decide) rfl rfl ?_
    refine J_sub (l' := [some ((8, .ref x0) : TV), some ((0, .int x1) : TV), some ((0, .int x2) : TV), some ((0, .int 0) : TV)]) ⟨rfl, ⟨rfl, ⟨rfl, ⟨rfl, trivial⟩⟩⟩⟩ ?_
    exact jX8_shift_L52 hc he fu x0 x1 x2 0
  · refine J_iconst (pc := 39) (v := 0) hc dX8_shift_39 (by decide) ?_
    exact J_iret (pc := 40) he dX8_shift_40
set_option maxRecDepth 100000 in
set_option maxHeartbeats 4000000 in
theorem jX8_shift {κ : Cx} {fin : Int32 → Mm → Prop} (hc : Jc κ RX8 cX8_shift 4 2 0 0 45) (he : Ed κ cX8_shift 0 0 wI .ireturn fin) (x0 : Nat) (x1 : Int32) (x2 : Int32) : Jg κ (wM κ) 4 fin 0 0 0 [some ((8, .ref x0) : TV), some ((0, .int x1) : TV), some ((0, .int x2) : TV), none] [] (fX8_shift x0 x1 x2) := by
  unfold fX8_shift
  refine J_aload_n (pc := 0) hc dX8_shift_0 rfl rfl ?_
  refine J_aload_n (pc := 1) hc dX8_shift_1 rfl rfl ?_
  refine J_iload_n (pc := 2) hc dX8_shift_2 rfl rfl ?_
  refine J_callVi (pc := 3) hc clX8 (As := [((0, .int x1) : TV)]) (KX8_isLine x0 x1) dX8_shift_3 moX8_isLine rfl tw1390 tw1392 twp66 tw9 tw1393 rfl (Nat.le_of_ble_eq_true rfl) (Nat.le_of_ble_eq_true rfl) (Nat.le_of_ble_eq_true rfl) (Nat.le_of_ble_eq_true rfl) (Nat.le_of_ble_eq_true rfl) rfl (fun v10 => ?_)
  refine J_if_ne (pc := 6) (tgt := 13) hc dX8_shift_6 (by decide) ?_ ?_
  · refine J_iload_n (pc := 13) hc dX8_shift_13 rfl rfl ?_
    refine J_bipush (pc := 14) (v := (-40)) hc dX8_shift_14 (by decide) ?_
    refine J_bipush (pc := 16) (v := 40) hc dX8_shift_16 (by decide) ?_
    refine J_callSi (pc := 18) hc (As := [((0, .int x2) : TV), ((0, .int (-40)) : TV), ((0, .int 40) : TV)]) (KX8_in x2 (-40) 40) dX8_shift_18 moX8_in tw1298 tw1299 tw9 tw1300 rfl (Nat.le_of_ble_eq_true rfl) (Nat.le_of_ble_eq_true rfl) (Nat.le_of_ble_eq_true rfl) (Nat.le_of_ble_eq_true rfl) (Nat.le_of_ble_eq_true rfl) rfl (fun v11 => ?_)
    refine J_if_eq (pc := 21) (tgt := 28) hc dX8_shift_21 (by decide) ?_ ?_
    · refine J_iconst (pc := 28) (v := 2) hc dX8_shift_28 (by decide) ?_
      refine J_sub (l' := [some ((8, .ref x0) : TV), some ((0, .int x1) : TV), some ((0, .int x2) : TV), none]) ⟨rfl, ⟨rfl, ⟨rfl, trivial⟩⟩⟩ ?_
      exact jX8_shift_L29 hc he x0 x1 x2 2 x0
    · refine J_iconst (pc := 24) (v := 0) hc dX8_shift_24 (by decide) ?_
      refine J_goto (pc := 25) (tgt := 29) hc dX8_shift_25 (by decide) ?_
      refine J_sub (l' := [some ((8, .ref x0) : TV), some ((0, .int x1) : TV), some ((0, .int x2) : TV), none]) ⟨rfl, ⟨rfl, ⟨rfl, trivial⟩⟩⟩ ?_
      exact jX8_shift_L29 hc he x0 x1 x2 0 x0
  · refine J_iconst (pc := 9) (v := 1) hc dX8_shift_9 (by decide) ?_
    refine J_goto (pc := 10) (tgt := 29) hc dX8_shift_10 (by decide) ?_
    refine J_sub (l' := [some ((8, .ref x0) : TV), some ((0, .int x1) : TV), some ((0, .int x2) : TV), none]) ⟨rfl, ⟨rfl, ⟨rfl, trivial⟩⟩⟩ ?_
    exact jX8_shift_L29 hc he x0 x1 x2 1 x0
theorem moX8_shift : MOk yX8_shift 2 := ⟨by decide +kernel, by decide +kernel, by decide +kernel⟩
set_option maxRecDepth 100000 in
set_option maxHeartbeats 4000000 in
theorem KX8_shift (x0 : Nat) (x1 : Int32) (x2 : Int32) : Ct wI yX8_shift cX8_shift 4 (some .int) 2 0 0 45 [((8, .ref x0) : TV), ((0, .int x1) : TV), ((0, .int x2) : TV)] (fX8_shift x0 x1 x2) :=
  Ct_I (j := 1) (by decide +kernel) rfl rfl (Nat.le_of_ble_eq_true rfl) (fun κ fin hc he => jX8_shift hc he x0 x1 x2)
