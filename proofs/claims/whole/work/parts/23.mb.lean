set_option maxRecDepth 100000 in
set_option maxHeartbeats 4000000 in
theorem jX8_movesLine_L2 {κ : Cx} {fin : Unit → Mm → Prop} (hc : Jc κ RX8 cX8_movesLine 4 1 0 0 21) (he : Ed κ cX8_movesLine 0 0 wV .return_ fin) : ∀ (n : Nat) (x0 : Nat) (x1 : Int32) (x2 : Int32) (x3 : Int32), Jg κ (wM κ) 4 fin 0 0 2 [some ((8, .ref x0) : TV), some ((0, .int x1) : TV), some ((0, .int x2) : TV), some ((0, .int x3) : TV)] [] (fX8_movesLine_L2 n x0 x1 x2 x3) := by
  intro n
  induction n with
  | zero => intro x0 x1 x2 x3; exact J_fail
  | succ n ih =>
    intro x0 x1 x2 x3
    unfold fX8_movesLine_L2
    refine J_iload_n (pc := 2) hc dX8_movesLine_2 rfl rfl ?_
    refine J_bipush (pc := 3) (v := 40) hc dX8_movesLine_3 (by decide) ?_
    refine J_icmp_ge (pc := 5) (tgt := 34) hc dX8_movesLine_5 (by decide) ?_ ?_
    · exact J_vret (pc := 34) he dX8_movesLine_34
    · refine J_aload_n (pc := 8) hc dX8_movesLine_8 rfl rfl ?_
      refine J_getA (pc := 9) hc clX8 (k := 1) (kd := 11) (Nat.le_of_ble_eq_true rfl) rfl (Nat.le_of_ble_eq_true rfl) (Nat.le_of_ble_eq_true rfl) tw1163 rfl dX8_movesLine_9 (fun v1 => ?_)
      refine J_iload_n (pc := 12) hc dX8_movesLine_12 rfl rfl ?_
      refine J_iload_n (pc := 13) hc dX8_movesLine_13 rfl rfl ?_
      refine J_callSi (pc := 14) hc (As := [((0, .int x2) : TV), ((0, .int x3) : TV)]) (KX8_dotAt x2 x3) dX8_movesLine_14 moX8_dotAt tw1309 tw1310 tw9 tw1311 rfl (Nat.le_of_ble_eq_true rfl) (Nat.le_of_ble_eq_true rfl) (Nat.le_of_ble_eq_true rfl) (Nat.le_of_ble_eq_true rfl) (Nat.le_of_ble_eq_true rfl) rfl (fun v2 => ?_)
      refine J_aload_n (pc := 17) hc dX8_movesLine_17 rfl rfl ?_
      refine J_getA (pc := 18) hc clX8 (k := 1) (kd := 11) (Nat.le_of_ble_eq_true rfl) rfl (Nat.le_of_ble_eq_true rfl) (Nat.le_of_ble_eq_true rfl) tw1163 rfl dX8_movesLine_18 (fun v3 => ?_)
      refine J_iload_n (pc := 21) hc dX8_movesLine_21 rfl rfl ?_
      refine J_iload_n (pc := 22) hc dX8_movesLine_22 rfl rfl ?_
      refine J_callSi (pc := 23) hc (As := [((0, .int x1) : TV), ((0, .int x3) : TV)]) (KX8_dotAt x1 x3) dX8_movesLine_23 moX8_dotAt tw1309 tw1310 tw9 tw1311 rfl (Nat.le_of_ble_eq_true rfl) (Nat.le_of_ble_eq_true rfl) (Nat.le_of_ble_eq_true rfl) (Nat.le_of_ble_eq_true rfl) (Nat.le_of_ble_eq_true rfl) rfl (fun v4 => ?_)
      refine J_iald (pc := 26) hc dX8_movesLine_26 (fun v5 => ?_)
      refine J_iast (pc := 27) hc dX8_movesLine_27 ?_
      refine J_iinc (pc := 28) (v := x3 + 1) (l' := [some ((8, .ref x0) : TV), some ((0, .int x1) : TV), some ((0, .int x2) : TV), some ((0, .int (x3 + 1)) : TV)]) hc dX8_movesLine_28 rfl rfl (by decide) rfl rfl ?_
      refine J_goto (pc := 31) (tgt := 2) hc dX8_movesLine_31 (by decide) ?_
      refine J_sub (l' := [some ((8, .ref x0) : TV), some ((0, .int x1) : TV), some ((0, .int x2) : TV), some ((0, .int (x3 + 1)) : TV)]) ⟨rfl, ⟨rfl, ⟨rfl, ⟨rfl, trivial⟩⟩⟩⟩ ?_
      exact ih x0 x1 x2 (x3 + 1)
set_option maxRecDepth 100000 in
set_option maxHeartbeats 4000000 in
theorem jX8_movesLine {κ : Cx} {fin : Unit → Mm → Prop} (hc : Jc κ RX8 cX8_movesLine 4 1 0 0 21) (he : Ed κ cX8_movesLine 0 0 wV .return_ fin) (x0 : Nat) (x1 : Int32) (x2 : Int32) : Jg κ (wM κ) 4 fin 0 0 0 [some ((8, .ref x0) : TV), some ((0, .int x1) : TV), some ((0, .int x2) : TV), none] [] (fX8_movesLine x0 x1 x2) := by
  unfold fX8_movesLine
  refine J_iconst (pc := 0) (v := 0) hc dX8_movesLine_0 (by decide) ?_
  refine J_istore_n (pc := 1) (l' := [some ((8, .ref x0) : TV), some ((0, .int x1) : TV), some ((0, .int x2) : TV), some ((0, .int 0) : TV)]) hc dX8_movesLine_1 rfl (by decide) rfl rfl ?_
  refine J_sub (l' := [some ((8, .ref x0) : TV), some ((0, .int x1) : TV), some ((0, .int x2) : TV), some ((0, .int 0) : TV)]) ⟨rfl, ⟨rfl, ⟨rfl, ⟨rfl, trivial⟩⟩⟩⟩ ?_
  exact jX8_movesLine_L2 hc he fu x0 x1 x2 0
theorem moX8_movesLine : MOk yX8_movesLine 2 := ⟨by decide +kernel, by decide +kernel, by decide +kernel⟩
set_option maxRecDepth 100000 in
set_option maxHeartbeats 4000000 in
theorem KX8_movesLine (x0 : Nat) (x1 : Int32) (x2 : Int32) : Ct wV yX8_movesLine cX8_movesLine 4 none 1 0 0 21 [((8, .ref x0) : TV), ((0, .int x1) : TV), ((0, .int x2) : TV)] (fX8_movesLine x0 x1 x2) :=
  Ct_V (j := 1) (by decide +kernel) rfl rfl (Nat.le_of_ble_eq_true rfl) (fun κ fin hc he hin => jX8_movesLine hc he x0 x1 x2)
set_option maxRecDepth 100000 in
set_option maxHeartbeats 4000000 in
theorem jX8_copyLine_L100 {κ : Cx} {fin : Int32 → Mm → Prop} (hc : Jc κ RX8 cX8_copyLine 4 2 0 0 45) (he : Ed κ cX8_copyLine 0 0 wI .ireturn fin) : ∀ (n : Nat) (x0 : Nat) (x2 : Int32) (x3 : Int32), Jg κ (wM κ) 4 fin 0 0 100 [some ((8, .ref x0) : TV), none, some ((0, .int x2) : TV), some ((0, .int x3) : TV)] [] (fX8_copyLine_L100 n x0 x2 x3) := by
  intro n
  induction n with
  | zero => intro x0 x2 x3; exact J_fail
  | succ n ih =>
    intro x0 x2 x3
    unfold fX8_copyLine_L100
    refine J_iload_n (pc := 100) hc dX8_copyLine_100 rfl rfl ?_
    refine J_bipush (pc := 101) (v := 40) hc dX8_copyLine_101 (by decide) ?_
    refine J_icmp_ge (pc := 103) (tgt := 128) hc dX8_copyLine_103 (by decide) ?_ ?_
    · refine J_aload_n (pc := 128) hc dX8_copyLine_128 rfl rfl ?_
      refine J_getA (pc := 129) hc clX8 (k := 1) (kd := 11) (Nat.le_of_ble_eq_true rfl) rfl (Nat.le_of_ble_eq_true rfl) (Nat.le_of_ble_eq_true rfl) tw1163 rfl dX8_copyLine_129 (fun v1 => ?_)
      refine J_iconst (pc := 132) (v := 1) hc dX8_copyLine_132 (by decide) ?_
      refine J_dup2 (pc := 133) hc dX8_copyLine_133 rfl rfl ?_
      refine J_iald (pc := 134) hc dX8_copyLine_134 (fun v2 => ?_)
      refine J_iconst (pc := 135) (v := 1) hc dX8_copyLine_135 (by decide) ?_
      refine J_iadd (pc := 136) hc dX8_copyLine_136 ?_
      refine J_iast (pc := 137) hc dX8_copyLine_137 ?_
      refine J_aload_n (pc := 138) hc dX8_copyLine_138 rfl rfl ?_
      refine J_getA (pc := 139) hc clX8 (k := 1) (kd := 11) (Nat.le_of_ble_eq_true rfl) rfl (Nat.le_of_ble_eq_true rfl) (Nat.le_of_ble_eq_true rfl) tw1163 rfl dX8_copyLine_139 (fun v3 => ?_)
      refine J_iconst (pc := 142) (v := 1) hc dX8_copyLine_142 (by decide) ?_
      refine J_iald (pc := 143) hc dX8_copyLine_143 (fun v4 => ?_)
      exact J_iret (pc := 144) he dX8_copyLine_144
    · refine J_aload_n (pc := 106) hc dX8_copyLine_106 rfl rfl ?_
      refine J_getA (pc := 107) hc clX8 (k := 1) (kd := 11) (Nat.le_of_ble_eq_true rfl) rfl (Nat.le_of_ble_eq_true rfl) (Nat.le_of_ble_eq_true rfl) tw1163 rfl dX8_copyLine_107 (fun v5 => ?_)
      refine J_iload_n (pc := 110) hc dX8_copyLine_110 rfl rfl ?_
      refine J_iload_n (pc := 111) hc dX8_copyLine_111 rfl rfl ?_
      refine J_callSi (pc := 112) hc (As := [((0, .int x2) : TV), ((0, .int x3) : TV)]) (KX8_dotAt x2 x3) dX8_copyLine_112 moX8_dotAt tw1309 tw1310 tw9 tw1311 rfl (Nat.le_of_ble_eq_true rfl) (Nat.le_of_ble_eq_true rfl) (Nat.le_of_ble_eq_true rfl) (Nat.le_of_ble_eq_true rfl) (Nat.le_of_ble_eq_true rfl) rfl (fun v6 => ?_)
      refine J_aload_n (pc := 115) hc dX8_copyLine_115 rfl rfl ?_
      refine J_getA (pc := 116) hc clX8 (k := 8) (kd := 11) (Nat.le_of_ble_eq_true rfl) rfl (Nat.le_of_ble_eq_true rfl) (Nat.le_of_ble_eq_true rfl) tw1170 rfl dX8_copyLine_116 (fun v7 => ?_)
      refine J_iload_n (pc := 119) hc dX8_copyLine_119 rfl rfl ?_
      refine J_iald (pc := 120) hc dX8_copyLine_120 (fun v8 => ?_)
      refine J_iast (pc := 121) hc dX8_copyLine_121 ?_
      refine J_iinc (pc := 122) (v := x3 + 1) (l' := [some ((8, .ref x0) : TV), none, some ((0, .int x2) : TV), some ((0, .int (x3 + 1)) : TV)]) hc dX8_copyLine_122 rfl rfl (by decide) rfl rfl ?_
      refine J_goto (pc := 125) (tgt := 100) hc dX8_copyLine_125 (by decide) ?_
      refine J_sub (l' := [some ((8, .ref x0) : TV), none, some ((0, .int x2) : TV), some ((0, .int (x3 + 1)) : TV)]) ⟨rfl, ⟨rfl, ⟨rfl, trivial⟩⟩⟩ ?_
      exact ih x0 x2 (x3 + 1)
set_option maxRecDepth 100000 in
set_option maxHeartbeats 4000000 in
theorem jX8_copyLine_L79 {κ : Cx} {fin : Int32 → Mm → Prop} (hc : Jc κ RX8 cX8_copyLine 4 2 0 0 45) (he : Ed κ cX8_copyLine 0 0 wI .ireturn fin) : ∀ (n : Nat) (x0 : Nat) (x2 : Int32) (x3 : Int32), Jg κ (wM κ) 4 fin 0 0 79 [some ((8, .ref x0) : TV), none, some ((0, .int x2) : TV), some ((0, .int x3) : TV)] [] (fX8_copyLine_L79 n x0 x2 x3) := by
  intro n
  induction n with
  | zero => intro x0 x2 x3; exact J_fail
  | succ n ih =>
    intro x0 x2 x3
    unfold fX8_copyLine_L79
    refine J_iload_n (pc := 79) hc dX8_copyLine_79 rfl rfl ?_
    refine J_iload_n (pc := 80) hc dX8_copyLine_80 rfl rfl ?_
    refine J_icmp_le (pc := 81) (tgt := 98) hc dX8_copyLine_81 (by decide) ?_ ?_
    · refine J_iconst (pc := 98) (v := 0) hc dX8_copyLine_98 (by decide) ?_
      refine J_istore_n (pc := 99) (l' := [some ((8, .ref x0) : TV), none, some ((0, .int x2) : TV), some ((0, .int 0) : TV)]) hc dX8_copyLine_99 rfl (by decide) rfl rfl ?_
      refine J_sub (l' := [some ((8, .ref x0) : TV), none, some ((0, .int x2) : TV), some ((0, .int 0) : TV)]) ⟨rfl, ⟨rfl, ⟨rfl, trivial⟩⟩⟩ ?_
      exact jX8_copyLine_L100 hc he fu x0 x2 0
    · refine J_aload_n (pc := 84) hc dX8_copyLine_84 rfl rfl ?_
      refine J_iload_n (pc := 85) hc dX8_copyLine_85 rfl rfl ?_
      refine J_iconst (pc := 86) (v := 1) hc dX8_copyLine_86 (by decide) ?_
      refine J_isub (pc := 87) hc dX8_copyLine_87 ?_
      refine J_iload_n (pc := 88) hc dX8_copyLine_88 rfl rfl ?_
      refine J_callVv (pc := 89) hc clX8 (As := [((0, .int (x3 - 1)) : TV), ((0, .int x3) : TV)]) (KX8_movesLine x0 (x3 - 1) x3) dX8_copyLine_89 moX8_movesLine rfl tw1504 tw1506 twp80 tw9 tw1507 rfl (Nat.le_of_ble_eq_true rfl) (Nat.le_of_ble_eq_true rfl) (Nat.le_of_ble_eq_true rfl) (Nat.le_of_ble_eq_true rfl) (Nat.le_of_ble_eq_true rfl) rfl (fun _ => ?_)
      refine J_iinc (pc := 92) (v := x3 + (-1)) (l' := [some ((8, .ref x0) : TV), none, some ((0, .int x2) : TV), some ((0, .int (x3 + (-1))) : TV)]) hc dX8_copyLine_92 rfl rfl (by decide) rfl rfl ?_
      refine J_goto (pc := 95) (tgt := 79) hc dX8_copyLine_95 (by decide) ?_
      refine J_sub (l' := [some ((8, .ref x0) : TV), none, some ((0, .int x2) : TV), some ((0, .int (x3 + (-1))) : TV)]) ⟨rfl, ⟨rfl, ⟨rfl, trivial⟩⟩⟩ ?_
      exact ih x0 x2 (x3 + (-1))
set_option maxRecDepth 100000 in
set_option maxHeartbeats 4000000 in
theorem jX8_copyLine_L43 {κ : Cx} {fin : Int32 → Mm → Prop} (hc : Jc κ RX8 cX8_copyLine 4 2 0 0 45) (he : Ed κ cX8_copyLine 0 0 wI .ireturn fin) (x0 : Nat) (x1 : Int32) (x2 : Int32) (s0 : Int32) (s1 : Nat) : Jg κ (wM κ) 4 fin 0 0 43 [some ((8, .ref x0) : TV), some ((0, .int x1) : TV), some ((0, .int x2) : TV), none] [((0, .int s0) : TV), ((8, .ref s1) : TV)] (fX8_copyLine_L43 x0 x1 x2 s0 s1) := by
  unfold fX8_copyLine_L43
  refine J_putI (pc := 43) hc clX8 (k := 0) (Nat.le_of_ble_eq_true rfl) rfl rfl tw1162 rfl rfl dX8_copyLine_43 ?_
  refine J_aload_n (pc := 46) hc dX8_copyLine_46 rfl rfl ?_
  refine J_getI (pc := 47) hc clX8 (k := 0) (Nat.le_of_ble_eq_true rfl) rfl tw1162 rfl dX8_copyLine_47 (fun v9 => ?_)
  refine J_if_le (pc := 50) (tgt := 55) hc dX8_copyLine_50 (by decide) ?_ ?_
  · refine J_aload_n (pc := 55) hc dX8_copyLine_55 rfl rfl ?_
    refine J_callVv (pc := 56) hc clX8 (As := []) (KX8_keeps x0) dX8_copyLine_56 moX8_keeps rfl tw1468 tw1470 twp76 tw9 tw1471 rfl (Nat.le_of_ble_eq_true rfl) (Nat.le_of_ble_eq_true rfl) (Nat.le_of_ble_eq_true rfl) (Nat.le_of_ble_eq_true rfl) (Nat.le_of_ble_eq_true rfl) rfl (fun _ => ?_)
    refine J_aload_n (pc := 59) hc dX8_copyLine_59 rfl rfl ?_
    refine J_aload_n (pc := 60) hc dX8_copyLine_60 rfl rfl ?_
    refine J_getA (pc := 61) hc clX8 (k := 1) (kd := 11) (Nat.le_of_ble_eq_true rfl) rfl (Nat.le_of_ble_eq_true rfl) (Nat.le_of_ble_eq_true rfl) tw1163 rfl dX8_copyLine_61 (fun v10 => ?_)
    refine J_iload_n (pc := 64) hc dX8_copyLine_64 rfl rfl ?_
    refine J_iconst (pc := 65) (v := 0) hc dX8_copyLine_65 (by decide) ?_
    refine J_callSi (pc := 66) hc (As := [((0, .int x1) : TV), ((0, .int 0) : TV)]) (KX8_dotAt x1 0) dX8_copyLine_66 moX8_dotAt tw1309 tw1310 tw9 tw1311 rfl (Nat.le_of_ble_eq_true rfl) (Nat.le_of_ble_eq_true rfl) (Nat.le_of_ble_eq_true rfl) (Nat.le_of_ble_eq_true rfl) (Nat.le_of_ble_eq_true rfl) rfl (fun v11 => ?_)
    refine J_callVv (pc := 69) hc clX8 (As := [((11, .ref v10) : TV), ((0, .int v11) : TV)]) (KX8_laysLower x0 v10 v11) dX8_copyLine_69 moX8_laysLower rfl tw1336 tw1338 twp55 tw9 tw1339 rfl (Nat.le_of_ble_eq_true rfl) (Nat.le_of_ble_eq_true rfl) (Nat.le_of_ble_eq_true rfl) (Nat.le_of_ble_eq_true rfl) (Nat.le_of_ble_eq_true rfl) rfl (fun _ => ?_)
    refine J_aload_n (pc := 72) hc dX8_copyLine_72 rfl rfl ?_
    refine J_getA (pc := 73) hc clX8 (k := 1) (kd := 11) (Nat.le_of_ble_eq_true rfl) rfl (Nat.le_of_ble_eq_true rfl) (Nat.le_of_ble_eq_true rfl) tw1163 rfl dX8_copyLine_73 (fun v12 => ?_)
    refine J_iconst (pc := 76) (v := 1) hc dX8_copyLine_76 (by decide) ?_
    refine J_iald (pc := 77) hc dX8_copyLine_77 (fun v13 => ?_)
    refine J_istore_n (pc := 78) (l' := [some ((8, .ref x0) : TV), some ((0, .int x1) : TV), some ((0, .int x2) : TV), some ((0, .int v13) : TV)]) hc dX8_copyLine_78 rfl (by decide) rfl rfl ?_
    refine J_sub (l' := [some ((8, .ref x0) : TV), none, some ((0, .int x2) : TV), some ((0, .int v13) : TV)]) ⟨rfl, ⟨rfl, ⟨rfl, trivial⟩⟩⟩ ?_
    exact jX8_copyLine_L79 hc he fu x0 x2 v13
  · refine J_iconst (pc := 53) (v := 0) hc dX8_copyLine_53 (by decide) ?_
    exact J_iret (pc := 54) he dX8_copyLine_54
set_option maxRecDepth 100000 in
set_option maxHeartbeats 4000000 in
theorem jX8_copyLine_L23 {κ : Cx} {fin : Int32 → Mm → Prop} (hc : Jc κ RX8 cX8_copyLine 4 2 0 0 45) (he : Ed κ cX8_copyLine 0 0 wI .ireturn fin) (x0 : Nat) (x1 : Int32) (x2 : Int32) (s0 : Nat) : Jg κ (wM κ) 4 fin 0 0 23 [some ((8, .ref x0) : TV), some ((0, .int x1) : TV), some ((0, .int x2) : TV), none] [((8, .ref s0) : TV)] (fX8_copyLine_L23 x0 x1 x2 s0) := by
  unfold fX8_copyLine_L23
  refine J_iconst (pc := 23) (v := 1) hc dX8_copyLine_23 (by decide) ?_
  refine J_goto (pc := 24) (tgt := 43) hc dX8_copyLine_24 (by decide) ?_
  refine J_sub (l' := [some ((8, .ref x0) : TV), some ((0, .int x1) : TV), some ((0, .int x2) : TV), none]) ⟨rfl, ⟨rfl, ⟨rfl, trivial⟩⟩⟩ ?_
  exact jX8_copyLine_L43 hc he x0 x1 x2 1 s0
set_option maxRecDepth 100000 in
set_option maxHeartbeats 4000000 in
theorem jX8_copyLine {κ : Cx} {fin : Int32 → Mm → Prop} (hc : Jc κ RX8 cX8_copyLine 4 2 0 0 45) (he : Ed κ cX8_copyLine 0 0 wI .ireturn fin) (x0 : Nat) (x1 : Int32) (x2 : Int32) : Jg κ (wM κ) 4 fin 0 0 0 [some ((8, .ref x0) : TV), some ((0, .int x1) : TV), some ((0, .int x2) : TV), none] [] (fX8_copyLine x0 x1 x2) := by
  unfold fX8_copyLine
  refine J_aload_n (pc := 0) hc dX8_copyLine_0 rfl rfl ?_
  refine J_aload_n (pc := 1) hc dX8_copyLine_1 rfl rfl ?_
  refine J_iload_n (pc := 2) hc dX8_copyLine_2 rfl rfl ?_
  refine J_callVi (pc := 3) hc clX8 (As := [((0, .int x1) : TV)]) (KX8_isLine x0 x1) dX8_copyLine_3 moX8_isLine rfl tw1390 tw1392 twp66 tw9 tw1393 rfl (Nat.le_of_ble_eq_true rfl) (Nat.le_of_ble_eq_true rfl) (Nat.le_of_ble_eq_true rfl) (Nat.le_of_ble_eq_true rfl) (Nat.le_of_ble_eq_true rfl) rfl (fun v14 => ?_)
  refine J_if_eq (pc := 6) (tgt := 23) hc dX8_copyLine_6 (by decide) ?_ ?_
  · refine J_sub (l' := [some ((8, .ref x0) : TV), some ((0, .int x1) : TV), some ((0, .int x2) : TV), none]) ⟨rfl, ⟨rfl, ⟨rfl, trivial⟩⟩⟩ ?_
    exact jX8_copyLine_L23 hc he x0 x1 x2 x0
  · refine J_iload_n (pc := 9) hc dX8_copyLine_9 rfl rfl ?_
    refine J_iconst (pc := 10) (v := 0) hc dX8_copyLine_10 (by decide) ?_
    refine J_aload_n (pc := 11) hc dX8_copyLine_11 rfl rfl ?_
    refine J_getA (pc := 12) hc clX8 (k := 1) (kd := 11) (Nat.le_of_ble_eq_true rfl) rfl (Nat.le_of_ble_eq_true rfl) (Nat.le_of_ble_eq_true rfl) tw1163 rfl dX8_copyLine_12 (fun v15 => ?_)
    refine J_iconst (pc := 15) (v := 1) hc dX8_copyLine_15 (by decide) ?_
    refine J_iald (pc := 16) hc dX8_copyLine_16 (fun v16 => ?_)
    refine J_callSi (pc := 17) hc (As := [((0, .int x2) : TV), ((0, .int 0) : TV), ((0, .int v16) : TV)]) (KX8_in x2 0 v16) dX8_copyLine_17 moX8_in tw1298 tw1299 tw9 tw1300 rfl (Nat.le_of_ble_eq_true rfl) (Nat.le_of_ble_eq_true rfl) (Nat.le_of_ble_eq_true rfl) (Nat.le_of_ble_eq_true rfl) (Nat.le_of_ble_eq_true rfl) rfl (fun v17 => ?_)
    refine J_if_ne (pc := 20) (tgt := 27) hc dX8_copyLine_20 (by decide) ?_ ?_
    · refine J_aload_n (pc := 27) hc dX8_copyLine_27 rfl rfl ?_
      refine J_getA (pc := 28) hc clX8 (k := 1) (kd := 11) (Nat.le_of_ble_eq_true rfl) rfl (Nat.le_of_ble_eq_true rfl) (Nat.le_of_ble_eq_true rfl) tw1163 rfl dX8_copyLine_28 (fun v18 => ?_)
      refine J_iconst (pc := 31) (v := 1) hc dX8_copyLine_31 (by decide) ?_
      refine J_iald (pc := 32) hc dX8_copyLine_32 (fun v19 => ?_)
      refine J_bipush (pc := 33) (v := 20) hc dX8_copyLine_33 (by decide) ?_
      refine J_icmp_ge (pc := 35) (tgt := 42) hc dX8_copyLine_35 (by decide) ?_ ?_
      · refine J_iconst (pc := 42) (v := 2) hc dX8_copyLine_42 (by decide) ?_
        refine J_sub (l' := [some ((8, .ref x0) : TV), some ((0, .int x1) : TV), some ((0, .int x2) : TV), none]) ⟨rfl, ⟨rfl, ⟨rfl, trivial⟩⟩⟩ ?_
        exact jX8_copyLine_L43 hc he x0 x1 x2 2 x0
      · refine J_iconst (pc := 38) (v := 0) hc dX8_copyLine_38 (by decide) ?_
        refine J_goto (pc := 39) (tgt := 43) hc dX8_copyLine_39 (by decide) ?_
        refine J_sub (l' := [some ((8, .ref x0) : TV), some ((0, .int x1) : TV), some ((0, .int x2) : TV), none]) ⟨rfl, ⟨rfl, ⟨rfl, trivial⟩⟩⟩ ?_
        exact jX8_copyLine_L43 hc he x0 x1 x2 0 x0
    · refine J_sub (l' := [some ((8, .ref x0) : TV), some ((0, .int x1) : TV), some ((0, .int x2) : TV), none]) ⟨rfl, ⟨rfl, ⟨rfl, trivial⟩⟩⟩ ?_
      exact jX8_copyLine_L23 hc he x0 x1 x2 x0
theorem moX8_copyLine : MOk yX8_copyLine 2 := ⟨by decide +kernel, by decide +kernel, by decide +kernel⟩
set_option maxRecDepth 100000 in
set_option maxHeartbeats 4000000 in
theorem KX8_copyLine (x0 : Nat) (x1 : Int32) (x2 : Int32) : Ct wI yX8_copyLine cX8_copyLine 4 (some .int) 2 0 0 45 [((8, .ref x0) : TV), ((0, .int x1) : TV), ((0, .int x2) : TV)] (fX8_copyLine x0 x1 x2) :=
  Ct_I (j := 1) (by decide +kernel) rfl rfl (Nat.le_of_ble_eq_true rfl) (fun κ fin hc he => jX8_copyLine hc he x0 x1 x2)
set_option maxRecDepth 100000 in
set_option maxHeartbeats 4000000 in
theorem jX8_removeLine_L42 {κ : Cx} {fin : Int32 → Mm → Prop} (hc : Jc κ RX8 cX8_removeLine 3 2 0 0 45) (he : Ed κ cX8_removeLine 0 0 wI .ireturn fin) : ∀ (n : Nat) (x0 : Nat) (x2 : Int32), Jg κ (wM κ) 3 fin 0 0 42 [some ((8, .ref x0) : TV), none, some ((0, .int x2) : TV)] [] (fX8_removeLine_L42 n x0 x2) := by
  intro n
  induction n with
  | zero => intro x0 x2; exact J_fail
  | succ n ih =>
    intro x0 x2
    unfold fX8_removeLine_L42
    refine J_iload_n (pc := 42) hc dX8_removeLine_42 rfl rfl ?_
    refine J_aload_n (pc := 43) hc dX8_removeLine_43 rfl rfl ?_
    refine J_getA (pc := 44) hc clX8 (k := 1) (kd := 11) (Nat.le_of_ble_eq_true rfl) rfl (Nat.le_of_ble_eq_true rfl) (Nat.le_of_ble_eq_true rfl) tw1163 rfl dX8_removeLine_44 (fun v1 => ?_)
    refine J_iconst (pc := 47) (v := 1) hc dX8_removeLine_47 (by decide) ?_
    refine J_iald (pc := 48) hc dX8_removeLine_48 (fun v2 => ?_)
    refine J_icmp_ge (pc := 49) (tgt := 66) hc dX8_removeLine_49 (by decide) ?_ ?_
    · refine J_aload_n (pc := 66) hc dX8_removeLine_66 rfl rfl ?_
      refine J_aload_n (pc := 67) hc dX8_removeLine_67 rfl rfl ?_
      refine J_getA (pc := 68) hc clX8 (k := 1) (kd := 11) (Nat.le_of_ble_eq_true rfl) rfl (Nat.le_of_ble_eq_true rfl) (Nat.le_of_ble_eq_true rfl) tw1163 rfl dX8_removeLine_68 (fun v3 => ?_)
      refine J_iconst (pc := 71) (v := 1) hc dX8_removeLine_71 (by decide) ?_
      refine J_iald (pc := 72) hc dX8_removeLine_72 (fun v4 => ?_)
      refine J_callVv (pc := 73) hc clX8 (As := [((0, .int v4) : TV)]) (KX8_clearsLine x0 v4) dX8_removeLine_73 moX8_clearsLine rfl tw1484 tw1486 twp78 tw9 tw1487 rfl (Nat.le_of_ble_eq_true rfl) (Nat.le_of_ble_eq_true rfl) (Nat.le_of_ble_eq_true rfl) (Nat.le_of_ble_eq_true rfl) (Nat.le_of_ble_eq_true rfl) rfl (fun _ => ?_)
      refine J_aload_n (pc := 76) hc dX8_removeLine_76 rfl rfl ?_
      refine J_getA (pc := 77) hc clX8 (k := 1) (kd := 11) (Nat.le_of_ble_eq_true rfl) rfl (Nat.le_of_ble_eq_true rfl) (Nat.le_of_ble_eq_true rfl) tw1163 rfl dX8_removeLine_77 (fun v5 => ?_)
      refine J_iconst (pc := 80) (v := 1) hc dX8_removeLine_80 (by decide) ?_
      refine J_iald (pc := 81) hc dX8_removeLine_81 (fun v6 => ?_)
      exact J_iret (pc := 82) he dX8_removeLine_82
    · refine J_aload_n (pc := 52) hc dX8_removeLine_52 rfl rfl ?_
      refine J_iload_n (pc := 53) hc dX8_removeLine_53 rfl rfl ?_
      refine J_iconst (pc := 54) (v := 1) hc dX8_removeLine_54 (by decide) ?_
      refine J_iadd (pc := 55) hc dX8_removeLine_55 ?_
      refine J_iload_n (pc := 56) hc dX8_removeLine_56 rfl rfl ?_
      refine J_callVv (pc := 57) hc clX8 (As := [((0, .int (x2 + 1)) : TV), ((0, .int x2) : TV)]) (KX8_movesLine x0 (x2 + 1) x2) dX8_removeLine_57 moX8_movesLine rfl tw1504 tw1506 twp80 tw9 tw1507 rfl (Nat.le_of_ble_eq_true rfl) (Nat.le_of_ble_eq_true rfl) (Nat.le_of_ble_eq_true rfl) (Nat.le_of_ble_eq_true rfl) (Nat.le_of_ble_eq_true rfl) rfl (fun _ => ?_)
      refine J_iinc (pc := 60) (v := x2 + 1) (l' := [some ((8, .ref x0) : TV), none, some ((0, .int (x2 + 1)) : TV)]) hc dX8_removeLine_60 rfl rfl (by decide) rfl rfl ?_
      refine J_goto (pc := 63) (tgt := 42) hc dX8_removeLine_63 (by decide) ?_
      refine J_sub (l' := [some ((8, .ref x0) : TV), none, some ((0, .int (x2 + 1)) : TV)]) ⟨rfl, ⟨rfl, trivial⟩⟩ ?_
      exact ih x0 (x2 + 1)
set_option maxRecDepth 100000 in
set_option maxHeartbeats 4000000 in
theorem jX8_removeLine_L14 {κ : Cx} {fin : Int32 → Mm → Prop} (hc : Jc κ RX8 cX8_removeLine 3 2 0 0 45) (he : Ed κ cX8_removeLine 0 0 wI .ireturn fin) (x0 : Nat) (x1 : Int32) (s0 : Int32) (s1 : Nat) : Jg κ (wM κ) 3 fin 0 0 14 [some ((8, .ref x0) : TV), some ((0, .int x1) : TV), none] [((0, .int s0) : TV), ((8, .ref s1) : TV)] (fX8_removeLine_L14 x0 x1 s0 s1) := by
  unfold fX8_removeLine_L14
  refine J_putI (pc := 14) hc clX8 (k := 0) (Nat.le_of_ble_eq_true rfl) rfl rfl tw1162 rfl rfl dX8_removeLine_14 ?_
  refine J_aload_n (pc := 17) hc dX8_removeLine_17 rfl rfl ?_
  refine J_getI (pc := 18) hc clX8 (k := 0) (Nat.le_of_ble_eq_true rfl) rfl tw1162 rfl dX8_removeLine_18 (fun v7 => ?_)
  refine J_if_le (pc := 21) (tgt := 26) hc dX8_removeLine_21 (by decide) ?_ ?_
  · refine J_aload_n (pc := 26) hc dX8_removeLine_26 rfl rfl ?_
    refine J_callVv (pc := 27) hc clX8 (As := []) (KX8_keeps x0) dX8_removeLine_27 moX8_keeps rfl tw1468 tw1470 twp76 tw9 tw1471 rfl (Nat.le_of_ble_eq_true rfl) (Nat.le_of_ble_eq_true rfl) (Nat.le_of_ble_eq_true rfl) (Nat.le_of_ble_eq_true rfl) (Nat.le_of_ble_eq_true rfl) rfl (fun _ => ?_)
    refine J_aload_n (pc := 30) hc dX8_removeLine_30 rfl rfl ?_
    refine J_getA (pc := 31) hc clX8 (k := 1) (kd := 11) (Nat.le_of_ble_eq_true rfl) rfl (Nat.le_of_ble_eq_true rfl) (Nat.le_of_ble_eq_true rfl) tw1163 rfl dX8_removeLine_31 (fun v8 => ?_)
    refine J_iconst (pc := 34) (v := 1) hc dX8_removeLine_34 (by decide) ?_
    refine J_dup2 (pc := 35) hc dX8_removeLine_35 rfl rfl ?_
    refine J_iald (pc := 36) hc dX8_removeLine_36 (fun v9 => ?_)
    refine J_iconst (pc := 37) (v := 1) hc dX8_removeLine_37 (by decide) ?_
    refine J_isub (pc := 38) hc dX8_removeLine_38 ?_
    refine J_iast (pc := 39) hc dX8_removeLine_39 ?_
    refine J_iload_n (pc := 40) hc dX8_removeLine_40 rfl rfl ?_
    refine J_istore_n (pc := 41) (l' := [some ((8, .ref x0) : TV), some ((0, .int x1) : TV), some ((0, .int x1) : TV)]) hc dX8_removeLine_41 rfl (by decide) rfl rfl ?_
    refine J_sub (l' := [some ((8, .ref x0) : TV), none, some ((0, .int x1) : TV)]) ⟨rfl, ⟨rfl, trivial⟩⟩ ?_
    exact jX8_removeLine_L42 hc he fu x0 x1
  · refine J_iconst (pc := 24) (v := 0) hc dX8_removeLine_24 (by decide) ?_
    exact J_iret (pc := 25) he dX8_removeLine_25
set_option maxRecDepth 100000 in
set_option maxHeartbeats 4000000 in
theorem jX8_removeLine {κ : Cx} {fin : Int32 → Mm → Prop} (hc : Jc κ RX8 cX8_removeLine 3 2 0 0 45) (he : Ed κ cX8_removeLine 0 0 wI .ireturn fin) (x0 : Nat) (x1 : Int32) : Jg κ (wM κ) 3 fin 0 0 0 [some ((8, .ref x0) : TV), some ((0, .int x1) : TV), none] [] (fX8_removeLine x0 x1) := by
  unfold fX8_removeLine
  refine J_aload_n (pc := 0) hc dX8_removeLine_0 rfl rfl ?_
  refine J_aload_n (pc := 1) hc dX8_removeLine_1 rfl rfl ?_
  refine J_iload_n (pc := 2) hc dX8_removeLine_2 rfl rfl ?_
  refine J_callVi (pc := 3) hc clX8 (As := [((0, .int x1) : TV)]) (KX8_isLine x0 x1) dX8_removeLine_3 moX8_isLine rfl tw1390 tw1392 twp66 tw9 tw1393 rfl (Nat.le_of_ble_eq_true rfl) (Nat.le_of_ble_eq_true rfl) (Nat.le_of_ble_eq_true rfl) (Nat.le_of_ble_eq_true rfl) (Nat.le_of_ble_eq_true rfl) rfl (fun v10 => ?_)
  refine J_if_eq (pc := 6) (tgt := 13) hc dX8_removeLine_6 (by decide) ?_ ?_
  · refine J_iconst (pc := 13) (v := 1) hc dX8_removeLine_13 (by decide) ?_
    refine J_sub (l' := [some ((8, .ref x0) : TV), some ((0, .int x1) : TV), none]) ⟨rfl, ⟨rfl, trivial⟩⟩ ?_
    exact jX8_removeLine_L14 hc he x0 x1 1 x0
  · refine J_iconst (pc := 9) (v := 0) hc dX8_removeLine_9 (by decide) ?_
    refine J_goto (pc := 10) (tgt := 14) hc dX8_removeLine_10 (by decide) ?_
    refine J_sub (l' := [some ((8, .ref x0) : TV), some ((0, .int x1) : TV), none]) ⟨rfl, ⟨rfl, trivial⟩⟩ ?_
    exact jX8_removeLine_L14 hc he x0 x1 0 x0
theorem moX8_removeLine : MOk yX8_removeLine 1 := ⟨by decide +kernel, by decide +kernel, by decide +kernel⟩
set_option maxRecDepth 100000 in
set_option maxHeartbeats 4000000 in
theorem KX8_removeLine (x0 : Nat) (x1 : Int32) : Ct wI yX8_removeLine cX8_removeLine 3 (some .int) 2 0 0 45 [((8, .ref x0) : TV), ((0, .int x1) : TV)] (fX8_removeLine x0 x1) :=
  Ct_I (j := 1) (by decide +kernel) rfl rfl (Nat.le_of_ble_eq_true rfl) (fun κ fin hc he => jX8_removeLine hc he x0 x1)
set_option maxRecDepth 100000 in
set_option maxHeartbeats 4000000 in
theorem jX8_invert_L32 {κ : Cx} {fin : Int32 → Mm → Prop} (hc : Jc κ RX8 cX8_invert 3 2 0 0 45) (he : Ed κ cX8_invert 0 0 wI .ireturn fin) : ∀ (n : Nat) (x0 : Nat) (x1 : Int32) (x2 : Int32), Jg κ (wM κ) 3 fin 0 0 32 [some ((8, .ref x0) : TV), some ((0, .int x1) : TV), some ((0, .int x2) : TV)] [] (fX8_invert_L32 n x0 x1 x2) := by
  intro n
  induction n with
  | zero => intro x0 x1 x2; exact J_fail
  | succ n ih =>
    intro x0 x1 x2
    unfold fX8_invert_L32
    refine J_iload_n (pc := 32) hc dX8_invert_32 rfl rfl ?_
    refine J_aload_n (pc := 33) hc dX8_invert_33 rfl rfl ?_
    refine J_getA (pc := 34) hc clX8 (k := 1) (kd := 11) (Nat.le_of_ble_eq_true rfl) rfl (Nat.le_of_ble_eq_true rfl) (Nat.le_of_ble_eq_true rfl) tw1163 rfl dX8_invert_34 (fun v1 => ?_)
    refine J_iconst (pc := 37) (v := 0) hc dX8_invert_37 (by decide) ?_
    refine J_iald (pc := 38) hc dX8_invert_38 (fun v2 => ?_)
    refine J_icmp_ge (pc := 39) (tgt := 70) hc dX8_invert_39 (by decide) ?_ ?_
    · refine J_aload_n (pc := 70) hc dX8_invert_70 rfl rfl ?_
      refine J_iload_n (pc := 71) hc dX8_invert_71 rfl rfl ?_
      refine J_callVi (pc := 72) hc clX8 (As := [((0, .int x1) : TV)]) (KX8_blacks x0 x1) dX8_invert_72 moX8_blacks rfl tw1305 tw1307 twp48 tw9 tw1308 rfl (Nat.le_of_ble_eq_true rfl) (Nat.le_of_ble_eq_true rfl) (Nat.le_of_ble_eq_true rfl) (Nat.le_of_ble_eq_true rfl) (Nat.le_of_ble_eq_true rfl) rfl (fun v3 => ?_)
      exact J_iret (pc := 75) he dX8_invert_75
    · refine J_aload_n (pc := 42) hc dX8_invert_42 rfl rfl ?_
      refine J_getA (pc := 43) hc clX8 (k := 1) (kd := 11) (Nat.le_of_ble_eq_true rfl) rfl (Nat.le_of_ble_eq_true rfl) (Nat.le_of_ble_eq_true rfl) tw1163 rfl dX8_invert_43 (fun v4 => ?_)
      refine J_iload_n (pc := 46) hc dX8_invert_46 rfl rfl ?_
      refine J_iload_n (pc := 47) hc dX8_invert_47 rfl rfl ?_
      refine J_callSi (pc := 48) hc (As := [((0, .int x1) : TV), ((0, .int x2) : TV)]) (KX8_dotAt x1 x2) dX8_invert_48 moX8_dotAt tw1309 tw1310 tw9 tw1311 rfl (Nat.le_of_ble_eq_true rfl) (Nat.le_of_ble_eq_true rfl) (Nat.le_of_ble_eq_true rfl) (Nat.le_of_ble_eq_true rfl) (Nat.le_of_ble_eq_true rfl) rfl (fun v5 => ?_)
      refine J_iconst (pc := 51) (v := 1) hc dX8_invert_51 (by decide) ?_
      refine J_aload_n (pc := 52) hc dX8_invert_52 rfl rfl ?_
      refine J_getA (pc := 53) hc clX8 (k := 1) (kd := 11) (Nat.le_of_ble_eq_true rfl) rfl (Nat.le_of_ble_eq_true rfl) (Nat.le_of_ble_eq_true rfl) tw1163 rfl dX8_invert_53 (fun v6 => ?_)
      refine J_iload_n (pc := 56) hc dX8_invert_56 rfl rfl ?_
      refine J_iload_n (pc := 57) hc dX8_invert_57 rfl rfl ?_
      refine J_callSi (pc := 58) hc (As := [((0, .int x1) : TV), ((0, .int x2) : TV)]) (KX8_dotAt x1 x2) dX8_invert_58 moX8_dotAt tw1309 tw1310 tw9 tw1311 rfl (Nat.le_of_ble_eq_true rfl) (Nat.le_of_ble_eq_true rfl) (Nat.le_of_ble_eq_true rfl) (Nat.le_of_ble_eq_true rfl) (Nat.le_of_ble_eq_true rfl) rfl (fun v7 => ?_)
      refine J_iald (pc := 61) hc dX8_invert_61 (fun v8 => ?_)
      refine J_isub (pc := 62) hc dX8_invert_62 ?_
      refine J_iast (pc := 63) hc dX8_invert_63 ?_
      refine J_iinc (pc := 64) (v := x2 + 1) (l' := [some ((8, .ref x0) : TV), some ((0, .int x1) : TV), some ((0, .int (x2 + 1)) : TV)]) hc dX8_invert_64 rfl rfl (by decide) rfl rfl ?_
      refine J_goto (pc := 67) (tgt := 32) hc dX8_invert_67 (by decide) ?_
      refine J_sub (l' := [some ((8, .ref x0) : TV), some ((0, .int x1) : TV), some ((0, .int (x2 + 1)) : TV)]) ⟨rfl, ⟨rfl, ⟨rfl, trivial⟩⟩⟩ ?_
      exact ih x0 x1 (x2 + 1)
set_option maxRecDepth 100000 in
set_option maxHeartbeats 4000000 in
theorem jX8_invert_L14 {κ : Cx} {fin : Int32 → Mm → Prop} (hc : Jc κ RX8 cX8_invert 3 2 0 0 45) (he : Ed κ cX8_invert 0 0 wI .ireturn fin) (x0 : Nat) (x1 : Int32) (s0 : Int32) (s1 : Nat) : Jg κ (wM κ) 3 fin 0 0 14 [some ((8, .ref x0) : TV), some ((0, .int x1) : TV), none] [((0, .int s0) : TV), ((8, .ref s1) : TV)] (fX8_invert_L14 x0 x1 s0 s1) := by
  unfold fX8_invert_L14
  refine J_putI (pc := 14) hc clX8 (k := 0) (Nat.le_of_ble_eq_true rfl) rfl rfl tw1162 rfl rfl dX8_invert_14 ?_
  refine J_aload_n (pc := 17) hc dX8_invert_17 rfl rfl ?_
  refine J_getI (pc := 18) hc clX8 (k := 0) (Nat.le_of_ble_eq_true rfl) rfl tw1162 rfl dX8_invert_18 (fun v9 => ?_)
  refine J_if_le (pc := 21) (tgt := 26) hc dX8_invert_21 (by decide) ?_ ?_
  · refine J_aload_n (pc := 26) hc dX8_invert_26 rfl rfl ?_
    refine J_callVv (pc := 27) hc clX8 (As := []) (KX8_keeps x0) dX8_invert_27 moX8_keeps rfl tw1468 tw1470 twp76 tw9 tw1471 rfl (Nat.le_of_ble_eq_true rfl) (Nat.le_of_ble_eq_true rfl) (Nat.le_of_ble_eq_true rfl) (Nat.le_of_ble_eq_true rfl) (Nat.le_of_ble_eq_true rfl) rfl (fun _ => ?_)
    refine J_iconst (pc := 30) (v := 0) hc dX8_invert_30 (by decide) ?_
    refine J_istore_n (pc := 31) (l' := [some ((8, .ref x0) : TV), some ((0, .int x1) : TV), some ((0, .int 0) : TV)]) hc dX8_invert_31 rfl (by decide) rfl rfl ?_
    refine J_sub (l' := [some ((8, .ref x0) : TV), some ((0, .int x1) : TV), some ((0, .int 0) : TV)]) ⟨rfl, ⟨rfl, ⟨rfl, trivial⟩⟩⟩ ?_
    exact jX8_invert_L32 hc he fu x0 x1 0
  · refine J_iconst (pc := 24) (v := 0) hc dX8_invert_24 (by decide) ?_
    exact J_iret (pc := 25) he dX8_invert_25
set_option maxRecDepth 100000 in
set_option maxHeartbeats 4000000 in
theorem jX8_invert {κ : Cx} {fin : Int32 → Mm → Prop} (hc : Jc κ RX8 cX8_invert 3 2 0 0 45) (he : Ed κ cX8_invert 0 0 wI .ireturn fin) (x0 : Nat) (x1 : Int32) : Jg κ (wM κ) 3 fin 0 0 0 [some ((8, .ref x0) : TV), some ((0, .int x1) : TV), none] [] (fX8_invert x0 x1) := by
  unfold fX8_invert
  refine J_aload_n (pc := 0) hc dX8_invert_0 rfl rfl ?_
  refine J_aload_n (pc := 1) hc dX8_invert_1 rfl rfl ?_
  refine J_iload_n (pc := 2) hc dX8_invert_2 rfl rfl ?_
  refine J_callVi (pc := 3) hc clX8 (As := [((0, .int x1) : TV)]) (KX8_isLine x0 x1) dX8_invert_3 moX8_isLine rfl tw1390 tw1392 twp66 tw9 tw1393 rfl (Nat.le_of_ble_eq_true rfl) (Nat.le_of_ble_eq_true rfl) (Nat.le_of_ble_eq_true rfl) (Nat.le_of_ble_eq_true rfl) (Nat.le_of_ble_eq_true rfl) rfl (fun v10 => ?_)
  refine J_if_eq (pc := 6) (tgt := 13) hc dX8_invert_6 (by decide) ?_ ?_
  · refine J_iconst (pc := 13) (v := 1) hc dX8_invert_13 (by decide) ?_
    refine J_sub (l' := [some ((8, .ref x0) : TV), some ((0, .int x1) : TV), none]) ⟨rfl, ⟨rfl, trivial⟩⟩ ?_
    exact jX8_invert_L14 hc he x0 x1 1 x0
  · refine J_iconst (pc := 9) (v := 0) hc dX8_invert_9 (by decide) ?_
    refine J_goto (pc := 10) (tgt := 14) hc dX8_invert_10 (by decide) ?_
    refine J_sub (l' := [some ((8, .ref x0) : TV), some ((0, .int x1) : TV), none]) ⟨rfl, ⟨rfl, trivial⟩⟩ ?_
    exact jX8_invert_L14 hc he x0 x1 0 x0
theorem moX8_invert : MOk yX8_invert 1 := ⟨by decide +kernel, by decide +kernel, by decide +kernel⟩
set_option maxRecDepth 100000 in
set_option maxHeartbeats 4000000 in
theorem KX8_invert (x0 : Nat) (x1 : Int32) : Ct wI yX8_invert cX8_invert 3 (some .int) 2 0 0 45 [((8, .ref x0) : TV), ((0, .int x1) : TV)] (fX8_invert x0 x1) :=
  Ct_I (j := 1) (by decide +kernel) rfl rfl (Nat.le_of_ble_eq_true rfl) (fun κ fin hc he => jX8_invert hc he x0 x1)
set_option maxRecDepth 100000 in
set_option maxHeartbeats 4000000 in
theorem jX8_swap_L67 {κ : Cx} {fin : Int32 → Mm → Prop} (hc : Jc κ RX8 cX8_swap 5 2 0 0 45) (he : Ed κ cX8_swap 0 0 wI .ireturn fin) : ∀ (n : Nat) (x0 : Nat) (x2 : Int32) (x3 : Int32) (x4 : Int32), Jg κ (wM κ) 5 fin 0 0 67 [some ((8, .ref x0) : TV), none, some ((0, .int x2) : TV), some ((0, .int x3) : TV), some ((0, .int x4) : TV)] [] (fX8_swap_L67 n x0 x2 x3 x4) := by
  intro n
  induction n with
  | zero => intro x0 x2 x3 x4; exact J_fail
  | succ n ih =>
    intro x0 x2 x3 x4
    unfold fX8_swap_L67
    refine J_iload (pc := 67) hc dX8_swap_67 rfl ?_
    refine J_bipush (pc := 69) (v := 40) hc dX8_swap_69 (by decide) ?_
    refine J_icmp_ge (pc := 71) (tgt := 98) hc dX8_swap_71 (by decide) ?_ ?_
    · refine J_iload_n (pc := 98) hc dX8_swap_98 rfl rfl ?_
      exact J_iret (pc := 99) he dX8_swap_99
    · refine J_aload_n (pc := 74) hc dX8_swap_74 rfl rfl ?_
      refine J_getA (pc := 75) hc clX8 (k := 1) (kd := 11) (Nat.le_of_ble_eq_true rfl) rfl (Nat.le_of_ble_eq_true rfl) (Nat.le_of_ble_eq_true rfl) tw1163 rfl dX8_swap_75 (fun v1 => ?_)
      refine J_iload_n (pc := 78) hc dX8_swap_78 rfl rfl ?_
      refine J_iload (pc := 79) hc dX8_swap_79 rfl ?_
      refine J_callSi (pc := 81) hc (As := [((0, .int x2) : TV), ((0, .int x4) : TV)]) (KX8_dotAt x2 x4) dX8_swap_81 moX8_dotAt tw1309 tw1310 tw9 tw1311 rfl (Nat.le_of_ble_eq_true rfl) (Nat.le_of_ble_eq_true rfl) (Nat.le_of_ble_eq_true rfl) (Nat.le_of_ble_eq_true rfl) (Nat.le_of_ble_eq_true rfl) rfl (fun v2 => ?_)
      refine J_aload_n (pc := 84) hc dX8_swap_84 rfl rfl ?_
      refine J_getA (pc := 85) hc clX8 (k := 8) (kd := 11) (Nat.le_of_ble_eq_true rfl) rfl (Nat.le_of_ble_eq_true rfl) (Nat.le_of_ble_eq_true rfl) tw1170 rfl dX8_swap_85 (fun v3 => ?_)
      refine J_iload (pc := 88) hc dX8_swap_88 rfl ?_
      refine J_iald (pc := 90) hc dX8_swap_90 (fun v4 => ?_)
      refine J_iast (pc := 91) hc dX8_swap_91 ?_
      refine J_iinc (pc := 92) (v := x4 + 1) (l' := [some ((8, .ref x0) : TV), none, some ((0, .int x2) : TV), some ((0, .int x3) : TV), some ((0, .int (x4 + 1)) : TV)]) hc dX8_swap_92 rfl rfl (by decide) rfl rfl ?_
      refine J_goto (pc := 95) (tgt := 67) hc dX8_swap_95 (by decide) ?_
      refine J_sub (l' := [some ((8, .ref x0) : TV), none, some ((0, .int x2) : TV), some ((0, .int x3) : TV), some ((0, .int (x4 + 1)) : TV)]) ⟨rfl, ⟨rfl, ⟨rfl, ⟨rfl, trivial⟩⟩⟩⟩ ?_
      exact ih x0 x2 x3 (x4 + 1)
set_option maxRecDepth 100000 in
set_option maxHeartbeats 4000000 in
theorem jX8_swap_L22 {κ : Cx} {fin : Int32 → Mm → Prop} (hc : Jc κ RX8 cX8_swap 5 2 0 0 45) (he : Ed κ cX8_swap 0 0 wI .ireturn fin) (x0 : Nat) (x1 : Int32) (x2 : Int32) (s0 : Int32) (s1 : Nat) : Jg κ (wM κ) 5 fin 0 0 22 [some ((8, .ref x0) : TV), some ((0, .int x1) : TV), some ((0, .int x2) : TV), none, none] [((0, .int s0) : TV), ((8, .ref s1) : TV)] (fX8_swap_L22 x0 x1 x2 s0 s1) := by
  unfold fX8_swap_L22
  refine J_putI (pc := 22) hc clX8 (k := 0) (Nat.le_of_ble_eq_true rfl) rfl rfl tw1162 rfl rfl dX8_swap_22 ?_
  refine J_aload_n (pc := 25) hc dX8_swap_25 rfl rfl ?_
  refine J_getI (pc := 26) hc clX8 (k := 0) (Nat.le_of_ble_eq_true rfl) rfl tw1162 rfl dX8_swap_26 (fun v5 => ?_)
  refine J_if_le (pc := 29) (tgt := 34) hc dX8_swap_29 (by decide) ?_ ?_
  · refine J_aload_n (pc := 34) hc dX8_swap_34 rfl rfl ?_
    refine J_iload_n (pc := 35) hc dX8_swap_35 rfl rfl ?_
    refine J_iload_n (pc := 36) hc dX8_swap_36 rfl rfl ?_
    refine J_callVi (pc := 37) hc clX8 (As := [((0, .int x1) : TV), ((0, .int x2) : TV)]) (KX8_differs x0 x1 x2) dX8_swap_37 moX8_differs rfl tw1378 tw1380 twp64 tw9 tw1381 rfl (Nat.le_of_ble_eq_true rfl) (Nat.le_of_ble_eq_true rfl) (Nat.le_of_ble_eq_true rfl) (Nat.le_of_ble_eq_true rfl) (Nat.le_of_ble_eq_true rfl) rfl (fun v6 => ?_)
    refine J_istore_n (pc := 40) (l' := [some ((8, .ref x0) : TV), some ((0, .int x1) : TV), some ((0, .int x2) : TV), some ((0, .int v6) : TV), none]) hc dX8_swap_40 rfl (by decide) rfl rfl ?_
    refine J_aload_n (pc := 41) hc dX8_swap_41 rfl rfl ?_
    refine J_callVv (pc := 42) hc clX8 (As := []) (KX8_keeps x0) dX8_swap_42 moX8_keeps rfl tw1468 tw1470 twp76 tw9 tw1471 rfl (Nat.le_of_ble_eq_true rfl) (Nat.le_of_ble_eq_true rfl) (Nat.le_of_ble_eq_true rfl) (Nat.le_of_ble_eq_true rfl) (Nat.le_of_ble_eq_true rfl) rfl (fun _ => ?_)
    refine J_aload_n (pc := 45) hc dX8_swap_45 rfl rfl ?_
    refine J_aload_n (pc := 46) hc dX8_swap_46 rfl rfl ?_
    refine J_getA (pc := 47) hc clX8 (k := 1) (kd := 11) (Nat.le_of_ble_eq_true rfl) rfl (Nat.le_of_ble_eq_true rfl) (Nat.le_of_ble_eq_true rfl) tw1163 rfl dX8_swap_47 (fun v7 => ?_)
    refine J_iload_n (pc := 50) hc dX8_swap_50 rfl rfl ?_
    refine J_iconst (pc := 51) (v := 0) hc dX8_swap_51 (by decide) ?_
    refine J_callSi (pc := 52) hc (As := [((0, .int x1) : TV), ((0, .int 0) : TV)]) (KX8_dotAt x1 0) dX8_swap_52 moX8_dotAt tw1309 tw1310 tw9 tw1311 rfl (Nat.le_of_ble_eq_true rfl) (Nat.le_of_ble_eq_true rfl) (Nat.le_of_ble_eq_true rfl) (Nat.le_of_ble_eq_true rfl) (Nat.le_of_ble_eq_true rfl) rfl (fun v8 => ?_)
    refine J_callVv (pc := 55) hc clX8 (As := [((11, .ref v7) : TV), ((0, .int v8) : TV)]) (KX8_laysLower x0 v7 v8) dX8_swap_55 moX8_laysLower rfl tw1336 tw1338 twp55 tw9 tw1339 rfl (Nat.le_of_ble_eq_true rfl) (Nat.le_of_ble_eq_true rfl) (Nat.le_of_ble_eq_true rfl) (Nat.le_of_ble_eq_true rfl) (Nat.le_of_ble_eq_true rfl) rfl (fun _ => ?_)
    refine J_aload_n (pc := 58) hc dX8_swap_58 rfl rfl ?_
    refine J_iload_n (pc := 59) hc dX8_swap_59 rfl rfl ?_
    refine J_iload_n (pc := 60) hc dX8_swap_60 rfl rfl ?_
    refine J_callVv (pc := 61) hc clX8 (As := [((0, .int x2) : TV), ((0, .int x1) : TV)]) (KX8_movesLine x0 x2 x1) dX8_swap_61 moX8_movesLine rfl tw1504 tw1506 twp80 tw9 tw1507 rfl (Nat.le_of_ble_eq_true rfl) (Nat.le_of_ble_eq_true rfl) (Nat.le_of_ble_eq_true rfl) (Nat.le_of_ble_eq_true rfl) (Nat.le_of_ble_eq_true rfl) rfl (fun _ => ?_)
    refine J_iconst (pc := 64) (v := 0) hc dX8_swap_64 (by decide) ?_
    refine J_istore (pc := 65) (l' := [some ((8, .ref x0) : TV), some ((0, .int x1) : TV), some ((0, .int x2) : TV), some ((0, .int v6) : TV), some ((0, .int 0) : TV)]) hc dX8_swap_65 (by decide) rfl rfl ?_
    refine J_sub (l' := [some ((8, .ref x0) : TV), none, some ((0, .int x2) : TV), some ((0, .int v6) : TV), some ((0, .int 0) : TV)]) ⟨rfl, ⟨rfl, ⟨rfl, ⟨rfl, trivial⟩⟩⟩⟩ ?_
    exact jX8_swap_L67 hc he fu x0 x2 v6 0
  · refine J_iconst (pc := 32) (v := 0) hc dX8_swap_32 (by decide) ?_
    exact J_iret (pc := 33) he dX8_swap_33
set_option maxRecDepth 100000 in
set_option maxHeartbeats 4000000 in
theorem jX8_swap_L21 {κ : Cx} {fin : Int32 → Mm → Prop} (hc : Jc κ RX8 cX8_swap 5 2 0 0 45) (he : Ed κ cX8_swap 0 0 wI .ireturn fin) (x0 : Nat) (x1 : Int32) (x2 : Int32) (s0 : Nat) : Jg κ (wM κ) 5 fin 0 0 21 [some ((8, .ref x0) : TV), some ((0, .int x1) : TV), some ((0, .int x2) : TV), none, none] [((8, .ref s0) : TV)] (fX8_swap_L21 x0 x1 x2 s0) := by
  unfold fX8_swap_L21
  refine J_iconst (pc := 21) (v := 1) hc dX8_swap_21 (by decide) ?_
  refine J_sub (l' := [some ((8, .ref x0) : TV), some ((0, .int x1) : TV), some ((0, .int x2) : TV), none, none]) ⟨rfl, ⟨rfl, ⟨rfl, trivial⟩⟩⟩ ?_
  exact jX8_swap_L22 hc he x0 x1 x2 1 s0
set_option maxRecDepth 100000 in
set_option maxHeartbeats 4000000 in
theorem jX8_swap {κ : Cx} {fin : Int32 → Mm → Prop} (hc : Jc κ RX8 cX8_swap 5 2 0 0 45) (he : Ed κ cX8_swap 0 0 wI .ireturn fin) (x0 : Nat) (x1 : Int32) (x2 : Int32) : Jg κ (wM κ) 5 fin 0 0 0 [some ((8, .ref x0) : TV), some ((0, .int x1) : TV), some ((0, .int x2) : TV), none, none] [] (fX8_swap x0 x1 x2) := by
  unfold fX8_swap
  refine J_aload_n (pc := 0) hc dX8_swap_0 rfl rfl ?_
  refine J_aload_n (pc := 1) hc dX8_swap_1 rfl rfl ?_
  refine J_iload_n (pc := 2) hc dX8_swap_2 rfl rfl ?_
  refine J_callVi (pc := 3) hc clX8 (As := [((0, .int x1) : TV)]) (KX8_isLine x0 x1) dX8_swap_3 moX8_isLine rfl tw1390 tw1392 twp66 tw9 tw1393 rfl (Nat.le_of_ble_eq_true rfl) (Nat.le_of_ble_eq_true rfl) (Nat.le_of_ble_eq_true rfl) (Nat.le_of_ble_eq_true rfl) (Nat.le_of_ble_eq_true rfl) rfl (fun v9 => ?_)
  refine J_if_eq (pc := 6) (tgt := 21) hc dX8_swap_6 (by decide) ?_ ?_
  · refine J_sub (l' := [some ((8, .ref x0) : TV), some ((0, .int x1) : TV), some ((0, .int x2) : TV), none, none]) ⟨rfl, ⟨rfl, ⟨rfl, trivial⟩⟩⟩ ?_
    exact jX8_swap_L21 hc he x0 x1 x2 x0
  · refine J_aload_n (pc := 9) hc dX8_swap_9 rfl rfl ?_
    refine J_iload_n (pc := 10) hc dX8_swap_10 rfl rfl ?_
    refine J_callVi (pc := 11) hc clX8 (As := [((0, .int x2) : TV)]) (KX8_isLine x0 x2) dX8_swap_11 moX8_isLine rfl tw1390 tw1392 twp66 tw9 tw1393 rfl (Nat.le_of_ble_eq_true rfl) (Nat.le_of_ble_eq_true rfl) (Nat.le_of_ble_eq_true rfl) (Nat.le_of_ble_eq_true rfl) (Nat.le_of_ble_eq_true rfl) rfl (fun v10 => ?_)
    refine J_if_eq (pc := 14) (tgt := 21) hc dX8_swap_14 (by decide) ?_ ?_
    · refine J_sub (l' := [some ((8, .ref x0) : TV), some ((0, .int x1) : TV), some ((0, .int x2) : TV), none, none]) ⟨rfl, ⟨rfl, ⟨rfl, trivial⟩⟩⟩ ?_
      exact jX8_swap_L21 hc he x0 x1 x2 x0
    · refine J_iconst (pc := 17) (v := 0) hc dX8_swap_17 (by decide) ?_
      refine J_goto (pc := 18) (tgt := 22) hc dX8_swap_18 (by decide) ?_
      refine J_sub (l' := [some ((8, .ref x0) : TV), some ((0, .int x1) : TV), some ((0, .int x2) : TV), none, none]) ⟨rfl, ⟨rfl, ⟨rfl, trivial⟩⟩⟩ ?_
      exact jX8_swap_L22 hc he x0 x1 x2 0 x0
theorem moX8_swap : MOk yX8_swap 2 := ⟨by decide +kernel, by decide +kernel, by decide +kernel⟩
set_option maxRecDepth 100000 in
set_option maxHeartbeats 4000000 in
theorem KX8_swap (x0 : Nat) (x1 : Int32) (x2 : Int32) : Ct wI yX8_swap cX8_swap 5 (some .int) 2 0 0 45 [((8, .ref x0) : TV), ((0, .int x1) : TV), ((0, .int x2) : TV)] (fX8_swap x0 x1 x2) :=
  Ct_I (j := 2) (by decide +kernel) rfl rfl (Nat.le_of_ble_eq_true rfl) (fun κ fin hc he => jX8_swap hc he x0 x1 x2)
set_option maxRecDepth 100000 in
set_option maxHeartbeats 4000000 in
theorem jX8_laysLosses_L2 {κ : Cx} {fin : Unit → Mm → Prop} (hc : Jc κ RX8 cX8_laysLosses 2 0 0 0 0) (he : Ed κ cX8_laysLosses 0 0 wV .return_ fin) : ∀ (n : Nat) (x0 : Nat) (x1 : Int32), Jg κ (wM κ) 2 fin 0 0 2 [some ((8, .ref x0) : TV), some ((0, .int x1) : TV)] [] (fX8_laysLosses_L2 n x0 x1) := by
  intro n
  induction n with
  | zero => intro x0 x1; exact J_fail
  | succ n ih =>
    intro x0 x1
    unfold fX8_laysLosses_L2
    refine J_iload_n (pc := 2) hc dX8_laysLosses_2 rfl rfl ?_
    refine J_bipush (pc := 3) (v := 20) hc dX8_laysLosses_3 (by decide) ?_
    refine J_icmp_ge (pc := 5) (tgt := 29) hc dX8_laysLosses_5 (by decide) ?_ ?_
    · exact J_vret (pc := 29) he dX8_laysLosses_29
    · refine J_aload_n (pc := 8) hc dX8_laysLosses_8 rfl rfl ?_
      refine J_getA (pc := 9) hc clX8 (k := 25) (kd := 11) (Nat.le_of_ble_eq_true rfl) rfl (Nat.le_of_ble_eq_true rfl) (Nat.le_of_ble_eq_true rfl) tw1187 rfl dX8_laysLosses_9 (fun v1 => ?_)
      refine J_iload_n (pc := 12) hc dX8_laysLosses_12 rfl rfl ?_
      refine J_aload_n (pc := 13) hc dX8_laysLosses_13 rfl rfl ?_
      refine J_getA (pc := 14) hc clX8 (k := 1) (kd := 11) (Nat.le_of_ble_eq_true rfl) rfl (Nat.le_of_ble_eq_true rfl) (Nat.le_of_ble_eq_true rfl) tw1163 rfl dX8_laysLosses_14 (fun v2 => ?_)
      refine J_bipush (pc := 17) (v := 8) hc dX8_laysLosses_17 (by decide) ?_
      refine J_iload_n (pc := 19) hc dX8_laysLosses_19 rfl rfl ?_
      refine J_iadd (pc := 20) hc dX8_laysLosses_20 ?_
      refine J_iald (pc := 21) hc dX8_laysLosses_21 (fun v3 => ?_)
      refine J_iast (pc := 22) hc dX8_laysLosses_22 ?_
      refine J_iinc (pc := 23) (v := x1 + 1) (l' := [some ((8, .ref x0) : TV), some ((0, .int (x1 + 1)) : TV)]) hc dX8_laysLosses_23 rfl rfl (by decide) rfl rfl ?_
      refine J_goto (pc := 26) (tgt := 2) hc dX8_laysLosses_26 (by decide) ?_
      refine J_sub (l' := [some ((8, .ref x0) : TV), some ((0, .int (x1 + 1)) : TV)]) ⟨rfl, ⟨rfl, trivial⟩⟩ ?_
      exact ih x0 (x1 + 1)
set_option maxRecDepth 100000 in
set_option maxHeartbeats 4000000 in
theorem jX8_laysLosses {κ : Cx} {fin : Unit → Mm → Prop} (hc : Jc κ RX8 cX8_laysLosses 2 0 0 0 0) (he : Ed κ cX8_laysLosses 0 0 wV .return_ fin) (x0 : Nat) : Jg κ (wM κ) 2 fin 0 0 0 [some ((8, .ref x0) : TV), none] [] (fX8_laysLosses x0) := by
  unfold fX8_laysLosses
  refine J_iconst (pc := 0) (v := 0) hc dX8_laysLosses_0 (by decide) ?_
  refine J_istore_n (pc := 1) (l' := [some ((8, .ref x0) : TV), some ((0, .int 0) : TV)]) hc dX8_laysLosses_1 rfl (by decide) rfl rfl ?_
  refine J_sub (l' := [some ((8, .ref x0) : TV), some ((0, .int 0) : TV)]) ⟨rfl, ⟨rfl, trivial⟩⟩ ?_
  exact jX8_laysLosses_L2 hc he fu x0 0
theorem moX8_laysLosses : MOk yX8_laysLosses 0 := ⟨by decide +kernel, by decide +kernel, by decide +kernel⟩
set_option maxRecDepth 100000 in
set_option maxHeartbeats 4000000 in
theorem KX8_laysLosses (x0 : Nat) : Ct wV yX8_laysLosses cX8_laysLosses 2 none 0 0 0 0 [((8, .ref x0) : TV)] (fX8_laysLosses x0) :=
  Ct_V (j := 1) (by decide +kernel) rfl rfl (Nat.le_of_ble_eq_true rfl) (fun κ fin hc he hin => jX8_laysLosses hc he x0)
set_option maxRecDepth 100000 in
set_option maxHeartbeats 4000000 in
theorem jX8_fills_L49 {κ : Cx} {fin : Unit → Mm → Prop} (hc : Jc κ RX8 cX8_fills 4 0 0 0 0) (he : Ed κ cX8_fills 0 0 wV .return_ fin) {k2 : Nat → Int32 → Int32 → Int32 → Mm → Option (Unit × Mm)} (hk2 : ∀ (x0 : Nat) (x1 : Int32) (x2 : Int32) (x3 : Int32), Jg κ (wM κ) 4 fin 0 0 2 [some ((8, .ref x0) : TV), some ((0, .int x1) : TV), some ((0, .int x2) : TV), some ((0, .int x3) : TV)] [] (k2 x0 x1 x2 x3)) (x0 : Nat) (x1 : Int32) (x2 : Int32) (x3 : Int32) (s0 : Int32) (s1 : Int32) (s2 : Nat) : Jg κ (wM κ) 4 fin 0 0 49 [some ((8, .ref x0) : TV), some ((0, .int x1) : TV), some ((0, .int x2) : TV), some ((0, .int x3) : TV)] [((0, .int s0) : TV), ((0, .int s1) : TV), ((11, .ref s2) : TV)] (fX8_fills_L49 k2 x0 x1 x2 x3 s0 s1 s2) := by
  unfold fX8_fills_L49
  refine J_iast (pc := 49) hc dX8_fills_49 ?_
  refine J_iinc (pc := 50) (v := x3 + 1) (l' := [some ((8, .ref x0) : TV), some ((0, .int x1) : TV), some ((0, .int x2) : TV), some ((0, .int (x3 + 1)) : TV)]) hc dX8_fills_50 rfl rfl (by decide) rfl rfl ?_
  refine J_goto (pc := 53) (tgt := 2) hc dX8_fills_53 (by decide) ?_
  refine J_sub (l' := [some ((8, .ref x0) : TV), some ((0, .int x1) : TV), some ((0, .int x2) : TV), some ((0, .int (x3 + 1)) : TV)]) ⟨rfl, ⟨rfl, ⟨rfl, ⟨rfl, trivial⟩⟩⟩⟩ ?_
  exact hk2 x0 x1 x2 (x3 + 1)
set_option maxRecDepth 100000 in
set_option maxHeartbeats 4000000 in
theorem jX8_fills_L32 {κ : Cx} {fin : Unit → Mm → Prop} (hc : Jc κ RX8 cX8_fills 4 0 0 0 0) (he : Ed κ cX8_fills 0 0 wV .return_ fin) {k2 : Nat → Int32 → Int32 → Int32 → Mm → Option (Unit × Mm)} (hk2 : ∀ (x0 : Nat) (x1 : Int32) (x2 : Int32) (x3 : Int32), Jg κ (wM κ) 4 fin 0 0 2 [some ((8, .ref x0) : TV), some ((0, .int x1) : TV), some ((0, .int x2) : TV), some ((0, .int x3) : TV)] [] (k2 x0 x1 x2 x3)) (x0 : Nat) (x1 : Int32) (x2 : Int32) (x3 : Int32) (s0 : Int32) (s1 : Nat) : Jg κ (wM κ) 4 fin 0 0 32 [some ((8, .ref x0) : TV), some ((0, .int x1) : TV), some ((0, .int x2) : TV), some ((0, .int x3) : TV)] [((0, .int s0) : TV), ((11, .ref s1) : TV)] (fX8_fills_L32 k2 x0 x1 x2 x3 s0 s1) := by
  unfold fX8_fills_L32
  refine J_iconst (pc := 32) (v := 0) hc dX8_fills_32 (by decide) ?_
  refine J_goto (pc := 33) (tgt := 49) hc dX8_fills_33 (by decide) ?_
  refine J_sub (l' := [some ((8, .ref x0) : TV), some ((0, .int x1) : TV), some ((0, .int x2) : TV), some ((0, .int x3) : TV)]) ⟨rfl, ⟨rfl, ⟨rfl, ⟨rfl, trivial⟩⟩⟩⟩ ?_
  exact jX8_fills_L49 hc he hk2 x0 x1 x2 x3 0 s0 s1
set_option maxRecDepth 100000 in
set_option maxHeartbeats 4000000 in
theorem jX8_fills_L2 {κ : Cx} {fin : Unit → Mm → Prop} (hc : Jc κ RX8 cX8_fills 4 0 0 0 0) (he : Ed κ cX8_fills 0 0 wV .return_ fin) : ∀ (n : Nat) (x0 : Nat) (x1 : Int32) (x2 : Int32) (x3 : Int32), Jg κ (wM κ) 4 fin 0 0 2 [some ((8, .ref x0) : TV), some ((0, .int x1) : TV), some ((0, .int x2) : TV), some ((0, .int x3) : TV)] [] (fX8_fills_L2 n x0 x1 x2 x3) := by
  intro n
  induction n with
  | zero => intro x0 x1 x2 x3; exact J_fail
  | succ n ih =>
    intro x0 x1 x2 x3
    unfold fX8_fills_L2
    refine J_iload_n (pc := 2) hc dX8_fills_2 rfl rfl ?_
    refine J_bipush (pc := 3) (v := 40) hc dX8_fills_3 (by decide) ?_
    refine J_icmp_ge (pc := 5) (tgt := 56) hc dX8_fills_5 (by decide) ?_ ?_
    · refine J_aload_n (pc := 56) hc dX8_fills_56 rfl rfl ?_
      refine J_getA (pc := 57) hc clX8 (k := 21) (kd := 11) (Nat.le_of_ble_eq_true rfl) rfl (Nat.le_of_ble_eq_true rfl) (Nat.le_of_ble_eq_true rfl) tw1183 rfl dX8_fills_57 (fun v1 => ?_)
      refine J_iload_n (pc := 60) hc dX8_fills_60 rfl rfl ?_
      refine J_iload_n (pc := 61) hc dX8_fills_61 rfl rfl ?_
      refine J_iast (pc := 62) hc dX8_fills_62 ?_
      exact J_vret (pc := 63) he dX8_fills_63
    · refine J_aload_n (pc := 8) hc dX8_fills_8 rfl rfl ?_
      refine J_getA (pc := 9) hc clX8 (k := 20) (kd := 11) (Nat.le_of_ble_eq_true rfl) rfl (Nat.le_of_ble_eq_true rfl) (Nat.le_of_ble_eq_true rfl) tw1182 rfl dX8_fills_9 (fun v2 => ?_)
      refine J_bipush (pc := 12) (v := 40) hc dX8_fills_12 (by decide) ?_
      refine J_iload_n (pc := 14) hc dX8_fills_14 rfl rfl ?_
      refine J_imul (pc := 15) hc dX8_fills_15 ?_
      refine J_iload_n (pc := 16) hc dX8_fills_16 rfl rfl ?_
      refine J_iadd (pc := 17) hc dX8_fills_17 ?_
      refine J_aload_n (pc := 18) hc dX8_fills_18 rfl rfl ?_
      refine J_getA (pc := 19) hc clX8 (k := 1) (kd := 11) (Nat.le_of_ble_eq_true rfl) rfl (Nat.le_of_ble_eq_true rfl) (Nat.le_of_ble_eq_true rfl) tw1163 rfl dX8_fills_19 (fun v3 => ?_)
      refine J_iconst (pc := 22) (v := 4) hc dX8_fills_22 (by decide) ?_
      refine J_iald (pc := 23) hc dX8_fills_23 (fun v4 => ?_)
      refine J_iconst (pc := 24) (v := 1) hc dX8_fills_24 (by decide) ?_
      refine J_icmp_eq (pc := 25) (tgt := 32) hc dX8_fills_25 (by decide) ?_ ?_
      · refine J_sub (l' := [some ((8, .ref x0) : TV), some ((0, .int x1) : TV), some ((0, .int x2) : TV), some ((0, .int x3) : TV)]) ⟨rfl, ⟨rfl, ⟨rfl, ⟨rfl, trivial⟩⟩⟩⟩ ?_
        exact jX8_fills_L32 hc he ih x0 x1 x2 x3 ((40 * x1) + x3) v2
      · refine J_iload_n (pc := 28) hc dX8_fills_28 rfl rfl ?_
        refine J_if_ne (pc := 29) (tgt := 36) hc dX8_fills_29 (by decide) ?_ ?_
        · refine J_aload_n (pc := 36) hc dX8_fills_36 rfl rfl ?_
          refine J_getA (pc := 37) hc clX8 (k := 20) (kd := 11) (Nat.le_of_ble_eq_true rfl) rfl (Nat.le_of_ble_eq_true rfl) (Nat.le_of_ble_eq_true rfl) tw1182 rfl dX8_fills_37 (fun v5 => ?_)
          refine J_bipush (pc := 40) (v := 40) hc dX8_fills_40 (by decide) ?_
          refine J_iload_n (pc := 42) hc dX8_fills_42 rfl rfl ?_
          refine J_iconst (pc := 43) (v := 1) hc dX8_fills_43 (by decide) ?_
          refine J_isub (pc := 44) hc dX8_fills_44 ?_
          refine J_imul (pc := 45) hc dX8_fills_45 ?_
          refine J_iload_n (pc := 46) hc dX8_fills_46 rfl rfl ?_
          refine J_iadd (pc := 47) hc dX8_fills_47 ?_
          refine J_iald (pc := 48) hc dX8_fills_48 (fun v6 => ?_)
          refine J_sub (l' := [some ((8, .ref x0) : TV), some ((0, .int x1) : TV), some ((0, .int x2) : TV), some ((0, .int x3) : TV)]) ⟨rfl, ⟨rfl, ⟨rfl, ⟨rfl, trivial⟩⟩⟩⟩ ?_
          exact jX8_fills_L49 hc he ih x0 x1 x2 x3 v6 ((40 * x1) + x3) v2
        · refine J_sub (l' := [some ((8, .ref x0) : TV), some ((0, .int x1) : TV), some ((0, .int x2) : TV), some ((0, .int x3) : TV)]) ⟨rfl, ⟨rfl, ⟨rfl, ⟨rfl, trivial⟩⟩⟩⟩ ?_
          exact jX8_fills_L32 hc he ih x0 x1 x2 x3 ((40 * x1) + x3) v2
set_option maxRecDepth 100000 in
set_option maxHeartbeats 4000000 in
theorem jX8_fills {κ : Cx} {fin : Unit → Mm → Prop} (hc : Jc κ RX8 cX8_fills 4 0 0 0 0) (he : Ed κ cX8_fills 0 0 wV .return_ fin) (x0 : Nat) (x1 : Int32) (x2 : Int32) : Jg κ (wM κ) 4 fin 0 0 0 [some ((8, .ref x0) : TV), some ((0, .int x1) : TV), some ((0, .int x2) : TV), none] [] (fX8_fills x0 x1 x2) := by
  unfold fX8_fills
  refine J_iconst (pc := 0) (v := 0) hc dX8_fills_0 (by decide) ?_
  refine J_istore_n (pc := 1) (l' := [some ((8, .ref x0) : TV), some ((0, .int x1) : TV), some ((0, .int x2) : TV), some ((0, .int 0) : TV)]) hc dX8_fills_1 rfl (by decide) rfl rfl ?_
  refine J_sub (l' := [some ((8, .ref x0) : TV), some ((0, .int x1) : TV), some ((0, .int x2) : TV), some ((0, .int 0) : TV)]) ⟨rfl, ⟨rfl, ⟨rfl, ⟨rfl, trivial⟩⟩⟩⟩ ?_
  exact jX8_fills_L2 hc he fu x0 x1 x2 0
theorem moX8_fills : MOk yX8_fills 2 := ⟨by decide +kernel, by decide +kernel, by decide +kernel⟩
set_option maxRecDepth 100000 in
set_option maxHeartbeats 4000000 in
theorem KX8_fills (x0 : Nat) (x1 : Int32) (x2 : Int32) : Ct wV yX8_fills cX8_fills 4 none 0 0 0 0 [((8, .ref x0) : TV), ((0, .int x1) : TV), ((0, .int x2) : TV)] (fX8_fills x0 x1 x2) :=
  Ct_V (j := 1) (by decide +kernel) rfl rfl (Nat.le_of_ble_eq_true rfl) (fun κ fin hc he hin => jX8_fills hc he x0 x1 x2)
set_option maxRecDepth 100000 in
set_option maxHeartbeats 4000000 in
theorem jX8_wrongIn_L44 {κ : Cx} {fin : Int32 → Mm → Prop} (hc : Jc κ RX8 cX8_wrongIn 4 1 0 0 21) (he : Ed κ cX8_wrongIn 0 0 wI .ireturn fin) {k4 : Nat → Int32 → Int32 → Int32 → Mm → Option (Int32 × Mm)} (hk4 : ∀ (x0 : Nat) (x1 : Int32) (x2 : Int32) (x3 : Int32), Jg κ (wM κ) 4 fin 0 0 4 [some ((8, .ref x0) : TV), some ((0, .int x1) : TV), some ((0, .int x2) : TV), some ((0, .int x3) : TV)] [] (k4 x0 x1 x2 x3)) (x0 : Nat) (x1 : Int32) (x3 : Int32) (s0 : Int32) (s1 : Int32) : Jg κ (wM κ) 4 fin 0 0 44 [some ((8, .ref x0) : TV), some ((0, .int x1) : TV), none, some ((0, .int x3) : TV)] [((0, .int s0) : TV), ((0, .int s1) : TV)] (fX8_wrongIn_L44 k4 x0 x1 x3 s0 s1) := by
  unfold fX8_wrongIn_L44
  refine J_iadd (pc := 44) hc dX8_wrongIn_44 ?_
  refine J_nmi (fun v1 => ?_)
  refine J_istore_n (pc := 45) (l' := [some ((8, .ref x0) : TV), some ((0, .int x1) : TV), some ((0, .int v1) : TV), some ((0, .int x3) : TV)]) hc dX8_wrongIn_45 rfl (by decide) rfl rfl ?_
  refine J_iinc (pc := 46) (v := x3 + 1) (l' := [some ((8, .ref x0) : TV), some ((0, .int x1) : TV), some ((0, .int v1) : TV), some ((0, .int (x3 + 1)) : TV)]) hc dX8_wrongIn_46 rfl rfl (by decide) rfl rfl ?_
  refine J_goto (pc := 49) (tgt := 4) hc dX8_wrongIn_49 (by decide) ?_
  refine J_sub (l' := [some ((8, .ref x0) : TV), some ((0, .int x1) : TV), some ((0, .int v1) : TV), some ((0, .int (x3 + 1)) : TV)]) ⟨rfl, ⟨rfl, ⟨rfl, ⟨rfl, trivial⟩⟩⟩⟩ ?_
  exact hk4 x0 x1 v1 (x3 + 1)
set_option maxRecDepth 100000 in
set_option maxHeartbeats 4000000 in
theorem jX8_wrongIn_L4 {κ : Cx} {fin : Int32 → Mm → Prop} (hc : Jc κ RX8 cX8_wrongIn 4 1 0 0 21) (he : Ed κ cX8_wrongIn 0 0 wI .ireturn fin) : ∀ (n : Nat) (x0 : Nat) (x1 : Int32) (x2 : Int32) (x3 : Int32), Jg κ (wM κ) 4 fin 0 0 4 [some ((8, .ref x0) : TV), some ((0, .int x1) : TV), some ((0, .int x2) : TV), some ((0, .int x3) : TV)] [] (fX8_wrongIn_L4 n x0 x1 x2 x3) := by
  intro n
  induction n with
  | zero => intro x0 x1 x2 x3; exact J_fail
  | succ n ih =>
    intro x0 x1 x2 x3
    unfold fX8_wrongIn_L4
    refine J_iload_n (pc := 4) hc dX8_wrongIn_4 rfl rfl ?_
    refine J_aload_n (pc := 5) hc dX8_wrongIn_5 rfl rfl ?_
    refine J_getA (pc := 6) hc clX8 (k := 1) (kd := 11) (Nat.le_of_ble_eq_true rfl) rfl (Nat.le_of_ble_eq_true rfl) (Nat.le_of_ble_eq_true rfl) tw1163 rfl dX8_wrongIn_6 (fun v2 => ?_)
    refine J_iconst (pc := 9) (v := 0) hc dX8_wrongIn_9 (by decide) ?_
    refine J_iald (pc := 10) hc dX8_wrongIn_10 (fun v3 => ?_)
    refine J_icmp_ge (pc := 11) (tgt := 52) hc dX8_wrongIn_11 (by decide) ?_ ?_
    · refine J_iload_n (pc := 52) hc dX8_wrongIn_52 rfl rfl ?_
      exact J_iret (pc := 53) he dX8_wrongIn_53
    · refine J_iload_n (pc := 14) hc dX8_wrongIn_14 rfl rfl ?_
      refine J_aload_n (pc := 15) hc dX8_wrongIn_15 rfl rfl ?_
      refine J_getA (pc := 16) hc clX8 (k := 20) (kd := 11) (Nat.le_of_ble_eq_true rfl) rfl (Nat.le_of_ble_eq_true rfl) (Nat.le_of_ble_eq_true rfl) tw1182 rfl dX8_wrongIn_16 (fun v4 => ?_)
      refine J_bipush (pc := 19) (v := 40) hc dX8_wrongIn_19 (by decide) ?_
      refine J_iload_n (pc := 21) hc dX8_wrongIn_21 rfl rfl ?_
      refine J_imul (pc := 22) hc dX8_wrongIn_22 ?_
      refine J_iload_n (pc := 23) hc dX8_wrongIn_23 rfl rfl ?_
      refine J_iadd (pc := 24) hc dX8_wrongIn_24 ?_
      refine J_iald (pc := 25) hc dX8_wrongIn_25 (fun v5 => ?_)
      refine J_aload_n (pc := 26) hc dX8_wrongIn_26 rfl rfl ?_
      refine J_getA (pc := 27) hc clX8 (k := 1) (kd := 11) (Nat.le_of_ble_eq_true rfl) rfl (Nat.le_of_ble_eq_true rfl) (Nat.le_of_ble_eq_true rfl) tw1163 rfl dX8_wrongIn_27 (fun v6 => ?_)
      refine J_iload_n (pc := 30) hc dX8_wrongIn_30 rfl rfl ?_
      refine J_iload_n (pc := 31) hc dX8_wrongIn_31 rfl rfl ?_
      refine J_callSi (pc := 32) hc (As := [((0, .int x1) : TV), ((0, .int x3) : TV)]) (KX8_dotAt x1 x3) dX8_wrongIn_32 moX8_dotAt tw1309 tw1310 tw9 tw1311 rfl (Nat.le_of_ble_eq_true rfl) (Nat.le_of_ble_eq_true rfl) (Nat.le_of_ble_eq_true rfl) (Nat.le_of_ble_eq_true rfl) (Nat.le_of_ble_eq_true rfl) rfl (fun v7 => ?_)
      refine J_iald (pc := 35) hc dX8_wrongIn_35 (fun v8 => ?_)
      refine J_icmp_ne (pc := 36) (tgt := 43) hc dX8_wrongIn_36 (by decide) ?_ ?_
      · refine J_iconst (pc := 43) (v := 1) hc dX8_wrongIn_43 (by decide) ?_
        refine J_sub (l' := [some ((8, .ref x0) : TV), some ((0, .int x1) : TV), none, some ((0, .int x3) : TV)]) ⟨rfl, ⟨rfl, ⟨rfl, trivial⟩⟩⟩ ?_
        exact jX8_wrongIn_L44 hc he ih x0 x1 x3 1 x2
      · refine J_iconst (pc := 39) (v := 0) hc dX8_wrongIn_39 (by decide) ?_
        refine J_goto (pc := 40) (tgt := 44) hc dX8_wrongIn_40 (by decide) ?_
        refine J_sub (l' := [some ((8, .ref x0) : TV), some ((0, .int x1) : TV), none, some ((0, .int x3) : TV)]) ⟨rfl, ⟨rfl, ⟨rfl, trivial⟩⟩⟩ ?_
        exact jX8_wrongIn_L44 hc he ih x0 x1 x3 0 x2
set_option maxRecDepth 100000 in
set_option maxHeartbeats 4000000 in
theorem jX8_wrongIn {κ : Cx} {fin : Int32 → Mm → Prop} (hc : Jc κ RX8 cX8_wrongIn 4 1 0 0 21) (he : Ed κ cX8_wrongIn 0 0 wI .ireturn fin) (x0 : Nat) (x1 : Int32) : Jg κ (wM κ) 4 fin 0 0 0 [some ((8, .ref x0) : TV), some ((0, .int x1) : TV), none, none] [] (fX8_wrongIn x0 x1) := by
  unfold fX8_wrongIn
  refine J_iconst (pc := 0) (v := 0) hc dX8_wrongIn_0 (by decide) ?_
  refine J_istore_n (pc := 1) (l' := [some ((8, .ref x0) : TV), some ((0, .int x1) : TV), some ((0, .int 0) : TV), none]) hc dX8_wrongIn_1 rfl (by decide) rfl rfl ?_
  refine J_iconst (pc := 2) (v := 0) hc dX8_wrongIn_2 (by decide) ?_
  refine J_istore_n (pc := 3) (l' := [some ((8, .ref x0) : TV), some ((0, .int x1) : TV), some ((0, .int 0) : TV), some ((0, .int 0) : TV)]) hc dX8_wrongIn_3 rfl (by decide) rfl rfl ?_
  refine J_sub (l' := [some ((8, .ref x0) : TV), some ((0, .int x1) : TV), some ((0, .int 0) : TV), some ((0, .int 0) : TV)]) ⟨rfl, ⟨rfl, ⟨rfl, ⟨rfl, trivial⟩⟩⟩⟩ ?_
  exact jX8_wrongIn_L4 hc he fu x0 x1 0 0
theorem moX8_wrongIn : MOk yX8_wrongIn 1 := ⟨by decide +kernel, by decide +kernel, by decide +kernel⟩
set_option maxRecDepth 100000 in
set_option maxHeartbeats 4000000 in
theorem KX8_wrongIn (x0 : Nat) (x1 : Int32) : Ct wI yX8_wrongIn cX8_wrongIn 4 (some .int) 1 0 0 21 [((8, .ref x0) : TV), ((0, .int x1) : TV)] (fX8_wrongIn x0 x1) :=
  Ct_I (j := 2) (by decide +kernel) rfl rfl (Nat.le_of_ble_eq_true rfl) (fun κ fin hc he => jX8_wrongIn hc he x0 x1)
set_option maxRecDepth 100000 in
set_option maxHeartbeats 4000000 in
theorem jX8_isRead_L17 {κ : Cx} {fin : Int32 → Mm → Prop} (hc : Jc κ RX8 cX8_isRead 4 5 0 0 112) (he : EdZ κ cX8_isRead 0 0 id fin) : ∀ (n : Nat) (x0 : Nat) (x3 : Int32), Jg κ (wM κ) 4 fin 0 0 17 [some ((8, .ref x0) : TV), none, none, some ((0, .int x3) : TV)] [] (fX8_isRead_L17 n x0 x3) := by
  intro n
  induction n with
  | zero => intro x0 x3; exact J_fail
  | succ n ih =>
    intro x0 x3
    unfold fX8_isRead_L17
    refine J_iload_n (pc := 17) hc dX8_isRead_17 rfl rfl ?_
    refine J_bipush (pc := 18) (v := 40) hc dX8_isRead_18 (by decide) ?_
    refine J_icmp_ge (pc := 20) (tgt := 41) hc dX8_isRead_20 (by decide) ?_ ?_
    · refine J_iconst (pc := 41) (v := 1) hc dX8_isRead_41 (by decide) ?_
      exact J_zret (pc := 42) he dX8_isRead_42
    · refine J_aload_n (pc := 23) hc dX8_isRead_23 rfl rfl ?_
      refine J_getA (pc := 24) hc clX8 (k := 15) (kd := 11) (Nat.le_of_ble_eq_true rfl) rfl (Nat.le_of_ble_eq_true rfl) (Nat.le_of_ble_eq_true rfl) tw1177 rfl dX8_isRead_24 (fun v1 => ?_)
      refine J_iload_n (pc := 27) hc dX8_isRead_27 rfl rfl ?_
      refine J_aload_n (pc := 28) hc dX8_isRead_28 rfl rfl ?_
      refine J_getA (pc := 29) hc clX8 (k := 8) (kd := 11) (Nat.le_of_ble_eq_true rfl) rfl (Nat.le_of_ble_eq_true rfl) (Nat.le_of_ble_eq_true rfl) tw1170 rfl dX8_isRead_29 (fun v2 => ?_)
      refine J_iload_n (pc := 32) hc dX8_isRead_32 rfl rfl ?_
      refine J_iald (pc := 33) hc dX8_isRead_33 (fun v3 => ?_)
      refine J_iast (pc := 34) hc dX8_isRead_34 ?_
      refine J_iinc (pc := 35) (v := x3 + 1) (l' := [some ((8, .ref x0) : TV), none, none, some ((0, .int (x3 + 1)) : TV)]) hc dX8_isRead_35 rfl rfl (by decide) rfl rfl ?_
      refine J_goto (pc := 38) (tgt := 17) hc dX8_isRead_38 (by decide) ?_
      refine J_sub (l' := [some ((8, .ref x0) : TV), none, none, some ((0, .int (x3 + 1)) : TV)]) ⟨rfl, ⟨rfl, trivial⟩⟩ ?_
      exact ih x0 (x3 + 1)
set_option maxRecDepth 100000 in
set_option maxHeartbeats 4000000 in
theorem jX8_isRead {κ : Cx} {fin : Int32 → Mm → Prop} (hc : Jc κ RX8 cX8_isRead 4 5 0 0 112) (he : EdZ κ cX8_isRead 0 0 id fin) (x0 : Nat) (x1 : Int32) : Jg κ (wM κ) 4 fin 0 0 0 [some ((8, .ref x0) : TV), some ((0, .int x1) : TV), none, none] [] (fX8_isRead x0 x1) := by
  unfold fX8_isRead
  refine J_aload_n (pc := 0) hc dX8_isRead_0 rfl rfl ?_
  refine J_iload_n (pc := 1) hc dX8_isRead_1 rfl rfl ?_
  refine J_callVi (pc := 2) hc clX8 (As := [((0, .int x1) : TV)]) (KX8_isMark x0 x1) dX8_isRead_2 moX8_isMark rfl tw1320 tw1322 twp51 tw9 tw1323 rfl (Nat.le_of_ble_eq_true rfl) (Nat.le_of_ble_eq_true rfl) (Nat.le_of_ble_eq_true rfl) (Nat.le_of_ble_eq_true rfl) (Nat.le_of_ble_eq_true rfl) rfl (fun v4 => ?_)
  refine J_istore_n (pc := 5) (l' := [some ((8, .ref x0) : TV), some ((0, .int x1) : TV), some ((0, .int v4) : TV), none]) hc dX8_isRead_5 rfl (by decide) rfl rfl ?_
  refine J_aload_n (pc := 6) hc dX8_isRead_6 rfl rfl ?_
  refine J_iload_n (pc := 7) hc dX8_isRead_7 rfl rfl ?_
  refine J_callVv (pc := 8) hc clX8 (As := [((0, .int x1) : TV)]) (KX8_codesLine x0 x1) dX8_isRead_8 moX8_codesLine rfl tw1324 tw1326 twp52 tw9 tw1327 rfl (Nat.le_of_ble_eq_true rfl) (Nat.le_of_ble_eq_true rfl) (Nat.le_of_ble_eq_true rfl) (Nat.le_of_ble_eq_true rfl) (Nat.le_of_ble_eq_true rfl) rfl (fun _ => ?_)
  refine J_iload_n (pc := 11) hc dX8_isRead_11 rfl rfl ?_
  refine J_if_eq (pc := 12) (tgt := 43) hc dX8_isRead_12 (by decide) ?_ ?_
  · refine J_aload_n (pc := 43) hc dX8_isRead_43 rfl rfl ?_
    refine J_aload_n (pc := 44) hc dX8_isRead_44 rfl rfl ?_
    refine J_getA (pc := 45) hc clX8 (k := 20) (kd := 11) (Nat.le_of_ble_eq_true rfl) rfl (Nat.le_of_ble_eq_true rfl) (Nat.le_of_ble_eq_true rfl) tw1182 rfl dX8_isRead_45 (fun v5 => ?_)
    refine J_bipush (pc := 48) (v := 40) hc dX8_isRead_48 (by decide) ?_
    refine J_iload_n (pc := 50) hc dX8_isRead_50 rfl rfl ?_
    refine J_iconst (pc := 51) (v := 1) hc dX8_isRead_51 (by decide) ?_
    refine J_isub (pc := 52) hc dX8_isRead_52 ?_
    refine J_imul (pc := 53) hc dX8_isRead_53 ?_
    refine J_callVv (pc := 54) hc clX8 (As := [((11, .ref v5) : TV), ((0, .int (40 * (x1 - 1))) : TV)]) (KX8_laysUpper x0 v5 (40 * (x1 - 1))) dX8_isRead_54 moX8_laysUpper rfl tw1332 tw1334 twp54 tw9 tw1335 rfl (Nat.le_of_ble_eq_true rfl) (Nat.le_of_ble_eq_true rfl) (Nat.le_of_ble_eq_true rfl) (Nat.le_of_ble_eq_true rfl) (Nat.le_of_ble_eq_true rfl) rfl (fun _ => ?_)
    refine J_aload_n (pc := 57) hc dX8_isRead_57 rfl rfl ?_
    refine J_callVi (pc := 58) hc clX8 (As := []) (KX8_readsCode x0) dX8_isRead_58 moX8_readsCode rfl tw1442 tw1444 twp72 tw9 tw1445 rfl (Nat.le_of_ble_eq_true rfl) (Nat.le_of_ble_eq_true rfl) (Nat.le_of_ble_eq_true rfl) (Nat.le_of_ble_eq_true rfl) (Nat.le_of_ble_eq_true rfl) rfl (fun v6 => ?_)
    exact J_zret (pc := 61) he dX8_isRead_61
  · refine J_iconst (pc := 15) (v := 0) hc dX8_isRead_15 (by decide) ?_
    refine J_istore_n (pc := 16) (l' := [some ((8, .ref x0) : TV), some ((0, .int x1) : TV), some ((0, .int v4) : TV), some ((0, .int 0) : TV)]) hc dX8_isRead_16 rfl (by decide) rfl rfl ?_
    refine J_sub (l' := [some ((8, .ref x0) : TV), none, none, some ((0, .int 0) : TV)]) ⟨rfl, ⟨rfl, trivial⟩⟩ ?_
    exact jX8_isRead_L17 hc he fu x0 0
theorem moX8_isRead : MOk yX8_isRead 1 := ⟨by decide +kernel, by decide +kernel, by decide +kernel⟩
set_option maxRecDepth 100000 in
set_option maxHeartbeats 4000000 in
theorem KX8_isRead (x0 : Nat) (x1 : Int32) : Ct wI yX8_isRead cX8_isRead 4 (some .boolean) 5 0 0 112 [((8, .ref x0) : TV), ((0, .int x1) : TV)] (fX8_isRead x0 x1) :=
  Ct_Z ⟨rfl, rfl⟩ (j := 2) (by decide +kernel) rfl rfl (Nat.le_of_ble_eq_true rfl) (fun κ fin hc he => jX8_isRead hc he x0 x1)
set_option maxRecDepth 100000 in
set_option maxHeartbeats 4000000 in
theorem jX8_sends_L150 {κ : Cx} {fin : Int32 → Mm → Prop} (hc : Jc κ RX8 cX8_sends 4 6 0 0 135) (he : Ed κ cX8_sends 0 0 wI .ireturn fin) (s0 : Int32) (s1 : Int32) (s2 : Nat) : Jg κ (wM κ) 4 fin 0 0 150 [none, none, none, none] [((0, .int s0) : TV), ((0, .int s1) : TV), ((11, .ref s2) : TV)] (fX8_sends_L150 s0 s1 s2) := by
  unfold fX8_sends_L150
  refine J_iast (pc := 150) hc dX8_sends_150 ?_
  refine J_iconst (pc := 151) (v := 0) hc dX8_sends_151 (by decide) ?_
  exact J_iret (pc := 152) he dX8_sends_152
set_option maxRecDepth 100000 in
set_option maxHeartbeats 4000000 in
theorem jX8_sends_L103 {κ : Cx} {fin : Int32 → Mm → Prop} (hc : Jc κ RX8 cX8_sends 4 6 0 0 135) (he : Ed κ cX8_sends 0 0 wI .ireturn fin) : ∀ (n : Nat) (x0 : Nat) (x1 : Int32) (x3 : Int32), Jg κ (wM κ) 4 fin 0 0 103 [some ((8, .ref x0) : TV), some ((0, .int x1) : TV), none, some ((0, .int x3) : TV)] [] (fX8_sends_L103 n x0 x1 x3) := by
  intro n
  induction n with
  | zero => intro x0 x1 x3; exact J_fail
  | succ n ih =>
    intro x0 x1 x3
    unfold fX8_sends_L103
    refine J_iload_n (pc := 103) hc dX8_sends_103 rfl rfl ?_
    refine J_bipush (pc := 104) (v := 40) hc dX8_sends_104 (by decide) ?_
    refine J_icmp_ge (pc := 106) (tgt := 132) hc dX8_sends_106 (by decide) ?_ ?_
    · refine J_aload_n (pc := 132) hc dX8_sends_132 rfl rfl ?_
      refine J_getA (pc := 133) hc clX8 (k := 21) (kd := 11) (Nat.le_of_ble_eq_true rfl) rfl (Nat.le_of_ble_eq_true rfl) (Nat.le_of_ble_eq_true rfl) tw1183 rfl dX8_sends_133 (fun v1 => ?_)
      refine J_iload_n (pc := 136) hc dX8_sends_136 rfl rfl ?_
      refine J_aload_n (pc := 137) hc dX8_sends_137 rfl rfl ?_
      refine J_iload_n (pc := 138) hc dX8_sends_138 rfl rfl ?_
      refine J_callVi (pc := 139) hc clX8 (As := [((0, .int x1) : TV)]) (KX8_wrongIn x0 x1) dX8_sends_139 moX8_wrongIn rfl tw1544 tw1546 twp86 tw9 tw1547 rfl (Nat.le_of_ble_eq_true rfl) (Nat.le_of_ble_eq_true rfl) (Nat.le_of_ble_eq_true rfl) (Nat.le_of_ble_eq_true rfl) (Nat.le_of_ble_eq_true rfl) rfl (fun v2 => ?_)
      refine J_if_ne (pc := 142) (tgt := 149) hc dX8_sends_142 (by decide) ?_ ?_
      · refine J_iconst (pc := 149) (v := 3) hc dX8_sends_149 (by decide) ?_
        refine J_sub (l' := [none, none, none, none]) (show subL _ _ from trivial) ?_
        exact jX8_sends_L150 hc he 3 x1 v1
      · refine J_iconst (pc := 145) (v := 0) hc dX8_sends_145 (by decide) ?_
        refine J_goto (pc := 146) (tgt := 150) hc dX8_sends_146 (by decide) ?_
        refine J_sub (l' := [none, none, none, none]) (show subL _ _ from trivial) ?_
        exact jX8_sends_L150 hc he 0 x1 v1
    · refine J_aload_n (pc := 109) hc dX8_sends_109 rfl rfl ?_
      refine J_getA (pc := 110) hc clX8 (k := 20) (kd := 11) (Nat.le_of_ble_eq_true rfl) rfl (Nat.le_of_ble_eq_true rfl) (Nat.le_of_ble_eq_true rfl) tw1182 rfl dX8_sends_110 (fun v3 => ?_)
      refine J_bipush (pc := 113) (v := 40) hc dX8_sends_113 (by decide) ?_
      refine J_iload_n (pc := 115) hc dX8_sends_115 rfl rfl ?_
      refine J_imul (pc := 116) hc dX8_sends_116 ?_
      refine J_iload_n (pc := 117) hc dX8_sends_117 rfl rfl ?_
      refine J_iadd (pc := 118) hc dX8_sends_118 ?_
      refine J_aload_n (pc := 119) hc dX8_sends_119 rfl rfl ?_
      refine J_getA (pc := 120) hc clX8 (k := 15) (kd := 11) (Nat.le_of_ble_eq_true rfl) rfl (Nat.le_of_ble_eq_true rfl) (Nat.le_of_ble_eq_true rfl) tw1177 rfl dX8_sends_120 (fun v4 => ?_)
      refine J_iload_n (pc := 123) hc dX8_sends_123 rfl rfl ?_
      refine J_iald (pc := 124) hc dX8_sends_124 (fun v5 => ?_)
      refine J_iast (pc := 125) hc dX8_sends_125 ?_
      refine J_iinc (pc := 126) (v := x3 + 1) (l' := [some ((8, .ref x0) : TV), some ((0, .int x1) : TV), none, some ((0, .int (x3 + 1)) : TV)]) hc dX8_sends_126 rfl rfl (by decide) rfl rfl ?_
      refine J_goto (pc := 129) (tgt := 103) hc dX8_sends_129 (by decide) ?_
      refine J_sub (l' := [some ((8, .ref x0) : TV), some ((0, .int x1) : TV), none, some ((0, .int (x3 + 1)) : TV)]) ⟨rfl, ⟨rfl, ⟨rfl, trivial⟩⟩⟩ ?_
      exact ih x0 x1 (x3 + 1)
set_option maxRecDepth 100000 in
set_option maxHeartbeats 4000000 in
theorem jX8_sends {κ : Cx} {fin : Int32 → Mm → Prop} (hc : Jc κ RX8 cX8_sends 4 6 0 0 135) (he : Ed κ cX8_sends 0 0 wI .ireturn fin) (x0 : Nat) (x1 : Int32) : Jg κ (wM κ) 4 fin 0 0 0 [some ((8, .ref x0) : TV), some ((0, .int x1) : TV), none, none] [] (fX8_sends x0 x1) := by
  unfold fX8_sends
  refine J_aload_n (pc := 0) hc dX8_sends_0 rfl rfl ?_
  refine J_getA (pc := 1) hc clX8 (k := 1) (kd := 11) (Nat.le_of_ble_eq_true rfl) rfl (Nat.le_of_ble_eq_true rfl) (Nat.le_of_ble_eq_true rfl) tw1163 rfl dX8_sends_1 (fun v6 => ?_)
  refine J_bipush (pc := 4) (v := 6) hc dX8_sends_4 (by decide) ?_
  refine J_iald (pc := 6) hc dX8_sends_6 (fun v7 => ?_)
  refine J_aload_n (pc := 7) hc dX8_sends_7 rfl rfl ?_
  refine J_iload_n (pc := 8) hc dX8_sends_8 rfl rfl ?_
  refine J_callVi (pc := 9) hc clX8 (As := [((0, .int x1) : TV)]) (KX8_sentBits x0 x1) dX8_sends_9 moX8_sentBits rfl tw1398 tw1400 twp67 tw9 tw1401 rfl (Nat.le_of_ble_eq_true rfl) (Nat.le_of_ble_eq_true rfl) (Nat.le_of_ble_eq_true rfl) (Nat.le_of_ble_eq_true rfl) (Nat.le_of_ble_eq_true rfl) rfl (fun v8 => ?_)
  refine J_iadd (pc := 12) hc dX8_sends_12 ?_
  refine J_nmi (fun v9 => ?_)
  refine J_istore_n (pc := 13) (l' := [some ((8, .ref x0) : TV), some ((0, .int x1) : TV), some ((0, .int v9) : TV), none]) hc dX8_sends_13 rfl (by decide) rfl rfl ?_
  refine J_aload_n (pc := 14) hc dX8_sends_14 rfl rfl ?_
  refine J_getA (pc := 15) hc clX8 (k := 23) (kd := 11) (Nat.le_of_ble_eq_true rfl) rfl (Nat.le_of_ble_eq_true rfl) (Nat.le_of_ble_eq_true rfl) tw1185 rfl dX8_sends_15 (fun v10 => ?_)
  refine J_iload_n (pc := 18) hc dX8_sends_18 rfl rfl ?_
  refine J_dup2 (pc := 19) hc dX8_sends_19 rfl rfl ?_
  refine J_iald (pc := 20) hc dX8_sends_20 (fun v11 => ?_)
  refine J_iload_n (pc := 21) hc dX8_sends_21 rfl rfl ?_
  refine J_iadd (pc := 22) hc dX8_sends_22 ?_
  refine J_iast (pc := 23) hc dX8_sends_23 ?_
  refine J_aload_n (pc := 24) hc dX8_sends_24 rfl rfl ?_
  refine J_dup (pc := 25) hc dX8_sends_25 rfl ?_
  refine J_getI (pc := 26) hc clX8 (k := 26) (Nat.le_of_ble_eq_true rfl) rfl tw1188 rfl dX8_sends_26 (fun v12 => ?_)
  refine J_iload_n (pc := 29) hc dX8_sends_29 rfl rfl ?_
  refine J_iadd (pc := 30) hc dX8_sends_30 ?_
  refine J_putI (pc := 31) hc clX8 (k := 26) (Nat.le_of_ble_eq_true rfl) rfl rfl tw1188 rfl rfl dX8_sends_31 ?_
  refine J_aload_n (pc := 34) hc dX8_sends_34 rfl rfl ?_
  refine J_dup (pc := 35) hc dX8_sends_35 rfl ?_
  refine J_getI (pc := 36) hc clX8 (k := 27) (Nat.le_of_ble_eq_true rfl) rfl tw1189 rfl dX8_sends_36 (fun v13 => ?_)
  refine J_iconst (pc := 39) (v := 1) hc dX8_sends_39 (by decide) ?_
  refine J_iadd (pc := 40) hc dX8_sends_40 ?_
  refine J_putI (pc := 41) hc clX8 (k := 27) (Nat.le_of_ble_eq_true rfl) rfl rfl tw1189 rfl rfl dX8_sends_41 ?_
  refine J_aload_n (pc := 44) hc dX8_sends_44 rfl rfl ?_
  refine J_getA (pc := 45) hc clX8 (k := 22) (kd := 11) (Nat.le_of_ble_eq_true rfl) rfl (Nat.le_of_ble_eq_true rfl) (Nat.le_of_ble_eq_true rfl) tw1184 rfl dX8_sends_45 (fun v14 => ?_)
  refine J_iload_n (pc := 48) hc dX8_sends_48 rfl rfl ?_
  refine J_dup2 (pc := 49) hc dX8_sends_49 rfl rfl ?_
  refine J_iald (pc := 50) hc dX8_sends_50 (fun v15 => ?_)
  refine J_iconst (pc := 51) (v := 1) hc dX8_sends_51 (by decide) ?_
  refine J_iadd (pc := 52) hc dX8_sends_52 ?_
  refine J_iast (pc := 53) hc dX8_sends_53 ?_
  refine J_aload_n (pc := 54) hc dX8_sends_54 rfl rfl ?_
  refine J_getA (pc := 55) hc clX8 (k := 22) (kd := 11) (Nat.le_of_ble_eq_true rfl) rfl (Nat.le_of_ble_eq_true rfl) (Nat.le_of_ble_eq_true rfl) tw1184 rfl dX8_sends_55 (fun v16 => ?_)
  refine J_iload_n (pc := 58) hc dX8_sends_58 rfl rfl ?_
  refine J_iald (pc := 59) hc dX8_sends_59 (fun v17 => ?_)
  refine J_aload_n (pc := 60) hc dX8_sends_60 rfl rfl ?_
  refine J_getA (pc := 61) hc clX8 (k := 25) (kd := 11) (Nat.le_of_ble_eq_true rfl) rfl (Nat.le_of_ble_eq_true rfl) (Nat.le_of_ble_eq_true rfl) tw1187 rfl dX8_sends_61 (fun v18 => ?_)
  refine J_iload_n (pc := 64) hc dX8_sends_64 rfl rfl ?_
  refine J_iald (pc := 65) hc dX8_sends_65 (fun v19 => ?_)
  refine J_icmp_gt (pc := 66) (tgt := 81) hc dX8_sends_66 (by decide) ?_ ?_
  · refine J_aload_n (pc := 81) hc dX8_sends_81 rfl rfl ?_
    refine J_iload_n (pc := 82) hc dX8_sends_82 rfl rfl ?_
    refine J_callVi (pc := 83) hc clX8 (As := [((0, .int x1) : TV)]) (KX8_isRead x0 x1) dX8_sends_83 moX8_isRead rfl tw1540 tw1542 twp85 tw9 tw1543 rfl (Nat.le_of_ble_eq_true rfl) (Nat.le_of_ble_eq_true rfl) (Nat.le_of_ble_eq_true rfl) (Nat.le_of_ble_eq_true rfl) (Nat.le_of_ble_eq_true rfl) rfl (fun v20 => ?_)
    refine J_if_ne (pc := 86) (tgt := 101) hc dX8_sends_86 (by decide) ?_ ?_
    · refine J_iconst (pc := 101) (v := 0) hc dX8_sends_101 (by decide) ?_
      refine J_istore_n (pc := 102) (l' := [some ((8, .ref x0) : TV), some ((0, .int x1) : TV), some ((0, .int v9) : TV), some ((0, .int 0) : TV)]) hc dX8_sends_102 rfl (by decide) rfl rfl ?_
      refine J_sub (l' := [some ((8, .ref x0) : TV), some ((0, .int x1) : TV), none, some ((0, .int 0) : TV)]) ⟨rfl, ⟨rfl, ⟨rfl, trivial⟩⟩⟩ ?_
      exact jX8_sends_L103 hc he fu x0 x1 0
    · refine J_aload_n (pc := 89) hc dX8_sends_89 rfl rfl ?_
      refine J_dup (pc := 90) hc dX8_sends_90 rfl ?_
      refine J_getI (pc := 91) hc clX8 (k := 30) (Nat.le_of_ble_eq_true rfl) rfl tw1192 rfl dX8_sends_91 (fun v21 => ?_)
      refine J_iconst (pc := 94) (v := 1) hc dX8_sends_94 (by decide) ?_
      refine J_iadd (pc := 95) hc dX8_sends_95 ?_
      refine J_putI (pc := 96) hc clX8 (k := 30) (Nat.le_of_ble_eq_true rfl) rfl rfl tw1192 rfl rfl dX8_sends_96 ?_
      refine J_iconst (pc := 99) (v := 2) hc dX8_sends_99 (by decide) ?_
      exact J_iret (pc := 100) he dX8_sends_100
  · refine J_aload_n (pc := 69) hc dX8_sends_69 rfl rfl ?_
    refine J_dup (pc := 70) hc dX8_sends_70 rfl ?_
    refine J_getI (pc := 71) hc clX8 (k := 29) (Nat.le_of_ble_eq_true rfl) rfl tw1191 rfl dX8_sends_71 (fun v22 => ?_)
    refine J_iconst (pc := 74) (v := 1) hc dX8_sends_74 (by decide) ?_
    refine J_iadd (pc := 75) hc dX8_sends_75 ?_
    refine J_putI (pc := 76) hc clX8 (k := 29) (Nat.le_of_ble_eq_true rfl) rfl rfl tw1191 rfl rfl dX8_sends_76 ?_
    refine J_iconst (pc := 79) (v := 1) hc dX8_sends_79 (by decide) ?_
    exact J_iret (pc := 80) he dX8_sends_80
theorem moX8_sends : MOk yX8_sends 1 := ⟨by decide +kernel, by decide +kernel, by decide +kernel⟩
set_option maxRecDepth 100000 in
set_option maxHeartbeats 4000000 in
theorem KX8_sends (x0 : Nat) (x1 : Int32) : Ct wI yX8_sends cX8_sends 4 (some .int) 6 0 0 135 [((8, .ref x0) : TV), ((0, .int x1) : TV)] (fX8_sends x0 x1) :=
  Ct_I (j := 2) (by decide +kernel) rfl rfl (Nat.le_of_ble_eq_true rfl) (fun κ fin hc he => jX8_sends hc he x0 x1)
set_option maxRecDepth 100000 in
set_option maxHeartbeats 4000000 in
theorem jX8_sendsAll_L157 {κ : Cx} {fin : Unit → Mm → Prop} (hc : Jc κ RX8 cX8_sendsAll 3 7 0 0 158) (he : Ed κ cX8_sendsAll 0 0 wV .return_ fin) {k69 : Nat → Int32 → Mm → Option (Unit × Mm)} (hk69 : ∀ (x0 : Nat) (x1 : Int32), Jg κ (wM κ) 3 fin 0 0 69 [some ((8, .ref x0) : TV), some ((0, .int x1) : TV), none] [] (k69 x0 x1)) (x0 : Nat) (x1 : Int32) : Jg κ (wM κ) 3 fin 0 0 157 [some ((8, .ref x0) : TV), some ((0, .int x1) : TV), none] [] (fX8_sendsAll_L157 k69 x0 x1) := by
  unfold fX8_sendsAll_L157
  refine J_iinc (pc := 157) (v := x1 + 1) (l' := [some ((8, .ref x0) : TV), some ((0, .int (x1 + 1)) : TV), none]) hc dX8_sendsAll_157 rfl rfl (by decide) rfl rfl ?_
  refine J_goto (pc := 160) (tgt := 69) hc dX8_sendsAll_160 (by decide) ?_
  refine J_sub (l' := [some ((8, .ref x0) : TV), some ((0, .int (x1 + 1)) : TV), none]) ⟨rfl, ⟨rfl, trivial⟩⟩ ?_
  exact hk69 x0 (x1 + 1)
set_option maxRecDepth 100000 in
set_option maxHeartbeats 4000000 in
theorem jX8_sendsAll_L147 {κ : Cx} {fin : Unit → Mm → Prop} (hc : Jc κ RX8 cX8_sendsAll 3 7 0 0 158) (he : Ed κ cX8_sendsAll 0 0 wV .return_ fin) {k69 : Nat → Int32 → Mm → Option (Unit × Mm)} (hk69 : ∀ (x0 : Nat) (x1 : Int32), Jg κ (wM κ) 3 fin 0 0 69 [some ((8, .ref x0) : TV), some ((0, .int x1) : TV), none] [] (k69 x0 x1)) (x0 : Nat) (x1 : Int32) (x2 : Int32) : Jg κ (wM κ) 3 fin 0 0 147 [some ((8, .ref x0) : TV), some ((0, .int x1) : TV), some ((0, .int x2) : TV)] [] (fX8_sendsAll_L147 k69 x0 x1 x2) := by
  unfold fX8_sendsAll_L147
  refine J_iload_n (pc := 147) hc dX8_sendsAll_147 rfl rfl ?_
  refine J_if_le (pc := 148) (tgt := 157) hc dX8_sendsAll_148 (by decide) ?_ ?_
  · refine J_sub (l' := [some ((8, .ref x0) : TV), some ((0, .int x1) : TV), none]) ⟨rfl, ⟨rfl, trivial⟩⟩ ?_
    exact jX8_sendsAll_L157 hc he hk69 x0 x1
  · refine J_aload_n (pc := 151) hc dX8_sendsAll_151 rfl rfl ?_
    refine J_iload_n (pc := 152) hc dX8_sendsAll_152 rfl rfl ?_
    refine J_iload_n (pc := 153) hc dX8_sendsAll_153 rfl rfl ?_
    refine J_callVv (pc := 154) hc clX8 (As := [((0, .int x1) : TV), ((0, .int x2) : TV)]) (KX8_fills x0 x1 x2) dX8_sendsAll_154 moX8_fills rfl tw1548 tw1550 twp87 tw9 tw1551 rfl (Nat.le_of_ble_eq_true rfl) (Nat.le_of_ble_eq_true rfl) (Nat.le_of_ble_eq_true rfl) (Nat.le_of_ble_eq_true rfl) (Nat.le_of_ble_eq_true rfl) rfl (fun _ => ?_)
    refine J_sub (l' := [some ((8, .ref x0) : TV), some ((0, .int x1) : TV), none]) ⟨rfl, ⟨rfl, trivial⟩⟩ ?_
    exact jX8_sendsAll_L157 hc he hk69 x0 x1
set_option maxRecDepth 100000 in
set_option maxHeartbeats 4000000 in
theorem jX8_sendsAll_L69 {κ : Cx} {fin : Unit → Mm → Prop} (hc : Jc κ RX8 cX8_sendsAll 3 7 0 0 158) (he : Ed κ cX8_sendsAll 0 0 wV .return_ fin) : ∀ (n : Nat) (x0 : Nat) (x1 : Int32), Jg κ (wM κ) 3 fin 0 0 69 [some ((8, .ref x0) : TV), some ((0, .int x1) : TV), none] [] (fX8_sendsAll_L69 n x0 x1) := by
  intro n
  induction n with
  | zero => intro x0 x1; exact J_fail
  | succ n ih =>
    intro x0 x1
    unfold fX8_sendsAll_L69
    refine J_iload_n (pc := 69) hc dX8_sendsAll_69 rfl rfl ?_
    refine J_aload_n (pc := 70) hc dX8_sendsAll_70 rfl rfl ?_
    refine J_getA (pc := 71) hc clX8 (k := 1) (kd := 11) (Nat.le_of_ble_eq_true rfl) rfl (Nat.le_of_ble_eq_true rfl) (Nat.le_of_ble_eq_true rfl) tw1163 rfl dX8_sendsAll_71 (fun v1 => ?_)
    refine J_iconst (pc := 74) (v := 1) hc dX8_sendsAll_74 (by decide) ?_
    refine J_iald (pc := 75) hc dX8_sendsAll_75 (fun v2 => ?_)
    refine J_icmp_ge (pc := 76) (tgt := 163) hc dX8_sendsAll_76 (by decide) ?_ ?_
    · exact J_vret (pc := 163) he dX8_sendsAll_163
    · refine J_aload_n (pc := 79) hc dX8_sendsAll_79 rfl rfl ?_
      refine J_iload_n (pc := 80) hc dX8_sendsAll_80 rfl rfl ?_
      refine J_callVi (pc := 81) hc clX8 (As := [((0, .int x1) : TV)]) (KX8_sends x0 x1) dX8_sendsAll_81 moX8_sends rfl tw1536 tw1538 twp84 tw9 tw1539 rfl (Nat.le_of_ble_eq_true rfl) (Nat.le_of_ble_eq_true rfl) (Nat.le_of_ble_eq_true rfl) (Nat.le_of_ble_eq_true rfl) (Nat.le_of_ble_eq_true rfl) rfl (fun v3 => ?_)
      refine J_istore_n (pc := 84) (l' := [some ((8, .ref x0) : TV), some ((0, .int x1) : TV), some ((0, .int v3) : TV)]) hc dX8_sendsAll_84 rfl (by decide) rfl rfl ?_
      refine J_iload_n (pc := 85) hc dX8_sendsAll_85 rfl rfl ?_
      refine J_if_le (pc := 86) (tgt := 147) hc dX8_sendsAll_86 (by decide) ?_ ?_
      · refine J_sub (l' := [some ((8, .ref x0) : TV), some ((0, .int x1) : TV), some ((0, .int v3) : TV)]) ⟨rfl, ⟨rfl, ⟨rfl, trivial⟩⟩⟩ ?_
        exact jX8_sendsAll_L147 hc he ih x0 x1 v3
      · refine J_aload_n (pc := 89) hc dX8_sendsAll_89 rfl rfl ?_
        refine J_getI (pc := 90) hc clX8 (k := 28) (Nat.le_of_ble_eq_true rfl) rfl tw1190 rfl dX8_sendsAll_90 (fun v4 => ?_)
        refine J_aload_n (pc := 93) hc dX8_sendsAll_93 rfl rfl ?_
        refine J_getA (pc := 94) hc clX8 (k := 1) (kd := 11) (Nat.le_of_ble_eq_true rfl) rfl (Nat.le_of_ble_eq_true rfl) (Nat.le_of_ble_eq_true rfl) tw1163 rfl dX8_sendsAll_94 (fun v5 => ?_)
        refine J_iconst (pc := 97) (v := 5) hc dX8_sendsAll_97 (by decide) ?_
        refine J_iald (pc := 98) hc dX8_sendsAll_98 (fun v6 => ?_)
        refine J_icmp_ge (pc := 99) (tgt := 147) hc dX8_sendsAll_99 (by decide) ?_ ?_
        · refine J_sub (l' := [some ((8, .ref x0) : TV), some ((0, .int x1) : TV), some ((0, .int v3) : TV)]) ⟨rfl, ⟨rfl, ⟨rfl, trivial⟩⟩⟩ ?_
          exact jX8_sendsAll_L147 hc he ih x0 x1 v3
        · refine J_aload_n (pc := 102) hc dX8_sendsAll_102 rfl rfl ?_
          refine J_dup (pc := 103) hc dX8_sendsAll_103 rfl ?_
          refine J_getI (pc := 104) hc clX8 (k := 28) (Nat.le_of_ble_eq_true rfl) rfl tw1190 rfl dX8_sendsAll_104 (fun v7 => ?_)
          refine J_iconst (pc := 107) (v := 1) hc dX8_sendsAll_107 (by decide) ?_
          refine J_iadd (pc := 108) hc dX8_sendsAll_108 ?_
          refine J_putI (pc := 109) hc clX8 (k := 28) (Nat.le_of_ble_eq_true rfl) rfl rfl tw1190 rfl rfl dX8_sendsAll_109 ?_
          refine J_aload_n (pc := 112) hc dX8_sendsAll_112 rfl rfl ?_
          refine J_getA (pc := 113) hc clX8 (k := 24) (kd := 11) (Nat.le_of_ble_eq_true rfl) rfl (Nat.le_of_ble_eq_true rfl) (Nat.le_of_ble_eq_true rfl) tw1186 rfl dX8_sendsAll_113 (fun v8 => ?_)
          refine J_iload_n (pc := 116) hc dX8_sendsAll_116 rfl rfl ?_
          refine J_dup2 (pc := 117) hc dX8_sendsAll_117 rfl rfl ?_
          refine J_iald (pc := 118) hc dX8_sendsAll_118 (fun v9 => ?_)
          refine J_iconst (pc := 119) (v := 1) hc dX8_sendsAll_119 (by decide) ?_
          refine J_iadd (pc := 120) hc dX8_sendsAll_120 ?_
          refine J_iast (pc := 121) hc dX8_sendsAll_121 ?_
          refine J_aload_n (pc := 122) hc dX8_sendsAll_122 rfl rfl ?_
          refine J_dup (pc := 123) hc dX8_sendsAll_123 rfl ?_
          refine J_getI (pc := 124) hc clX8 (k := 26) (Nat.le_of_ble_eq_true rfl) rfl tw1188 rfl dX8_sendsAll_124 (fun v10 => ?_)
          refine J_aload_n (pc := 127) hc dX8_sendsAll_127 rfl rfl ?_
          refine J_getA (pc := 128) hc clX8 (k := 1) (kd := 11) (Nat.le_of_ble_eq_true rfl) rfl (Nat.le_of_ble_eq_true rfl) (Nat.le_of_ble_eq_true rfl) tw1163 rfl dX8_sendsAll_128 (fun v11 => ?_)
          refine J_bipush (pc := 131) (v := 7) hc dX8_sendsAll_131 (by decide) ?_
          refine J_iald (pc := 133) hc dX8_sendsAll_133 (fun v12 => ?_)
          refine J_iadd (pc := 134) hc dX8_sendsAll_134 ?_
          refine J_putI (pc := 135) hc clX8 (k := 26) (Nat.le_of_ble_eq_true rfl) rfl rfl tw1188 rfl rfl dX8_sendsAll_135 ?_
          refine J_aload_n (pc := 138) hc dX8_sendsAll_138 rfl rfl ?_
          refine J_iload_n (pc := 139) hc dX8_sendsAll_139 rfl rfl ?_
          refine J_callVi (pc := 140) hc clX8 (As := [((0, .int x1) : TV)]) (KX8_markUpTo x0 x1) dX8_sendsAll_140 moX8_markUpTo rfl tw1402 tw1404 twp68 tw9 tw1405 rfl (Nat.le_of_ble_eq_true rfl) (Nat.le_of_ble_eq_true rfl) (Nat.le_of_ble_eq_true rfl) (Nat.le_of_ble_eq_true rfl) (Nat.le_of_ble_eq_true rfl) rfl (fun v13 => ?_)
          refine J_istore_n (pc := 143) (l' := [some ((8, .ref x0) : TV), some ((0, .int v13) : TV), some ((0, .int v3) : TV)]) hc dX8_sendsAll_143 rfl (by decide) rfl rfl ?_
          refine J_goto (pc := 144) (tgt := 69) hc dX8_sendsAll_144 (by decide) ?_
          refine J_sub (l' := [some ((8, .ref x0) : TV), some ((0, .int v13) : TV), none]) ⟨rfl, ⟨rfl, trivial⟩⟩ ?_
          exact ih x0 v13
set_option maxRecDepth 100000 in
set_option maxHeartbeats 4000000 in
theorem jX8_sendsAll_L2 {κ : Cx} {fin : Unit → Mm → Prop} (hc : Jc κ RX8 cX8_sendsAll 3 7 0 0 158) (he : Ed κ cX8_sendsAll 0 0 wV .return_ fin) : ∀ (n : Nat) (x0 : Nat) (x1 : Int32), Jg κ (wM κ) 3 fin 0 0 2 [some ((8, .ref x0) : TV), some ((0, .int x1) : TV), none] [] (fX8_sendsAll_L2 n x0 x1) := by
  intro n
  induction n with
  | zero => intro x0 x1; exact J_fail
  | succ n ih =>
    intro x0 x1
    unfold fX8_sendsAll_L2
    refine J_iload_n (pc := 2) hc dX8_sendsAll_2 rfl rfl ?_
    refine J_bipush (pc := 3) (v := 20) hc dX8_sendsAll_3 (by decide) ?_
    refine J_icmp_ge (pc := 5) (tgt := 42) hc dX8_sendsAll_5 (by decide) ?_ ?_
    · refine J_aload_n (pc := 42) hc dX8_sendsAll_42 rfl rfl ?_
      refine J_iconst (pc := 43) (v := 0) hc dX8_sendsAll_43 (by decide) ?_
      refine J_putI (pc := 44) hc clX8 (k := 26) (Nat.le_of_ble_eq_true rfl) rfl rfl tw1188 rfl rfl dX8_sendsAll_44 ?_
      refine J_aload_n (pc := 47) hc dX8_sendsAll_47 rfl rfl ?_
      refine J_iconst (pc := 48) (v := 0) hc dX8_sendsAll_48 (by decide) ?_
      refine J_putI (pc := 49) hc clX8 (k := 27) (Nat.le_of_ble_eq_true rfl) rfl rfl tw1189 rfl rfl dX8_sendsAll_49 ?_
      refine J_aload_n (pc := 52) hc dX8_sendsAll_52 rfl rfl ?_
      refine J_iconst (pc := 53) (v := 0) hc dX8_sendsAll_53 (by decide) ?_
      refine J_putI (pc := 54) hc clX8 (k := 28) (Nat.le_of_ble_eq_true rfl) rfl rfl tw1190 rfl rfl dX8_sendsAll_54 ?_
      refine J_aload_n (pc := 57) hc dX8_sendsAll_57 rfl rfl ?_
      refine J_iconst (pc := 58) (v := 0) hc dX8_sendsAll_58 (by decide) ?_
      refine J_putI (pc := 59) hc clX8 (k := 29) (Nat.le_of_ble_eq_true rfl) rfl rfl tw1191 rfl rfl dX8_sendsAll_59 ?_
      refine J_aload_n (pc := 62) hc dX8_sendsAll_62 rfl rfl ?_
      refine J_iconst (pc := 63) (v := 0) hc dX8_sendsAll_63 (by decide) ?_
      refine J_putI (pc := 64) hc clX8 (k := 30) (Nat.le_of_ble_eq_true rfl) rfl rfl tw1192 rfl rfl dX8_sendsAll_64 ?_
      refine J_iconst (pc := 67) (v := 0) hc dX8_sendsAll_67 (by decide) ?_
      refine J_istore_n (pc := 68) (l' := [some ((8, .ref x0) : TV), some ((0, .int 0) : TV), none]) hc dX8_sendsAll_68 rfl (by decide) rfl rfl ?_
      refine J_sub (l' := [some ((8, .ref x0) : TV), some ((0, .int 0) : TV), none]) ⟨rfl, ⟨rfl, trivial⟩⟩ ?_
      exact jX8_sendsAll_L69 hc he fu x0 0
    · refine J_aload_n (pc := 8) hc dX8_sendsAll_8 rfl rfl ?_
      refine J_getA (pc := 9) hc clX8 (k := 21) (kd := 11) (Nat.le_of_ble_eq_true rfl) rfl (Nat.le_of_ble_eq_true rfl) (Nat.le_of_ble_eq_true rfl) tw1183 rfl dX8_sendsAll_9 (fun v14 => ?_)
      refine J_iload_n (pc := 12) hc dX8_sendsAll_12 rfl rfl ?_
      refine J_iconst (pc := 13) (v := 0) hc dX8_sendsAll_13 (by decide) ?_
      refine J_iast (pc := 14) hc dX8_sendsAll_14 ?_
      refine J_aload_n (pc := 15) hc dX8_sendsAll_15 rfl rfl ?_
      refine J_getA (pc := 16) hc clX8 (k := 22) (kd := 11) (Nat.le_of_ble_eq_true rfl) rfl (Nat.le_of_ble_eq_true rfl) (Nat.le_of_ble_eq_true rfl) tw1184 rfl dX8_sendsAll_16 (fun v15 => ?_)
      refine J_iload_n (pc := 19) hc dX8_sendsAll_19 rfl rfl ?_
      refine J_iconst (pc := 20) (v := 0) hc dX8_sendsAll_20 (by decide) ?_
      refine J_iast (pc := 21) hc dX8_sendsAll_21 ?_
      refine J_aload_n (pc := 22) hc dX8_sendsAll_22 rfl rfl ?_
      refine J_getA (pc := 23) hc clX8 (k := 23) (kd := 11) (Nat.le_of_ble_eq_true rfl) rfl (Nat.le_of_ble_eq_true rfl) (Nat.le_of_ble_eq_true rfl) tw1185 rfl dX8_sendsAll_23 (fun v16 => ?_)
      refine J_iload_n (pc := 26) hc dX8_sendsAll_26 rfl rfl ?_
      refine J_iconst (pc := 27) (v := 0) hc dX8_sendsAll_27 (by decide) ?_
      refine J_iast (pc := 28) hc dX8_sendsAll_28 ?_
      refine J_aload_n (pc := 29) hc dX8_sendsAll_29 rfl rfl ?_
      refine J_getA (pc := 30) hc clX8 (k := 24) (kd := 11) (Nat.le_of_ble_eq_true rfl) rfl (Nat.le_of_ble_eq_true rfl) (Nat.le_of_ble_eq_true rfl) tw1186 rfl dX8_sendsAll_30 (fun v17 => ?_)
      refine J_iload_n (pc := 33) hc dX8_sendsAll_33 rfl rfl ?_
      refine J_iconst (pc := 34) (v := 0) hc dX8_sendsAll_34 (by decide) ?_
      refine J_iast (pc := 35) hc dX8_sendsAll_35 ?_
      refine J_iinc (pc := 36) (v := x1 + 1) (l' := [some ((8, .ref x0) : TV), some ((0, .int (x1 + 1)) : TV), none]) hc dX8_sendsAll_36 rfl rfl (by decide) rfl rfl ?_
      refine J_goto (pc := 39) (tgt := 2) hc dX8_sendsAll_39 (by decide) ?_
      refine J_sub (l' := [some ((8, .ref x0) : TV), some ((0, .int (x1 + 1)) : TV), none]) ⟨rfl, ⟨rfl, trivial⟩⟩ ?_
      exact ih x0 (x1 + 1)
set_option maxRecDepth 100000 in
set_option maxHeartbeats 4000000 in
theorem jX8_sendsAll {κ : Cx} {fin : Unit → Mm → Prop} (hc : Jc κ RX8 cX8_sendsAll 3 7 0 0 158) (he : Ed κ cX8_sendsAll 0 0 wV .return_ fin) (x0 : Nat) : Jg κ (wM κ) 3 fin 0 0 0 [some ((8, .ref x0) : TV), none, none] [] (fX8_sendsAll x0) := by
  unfold fX8_sendsAll
  refine J_iconst (pc := 0) (v := 0) hc dX8_sendsAll_0 (by decide) ?_
  refine J_istore_n (pc := 1) (l' := [some ((8, .ref x0) : TV), some ((0, .int 0) : TV), none]) hc dX8_sendsAll_1 rfl (by decide) rfl rfl ?_
  refine J_sub (l' := [some ((8, .ref x0) : TV), some ((0, .int 0) : TV), none]) ⟨rfl, ⟨rfl, trivial⟩⟩ ?_
  exact jX8_sendsAll_L2 hc he fu x0 0
theorem moX8_sendsAll : MOk yX8_sendsAll 0 := ⟨by decide +kernel, by decide +kernel, by decide +kernel⟩
set_option maxRecDepth 100000 in
set_option maxHeartbeats 4000000 in
theorem KX8_sendsAll (x0 : Nat) : Ct wV yX8_sendsAll cX8_sendsAll 3 none 7 0 0 158 [((8, .ref x0) : TV)] (fX8_sendsAll x0) :=
  Ct_V (j := 2) (by decide +kernel) rfl rfl (Nat.le_of_ble_eq_true rfl) (fun κ fin hc he hin => jX8_sendsAll hc he x0)
set_option maxRecDepth 100000 in
set_option maxHeartbeats 4000000 in
theorem jX8_sendsPage {κ : Cx} {fin : Unit → Mm → Prop} (hc : Jc κ RX8 cX8_sendsPage 1 8 0 0 180) (he : Ed κ cX8_sendsPage 0 0 wV .return_ fin) (x0 : Nat) : Jg κ (wM κ) 1 fin 0 0 0 [some ((8, .ref x0) : TV)] [] (fX8_sendsPage x0) := by
  unfold fX8_sendsPage
  refine J_aload_n (pc := 0) hc dX8_sendsPage_0 rfl rfl ?_
  refine J_callVv (pc := 1) hc clX8 (As := []) (KX8_laysLosses x0) dX8_sendsPage_1 moX8_laysLosses rfl tw1528 tw1530 twp82 tw9 tw1531 rfl (Nat.le_of_ble_eq_true rfl) (Nat.le_of_ble_eq_true rfl) (Nat.le_of_ble_eq_true rfl) (Nat.le_of_ble_eq_true rfl) (Nat.le_of_ble_eq_true rfl) rfl (fun _ => ?_)
  refine J_aload_n (pc := 4) hc dX8_sendsPage_4 rfl rfl ?_
  refine J_callVv (pc := 5) hc clX8 (As := []) (KX8_sendsAll x0) dX8_sendsPage_5 moX8_sendsAll rfl tw1532 tw1534 twp83 tw9 tw1535 rfl (Nat.le_of_ble_eq_true rfl) (Nat.le_of_ble_eq_true rfl) (Nat.le_of_ble_eq_true rfl) (Nat.le_of_ble_eq_true rfl) (Nat.le_of_ble_eq_true rfl) rfl (fun _ => ?_)
  exact J_vret (pc := 8) he dX8_sendsPage_8
theorem moX8_sendsPage : MOk yX8_sendsPage 0 := ⟨by decide +kernel, by decide +kernel, by decide +kernel⟩
set_option maxRecDepth 100000 in
set_option maxHeartbeats 4000000 in
theorem KX8_sendsPage (x0 : Nat) : Ct wV yX8_sendsPage cX8_sendsPage 1 none 8 0 0 180 [((8, .ref x0) : TV)] (fX8_sendsPage x0) :=
  Ct_V (j := 0) (by decide +kernel) rfl rfl (Nat.le_of_ble_eq_true rfl) (fun κ fin hc he hin => jX8_sendsPage hc he x0)
set_option maxRecDepth 100000 in
set_option maxHeartbeats 4000000 in
theorem jX8_wrongDots_L4 {κ : Cx} {fin : Int32 → Mm → Prop} (hc : Jc κ RX8 cX8_wrongDots 3 2 0 0 44) (he : Ed κ cX8_wrongDots 0 0 wI .ireturn fin) : ∀ (n : Nat) (x0 : Nat) (x1 : Int32) (x2 : Int32), Jg κ (wM κ) 3 fin 0 0 4 [some ((8, .ref x0) : TV), some ((0, .int x1) : TV), some ((0, .int x2) : TV)] [] (fX8_wrongDots_L4 n x0 x1 x2) := by
  intro n
  induction n with
  | zero => intro x0 x1 x2; exact J_fail
  | succ n ih =>
    intro x0 x1 x2
    unfold fX8_wrongDots_L4
    refine J_iload_n (pc := 4) hc dX8_wrongDots_4 rfl rfl ?_
    refine J_aload_n (pc := 5) hc dX8_wrongDots_5 rfl rfl ?_
    refine J_getA (pc := 6) hc clX8 (k := 1) (kd := 11) (Nat.le_of_ble_eq_true rfl) rfl (Nat.le_of_ble_eq_true rfl) (Nat.le_of_ble_eq_true rfl) tw1163 rfl dX8_wrongDots_6 (fun v1 => ?_)
    refine J_iconst (pc := 9) (v := 1) hc dX8_wrongDots_9 (by decide) ?_
    refine J_iald (pc := 10) hc dX8_wrongDots_10 (fun v2 => ?_)
    refine J_icmp_ge (pc := 11) (tgt := 28) hc dX8_wrongDots_11 (by decide) ?_ ?_
    · refine J_iload_n (pc := 28) hc dX8_wrongDots_28 rfl rfl ?_
      exact J_iret (pc := 29) he dX8_wrongDots_29
    · refine J_iload_n (pc := 14) hc dX8_wrongDots_14 rfl rfl ?_
      refine J_aload_n (pc := 15) hc dX8_wrongDots_15 rfl rfl ?_
      refine J_iload_n (pc := 16) hc dX8_wrongDots_16 rfl rfl ?_
      refine J_callVi (pc := 17) hc clX8 (As := [((0, .int x2) : TV)]) (KX8_wrongIn x0 x2) dX8_wrongDots_17 moX8_wrongIn rfl tw1544 tw1546 twp86 tw9 tw1547 rfl (Nat.le_of_ble_eq_true rfl) (Nat.le_of_ble_eq_true rfl) (Nat.le_of_ble_eq_true rfl) (Nat.le_of_ble_eq_true rfl) (Nat.le_of_ble_eq_true rfl) rfl (fun v3 => ?_)
      refine J_iadd (pc := 20) hc dX8_wrongDots_20 ?_
      refine J_nmi (fun v4 => ?_)
      refine J_istore_n (pc := 21) (l' := [some ((8, .ref x0) : TV), some ((0, .int v4) : TV), some ((0, .int x2) : TV)]) hc dX8_wrongDots_21 rfl (by decide) rfl rfl ?_
      refine J_iinc (pc := 22) (v := x2 + 1) (l' := [some ((8, .ref x0) : TV), some ((0, .int v4) : TV), some ((0, .int (x2 + 1)) : TV)]) hc dX8_wrongDots_22 rfl rfl (by decide) rfl rfl ?_
      refine J_goto (pc := 25) (tgt := 4) hc dX8_wrongDots_25 (by decide) ?_
      refine J_sub (l' := [some ((8, .ref x0) : TV), some ((0, .int v4) : TV), some ((0, .int (x2 + 1)) : TV)]) ⟨rfl, ⟨rfl, ⟨rfl, trivial⟩⟩⟩ ?_
      exact ih x0 v4 (x2 + 1)
set_option maxRecDepth 100000 in
set_option maxHeartbeats 4000000 in
theorem jX8_wrongDots {κ : Cx} {fin : Int32 → Mm → Prop} (hc : Jc κ RX8 cX8_wrongDots 3 2 0 0 44) (he : Ed κ cX8_wrongDots 0 0 wI .ireturn fin) (x0 : Nat) : Jg κ (wM κ) 3 fin 0 0 0 [some ((8, .ref x0) : TV), none, none] [] (fX8_wrongDots x0) := by
  unfold fX8_wrongDots
  refine J_iconst (pc := 0) (v := 0) hc dX8_wrongDots_0 (by decide) ?_
  refine J_istore_n (pc := 1) (l' := [some ((8, .ref x0) : TV), some ((0, .int 0) : TV), none]) hc dX8_wrongDots_1 rfl (by decide) rfl rfl ?_
  refine J_iconst (pc := 2) (v := 0) hc dX8_wrongDots_2 (by decide) ?_
  refine J_istore_n (pc := 3) (l' := [some ((8, .ref x0) : TV), some ((0, .int 0) : TV), some ((0, .int 0) : TV)]) hc dX8_wrongDots_3 rfl (by decide) rfl rfl ?_
  refine J_sub (l' := [some ((8, .ref x0) : TV), some ((0, .int 0) : TV), some ((0, .int 0) : TV)]) ⟨rfl, ⟨rfl, ⟨rfl, trivial⟩⟩⟩ ?_
  exact jX8_wrongDots_L4 hc he fu x0 0 0
theorem moX8_wrongDots : MOk yX8_wrongDots 0 := ⟨by decide +kernel, by decide +kernel, by decide +kernel⟩
set_option maxRecDepth 100000 in
set_option maxHeartbeats 4000000 in
theorem KX8_wrongDots (x0 : Nat) : Ct wI yX8_wrongDots cX8_wrongDots 3 (some .int) 2 0 0 44 [((8, .ref x0) : TV)] (fX8_wrongDots x0) :=
  Ct_I (j := 2) (by decide +kernel) rfl rfl (Nat.le_of_ble_eq_true rfl) (fun κ fin hc he => jX8_wrongDots hc he x0)
set_option maxRecDepth 100000 in
set_option maxHeartbeats 4000000 in
theorem jX8_statesOf_L30 {κ : Cx} {fin : Int32 → Mm → Prop} (hc : Jc κ RX8 cX8_statesOf 4 0 0 0 0) (he : Ed κ cX8_statesOf 0 0 wI .ireturn fin) {k4 : Nat → Int32 → Int32 → Int32 → Mm → Option (Int32 × Mm)} (hk4 : ∀ (x0 : Nat) (x1 : Int32) (x2 : Int32) (x3 : Int32), Jg κ (wM κ) 4 fin 0 0 4 [some ((8, .ref x0) : TV), some ((0, .int x1) : TV), some ((0, .int x2) : TV), some ((0, .int x3) : TV)] [] (k4 x0 x1 x2 x3)) (x0 : Nat) (x1 : Int32) (x3 : Int32) (s0 : Int32) (s1 : Int32) : Jg κ (wM κ) 4 fin 0 0 30 [some ((8, .ref x0) : TV), some ((0, .int x1) : TV), none, some ((0, .int x3) : TV)] [((0, .int s0) : TV), ((0, .int s1) : TV)] (fX8_statesOf_L30 k4 x0 x1 x3 s0 s1) := by
  unfold fX8_statesOf_L30
  refine J_iadd (pc := 30) hc dX8_statesOf_30 ?_
  refine J_nmi (fun v1 => ?_)
  refine J_istore_n (pc := 31) (l' := [some ((8, .ref x0) : TV), some ((0, .int x1) : TV), some ((0, .int v1) : TV), some ((0, .int x3) : TV)]) hc dX8_statesOf_31 rfl (by decide) rfl rfl ?_
  refine J_iinc (pc := 32) (v := x3 + 1) (l' := [some ((8, .ref x0) : TV), some ((0, .int x1) : TV), some ((0, .int v1) : TV), some ((0, .int (x3 + 1)) : TV)]) hc dX8_statesOf_32 rfl rfl (by decide) rfl rfl ?_
  refine J_goto (pc := 35) (tgt := 4) hc dX8_statesOf_35 (by decide) ?_
  refine J_sub (l' := [some ((8, .ref x0) : TV), some ((0, .int x1) : TV), some ((0, .int v1) : TV), some ((0, .int (x3 + 1)) : TV)]) ⟨rfl, ⟨rfl, ⟨rfl, ⟨rfl, trivial⟩⟩⟩⟩ ?_
  exact hk4 x0 x1 v1 (x3 + 1)
set_option maxRecDepth 100000 in
set_option maxHeartbeats 4000000 in
theorem jX8_statesOf_L4 {κ : Cx} {fin : Int32 → Mm → Prop} (hc : Jc κ RX8 cX8_statesOf 4 0 0 0 0) (he : Ed κ cX8_statesOf 0 0 wI .ireturn fin) : ∀ (n : Nat) (x0 : Nat) (x1 : Int32) (x2 : Int32) (x3 : Int32), Jg κ (wM κ) 4 fin 0 0 4 [some ((8, .ref x0) : TV), some ((0, .int x1) : TV), some ((0, .int x2) : TV), some ((0, .int x3) : TV)] [] (fX8_statesOf_L4 n x0 x1 x2 x3) := by
  intro n
  induction n with
  | zero => intro x0 x1 x2 x3; exact J_fail
  | succ n ih =>
    intro x0 x1 x2 x3
    unfold fX8_statesOf_L4
    refine J_iload_n (pc := 4) hc dX8_statesOf_4 rfl rfl ?_
    refine J_aload_n (pc := 5) hc dX8_statesOf_5 rfl rfl ?_
    refine J_getA (pc := 6) hc clX8 (k := 1) (kd := 11) (Nat.le_of_ble_eq_true rfl) rfl (Nat.le_of_ble_eq_true rfl) (Nat.le_of_ble_eq_true rfl) tw1163 rfl dX8_statesOf_6 (fun v2 => ?_)
    refine J_iconst (pc := 9) (v := 1) hc dX8_statesOf_9 (by decide) ?_
    refine J_iald (pc := 10) hc dX8_statesOf_10 (fun v3 => ?_)
    refine J_icmp_ge (pc := 11) (tgt := 38) hc dX8_statesOf_11 (by decide) ?_ ?_
    · refine J_iload_n (pc := 38) hc dX8_statesOf_38 rfl rfl ?_
      exact J_iret (pc := 39) he dX8_statesOf_39
    · refine J_iload_n (pc := 14) hc dX8_statesOf_14 rfl rfl ?_
      refine J_aload_n (pc := 15) hc dX8_statesOf_15 rfl rfl ?_
      refine J_getA (pc := 16) hc clX8 (k := 21) (kd := 11) (Nat.le_of_ble_eq_true rfl) rfl (Nat.le_of_ble_eq_true rfl) (Nat.le_of_ble_eq_true rfl) tw1183 rfl dX8_statesOf_16 (fun v4 => ?_)
      refine J_iload_n (pc := 19) hc dX8_statesOf_19 rfl rfl ?_
      refine J_iald (pc := 20) hc dX8_statesOf_20 (fun v5 => ?_)
      refine J_iload_n (pc := 21) hc dX8_statesOf_21 rfl rfl ?_
      refine J_icmp_ne (pc := 22) (tgt := 29) hc dX8_statesOf_22 (by decide) ?_ ?_
      · refine J_iconst (pc := 29) (v := 0) hc dX8_statesOf_29 (by decide) ?_
        refine J_sub (l' := [some ((8, .ref x0) : TV), some ((0, .int x1) : TV), none, some ((0, .int x3) : TV)]) ⟨rfl, ⟨rfl, ⟨rfl, trivial⟩⟩⟩ ?_
        exact jX8_statesOf_L30 hc he ih x0 x1 x3 0 x2
      · refine J_iconst (pc := 25) (v := 1) hc dX8_statesOf_25 (by decide) ?_
        refine J_goto (pc := 26) (tgt := 30) hc dX8_statesOf_26 (by decide) ?_
        refine J_sub (l' := [some ((8, .ref x0) : TV), some ((0, .int x1) : TV), none, some ((0, .int x3) : TV)]) ⟨rfl, ⟨rfl, ⟨rfl, trivial⟩⟩⟩ ?_
        exact jX8_statesOf_L30 hc he ih x0 x1 x3 1 x2
set_option maxRecDepth 100000 in
set_option maxHeartbeats 4000000 in
theorem jX8_statesOf {κ : Cx} {fin : Int32 → Mm → Prop} (hc : Jc κ RX8 cX8_statesOf 4 0 0 0 0) (he : Ed κ cX8_statesOf 0 0 wI .ireturn fin) (x0 : Nat) (x1 : Int32) : Jg κ (wM κ) 4 fin 0 0 0 [some ((8, .ref x0) : TV), some ((0, .int x1) : TV), none, none] [] (fX8_statesOf x0 x1) := by
  unfold fX8_statesOf
  refine J_iconst (pc := 0) (v := 0) hc dX8_statesOf_0 (by decide) ?_
  refine J_istore_n (pc := 1) (l' := [some ((8, .ref x0) : TV), some ((0, .int x1) : TV), some ((0, .int 0) : TV), none]) hc dX8_statesOf_1 rfl (by decide) rfl rfl ?_
  refine J_iconst (pc := 2) (v := 0) hc dX8_statesOf_2 (by decide) ?_
  refine J_istore_n (pc := 3) (l' := [some ((8, .ref x0) : TV), some ((0, .int x1) : TV), some ((0, .int 0) : TV), some ((0, .int 0) : TV)]) hc dX8_statesOf_3 rfl (by decide) rfl rfl ?_
  refine J_sub (l' := [some ((8, .ref x0) : TV), some ((0, .int x1) : TV), some ((0, .int 0) : TV), some ((0, .int 0) : TV)]) ⟨rfl, ⟨rfl, ⟨rfl, ⟨rfl, trivial⟩⟩⟩⟩ ?_
  exact jX8_statesOf_L4 hc he fu x0 x1 0 0
theorem moX8_statesOf : MOk yX8_statesOf 1 := ⟨by decide +kernel, by decide +kernel, by decide +kernel⟩
set_option maxRecDepth 100000 in
set_option maxHeartbeats 4000000 in
theorem KX8_statesOf (x0 : Nat) (x1 : Int32) : Ct wI yX8_statesOf cX8_statesOf 4 (some .int) 0 0 0 0 [((8, .ref x0) : TV), ((0, .int x1) : TV)] (fX8_statesOf x0 x1) :=
  Ct_I (j := 2) (by decide +kernel) rfl rfl (Nat.le_of_ble_eq_true rfl) (fun κ fin hc he => jX8_statesOf hc he x0 x1)
set_option maxRecDepth 100000 in
set_option maxHeartbeats 4000000 in
theorem jX8_sent_L16 {κ : Cx} {fin : Int32 → Mm → Prop} (hc : Jc κ RX8 cX8_sent 2 9 0 0 200) (he : Ed κ cX8_sent 0 0 wI .ireturn fin) (x0 : Nat) (x1 : Int32) (s0 : Int32) (s1 : Nat) : Jg κ (wM κ) 2 fin 0 0 16 [some ((8, .ref x0) : TV), some ((0, .int x1) : TV)] [((0, .int s0) : TV), ((8, .ref s1) : TV)] (fX8_sent_L16 x0 x1 s0 s1) := by
  unfold fX8_sent_L16
  refine J_putI (pc := 16) hc clX8 (k := 0) (Nat.le_of_ble_eq_true rfl) rfl rfl tw1162 rfl rfl dX8_sent_16 ?_
  refine J_aload_n (pc := 19) hc dX8_sent_19 rfl rfl ?_
  refine J_getI (pc := 20) hc clX8 (k := 0) (Nat.le_of_ble_eq_true rfl) rfl tw1162 rfl dX8_sent_20 (fun v1 => ?_)
  refine J_if_le (pc := 23) (tgt := 28) hc dX8_sent_23 (by decide) ?_ ?_
  · refine J_aload_n (pc := 28) hc dX8_sent_28 rfl rfl ?_
    refine J_callVv (pc := 29) hc clX8 (As := []) (KX8_sendsPage x0) dX8_sent_29 moX8_sendsPage rfl tw1524 tw1526 twp81 tw9 tw1527 rfl (Nat.le_of_ble_eq_true rfl) (Nat.le_of_ble_eq_true rfl) (Nat.le_of_ble_eq_true rfl) (Nat.le_of_ble_eq_true rfl) (Nat.le_of_ble_eq_true rfl) rfl (fun _ => ?_)
    refine J_iload_n (pc := 32) hc dX8_sent_32 rfl rfl ?_
    refine J_swc (pc := 33) (v := 0) (tgt := 88) hc dX8_sent_33 (by decide) (by decide) rfl (by decide) (by decide) ?_ (fun h33_0 => ?_)
    · refine J_aload_n (pc := 88) hc dX8_sent_88 rfl rfl ?_
      refine J_getI (pc := 89) hc clX8 (k := 26) (Nat.le_of_ble_eq_true rfl) rfl tw1188 rfl dX8_sent_89 (fun v2 => ?_)
      exact J_iret (pc := 92) he dX8_sent_92
    refine J_swc (pc := 33) (v := 1) (tgt := 93) hc dX8_sent_33 (by decide) (by decide) rfl (by decide) (by decide) ?_ (fun h33_1 => ?_)
    · refine J_aload_n (pc := 93) hc dX8_sent_93 rfl rfl ?_
      refine J_getI (pc := 94) hc clX8 (k := 27) (Nat.le_of_ble_eq_true rfl) rfl tw1189 rfl dX8_sent_94 (fun v3 => ?_)
      exact J_iret (pc := 97) he dX8_sent_97
    refine J_swc (pc := 33) (v := 2) (tgt := 98) hc dX8_sent_33 (by decide) (by decide) rfl (by decide) (by decide) ?_ (fun h33_2 => ?_)
    · refine J_aload_n (pc := 98) hc dX8_sent_98 rfl rfl ?_
      refine J_getI (pc := 99) hc clX8 (k := 28) (Nat.le_of_ble_eq_true rfl) rfl tw1190 rfl dX8_sent_99 (fun v4 => ?_)
      exact J_iret (pc := 102) he dX8_sent_102
    refine J_swc (pc := 33) (v := 3) (tgt := 118) hc dX8_sent_33 (by decide) (by decide) rfl (by decide) (by decide) ?_ (fun h33_3 => ?_)
    · refine J_aload_n (pc := 118) hc dX8_sent_118 rfl rfl ?_
      refine J_iload_n (pc := 119) hc dX8_sent_119 rfl rfl ?_
      refine J_iconst (pc := 120) (v := 3) hc dX8_sent_120 (by decide) ?_
      refine J_isub (pc := 121) hc dX8_sent_121 ?_
      refine J_callVi (pc := 122) hc clX8 (As := [((0, .int (x1 - 3)) : TV)]) (KX8_statesOf x0 (x1 - 3)) dX8_sent_122 moX8_statesOf rfl tw1556 tw1558 twp89 tw9 tw1559 rfl (Nat.le_of_ble_eq_true rfl) (Nat.le_of_ble_eq_true rfl) (Nat.le_of_ble_eq_true rfl) (Nat.le_of_ble_eq_true rfl) (Nat.le_of_ble_eq_true rfl) rfl (fun v5 => ?_)
      exact J_iret (pc := 125) he dX8_sent_125
    refine J_swc (pc := 33) (v := 4) (tgt := 118) hc dX8_sent_33 (by decide) (by decide) rfl (by decide) (by decide) ?_ (fun h33_4 => ?_)
    · refine J_aload_n (pc := 118) hc dX8_sent_118 rfl rfl ?_
      refine J_iload_n (pc := 119) hc dX8_sent_119 rfl rfl ?_
      refine J_iconst (pc := 120) (v := 3) hc dX8_sent_120 (by decide) ?_
      refine J_isub (pc := 121) hc dX8_sent_121 ?_
      refine J_callVi (pc := 122) hc clX8 (As := [((0, .int (x1 - 3)) : TV)]) (KX8_statesOf x0 (x1 - 3)) dX8_sent_122 moX8_statesOf rfl tw1556 tw1558 twp89 tw9 tw1559 rfl (Nat.le_of_ble_eq_true rfl) (Nat.le_of_ble_eq_true rfl) (Nat.le_of_ble_eq_true rfl) (Nat.le_of_ble_eq_true rfl) (Nat.le_of_ble_eq_true rfl) rfl (fun v6 => ?_)
      exact J_iret (pc := 125) he dX8_sent_125
    refine J_swc (pc := 33) (v := 5) (tgt := 118) hc dX8_sent_33 (by decide) (by decide) rfl (by decide) (by decide) ?_ (fun h33_5 => ?_)
    · refine J_aload_n (pc := 118) hc dX8_sent_118 rfl rfl ?_
      refine J_iload_n (pc := 119) hc dX8_sent_119 rfl rfl ?_
      refine J_iconst (pc := 120) (v := 3) hc dX8_sent_120 (by decide) ?_
      refine J_isub (pc := 121) hc dX8_sent_121 ?_
      refine J_callVi (pc := 122) hc clX8 (As := [((0, .int (x1 - 3)) : TV)]) (KX8_statesOf x0 (x1 - 3)) dX8_sent_122 moX8_statesOf rfl tw1556 tw1558 twp89 tw9 tw1559 rfl (Nat.le_of_ble_eq_true rfl) (Nat.le_of_ble_eq_true rfl) (Nat.le_of_ble_eq_true rfl) (Nat.le_of_ble_eq_true rfl) (Nat.le_of_ble_eq_true rfl) rfl (fun v7 => ?_)
      exact J_iret (pc := 125) he dX8_sent_125
    refine J_swc (pc := 33) (v := 6) (tgt := 118) hc dX8_sent_33 (by decide) (by decide) rfl (by decide) (by decide) ?_ (fun h33_6 => ?_)
    · refine J_aload_n (pc := 118) hc dX8_sent_118 rfl rfl ?_
      refine J_iload_n (pc := 119) hc dX8_sent_119 rfl rfl ?_
      refine J_iconst (pc := 120) (v := 3) hc dX8_sent_120 (by decide) ?_
      refine J_isub (pc := 121) hc dX8_sent_121 ?_
      refine J_callVi (pc := 122) hc clX8 (As := [((0, .int (x1 - 3)) : TV)]) (KX8_statesOf x0 (x1 - 3)) dX8_sent_122 moX8_statesOf rfl tw1556 tw1558 twp89 tw9 tw1559 rfl (Nat.le_of_ble_eq_true rfl) (Nat.le_of_ble_eq_true rfl) (Nat.le_of_ble_eq_true rfl) (Nat.le_of_ble_eq_true rfl) (Nat.le_of_ble_eq_true rfl) rfl (fun v8 => ?_)
      exact J_iret (pc := 125) he dX8_sent_125
    refine J_swc (pc := 33) (v := 7) (tgt := 103) hc dX8_sent_33 (by decide) (by decide) rfl (by decide) (by decide) ?_ (fun h33_7 => ?_)
    · refine J_aload_n (pc := 103) hc dX8_sent_103 rfl rfl ?_
      refine J_callVi (pc := 104) hc clX8 (As := []) (KX8_wrongDots x0) dX8_sent_104 moX8_wrongDots rfl tw1552 tw1554 twp88 tw9 tw1555 rfl (Nat.le_of_ble_eq_true rfl) (Nat.le_of_ble_eq_true rfl) (Nat.le_of_ble_eq_true rfl) (Nat.le_of_ble_eq_true rfl) (Nat.le_of_ble_eq_true rfl) rfl (fun v9 => ?_)
      exact J_iret (pc := 107) he dX8_sent_107
    refine J_swc (pc := 33) (v := 8) (tgt := 108) hc dX8_sent_33 (by decide) (by decide) rfl (by decide) (by decide) ?_ (fun h33_8 => ?_)
    · refine J_aload_n (pc := 108) hc dX8_sent_108 rfl rfl ?_
      refine J_getI (pc := 109) hc clX8 (k := 29) (Nat.le_of_ble_eq_true rfl) rfl tw1191 rfl dX8_sent_109 (fun v10 => ?_)
      exact J_iret (pc := 112) he dX8_sent_112
    refine J_swc (pc := 33) (v := 9) (tgt := 113) hc dX8_sent_33 (by decide) (by decide) rfl (by decide) (by decide) ?_ (fun h33_9 => ?_)
    · refine J_aload_n (pc := 113) hc dX8_sent_113 rfl rfl ?_
      refine J_getI (pc := 114) hc clX8 (k := 30) (Nat.le_of_ble_eq_true rfl) rfl tw1192 rfl dX8_sent_114 (fun v11 => ?_)
      exact J_iret (pc := 117) he dX8_sent_117
    refine J_swd (pc := 33) (tgt := 118) hc dX8_sent_33 (by omega) (by decide) ?_
    · refine J_aload_n (pc := 118) hc dX8_sent_118 rfl rfl ?_
      refine J_iload_n (pc := 119) hc dX8_sent_119 rfl rfl ?_
      refine J_iconst (pc := 120) (v := 3) hc dX8_sent_120 (by decide) ?_
      refine J_isub (pc := 121) hc dX8_sent_121 ?_
      refine J_callVi (pc := 122) hc clX8 (As := [((0, .int (x1 - 3)) : TV)]) (KX8_statesOf x0 (x1 - 3)) dX8_sent_122 moX8_statesOf rfl tw1556 tw1558 twp89 tw9 tw1559 rfl (Nat.le_of_ble_eq_true rfl) (Nat.le_of_ble_eq_true rfl) (Nat.le_of_ble_eq_true rfl) (Nat.le_of_ble_eq_true rfl) (Nat.le_of_ble_eq_true rfl) rfl (fun v12 => ?_)
      exact J_iret (pc := 125) he dX8_sent_125
  · refine J_iconst (pc := 26) (v := 0) hc dX8_sent_26 (by decide) ?_
    exact J_iret (pc := 27) he dX8_sent_27
set_option maxRecDepth 100000 in
set_option maxHeartbeats 4000000 in
theorem jX8_sent {κ : Cx} {fin : Int32 → Mm → Prop} (hc : Jc κ RX8 cX8_sent 2 9 0 0 200) (he : Ed κ cX8_sent 0 0 wI .ireturn fin) (x0 : Nat) (x1 : Int32) : Jg κ (wM κ) 2 fin 0 0 0 [some ((8, .ref x0) : TV), some ((0, .int x1) : TV)] [] (fX8_sent x0 x1) := by
  unfold fX8_sent
  refine J_aload_n (pc := 0) hc dX8_sent_0 rfl rfl ?_
  refine J_iload_n (pc := 1) hc dX8_sent_1 rfl rfl ?_
  refine J_iconst (pc := 2) (v := 0) hc dX8_sent_2 (by decide) ?_
  refine J_bipush (pc := 3) (v := 9) hc dX8_sent_3 (by decide) ?_
  refine J_callSi (pc := 5) hc (As := [((0, .int x1) : TV), ((0, .int 0) : TV), ((0, .int 9) : TV)]) (KX8_in x1 0 9) dX8_sent_5 moX8_in tw1298 tw1299 tw9 tw1300 rfl (Nat.le_of_ble_eq_true rfl) (Nat.le_of_ble_eq_true rfl) (Nat.le_of_ble_eq_true rfl) (Nat.le_of_ble_eq_true rfl) (Nat.le_of_ble_eq_true rfl) rfl (fun v13 => ?_)
  refine J_if_eq (pc := 8) (tgt := 15) hc dX8_sent_8 (by decide) ?_ ?_
  · refine J_iconst (pc := 15) (v := 1) hc dX8_sent_15 (by decide) ?_
    refine J_sub (l' := [some ((8, .ref x0) : TV), some ((0, .int x1) : TV)]) ⟨rfl, ⟨rfl, trivial⟩⟩ ?_
    exact jX8_sent_L16 hc he x0 x1 1 x0
  · refine J_iconst (pc := 11) (v := 0) hc dX8_sent_11 (by decide) ?_
    refine J_goto (pc := 12) (tgt := 16) hc dX8_sent_12 (by decide) ?_
    refine J_sub (l' := [some ((8, .ref x0) : TV), some ((0, .int x1) : TV)]) ⟨rfl, ⟨rfl, trivial⟩⟩ ?_
    exact jX8_sent_L16 hc he x0 x1 0 x0
theorem moX8_sent : MOk yX8_sent 1 := ⟨by decide +kernel, by decide +kernel, by decide +kernel⟩
set_option maxRecDepth 100000 in
set_option maxHeartbeats 4000000 in
theorem KX8_sent (x0 : Nat) (x1 : Int32) : Ct wI yX8_sent cX8_sent 2 (some .int) 9 0 0 200 [((8, .ref x0) : TV), ((0, .int x1) : TV)] (fX8_sent x0 x1) :=
  Ct_I (j := 0) (by decide +kernel) rfl rfl (Nat.le_of_ble_eq_true rfl) (fun κ fin hc he => jX8_sent hc he x0 x1)
set_option maxRecDepth 100000 in
set_option maxHeartbeats 4000000 in
theorem jX8_sentLine_L27 {κ : Cx} {fin : Int32 → Mm → Prop} (hc : Jc κ RX8 cX8_sentLine 3 9 0 0 200) (he : Ed κ cX8_sentLine 0 0 wI .ireturn fin) (x0 : Nat) (x1 : Int32) (x2 : Int32) (s0 : Int32) (s1 : Nat) : Jg κ (wM κ) 3 fin 0 0 27 [some ((8, .ref x0) : TV), some ((0, .int x1) : TV), some ((0, .int x2) : TV)] [((0, .int s0) : TV), ((8, .ref s1) : TV)] (fX8_sentLine_L27 x0 x1 x2 s0 s1) := by
  unfold fX8_sentLine_L27
  refine J_putI (pc := 27) hc clX8 (k := 0) (Nat.le_of_ble_eq_true rfl) rfl rfl tw1162 rfl rfl dX8_sentLine_27 ?_
  refine J_aload_n (pc := 30) hc dX8_sentLine_30 rfl rfl ?_
  refine J_getI (pc := 31) hc clX8 (k := 0) (Nat.le_of_ble_eq_true rfl) rfl tw1162 rfl dX8_sentLine_31 (fun v1 => ?_)
  refine J_if_le (pc := 34) (tgt := 39) hc dX8_sentLine_34 (by decide) ?_ ?_
  · refine J_aload_n (pc := 39) hc dX8_sentLine_39 rfl rfl ?_
    refine J_callVv (pc := 40) hc clX8 (As := []) (KX8_sendsPage x0) dX8_sentLine_40 moX8_sendsPage rfl tw1524 tw1526 twp81 tw9 tw1527 rfl (Nat.le_of_ble_eq_true rfl) (Nat.le_of_ble_eq_true rfl) (Nat.le_of_ble_eq_true rfl) (Nat.le_of_ble_eq_true rfl) (Nat.le_of_ble_eq_true rfl) rfl (fun _ => ?_)
    refine J_iload_n (pc := 43) hc dX8_sentLine_43 rfl rfl ?_
    refine J_if_ne (pc := 44) (tgt := 56) hc dX8_sentLine_44 (by decide) ?_ ?_
    · refine J_iload_n (pc := 56) hc dX8_sentLine_56 rfl rfl ?_
      refine J_iconst (pc := 57) (v := 1) hc dX8_sentLine_57 (by decide) ?_
      refine J_icmp_ne (pc := 58) (tgt := 70) hc dX8_sentLine_58 (by decide) ?_ ?_
      · refine J_iload_n (pc := 70) hc dX8_sentLine_70 rfl rfl ?_
        refine J_iconst (pc := 71) (v := 2) hc dX8_sentLine_71 (by decide) ?_
        refine J_icmp_ne (pc := 72) (tgt := 84) hc dX8_sentLine_72 (by decide) ?_ ?_
        · refine J_iload_n (pc := 84) hc dX8_sentLine_84 rfl rfl ?_
          refine J_iconst (pc := 85) (v := 3) hc dX8_sentLine_85 (by decide) ?_
          refine J_icmp_ne (pc := 86) (tgt := 97) hc dX8_sentLine_86 (by decide) ?_ ?_
          · refine J_aload_n (pc := 97) hc dX8_sentLine_97 rfl rfl ?_
            refine J_getA (pc := 98) hc clX8 (k := 24) (kd := 11) (Nat.le_of_ble_eq_true rfl) rfl (Nat.le_of_ble_eq_true rfl) (Nat.le_of_ble_eq_true rfl) tw1186 rfl dX8_sentLine_98 (fun v2 => ?_)
            refine J_iload_n (pc := 101) hc dX8_sentLine_101 rfl rfl ?_
            refine J_iald (pc := 102) hc dX8_sentLine_102 (fun v3 => ?_)
            exact J_iret (pc := 103) he dX8_sentLine_103
          · refine J_aload_n (pc := 89) hc dX8_sentLine_89 rfl rfl ?_
            refine J_iload_n (pc := 90) hc dX8_sentLine_90 rfl rfl ?_
            refine J_callVi (pc := 91) hc clX8 (As := [((0, .int x1) : TV)]) (KX8_wrongIn x0 x1) dX8_sentLine_91 moX8_wrongIn rfl tw1544 tw1546 twp86 tw9 tw1547 rfl (Nat.le_of_ble_eq_true rfl) (Nat.le_of_ble_eq_true rfl) (Nat.le_of_ble_eq_true rfl) (Nat.le_of_ble_eq_true rfl) (Nat.le_of_ble_eq_true rfl) rfl (fun v4 => ?_)
            refine J_goto (pc := 94) (tgt := 103) hc dX8_sentLine_94 (by decide) ?_
            exact J_iret (pc := 103) he dX8_sentLine_103
        · refine J_aload_n (pc := 75) hc dX8_sentLine_75 rfl rfl ?_
          refine J_getA (pc := 76) hc clX8 (k := 23) (kd := 11) (Nat.le_of_ble_eq_true rfl) rfl (Nat.le_of_ble_eq_true rfl) (Nat.le_of_ble_eq_true rfl) tw1185 rfl dX8_sentLine_76 (fun v5 => ?_)
          refine J_iload_n (pc := 79) hc dX8_sentLine_79 rfl rfl ?_
          refine J_iald (pc := 80) hc dX8_sentLine_80 (fun v6 => ?_)
          refine J_goto (pc := 81) (tgt := 103) hc dX8_sentLine_81 (by decide) ?_
          exact J_iret (pc := 103) he dX8_sentLine_103
      · refine J_aload_n (pc := 61) hc dX8_sentLine_61 rfl rfl ?_
        refine J_getA (pc := 62) hc clX8 (k := 22) (kd := 11) (Nat.le_of_ble_eq_true rfl) rfl (Nat.le_of_ble_eq_true rfl) (Nat.le_of_ble_eq_true rfl) tw1184 rfl dX8_sentLine_62 (fun v7 => ?_)
        refine J_iload_n (pc := 65) hc dX8_sentLine_65 rfl rfl ?_
        refine J_iald (pc := 66) hc dX8_sentLine_66 (fun v8 => ?_)
        refine J_goto (pc := 67) (tgt := 103) hc dX8_sentLine_67 (by decide) ?_
        exact J_iret (pc := 103) he dX8_sentLine_103
    · refine J_aload_n (pc := 47) hc dX8_sentLine_47 rfl rfl ?_
      refine J_getA (pc := 48) hc clX8 (k := 21) (kd := 11) (Nat.le_of_ble_eq_true rfl) rfl (Nat.le_of_ble_eq_true rfl) (Nat.le_of_ble_eq_true rfl) tw1183 rfl dX8_sentLine_48 (fun v9 => ?_)
      refine J_iload_n (pc := 51) hc dX8_sentLine_51 rfl rfl ?_
      refine J_iald (pc := 52) hc dX8_sentLine_52 (fun v10 => ?_)
      refine J_goto (pc := 53) (tgt := 103) hc dX8_sentLine_53 (by decide) ?_
      exact J_iret (pc := 103) he dX8_sentLine_103
  · refine J_iconst (pc := 37) (v := 0) hc dX8_sentLine_37 (by decide) ?_
    exact J_iret (pc := 38) he dX8_sentLine_38
set_option maxRecDepth 100000 in
set_option maxHeartbeats 4000000 in
theorem jX8_sentLine {κ : Cx} {fin : Int32 → Mm → Prop} (hc : Jc κ RX8 cX8_sentLine 3 9 0 0 200) (he : Ed κ cX8_sentLine 0 0 wI .ireturn fin) (x0 : Nat) (x1 : Int32) (x2 : Int32) : Jg κ (wM κ) 3 fin 0 0 0 [some ((8, .ref x0) : TV), some ((0, .int x1) : TV), some ((0, .int x2) : TV)] [] (fX8_sentLine x0 x1 x2) := by
  unfold fX8_sentLine
  refine J_aload_n (pc := 0) hc dX8_sentLine_0 rfl rfl ?_
  refine J_aload_n (pc := 1) hc dX8_sentLine_1 rfl rfl ?_
  refine J_iload_n (pc := 2) hc dX8_sentLine_2 rfl rfl ?_
  refine J_callVi (pc := 3) hc clX8 (As := [((0, .int x1) : TV)]) (KX8_isLine x0 x1) dX8_sentLine_3 moX8_isLine rfl tw1390 tw1392 twp66 tw9 tw1393 rfl (Nat.le_of_ble_eq_true rfl) (Nat.le_of_ble_eq_true rfl) (Nat.le_of_ble_eq_true rfl) (Nat.le_of_ble_eq_true rfl) (Nat.le_of_ble_eq_true rfl) rfl (fun v11 => ?_)
  refine J_if_ne (pc := 6) (tgt := 13) hc dX8_sentLine_6 (by decide) ?_ ?_
  · refine J_iload_n (pc := 13) hc dX8_sentLine_13 rfl rfl ?_
    refine J_iconst (pc := 14) (v := 0) hc dX8_sentLine_14 (by decide) ?_
    refine J_iconst (pc := 15) (v := 4) hc dX8_sentLine_15 (by decide) ?_
    refine J_callSi (pc := 16) hc (As := [((0, .int x2) : TV), ((0, .int 0) : TV), ((0, .int 4) : TV)]) (KX8_in x2 0 4) dX8_sentLine_16 moX8_in tw1298 tw1299 tw9 tw1300 rfl (Nat.le_of_ble_eq_true rfl) (Nat.le_of_ble_eq_true rfl) (Nat.le_of_ble_eq_true rfl) (Nat.le_of_ble_eq_true rfl) (Nat.le_of_ble_eq_true rfl) rfl (fun v12 => ?_)
    refine J_if_eq (pc := 19) (tgt := 26) hc dX8_sentLine_19 (by decide) ?_ ?_
    · refine J_iconst (pc := 26) (v := 2) hc dX8_sentLine_26 (by decide) ?_
      refine J_sub (l' := [some ((8, .ref x0) : TV), some ((0, .int x1) : TV), some ((0, .int x2) : TV)]) ⟨rfl, ⟨rfl, ⟨rfl, trivial⟩⟩⟩ ?_
      exact jX8_sentLine_L27 hc he x0 x1 x2 2 x0
    · refine J_iconst (pc := 22) (v := 0) hc dX8_sentLine_22 (by decide) ?_
      refine J_goto (pc := 23) (tgt := 27) hc dX8_sentLine_23 (by decide) ?_
      refine J_sub (l' := [some ((8, .ref x0) : TV), some ((0, .int x1) : TV), some ((0, .int x2) : TV)]) ⟨rfl, ⟨rfl, ⟨rfl, trivial⟩⟩⟩ ?_
      exact jX8_sentLine_L27 hc he x0 x1 x2 0 x0
  · refine J_iconst (pc := 9) (v := 1) hc dX8_sentLine_9 (by decide) ?_
    refine J_goto (pc := 10) (tgt := 27) hc dX8_sentLine_10 (by decide) ?_
    refine J_sub (l' := [some ((8, .ref x0) : TV), some ((0, .int x1) : TV), some ((0, .int x2) : TV)]) ⟨rfl, ⟨rfl, ⟨rfl, trivial⟩⟩⟩ ?_
    exact jX8_sentLine_L27 hc he x0 x1 x2 1 x0
theorem moX8_sentLine : MOk yX8_sentLine 2 := ⟨by decide +kernel, by decide +kernel, by decide +kernel⟩
set_option maxRecDepth 100000 in
set_option maxHeartbeats 4000000 in
theorem KX8_sentLine (x0 : Nat) (x1 : Int32) (x2 : Int32) : Ct wI yX8_sentLine cX8_sentLine 3 (some .int) 9 0 0 200 [((8, .ref x0) : TV), ((0, .int x1) : TV), ((0, .int x2) : TV)] (fX8_sentLine x0 x1 x2) :=
  Ct_I (j := 0) (by decide +kernel) rfl rfl (Nat.le_of_ble_eq_true rfl) (fun κ fin hc he => jX8_sentLine hc he x0 x1 x2)
set_option maxRecDepth 100000 in
set_option maxHeartbeats 4000000 in
theorem jX8_received_L15 {κ : Cx} {fin : Int32 → Mm → Prop} (hc : Jc κ RX8 cX8_received 3 9 0 0 200) (he : Ed κ cX8_received 0 0 wI .ireturn fin) (x0 : Nat) (x1 : Int32) (x2 : Int32) (s0 : Int32) (s1 : Nat) : Jg κ (wM κ) 3 fin 0 0 15 [some ((8, .ref x0) : TV), some ((0, .int x1) : TV), some ((0, .int x2) : TV)] [((0, .int s0) : TV), ((8, .ref s1) : TV)] (fX8_received_L15 x0 x1 x2 s0 s1) := by
  unfold fX8_received_L15
  refine J_putI (pc := 15) hc clX8 (k := 0) (Nat.le_of_ble_eq_true rfl) rfl rfl tw1162 rfl rfl dX8_received_15 ?_
  refine J_aload_n (pc := 18) hc dX8_received_18 rfl rfl ?_
  refine J_getI (pc := 19) hc clX8 (k := 0) (Nat.le_of_ble_eq_true rfl) rfl tw1162 rfl dX8_received_19 (fun v1 => ?_)
  refine J_if_le (pc := 22) (tgt := 27) hc dX8_received_22 (by decide) ?_ ?_
  · refine J_aload_n (pc := 27) hc dX8_received_27 rfl rfl ?_
    refine J_callVv (pc := 28) hc clX8 (As := []) (KX8_sendsPage x0) dX8_received_28 moX8_sendsPage rfl tw1524 tw1526 twp81 tw9 tw1527 rfl (Nat.le_of_ble_eq_true rfl) (Nat.le_of_ble_eq_true rfl) (Nat.le_of_ble_eq_true rfl) (Nat.le_of_ble_eq_true rfl) (Nat.le_of_ble_eq_true rfl) rfl (fun _ => ?_)
    refine J_aload_n (pc := 31) hc dX8_received_31 rfl rfl ?_
    refine J_getA (pc := 32) hc clX8 (k := 20) (kd := 11) (Nat.le_of_ble_eq_true rfl) rfl (Nat.le_of_ble_eq_true rfl) (Nat.le_of_ble_eq_true rfl) tw1182 rfl dX8_received_32 (fun v2 => ?_)
    refine J_bipush (pc := 35) (v := 40) hc dX8_received_35 (by decide) ?_
    refine J_iload_n (pc := 37) hc dX8_received_37 rfl rfl ?_
    refine J_imul (pc := 38) hc dX8_received_38 ?_
    refine J_iload_n (pc := 39) hc dX8_received_39 rfl rfl ?_
    refine J_iadd (pc := 40) hc dX8_received_40 ?_
    refine J_iald (pc := 41) hc dX8_received_41 (fun v3 => ?_)
    exact J_iret (pc := 42) he dX8_received_42
  · refine J_iconst (pc := 25) (v := 0) hc dX8_received_25 (by decide) ?_
    exact J_iret (pc := 26) he dX8_received_26
set_option maxRecDepth 100000 in
set_option maxHeartbeats 4000000 in
theorem jX8_received {κ : Cx} {fin : Int32 → Mm → Prop} (hc : Jc κ RX8 cX8_received 3 9 0 0 200) (he : Ed κ cX8_received 0 0 wI .ireturn fin) (x0 : Nat) (x1 : Int32) (x2 : Int32) : Jg κ (wM κ) 3 fin 0 0 0 [some ((8, .ref x0) : TV), some ((0, .int x1) : TV), some ((0, .int x2) : TV)] [] (fX8_received x0 x1 x2) := by
  unfold fX8_received
  refine J_aload_n (pc := 0) hc dX8_received_0 rfl rfl ?_
  refine J_aload_n (pc := 1) hc dX8_received_1 rfl rfl ?_
  refine J_iload_n (pc := 2) hc dX8_received_2 rfl rfl ?_
  refine J_iload_n (pc := 3) hc dX8_received_3 rfl rfl ?_
  refine J_callVi (pc := 4) hc clX8 (As := [((0, .int x1) : TV), ((0, .int x2) : TV)]) (KX8_isDot x0 x1 x2) dX8_received_4 moX8_isDot rfl tw1386 tw1388 twp65 tw9 tw1389 rfl (Nat.le_of_ble_eq_true rfl) (Nat.le_of_ble_eq_true rfl) (Nat.le_of_ble_eq_true rfl) (Nat.le_of_ble_eq_true rfl) (Nat.le_of_ble_eq_true rfl) rfl (fun v4 => ?_)
  refine J_if_eq (pc := 7) (tgt := 14) hc dX8_received_7 (by decide) ?_ ?_
  · refine J_iconst (pc := 14) (v := 1) hc dX8_received_14 (by decide) ?_
    refine J_sub (l' := [some ((8, .ref x0) : TV), some ((0, .int x1) : TV), some ((0, .int x2) : TV)]) ⟨rfl, ⟨rfl, ⟨rfl, trivial⟩⟩⟩ ?_
    exact jX8_received_L15 hc he x0 x1 x2 1 x0
  · refine J_iconst (pc := 10) (v := 0) hc dX8_received_10 (by decide) ?_
    refine J_goto (pc := 11) (tgt := 15) hc dX8_received_11 (by decide) ?_
    refine J_sub (l' := [some ((8, .ref x0) : TV), some ((0, .int x1) : TV), some ((0, .int x2) : TV)]) ⟨rfl, ⟨rfl, ⟨rfl, trivial⟩⟩⟩ ?_
    exact jX8_received_L15 hc he x0 x1 x2 0 x0
theorem moX8_received : MOk yX8_received 2 := ⟨by decide +kernel, by decide +kernel, by decide +kernel⟩
set_option maxRecDepth 100000 in
set_option maxHeartbeats 4000000 in
theorem KX8_received (x0 : Nat) (x1 : Int32) (x2 : Int32) : Ct wI yX8_received cX8_received 3 (some .int) 9 0 0 200 [((8, .ref x0) : TV), ((0, .int x1) : TV), ((0, .int x2) : TV)] (fX8_received x0 x1 x2) :=
  Ct_I (j := 0) (by decide +kernel) rfl rfl (Nat.le_of_ble_eq_true rfl) (fun κ fin hc he => jX8_received hc he x0 x1 x2)
set_option maxRecDepth 100000 in
set_option maxHeartbeats 4000000 in
theorem jX8_sendsHarmed_L23 {κ : Cx} {fin : Unit → Mm → Prop} (hc : Jc κ RX8 cX8_sendsHarmed 3 8 0 0 180) (he : Ed κ cX8_sendsHarmed 0 0 wV .return_ fin) {k2 : Nat → Int32 → Int32 → Mm → Option (Unit × Mm)} (hk2 : ∀ (x0 : Nat) (x1 : Int32) (x2 : Int32), Jg κ (wM κ) 3 fin 0 0 2 [some ((8, .ref x0) : TV), some ((0, .int x1) : TV), some ((0, .int x2) : TV)] [] (k2 x0 x1 x2)) (x0 : Nat) (x1 : Int32) (x2 : Int32) (s0 : Int32) (s1 : Int32) (s2 : Nat) : Jg κ (wM κ) 3 fin 0 0 23 [some ((8, .ref x0) : TV), some ((0, .int x1) : TV), some ((0, .int x2) : TV)] [((0, .int s0) : TV), ((0, .int s1) : TV), ((11, .ref s2) : TV)] (fX8_sendsHarmed_L23 k2 x0 x1 x2 s0 s1 s2) := by
  unfold fX8_sendsHarmed_L23
  refine J_iast (pc := 23) hc dX8_sendsHarmed_23 ?_
  refine J_iinc (pc := 24) (v := x2 + 1) (l' := [some ((8, .ref x0) : TV), some ((0, .int x1) : TV), some ((0, .int (x2 + 1)) : TV)]) hc dX8_sendsHarmed_24 rfl rfl (by decide) rfl rfl ?_
  refine J_goto (pc := 27) (tgt := 2) hc dX8_sendsHarmed_27 (by decide) ?_
  refine J_sub (l' := [some ((8, .ref x0) : TV), some ((0, .int x1) : TV), some ((0, .int (x2 + 1)) : TV)]) ⟨rfl, ⟨rfl, ⟨rfl, trivial⟩⟩⟩ ?_
  exact hk2 x0 x1 (x2 + 1)
set_option maxRecDepth 100000 in
set_option maxHeartbeats 4000000 in
theorem jX8_sendsHarmed_L2 {κ : Cx} {fin : Unit → Mm → Prop} (hc : Jc κ RX8 cX8_sendsHarmed 3 8 0 0 180) (he : Ed κ cX8_sendsHarmed 0 0 wV .return_ fin) : ∀ (n : Nat) (x0 : Nat) (x1 : Int32) (x2 : Int32), Jg κ (wM κ) 3 fin 0 0 2 [some ((8, .ref x0) : TV), some ((0, .int x1) : TV), some ((0, .int x2) : TV)] [] (fX8_sendsHarmed_L2 n x0 x1 x2) := by
  intro n
  induction n with
  | zero => intro x0 x1 x2; exact J_fail
  | succ n ih =>
    intro x0 x1 x2
    unfold fX8_sendsHarmed_L2
    refine J_iload_n (pc := 2) hc dX8_sendsHarmed_2 rfl rfl ?_
    refine J_bipush (pc := 3) (v := 20) hc dX8_sendsHarmed_3 (by decide) ?_
    refine J_icmp_ge (pc := 5) (tgt := 30) hc dX8_sendsHarmed_5 (by decide) ?_ ?_
    · refine J_aload_n (pc := 30) hc dX8_sendsHarmed_30 rfl rfl ?_
      refine J_getA (pc := 31) hc clX8 (k := 1) (kd := 11) (Nat.le_of_ble_eq_true rfl) rfl (Nat.le_of_ble_eq_true rfl) (Nat.le_of_ble_eq_true rfl) tw1163 rfl dX8_sendsHarmed_31 (fun v1 => ?_)
      refine J_iconst (pc := 34) (v := 5) hc dX8_sendsHarmed_34 (by decide) ?_
      refine J_iald (pc := 35) hc dX8_sendsHarmed_35 (fun v2 => ?_)
      refine J_istore_n (pc := 36) (l' := [some ((8, .ref x0) : TV), some ((0, .int x1) : TV), some ((0, .int v2) : TV)]) hc dX8_sendsHarmed_36 rfl (by decide) rfl rfl ?_
      refine J_aload_n (pc := 37) hc dX8_sendsHarmed_37 rfl rfl ?_
      refine J_getA (pc := 38) hc clX8 (k := 1) (kd := 11) (Nat.le_of_ble_eq_true rfl) rfl (Nat.le_of_ble_eq_true rfl) (Nat.le_of_ble_eq_true rfl) tw1163 rfl dX8_sendsHarmed_38 (fun v3 => ?_)
      refine J_iconst (pc := 41) (v := 5) hc dX8_sendsHarmed_41 (by decide) ?_
      refine J_iconst (pc := 42) (v := 0) hc dX8_sendsHarmed_42 (by decide) ?_
      refine J_iast (pc := 43) hc dX8_sendsHarmed_43 ?_
      refine J_aload_n (pc := 44) hc dX8_sendsHarmed_44 rfl rfl ?_
      refine J_callVv (pc := 45) hc clX8 (As := []) (KX8_sendsAll x0) dX8_sendsHarmed_45 moX8_sendsAll rfl tw1532 tw1534 twp83 tw9 tw1535 rfl (Nat.le_of_ble_eq_true rfl) (Nat.le_of_ble_eq_true rfl) (Nat.le_of_ble_eq_true rfl) (Nat.le_of_ble_eq_true rfl) (Nat.le_of_ble_eq_true rfl) rfl (fun _ => ?_)
      refine J_aload_n (pc := 48) hc dX8_sendsHarmed_48 rfl rfl ?_
      refine J_getA (pc := 49) hc clX8 (k := 1) (kd := 11) (Nat.le_of_ble_eq_true rfl) rfl (Nat.le_of_ble_eq_true rfl) (Nat.le_of_ble_eq_true rfl) tw1163 rfl dX8_sendsHarmed_49 (fun v4 => ?_)
      refine J_iconst (pc := 52) (v := 5) hc dX8_sendsHarmed_52 (by decide) ?_
      refine J_iload_n (pc := 53) hc dX8_sendsHarmed_53 rfl rfl ?_
      refine J_iast (pc := 54) hc dX8_sendsHarmed_54 ?_
      exact J_vret (pc := 55) he dX8_sendsHarmed_55
    · refine J_aload_n (pc := 8) hc dX8_sendsHarmed_8 rfl rfl ?_
      refine J_getA (pc := 9) hc clX8 (k := 25) (kd := 11) (Nat.le_of_ble_eq_true rfl) rfl (Nat.le_of_ble_eq_true rfl) (Nat.le_of_ble_eq_true rfl) tw1187 rfl dX8_sendsHarmed_9 (fun v5 => ?_)
      refine J_iload_n (pc := 12) hc dX8_sendsHarmed_12 rfl rfl ?_
      refine J_iload_n (pc := 13) hc dX8_sendsHarmed_13 rfl rfl ?_
      refine J_iload_n (pc := 14) hc dX8_sendsHarmed_14 rfl rfl ?_
      refine J_icmp_ne (pc := 15) (tgt := 22) hc dX8_sendsHarmed_15 (by decide) ?_ ?_
      · refine J_iconst (pc := 22) (v := 0) hc dX8_sendsHarmed_22 (by decide) ?_
        refine J_sub (l' := [some ((8, .ref x0) : TV), some ((0, .int x1) : TV), some ((0, .int x2) : TV)]) ⟨rfl, ⟨rfl, ⟨rfl, trivial⟩⟩⟩ ?_
        exact jX8_sendsHarmed_L23 hc he ih x0 x1 x2 0 x2 v5
      · refine J_iconst (pc := 18) (v := 1) hc dX8_sendsHarmed_18 (by decide) ?_
        refine J_goto (pc := 19) (tgt := 23) hc dX8_sendsHarmed_19 (by decide) ?_
        refine J_sub (l' := [some ((8, .ref x0) : TV), some ((0, .int x1) : TV), some ((0, .int x2) : TV)]) ⟨rfl, ⟨rfl, ⟨rfl, trivial⟩⟩⟩ ?_
        exact jX8_sendsHarmed_L23 hc he ih x0 x1 x2 1 x2 v5
set_option maxRecDepth 100000 in
set_option maxHeartbeats 4000000 in
theorem jX8_sendsHarmed {κ : Cx} {fin : Unit → Mm → Prop} (hc : Jc κ RX8 cX8_sendsHarmed 3 8 0 0 180) (he : Ed κ cX8_sendsHarmed 0 0 wV .return_ fin) (x0 : Nat) (x1 : Int32) : Jg κ (wM κ) 3 fin 0 0 0 [some ((8, .ref x0) : TV), some ((0, .int x1) : TV), none] [] (fX8_sendsHarmed x0 x1) := by
  unfold fX8_sendsHarmed
  refine J_iconst (pc := 0) (v := 0) hc dX8_sendsHarmed_0 (by decide) ?_
  refine J_istore_n (pc := 1) (l' := [some ((8, .ref x0) : TV), some ((0, .int x1) : TV), some ((0, .int 0) : TV)]) hc dX8_sendsHarmed_1 rfl (by decide) rfl rfl ?_
  refine J_sub (l' := [some ((8, .ref x0) : TV), some ((0, .int x1) : TV), some ((0, .int 0) : TV)]) ⟨rfl, ⟨rfl, ⟨rfl, trivial⟩⟩⟩ ?_
  exact jX8_sendsHarmed_L2 hc he fu x0 x1 0
theorem moX8_sendsHarmed : MOk yX8_sendsHarmed 1 := ⟨by decide +kernel, by decide +kernel, by decide +kernel⟩
set_option maxRecDepth 100000 in
set_option maxHeartbeats 4000000 in
theorem KX8_sendsHarmed (x0 : Nat) (x1 : Int32) : Ct wV yX8_sendsHarmed cX8_sendsHarmed 3 none 8 0 0 180 [((8, .ref x0) : TV), ((0, .int x1) : TV)] (fX8_sendsHarmed x0 x1) :=
  Ct_V (j := 1) (by decide +kernel) rfl rfl (Nat.le_of_ble_eq_true rfl) (fun κ fin hc he hin => jX8_sendsHarmed hc he x0 x1)
set_option maxRecDepth 100000 in
set_option maxHeartbeats 4000000 in
theorem jX8_harmOf_L58 {κ : Cx} {fin : Int32 → Mm → Prop} (hc : Jc κ RX8 cX8_harmOf 6 3 0 0 66) (he : Ed κ cX8_harmOf 0 0 wI .ireturn fin) {k7 : Nat → Int32 → Int32 → Int32 → Int32 → Mm → Option (Int32 × Mm)} (hk7 : ∀ (x0 : Nat) (x1 : Int32) (x2 : Int32) (x3 : Int32) (x4 : Int32), Jg κ (wM κ) 6 fin 0 0 7 [some ((8, .ref x0) : TV), some ((0, .int x1) : TV), some ((0, .int x2) : TV), some ((0, .int x3) : TV), some ((0, .int x4) : TV), none] [] (k7 x0 x1 x2 x3 x4)) (x0 : Nat) (x1 : Int32) (x2 : Int32) (x4 : Int32) (s0 : Int32) : Jg κ (wM κ) 6 fin 0 0 58 [some ((8, .ref x0) : TV), some ((0, .int x1) : TV), some ((0, .int x2) : TV), none, some ((0, .int x4) : TV), none] [((0, .int s0) : TV)] (fX8_harmOf_L58 k7 x0 x1 x2 x4 s0) := by
  unfold fX8_harmOf_L58
  refine J_istore_n (pc := 58) (l' := [some ((8, .ref x0) : TV), some ((0, .int x1) : TV), some ((0, .int x2) : TV), some ((0, .int s0) : TV), some ((0, .int x4) : TV), none]) hc dX8_harmOf_58 rfl (by decide) rfl rfl ?_
  refine J_iinc (pc := 59) (v := x4 + 1) (l' := [some ((8, .ref x0) : TV), some ((0, .int x1) : TV), some ((0, .int x2) : TV), some ((0, .int s0) : TV), some ((0, .int (x4 + 1)) : TV), none]) hc dX8_harmOf_59 rfl rfl (by decide) rfl rfl ?_
  refine J_goto (pc := 62) (tgt := 7) hc dX8_harmOf_62 (by decide) ?_
  refine J_sub (l' := [some ((8, .ref x0) : TV), some ((0, .int x1) : TV), some ((0, .int x2) : TV), some ((0, .int s0) : TV), some ((0, .int (x4 + 1)) : TV), none]) ⟨rfl, ⟨rfl, ⟨rfl, ⟨rfl, ⟨rfl, trivial⟩⟩⟩⟩⟩ ?_
  exact hk7 x0 x1 x2 s0 (x4 + 1)
set_option maxRecDepth 100000 in
set_option maxHeartbeats 4000000 in
theorem jX8_harmOf_L45 {κ : Cx} {fin : Int32 → Mm → Prop} (hc : Jc κ RX8 cX8_harmOf 6 3 0 0 66) (he : Ed κ cX8_harmOf 0 0 wI .ireturn fin) {k7 : Nat → Int32 → Int32 → Int32 → Int32 → Mm → Option (Int32 × Mm)} (hk7 : ∀ (x0 : Nat) (x1 : Int32) (x2 : Int32) (x3 : Int32) (x4 : Int32), Jg κ (wM κ) 6 fin 0 0 7 [some ((8, .ref x0) : TV), some ((0, .int x1) : TV), some ((0, .int x2) : TV), some ((0, .int x3) : TV), some ((0, .int x4) : TV), none] [] (k7 x0 x1 x2 x3 x4)) (x0 : Nat) (x1 : Int32) (x3 : Int32) (x4 : Int32) (x5 : Int32) (s0 : Int32) (s1 : Int32) : Jg κ (wM κ) 6 fin 0 0 45 [some ((8, .ref x0) : TV), some ((0, .int x1) : TV), none, some ((0, .int x3) : TV), some ((0, .int x4) : TV), some ((0, .int x5) : TV)] [((0, .int s0) : TV), ((0, .int s1) : TV)] (fX8_harmOf_L45 k7 x0 x1 x3 x4 x5 s0 s1) := by
  unfold fX8_harmOf_L45
  refine J_iadd (pc := 45) hc dX8_harmOf_45 ?_
  refine J_nmi (fun v1 => ?_)
  refine J_istore_n (pc := 46) (l' := [some ((8, .ref x0) : TV), some ((0, .int x1) : TV), some ((0, .int v1) : TV), some ((0, .int x3) : TV), some ((0, .int x4) : TV), some ((0, .int x5) : TV)]) hc dX8_harmOf_46 rfl (by decide) rfl rfl ?_
  refine J_iload (pc := 47) hc dX8_harmOf_47 rfl ?_
  refine J_if_eq (pc := 49) (tgt := 57) hc dX8_harmOf_49 (by decide) ?_ ?_
  · refine J_iload_n (pc := 57) hc dX8_harmOf_57 rfl rfl ?_
    refine J_sub (l' := [some ((8, .ref x0) : TV), some ((0, .int x1) : TV), some ((0, .int v1) : TV), none, some ((0, .int x4) : TV), none]) ⟨rfl, ⟨rfl, ⟨rfl, ⟨rfl, trivial⟩⟩⟩⟩ ?_
    exact jX8_harmOf_L58 hc he hk7 x0 x1 v1 x4 x3
  · refine J_iload (pc := 52) hc dX8_harmOf_52 rfl ?_
    refine J_goto (pc := 54) (tgt := 58) hc dX8_harmOf_54 (by decide) ?_
    refine J_sub (l' := [some ((8, .ref x0) : TV), some ((0, .int x1) : TV), some ((0, .int v1) : TV), none, some ((0, .int x4) : TV), none]) ⟨rfl, ⟨rfl, ⟨rfl, ⟨rfl, trivial⟩⟩⟩⟩ ?_
    exact jX8_harmOf_L58 hc he hk7 x0 x1 v1 x4 x4
set_option maxRecDepth 100000 in
set_option maxHeartbeats 4000000 in
theorem jX8_harmOf_L32 {κ : Cx} {fin : Int32 → Mm → Prop} (hc : Jc κ RX8 cX8_harmOf 6 3 0 0 66) (he : Ed κ cX8_harmOf 0 0 wI .ireturn fin) {k7 : Nat → Int32 → Int32 → Int32 → Int32 → Mm → Option (Int32 × Mm)} (hk7 : ∀ (x0 : Nat) (x1 : Int32) (x2 : Int32) (x3 : Int32) (x4 : Int32), Jg κ (wM κ) 6 fin 0 0 7 [some ((8, .ref x0) : TV), some ((0, .int x1) : TV), some ((0, .int x2) : TV), some ((0, .int x3) : TV), some ((0, .int x4) : TV), none] [] (k7 x0 x1 x2 x3 x4)) (x0 : Nat) (x1 : Int32) (x2 : Int32) (x3 : Int32) (x4 : Int32) (s0 : Int32) : Jg κ (wM κ) 6 fin 0 0 32 [some ((8, .ref x0) : TV), some ((0, .int x1) : TV), some ((0, .int x2) : TV), some ((0, .int x3) : TV), some ((0, .int x4) : TV), none] [((0, .int s0) : TV)] (fX8_harmOf_L32 k7 x0 x1 x2 x3 x4 s0) := by
  unfold fX8_harmOf_L32
  refine J_istore (pc := 32) (l' := [some ((8, .ref x0) : TV), some ((0, .int x1) : TV), some ((0, .int x2) : TV), some ((0, .int x3) : TV), some ((0, .int x4) : TV), some ((0, .int s0) : TV)]) hc dX8_harmOf_32 (by decide) rfl rfl ?_
  refine J_iload_n (pc := 34) hc dX8_harmOf_34 rfl rfl ?_
  refine J_iload (pc := 35) hc dX8_harmOf_35 rfl ?_
  refine J_if_eq (pc := 37) (tgt := 44) hc dX8_harmOf_37 (by decide) ?_ ?_
  · refine J_iconst (pc := 44) (v := 0) hc dX8_harmOf_44 (by decide) ?_
    refine J_sub (l' := [some ((8, .ref x0) : TV), some ((0, .int x1) : TV), none, some ((0, .int x3) : TV), some ((0, .int x4) : TV), some ((0, .int s0) : TV)]) ⟨rfl, ⟨rfl, ⟨rfl, ⟨rfl, ⟨rfl, trivial⟩⟩⟩⟩⟩ ?_
    exact jX8_harmOf_L45 hc he hk7 x0 x1 x3 x4 s0 0 x2
  · refine J_iconst (pc := 40) (v := 1) hc dX8_harmOf_40 (by decide) ?_
    refine J_goto (pc := 41) (tgt := 45) hc dX8_harmOf_41 (by decide) ?_
    refine J_sub (l' := [some ((8, .ref x0) : TV), some ((0, .int x1) : TV), none, some ((0, .int x3) : TV), some ((0, .int x4) : TV), some ((0, .int s0) : TV)]) ⟨rfl, ⟨rfl, ⟨rfl, ⟨rfl, ⟨rfl, trivial⟩⟩⟩⟩⟩ ?_
    exact jX8_harmOf_L45 hc he hk7 x0 x1 x3 x4 s0 1 x2
set_option maxRecDepth 100000 in
set_option maxHeartbeats 4000000 in
theorem jX8_harmOf_L7 {κ : Cx} {fin : Int32 → Mm → Prop} (hc : Jc κ RX8 cX8_harmOf 6 3 0 0 66) (he : Ed κ cX8_harmOf 0 0 wI .ireturn fin) : ∀ (n : Nat) (x0 : Nat) (x1 : Int32) (x2 : Int32) (x3 : Int32) (x4 : Int32), Jg κ (wM κ) 6 fin 0 0 7 [some ((8, .ref x0) : TV), some ((0, .int x1) : TV), some ((0, .int x2) : TV), some ((0, .int x3) : TV), some ((0, .int x4) : TV), none] [] (fX8_harmOf_L7 n x0 x1 x2 x3 x4) := by
  intro n
  induction n with
  | zero => intro x0 x1 x2 x3 x4; exact J_fail
  | succ n ih =>
    intro x0 x1 x2 x3 x4
    unfold fX8_harmOf_L7
    refine J_iload (pc := 7) hc dX8_harmOf_7 rfl ?_
    refine J_aload_n (pc := 9) hc dX8_harmOf_9 rfl rfl ?_
    refine J_getA (pc := 10) hc clX8 (k := 1) (kd := 11) (Nat.le_of_ble_eq_true rfl) rfl (Nat.le_of_ble_eq_true rfl) (Nat.le_of_ble_eq_true rfl) tw1163 rfl dX8_harmOf_10 (fun v2 => ?_)
    refine J_iconst (pc := 13) (v := 1) hc dX8_harmOf_13 (by decide) ?_
    refine J_iald (pc := 14) hc dX8_harmOf_14 (fun v3 => ?_)
    refine J_icmp_ge (pc := 15) (tgt := 65) hc dX8_harmOf_15 (by decide) ?_ ?_
    · refine J_iload_n (pc := 65) hc dX8_harmOf_65 rfl rfl ?_
      refine J_if_ne (pc := 66) (tgt := 73) hc dX8_harmOf_66 (by decide) ?_ ?_
      · refine J_iload_n (pc := 73) hc dX8_harmOf_73 rfl rfl ?_
        refine J_iconst (pc := 74) (v := 1) hc dX8_harmOf_74 (by decide) ?_
        refine J_icmp_ne (pc := 75) (tgt := 85) hc dX8_harmOf_75 (by decide) ?_ ?_
        · refine J_iload_n (pc := 85) hc dX8_harmOf_85 rfl rfl ?_
          exact J_iret (pc := 86) he dX8_harmOf_86
        · refine J_aload_n (pc := 78) hc dX8_harmOf_78 rfl rfl ?_
          refine J_callVi (pc := 79) hc clX8 (As := []) (KX8_wrongDots x0) dX8_harmOf_79 moX8_wrongDots rfl tw1552 tw1554 twp88 tw9 tw1555 rfl (Nat.le_of_ble_eq_true rfl) (Nat.le_of_ble_eq_true rfl) (Nat.le_of_ble_eq_true rfl) (Nat.le_of_ble_eq_true rfl) (Nat.le_of_ble_eq_true rfl) rfl (fun v4 => ?_)
          refine J_goto (pc := 82) (tgt := 86) hc dX8_harmOf_82 (by decide) ?_
          exact J_iret (pc := 86) he dX8_harmOf_86
      · refine J_iload_n (pc := 69) hc dX8_harmOf_69 rfl rfl ?_
        refine J_goto (pc := 70) (tgt := 86) hc dX8_harmOf_70 (by decide) ?_
        exact J_iret (pc := 86) he dX8_harmOf_86
    · refine J_aload_n (pc := 18) hc dX8_harmOf_18 rfl rfl ?_
      refine J_iload (pc := 19) hc dX8_harmOf_19 rfl ?_
      refine J_callVi (pc := 21) hc clX8 (As := [((0, .int x4) : TV)]) (KX8_wrongIn x0 x4) dX8_harmOf_21 moX8_wrongIn rfl tw1544 tw1546 twp86 tw9 tw1547 rfl (Nat.le_of_ble_eq_true rfl) (Nat.le_of_ble_eq_true rfl) (Nat.le_of_ble_eq_true rfl) (Nat.le_of_ble_eq_true rfl) (Nat.le_of_ble_eq_true rfl) rfl (fun v5 => ?_)
      refine J_if_le (pc := 24) (tgt := 31) hc dX8_harmOf_24 (by decide) ?_ ?_
      · refine J_iconst (pc := 31) (v := 0) hc dX8_harmOf_31 (by decide) ?_
        refine J_sub (l' := [some ((8, .ref x0) : TV), some ((0, .int x1) : TV), some ((0, .int x2) : TV), some ((0, .int x3) : TV), some ((0, .int x4) : TV), none]) ⟨rfl, ⟨rfl, ⟨rfl, ⟨rfl, ⟨rfl, trivial⟩⟩⟩⟩⟩ ?_
        exact jX8_harmOf_L32 hc he ih x0 x1 x2 x3 x4 0
      · refine J_iconst (pc := 27) (v := 1) hc dX8_harmOf_27 (by decide) ?_
        refine J_goto (pc := 28) (tgt := 32) hc dX8_harmOf_28 (by decide) ?_
        refine J_sub (l' := [some ((8, .ref x0) : TV), some ((0, .int x1) : TV), some ((0, .int x2) : TV), some ((0, .int x3) : TV), some ((0, .int x4) : TV), none]) ⟨rfl, ⟨rfl, ⟨rfl, ⟨rfl, ⟨rfl, trivial⟩⟩⟩⟩⟩ ?_
        exact jX8_harmOf_L32 hc he ih x0 x1 x2 x3 x4 1
set_option maxRecDepth 100000 in
set_option maxHeartbeats 4000000 in
theorem jX8_harmOf {κ : Cx} {fin : Int32 → Mm → Prop} (hc : Jc κ RX8 cX8_harmOf 6 3 0 0 66) (he : Ed κ cX8_harmOf 0 0 wI .ireturn fin) (x0 : Nat) (x1 : Int32) : Jg κ (wM κ) 6 fin 0 0 0 [some ((8, .ref x0) : TV), some ((0, .int x1) : TV), none, none, none, none] [] (fX8_harmOf x0 x1) := by
  unfold fX8_harmOf
  refine J_iconst (pc := 0) (v := 0) hc dX8_harmOf_0 (by decide) ?_
  refine J_istore_n (pc := 1) (l' := [some ((8, .ref x0) : TV), some ((0, .int x1) : TV), some ((0, .int 0) : TV), none, none, none]) hc dX8_harmOf_1 rfl (by decide) rfl rfl ?_
  refine J_iconst (pc := 2) (v := (-1)) hc dX8_harmOf_2 (by decide) ?_
  refine J_istore_n (pc := 3) (l' := [some ((8, .ref x0) : TV), some ((0, .int x1) : TV), some ((0, .int 0) : TV), some ((0, .int (-1)) : TV), none, none]) hc dX8_harmOf_3 rfl (by decide) rfl rfl ?_
  refine J_iconst (pc := 4) (v := 0) hc dX8_harmOf_4 (by decide) ?_
  refine J_istore (pc := 5) (l' := [some ((8, .ref x0) : TV), some ((0, .int x1) : TV), some ((0, .int 0) : TV), some ((0, .int (-1)) : TV), some ((0, .int 0) : TV), none]) hc dX8_harmOf_5 (by decide) rfl rfl ?_
  refine J_sub (l' := [some ((8, .ref x0) : TV), some ((0, .int x1) : TV), some ((0, .int 0) : TV), some ((0, .int (-1)) : TV), some ((0, .int 0) : TV), none]) ⟨rfl, ⟨rfl, ⟨rfl, ⟨rfl, ⟨rfl, trivial⟩⟩⟩⟩⟩ ?_
  exact jX8_harmOf_L7 hc he fu x0 x1 0 (-1) 0
theorem moX8_harmOf : MOk yX8_harmOf 1 := ⟨by decide +kernel, by decide +kernel, by decide +kernel⟩
set_option maxRecDepth 100000 in
set_option maxHeartbeats 4000000 in
theorem KX8_harmOf (x0 : Nat) (x1 : Int32) : Ct wI yX8_harmOf cX8_harmOf 6 (some .int) 3 0 0 66 [((8, .ref x0) : TV), ((0, .int x1) : TV)] (fX8_harmOf x0 x1) :=
  Ct_I (j := 4) (by decide +kernel) rfl rfl (Nat.le_of_ble_eq_true rfl) (fun κ fin hc he => jX8_harmOf hc he x0 x1)
set_option maxRecDepth 100000 in
set_option maxHeartbeats 4000000 in
theorem jX8_harm_L27 {κ : Cx} {fin : Int32 → Mm → Prop} (hc : Jc κ RX8 cX8_harm 3 9 0 0 202) (he : Ed κ cX8_harm 0 0 wI .ireturn fin) (x0 : Nat) (x1 : Int32) (x2 : Int32) (s0 : Int32) (s1 : Nat) : Jg κ (wM κ) 3 fin 0 0 27 [some ((8, .ref x0) : TV), some ((0, .int x1) : TV), some ((0, .int x2) : TV)] [((0, .int s0) : TV), ((8, .ref s1) : TV)] (fX8_harm_L27 x0 x1 x2 s0 s1) := by
  unfold fX8_harm_L27
  refine J_putI (pc := 27) hc clX8 (k := 0) (Nat.le_of_ble_eq_true rfl) rfl rfl tw1162 rfl rfl dX8_harm_27 ?_
  refine J_aload_n (pc := 30) hc dX8_harm_30 rfl rfl ?_
  refine J_getI (pc := 31) hc clX8 (k := 0) (Nat.le_of_ble_eq_true rfl) rfl tw1162 rfl dX8_harm_31 (fun v1 => ?_)
  refine J_if_le (pc := 34) (tgt := 39) hc dX8_harm_34 (by decide) ?_ ?_
  · refine J_aload_n (pc := 39) hc dX8_harm_39 rfl rfl ?_
    refine J_iload_n (pc := 40) hc dX8_harm_40 rfl rfl ?_
    refine J_callVv (pc := 41) hc clX8 (As := [((0, .int x1) : TV)]) (KX8_sendsHarmed x0 x1) dX8_harm_41 moX8_sendsHarmed rfl tw1572 tw1574 twp90 tw9 tw1575 rfl (Nat.le_of_ble_eq_true rfl) (Nat.le_of_ble_eq_true rfl) (Nat.le_of_ble_eq_true rfl) (Nat.le_of_ble_eq_true rfl) (Nat.le_of_ble_eq_true rfl) rfl (fun _ => ?_)
    refine J_aload_n (pc := 44) hc dX8_harm_44 rfl rfl ?_
    refine J_iload_n (pc := 45) hc dX8_harm_45 rfl rfl ?_
    refine J_callVi (pc := 46) hc clX8 (As := [((0, .int x2) : TV)]) (KX8_harmOf x0 x2) dX8_harm_46 moX8_harmOf rfl tw1576 tw1578 twp91 tw9 tw1579 rfl (Nat.le_of_ble_eq_true rfl) (Nat.le_of_ble_eq_true rfl) (Nat.le_of_ble_eq_true rfl) (Nat.le_of_ble_eq_true rfl) (Nat.le_of_ble_eq_true rfl) rfl (fun v2 => ?_)
    exact J_iret (pc := 49) he dX8_harm_49
  · refine J_iconst (pc := 37) (v := 0) hc dX8_harm_37 (by decide) ?_
    exact J_iret (pc := 38) he dX8_harm_38
set_option maxRecDepth 100000 in
set_option maxHeartbeats 4000000 in
theorem jX8_harm {κ : Cx} {fin : Int32 → Mm → Prop} (hc : Jc κ RX8 cX8_harm 3 9 0 0 202) (he : Ed κ cX8_harm 0 0 wI .ireturn fin) (x0 : Nat) (x1 : Int32) (x2 : Int32) : Jg κ (wM κ) 3 fin 0 0 0 [some ((8, .ref x0) : TV), some ((0, .int x1) : TV), some ((0, .int x2) : TV)] [] (fX8_harm x0 x1 x2) := by
  unfold fX8_harm
  refine J_aload_n (pc := 0) hc dX8_harm_0 rfl rfl ?_
  refine J_aload_n (pc := 1) hc dX8_harm_1 rfl rfl ?_
  refine J_iload_n (pc := 2) hc dX8_harm_2 rfl rfl ?_
  refine J_callVi (pc := 3) hc clX8 (As := [((0, .int x1) : TV)]) (KX8_isLine x0 x1) dX8_harm_3 moX8_isLine rfl tw1390 tw1392 twp66 tw9 tw1393 rfl (Nat.le_of_ble_eq_true rfl) (Nat.le_of_ble_eq_true rfl) (Nat.le_of_ble_eq_true rfl) (Nat.le_of_ble_eq_true rfl) (Nat.le_of_ble_eq_true rfl) rfl (fun v3 => ?_)
  refine J_if_ne (pc := 6) (tgt := 13) hc dX8_harm_6 (by decide) ?_ ?_
  · refine J_iload_n (pc := 13) hc dX8_harm_13 rfl rfl ?_
    refine J_iconst (pc := 14) (v := 0) hc dX8_harm_14 (by decide) ?_
    refine J_iconst (pc := 15) (v := 2) hc dX8_harm_15 (by decide) ?_
    refine J_callSi (pc := 16) hc (As := [((0, .int x2) : TV), ((0, .int 0) : TV), ((0, .int 2) : TV)]) (KX8_in x2 0 2) dX8_harm_16 moX8_in tw1298 tw1299 tw9 tw1300 rfl (Nat.le_of_ble_eq_true rfl) (Nat.le_of_ble_eq_true rfl) (Nat.le_of_ble_eq_true rfl) (Nat.le_of_ble_eq_true rfl) (Nat.le_of_ble_eq_true rfl) rfl (fun v4 => ?_)
    refine J_if_eq (pc := 19) (tgt := 26) hc dX8_harm_19 (by decide) ?_ ?_
    · refine J_iconst (pc := 26) (v := 2) hc dX8_harm_26 (by decide) ?_
      refine J_sub (l' := [some ((8, .ref x0) : TV), some ((0, .int x1) : TV), some ((0, .int x2) : TV)]) ⟨rfl, ⟨rfl, ⟨rfl, trivial⟩⟩⟩ ?_
      exact jX8_harm_L27 hc he x0 x1 x2 2 x0
    · refine J_iconst (pc := 22) (v := 0) hc dX8_harm_22 (by decide) ?_
      refine J_goto (pc := 23) (tgt := 27) hc dX8_harm_23 (by decide) ?_
      refine J_sub (l' := [some ((8, .ref x0) : TV), some ((0, .int x1) : TV), some ((0, .int x2) : TV)]) ⟨rfl, ⟨rfl, ⟨rfl, trivial⟩⟩⟩ ?_
      exact jX8_harm_L27 hc he x0 x1 x2 0 x0
  · refine J_iconst (pc := 9) (v := 1) hc dX8_harm_9 (by decide) ?_
    refine J_goto (pc := 10) (tgt := 27) hc dX8_harm_10 (by decide) ?_
    refine J_sub (l' := [some ((8, .ref x0) : TV), some ((0, .int x1) : TV), some ((0, .int x2) : TV)]) ⟨rfl, ⟨rfl, ⟨rfl, trivial⟩⟩⟩ ?_
    exact jX8_harm_L27 hc he x0 x1 x2 1 x0
theorem moX8_harm : MOk yX8_harm 2 := ⟨by decide +kernel, by decide +kernel, by decide +kernel⟩
set_option maxRecDepth 100000 in
set_option maxHeartbeats 4000000 in
theorem KX8_harm (x0 : Nat) (x1 : Int32) (x2 : Int32) : Ct wI yX8_harm cX8_harm 3 (some .int) 9 0 0 202 [((8, .ref x0) : TV), ((0, .int x1) : TV), ((0, .int x2) : TV)] (fX8_harm x0 x1 x2) :=
  Ct_I (j := 0) (by decide +kernel) rfl rfl (Nat.le_of_ble_eq_true rfl) (fun κ fin hc he => jX8_harm hc he x0 x1 x2)
set_option maxRecDepth 100000 in
set_option maxHeartbeats 4000000 in
theorem jX8_worst_L48 {κ : Cx} {fin : Int32 → Mm → Prop} (hc : Jc κ RX8 cX8_worst 5 9 0 0 202) (he : Ed κ cX8_worst 0 0 wI .ireturn fin) {k11 : Nat → Int32 → Int32 → Int32 → Mm → Option (Int32 × Mm)} (hk11 : ∀ (x0 : Nat) (x1 : Int32) (x2 : Int32) (x3 : Int32), Jg κ (wM κ) 5 fin 0 0 11 [some ((8, .ref x0) : TV), some ((0, .int x1) : TV), some ((0, .int x2) : TV), some ((0, .int x3) : TV), none] [] (k11 x0 x1 x2 x3)) (x0 : Nat) (x1 : Int32) (x2 : Int32) (x3 : Int32) : Jg κ (wM κ) 5 fin 0 0 48 [some ((8, .ref x0) : TV), some ((0, .int x1) : TV), some ((0, .int x2) : TV), some ((0, .int x3) : TV), none] [] (fX8_worst_L48 k11 x0 x1 x2 x3) := by
  unfold fX8_worst_L48
  refine J_iinc (pc := 48) (v := x3 + 1) (l' := [some ((8, .ref x0) : TV), some ((0, .int x1) : TV), some ((0, .int x2) : TV), some ((0, .int (x3 + 1)) : TV), none]) hc dX8_worst_48 rfl rfl (by decide) rfl rfl ?_
  refine J_goto (pc := 51) (tgt := 11) hc dX8_worst_51 (by decide) ?_
  refine J_sub (l' := [some ((8, .ref x0) : TV), some ((0, .int x1) : TV), some ((0, .int x2) : TV), some ((0, .int (x3 + 1)) : TV), none]) ⟨rfl, ⟨rfl, ⟨rfl, ⟨rfl, trivial⟩⟩⟩⟩ ?_
  exact hk11 x0 x1 x2 (x3 + 1)
set_option maxRecDepth 100000 in
set_option maxHeartbeats 4000000 in
theorem jX8_worst_L43 {κ : Cx} {fin : Int32 → Mm → Prop} (hc : Jc κ RX8 cX8_worst 5 9 0 0 202) (he : Ed κ cX8_worst 0 0 wI .ireturn fin) {k11 : Nat → Int32 → Int32 → Int32 → Mm → Option (Int32 × Mm)} (hk11 : ∀ (x0 : Nat) (x1 : Int32) (x2 : Int32) (x3 : Int32), Jg κ (wM κ) 5 fin 0 0 11 [some ((8, .ref x0) : TV), some ((0, .int x1) : TV), some ((0, .int x2) : TV), some ((0, .int x3) : TV), none] [] (k11 x0 x1 x2 x3)) (x0 : Nat) (x3 : Int32) (x4 : Int32) : Jg κ (wM κ) 5 fin 0 0 43 [some ((8, .ref x0) : TV), none, none, some ((0, .int x3) : TV), some ((0, .int x4) : TV)] [] (fX8_worst_L43 k11 x0 x3 x4) := by
  unfold fX8_worst_L43
  refine J_iload_n (pc := 43) hc dX8_worst_43 rfl rfl ?_
  refine J_istore_n (pc := 44) (l' := [some ((8, .ref x0) : TV), some ((0, .int x3) : TV), none, some ((0, .int x3) : TV), some ((0, .int x4) : TV)]) hc dX8_worst_44 rfl (by decide) rfl rfl ?_
  refine J_iload (pc := 45) hc dX8_worst_45 rfl ?_
  refine J_istore_n (pc := 47) (l' := [some ((8, .ref x0) : TV), some ((0, .int x3) : TV), some ((0, .int x4) : TV), some ((0, .int x3) : TV), some ((0, .int x4) : TV)]) hc dX8_worst_47 rfl (by decide) rfl rfl ?_
  refine J_sub (l' := [some ((8, .ref x0) : TV), some ((0, .int x3) : TV), some ((0, .int x4) : TV), some ((0, .int x3) : TV), none]) ⟨rfl, ⟨rfl, ⟨rfl, ⟨rfl, trivial⟩⟩⟩⟩ ?_
  exact jX8_worst_L48 hc he hk11 x0 x3 x4 x3
set_option maxRecDepth 100000 in
set_option maxHeartbeats 4000000 in
theorem jX8_worst_L11 {κ : Cx} {fin : Int32 → Mm → Prop} (hc : Jc κ RX8 cX8_worst 5 9 0 0 202) (he : Ed κ cX8_worst 0 0 wI .ireturn fin) : ∀ (n : Nat) (x0 : Nat) (x1 : Int32) (x2 : Int32) (x3 : Int32), Jg κ (wM κ) 5 fin 0 0 11 [some ((8, .ref x0) : TV), some ((0, .int x1) : TV), some ((0, .int x2) : TV), some ((0, .int x3) : TV), none] [] (fX8_worst_L11 n x0 x1 x2 x3) := by
  intro n
  induction n with
  | zero => intro x0 x1 x2 x3; exact J_fail
  | succ n ih =>
    intro x0 x1 x2 x3
    unfold fX8_worst_L11
    refine J_iload_n (pc := 11) hc dX8_worst_11 rfl rfl ?_
    refine J_aload_n (pc := 12) hc dX8_worst_12 rfl rfl ?_
    refine J_getA (pc := 13) hc clX8 (k := 1) (kd := 11) (Nat.le_of_ble_eq_true rfl) rfl (Nat.le_of_ble_eq_true rfl) (Nat.le_of_ble_eq_true rfl) tw1163 rfl dX8_worst_13 (fun v1 => ?_)
    refine J_iconst (pc := 16) (v := 1) hc dX8_worst_16 (by decide) ?_
    refine J_iald (pc := 17) hc dX8_worst_17 (fun v2 => ?_)
    refine J_icmp_ge (pc := 18) (tgt := 54) hc dX8_worst_18 (by decide) ?_ ?_
    · refine J_iload_n (pc := 54) hc dX8_worst_54 rfl rfl ?_
      exact J_iret (pc := 55) he dX8_worst_55
    · refine J_aload_n (pc := 21) hc dX8_worst_21 rfl rfl ?_
      refine J_iload_n (pc := 22) hc dX8_worst_22 rfl rfl ?_
      refine J_callVv (pc := 23) hc clX8 (As := [((0, .int x3) : TV)]) (KX8_sendsHarmed x0 x3) dX8_worst_23 moX8_sendsHarmed rfl tw1572 tw1574 twp90 tw9 tw1575 rfl (Nat.le_of_ble_eq_true rfl) (Nat.le_of_ble_eq_true rfl) (Nat.le_of_ble_eq_true rfl) (Nat.le_of_ble_eq_true rfl) (Nat.le_of_ble_eq_true rfl) rfl (fun _ => ?_)
      refine J_aload_n (pc := 26) hc dX8_worst_26 rfl rfl ?_
      refine J_callVi (pc := 27) hc clX8 (As := []) (KX8_wrongDots x0) dX8_worst_27 moX8_wrongDots rfl tw1552 tw1554 twp88 tw9 tw1555 rfl (Nat.le_of_ble_eq_true rfl) (Nat.le_of_ble_eq_true rfl) (Nat.le_of_ble_eq_true rfl) (Nat.le_of_ble_eq_true rfl) (Nat.le_of_ble_eq_true rfl) rfl (fun v3 => ?_)
      refine J_istore (pc := 30) (l' := [some ((8, .ref x0) : TV), some ((0, .int x1) : TV), some ((0, .int x2) : TV), some ((0, .int x3) : TV), some ((0, .int v3) : TV)]) hc dX8_worst_30 (by decide) rfl rfl ?_
      refine J_iload_n (pc := 32) hc dX8_worst_32 rfl rfl ?_
      refine J_iconst (pc := 33) (v := (-1)) hc dX8_worst_33 (by decide) ?_
      refine J_icmp_eq (pc := 34) (tgt := 43) hc dX8_worst_34 (by decide) ?_ ?_
      · refine J_sub (l' := [some ((8, .ref x0) : TV), none, none, some ((0, .int x3) : TV), some ((0, .int v3) : TV)]) ⟨rfl, ⟨rfl, ⟨rfl, trivial⟩⟩⟩ ?_
        exact jX8_worst_L43 hc he ih x0 x3 v3
      · refine J_iload (pc := 37) hc dX8_worst_37 rfl ?_
        refine J_iload_n (pc := 39) hc dX8_worst_39 rfl rfl ?_
        refine J_icmp_le (pc := 40) (tgt := 48) hc dX8_worst_40 (by decide) ?_ ?_
        · refine J_sub (l' := [some ((8, .ref x0) : TV), some ((0, .int x1) : TV), some ((0, .int x2) : TV), some ((0, .int x3) : TV), none]) ⟨rfl, ⟨rfl, ⟨rfl, ⟨rfl, trivial⟩⟩⟩⟩ ?_
          exact jX8_worst_L48 hc he ih x0 x1 x2 x3
        · refine J_sub (l' := [some ((8, .ref x0) : TV), none, none, some ((0, .int x3) : TV), some ((0, .int v3) : TV)]) ⟨rfl, ⟨rfl, ⟨rfl, trivial⟩⟩⟩ ?_
          exact jX8_worst_L43 hc he ih x0 x3 v3
set_option maxRecDepth 100000 in
set_option maxHeartbeats 4000000 in
theorem jX8_worst {κ : Cx} {fin : Int32 → Mm → Prop} (hc : Jc κ RX8 cX8_worst 5 9 0 0 202) (he : Ed κ cX8_worst 0 0 wI .ireturn fin) (x0 : Nat) : Jg κ (wM κ) 5 fin 0 0 0 [some ((8, .ref x0) : TV), none, none, none, none] [] (fX8_worst x0) := by
  unfold fX8_worst
  refine J_aload_n (pc := 0) hc dX8_worst_0 rfl rfl ?_
  refine J_iconst (pc := 1) (v := 0) hc dX8_worst_1 (by decide) ?_
  refine J_putI (pc := 2) hc clX8 (k := 0) (Nat.le_of_ble_eq_true rfl) rfl rfl tw1162 rfl rfl dX8_worst_2 ?_
  refine J_iconst (pc := 5) (v := (-1)) hc dX8_worst_5 (by decide) ?_
  refine J_istore_n (pc := 6) (l' := [some ((8, .ref x0) : TV), some ((0, .int (-1)) : TV), none, none, none]) hc dX8_worst_6 rfl (by decide) rfl rfl ?_
  refine J_iconst (pc := 7) (v := 0) hc dX8_worst_7 (by decide) ?_
  refine J_istore_n (pc := 8) (l' := [some ((8, .ref x0) : TV), some ((0, .int (-1)) : TV), some ((0, .int 0) : TV), none, none]) hc dX8_worst_8 rfl (by decide) rfl rfl ?_
  refine J_iconst (pc := 9) (v := 0) hc dX8_worst_9 (by decide) ?_
  refine J_istore_n (pc := 10) (l' := [some ((8, .ref x0) : TV), some ((0, .int (-1)) : TV), some ((0, .int 0) : TV), some ((0, .int 0) : TV), none]) hc dX8_worst_10 rfl (by decide) rfl rfl ?_
  refine J_sub (l' := [some ((8, .ref x0) : TV), some ((0, .int (-1)) : TV), some ((0, .int 0) : TV), some ((0, .int 0) : TV), none]) ⟨rfl, ⟨rfl, ⟨rfl, ⟨rfl, trivial⟩⟩⟩⟩ ?_
  exact jX8_worst_L11 hc he fu x0 (-1) 0 0
theorem moX8_worst : MOk yX8_worst 0 := ⟨by decide +kernel, by decide +kernel, by decide +kernel⟩
set_option maxRecDepth 100000 in
set_option maxHeartbeats 4000000 in
theorem KX8_worst (x0 : Nat) : Ct wI yX8_worst cX8_worst 5 (some .int) 9 0 0 202 [((8, .ref x0) : TV)] (fX8_worst x0) :=
  Ct_I (j := 4) (by decide +kernel) rfl rfl (Nat.le_of_ble_eq_true rfl) (fun κ fin hc he => jX8_worst hc he x0)
set_option maxRecDepth 100000 in
set_option maxHeartbeats 4000000 in
theorem jX8_bestEvery_L85 {κ : Cx} {fin : Int32 → Mm → Prop} (hc : Jc κ RX8 cX8_bestEvery 7 9 0 0 200) (he : Ed κ cX8_bestEvery 0 0 wI .ireturn fin) {k22 : Nat → Int32 → Int32 → Int32 → Int32 → Int32 → Mm → Option (Int32 × Mm)} (hk22 : ∀ (x0 : Nat) (x1 : Int32) (x2 : Int32) (x3 : Int32) (x4 : Int32) (x5 : Int32), Jg κ (wM κ) 7 fin 0 0 22 [some ((8, .ref x0) : TV), some ((0, .int x1) : TV), some ((0, .int x2) : TV), some ((0, .int x3) : TV), some ((0, .int x4) : TV), some ((0, .int x5) : TV), none] [] (k22 x0 x1 x2 x3 x4 x5)) (x0 : Nat) (x1 : Int32) (x2 : Int32) (x3 : Int32) (x4 : Int32) (x5 : Int32) : Jg κ (wM κ) 7 fin 0 0 85 [some ((8, .ref x0) : TV), some ((0, .int x1) : TV), some ((0, .int x2) : TV), some ((0, .int x3) : TV), some ((0, .int x4) : TV), some ((0, .int x5) : TV), none] [] (fX8_bestEvery_L85 k22 x0 x1 x2 x3 x4 x5) := by
  unfold fX8_bestEvery_L85
  refine J_iinc (pc := 85) (v := x5 + 1) (l' := [some ((8, .ref x0) : TV), some ((0, .int x1) : TV), some ((0, .int x2) : TV), some ((0, .int x3) : TV), some ((0, .int x4) : TV), some ((0, .int (x5 + 1)) : TV), none]) hc dX8_bestEvery_85 rfl rfl (by decide) rfl rfl ?_
  refine J_goto (pc := 88) (tgt := 22) hc dX8_bestEvery_88 (by decide) ?_
  refine J_sub (l' := [some ((8, .ref x0) : TV), some ((0, .int x1) : TV), some ((0, .int x2) : TV), some ((0, .int x3) : TV), some ((0, .int x4) : TV), some ((0, .int (x5 + 1)) : TV), none]) ⟨rfl, ⟨rfl, ⟨rfl, ⟨rfl, ⟨rfl, ⟨rfl, trivial⟩⟩⟩⟩⟩⟩ ?_
  exact hk22 x0 x1 x2 x3 x4 (x5 + 1)
set_option maxRecDepth 100000 in
set_option maxHeartbeats 4000000 in
theorem jX8_bestEvery_L73 {κ : Cx} {fin : Int32 → Mm → Prop} (hc : Jc κ RX8 cX8_bestEvery 7 9 0 0 200) (he : Ed κ cX8_bestEvery 0 0 wI .ireturn fin) {k22 : Nat → Int32 → Int32 → Int32 → Int32 → Int32 → Mm → Option (Int32 × Mm)} (hk22 : ∀ (x0 : Nat) (x1 : Int32) (x2 : Int32) (x3 : Int32) (x4 : Int32) (x5 : Int32), Jg κ (wM κ) 7 fin 0 0 22 [some ((8, .ref x0) : TV), some ((0, .int x1) : TV), some ((0, .int x2) : TV), some ((0, .int x3) : TV), some ((0, .int x4) : TV), some ((0, .int x5) : TV), none] [] (k22 x0 x1 x2 x3 x4 x5)) (x0 : Nat) (x1 : Int32) (x5 : Int32) (x6 : Int32) : Jg κ (wM κ) 7 fin 0 0 73 [some ((8, .ref x0) : TV), some ((0, .int x1) : TV), none, none, none, some ((0, .int x5) : TV), some ((0, .int x6) : TV)] [] (fX8_bestEvery_L73 k22 x0 x1 x5 x6) := by
  unfold fX8_bestEvery_L73
  refine J_iload (pc := 73) hc dX8_bestEvery_73 rfl ?_
  refine J_istore_n (pc := 75) (l' := [some ((8, .ref x0) : TV), some ((0, .int x1) : TV), some ((0, .int x5) : TV), none, none, some ((0, .int x5) : TV), some ((0, .int x6) : TV)]) hc dX8_bestEvery_75 rfl (by decide) rfl rfl ?_
  refine J_iload (pc := 76) hc dX8_bestEvery_76 rfl ?_
  refine J_istore_n (pc := 78) (l' := [some ((8, .ref x0) : TV), some ((0, .int x1) : TV), some ((0, .int x5) : TV), some ((0, .int x6) : TV), none, some ((0, .int x5) : TV), some ((0, .int x6) : TV)]) hc dX8_bestEvery_78 rfl (by decide) rfl rfl ?_
  refine J_aload_n (pc := 79) hc dX8_bestEvery_79 rfl rfl ?_
  refine J_getI (pc := 80) hc clX8 (k := 26) (Nat.le_of_ble_eq_true rfl) rfl tw1188 rfl dX8_bestEvery_80 (fun v1 => ?_)
  refine J_istore (pc := 83) (l' := [some ((8, .ref x0) : TV), some ((0, .int x1) : TV), some ((0, .int x5) : TV), some ((0, .int x6) : TV), some ((0, .int v1) : TV), some ((0, .int x5) : TV), some ((0, .int x6) : TV)]) hc dX8_bestEvery_83 (by decide) rfl rfl ?_
  refine J_sub (l' := [some ((8, .ref x0) : TV), some ((0, .int x1) : TV), some ((0, .int x5) : TV), some ((0, .int x6) : TV), some ((0, .int v1) : TV), some ((0, .int x5) : TV), none]) ⟨rfl, ⟨rfl, ⟨rfl, ⟨rfl, ⟨rfl, ⟨rfl, trivial⟩⟩⟩⟩⟩⟩ ?_
  exact jX8_bestEvery_L85 hc he hk22 x0 x1 x5 x6 v1 x5
set_option maxRecDepth 100000 in
set_option maxHeartbeats 4000000 in
theorem jX8_bestEvery_L22 {κ : Cx} {fin : Int32 → Mm → Prop} (hc : Jc κ RX8 cX8_bestEvery 7 9 0 0 200) (he : Ed κ cX8_bestEvery 0 0 wI .ireturn fin) : ∀ (n : Nat) (x0 : Nat) (x1 : Int32) (x2 : Int32) (x3 : Int32) (x4 : Int32) (x5 : Int32), Jg κ (wM κ) 7 fin 0 0 22 [some ((8, .ref x0) : TV), some ((0, .int x1) : TV), some ((0, .int x2) : TV), some ((0, .int x3) : TV), some ((0, .int x4) : TV), some ((0, .int x5) : TV), none] [] (fX8_bestEvery_L22 n x0 x1 x2 x3 x4 x5) := by
  intro n
  induction n with
  | zero => intro x0 x1 x2 x3 x4 x5; exact J_fail
  | succ n ih =>
    intro x0 x1 x2 x3 x4 x5
    unfold fX8_bestEvery_L22
    refine J_iload (pc := 22) hc dX8_bestEvery_22 rfl ?_
    refine J_bipush (pc := 24) (v := 8) hc dX8_bestEvery_24 (by decide) ?_
    refine J_icmp_gt (pc := 26) (tgt := 91) hc dX8_bestEvery_26 (by decide) ?_ ?_
    · refine J_aload_n (pc := 91) hc dX8_bestEvery_91 rfl rfl ?_
      refine J_getA (pc := 92) hc clX8 (k := 1) (kd := 11) (Nat.le_of_ble_eq_true rfl) rfl (Nat.le_of_ble_eq_true rfl) (Nat.le_of_ble_eq_true rfl) tw1163 rfl dX8_bestEvery_92 (fun v2 => ?_)
      refine J_iconst (pc := 95) (v := 2) hc dX8_bestEvery_95 (by decide) ?_
      refine J_iload_n (pc := 96) hc dX8_bestEvery_96 rfl rfl ?_
      refine J_iast (pc := 97) hc dX8_bestEvery_97 ?_
      refine J_iload_n (pc := 98) hc dX8_bestEvery_98 rfl rfl ?_
      exact J_iret (pc := 99) he dX8_bestEvery_99
    · refine J_aload_n (pc := 29) hc dX8_bestEvery_29 rfl rfl ?_
      refine J_getA (pc := 30) hc clX8 (k := 1) (kd := 11) (Nat.le_of_ble_eq_true rfl) rfl (Nat.le_of_ble_eq_true rfl) (Nat.le_of_ble_eq_true rfl) tw1163 rfl dX8_bestEvery_30 (fun v3 => ?_)
      refine J_iconst (pc := 33) (v := 2) hc dX8_bestEvery_33 (by decide) ?_
      refine J_iload (pc := 34) hc dX8_bestEvery_34 rfl ?_
      refine J_iast (pc := 36) hc dX8_bestEvery_36 ?_
      refine J_aload_n (pc := 37) hc dX8_bestEvery_37 rfl rfl ?_
      refine J_callVv (pc := 38) hc clX8 (As := []) (KX8_sendsPage x0) dX8_bestEvery_38 moX8_sendsPage rfl tw1524 tw1526 twp81 tw9 tw1527 rfl (Nat.le_of_ble_eq_true rfl) (Nat.le_of_ble_eq_true rfl) (Nat.le_of_ble_eq_true rfl) (Nat.le_of_ble_eq_true rfl) (Nat.le_of_ble_eq_true rfl) rfl (fun _ => ?_)
      refine J_aload_n (pc := 41) hc dX8_bestEvery_41 rfl rfl ?_
      refine J_callVi (pc := 42) hc clX8 (As := []) (KX8_wrongDots x0) dX8_bestEvery_42 moX8_wrongDots rfl tw1552 tw1554 twp88 tw9 tw1555 rfl (Nat.le_of_ble_eq_true rfl) (Nat.le_of_ble_eq_true rfl) (Nat.le_of_ble_eq_true rfl) (Nat.le_of_ble_eq_true rfl) (Nat.le_of_ble_eq_true rfl) rfl (fun v4 => ?_)
      refine J_istore (pc := 45) (l' := [some ((8, .ref x0) : TV), some ((0, .int x1) : TV), some ((0, .int x2) : TV), some ((0, .int x3) : TV), some ((0, .int x4) : TV), some ((0, .int x5) : TV), some ((0, .int v4) : TV)]) hc dX8_bestEvery_45 (by decide) rfl rfl ?_
      refine J_iload_n (pc := 47) hc dX8_bestEvery_47 rfl rfl ?_
      refine J_iconst (pc := 48) (v := (-1)) hc dX8_bestEvery_48 (by decide) ?_
      refine J_icmp_eq (pc := 49) (tgt := 73) hc dX8_bestEvery_49 (by decide) ?_ ?_
      · refine J_sub (l' := [some ((8, .ref x0) : TV), some ((0, .int x1) : TV), none, none, none, some ((0, .int x5) : TV), some ((0, .int v4) : TV)]) ⟨rfl, ⟨rfl, ⟨rfl, ⟨rfl, trivial⟩⟩⟩⟩ ?_
        exact jX8_bestEvery_L73 hc he ih x0 x1 x5 v4
      · refine J_iload (pc := 52) hc dX8_bestEvery_52 rfl ?_
        refine J_iload_n (pc := 54) hc dX8_bestEvery_54 rfl rfl ?_
        refine J_icmp_lt (pc := 55) (tgt := 73) hc dX8_bestEvery_55 (by decide) ?_ ?_
        · refine J_sub (l' := [some ((8, .ref x0) : TV), some ((0, .int x1) : TV), none, none, none, some ((0, .int x5) : TV), some ((0, .int v4) : TV)]) ⟨rfl, ⟨rfl, ⟨rfl, ⟨rfl, trivial⟩⟩⟩⟩ ?_
          exact jX8_bestEvery_L73 hc he ih x0 x1 x5 v4
        · refine J_iload (pc := 58) hc dX8_bestEvery_58 rfl ?_
          refine J_iload_n (pc := 60) hc dX8_bestEvery_60 rfl rfl ?_
          refine J_icmp_ne (pc := 61) (tgt := 85) hc dX8_bestEvery_61 (by decide) ?_ ?_
          · refine J_sub (l' := [some ((8, .ref x0) : TV), some ((0, .int x1) : TV), some ((0, .int x2) : TV), some ((0, .int x3) : TV), some ((0, .int x4) : TV), some ((0, .int x5) : TV), none]) ⟨rfl, ⟨rfl, ⟨rfl, ⟨rfl, ⟨rfl, ⟨rfl, trivial⟩⟩⟩⟩⟩⟩ ?_
            exact jX8_bestEvery_L85 hc he ih x0 x1 x2 x3 x4 x5
          · refine J_aload_n (pc := 64) hc dX8_bestEvery_64 rfl rfl ?_
            refine J_getI (pc := 65) hc clX8 (k := 26) (Nat.le_of_ble_eq_true rfl) rfl tw1188 rfl dX8_bestEvery_65 (fun v5 => ?_)
            refine J_iload (pc := 68) hc dX8_bestEvery_68 rfl ?_
            refine J_icmp_ge (pc := 70) (tgt := 85) hc dX8_bestEvery_70 (by decide) ?_ ?_
            · refine J_sub (l' := [some ((8, .ref x0) : TV), some ((0, .int x1) : TV), some ((0, .int x2) : TV), some ((0, .int x3) : TV), some ((0, .int x4) : TV), some ((0, .int x5) : TV), none]) ⟨rfl, ⟨rfl, ⟨rfl, ⟨rfl, ⟨rfl, ⟨rfl, trivial⟩⟩⟩⟩⟩⟩ ?_
              exact jX8_bestEvery_L85 hc he ih x0 x1 x2 x3 x4 x5
            · refine J_sub (l' := [some ((8, .ref x0) : TV), some ((0, .int x1) : TV), none, none, none, some ((0, .int x5) : TV), some ((0, .int v4) : TV)]) ⟨rfl, ⟨rfl, ⟨rfl, ⟨rfl, trivial⟩⟩⟩⟩ ?_
              exact jX8_bestEvery_L73 hc he ih x0 x1 x5 v4
set_option maxRecDepth 100000 in
set_option maxHeartbeats 4000000 in
theorem jX8_bestEvery {κ : Cx} {fin : Int32 → Mm → Prop} (hc : Jc κ RX8 cX8_bestEvery 7 9 0 0 200) (he : Ed κ cX8_bestEvery 0 0 wI .ireturn fin) (x0 : Nat) : Jg κ (wM κ) 7 fin 0 0 0 [some ((8, .ref x0) : TV), none, none, none, none, none, none] [] (fX8_bestEvery x0) := by
  unfold fX8_bestEvery
  refine J_aload_n (pc := 0) hc dX8_bestEvery_0 rfl rfl ?_
  refine J_iconst (pc := 1) (v := 0) hc dX8_bestEvery_1 (by decide) ?_
  refine J_putI (pc := 2) hc clX8 (k := 0) (Nat.le_of_ble_eq_true rfl) rfl rfl tw1162 rfl rfl dX8_bestEvery_2 ?_
  refine J_aload_n (pc := 5) hc dX8_bestEvery_5 rfl rfl ?_
  refine J_getA (pc := 6) hc clX8 (k := 1) (kd := 11) (Nat.le_of_ble_eq_true rfl) rfl (Nat.le_of_ble_eq_true rfl) (Nat.le_of_ble_eq_true rfl) tw1163 rfl dX8_bestEvery_6 (fun v6 => ?_)
  refine J_iconst (pc := 9) (v := 2) hc dX8_bestEvery_9 (by decide) ?_
  refine J_iald (pc := 10) hc dX8_bestEvery_10 (fun v7 => ?_)
  refine J_istore_n (pc := 11) (l' := [some ((8, .ref x0) : TV), some ((0, .int v7) : TV), none, none, none, none, none]) hc dX8_bestEvery_11 rfl (by decide) rfl rfl ?_
  refine J_iconst (pc := 12) (v := (-1)) hc dX8_bestEvery_12 (by decide) ?_
  refine J_istore_n (pc := 13) (l' := [some ((8, .ref x0) : TV), some ((0, .int v7) : TV), some ((0, .int (-1)) : TV), none, none, none, none]) hc dX8_bestEvery_13 rfl (by decide) rfl rfl ?_
  refine J_iconst (pc := 14) (v := 0) hc dX8_bestEvery_14 (by decide) ?_
  refine J_istore_n (pc := 15) (l' := [some ((8, .ref x0) : TV), some ((0, .int v7) : TV), some ((0, .int (-1)) : TV), some ((0, .int 0) : TV), none, none, none]) hc dX8_bestEvery_15 rfl (by decide) rfl rfl ?_
  refine J_iconst (pc := 16) (v := 0) hc dX8_bestEvery_16 (by decide) ?_
  refine J_istore (pc := 17) (l' := [some ((8, .ref x0) : TV), some ((0, .int v7) : TV), some ((0, .int (-1)) : TV), some ((0, .int 0) : TV), some ((0, .int 0) : TV), none, none]) hc dX8_bestEvery_17 (by decide) rfl rfl ?_
  refine J_iconst (pc := 19) (v := 1) hc dX8_bestEvery_19 (by decide) ?_
  refine J_istore (pc := 20) (l' := [some ((8, .ref x0) : TV), some ((0, .int v7) : TV), some ((0, .int (-1)) : TV), some ((0, .int 0) : TV), some ((0, .int 0) : TV), some ((0, .int 1) : TV), none]) hc dX8_bestEvery_20 (by decide) rfl rfl ?_
  refine J_sub (l' := [some ((8, .ref x0) : TV), some ((0, .int v7) : TV), some ((0, .int (-1)) : TV), some ((0, .int 0) : TV), some ((0, .int 0) : TV), some ((0, .int 1) : TV), none]) ⟨rfl, ⟨rfl, ⟨rfl, ⟨rfl, ⟨rfl, ⟨rfl, trivial⟩⟩⟩⟩⟩⟩ ?_
  exact jX8_bestEvery_L22 hc he fu x0 v7 (-1) 0 0 1
theorem moX8_bestEvery : MOk yX8_bestEvery 0 := ⟨by decide +kernel, by decide +kernel, by decide +kernel⟩
set_option maxRecDepth 100000 in
set_option maxHeartbeats 4000000 in
theorem KX8_bestEvery (x0 : Nat) : Ct wI yX8_bestEvery cX8_bestEvery 7 (some .int) 9 0 0 200 [((8, .ref x0) : TV)] (fX8_bestEvery x0) :=
  Ct_I (j := 6) (by decide +kernel) rfl rfl (Nat.le_of_ble_eq_true rfl) (fun κ fin hc he => jX8_bestEvery hc he x0)
set_option maxRecDepth 100000 in
set_option maxHeartbeats 4000000 in
theorem jX8_needsSteps_L57 {κ : Cx} {fin : Int32 → Mm → Prop} (hc : Jc κ RX8 cX8_needsSteps 4 9 0 0 200) (he : Ed κ cX8_needsSteps 0 0 wI .ireturn fin) (x0 : Nat) (x1 : Int32) (x2 : Int32) : Jg κ (wM κ) 4 fin 0 0 57 [some ((8, .ref x0) : TV), some ((0, .int x1) : TV), some ((0, .int x2) : TV), none] [] (fX8_needsSteps_L57 x0 x1 x2) := by
  unfold fX8_needsSteps_L57
  refine J_aload_n (pc := 57) hc dX8_needsSteps_57 rfl rfl ?_
  refine J_getA (pc := 58) hc clX8 (k := 1) (kd := 11) (Nat.le_of_ble_eq_true rfl) rfl (Nat.le_of_ble_eq_true rfl) (Nat.le_of_ble_eq_true rfl) tw1163 rfl dX8_needsSteps_58 (fun v1 => ?_)
  refine J_iconst (pc := 61) (v := 5) hc dX8_needsSteps_61 (by decide) ?_
  refine J_iload_n (pc := 62) hc dX8_needsSteps_62 rfl rfl ?_
  refine J_iast (pc := 63) hc dX8_needsSteps_63 ?_
  refine J_iload_n (pc := 64) hc dX8_needsSteps_64 rfl rfl ?_
  exact J_iret (pc := 65) he dX8_needsSteps_65
set_option maxRecDepth 100000 in
set_option maxHeartbeats 4000000 in
theorem jX8_needsSteps_L50 {κ : Cx} {fin : Int32 → Mm → Prop} (hc : Jc κ RX8 cX8_needsSteps 4 9 0 0 200) (he : Ed κ cX8_needsSteps 0 0 wI .ireturn fin) {k16 : Nat → Int32 → Int32 → Int32 → Mm → Option (Int32 × Mm)} (hk16 : ∀ (x0 : Nat) (x1 : Int32) (x2 : Int32) (x3 : Int32), Jg κ (wM κ) 4 fin 0 0 16 [some ((8, .ref x0) : TV), some ((0, .int x1) : TV), some ((0, .int x2) : TV), some ((0, .int x3) : TV)] [] (k16 x0 x1 x2 x3)) (x0 : Nat) (x1 : Int32) (x3 : Int32) (s0 : Int32) : Jg κ (wM κ) 4 fin 0 0 50 [some ((8, .ref x0) : TV), some ((0, .int x1) : TV), none, some ((0, .int x3) : TV)] [((0, .int s0) : TV)] (fX8_needsSteps_L50 k16 x0 x1 x3 s0) := by
  unfold fX8_needsSteps_L50
  refine J_istore_n (pc := 50) (l' := [some ((8, .ref x0) : TV), some ((0, .int x1) : TV), some ((0, .int s0) : TV), some ((0, .int x3) : TV)]) hc dX8_needsSteps_50 rfl (by decide) rfl rfl ?_
  refine J_iinc (pc := 51) (v := x3 + 1) (l' := [some ((8, .ref x0) : TV), some ((0, .int x1) : TV), some ((0, .int s0) : TV), some ((0, .int (x3 + 1)) : TV)]) hc dX8_needsSteps_51 rfl rfl (by decide) rfl rfl ?_
  refine J_goto (pc := 54) (tgt := 16) hc dX8_needsSteps_54 (by decide) ?_
  refine J_sub (l' := [some ((8, .ref x0) : TV), some ((0, .int x1) : TV), some ((0, .int s0) : TV), some ((0, .int (x3 + 1)) : TV)]) ⟨rfl, ⟨rfl, ⟨rfl, ⟨rfl, trivial⟩⟩⟩⟩ ?_
  exact hk16 x0 x1 s0 (x3 + 1)
set_option maxRecDepth 100000 in
set_option maxHeartbeats 4000000 in
theorem jX8_needsSteps_L16 {κ : Cx} {fin : Int32 → Mm → Prop} (hc : Jc κ RX8 cX8_needsSteps 4 9 0 0 200) (he : Ed κ cX8_needsSteps 0 0 wI .ireturn fin) : ∀ (n : Nat) (x0 : Nat) (x1 : Int32) (x2 : Int32) (x3 : Int32), Jg κ (wM κ) 4 fin 0 0 16 [some ((8, .ref x0) : TV), some ((0, .int x1) : TV), some ((0, .int x2) : TV), some ((0, .int x3) : TV)] [] (fX8_needsSteps_L16 n x0 x1 x2 x3) := by
  intro n
  induction n with
  | zero => intro x0 x1 x2 x3; exact J_fail
  | succ n ih =>
    intro x0 x1 x2 x3
    unfold fX8_needsSteps_L16
    refine J_iload_n (pc := 16) hc dX8_needsSteps_16 rfl rfl ?_
    refine J_bipush (pc := 17) (v := 9) hc dX8_needsSteps_17 (by decide) ?_
    refine J_icmp_gt (pc := 19) (tgt := 57) hc dX8_needsSteps_19 (by decide) ?_ ?_
    · refine J_sub (l' := [some ((8, .ref x0) : TV), some ((0, .int x1) : TV), some ((0, .int x2) : TV), none]) ⟨rfl, ⟨rfl, ⟨rfl, trivial⟩⟩⟩ ?_
      exact jX8_needsSteps_L57 hc he x0 x1 x2
    · refine J_iload_n (pc := 22) hc dX8_needsSteps_22 rfl rfl ?_
      refine J_iconst (pc := 23) (v := (-1)) hc dX8_needsSteps_23 (by decide) ?_
      refine J_icmp_ne (pc := 24) (tgt := 57) hc dX8_needsSteps_24 (by decide) ?_ ?_
      · refine J_sub (l' := [some ((8, .ref x0) : TV), some ((0, .int x1) : TV), some ((0, .int x2) : TV), none]) ⟨rfl, ⟨rfl, ⟨rfl, trivial⟩⟩⟩ ?_
        exact jX8_needsSteps_L57 hc he x0 x1 x2
      · refine J_aload_n (pc := 27) hc dX8_needsSteps_27 rfl rfl ?_
        refine J_getA (pc := 28) hc clX8 (k := 1) (kd := 11) (Nat.le_of_ble_eq_true rfl) rfl (Nat.le_of_ble_eq_true rfl) (Nat.le_of_ble_eq_true rfl) tw1163 rfl dX8_needsSteps_28 (fun v2 => ?_)
        refine J_iconst (pc := 31) (v := 5) hc dX8_needsSteps_31 (by decide) ?_
        refine J_iload_n (pc := 32) hc dX8_needsSteps_32 rfl rfl ?_
        refine J_iast (pc := 33) hc dX8_needsSteps_33 ?_
        refine J_aload_n (pc := 34) hc dX8_needsSteps_34 rfl rfl ?_
        refine J_callVv (pc := 35) hc clX8 (As := []) (KX8_sendsPage x0) dX8_needsSteps_35 moX8_sendsPage rfl tw1524 tw1526 twp81 tw9 tw1527 rfl (Nat.le_of_ble_eq_true rfl) (Nat.le_of_ble_eq_true rfl) (Nat.le_of_ble_eq_true rfl) (Nat.le_of_ble_eq_true rfl) (Nat.le_of_ble_eq_true rfl) rfl (fun _ => ?_)
        refine J_aload_n (pc := 38) hc dX8_needsSteps_38 rfl rfl ?_
        refine J_callVi (pc := 39) hc clX8 (As := []) (KX8_wrongDots x0) dX8_needsSteps_39 moX8_wrongDots rfl tw1552 tw1554 twp88 tw9 tw1555 rfl (Nat.le_of_ble_eq_true rfl) (Nat.le_of_ble_eq_true rfl) (Nat.le_of_ble_eq_true rfl) (Nat.le_of_ble_eq_true rfl) (Nat.le_of_ble_eq_true rfl) rfl (fun v3 => ?_)
        refine J_if_ne (pc := 42) (tgt := 49) hc dX8_needsSteps_42 (by decide) ?_ ?_
        · refine J_iconst (pc := 49) (v := (-1)) hc dX8_needsSteps_49 (by decide) ?_
          refine J_sub (l' := [some ((8, .ref x0) : TV), some ((0, .int x1) : TV), none, some ((0, .int x3) : TV)]) ⟨rfl, ⟨rfl, ⟨rfl, trivial⟩⟩⟩ ?_
          exact jX8_needsSteps_L50 hc he ih x0 x1 x3 (-1)
        · refine J_iload_n (pc := 45) hc dX8_needsSteps_45 rfl rfl ?_
          refine J_goto (pc := 46) (tgt := 50) hc dX8_needsSteps_46 (by decide) ?_
          refine J_sub (l' := [some ((8, .ref x0) : TV), some ((0, .int x1) : TV), none, some ((0, .int x3) : TV)]) ⟨rfl, ⟨rfl, ⟨rfl, trivial⟩⟩⟩ ?_
          exact jX8_needsSteps_L50 hc he ih x0 x1 x3 x3
set_option maxRecDepth 100000 in
set_option maxHeartbeats 4000000 in
theorem jX8_needsSteps {κ : Cx} {fin : Int32 → Mm → Prop} (hc : Jc κ RX8 cX8_needsSteps 4 9 0 0 200) (he : Ed κ cX8_needsSteps 0 0 wI .ireturn fin) (x0 : Nat) : Jg κ (wM κ) 4 fin 0 0 0 [some ((8, .ref x0) : TV), none, none, none] [] (fX8_needsSteps x0) := by
  unfold fX8_needsSteps
  refine J_aload_n (pc := 0) hc dX8_needsSteps_0 rfl rfl ?_
  refine J_iconst (pc := 1) (v := 0) hc dX8_needsSteps_1 (by decide) ?_
  refine J_putI (pc := 2) hc clX8 (k := 0) (Nat.le_of_ble_eq_true rfl) rfl rfl tw1162 rfl rfl dX8_needsSteps_2 ?_
  refine J_aload_n (pc := 5) hc dX8_needsSteps_5 rfl rfl ?_
  refine J_getA (pc := 6) hc clX8 (k := 1) (kd := 11) (Nat.le_of_ble_eq_true rfl) rfl (Nat.le_of_ble_eq_true rfl) (Nat.le_of_ble_eq_true rfl) tw1163 rfl dX8_needsSteps_6 (fun v4 => ?_)
  refine J_iconst (pc := 9) (v := 5) hc dX8_needsSteps_9 (by decide) ?_
  refine J_iald (pc := 10) hc dX8_needsSteps_10 (fun v5 => ?_)
  refine J_istore_n (pc := 11) (l' := [some ((8, .ref x0) : TV), some ((0, .int v5) : TV), none, none]) hc dX8_needsSteps_11 rfl (by decide) rfl rfl ?_
  refine J_iconst (pc := 12) (v := (-1)) hc dX8_needsSteps_12 (by decide) ?_
  refine J_istore_n (pc := 13) (l' := [some ((8, .ref x0) : TV), some ((0, .int v5) : TV), some ((0, .int (-1)) : TV), none]) hc dX8_needsSteps_13 rfl (by decide) rfl rfl ?_
  refine J_iconst (pc := 14) (v := 0) hc dX8_needsSteps_14 (by decide) ?_
  refine J_istore_n (pc := 15) (l' := [some ((8, .ref x0) : TV), some ((0, .int v5) : TV), some ((0, .int (-1)) : TV), some ((0, .int 0) : TV)]) hc dX8_needsSteps_15 rfl (by decide) rfl rfl ?_
  refine J_sub (l' := [some ((8, .ref x0) : TV), some ((0, .int v5) : TV), some ((0, .int (-1)) : TV), some ((0, .int 0) : TV)]) ⟨rfl, ⟨rfl, ⟨rfl, ⟨rfl, trivial⟩⟩⟩⟩ ?_
  exact jX8_needsSteps_L16 hc he fu x0 v5 (-1) 0
theorem moX8_needsSteps : MOk yX8_needsSteps 0 := ⟨by decide +kernel, by decide +kernel, by decide +kernel⟩
set_option maxRecDepth 100000 in
set_option maxHeartbeats 4000000 in
theorem KX8_needsSteps (x0 : Nat) : Ct wI yX8_needsSteps cX8_needsSteps 4 (some .int) 9 0 0 200 [((8, .ref x0) : TV)] (fX8_needsSteps x0) :=
  Ct_I (j := 3) (by decide +kernel) rfl rfl (Nat.le_of_ble_eq_true rfl) (fun κ fin hc he => jX8_needsSteps hc he x0)
set_option maxRecDepth 100000 in
set_option maxHeartbeats 4000000 in
theorem jX8_perDot {κ : Cx} {fin : UInt64 → Mm → Prop} (hc : Jc κ RX8 cX8_perDot 1 9 0 0 200) (he : Ed κ cX8_perDot 0 0 wD .dreturn fin) (x0 : Nat) : Jg κ (wM κ) 1 fin 0 0 0 [some ((8, .ref x0) : TV)] [] (fX8_perDot x0) := by
  unfold fX8_perDot
  refine J_aload_n (pc := 0) hc dX8_perDot_0 rfl rfl ?_
  refine J_iconst (pc := 1) (v := 0) hc dX8_perDot_1 (by decide) ?_
  refine J_putI (pc := 2) hc clX8 (k := 0) (Nat.le_of_ble_eq_true rfl) rfl rfl tw1162 rfl rfl dX8_perDot_2 ?_
  refine J_aload_n (pc := 5) hc dX8_perDot_5 rfl rfl ?_
  refine J_getA (pc := 6) hc clX8 (k := 1) (kd := 11) (Nat.le_of_ble_eq_true rfl) rfl (Nat.le_of_ble_eq_true rfl) (Nat.le_of_ble_eq_true rfl) tw1163 rfl dX8_perDot_6 (fun v1 => ?_)
  refine J_iconst (pc := 9) (v := 1) hc dX8_perDot_9 (by decide) ?_
  refine J_iald (pc := 10) hc dX8_perDot_10 (fun v2 => ?_)
  refine J_if_ne (pc := 11) (tgt := 16) hc dX8_perDot_11 (by decide) ?_ ?_
  · refine J_aload_n (pc := 16) hc dX8_perDot_16 rfl rfl ?_
    refine J_callVv (pc := 17) hc clX8 (As := []) (KX8_sendsPage x0) dX8_perDot_17 moX8_sendsPage rfl tw1524 tw1526 twp81 tw9 tw1527 rfl (Nat.le_of_ble_eq_true rfl) (Nat.le_of_ble_eq_true rfl) (Nat.le_of_ble_eq_true rfl) (Nat.le_of_ble_eq_true rfl) (Nat.le_of_ble_eq_true rfl) rfl (fun _ => ?_)
    refine J_aload_n (pc := 20) hc dX8_perDot_20 rfl rfl ?_
    refine J_getI (pc := 21) hc clX8 (k := 26) (Nat.le_of_ble_eq_true rfl) rfl tw1188 rfl dX8_perDot_21 (fun v3 => ?_)
    refine J_i2d (pc := 24) hc dX8_perDot_24 ?_
    refine J_aload_n (pc := 25) hc dX8_perDot_25 rfl rfl ?_
    refine J_getA (pc := 26) hc clX8 (k := 1) (kd := 11) (Nat.le_of_ble_eq_true rfl) rfl (Nat.le_of_ble_eq_true rfl) (Nat.le_of_ble_eq_true rfl) tw1163 rfl dX8_perDot_26 (fun v4 => ?_)
    refine J_iconst (pc := 29) (v := 0) hc dX8_perDot_29 (by decide) ?_
    refine J_iald (pc := 30) hc dX8_perDot_30 (fun v5 => ?_)
    refine J_aload_n (pc := 31) hc dX8_perDot_31 rfl rfl ?_
    refine J_getA (pc := 32) hc clX8 (k := 1) (kd := 11) (Nat.le_of_ble_eq_true rfl) rfl (Nat.le_of_ble_eq_true rfl) (Nat.le_of_ble_eq_true rfl) tw1163 rfl dX8_perDot_32 (fun v6 => ?_)
    refine J_iconst (pc := 35) (v := 1) hc dX8_perDot_35 (by decide) ?_
    refine J_iald (pc := 36) hc dX8_perDot_36 (fun v7 => ?_)
    refine J_imul (pc := 37) hc dX8_perDot_37 ?_
    refine J_i2d (pc := 38) hc dX8_perDot_38 ?_
    refine J_ddiv (pc := 39) hc dX8_perDot_39 ?_
    exact J_dret (pc := 40) he dX8_perDot_40
  · refine J_dconst0 (pc := 14) hc dX8_perDot_14 ?_
    exact J_dret (pc := 15) he dX8_perDot_15
theorem moX8_perDot : MOk yX8_perDot 0 := ⟨by decide +kernel, by decide +kernel, by decide +kernel⟩
set_option maxRecDepth 100000 in
set_option maxHeartbeats 4000000 in
theorem KX8_perDot (x0 : Nat) : Ct wD yX8_perDot cX8_perDot 1 (some .double) 9 0 0 200 [((8, .ref x0) : TV)] (fX8_perDot x0) :=
  Ct_D (j := 0) (by decide +kernel) rfl rfl (Nat.le_of_ble_eq_true rfl) (fun κ fin hc he => jX8_perDot hc he x0)
set_option maxRecDepth 100000 in
set_option maxHeartbeats 4000000 in
theorem jX8_byAbove {κ : Cx} {fin : UInt32 → Mm → Prop} (hc : Jc κ RX8 cX8_byAbove 2 6 0 0 135) (he : Ed κ cX8_byAbove 0 0 wF .freturn fin) (x0 : Nat) : Jg κ (wM κ) 2 fin 0 0 0 [some ((8, .ref x0) : TV), none] [] (fX8_byAbove x0) := by
  unfold fX8_byAbove
  refine J_aload_n (pc := 0) hc dX8_byAbove_0 rfl rfl ?_
  refine J_iconst (pc := 1) (v := 0) hc dX8_byAbove_1 (by decide) ?_
  refine J_putI (pc := 2) hc clX8 (k := 0) (Nat.le_of_ble_eq_true rfl) rfl rfl tw1162 rfl rfl dX8_byAbove_2 ?_
  refine J_aload_n (pc := 5) hc dX8_byAbove_5 rfl rfl ?_
  refine J_getA (pc := 6) hc clX8 (k := 1) (kd := 11) (Nat.le_of_ble_eq_true rfl) rfl (Nat.le_of_ble_eq_true rfl) (Nat.le_of_ble_eq_true rfl) tw1163 rfl dX8_byAbove_6 (fun v1 => ?_)
  refine J_iconst (pc := 9) (v := 1) hc dX8_byAbove_9 (by decide) ?_
  refine J_iald (pc := 10) hc dX8_byAbove_10 (fun v2 => ?_)
  refine J_aload_n (pc := 11) hc dX8_byAbove_11 rfl rfl ?_
  refine J_bipush (pc := 12) (v := 10) hc dX8_byAbove_12 (by decide) ?_
  refine J_callVi (pc := 14) hc clX8 (As := [((0, .int 10) : TV)]) (KX8_sumOf x0 10) dX8_byAbove_14 moX8_sumOf rfl tw1301 tw1303 twp47 tw9 tw1304 rfl (Nat.le_of_ble_eq_true rfl) (Nat.le_of_ble_eq_true rfl) (Nat.le_of_ble_eq_true rfl) (Nat.le_of_ble_eq_true rfl) (Nat.le_of_ble_eq_true rfl) rfl (fun v3 => ?_)
  refine J_isub (pc := 17) hc dX8_byAbove_17 ?_
  refine J_nmi (fun v4 => ?_)
  refine J_istore_n (pc := 18) (l' := [some ((8, .ref x0) : TV), some ((0, .int v4) : TV)]) hc dX8_byAbove_18 rfl (by decide) rfl rfl ?_
  refine J_aload_n (pc := 19) hc dX8_byAbove_19 rfl rfl ?_
  refine J_getA (pc := 20) hc clX8 (k := 1) (kd := 11) (Nat.le_of_ble_eq_true rfl) rfl (Nat.le_of_ble_eq_true rfl) (Nat.le_of_ble_eq_true rfl) tw1163 rfl dX8_byAbove_20 (fun v5 => ?_)
  refine J_iconst (pc := 23) (v := 1) hc dX8_byAbove_23 (by decide) ?_
  refine J_iald (pc := 24) hc dX8_byAbove_24 (fun v6 => ?_)
  refine J_if_ne (pc := 25) (tgt := 32) hc dX8_byAbove_25 (by decide) ?_ ?_
  · refine J_iload_n (pc := 32) hc dX8_byAbove_32 rfl rfl ?_
    refine J_i2f (pc := 33) hc dX8_byAbove_33 ?_
    refine J_aload_n (pc := 34) hc dX8_byAbove_34 rfl rfl ?_
    refine J_getA (pc := 35) hc clX8 (k := 1) (kd := 11) (Nat.le_of_ble_eq_true rfl) rfl (Nat.le_of_ble_eq_true rfl) (Nat.le_of_ble_eq_true rfl) tw1163 rfl dX8_byAbove_35 (fun v7 => ?_)
    refine J_iconst (pc := 38) (v := 1) hc dX8_byAbove_38 (by decide) ?_
    refine J_iald (pc := 39) hc dX8_byAbove_39 (fun v8 => ?_)
    refine J_i2f (pc := 40) hc dX8_byAbove_40 ?_
    refine J_fdiv (pc := 41) hc dX8_byAbove_41 ?_
    exact J_fret (pc := 42) he dX8_byAbove_42
  · refine J_fconst0 (pc := 28) hc dX8_byAbove_28 ?_
    refine J_goto (pc := 29) (tgt := 42) hc dX8_byAbove_29 (by decide) ?_
    exact J_fret (pc := 42) he dX8_byAbove_42
theorem moX8_byAbove : MOk yX8_byAbove 0 := ⟨by decide +kernel, by decide +kernel, by decide +kernel⟩
set_option maxRecDepth 100000 in
set_option maxHeartbeats 4000000 in
theorem KX8_byAbove (x0 : Nat) : Ct wF yX8_byAbove cX8_byAbove 2 (some .float) 6 0 0 135 [((8, .ref x0) : TV)] (fX8_byAbove x0) :=
  Ct_F (j := 1) (by decide +kernel) rfl rfl (Nat.le_of_ble_eq_true rfl) (fun κ fin hc he => jX8_byAbove hc he x0)
set_option maxRecDepth 100000 in
set_option maxHeartbeats 4000000 in
theorem jX8_appendText_L33 {κ : Cx} {fin : Int32 → Mm → Prop} (hc : Jc κ RX8 cX8_appendText 3 0 0 0 0) (he : Ed κ cX8_appendText 0 0 wI .ireturn fin) : ∀ (n : Nat) (x0 : Nat) (x1 : Int32) (x2 : Int32), Jg κ (wM κ) 3 fin 0 0 33 [some ((8, .ref x0) : TV), some ((0, .int x1) : TV), some ((0, .int x2) : TV)] [] (fX8_appendText_L33 n x0 x1 x2) := by
  intro n
  induction n with
  | zero => intro x0 x1 x2; exact J_fail
  | succ n ih =>
    intro x0 x1 x2
    unfold fX8_appendText_L33
    refine J_iload_n (pc := 33) hc dX8_appendText_33 rfl rfl ?_
    refine J_if_lt (pc := 34) (tgt := 66) hc dX8_appendText_34 (by decide) ?_ ?_
    · refine J_aload_n (pc := 66) hc dX8_appendText_66 rfl rfl ?_
      refine J_getI (pc := 67) hc clX8 (k := 32) (Nat.le_of_ble_eq_true rfl) rfl tw1194 rfl dX8_appendText_67 (fun v1 => ?_)
      exact J_iret (pc := 70) he dX8_appendText_70
    · refine J_aload_n (pc := 37) hc dX8_appendText_37 rfl rfl ?_
      refine J_getA (pc := 38) hc clX8 (k := 31) (kd := 10) (Nat.le_of_ble_eq_true rfl) rfl (Nat.le_of_ble_eq_true rfl) (Nat.le_of_ble_eq_true rfl) tw1193 rfl dX8_appendText_38 (fun v2 => ?_)
      refine J_aload_n (pc := 41) hc dX8_appendText_41 rfl rfl ?_
      refine J_getI (pc := 42) hc clX8 (k := 32) (Nat.le_of_ble_eq_true rfl) rfl tw1194 rfl dX8_appendText_42 (fun v3 => ?_)
      refine J_iload_n (pc := 45) hc dX8_appendText_45 rfl rfl ?_
      refine J_iload_n (pc := 46) hc dX8_appendText_46 rfl rfl ?_
      refine J_ishr (pc := 47) hc dX8_appendText_47 ?_
      refine J_i2bN (pc := 48) hc dX8_appendText_48 ?_
      refine J_bast (pc := 49) hc dX8_appendText_49 ?_
      refine J_aload_n (pc := 50) hc dX8_appendText_50 rfl rfl ?_
      refine J_dup (pc := 51) hc dX8_appendText_51 rfl ?_
      refine J_getI (pc := 52) hc clX8 (k := 32) (Nat.le_of_ble_eq_true rfl) rfl tw1194 rfl dX8_appendText_52 (fun v4 => ?_)
      refine J_iconst (pc := 55) (v := 1) hc dX8_appendText_55 (by decide) ?_
      refine J_iadd (pc := 56) hc dX8_appendText_56 ?_
      refine J_putI (pc := 57) hc clX8 (k := 32) (Nat.le_of_ble_eq_true rfl) rfl rfl tw1194 rfl rfl dX8_appendText_57 ?_
      refine J_iinc (pc := 60) (v := x2 + (-8)) (l' := [some ((8, .ref x0) : TV), some ((0, .int x1) : TV), some ((0, .int (x2 + (-8))) : TV)]) hc dX8_appendText_60 rfl rfl (by decide) rfl rfl ?_
      refine J_goto (pc := 63) (tgt := 33) hc dX8_appendText_63 (by decide) ?_
      refine J_sub (l' := [some ((8, .ref x0) : TV), some ((0, .int x1) : TV), some ((0, .int (x2 + (-8))) : TV)]) ⟨rfl, ⟨rfl, ⟨rfl, trivial⟩⟩⟩ ?_
      exact ih x0 x1 (x2 + (-8))
set_option maxRecDepth 100000 in
set_option maxHeartbeats 4000000 in
theorem jX8_appendText_L18 {κ : Cx} {fin : Int32 → Mm → Prop} (hc : Jc κ RX8 cX8_appendText 3 0 0 0 0) (he : Ed κ cX8_appendText 0 0 wI .ireturn fin) (x0 : Nat) (x1 : Int32) (s0 : Int32) (s1 : Nat) : Jg κ (wM κ) 3 fin 0 0 18 [some ((8, .ref x0) : TV), some ((0, .int x1) : TV), none] [((0, .int s0) : TV), ((8, .ref s1) : TV)] (fX8_appendText_L18 x0 x1 s0 s1) := by
  unfold fX8_appendText_L18
  refine J_putI (pc := 18) hc clX8 (k := 0) (Nat.le_of_ble_eq_true rfl) rfl rfl tw1162 rfl rfl dX8_appendText_18 ?_
  refine J_aload_n (pc := 21) hc dX8_appendText_21 rfl rfl ?_
  refine J_getI (pc := 22) hc clX8 (k := 0) (Nat.le_of_ble_eq_true rfl) rfl tw1162 rfl dX8_appendText_22 (fun v5 => ?_)
  refine J_if_le (pc := 25) (tgt := 30) hc dX8_appendText_25 (by decide) ?_ ?_
  · refine J_bipush (pc := 30) (v := 24) hc dX8_appendText_30 (by decide) ?_
    refine J_istore_n (pc := 32) (l' := [some ((8, .ref x0) : TV), some ((0, .int x1) : TV), some ((0, .int 24) : TV)]) hc dX8_appendText_32 rfl (by decide) rfl rfl ?_
    refine J_sub (l' := [some ((8, .ref x0) : TV), some ((0, .int x1) : TV), some ((0, .int 24) : TV)]) ⟨rfl, ⟨rfl, ⟨rfl, trivial⟩⟩⟩ ?_
    exact jX8_appendText_L33 hc he fu x0 x1 24
  · refine J_iconst (pc := 28) (v := 0) hc dX8_appendText_28 (by decide) ?_
    exact J_iret (pc := 29) he dX8_appendText_29
set_option maxRecDepth 100000 in
set_option maxHeartbeats 4000000 in
theorem jX8_appendText {κ : Cx} {fin : Int32 → Mm → Prop} (hc : Jc κ RX8 cX8_appendText 3 0 0 0 0) (he : Ed κ cX8_appendText 0 0 wI .ireturn fin) (x0 : Nat) (x1 : Int32) : Jg κ (wM κ) 3 fin 0 0 0 [some ((8, .ref x0) : TV), some ((0, .int x1) : TV), none] [] (fX8_appendText x0 x1) := by
  unfold fX8_appendText
  refine J_aload_n (pc := 0) hc dX8_appendText_0 rfl rfl ?_
  refine J_aload_n (pc := 1) hc dX8_appendText_1 rfl rfl ?_
  refine J_getI (pc := 2) hc clX8 (k := 32) (Nat.le_of_ble_eq_true rfl) rfl tw1194 rfl dX8_appendText_2 (fun v6 => ?_)
  refine J_iconst (pc := 5) (v := 4) hc dX8_appendText_5 (by decide) ?_
  refine J_iadd (pc := 6) hc dX8_appendText_6 ?_
  refine J_sipush (pc := 7) (v := 900) hc dX8_appendText_7 (by decide) ?_
  refine J_icmp_gt (pc := 10) (tgt := 17) hc dX8_appendText_10 (by decide) ?_ ?_
  · refine J_iconst (pc := 17) (v := 1) hc dX8_appendText_17 (by decide) ?_
    refine J_sub (l' := [some ((8, .ref x0) : TV), some ((0, .int x1) : TV), none]) ⟨rfl, ⟨rfl, trivial⟩⟩ ?_
    exact jX8_appendText_L18 hc he x0 x1 1 x0
  · refine J_iconst (pc := 13) (v := 0) hc dX8_appendText_13 (by decide) ?_
    refine J_goto (pc := 14) (tgt := 18) hc dX8_appendText_14 (by decide) ?_
    refine J_sub (l' := [some ((8, .ref x0) : TV), some ((0, .int x1) : TV), none]) ⟨rfl, ⟨rfl, trivial⟩⟩ ?_
    exact jX8_appendText_L18 hc he x0 x1 0 x0
theorem moX8_appendText : MOk yX8_appendText 1 := ⟨by decide +kernel, by decide +kernel, by decide +kernel⟩
set_option maxRecDepth 100000 in
set_option maxHeartbeats 4000000 in
theorem KX8_appendText (x0 : Nat) (x1 : Int32) : Ct wI yX8_appendText cX8_appendText 3 (some .int) 0 0 0 0 [((8, .ref x0) : TV), ((0, .int x1) : TV)] (fX8_appendText x0 x1) :=
  Ct_I (j := 1) (by decide +kernel) rfl rfl (Nat.le_of_ble_eq_true rfl) (fun κ fin hc he => jX8_appendText hc he x0 x1)
set_option maxRecDepth 100000 in
set_option maxHeartbeats 4000000 in
theorem jX8_truncateText_L18 {κ : Cx} {fin : Int32 → Mm → Prop} (hc : Jc κ RX8 cX8_truncateText 2 1 0 0 22) (he : Ed κ cX8_truncateText 0 0 wI .ireturn fin) (x0 : Nat) (x1 : Int32) (s0 : Int32) (s1 : Nat) : Jg κ (wM κ) 2 fin 0 0 18 [some ((8, .ref x0) : TV), some ((0, .int x1) : TV)] [((0, .int s0) : TV), ((8, .ref s1) : TV)] (fX8_truncateText_L18 x0 x1 s0 s1) := by
  unfold fX8_truncateText_L18
  refine J_putI (pc := 18) hc clX8 (k := 0) (Nat.le_of_ble_eq_true rfl) rfl rfl tw1162 rfl rfl dX8_truncateText_18 ?_
  refine J_aload_n (pc := 21) hc dX8_truncateText_21 rfl rfl ?_
  refine J_getI (pc := 22) hc clX8 (k := 0) (Nat.le_of_ble_eq_true rfl) rfl tw1162 rfl dX8_truncateText_22 (fun v1 => ?_)
  refine J_if_le (pc := 25) (tgt := 30) hc dX8_truncateText_25 (by decide) ?_ ?_
  · refine J_aload_n (pc := 30) hc dX8_truncateText_30 rfl rfl ?_
    refine J_iload_n (pc := 31) hc dX8_truncateText_31 rfl rfl ?_
    refine J_putI (pc := 32) hc clX8 (k := 32) (Nat.le_of_ble_eq_true rfl) rfl rfl tw1194 rfl rfl dX8_truncateText_32 ?_
    refine J_aload_n (pc := 35) hc dX8_truncateText_35 rfl rfl ?_
    refine J_getI (pc := 36) hc clX8 (k := 32) (Nat.le_of_ble_eq_true rfl) rfl tw1194 rfl dX8_truncateText_36 (fun v2 => ?_)
    exact J_iret (pc := 39) he dX8_truncateText_39
  · refine J_iconst (pc := 28) (v := 0) hc dX8_truncateText_28 (by decide) ?_
    exact J_iret (pc := 29) he dX8_truncateText_29
set_option maxRecDepth 100000 in
set_option maxHeartbeats 4000000 in
theorem jX8_truncateText {κ : Cx} {fin : Int32 → Mm → Prop} (hc : Jc κ RX8 cX8_truncateText 2 1 0 0 22) (he : Ed κ cX8_truncateText 0 0 wI .ireturn fin) (x0 : Nat) (x1 : Int32) : Jg κ (wM κ) 2 fin 0 0 0 [some ((8, .ref x0) : TV), some ((0, .int x1) : TV)] [] (fX8_truncateText x0 x1) := by
  unfold fX8_truncateText
  refine J_aload_n (pc := 0) hc dX8_truncateText_0 rfl rfl ?_
  refine J_iload_n (pc := 1) hc dX8_truncateText_1 rfl rfl ?_
  refine J_iconst (pc := 2) (v := 0) hc dX8_truncateText_2 (by decide) ?_
  refine J_aload_n (pc := 3) hc dX8_truncateText_3 rfl rfl ?_
  refine J_getI (pc := 4) hc clX8 (k := 32) (Nat.le_of_ble_eq_true rfl) rfl tw1194 rfl dX8_truncateText_4 (fun v3 => ?_)
  refine J_callSi (pc := 7) hc (As := [((0, .int x1) : TV), ((0, .int 0) : TV), ((0, .int v3) : TV)]) (KX8_in x1 0 v3) dX8_truncateText_7 moX8_in tw1298 tw1299 tw9 tw1300 rfl (Nat.le_of_ble_eq_true rfl) (Nat.le_of_ble_eq_true rfl) (Nat.le_of_ble_eq_true rfl) (Nat.le_of_ble_eq_true rfl) (Nat.le_of_ble_eq_true rfl) rfl (fun v4 => ?_)
  refine J_if_eq (pc := 10) (tgt := 17) hc dX8_truncateText_10 (by decide) ?_ ?_
  · refine J_iconst (pc := 17) (v := 1) hc dX8_truncateText_17 (by decide) ?_
    refine J_sub (l' := [some ((8, .ref x0) : TV), some ((0, .int x1) : TV)]) ⟨rfl, ⟨rfl, trivial⟩⟩ ?_
    exact jX8_truncateText_L18 hc he x0 x1 1 x0
  · refine J_iconst (pc := 13) (v := 0) hc dX8_truncateText_13 (by decide) ?_
    refine J_goto (pc := 14) (tgt := 18) hc dX8_truncateText_14 (by decide) ?_
    refine J_sub (l' := [some ((8, .ref x0) : TV), some ((0, .int x1) : TV)]) ⟨rfl, ⟨rfl, trivial⟩⟩ ?_
    exact jX8_truncateText_L18 hc he x0 x1 0 x0
theorem moX8_truncateText : MOk yX8_truncateText 1 := ⟨by decide +kernel, by decide +kernel, by decide +kernel⟩
set_option maxRecDepth 100000 in
set_option maxHeartbeats 4000000 in
theorem KX8_truncateText (x0 : Nat) (x1 : Int32) : Ct wI yX8_truncateText cX8_truncateText 2 (some .int) 1 0 0 22 [((8, .ref x0) : TV), ((0, .int x1) : TV)] (fX8_truncateText x0 x1) :=
  Ct_I (j := 0) (by decide +kernel) rfl rfl (Nat.le_of_ble_eq_true rfl) (fun κ fin hc he => jX8_truncateText hc he x0 x1)
set_option maxRecDepth 100000 in
set_option maxHeartbeats 4000000 in
theorem jX8_see {κ : Cx} {fin : Int32 → Mm → Prop} (hc : Jc κ RX8 cX8_see 1 0 0 0 0) (he : Ed κ cX8_see 0 0 wI .ireturn fin) (x0 : Nat) : Jg κ (wM κ) 1 fin 0 0 0 [some ((8, .ref x0) : TV)] [] (fX8_see x0) := by
  unfold fX8_see
  refine J_aload_n (pc := 0) hc dX8_see_0 rfl rfl ?_
  refine J_getI (pc := 1) hc clX8 (k := 33) (Nat.le_of_ble_eq_true rfl) rfl tw1195 rfl dX8_see_1 (fun v1 => ?_)
  refine J_aload_n (pc := 4) hc dX8_see_4 rfl rfl ?_
  refine J_getI (pc := 5) hc clX8 (k := 32) (Nat.le_of_ble_eq_true rfl) rfl tw1194 rfl dX8_see_5 (fun v2 => ?_)
  refine J_icmp_ge (pc := 8) (tgt := 27) hc dX8_see_8 (by decide) ?_ ?_
  · refine J_iconst (pc := 27) (v := (-1)) hc dX8_see_27 (by decide) ?_
    exact J_iret (pc := 28) he dX8_see_28
  · refine J_aload_n (pc := 11) hc dX8_see_11 rfl rfl ?_
    refine J_getA (pc := 12) hc clX8 (k := 31) (kd := 10) (Nat.le_of_ble_eq_true rfl) rfl (Nat.le_of_ble_eq_true rfl) (Nat.le_of_ble_eq_true rfl) tw1193 rfl dX8_see_12 (fun v3 => ?_)
    refine J_aload_n (pc := 15) hc dX8_see_15 rfl rfl ?_
    refine J_getI (pc := 16) hc clX8 (k := 33) (Nat.le_of_ble_eq_true rfl) rfl tw1195 rfl dX8_see_16 (fun v4 => ?_)
    refine J_bald (pc := 19) hc dX8_see_19 (fun v5 => ?_)
    refine J_sipush (pc := 20) (v := 255) hc dX8_see_20 (by decide) ?_
    refine J_iand (pc := 23) hc dX8_see_23 ?_
    refine J_goto (pc := 24) (tgt := 28) hc dX8_see_24 (by decide) ?_
    exact J_iret (pc := 28) he dX8_see_28
theorem moX8_see : MOk yX8_see 0 := ⟨by decide +kernel, by decide +kernel, by decide +kernel⟩
set_option maxRecDepth 100000 in
set_option maxHeartbeats 4000000 in
theorem KX8_see (x0 : Nat) : Ct wI yX8_see cX8_see 1 (some .int) 0 0 0 0 [((8, .ref x0) : TV)] (fX8_see x0) :=
  Ct_I (j := 0) (by decide +kernel) rfl rfl (Nat.le_of_ble_eq_true rfl) (fun κ fin hc he => jX8_see hc he x0)
set_option maxRecDepth 100000 in
set_option maxHeartbeats 4000000 in
theorem jX8_sortOf_L45 {κ : Cx} {fin : Int32 → Mm → Prop} (hc : Jc κ RX8 cX8_sortOf 1 1 0 0 22) (he : Ed κ cX8_sortOf 0 0 wI .ireturn fin) : Jg κ (wM κ) 1 fin 0 0 45 [none] [] (fX8_sortOf_L45) := by
  unfold fX8_sortOf_L45
  refine J_iconst (pc := 45) (v := 3) hc dX8_sortOf_45 (by decide) ?_
  refine J_goto (pc := 46) (tgt := 71) hc dX8_sortOf_46 (by decide) ?_
  exact J_iret (pc := 71) he dX8_sortOf_71
set_option maxRecDepth 100000 in
set_option maxHeartbeats 4000000 in
theorem jX8_sortOf {κ : Cx} {fin : Int32 → Mm → Prop} (hc : Jc κ RX8 cX8_sortOf 1 1 0 0 22) (he : Ed κ cX8_sortOf 0 0 wI .ireturn fin) (x0 : Int32) : Jg κ (wM κ) 1 fin 0 0 0 [some ((0, .int x0) : TV)] [] (fX8_sortOf x0) := by
  unfold fX8_sortOf
  refine J_iload_n (pc := 0) hc dX8_sortOf_0 rfl rfl ?_
  refine J_iconst (pc := 1) (v := (-1)) hc dX8_sortOf_1 (by decide) ?_
  refine J_icmp_ne (pc := 2) (tgt := 7) hc dX8_sortOf_2 (by decide) ?_ ?_
  · refine J_iload_n (pc := 7) hc dX8_sortOf_7 rfl rfl ?_
    refine J_bipush (pc := 8) (v := 97) hc dX8_sortOf_8 (by decide) ?_
    refine J_bipush (pc := 10) (v := 122) hc dX8_sortOf_10 (by decide) ?_
    refine J_callSi (pc := 12) hc (As := [((0, .int x0) : TV), ((0, .int 97) : TV), ((0, .int 122) : TV)]) (KX8_in x0 97 122) dX8_sortOf_12 moX8_in tw1298 tw1299 tw9 tw1300 rfl (Nat.le_of_ble_eq_true rfl) (Nat.le_of_ble_eq_true rfl) (Nat.le_of_ble_eq_true rfl) (Nat.le_of_ble_eq_true rfl) (Nat.le_of_ble_eq_true rfl) rfl (fun v1 => ?_)
    refine J_if_eq (pc := 15) (tgt := 20) hc dX8_sortOf_15 (by decide) ?_ ?_
    · refine J_iload_n (pc := 20) hc dX8_sortOf_20 rfl rfl ?_
      refine J_bipush (pc := 21) (v := 48) hc dX8_sortOf_21 (by decide) ?_
      refine J_bipush (pc := 23) (v := 57) hc dX8_sortOf_23 (by decide) ?_
      refine J_callSi (pc := 25) hc (As := [((0, .int x0) : TV), ((0, .int 48) : TV), ((0, .int 57) : TV)]) (KX8_in x0 48 57) dX8_sortOf_25 moX8_in tw1298 tw1299 tw9 tw1300 rfl (Nat.le_of_ble_eq_true rfl) (Nat.le_of_ble_eq_true rfl) (Nat.le_of_ble_eq_true rfl) (Nat.le_of_ble_eq_true rfl) (Nat.le_of_ble_eq_true rfl) rfl (fun v2 => ?_)
      refine J_if_eq (pc := 28) (tgt := 33) hc dX8_sortOf_28 (by decide) ?_ ?_
      · refine J_iload_n (pc := 33) hc dX8_sortOf_33 rfl rfl ?_
        refine J_bipush (pc := 34) (v := 46) hc dX8_sortOf_34 (by decide) ?_
        refine J_icmp_eq (pc := 36) (tgt := 45) hc dX8_sortOf_36 (by decide) ?_ ?_
        · refine J_sub (l' := [none]) (show subL _ _ from trivial) ?_
          exact jX8_sortOf_L45 hc he 
        · refine J_iload_n (pc := 39) hc dX8_sortOf_39 rfl rfl ?_
          refine J_bipush (pc := 40) (v := 35) hc dX8_sortOf_40 (by decide) ?_
          refine J_icmp_ne (pc := 42) (tgt := 49) hc dX8_sortOf_42 (by decide) ?_ ?_
          · refine J_iload_n (pc := 49) hc dX8_sortOf_49 rfl rfl ?_
            refine J_bipush (pc := 50) (v := 59) hc dX8_sortOf_50 (by decide) ?_
            refine J_icmp_ne (pc := 52) (tgt := 59) hc dX8_sortOf_52 (by decide) ?_ ?_
            · refine J_iload_n (pc := 59) hc dX8_sortOf_59 rfl rfl ?_
              refine J_bipush (pc := 60) (v := 45) hc dX8_sortOf_60 (by decide) ?_
              refine J_icmp_ne (pc := 62) (tgt := 69) hc dX8_sortOf_62 (by decide) ?_ ?_
              · refine J_bipush (pc := 69) (v := 6) hc dX8_sortOf_69 (by decide) ?_
                exact J_iret (pc := 71) he dX8_sortOf_71
              · refine J_iconst (pc := 65) (v := 5) hc dX8_sortOf_65 (by decide) ?_
                refine J_goto (pc := 66) (tgt := 71) hc dX8_sortOf_66 (by decide) ?_
                exact J_iret (pc := 71) he dX8_sortOf_71
            · refine J_iconst (pc := 55) (v := 4) hc dX8_sortOf_55 (by decide) ?_
              refine J_goto (pc := 56) (tgt := 71) hc dX8_sortOf_56 (by decide) ?_
              exact J_iret (pc := 71) he dX8_sortOf_71
          · refine J_sub (l' := [none]) (show subL _ _ from trivial) ?_
            exact jX8_sortOf_L45 hc he 
      · refine J_iconst (pc := 31) (v := 2) hc dX8_sortOf_31 (by decide) ?_
        exact J_iret (pc := 32) he dX8_sortOf_32
    · refine J_iconst (pc := 18) (v := 1) hc dX8_sortOf_18 (by decide) ?_
      exact J_iret (pc := 19) he dX8_sortOf_19
  · refine J_iconst (pc := 5) (v := 0) hc dX8_sortOf_5 (by decide) ?_
    exact J_iret (pc := 6) he dX8_sortOf_6
theorem moX8_sortOf : MOk yX8_sortOf 1 := ⟨by decide +kernel, by decide +kernel, by decide +kernel⟩
set_option maxRecDepth 100000 in
set_option maxHeartbeats 4000000 in
theorem KX8_sortOf (x0 : Int32) : Ct wI yX8_sortOf cX8_sortOf 1 (some .int) 1 0 0 22 [((0, .int x0) : TV)] (fX8_sortOf x0) :=
  Ct_I (j := 0) (by decide +kernel) rfl rfl (Nat.le_of_ble_eq_true rfl) (fun κ fin hc he => jX8_sortOf hc he x0)
set_option maxRecDepth 100000 in
set_option maxHeartbeats 4000000 in
theorem jX8_advances_L144 {κ : Cx} {fin : Unit → Mm → Prop} (hc : Jc κ RX8 cX8_advances 1 2 0 0 42) (he : Ed κ cX8_advances 0 0 wV .return_ fin) {k77 : Nat → Mm → Option (Unit × Mm)} (hk77 : ∀ (x0 : Nat), Jg κ (wM κ) 1 fin 0 0 77 [some ((8, .ref x0) : TV)] [] (k77 x0)) (x0 : Nat) (s0 : Int32) (s1 : Nat) : Jg κ (wM κ) 1 fin 0 0 144 [some ((8, .ref x0) : TV)] [((0, .int s0) : TV), ((8, .ref s1) : TV)] (fX8_advances_L144 k77 x0 s0 s1) := by
  unfold fX8_advances_L144
  refine J_putI (pc := 144) hc clX8 (k := 36) (Nat.le_of_ble_eq_true rfl) rfl rfl tw1198 rfl rfl dX8_advances_144 ?_
  refine J_aload_n (pc := 147) hc dX8_advances_147 rfl rfl ?_
  refine J_dup (pc := 148) hc dX8_advances_148 rfl ?_
  refine J_getI (pc := 149) hc clX8 (k := 33) (Nat.le_of_ble_eq_true rfl) rfl tw1195 rfl dX8_advances_149 (fun v1 => ?_)
  refine J_iconst (pc := 152) (v := 1) hc dX8_advances_152 (by decide) ?_
  refine J_iadd (pc := 153) hc dX8_advances_153 ?_
  refine J_putI (pc := 154) hc clX8 (k := 33) (Nat.le_of_ble_eq_true rfl) rfl rfl tw1195 rfl rfl dX8_advances_154 ?_
  refine J_goto (pc := 157) (tgt := 77) hc dX8_advances_157 (by decide) ?_
  refine J_sub (l' := [some ((8, .ref x0) : TV)]) ⟨rfl, trivial⟩ ?_
  exact hk77 x0
set_option maxRecDepth 100000 in
set_option maxHeartbeats 4000000 in
theorem jX8_advances_L122 {κ : Cx} {fin : Unit → Mm → Prop} (hc : Jc κ RX8 cX8_advances 1 2 0 0 42) (he : Ed κ cX8_advances 0 0 wV .return_ fin) {k77 : Nat → Mm → Option (Unit × Mm)} (hk77 : ∀ (x0 : Nat), Jg κ (wM κ) 1 fin 0 0 77 [some ((8, .ref x0) : TV)] [] (k77 x0)) (x0 : Nat) (s0 : Nat) : Jg κ (wM κ) 1 fin 0 0 122 [some ((8, .ref x0) : TV)] [((8, .ref s0) : TV)] (fX8_advances_L122 k77 x0 s0) := by
  unfold fX8_advances_L122
  refine J_aload_n (pc := 122) hc dX8_advances_122 rfl rfl ?_
  refine J_getI (pc := 123) hc clX8 (k := 36) (Nat.le_of_ble_eq_true rfl) rfl tw1198 rfl dX8_advances_123 (fun v2 => ?_)
  refine J_goto (pc := 126) (tgt := 144) hc dX8_advances_126 (by decide) ?_
  refine J_sub (l' := [some ((8, .ref x0) : TV)]) ⟨rfl, trivial⟩ ?_
  exact jX8_advances_L144 hc he hk77 x0 v2 s0
set_option maxRecDepth 100000 in
set_option maxHeartbeats 4000000 in
theorem jX8_advances_L77 {κ : Cx} {fin : Unit → Mm → Prop} (hc : Jc κ RX8 cX8_advances 1 2 0 0 42) (he : Ed κ cX8_advances 0 0 wV .return_ fin) : ∀ (n : Nat) (x0 : Nat), Jg κ (wM κ) 1 fin 0 0 77 [some ((8, .ref x0) : TV)] [] (fX8_advances_L77 n x0) := by
  intro n
  induction n with
  | zero => intro x0; exact J_fail
  | succ n ih =>
    intro x0
    unfold fX8_advances_L77
    refine J_aload_n (pc := 77) hc dX8_advances_77 rfl rfl ?_
    refine J_getI (pc := 78) hc clX8 (k := 35) (Nat.le_of_ble_eq_true rfl) rfl tw1197 rfl dX8_advances_78 (fun v3 => ?_)
    refine J_iconst (pc := 81) (v := 1) hc dX8_advances_81 (by decide) ?_
    refine J_iconst (pc := 82) (v := 3) hc dX8_advances_82 (by decide) ?_
    refine J_callSi (pc := 83) hc (As := [((0, .int v3) : TV), ((0, .int 1) : TV), ((0, .int 3) : TV)]) (KX8_in v3 1 3) dX8_advances_83 moX8_in tw1298 tw1299 tw9 tw1300 rfl (Nat.le_of_ble_eq_true rfl) (Nat.le_of_ble_eq_true rfl) (Nat.le_of_ble_eq_true rfl) (Nat.le_of_ble_eq_true rfl) (Nat.le_of_ble_eq_true rfl) rfl (fun v4 => ?_)
    refine J_if_eq (pc := 86) (tgt := 160) hc dX8_advances_86 (by decide) ?_ ?_
    · exact J_vret (pc := 160) he dX8_advances_160
    · refine J_aload_n (pc := 89) hc dX8_advances_89 rfl rfl ?_
      refine J_callVi (pc := 90) hc clX8 (As := []) (KX8_see x0) dX8_advances_90 moX8_see rfl tw1616 tw1618 twp93 tw9 tw1619 rfl (Nat.le_of_ble_eq_true rfl) (Nat.le_of_ble_eq_true rfl) (Nat.le_of_ble_eq_true rfl) (Nat.le_of_ble_eq_true rfl) (Nat.le_of_ble_eq_true rfl) rfl (fun v5 => ?_)
      refine J_callSi (pc := 93) hc (As := [((0, .int v5) : TV)]) (KX8_sortOf v5) dX8_advances_93 moX8_sortOf tw1620 tw1621 tw9 tw1622 rfl (Nat.le_of_ble_eq_true rfl) (Nat.le_of_ble_eq_true rfl) (Nat.le_of_ble_eq_true rfl) (Nat.le_of_ble_eq_true rfl) (Nat.le_of_ble_eq_true rfl) rfl (fun v6 => ?_)
      refine J_aload_n (pc := 96) hc dX8_advances_96 rfl rfl ?_
      refine J_getI (pc := 97) hc clX8 (k := 35) (Nat.le_of_ble_eq_true rfl) rfl tw1197 rfl dX8_advances_97 (fun v7 => ?_)
      refine J_icmp_ne (pc := 100) (tgt := 160) hc dX8_advances_100 (by decide) ?_ ?_
      · exact J_vret (pc := 160) he dX8_advances_160
      · refine J_aload_n (pc := 103) hc dX8_advances_103 rfl rfl ?_
        refine J_aload_n (pc := 104) hc dX8_advances_104 rfl rfl ?_
        refine J_getI (pc := 105) hc clX8 (k := 35) (Nat.le_of_ble_eq_true rfl) rfl tw1197 rfl dX8_advances_105 (fun v8 => ?_)
        refine J_iconst (pc := 108) (v := 2) hc dX8_advances_108 (by decide) ?_
        refine J_icmp_ne (pc := 109) (tgt := 122) hc dX8_advances_109 (by decide) ?_ ?_
        · refine J_sub (l' := [some ((8, .ref x0) : TV)]) ⟨rfl, trivial⟩ ?_
          exact jX8_advances_L122 hc he ih x0 x0
        · refine J_aload_n (pc := 112) hc dX8_advances_112 rfl rfl ?_
          refine J_getI (pc := 113) hc clX8 (k := 36) (Nat.le_of_ble_eq_true rfl) rfl tw1198 rfl dX8_advances_113 (fun v9 => ?_)
          refine J_sipush (pc := 116) (v := 10000) hc dX8_advances_116 (by decide) ?_
          refine J_icmp_le (pc := 119) (tgt := 129) hc dX8_advances_119 (by decide) ?_ ?_
          · refine J_bipush (pc := 129) (v := 10) hc dX8_advances_129 (by decide) ?_
            refine J_aload_n (pc := 131) hc dX8_advances_131 rfl rfl ?_
            refine J_getI (pc := 132) hc clX8 (k := 36) (Nat.le_of_ble_eq_true rfl) rfl tw1198 rfl dX8_advances_132 (fun v10 => ?_)
            refine J_imul (pc := 135) hc dX8_advances_135 ?_
            refine J_aload_n (pc := 136) hc dX8_advances_136 rfl rfl ?_
            refine J_callVi (pc := 137) hc clX8 (As := []) (KX8_see x0) dX8_advances_137 moX8_see rfl tw1616 tw1618 twp93 tw9 tw1619 rfl (Nat.le_of_ble_eq_true rfl) (Nat.le_of_ble_eq_true rfl) (Nat.le_of_ble_eq_true rfl) (Nat.le_of_ble_eq_true rfl) (Nat.le_of_ble_eq_true rfl) rfl (fun v11 => ?_)
            refine J_iadd (pc := 140) hc dX8_advances_140 ?_
            refine J_bipush (pc := 141) (v := 48) hc dX8_advances_141 (by decide) ?_
            refine J_isub (pc := 143) hc dX8_advances_143 ?_
            refine J_sub (l' := [some ((8, .ref x0) : TV)]) ⟨rfl, trivial⟩ ?_
            exact jX8_advances_L144 hc he ih x0 (((10 * v10) + v11) - 48) x0
          · refine J_sub (l' := [some ((8, .ref x0) : TV)]) ⟨rfl, trivial⟩ ?_
            exact jX8_advances_L122 hc he ih x0 x0
set_option maxRecDepth 100000 in
set_option maxHeartbeats 4000000 in
theorem jX8_advances_L73 {κ : Cx} {fin : Unit → Mm → Prop} (hc : Jc κ RX8 cX8_advances 1 2 0 0 42) (he : Ed κ cX8_advances 0 0 wV .return_ fin) (x0 : Nat) (s0 : Int32) (s1 : Int32) (s2 : Nat) : Jg κ (wM κ) 1 fin 0 0 73 [some ((8, .ref x0) : TV)] [((0, .int s0) : TV), ((0, .int s1) : TV), ((8, .ref s2) : TV)] (fX8_advances_L73 x0 s0 s1 s2) := by
  unfold fX8_advances_L73
  refine J_iadd (pc := 73) hc dX8_advances_73 ?_
  refine J_putI (pc := 74) hc clX8 (k := 33) (Nat.le_of_ble_eq_true rfl) rfl rfl tw1195 rfl rfl dX8_advances_74 ?_
  refine J_sub (l' := [some ((8, .ref x0) : TV)]) ⟨rfl, trivial⟩ ?_
  exact jX8_advances_L77 hc he fu x0
set_option maxRecDepth 100000 in
set_option maxHeartbeats 4000000 in
theorem jX8_advances_L18 {κ : Cx} {fin : Unit → Mm → Prop} (hc : Jc κ RX8 cX8_advances 1 2 0 0 42) (he : Ed κ cX8_advances 0 0 wV .return_ fin) {k0 : Nat → Mm → Option (Unit × Mm)} (hk0 : ∀ (x0 : Nat), Jg κ (wM κ) 1 fin 0 0 0 [some ((8, .ref x0) : TV)] [] (k0 x0)) (x0 : Nat) : Jg κ (wM κ) 1 fin 0 0 18 [some ((8, .ref x0) : TV)] [] (fX8_advances_L18 k0 x0) := by
  unfold fX8_advances_L18
  refine J_aload_n (pc := 18) hc dX8_advances_18 rfl rfl ?_
  refine J_dup (pc := 19) hc dX8_advances_19 rfl ?_
  refine J_getI (pc := 20) hc clX8 (k := 33) (Nat.le_of_ble_eq_true rfl) rfl tw1195 rfl dX8_advances_20 (fun v12 => ?_)
  refine J_iconst (pc := 23) (v := 1) hc dX8_advances_23 (by decide) ?_
  refine J_iadd (pc := 24) hc dX8_advances_24 ?_
  refine J_putI (pc := 25) hc clX8 (k := 33) (Nat.le_of_ble_eq_true rfl) rfl rfl tw1195 rfl rfl dX8_advances_25 ?_
  refine J_goto (pc := 28) (tgt := 0) hc dX8_advances_28 (by decide) ?_
  refine J_sub (l' := [some ((8, .ref x0) : TV)]) ⟨rfl, trivial⟩ ?_
  exact hk0 x0
set_option maxRecDepth 100000 in
set_option maxHeartbeats 4000000 in
theorem jX8_advances_L0 {κ : Cx} {fin : Unit → Mm → Prop} (hc : Jc κ RX8 cX8_advances 1 2 0 0 42) (he : Ed κ cX8_advances 0 0 wV .return_ fin) : ∀ (n : Nat) (x0 : Nat), Jg κ (wM κ) 1 fin 0 0 0 [some ((8, .ref x0) : TV)] [] (fX8_advances_L0 n x0) := by
  intro n
  induction n with
  | zero => intro x0; exact J_fail
  | succ n ih =>
    intro x0
    unfold fX8_advances_L0
    refine J_aload_n (pc := 0) hc dX8_advances_0 rfl rfl ?_
    refine J_callVi (pc := 1) hc clX8 (As := []) (KX8_see x0) dX8_advances_1 moX8_see rfl tw1616 tw1618 twp93 tw9 tw1619 rfl (Nat.le_of_ble_eq_true rfl) (Nat.le_of_ble_eq_true rfl) (Nat.le_of_ble_eq_true rfl) (Nat.le_of_ble_eq_true rfl) (Nat.le_of_ble_eq_true rfl) rfl (fun v13 => ?_)
    refine J_bipush (pc := 4) (v := 32) hc dX8_advances_4 (by decide) ?_
    refine J_icmp_eq (pc := 6) (tgt := 18) hc dX8_advances_6 (by decide) ?_ ?_
    · refine J_sub (l' := [some ((8, .ref x0) : TV)]) ⟨rfl, trivial⟩ ?_
      exact jX8_advances_L18 hc he ih x0
    · refine J_aload_n (pc := 9) hc dX8_advances_9 rfl rfl ?_
      refine J_callVi (pc := 10) hc clX8 (As := []) (KX8_see x0) dX8_advances_10 moX8_see rfl tw1616 tw1618 twp93 tw9 tw1619 rfl (Nat.le_of_ble_eq_true rfl) (Nat.le_of_ble_eq_true rfl) (Nat.le_of_ble_eq_true rfl) (Nat.le_of_ble_eq_true rfl) (Nat.le_of_ble_eq_true rfl) rfl (fun v14 => ?_)
      refine J_bipush (pc := 13) (v := 10) hc dX8_advances_13 (by decide) ?_
      refine J_icmp_ne (pc := 15) (tgt := 31) hc dX8_advances_15 (by decide) ?_ ?_
      · refine J_aload_n (pc := 31) hc dX8_advances_31 rfl rfl ?_
        refine J_aload_n (pc := 32) hc dX8_advances_32 rfl rfl ?_
        refine J_getI (pc := 33) hc clX8 (k := 33) (Nat.le_of_ble_eq_true rfl) rfl tw1195 rfl dX8_advances_33 (fun v15 => ?_)
        refine J_putI (pc := 36) hc clX8 (k := 34) (Nat.le_of_ble_eq_true rfl) rfl rfl tw1196 rfl rfl dX8_advances_36 ?_
        refine J_aload_n (pc := 39) hc dX8_advances_39 rfl rfl ?_
        refine J_aload_n (pc := 40) hc dX8_advances_40 rfl rfl ?_
        refine J_callVi (pc := 41) hc clX8 (As := []) (KX8_see x0) dX8_advances_41 moX8_see rfl tw1616 tw1618 twp93 tw9 tw1619 rfl (Nat.le_of_ble_eq_true rfl) (Nat.le_of_ble_eq_true rfl) (Nat.le_of_ble_eq_true rfl) (Nat.le_of_ble_eq_true rfl) (Nat.le_of_ble_eq_true rfl) rfl (fun v16 => ?_)
        refine J_callSi (pc := 44) hc (As := [((0, .int v16) : TV)]) (KX8_sortOf v16) dX8_advances_44 moX8_sortOf tw1620 tw1621 tw9 tw1622 rfl (Nat.le_of_ble_eq_true rfl) (Nat.le_of_ble_eq_true rfl) (Nat.le_of_ble_eq_true rfl) (Nat.le_of_ble_eq_true rfl) (Nat.le_of_ble_eq_true rfl) rfl (fun v17 => ?_)
        refine J_putI (pc := 47) hc clX8 (k := 35) (Nat.le_of_ble_eq_true rfl) rfl rfl tw1197 rfl rfl dX8_advances_47 ?_
        refine J_aload_n (pc := 50) hc dX8_advances_50 rfl rfl ?_
        refine J_iconst (pc := 51) (v := 0) hc dX8_advances_51 (by decide) ?_
        refine J_putI (pc := 52) hc clX8 (k := 36) (Nat.le_of_ble_eq_true rfl) rfl rfl tw1198 rfl rfl dX8_advances_52 ?_
        refine J_aload_n (pc := 55) hc dX8_advances_55 rfl rfl ?_
        refine J_dup (pc := 56) hc dX8_advances_56 rfl ?_
        refine J_getI (pc := 57) hc clX8 (k := 33) (Nat.le_of_ble_eq_true rfl) rfl tw1195 rfl dX8_advances_57 (fun v18 => ?_)
        refine J_aload_n (pc := 60) hc dX8_advances_60 rfl rfl ?_
        refine J_getI (pc := 61) hc clX8 (k := 35) (Nat.le_of_ble_eq_true rfl) rfl tw1197 rfl dX8_advances_61 (fun v19 => ?_)
        refine J_iconst (pc := 64) (v := 4) hc dX8_advances_64 (by decide) ?_
        refine J_icmp_lt (pc := 65) (tgt := 72) hc dX8_advances_65 (by decide) ?_ ?_
        · refine J_iconst (pc := 72) (v := 0) hc dX8_advances_72 (by decide) ?_
          refine J_sub (l' := [some ((8, .ref x0) : TV)]) ⟨rfl, trivial⟩ ?_
          exact jX8_advances_L73 hc he x0 0 v18 x0
        · refine J_iconst (pc := 68) (v := 1) hc dX8_advances_68 (by decide) ?_
          refine J_goto (pc := 69) (tgt := 73) hc dX8_advances_69 (by decide) ?_
          refine J_sub (l' := [some ((8, .ref x0) : TV)]) ⟨rfl, trivial⟩ ?_
          exact jX8_advances_L73 hc he x0 1 v18 x0
      · refine J_sub (l' := [some ((8, .ref x0) : TV)]) ⟨rfl, trivial⟩ ?_
        exact jX8_advances_L18 hc he ih x0
set_option maxRecDepth 100000 in
set_option maxHeartbeats 4000000 in
theorem jX8_advances {κ : Cx} {fin : Unit → Mm → Prop} (hc : Jc κ RX8 cX8_advances 1 2 0 0 42) (he : Ed κ cX8_advances 0 0 wV .return_ fin) (x0 : Nat) : Jg κ (wM κ) 1 fin 0 0 0 [some ((8, .ref x0) : TV)] [] (fX8_advances x0) := by
  unfold fX8_advances
  refine J_sub (l' := [some ((8, .ref x0) : TV)]) ⟨rfl, trivial⟩ ?_
  exact jX8_advances_L0 hc he fu x0
theorem moX8_advances : MOk yX8_advances 0 := ⟨by decide +kernel, by decide +kernel, by decide +kernel⟩
set_option maxRecDepth 100000 in
set_option maxHeartbeats 4000000 in
theorem KX8_advances (x0 : Nat) : Ct wV yX8_advances cX8_advances 1 none 2 0 0 42 [((8, .ref x0) : TV)] (fX8_advances x0) :=
  Ct_V (j := 0) (by decide +kernel) rfl rfl (Nat.le_of_ble_eq_true rfl) (fun κ fin hc he hin => jX8_advances hc he x0)
set_option maxRecDepth 100000 in
set_option maxHeartbeats 4000000 in
theorem jX8_must {κ : Cx} {fin : Unit → Mm → Prop} (hc : Jc κ RX8 cX8_must 3 0 0 0 0) (he : Ed κ cX8_must 0 0 wV .return_ fin) (x0 : Nat) (x1 : Int32) (x2 : Int32) : Jg κ (wM κ) 3 fin 0 0 0 [some ((8, .ref x0) : TV), some ((0, .int x1) : TV), some ((0, .int x2) : TV)] [] (fX8_must x0 x1 x2) := by
  unfold fX8_must
  refine J_iload_n (pc := 0) hc dX8_must_0 rfl rfl ?_
  refine J_if_ne (pc := 1) (tgt := 24) hc dX8_must_1 (by decide) ?_ ?_
  · exact J_vret (pc := 24) he dX8_must_24
  · refine J_aload_n (pc := 4) hc dX8_must_4 rfl rfl ?_
    refine J_getI (pc := 5) hc clX8 (k := 37) (Nat.le_of_ble_eq_true rfl) rfl tw1199 rfl dX8_must_5 (fun v1 => ?_)
    refine J_if_ne (pc := 8) (tgt := 24) hc dX8_must_8 (by decide) ?_ ?_
    · exact J_vret (pc := 24) he dX8_must_24
    · refine J_aload_n (pc := 11) hc dX8_must_11 rfl rfl ?_
      refine J_iload_n (pc := 12) hc dX8_must_12 rfl rfl ?_
      refine J_putI (pc := 13) hc clX8 (k := 37) (Nat.le_of_ble_eq_true rfl) rfl rfl tw1199 rfl rfl dX8_must_13 ?_
      refine J_aload_n (pc := 16) hc dX8_must_16 rfl rfl ?_
      refine J_aload_n (pc := 17) hc dX8_must_17 rfl rfl ?_
      refine J_getI (pc := 18) hc clX8 (k := 34) (Nat.le_of_ble_eq_true rfl) rfl tw1196 rfl dX8_must_18 (fun v2 => ?_)
      refine J_putI (pc := 21) hc clX8 (k := 38) (Nat.le_of_ble_eq_true rfl) rfl rfl tw1200 rfl rfl dX8_must_21 ?_
      exact J_vret (pc := 24) he dX8_must_24
theorem moX8_must : MOk yX8_must 2 := ⟨by decide +kernel, by decide +kernel, by decide +kernel⟩
set_option maxRecDepth 100000 in
set_option maxHeartbeats 4000000 in
theorem KX8_must (x0 : Nat) (x1 : Int32) (x2 : Int32) : Ct wV yX8_must cX8_must 3 none 0 0 0 0 [((8, .ref x0) : TV), ((0, .int x1) : TV), ((0, .int x2) : TV)] (fX8_must x0 x1 x2) :=
  Ct_V (j := 0) (by decide +kernel) rfl rfl (Nat.le_of_ble_eq_true rfl) (fun κ fin hc he hin => jX8_must hc he x0 x1 x2)
set_option maxRecDepth 100000 in
set_option maxHeartbeats 4000000 in
theorem jX8_goesOn {κ : Cx} {fin : Unit → Mm → Prop} (hc : Jc κ RX8 cX8_goesOn 1 3 0 0 62) (he : Ed κ cX8_goesOn 0 0 wV .return_ fin) (x0 : Nat) : Jg κ (wM κ) 1 fin 0 0 0 [some ((8, .ref x0) : TV)] [] (fX8_goesOn x0) := by
  unfold fX8_goesOn
  refine J_aload_n (pc := 0) hc dX8_goesOn_0 rfl rfl ?_
  refine J_getI (pc := 1) hc clX8 (k := 37) (Nat.le_of_ble_eq_true rfl) rfl tw1199 rfl dX8_goesOn_1 (fun v1 => ?_)
  refine J_if_ne (pc := 4) (tgt := 11) hc dX8_goesOn_4 (by decide) ?_ ?_
  · exact J_vret (pc := 11) he dX8_goesOn_11
  · refine J_aload_n (pc := 7) hc dX8_goesOn_7 rfl rfl ?_
    refine J_callVv (pc := 8) hc clX8 (As := []) (KX8_advances x0) dX8_goesOn_8 moX8_advances rfl tw1612 tw1614 twp92 tw9 tw1615 rfl (Nat.le_of_ble_eq_true rfl) (Nat.le_of_ble_eq_true rfl) (Nat.le_of_ble_eq_true rfl) (Nat.le_of_ble_eq_true rfl) (Nat.le_of_ble_eq_true rfl) rfl (fun _ => ?_)
    exact J_vret (pc := 11) he dX8_goesOn_11
theorem moX8_goesOn : MOk yX8_goesOn 0 := ⟨by decide +kernel, by decide +kernel, by decide +kernel⟩
set_option maxRecDepth 100000 in
set_option maxHeartbeats 4000000 in
theorem KX8_goesOn (x0 : Nat) : Ct wV yX8_goesOn cX8_goesOn 1 none 3 0 0 62 [((8, .ref x0) : TV)] (fX8_goesOn x0) :=
  Ct_V (j := 0) (by decide +kernel) rfl rfl (Nat.le_of_ble_eq_true rfl) (fun κ fin hc he hin => jX8_goesOn hc he x0)
set_option maxRecDepth 100000 in
set_option maxHeartbeats 4000000 in
theorem jX8_wordHere_L109 {κ : Cx} {fin : Int32 → Mm → Prop} (hc : Jc κ RX8 cX8_wordHere 5 0 0 0 0) (he : Ed κ cX8_wordHere 0 0 wI .ireturn fin) {k4 : Nat → Int32 → Int32 → Mm → Option (Int32 × Mm)} (hk4 : ∀ (x0 : Nat) (x1 : Int32) (x2 : Int32), Jg κ (wM κ) 5 fin 0 0 4 [some ((8, .ref x0) : TV), some ((0, .int x1) : TV), some ((0, .int x2) : TV), none, none] [] (k4 x0 x1 x2)) (x0 : Nat) (x1 : Int32) (x2 : Int32) (x3 : Int32) : Jg κ (wM κ) 5 fin 0 0 109 [some ((8, .ref x0) : TV), some ((0, .int x1) : TV), some ((0, .int x2) : TV), some ((0, .int x3) : TV), none] [] (fX8_wordHere_L109 k4 x0 x1 x2 x3) := by
  unfold fX8_wordHere_L109
  refine J_iload_n (pc := 109) hc dX8_wordHere_109 rfl rfl ?_
  refine J_iload_n (pc := 110) hc dX8_wordHere_110 rfl rfl ?_
  refine J_iconst (pc := 111) (v := 1) hc dX8_wordHere_111 (by decide) ?_
  refine J_iadd (pc := 112) hc dX8_wordHere_112 ?_
  refine J_iadd (pc := 113) hc dX8_wordHere_113 ?_
  refine J_nmi (fun v1 => ?_)
  refine J_istore_n (pc := 114) (l' := [some ((8, .ref x0) : TV), some ((0, .int v1) : TV), some ((0, .int x2) : TV), some ((0, .int x3) : TV), none]) hc dX8_wordHere_114 rfl (by decide) rfl rfl ?_
  refine J_iinc (pc := 115) (v := x2 + 1) (l' := [some ((8, .ref x0) : TV), some ((0, .int v1) : TV), some ((0, .int (x2 + 1)) : TV), some ((0, .int x3) : TV), none]) hc dX8_wordHere_115 rfl rfl (by decide) rfl rfl ?_
  refine J_goto (pc := 118) (tgt := 4) hc dX8_wordHere_118 (by decide) ?_
  refine J_sub (l' := [some ((8, .ref x0) : TV), some ((0, .int v1) : TV), some ((0, .int (x2 + 1)) : TV), none, none]) ⟨rfl, ⟨rfl, ⟨rfl, trivial⟩⟩⟩ ?_
  exact hk4 x0 v1 (x2 + 1)
set_option maxRecDepth 100000 in
set_option maxHeartbeats 4000000 in
theorem jX8_wordHere_L81 {κ : Cx} {fin : Int32 → Mm → Prop} (hc : Jc κ RX8 cX8_wordHere 5 0 0 0 0) (he : Ed κ cX8_wordHere 0 0 wI .ireturn fin) {k23 : Nat → Int32 → Int32 → Int32 → Int32 → Mm → Option (Int32 × Mm)} (hk23 : ∀ (x0 : Nat) (x1 : Int32) (x2 : Int32) (x3 : Int32) (x4 : Int32), Jg κ (wM κ) 5 fin 0 0 23 [some ((8, .ref x0) : TV), some ((0, .int x1) : TV), some ((0, .int x2) : TV), some ((0, .int x3) : TV), some ((0, .int x4) : TV)] [] (k23 x0 x1 x2 x3 x4)) (x0 : Nat) (x1 : Int32) (x2 : Int32) (x3 : Int32) (s0 : Int32) : Jg κ (wM κ) 5 fin 0 0 81 [some ((8, .ref x0) : TV), some ((0, .int x1) : TV), some ((0, .int x2) : TV), some ((0, .int x3) : TV), none] [((0, .int s0) : TV)] (fX8_wordHere_L81 k23 x0 x1 x2 x3 s0) := by
  unfold fX8_wordHere_L81
  refine J_istore (pc := 81) (l' := [some ((8, .ref x0) : TV), some ((0, .int x1) : TV), some ((0, .int x2) : TV), some ((0, .int x3) : TV), some ((0, .int s0) : TV)]) hc dX8_wordHere_81 (by decide) rfl rfl ?_
  refine J_iinc (pc := 83) (v := x3 + 1) (l' := [some ((8, .ref x0) : TV), some ((0, .int x1) : TV), some ((0, .int x2) : TV), some ((0, .int (x3 + 1)) : TV), some ((0, .int s0) : TV)]) hc dX8_wordHere_83 rfl rfl (by decide) rfl rfl ?_
  refine J_goto (pc := 86) (tgt := 23) hc dX8_wordHere_86 (by decide) ?_
  refine J_sub (l' := [some ((8, .ref x0) : TV), some ((0, .int x1) : TV), some ((0, .int x2) : TV), some ((0, .int (x3 + 1)) : TV), some ((0, .int s0) : TV)]) ⟨rfl, ⟨rfl, ⟨rfl, ⟨rfl, ⟨rfl, trivial⟩⟩⟩⟩⟩ ?_
  exact hk23 x0 x1 x2 (x3 + 1) s0
set_option maxRecDepth 100000 in
set_option maxHeartbeats 4000000 in
theorem jX8_wordHere_L80 {κ : Cx} {fin : Int32 → Mm → Prop} (hc : Jc κ RX8 cX8_wordHere 5 0 0 0 0) (he : Ed κ cX8_wordHere 0 0 wI .ireturn fin) {k23 : Nat → Int32 → Int32 → Int32 → Int32 → Mm → Option (Int32 × Mm)} (hk23 : ∀ (x0 : Nat) (x1 : Int32) (x2 : Int32) (x3 : Int32) (x4 : Int32), Jg κ (wM κ) 5 fin 0 0 23 [some ((8, .ref x0) : TV), some ((0, .int x1) : TV), some ((0, .int x2) : TV), some ((0, .int x3) : TV), some ((0, .int x4) : TV)] [] (k23 x0 x1 x2 x3 x4)) (x0 : Nat) (x1 : Int32) (x2 : Int32) (x3 : Int32) : Jg κ (wM κ) 5 fin 0 0 80 [some ((8, .ref x0) : TV), some ((0, .int x1) : TV), some ((0, .int x2) : TV), some ((0, .int x3) : TV), none] [] (fX8_wordHere_L80 k23 x0 x1 x2 x3) := by
  unfold fX8_wordHere_L80
  refine J_iconst (pc := 80) (v := 0) hc dX8_wordHere_80 (by decide) ?_
  refine J_sub (l' := [some ((8, .ref x0) : TV), some ((0, .int x1) : TV), some ((0, .int x2) : TV), some ((0, .int x3) : TV), none]) ⟨rfl, ⟨rfl, ⟨rfl, ⟨rfl, trivial⟩⟩⟩⟩ ?_
  exact jX8_wordHere_L81 hc he hk23 x0 x1 x2 x3 0
set_option maxRecDepth 100000 in
set_option maxHeartbeats 4000000 in
theorem jX8_wordHere_L23 {κ : Cx} {fin : Int32 → Mm → Prop} (hc : Jc κ RX8 cX8_wordHere 5 0 0 0 0) (he : Ed κ cX8_wordHere 0 0 wI .ireturn fin) {k4 : Nat → Int32 → Int32 → Mm → Option (Int32 × Mm)} (hk4 : ∀ (x0 : Nat) (x1 : Int32) (x2 : Int32), Jg κ (wM κ) 5 fin 0 0 4 [some ((8, .ref x0) : TV), some ((0, .int x1) : TV), some ((0, .int x2) : TV), none, none] [] (k4 x0 x1 x2)) : ∀ (n : Nat) (x0 : Nat) (x1 : Int32) (x2 : Int32) (x3 : Int32) (x4 : Int32), Jg κ (wM κ) 5 fin 0 0 23 [some ((8, .ref x0) : TV), some ((0, .int x1) : TV), some ((0, .int x2) : TV), some ((0, .int x3) : TV), some ((0, .int x4) : TV)] [] (fX8_wordHere_L23 k4 n x0 x1 x2 x3 x4) := by
  intro n
  induction n with
  | zero => intro x0 x1 x2 x3 x4; exact J_fail
  | succ n ih =>
    intro x0 x1 x2 x3 x4
    unfold fX8_wordHere_L23
    refine J_aload_n (pc := 23) hc dX8_wordHere_23 rfl rfl ?_
    refine J_getA (pc := 24) hc clX8 (k := 39) (kd := 10) (Nat.le_of_ble_eq_true rfl) rfl (Nat.le_of_ble_eq_true rfl) (Nat.le_of_ble_eq_true rfl) tw1201 rfl dX8_wordHere_24 (fun v2 => ?_)
    refine J_iload_n (pc := 27) hc dX8_wordHere_27 rfl rfl ?_
    refine J_iload_n (pc := 28) hc dX8_wordHere_28 rfl rfl ?_
    refine J_iadd (pc := 29) hc dX8_wordHere_29 ?_
    refine J_bald (pc := 30) hc dX8_wordHere_30 (fun v3 => ?_)
    refine J_bipush (pc := 31) (v := 32) hc dX8_wordHere_31 (by decide) ?_
    refine J_icmp_eq (pc := 33) (tgt := 89) hc dX8_wordHere_33 (by decide) ?_ ?_
    · refine J_iload (pc := 89) hc dX8_wordHere_89 rfl ?_
      refine J_if_eq (pc := 91) (tgt := 109) hc dX8_wordHere_91 (by decide) ?_ ?_
      · refine J_sub (l' := [some ((8, .ref x0) : TV), some ((0, .int x1) : TV), some ((0, .int x2) : TV), some ((0, .int x3) : TV), none]) ⟨rfl, ⟨rfl, ⟨rfl, ⟨rfl, trivial⟩⟩⟩⟩ ?_
        exact jX8_wordHere_L109 hc he hk4 x0 x1 x2 x3
      · refine J_aload_n (pc := 94) hc dX8_wordHere_94 rfl rfl ?_
        refine J_getI (pc := 95) hc clX8 (k := 33) (Nat.le_of_ble_eq_true rfl) rfl tw1195 rfl dX8_wordHere_95 (fun v4 => ?_)
        refine J_aload_n (pc := 98) hc dX8_wordHere_98 rfl rfl ?_
        refine J_getI (pc := 99) hc clX8 (k := 34) (Nat.le_of_ble_eq_true rfl) rfl tw1196 rfl dX8_wordHere_99 (fun v5 => ?_)
        refine J_isub (pc := 102) hc dX8_wordHere_102 ?_
        refine J_iload_n (pc := 103) hc dX8_wordHere_103 rfl rfl ?_
        refine J_icmp_ne (pc := 104) (tgt := 109) hc dX8_wordHere_104 (by decide) ?_ ?_
        · refine J_sub (l' := [some ((8, .ref x0) : TV), some ((0, .int x1) : TV), some ((0, .int x2) : TV), some ((0, .int x3) : TV), none]) ⟨rfl, ⟨rfl, ⟨rfl, ⟨rfl, trivial⟩⟩⟩⟩ ?_
          exact jX8_wordHere_L109 hc he hk4 x0 x1 x2 x3
        · refine J_iload_n (pc := 107) hc dX8_wordHere_107 rfl rfl ?_
          exact J_iret (pc := 108) he dX8_wordHere_108
    · refine J_iload (pc := 36) hc dX8_wordHere_36 rfl ?_
      refine J_if_eq (pc := 38) (tgt := 80) hc dX8_wordHere_38 (by decide) ?_ ?_
      · refine J_sub (l' := [some ((8, .ref x0) : TV), some ((0, .int x1) : TV), some ((0, .int x2) : TV), some ((0, .int x3) : TV), none]) ⟨rfl, ⟨rfl, ⟨rfl, ⟨rfl, trivial⟩⟩⟩⟩ ?_
        exact jX8_wordHere_L80 hc he ih x0 x1 x2 x3
      · refine J_aload_n (pc := 41) hc dX8_wordHere_41 rfl rfl ?_
        refine J_getI (pc := 42) hc clX8 (k := 34) (Nat.le_of_ble_eq_true rfl) rfl tw1196 rfl dX8_wordHere_42 (fun v6 => ?_)
        refine J_iload_n (pc := 45) hc dX8_wordHere_45 rfl rfl ?_
        refine J_iadd (pc := 46) hc dX8_wordHere_46 ?_
        refine J_aload_n (pc := 47) hc dX8_wordHere_47 rfl rfl ?_
        refine J_getI (pc := 48) hc clX8 (k := 33) (Nat.le_of_ble_eq_true rfl) rfl tw1195 rfl dX8_wordHere_48 (fun v7 => ?_)
        refine J_icmp_ge (pc := 51) (tgt := 80) hc dX8_wordHere_51 (by decide) ?_ ?_
        · refine J_sub (l' := [some ((8, .ref x0) : TV), some ((0, .int x1) : TV), some ((0, .int x2) : TV), some ((0, .int x3) : TV), none]) ⟨rfl, ⟨rfl, ⟨rfl, ⟨rfl, trivial⟩⟩⟩⟩ ?_
          exact jX8_wordHere_L80 hc he ih x0 x1 x2 x3
        · refine J_aload_n (pc := 54) hc dX8_wordHere_54 rfl rfl ?_
          refine J_getA (pc := 55) hc clX8 (k := 31) (kd := 10) (Nat.le_of_ble_eq_true rfl) rfl (Nat.le_of_ble_eq_true rfl) (Nat.le_of_ble_eq_true rfl) tw1193 rfl dX8_wordHere_55 (fun v8 => ?_)
          refine J_aload_n (pc := 58) hc dX8_wordHere_58 rfl rfl ?_
          refine J_getI (pc := 59) hc clX8 (k := 34) (Nat.le_of_ble_eq_true rfl) rfl tw1196 rfl dX8_wordHere_59 (fun v9 => ?_)
          refine J_iload_n (pc := 62) hc dX8_wordHere_62 rfl rfl ?_
          refine J_iadd (pc := 63) hc dX8_wordHere_63 ?_
          refine J_bald (pc := 64) hc dX8_wordHere_64 (fun v10 => ?_)
          refine J_aload_n (pc := 65) hc dX8_wordHere_65 rfl rfl ?_
          refine J_getA (pc := 66) hc clX8 (k := 39) (kd := 10) (Nat.le_of_ble_eq_true rfl) rfl (Nat.le_of_ble_eq_true rfl) (Nat.le_of_ble_eq_true rfl) tw1201 rfl dX8_wordHere_66 (fun v11 => ?_)
          refine J_iload_n (pc := 69) hc dX8_wordHere_69 rfl rfl ?_
          refine J_iload_n (pc := 70) hc dX8_wordHere_70 rfl rfl ?_
          refine J_iadd (pc := 71) hc dX8_wordHere_71 ?_
          refine J_bald (pc := 72) hc dX8_wordHere_72 (fun v12 => ?_)
          refine J_icmp_ne (pc := 73) (tgt := 80) hc dX8_wordHere_73 (by decide) ?_ ?_
          · refine J_sub (l' := [some ((8, .ref x0) : TV), some ((0, .int x1) : TV), some ((0, .int x2) : TV), some ((0, .int x3) : TV), none]) ⟨rfl, ⟨rfl, ⟨rfl, ⟨rfl, trivial⟩⟩⟩⟩ ?_
            exact jX8_wordHere_L80 hc he ih x0 x1 x2 x3
          · refine J_iconst (pc := 76) (v := 1) hc dX8_wordHere_76 (by decide) ?_
            refine J_goto (pc := 77) (tgt := 81) hc dX8_wordHere_77 (by decide) ?_
            refine J_sub (l' := [some ((8, .ref x0) : TV), some ((0, .int x1) : TV), some ((0, .int x2) : TV), some ((0, .int x3) : TV), none]) ⟨rfl, ⟨rfl, ⟨rfl, ⟨rfl, trivial⟩⟩⟩⟩ ?_
            exact jX8_wordHere_L81 hc he ih x0 x1 x2 x3 1
set_option maxRecDepth 100000 in
set_option maxHeartbeats 4000000 in
theorem jX8_wordHere_L4 {κ : Cx} {fin : Int32 → Mm → Prop} (hc : Jc κ RX8 cX8_wordHere 5 0 0 0 0) (he : Ed κ cX8_wordHere 0 0 wI .ireturn fin) : ∀ (n : Nat) (x0 : Nat) (x1 : Int32) (x2 : Int32), Jg κ (wM κ) 5 fin 0 0 4 [some ((8, .ref x0) : TV), some ((0, .int x1) : TV), some ((0, .int x2) : TV), none, none] [] (fX8_wordHere_L4 n x0 x1 x2) := by
  intro n
  induction n with
  | zero => intro x0 x1 x2; exact J_fail
  | succ n ih =>
    intro x0 x1 x2
    unfold fX8_wordHere_L4
    refine J_aload_n (pc := 4) hc dX8_wordHere_4 rfl rfl ?_
    refine J_getI (pc := 5) hc clX8 (k := 35) (Nat.le_of_ble_eq_true rfl) rfl tw1197 rfl dX8_wordHere_5 (fun v13 => ?_)
    refine J_iconst (pc := 8) (v := 1) hc dX8_wordHere_8 (by decide) ?_
    refine J_icmp_ne (pc := 9) (tgt := 121) hc dX8_wordHere_9 (by decide) ?_ ?_
    · refine J_iconst (pc := 121) (v := (-1)) hc dX8_wordHere_121 (by decide) ?_
      exact J_iret (pc := 122) he dX8_wordHere_122
    · refine J_iload_n (pc := 12) hc dX8_wordHere_12 rfl rfl ?_
      refine J_bipush (pc := 13) (v := 9) hc dX8_wordHere_13 (by decide) ?_
      refine J_icmp_ge (pc := 15) (tgt := 121) hc dX8_wordHere_15 (by decide) ?_ ?_
      · refine J_iconst (pc := 121) (v := (-1)) hc dX8_wordHere_121 (by decide) ?_
        exact J_iret (pc := 122) he dX8_wordHere_122
      · refine J_iconst (pc := 18) (v := 0) hc dX8_wordHere_18 (by decide) ?_
        refine J_istore_n (pc := 19) (l' := [some ((8, .ref x0) : TV), some ((0, .int x1) : TV), some ((0, .int x2) : TV), some ((0, .int 0) : TV), none]) hc dX8_wordHere_19 rfl (by decide) rfl rfl ?_
        refine J_iconst (pc := 20) (v := 1) hc dX8_wordHere_20 (by decide) ?_
        refine J_istore (pc := 21) (l' := [some ((8, .ref x0) : TV), some ((0, .int x1) : TV), some ((0, .int x2) : TV), some ((0, .int 0) : TV), some ((0, .int 1) : TV)]) hc dX8_wordHere_21 (by decide) rfl rfl ?_
        refine J_sub (l' := [some ((8, .ref x0) : TV), some ((0, .int x1) : TV), some ((0, .int x2) : TV), some ((0, .int 0) : TV), some ((0, .int 1) : TV)]) ⟨rfl, ⟨rfl, ⟨rfl, ⟨rfl, ⟨rfl, trivial⟩⟩⟩⟩⟩ ?_
        exact jX8_wordHere_L23 hc he ih fu x0 x1 x2 0 1
set_option maxRecDepth 100000 in
set_option maxHeartbeats 4000000 in
theorem jX8_wordHere {κ : Cx} {fin : Int32 → Mm → Prop} (hc : Jc κ RX8 cX8_wordHere 5 0 0 0 0) (he : Ed κ cX8_wordHere 0 0 wI .ireturn fin) (x0 : Nat) : Jg κ (wM κ) 5 fin 0 0 0 [some ((8, .ref x0) : TV), none, none, none, none] [] (fX8_wordHere x0) := by
  unfold fX8_wordHere
  refine J_iconst (pc := 0) (v := 0) hc dX8_wordHere_0 (by decide) ?_
  refine J_istore_n (pc := 1) (l' := [some ((8, .ref x0) : TV), some ((0, .int 0) : TV), none, none, none]) hc dX8_wordHere_1 rfl (by decide) rfl rfl ?_
  refine J_iconst (pc := 2) (v := 0) hc dX8_wordHere_2 (by decide) ?_
  refine J_istore_n (pc := 3) (l' := [some ((8, .ref x0) : TV), some ((0, .int 0) : TV), some ((0, .int 0) : TV), none, none]) hc dX8_wordHere_3 rfl (by decide) rfl rfl ?_
  refine J_sub (l' := [some ((8, .ref x0) : TV), some ((0, .int 0) : TV), some ((0, .int 0) : TV), none, none]) ⟨rfl, ⟨rfl, ⟨rfl, trivial⟩⟩⟩ ?_
  exact jX8_wordHere_L4 hc he fu x0 0 0
theorem moX8_wordHere : MOk yX8_wordHere 0 := ⟨by decide +kernel, by decide +kernel, by decide +kernel⟩
set_option maxRecDepth 100000 in
set_option maxHeartbeats 4000000 in
theorem KX8_wordHere (x0 : Nat) : Ct wI yX8_wordHere cX8_wordHere 5 (some .int) 0 0 0 0 [((8, .ref x0) : TV)] (fX8_wordHere x0) :=
  Ct_I (j := 4) (by decide +kernel) rfl rfl (Nat.le_of_ble_eq_true rfl) (fun κ fin hc he => jX8_wordHere hc he x0)
set_option maxRecDepth 100000 in
set_option maxHeartbeats 4000000 in
theorem jX8_looks_L43 {κ : Cx} {fin : Int32 → Mm → Prop} (hc : Jc κ RX8 cX8_looks 3 1 0 0 22) (he : Ed κ cX8_looks 0 0 wI .ireturn fin) (x0 : Nat) (x1 : Int32) (s0 : Int32) (s1 : Nat) : Jg κ (wM κ) 3 fin 0 0 43 [some ((8, .ref x0) : TV), some ((0, .int x1) : TV), none] [((0, .int s0) : TV), ((8, .ref s1) : TV)] (fX8_looks_L43 x0 x1 s0 s1) := by
  unfold fX8_looks_L43
  refine J_iconst (pc := 43) (v := 2) hc dX8_looks_43 (by decide) ?_
  refine J_callVv (pc := 44) hc clX8 (As := [((0, .int s0) : TV), ((0, .int 2) : TV)]) (KX8_must s1 s0 2) dX8_looks_44 moX8_must rfl tw1639 tw1641 twp98 tw9 tw1642 rfl (Nat.le_of_ble_eq_true rfl) (Nat.le_of_ble_eq_true rfl) (Nat.le_of_ble_eq_true rfl) (Nat.le_of_ble_eq_true rfl) (Nat.le_of_ble_eq_true rfl) rfl (fun _ => ?_)
  refine J_aload_n (pc := 47) hc dX8_looks_47 rfl rfl ?_
  refine J_getI (pc := 48) hc clX8 (k := 37) (Nat.le_of_ble_eq_true rfl) rfl tw1199 rfl dX8_looks_48 (fun v1 => ?_)
  refine J_if_le (pc := 51) (tgt := 58) hc dX8_looks_51 (by decide) ?_ ?_
  · refine J_aload_n (pc := 58) hc dX8_looks_58 rfl rfl ?_
    refine J_getI (pc := 59) hc clX8 (k := 36) (Nat.le_of_ble_eq_true rfl) rfl tw1198 rfl dX8_looks_59 (fun v2 => ?_)
    exact J_iret (pc := 62) he dX8_looks_62
  · refine J_iload_n (pc := 54) hc dX8_looks_54 rfl rfl ?_
    refine J_goto (pc := 55) (tgt := 62) hc dX8_looks_55 (by decide) ?_
    exact J_iret (pc := 62) he dX8_looks_62
set_option maxRecDepth 100000 in
set_option maxHeartbeats 4000000 in
theorem jX8_looks_L38 {κ : Cx} {fin : Int32 → Mm → Prop} (hc : Jc κ RX8 cX8_looks 3 1 0 0 22) (he : Ed κ cX8_looks 0 0 wI .ireturn fin) (x0 : Nat) (x1 : Int32) (s0 : Nat) : Jg κ (wM κ) 3 fin 0 0 38 [some ((8, .ref x0) : TV), some ((0, .int x1) : TV), none] [((8, .ref s0) : TV)] (fX8_looks_L38 x0 x1 s0) := by
  unfold fX8_looks_L38
  refine J_iconst (pc := 38) (v := 1) hc dX8_looks_38 (by decide) ?_
  refine J_goto (pc := 39) (tgt := 43) hc dX8_looks_39 (by decide) ?_
  refine J_sub (l' := [some ((8, .ref x0) : TV), some ((0, .int x1) : TV), none]) ⟨rfl, ⟨rfl, trivial⟩⟩ ?_
  exact jX8_looks_L43 hc he x0 x1 1 s0
set_option maxRecDepth 100000 in
set_option maxHeartbeats 4000000 in
theorem jX8_looks_L14 {κ : Cx} {fin : Int32 → Mm → Prop} (hc : Jc κ RX8 cX8_looks 3 1 0 0 22) (he : Ed κ cX8_looks 0 0 wI .ireturn fin) (x0 : Nat) (x1 : Int32) (x2 : Int32) (s0 : Int32) (s1 : Nat) : Jg κ (wM κ) 3 fin 0 0 14 [some ((8, .ref x0) : TV), some ((0, .int x1) : TV), some ((0, .int x2) : TV)] [((0, .int s0) : TV), ((8, .ref s1) : TV)] (fX8_looks_L14 x0 x1 x2 s0 s1) := by
  unfold fX8_looks_L14
  refine J_iconst (pc := 14) (v := 1) hc dX8_looks_14 (by decide) ?_
  refine J_callVv (pc := 15) hc clX8 (As := [((0, .int s0) : TV), ((0, .int 1) : TV)]) (KX8_must s1 s0 1) dX8_looks_15 moX8_must rfl tw1639 tw1641 twp98 tw9 tw1642 rfl (Nat.le_of_ble_eq_true rfl) (Nat.le_of_ble_eq_true rfl) (Nat.le_of_ble_eq_true rfl) (Nat.le_of_ble_eq_true rfl) (Nat.le_of_ble_eq_true rfl) rfl (fun _ => ?_)
  refine J_aload_n (pc := 18) hc dX8_looks_18 rfl rfl ?_
  refine J_aload_n (pc := 19) hc dX8_looks_19 rfl rfl ?_
  refine J_getI (pc := 20) hc clX8 (k := 37) (Nat.le_of_ble_eq_true rfl) rfl tw1199 rfl dX8_looks_20 (fun v3 => ?_)
  refine J_if_gt (pc := 23) (tgt := 38) hc dX8_looks_23 (by decide) ?_ ?_
  · refine J_sub (l' := [some ((8, .ref x0) : TV), some ((0, .int x1) : TV), none]) ⟨rfl, ⟨rfl, trivial⟩⟩ ?_
    exact jX8_looks_L38 hc he x0 x1 x0
  · refine J_aload_n (pc := 26) hc dX8_looks_26 rfl rfl ?_
    refine J_getI (pc := 27) hc clX8 (k := 36) (Nat.le_of_ble_eq_true rfl) rfl tw1198 rfl dX8_looks_27 (fun v4 => ?_)
    refine J_iload_n (pc := 30) hc dX8_looks_30 rfl rfl ?_
    refine J_iload_n (pc := 31) hc dX8_looks_31 rfl rfl ?_
    refine J_callSi (pc := 32) hc (As := [((0, .int v4) : TV), ((0, .int x1) : TV), ((0, .int x2) : TV)]) (KX8_in v4 x1 x2) dX8_looks_32 moX8_in tw1298 tw1299 tw9 tw1300 rfl (Nat.le_of_ble_eq_true rfl) (Nat.le_of_ble_eq_true rfl) (Nat.le_of_ble_eq_true rfl) (Nat.le_of_ble_eq_true rfl) (Nat.le_of_ble_eq_true rfl) rfl (fun v5 => ?_)
    refine J_if_eq (pc := 35) (tgt := 42) hc dX8_looks_35 (by decide) ?_ ?_
    · refine J_iconst (pc := 42) (v := 0) hc dX8_looks_42 (by decide) ?_
      refine J_sub (l' := [some ((8, .ref x0) : TV), some ((0, .int x1) : TV), none]) ⟨rfl, ⟨rfl, trivial⟩⟩ ?_
      exact jX8_looks_L43 hc he x0 x1 0 x0
    · refine J_sub (l' := [some ((8, .ref x0) : TV), some ((0, .int x1) : TV), none]) ⟨rfl, ⟨rfl, trivial⟩⟩ ?_
      exact jX8_looks_L38 hc he x0 x1 x0
set_option maxRecDepth 100000 in
set_option maxHeartbeats 4000000 in
theorem jX8_looks {κ : Cx} {fin : Int32 → Mm → Prop} (hc : Jc κ RX8 cX8_looks 3 1 0 0 22) (he : Ed κ cX8_looks 0 0 wI .ireturn fin) (x0 : Nat) (x1 : Int32) (x2 : Int32) : Jg κ (wM κ) 3 fin 0 0 0 [some ((8, .ref x0) : TV), some ((0, .int x1) : TV), some ((0, .int x2) : TV)] [] (fX8_looks x0 x1 x2) := by
  unfold fX8_looks
  refine J_aload_n (pc := 0) hc dX8_looks_0 rfl rfl ?_
  refine J_aload_n (pc := 1) hc dX8_looks_1 rfl rfl ?_
  refine J_getI (pc := 2) hc clX8 (k := 35) (Nat.le_of_ble_eq_true rfl) rfl tw1197 rfl dX8_looks_2 (fun v6 => ?_)
  refine J_iconst (pc := 5) (v := 2) hc dX8_looks_5 (by decide) ?_
  refine J_icmp_ne (pc := 6) (tgt := 13) hc dX8_looks_6 (by decide) ?_ ?_
  · refine J_iconst (pc := 13) (v := 0) hc dX8_looks_13 (by decide) ?_
    refine J_sub (l' := [some ((8, .ref x0) : TV), some ((0, .int x1) : TV), some ((0, .int x2) : TV)]) ⟨rfl, ⟨rfl, ⟨rfl, trivial⟩⟩⟩ ?_
    exact jX8_looks_L14 hc he x0 x1 x2 0 x0
  · refine J_iconst (pc := 9) (v := 1) hc dX8_looks_9 (by decide) ?_
    refine J_goto (pc := 10) (tgt := 14) hc dX8_looks_10 (by decide) ?_
    refine J_sub (l' := [some ((8, .ref x0) : TV), some ((0, .int x1) : TV), some ((0, .int x2) : TV)]) ⟨rfl, ⟨rfl, ⟨rfl, trivial⟩⟩⟩ ?_
    exact jX8_looks_L14 hc he x0 x1 x2 1 x0
theorem moX8_looks : MOk yX8_looks 2 := ⟨by decide +kernel, by decide +kernel, by decide +kernel⟩
set_option maxRecDepth 100000 in
set_option maxHeartbeats 4000000 in
theorem KX8_looks (x0 : Nat) (x1 : Int32) (x2 : Int32) : Ct wI yX8_looks cX8_looks 3 (some .int) 1 0 0 22 [((8, .ref x0) : TV), ((0, .int x1) : TV), ((0, .int x2) : TV)] (fX8_looks x0 x1 x2) :=
  Ct_I (j := 0) (by decide +kernel) rfl rfl (Nat.le_of_ble_eq_true rfl) (fun κ fin hc he => jX8_looks hc he x0 x1 x2)
set_option maxRecDepth 100000 in
set_option maxHeartbeats 4000000 in
theorem jX8_reads {κ : Cx} {fin : Int32 → Mm → Prop} (hc : Jc κ RX8 cX8_reads 4 4 0 0 82) (he : Ed κ cX8_reads 0 0 wI .ireturn fin) (x0 : Nat) (x1 : Int32) (x2 : Int32) : Jg κ (wM κ) 4 fin 0 0 0 [some ((8, .ref x0) : TV), some ((0, .int x1) : TV), some ((0, .int x2) : TV), none] [] (fX8_reads x0 x1 x2) := by
  unfold fX8_reads
  refine J_aload_n (pc := 0) hc dX8_reads_0 rfl rfl ?_
  refine J_iload_n (pc := 1) hc dX8_reads_1 rfl rfl ?_
  refine J_iload_n (pc := 2) hc dX8_reads_2 rfl rfl ?_
  refine J_callVi (pc := 3) hc clX8 (As := [((0, .int x1) : TV), ((0, .int x2) : TV)]) (KX8_looks x0 x1 x2) dX8_reads_3 moX8_looks rfl tw1635 tw1637 twp97 tw9 tw1638 rfl (Nat.le_of_ble_eq_true rfl) (Nat.le_of_ble_eq_true rfl) (Nat.le_of_ble_eq_true rfl) (Nat.le_of_ble_eq_true rfl) (Nat.le_of_ble_eq_true rfl) rfl (fun v1 => ?_)
  refine J_istore_n (pc := 6) (l' := [some ((8, .ref x0) : TV), some ((0, .int x1) : TV), some ((0, .int x2) : TV), some ((0, .int v1) : TV)]) hc dX8_reads_6 rfl (by decide) rfl rfl ?_
  refine J_aload_n (pc := 7) hc dX8_reads_7 rfl rfl ?_
  refine J_callVv (pc := 8) hc clX8 (As := []) (KX8_goesOn x0) dX8_reads_8 moX8_goesOn rfl tw1627 tw1629 twp95 tw9 tw1630 rfl (Nat.le_of_ble_eq_true rfl) (Nat.le_of_ble_eq_true rfl) (Nat.le_of_ble_eq_true rfl) (Nat.le_of_ble_eq_true rfl) (Nat.le_of_ble_eq_true rfl) rfl (fun _ => ?_)
  refine J_iload_n (pc := 11) hc dX8_reads_11 rfl rfl ?_
  exact J_iret (pc := 12) he dX8_reads_12
theorem moX8_reads : MOk yX8_reads 2 := ⟨by decide +kernel, by decide +kernel, by decide +kernel⟩
set_option maxRecDepth 100000 in
set_option maxHeartbeats 4000000 in
theorem KX8_reads (x0 : Nat) (x1 : Int32) (x2 : Int32) : Ct wI yX8_reads cX8_reads 4 (some .int) 4 0 0 82 [((8, .ref x0) : TV), ((0, .int x1) : TV), ((0, .int x2) : TV)] (fX8_reads x0 x1 x2) :=
  Ct_I (j := 1) (by decide +kernel) rfl rfl (Nat.le_of_ble_eq_true rfl) (fun κ fin hc he => jX8_reads hc he x0 x1 x2)
set_option maxRecDepth 100000 in
set_option maxHeartbeats 4000000 in
theorem jX8_laysTold_L40 {κ : Cx} {fin : Unit → Mm → Prop} (hc : Jc κ RX8 cX8_laysTold 1 1 0 0 23) (he : Ed κ cX8_laysTold 0 0 wV .return_ fin) (x0 : Nat) (s0 : Int32) (s1 : Nat) (s2 : Nat) : Jg κ (wM κ) 1 fin 0 0 40 [some ((8, .ref x0) : TV)] [((0, .int s0) : TV), ((11, .ref s1) : TV), ((8, .ref s2) : TV)] (fX8_laysTold_L40 x0 s0 s1 s2) := by
  unfold fX8_laysTold_L40
  refine J_callVv (pc := 40) hc clX8 (As := [((11, .ref s1) : TV), ((0, .int s0) : TV)]) (KX8_laysUpper s2 s1 s0) dX8_laysTold_40 moX8_laysUpper rfl tw1332 tw1334 twp54 tw9 tw1335 rfl (Nat.le_of_ble_eq_true rfl) (Nat.le_of_ble_eq_true rfl) (Nat.le_of_ble_eq_true rfl) (Nat.le_of_ble_eq_true rfl) (Nat.le_of_ble_eq_true rfl) rfl (fun _ => ?_)
  refine J_aload_n (pc := 43) hc dX8_laysTold_43 rfl rfl ?_
  refine J_callVv (pc := 44) hc clX8 (As := []) (KX8_startsReading x0) dX8_laysTold_44 moX8_startsReading rfl tw1446 tw1448 twp73 tw9 tw1449 rfl (Nat.le_of_ble_eq_true rfl) (Nat.le_of_ble_eq_true rfl) (Nat.le_of_ble_eq_true rfl) (Nat.le_of_ble_eq_true rfl) (Nat.le_of_ble_eq_true rfl) rfl (fun _ => ?_)
  exact J_vret (pc := 47) he dX8_laysTold_47
set_option maxRecDepth 100000 in
set_option maxHeartbeats 4000000 in
theorem jX8_laysTold {κ : Cx} {fin : Unit → Mm → Prop} (hc : Jc κ RX8 cX8_laysTold 1 1 0 0 23) (he : Ed κ cX8_laysTold 0 0 wV .return_ fin) (x0 : Nat) : Jg κ (wM κ) 1 fin 0 0 0 [some ((8, .ref x0) : TV)] [] (fX8_laysTold x0) := by
  unfold fX8_laysTold
  refine J_aload_n (pc := 0) hc dX8_laysTold_0 rfl rfl ?_
  refine J_aload_n (pc := 1) hc dX8_laysTold_1 rfl rfl ?_
  refine J_getA (pc := 2) hc clX8 (k := 2) (kd := 11) (Nat.le_of_ble_eq_true rfl) rfl (Nat.le_of_ble_eq_true rfl) (Nat.le_of_ble_eq_true rfl) tw1164 rfl dX8_laysTold_2 (fun v1 => ?_)
  refine J_iconst (pc := 5) (v := 0) hc dX8_laysTold_5 (by decide) ?_
  refine J_iald (pc := 6) hc dX8_laysTold_6 (fun v2 => ?_)
  refine J_putI (pc := 7) hc clX8 (k := 9) (Nat.le_of_ble_eq_true rfl) rfl rfl tw1171 rfl rfl dX8_laysTold_7 ?_
  refine J_aload_n (pc := 10) hc dX8_laysTold_10 rfl rfl ?_
  refine J_aload_n (pc := 11) hc dX8_laysTold_11 rfl rfl ?_
  refine J_getA (pc := 12) hc clX8 (k := 2) (kd := 11) (Nat.le_of_ble_eq_true rfl) rfl (Nat.le_of_ble_eq_true rfl) (Nat.le_of_ble_eq_true rfl) tw1164 rfl dX8_laysTold_12 (fun v3 => ?_)
  refine J_aload_n (pc := 15) hc dX8_laysTold_15 rfl rfl ?_
  refine J_getA (pc := 16) hc clX8 (k := 2) (kd := 11) (Nat.le_of_ble_eq_true rfl) rfl (Nat.le_of_ble_eq_true rfl) (Nat.le_of_ble_eq_true rfl) tw1164 rfl dX8_laysTold_16 (fun v4 => ?_)
  refine J_iconst (pc := 19) (v := 1) hc dX8_laysTold_19 (by decide) ?_
  refine J_iald (pc := 20) hc dX8_laysTold_20 (fun v5 => ?_)
  refine J_if_ne (pc := 21) (tgt := 28) hc dX8_laysTold_21 (by decide) ?_ ?_
  · refine J_aload_n (pc := 28) hc dX8_laysTold_28 rfl rfl ?_
    refine J_getA (pc := 29) hc clX8 (k := 2) (kd := 11) (Nat.le_of_ble_eq_true rfl) rfl (Nat.le_of_ble_eq_true rfl) (Nat.le_of_ble_eq_true rfl) tw1164 rfl dX8_laysTold_29 (fun v6 => ?_)
    refine J_iconst (pc := 32) (v := 1) hc dX8_laysTold_32 (by decide) ?_
    refine J_iald (pc := 33) hc dX8_laysTold_33 (fun v7 => ?_)
    refine J_iconst (pc := 34) (v := 1) hc dX8_laysTold_34 (by decide) ?_
    refine J_isub (pc := 35) hc dX8_laysTold_35 ?_
    refine J_iconst (pc := 36) (v := 0) hc dX8_laysTold_36 (by decide) ?_
    refine J_callSi (pc := 37) hc (As := [((0, .int (v7 - 1)) : TV), ((0, .int 0) : TV)]) (KX8_dotAt (v7 - 1) 0) dX8_laysTold_37 moX8_dotAt tw1309 tw1310 tw9 tw1311 rfl (Nat.le_of_ble_eq_true rfl) (Nat.le_of_ble_eq_true rfl) (Nat.le_of_ble_eq_true rfl) (Nat.le_of_ble_eq_true rfl) (Nat.le_of_ble_eq_true rfl) rfl (fun v8 => ?_)
    refine J_sub (l' := [some ((8, .ref x0) : TV)]) ⟨rfl, trivial⟩ ?_
    exact jX8_laysTold_L40 hc he x0 v8 v3 x0
  · refine J_iconst (pc := 24) (v := (-1)) hc dX8_laysTold_24 (by decide) ?_
    refine J_goto (pc := 25) (tgt := 40) hc dX8_laysTold_25 (by decide) ?_
    refine J_sub (l' := [some ((8, .ref x0) : TV)]) ⟨rfl, trivial⟩ ?_
    exact jX8_laysTold_L40 hc he x0 (-1) v3 x0
theorem moX8_laysTold : MOk yX8_laysTold 0 := ⟨by decide +kernel, by decide +kernel, by decide +kernel⟩
set_option maxRecDepth 100000 in
set_option maxHeartbeats 4000000 in
theorem KX8_laysTold (x0 : Nat) : Ct wV yX8_laysTold cX8_laysTold 1 none 1 0 0 23 [((8, .ref x0) : TV)] (fX8_laysTold x0) :=
  Ct_V (j := 0) (by decide +kernel) rfl rfl (Nat.le_of_ble_eq_true rfl) (fun κ fin hc he hin => jX8_laysTold hc he x0)
set_option maxRecDepth 100000 in
set_option maxHeartbeats 4000000 in
theorem jX8_addsTold_L63 {κ : Cx} {fin : Unit → Mm → Prop} (hc : Jc κ RX8 cX8_addsTold 2 1 0 0 21) (he : Ed κ cX8_addsTold 0 0 wV .return_ fin) (s0 : Int32) (s1 : Int32) (s2 : Int32) (s3 : Nat) : Jg κ (wM κ) 2 fin 0 0 63 [none, none] [((0, .int s0) : TV), ((0, .int s1) : TV), ((0, .int s2) : TV), ((11, .ref s3) : TV)] (fX8_addsTold_L63 s0 s1 s2 s3) := by
  unfold fX8_addsTold_L63
  refine J_iadd (pc := 63) hc dX8_addsTold_63 ?_
  refine J_iast (pc := 64) hc dX8_addsTold_64 ?_
  exact J_vret (pc := 65) he dX8_addsTold_65
set_option maxRecDepth 100000 in
set_option maxHeartbeats 4000000 in
theorem jX8_addsTold_L44 {κ : Cx} {fin : Unit → Mm → Prop} (hc : Jc κ RX8 cX8_addsTold 2 1 0 0 21) (he : Ed κ cX8_addsTold 0 0 wV .return_ fin) (x0 : Nat) : Jg κ (wM κ) 2 fin 0 0 44 [some ((8, .ref x0) : TV), none] [] (fX8_addsTold_L44 x0) := by
  unfold fX8_addsTold_L44
  refine J_aload_n (pc := 44) hc dX8_addsTold_44 rfl rfl ?_
  refine J_getA (pc := 45) hc clX8 (k := 2) (kd := 11) (Nat.le_of_ble_eq_true rfl) rfl (Nat.le_of_ble_eq_true rfl) (Nat.le_of_ble_eq_true rfl) tw1164 rfl dX8_addsTold_45 (fun v1 => ?_)
  refine J_iconst (pc := 48) (v := 1) hc dX8_addsTold_48 (by decide) ?_
  refine J_dup2 (pc := 49) hc dX8_addsTold_49 rfl rfl ?_
  refine J_iald (pc := 50) hc dX8_addsTold_50 (fun v2 => ?_)
  refine J_aload_n (pc := 51) hc dX8_addsTold_51 rfl rfl ?_
  refine J_getI (pc := 52) hc clX8 (k := 37) (Nat.le_of_ble_eq_true rfl) rfl tw1199 rfl dX8_addsTold_52 (fun v3 => ?_)
  refine J_if_ne (pc := 55) (tgt := 62) hc dX8_addsTold_55 (by decide) ?_ ?_
  · refine J_iconst (pc := 62) (v := 0) hc dX8_addsTold_62 (by decide) ?_
    refine J_sub (l' := [none, none]) (show subL _ _ from trivial) ?_
    exact jX8_addsTold_L63 hc he 0 v2 1 v1
  · refine J_iconst (pc := 58) (v := 1) hc dX8_addsTold_58 (by decide) ?_
    refine J_goto (pc := 59) (tgt := 63) hc dX8_addsTold_59 (by decide) ?_
    refine J_sub (l' := [none, none]) (show subL _ _ from trivial) ?_
    exact jX8_addsTold_L63 hc he 1 v2 1 v1
set_option maxRecDepth 100000 in
set_option maxHeartbeats 4000000 in
theorem jX8_addsTold_L2 {κ : Cx} {fin : Unit → Mm → Prop} (hc : Jc κ RX8 cX8_addsTold 2 1 0 0 21) (he : Ed κ cX8_addsTold 0 0 wV .return_ fin) : ∀ (n : Nat) (x0 : Nat) (x1 : Int32), Jg κ (wM κ) 2 fin 0 0 2 [some ((8, .ref x0) : TV), some ((0, .int x1) : TV)] [] (fX8_addsTold_L2 n x0 x1) := by
  intro n
  induction n with
  | zero => intro x0 x1; exact J_fail
  | succ n ih =>
    intro x0 x1
    unfold fX8_addsTold_L2
    refine J_iload_n (pc := 2) hc dX8_addsTold_2 rfl rfl ?_
    refine J_aload_n (pc := 3) hc dX8_addsTold_3 rfl rfl ?_
    refine J_getI (pc := 4) hc clX8 (k := 9) (Nat.le_of_ble_eq_true rfl) rfl tw1171 rfl dX8_addsTold_4 (fun v4 => ?_)
    refine J_icmp_ge (pc := 7) (tgt := 44) hc dX8_addsTold_7 (by decide) ?_ ?_
    · refine J_sub (l' := [some ((8, .ref x0) : TV), none]) ⟨rfl, trivial⟩ ?_
      exact jX8_addsTold_L44 hc he x0
    · refine J_aload_n (pc := 10) hc dX8_addsTold_10 rfl rfl ?_
      refine J_getI (pc := 11) hc clX8 (k := 37) (Nat.le_of_ble_eq_true rfl) rfl tw1199 rfl dX8_addsTold_11 (fun v5 => ?_)
      refine J_if_ne (pc := 14) (tgt := 44) hc dX8_addsTold_14 (by decide) ?_ ?_
      · refine J_sub (l' := [some ((8, .ref x0) : TV), none]) ⟨rfl, trivial⟩ ?_
        exact jX8_addsTold_L44 hc he x0
      · refine J_aload_n (pc := 17) hc dX8_addsTold_17 rfl rfl ?_
        refine J_getA (pc := 18) hc clX8 (k := 2) (kd := 11) (Nat.le_of_ble_eq_true rfl) rfl (Nat.le_of_ble_eq_true rfl) (Nat.le_of_ble_eq_true rfl) tw1164 rfl dX8_addsTold_18 (fun v6 => ?_)
        refine J_aload_n (pc := 21) hc dX8_addsTold_21 rfl rfl ?_
        refine J_getA (pc := 22) hc clX8 (k := 2) (kd := 11) (Nat.le_of_ble_eq_true rfl) rfl (Nat.le_of_ble_eq_true rfl) (Nat.le_of_ble_eq_true rfl) tw1164 rfl dX8_addsTold_22 (fun v7 => ?_)
        refine J_iconst (pc := 25) (v := 1) hc dX8_addsTold_25 (by decide) ?_
        refine J_iald (pc := 26) hc dX8_addsTold_26 (fun v8 => ?_)
        refine J_iload_n (pc := 27) hc dX8_addsTold_27 rfl rfl ?_
        refine J_callSi (pc := 28) hc (As := [((0, .int v8) : TV), ((0, .int x1) : TV)]) (KX8_dotAt v8 x1) dX8_addsTold_28 moX8_dotAt tw1309 tw1310 tw9 tw1311 rfl (Nat.le_of_ble_eq_true rfl) (Nat.le_of_ble_eq_true rfl) (Nat.le_of_ble_eq_true rfl) (Nat.le_of_ble_eq_true rfl) (Nat.le_of_ble_eq_true rfl) rfl (fun v9 => ?_)
        refine J_aload_n (pc := 31) hc dX8_addsTold_31 rfl rfl ?_
        refine J_getA (pc := 32) hc clX8 (k := 15) (kd := 11) (Nat.le_of_ble_eq_true rfl) rfl (Nat.le_of_ble_eq_true rfl) (Nat.le_of_ble_eq_true rfl) tw1177 rfl dX8_addsTold_32 (fun v10 => ?_)
        refine J_iload_n (pc := 35) hc dX8_addsTold_35 rfl rfl ?_
        refine J_iald (pc := 36) hc dX8_addsTold_36 (fun v11 => ?_)
        refine J_iast (pc := 37) hc dX8_addsTold_37 ?_
        refine J_iinc (pc := 38) (v := x1 + 1) (l' := [some ((8, .ref x0) : TV), some ((0, .int (x1 + 1)) : TV)]) hc dX8_addsTold_38 rfl rfl (by decide) rfl rfl ?_
        refine J_goto (pc := 41) (tgt := 2) hc dX8_addsTold_41 (by decide) ?_
        refine J_sub (l' := [some ((8, .ref x0) : TV), some ((0, .int (x1 + 1)) : TV)]) ⟨rfl, ⟨rfl, trivial⟩⟩ ?_
        exact ih x0 (x1 + 1)
set_option maxRecDepth 100000 in
set_option maxHeartbeats 4000000 in
theorem jX8_addsTold {κ : Cx} {fin : Unit → Mm → Prop} (hc : Jc κ RX8 cX8_addsTold 2 1 0 0 21) (he : Ed κ cX8_addsTold 0 0 wV .return_ fin) (x0 : Nat) : Jg κ (wM κ) 2 fin 0 0 0 [some ((8, .ref x0) : TV), none] [] (fX8_addsTold x0) := by
  unfold fX8_addsTold
  refine J_iconst (pc := 0) (v := 0) hc dX8_addsTold_0 (by decide) ?_
  refine J_istore_n (pc := 1) (l' := [some ((8, .ref x0) : TV), some ((0, .int 0) : TV)]) hc dX8_addsTold_1 rfl (by decide) rfl rfl ?_
  refine J_sub (l' := [some ((8, .ref x0) : TV), some ((0, .int 0) : TV)]) ⟨rfl, ⟨rfl, trivial⟩⟩ ?_
  exact jX8_addsTold_L2 hc he fu x0 0
theorem moX8_addsTold : MOk yX8_addsTold 0 := ⟨by decide +kernel, by decide +kernel, by decide +kernel⟩
set_option maxRecDepth 100000 in
set_option maxHeartbeats 4000000 in
theorem KX8_addsTold (x0 : Nat) : Ct wV yX8_addsTold cX8_addsTold 2 none 1 0 0 21 [((8, .ref x0) : TV)] (fX8_addsTold x0) :=
  Ct_V (j := 1) (by decide +kernel) rfl rfl (Nat.le_of_ble_eq_true rfl) (fun κ fin hc he hin => jX8_addsTold hc he x0)
set_option maxRecDepth 100000 in
set_option maxHeartbeats 4000000 in
theorem jX8_readsRow_L94 {κ : Cx} {fin : Unit → Mm → Prop} (hc : Jc κ RX8 cX8_readsRow 2 4 0 0 82) (he : Ed κ cX8_readsRow 0 0 wV .return_ fin) (x0 : Nat) : Jg κ (wM κ) 2 fin 0 0 94 [some ((8, .ref x0) : TV), none] [] (fX8_readsRow_L94 x0) := by
  unfold fX8_readsRow_L94
  refine J_aload_n (pc := 94) hc dX8_readsRow_94 rfl rfl ?_
  refine J_callVv (pc := 95) hc clX8 (As := []) (KX8_goesOn x0) dX8_readsRow_95 moX8_goesOn rfl tw1627 tw1629 twp95 tw9 tw1630 rfl (Nat.le_of_ble_eq_true rfl) (Nat.le_of_ble_eq_true rfl) (Nat.le_of_ble_eq_true rfl) (Nat.le_of_ble_eq_true rfl) (Nat.le_of_ble_eq_true rfl) rfl (fun _ => ?_)
  exact J_vret (pc := 98) he dX8_readsRow_98
set_option maxRecDepth 100000 in
set_option maxHeartbeats 4000000 in
theorem jX8_readsRow_L87 {κ : Cx} {fin : Unit → Mm → Prop} (hc : Jc κ RX8 cX8_readsRow 2 4 0 0 82) (he : Ed κ cX8_readsRow 0 0 wV .return_ fin) {k46 : Nat → Int32 → Mm → Option (Unit × Mm)} (hk46 : ∀ (x0 : Nat) (x1 : Int32), Jg κ (wM κ) 2 fin 0 0 46 [some ((8, .ref x0) : TV), some ((0, .int x1) : TV)] [] (k46 x0 x1)) (x0 : Nat) (x1 : Int32) (s0 : Int32) (s1 : Int32) (s2 : Nat) : Jg κ (wM κ) 2 fin 0 0 87 [some ((8, .ref x0) : TV), some ((0, .int x1) : TV)] [((0, .int s0) : TV), ((0, .int s1) : TV), ((11, .ref s2) : TV)] (fX8_readsRow_L87 k46 x0 x1 s0 s1 s2) := by
  unfold fX8_readsRow_L87
  refine J_iast (pc := 87) hc dX8_readsRow_87 ?_
  refine J_iinc (pc := 88) (v := x1 + 1) (l' := [some ((8, .ref x0) : TV), some ((0, .int (x1 + 1)) : TV)]) hc dX8_readsRow_88 rfl rfl (by decide) rfl rfl ?_
  refine J_goto (pc := 91) (tgt := 46) hc dX8_readsRow_91 (by decide) ?_
  refine J_sub (l' := [some ((8, .ref x0) : TV), some ((0, .int (x1 + 1)) : TV)]) ⟨rfl, ⟨rfl, trivial⟩⟩ ?_
  exact hk46 x0 (x1 + 1)
set_option maxRecDepth 100000 in
set_option maxHeartbeats 4000000 in
theorem jX8_readsRow_L46 {κ : Cx} {fin : Unit → Mm → Prop} (hc : Jc κ RX8 cX8_readsRow 2 4 0 0 82) (he : Ed κ cX8_readsRow 0 0 wV .return_ fin) : ∀ (n : Nat) (x0 : Nat) (x1 : Int32), Jg κ (wM κ) 2 fin 0 0 46 [some ((8, .ref x0) : TV), some ((0, .int x1) : TV)] [] (fX8_readsRow_L46 n x0 x1) := by
  intro n
  induction n with
  | zero => intro x0 x1; exact J_fail
  | succ n ih =>
    intro x0 x1
    unfold fX8_readsRow_L46
    refine J_iload_n (pc := 46) hc dX8_readsRow_46 rfl rfl ?_
    refine J_aload_n (pc := 47) hc dX8_readsRow_47 rfl rfl ?_
    refine J_getI (pc := 48) hc clX8 (k := 9) (Nat.le_of_ble_eq_true rfl) rfl tw1171 rfl dX8_readsRow_48 (fun v1 => ?_)
    refine J_icmp_ge (pc := 51) (tgt := 94) hc dX8_readsRow_51 (by decide) ?_ ?_
    · refine J_sub (l' := [some ((8, .ref x0) : TV), none]) ⟨rfl, trivial⟩ ?_
      exact jX8_readsRow_L94 hc he x0
    · refine J_aload_n (pc := 54) hc dX8_readsRow_54 rfl rfl ?_
      refine J_getI (pc := 55) hc clX8 (k := 37) (Nat.le_of_ble_eq_true rfl) rfl tw1199 rfl dX8_readsRow_55 (fun v2 => ?_)
      refine J_if_ne (pc := 58) (tgt := 94) hc dX8_readsRow_58 (by decide) ?_ ?_
      · refine J_sub (l' := [some ((8, .ref x0) : TV), none]) ⟨rfl, trivial⟩ ?_
        exact jX8_readsRow_L94 hc he x0
      · refine J_aload_n (pc := 61) hc dX8_readsRow_61 rfl rfl ?_
        refine J_getA (pc := 62) hc clX8 (k := 15) (kd := 11) (Nat.le_of_ble_eq_true rfl) rfl (Nat.le_of_ble_eq_true rfl) (Nat.le_of_ble_eq_true rfl) tw1177 rfl dX8_readsRow_62 (fun v3 => ?_)
        refine J_iload_n (pc := 65) hc dX8_readsRow_65 rfl rfl ?_
        refine J_aload_n (pc := 66) hc dX8_readsRow_66 rfl rfl ?_
        refine J_getA (pc := 67) hc clX8 (k := 31) (kd := 10) (Nat.le_of_ble_eq_true rfl) rfl (Nat.le_of_ble_eq_true rfl) (Nat.le_of_ble_eq_true rfl) tw1193 rfl dX8_readsRow_67 (fun v4 => ?_)
        refine J_aload_n (pc := 70) hc dX8_readsRow_70 rfl rfl ?_
        refine J_getI (pc := 71) hc clX8 (k := 34) (Nat.le_of_ble_eq_true rfl) rfl tw1196 rfl dX8_readsRow_71 (fun v5 => ?_)
        refine J_iload_n (pc := 74) hc dX8_readsRow_74 rfl rfl ?_
        refine J_iadd (pc := 75) hc dX8_readsRow_75 ?_
        refine J_bald (pc := 76) hc dX8_readsRow_76 (fun v6 => ?_)
        refine J_bipush (pc := 77) (v := 35) hc dX8_readsRow_77 (by decide) ?_
        refine J_icmp_ne (pc := 79) (tgt := 86) hc dX8_readsRow_79 (by decide) ?_ ?_
        · refine J_iconst (pc := 86) (v := 0) hc dX8_readsRow_86 (by decide) ?_
          refine J_sub (l' := [some ((8, .ref x0) : TV), some ((0, .int x1) : TV)]) ⟨rfl, ⟨rfl, trivial⟩⟩ ?_
          exact jX8_readsRow_L87 hc he ih x0 x1 0 x1 v3
        · refine J_iconst (pc := 82) (v := 1) hc dX8_readsRow_82 (by decide) ?_
          refine J_goto (pc := 83) (tgt := 87) hc dX8_readsRow_83 (by decide) ?_
          refine J_sub (l' := [some ((8, .ref x0) : TV), some ((0, .int x1) : TV)]) ⟨rfl, ⟨rfl, trivial⟩⟩ ?_
          exact jX8_readsRow_L87 hc he ih x0 x1 1 x1 v3
set_option maxRecDepth 100000 in
set_option maxHeartbeats 4000000 in
theorem jX8_readsRow_L40 {κ : Cx} {fin : Unit → Mm → Prop} (hc : Jc κ RX8 cX8_readsRow 2 4 0 0 82) (he : Ed κ cX8_readsRow 0 0 wV .return_ fin) (x0 : Nat) (s0 : Int32) (s1 : Nat) : Jg κ (wM κ) 2 fin 0 0 40 [some ((8, .ref x0) : TV), none] [((0, .int s0) : TV), ((8, .ref s1) : TV)] (fX8_readsRow_L40 x0 s0 s1) := by
  unfold fX8_readsRow_L40
  refine J_iconst (pc := 40) (v := 3) hc dX8_readsRow_40 (by decide) ?_
  refine J_callVv (pc := 41) hc clX8 (As := [((0, .int s0) : TV), ((0, .int 3) : TV)]) (KX8_must s1 s0 3) dX8_readsRow_41 moX8_must rfl tw1639 tw1641 twp98 tw9 tw1642 rfl (Nat.le_of_ble_eq_true rfl) (Nat.le_of_ble_eq_true rfl) (Nat.le_of_ble_eq_true rfl) (Nat.le_of_ble_eq_true rfl) (Nat.le_of_ble_eq_true rfl) rfl (fun _ => ?_)
  refine J_iconst (pc := 44) (v := 0) hc dX8_readsRow_44 (by decide) ?_
  refine J_istore_n (pc := 45) (l' := [some ((8, .ref x0) : TV), some ((0, .int 0) : TV)]) hc dX8_readsRow_45 rfl (by decide) rfl rfl ?_
  refine J_sub (l' := [some ((8, .ref x0) : TV), some ((0, .int 0) : TV)]) ⟨rfl, ⟨rfl, trivial⟩⟩ ?_
  exact jX8_readsRow_L46 hc he fu x0 0
set_option maxRecDepth 100000 in
set_option maxHeartbeats 4000000 in
theorem jX8_readsRow_L14 {κ : Cx} {fin : Unit → Mm → Prop} (hc : Jc κ RX8 cX8_readsRow 2 4 0 0 82) (he : Ed κ cX8_readsRow 0 0 wV .return_ fin) (x0 : Nat) (s0 : Int32) (s1 : Nat) : Jg κ (wM κ) 2 fin 0 0 14 [some ((8, .ref x0) : TV), none] [((0, .int s0) : TV), ((8, .ref s1) : TV)] (fX8_readsRow_L14 x0 s0 s1) := by
  unfold fX8_readsRow_L14
  refine J_iconst (pc := 14) (v := 1) hc dX8_readsRow_14 (by decide) ?_
  refine J_callVv (pc := 15) hc clX8 (As := [((0, .int s0) : TV), ((0, .int 1) : TV)]) (KX8_must s1 s0 1) dX8_readsRow_15 moX8_must rfl tw1639 tw1641 twp98 tw9 tw1642 rfl (Nat.le_of_ble_eq_true rfl) (Nat.le_of_ble_eq_true rfl) (Nat.le_of_ble_eq_true rfl) (Nat.le_of_ble_eq_true rfl) (Nat.le_of_ble_eq_true rfl) rfl (fun _ => ?_)
  refine J_aload_n (pc := 18) hc dX8_readsRow_18 rfl rfl ?_
  refine J_aload_n (pc := 19) hc dX8_readsRow_19 rfl rfl ?_
  refine J_getI (pc := 20) hc clX8 (k := 33) (Nat.le_of_ble_eq_true rfl) rfl tw1195 rfl dX8_readsRow_20 (fun v7 => ?_)
  refine J_aload_n (pc := 23) hc dX8_readsRow_23 rfl rfl ?_
  refine J_getI (pc := 24) hc clX8 (k := 34) (Nat.le_of_ble_eq_true rfl) rfl tw1196 rfl dX8_readsRow_24 (fun v8 => ?_)
  refine J_isub (pc := 27) hc dX8_readsRow_27 ?_
  refine J_aload_n (pc := 28) hc dX8_readsRow_28 rfl rfl ?_
  refine J_getI (pc := 29) hc clX8 (k := 9) (Nat.le_of_ble_eq_true rfl) rfl tw1171 rfl dX8_readsRow_29 (fun v9 => ?_)
  refine J_icmp_ne (pc := 32) (tgt := 39) hc dX8_readsRow_32 (by decide) ?_ ?_
  · refine J_iconst (pc := 39) (v := 0) hc dX8_readsRow_39 (by decide) ?_
    refine J_sub (l' := [some ((8, .ref x0) : TV), none]) ⟨rfl, trivial⟩ ?_
    exact jX8_readsRow_L40 hc he x0 0 x0
  · refine J_iconst (pc := 35) (v := 1) hc dX8_readsRow_35 (by decide) ?_
    refine J_goto (pc := 36) (tgt := 40) hc dX8_readsRow_36 (by decide) ?_
    refine J_sub (l' := [some ((8, .ref x0) : TV), none]) ⟨rfl, trivial⟩ ?_
    exact jX8_readsRow_L40 hc he x0 1 x0
set_option maxRecDepth 100000 in
set_option maxHeartbeats 4000000 in
theorem jX8_readsRow {κ : Cx} {fin : Unit → Mm → Prop} (hc : Jc κ RX8 cX8_readsRow 2 4 0 0 82) (he : Ed κ cX8_readsRow 0 0 wV .return_ fin) (x0 : Nat) : Jg κ (wM κ) 2 fin 0 0 0 [some ((8, .ref x0) : TV), none] [] (fX8_readsRow x0) := by
  unfold fX8_readsRow
  refine J_aload_n (pc := 0) hc dX8_readsRow_0 rfl rfl ?_
  refine J_aload_n (pc := 1) hc dX8_readsRow_1 rfl rfl ?_
  refine J_getI (pc := 2) hc clX8 (k := 35) (Nat.le_of_ble_eq_true rfl) rfl tw1197 rfl dX8_readsRow_2 (fun v10 => ?_)
  refine J_iconst (pc := 5) (v := 3) hc dX8_readsRow_5 (by decide) ?_
  refine J_icmp_ne (pc := 6) (tgt := 13) hc dX8_readsRow_6 (by decide) ?_ ?_
  · refine J_iconst (pc := 13) (v := 0) hc dX8_readsRow_13 (by decide) ?_
    refine J_sub (l' := [some ((8, .ref x0) : TV), none]) ⟨rfl, trivial⟩ ?_
    exact jX8_readsRow_L14 hc he x0 0 x0
  · refine J_iconst (pc := 9) (v := 1) hc dX8_readsRow_9 (by decide) ?_
    refine J_goto (pc := 10) (tgt := 14) hc dX8_readsRow_10 (by decide) ?_
    refine J_sub (l' := [some ((8, .ref x0) : TV), none]) ⟨rfl, trivial⟩ ?_
    exact jX8_readsRow_L14 hc he x0 1 x0
theorem moX8_readsRow : MOk yX8_readsRow 0 := ⟨by decide +kernel, by decide +kernel, by decide +kernel⟩
set_option maxRecDepth 100000 in
set_option maxHeartbeats 4000000 in
theorem KX8_readsRow (x0 : Nat) : Ct wV yX8_readsRow cX8_readsRow 2 none 4 0 0 82 [((8, .ref x0) : TV)] (fX8_readsRow x0) :=
  Ct_V (j := 1) (by decide +kernel) rfl rfl (Nat.le_of_ble_eq_true rfl) (fun κ fin hc he hin => jX8_readsRow hc he x0)
set_option maxRecDepth 100000 in
set_option maxHeartbeats 4000000 in
theorem jX8_readsAlone_L132 {κ : Cx} {fin : Unit → Mm → Prop} (hc : Jc κ RX8 cX8_readsAlone 5 4 0 0 82) (he : Ed κ cX8_readsAlone 0 0 wV .return_ fin) (s0 : Int32) (s1 : Nat) : Jg κ (wM κ) 5 fin 0 0 132 [none, none, none, none, none] [((0, .int s0) : TV), ((8, .ref s1) : TV)] (fX8_readsAlone_L132 s0 s1) := by
  unfold fX8_readsAlone_L132
  refine J_iconst (pc := 132) (v := 3) hc dX8_readsAlone_132 (by decide) ?_
  refine J_callVv (pc := 133) hc clX8 (As := [((0, .int s0) : TV), ((0, .int 3) : TV)]) (KX8_must s1 s0 3) dX8_readsAlone_133 moX8_must rfl tw1639 tw1641 twp98 tw9 tw1642 rfl (Nat.le_of_ble_eq_true rfl) (Nat.le_of_ble_eq_true rfl) (Nat.le_of_ble_eq_true rfl) (Nat.le_of_ble_eq_true rfl) (Nat.le_of_ble_eq_true rfl) rfl (fun _ => ?_)
  exact J_vret (pc := 136) he dX8_readsAlone_136
set_option maxRecDepth 100000 in
set_option maxHeartbeats 4000000 in
theorem jX8_readsAlone_L114 {κ : Cx} {fin : Unit → Mm → Prop} (hc : Jc κ RX8 cX8_readsAlone 5 4 0 0 82) (he : Ed κ cX8_readsAlone 0 0 wV .return_ fin) (x0 : Nat) (x1 : Int32) (s0 : Int32) (s1 : Nat) : Jg κ (wM κ) 5 fin 0 0 114 [some ((8, .ref x0) : TV), some ((0, .int x1) : TV), none, none, none] [((0, .int s0) : TV), ((8, .ref s1) : TV)] (fX8_readsAlone_L114 x0 x1 s0 s1) := by
  unfold fX8_readsAlone_L114
  refine J_iconst (pc := 114) (v := 1) hc dX8_readsAlone_114 (by decide) ?_
  refine J_callVv (pc := 115) hc clX8 (As := [((0, .int s0) : TV), ((0, .int 1) : TV)]) (KX8_must s1 s0 1) dX8_readsAlone_115 moX8_must rfl tw1639 tw1641 twp98 tw9 tw1642 rfl (Nat.le_of_ble_eq_true rfl) (Nat.le_of_ble_eq_true rfl) (Nat.le_of_ble_eq_true rfl) (Nat.le_of_ble_eq_true rfl) (Nat.le_of_ble_eq_true rfl) rfl (fun _ => ?_)
  refine J_aload_n (pc := 118) hc dX8_readsAlone_118 rfl rfl ?_
  refine J_iload_n (pc := 119) hc dX8_readsAlone_119 rfl rfl ?_
  refine J_aload_n (pc := 120) hc dX8_readsAlone_120 rfl rfl ?_
  refine J_getI (pc := 121) hc clX8 (k := 9) (Nat.le_of_ble_eq_true rfl) rfl tw1171 rfl dX8_readsAlone_121 (fun v1 => ?_)
  refine J_icmp_ne (pc := 124) (tgt := 131) hc dX8_readsAlone_124 (by decide) ?_ ?_
  · refine J_iconst (pc := 131) (v := 0) hc dX8_readsAlone_131 (by decide) ?_
    refine J_sub (l' := [none, none, none, none, none]) (show subL _ _ from trivial) ?_
    exact jX8_readsAlone_L132 hc he 0 x0
  · refine J_iconst (pc := 127) (v := 1) hc dX8_readsAlone_127 (by decide) ?_
    refine J_goto (pc := 128) (tgt := 132) hc dX8_readsAlone_128 (by decide) ?_
    refine J_sub (l' := [none, none, none, none, none]) (show subL _ _ from trivial) ?_
    exact jX8_readsAlone_L132 hc he 1 x0
set_option maxRecDepth 100000 in
set_option maxHeartbeats 4000000 in
theorem jX8_readsAlone_L100 {κ : Cx} {fin : Unit → Mm → Prop} (hc : Jc κ RX8 cX8_readsAlone 5 4 0 0 82) (he : Ed κ cX8_readsAlone 0 0 wV .return_ fin) (x0 : Nat) (x1 : Int32) : Jg κ (wM κ) 5 fin 0 0 100 [some ((8, .ref x0) : TV), some ((0, .int x1) : TV), none, none, none] [] (fX8_readsAlone_L100 x0 x1) := by
  unfold fX8_readsAlone_L100
  refine J_aload_n (pc := 100) hc dX8_readsAlone_100 rfl rfl ?_
  refine J_aload_n (pc := 101) hc dX8_readsAlone_101 rfl rfl ?_
  refine J_getI (pc := 102) hc clX8 (k := 35) (Nat.le_of_ble_eq_true rfl) rfl tw1197 rfl dX8_readsAlone_102 (fun v2 => ?_)
  refine J_iconst (pc := 105) (v := 4) hc dX8_readsAlone_105 (by decide) ?_
  refine J_icmp_ne (pc := 106) (tgt := 113) hc dX8_readsAlone_106 (by decide) ?_ ?_
  · refine J_iconst (pc := 113) (v := 0) hc dX8_readsAlone_113 (by decide) ?_
    refine J_sub (l' := [some ((8, .ref x0) : TV), some ((0, .int x1) : TV), none, none, none]) ⟨rfl, ⟨rfl, trivial⟩⟩ ?_
    exact jX8_readsAlone_L114 hc he x0 x1 0 x0
  · refine J_iconst (pc := 109) (v := 1) hc dX8_readsAlone_109 (by decide) ?_
    refine J_goto (pc := 110) (tgt := 114) hc dX8_readsAlone_110 (by decide) ?_
    refine J_sub (l' := [some ((8, .ref x0) : TV), some ((0, .int x1) : TV), none, none, none]) ⟨rfl, ⟨rfl, trivial⟩⟩ ?_
    exact jX8_readsAlone_L114 hc he x0 x1 1 x0
set_option maxRecDepth 100000 in
set_option maxHeartbeats 4000000 in
theorem jX8_readsAlone_L91 {κ : Cx} {fin : Unit → Mm → Prop} (hc : Jc κ RX8 cX8_readsAlone 5 4 0 0 82) (he : Ed κ cX8_readsAlone 0 0 wV .return_ fin) {k6 : Nat → Int32 → Int32 → Int32 → Mm → Option (Unit × Mm)} (hk6 : ∀ (x0 : Nat) (x1 : Int32) (x2 : Int32) (x3 : Int32), Jg κ (wM κ) 5 fin 0 0 6 [some ((8, .ref x0) : TV), some ((0, .int x1) : TV), some ((0, .int x2) : TV), some ((0, .int x3) : TV), none] [] (k6 x0 x1 x2 x3)) (x0 : Nat) (x1 : Int32) (x2 : Int32) : Jg κ (wM κ) 5 fin 0 0 91 [some ((8, .ref x0) : TV), some ((0, .int x1) : TV), some ((0, .int x2) : TV), none, none] [] (fX8_readsAlone_L91 k6 x0 x1 x2) := by
  unfold fX8_readsAlone_L91
  refine J_aload_n (pc := 91) hc dX8_readsAlone_91 rfl rfl ?_
  refine J_callVv (pc := 92) hc clX8 (As := []) (KX8_goesOn x0) dX8_readsAlone_92 moX8_goesOn rfl tw1627 tw1629 twp95 tw9 tw1630 rfl (Nat.le_of_ble_eq_true rfl) (Nat.le_of_ble_eq_true rfl) (Nat.le_of_ble_eq_true rfl) (Nat.le_of_ble_eq_true rfl) (Nat.le_of_ble_eq_true rfl) rfl (fun _ => ?_)
  refine J_iconst (pc := 95) (v := 0) hc dX8_readsAlone_95 (by decide) ?_
  refine J_istore_n (pc := 96) (l' := [some ((8, .ref x0) : TV), some ((0, .int x1) : TV), some ((0, .int x2) : TV), some ((0, .int 0) : TV), none]) hc dX8_readsAlone_96 rfl (by decide) rfl rfl ?_
  refine J_goto (pc := 97) (tgt := 6) hc dX8_readsAlone_97 (by decide) ?_
  refine J_sub (l' := [some ((8, .ref x0) : TV), some ((0, .int x1) : TV), some ((0, .int x2) : TV), some ((0, .int 0) : TV), none]) ⟨rfl, ⟨rfl, ⟨rfl, ⟨rfl, trivial⟩⟩⟩⟩ ?_
  exact hk6 x0 x1 x2 0
set_option maxRecDepth 100000 in
set_option maxHeartbeats 4000000 in
theorem jX8_readsAlone_L61 {κ : Cx} {fin : Unit → Mm → Prop} (hc : Jc κ RX8 cX8_readsAlone 5 4 0 0 82) (he : Ed κ cX8_readsAlone 0 0 wV .return_ fin) {k6 : Nat → Int32 → Int32 → Int32 → Mm → Option (Unit × Mm)} (hk6 : ∀ (x0 : Nat) (x1 : Int32) (x2 : Int32) (x3 : Int32), Jg κ (wM κ) 5 fin 0 0 6 [some ((8, .ref x0) : TV), some ((0, .int x1) : TV), some ((0, .int x2) : TV), some ((0, .int x3) : TV), none] [] (k6 x0 x1 x2 x3)) (x0 : Nat) (x1 : Int32) (x2 : Int32) (x4 : Int32) (s0 : Int32) (s1 : Nat) : Jg κ (wM κ) 5 fin 0 0 61 [some ((8, .ref x0) : TV), some ((0, .int x1) : TV), some ((0, .int x2) : TV), none, some ((0, .int x4) : TV)] [((0, .int s0) : TV), ((8, .ref s1) : TV)] (fX8_readsAlone_L61 k6 x0 x1 x2 x4 s0 s1) := by
  unfold fX8_readsAlone_L61
  refine J_iconst (pc := 61) (v := 4) hc dX8_readsAlone_61 (by decide) ?_
  refine J_callVv (pc := 62) hc clX8 (As := [((0, .int s0) : TV), ((0, .int 4) : TV)]) (KX8_must s1 s0 4) dX8_readsAlone_62 moX8_must rfl tw1639 tw1641 twp98 tw9 tw1642 rfl (Nat.le_of_ble_eq_true rfl) (Nat.le_of_ble_eq_true rfl) (Nat.le_of_ble_eq_true rfl) (Nat.le_of_ble_eq_true rfl) (Nat.le_of_ble_eq_true rfl) rfl (fun _ => ?_)
  refine J_aload_n (pc := 65) hc dX8_readsAlone_65 rfl rfl ?_
  refine J_getI (pc := 66) hc clX8 (k := 37) (Nat.le_of_ble_eq_true rfl) rfl tw1199 rfl dX8_readsAlone_66 (fun v3 => ?_)
  refine J_if_ne (pc := 69) (tgt := 91) hc dX8_readsAlone_69 (by decide) ?_ ?_
  · refine J_sub (l' := [some ((8, .ref x0) : TV), some ((0, .int x1) : TV), some ((0, .int x2) : TV), none, none]) ⟨rfl, ⟨rfl, ⟨rfl, trivial⟩⟩⟩ ?_
    exact jX8_readsAlone_L91 hc he hk6 x0 x1 x2
  · refine J_aload_n (pc := 72) hc dX8_readsAlone_72 rfl rfl ?_
    refine J_iload_n (pc := 73) hc dX8_readsAlone_73 rfl rfl ?_
    refine J_iload_n (pc := 74) hc dX8_readsAlone_74 rfl rfl ?_
    refine J_iload (pc := 75) hc dX8_readsAlone_75 rfl ?_
    refine J_iadd (pc := 77) hc dX8_readsAlone_77 ?_
    refine J_iload_n (pc := 78) hc dX8_readsAlone_78 rfl rfl ?_
    refine J_callVv (pc := 79) hc clX8 (As := [((0, .int x1) : TV), ((0, .int (x1 + x4)) : TV), ((0, .int x2) : TV)]) (KX8_paints x0 x1 (x1 + x4) x2) dX8_readsAlone_79 moX8_paints rfl tw1454 tw1456 twp75 tw9 tw1457 rfl (Nat.le_of_ble_eq_true rfl) (Nat.le_of_ble_eq_true rfl) (Nat.le_of_ble_eq_true rfl) (Nat.le_of_ble_eq_true rfl) (Nat.le_of_ble_eq_true rfl) rfl (fun _ => ?_)
    refine J_iload_n (pc := 82) hc dX8_readsAlone_82 rfl rfl ?_
    refine J_iload (pc := 83) hc dX8_readsAlone_83 rfl ?_
    refine J_iadd (pc := 85) hc dX8_readsAlone_85 ?_
    refine J_nmi (fun v4 => ?_)
    refine J_istore_n (pc := 86) (l' := [some ((8, .ref x0) : TV), some ((0, .int v4) : TV), some ((0, .int x2) : TV), none, some ((0, .int x4) : TV)]) hc dX8_readsAlone_86 rfl (by decide) rfl rfl ?_
    refine J_iconst (pc := 87) (v := 1) hc dX8_readsAlone_87 (by decide) ?_
    refine J_iload_n (pc := 88) hc dX8_readsAlone_88 rfl rfl ?_
    refine J_isub (pc := 89) hc dX8_readsAlone_89 ?_
    refine J_nmi (fun v5 => ?_)
    refine J_istore_n (pc := 90) (l' := [some ((8, .ref x0) : TV), some ((0, .int v4) : TV), some ((0, .int v5) : TV), none, some ((0, .int x4) : TV)]) hc dX8_readsAlone_90 rfl (by decide) rfl rfl ?_
    refine J_sub (l' := [some ((8, .ref x0) : TV), some ((0, .int v4) : TV), some ((0, .int v5) : TV), none, none]) ⟨rfl, ⟨rfl, ⟨rfl, trivial⟩⟩⟩ ?_
    exact jX8_readsAlone_L91 hc he hk6 x0 v4 v5
set_option maxRecDepth 100000 in
set_option maxHeartbeats 4000000 in
theorem jX8_readsAlone_L35 {κ : Cx} {fin : Unit → Mm → Prop} (hc : Jc κ RX8 cX8_readsAlone 5 4 0 0 82) (he : Ed κ cX8_readsAlone 0 0 wV .return_ fin) {k6 : Nat → Int32 → Int32 → Int32 → Mm → Option (Unit × Mm)} (hk6 : ∀ (x0 : Nat) (x1 : Int32) (x2 : Int32) (x3 : Int32), Jg κ (wM κ) 5 fin 0 0 6 [some ((8, .ref x0) : TV), some ((0, .int x1) : TV), some ((0, .int x2) : TV), some ((0, .int x3) : TV), none] [] (k6 x0 x1 x2 x3)) (x0 : Nat) (x1 : Int32) (x2 : Int32) (s0 : Int32) (s1 : Nat) : Jg κ (wM κ) 5 fin 0 0 35 [some ((8, .ref x0) : TV), some ((0, .int x1) : TV), some ((0, .int x2) : TV), none, none] [((0, .int s0) : TV), ((8, .ref s1) : TV)] (fX8_readsAlone_L35 k6 x0 x1 x2 s0 s1) := by
  unfold fX8_readsAlone_L35
  refine J_aload_n (pc := 35) hc dX8_readsAlone_35 rfl rfl ?_
  refine J_getI (pc := 36) hc clX8 (k := 9) (Nat.le_of_ble_eq_true rfl) rfl tw1171 rfl dX8_readsAlone_36 (fun v6 => ?_)
  refine J_callVi (pc := 39) hc clX8 (As := [((0, .int s0) : TV), ((0, .int v6) : TV)]) (KX8_looks s1 s0 v6) dX8_readsAlone_39 moX8_looks rfl tw1635 tw1637 twp97 tw9 tw1638 rfl (Nat.le_of_ble_eq_true rfl) (Nat.le_of_ble_eq_true rfl) (Nat.le_of_ble_eq_true rfl) (Nat.le_of_ble_eq_true rfl) (Nat.le_of_ble_eq_true rfl) rfl (fun v7 => ?_)
  refine J_istore (pc := 42) (l' := [some ((8, .ref x0) : TV), some ((0, .int x1) : TV), some ((0, .int x2) : TV), none, some ((0, .int v7) : TV)]) hc dX8_readsAlone_42 (by decide) rfl rfl ?_
  refine J_aload_n (pc := 44) hc dX8_readsAlone_44 rfl rfl ?_
  refine J_iload_n (pc := 45) hc dX8_readsAlone_45 rfl rfl ?_
  refine J_iload (pc := 46) hc dX8_readsAlone_46 rfl ?_
  refine J_iadd (pc := 48) hc dX8_readsAlone_48 ?_
  refine J_aload_n (pc := 49) hc dX8_readsAlone_49 rfl rfl ?_
  refine J_getI (pc := 50) hc clX8 (k := 9) (Nat.le_of_ble_eq_true rfl) rfl tw1171 rfl dX8_readsAlone_50 (fun v8 => ?_)
  refine J_icmp_gt (pc := 53) (tgt := 60) hc dX8_readsAlone_53 (by decide) ?_ ?_
  · refine J_iconst (pc := 60) (v := 0) hc dX8_readsAlone_60 (by decide) ?_
    refine J_sub (l' := [some ((8, .ref x0) : TV), some ((0, .int x1) : TV), some ((0, .int x2) : TV), none, some ((0, .int v7) : TV)]) ⟨rfl, ⟨rfl, ⟨rfl, ⟨rfl, trivial⟩⟩⟩⟩ ?_
    exact jX8_readsAlone_L61 hc he hk6 x0 x1 x2 v7 0 x0
  · refine J_iconst (pc := 56) (v := 1) hc dX8_readsAlone_56 (by decide) ?_
    refine J_goto (pc := 57) (tgt := 61) hc dX8_readsAlone_57 (by decide) ?_
    refine J_sub (l' := [some ((8, .ref x0) : TV), some ((0, .int x1) : TV), some ((0, .int x2) : TV), none, some ((0, .int v7) : TV)]) ⟨rfl, ⟨rfl, ⟨rfl, ⟨rfl, trivial⟩⟩⟩⟩ ?_
    exact jX8_readsAlone_L61 hc he hk6 x0 x1 x2 v7 1 x0
set_option maxRecDepth 100000 in
set_option maxHeartbeats 4000000 in
theorem jX8_readsAlone_L25 {κ : Cx} {fin : Unit → Mm → Prop} (hc : Jc κ RX8 cX8_readsAlone 5 4 0 0 82) (he : Ed κ cX8_readsAlone 0 0 wV .return_ fin) {k6 : Nat → Int32 → Int32 → Int32 → Mm → Option (Unit × Mm)} (hk6 : ∀ (x0 : Nat) (x1 : Int32) (x2 : Int32) (x3 : Int32), Jg κ (wM κ) 5 fin 0 0 6 [some ((8, .ref x0) : TV), some ((0, .int x1) : TV), some ((0, .int x2) : TV), some ((0, .int x3) : TV), none] [] (k6 x0 x1 x2 x3)) (x0 : Nat) (x1 : Int32) (x2 : Int32) (x3 : Int32) : Jg κ (wM κ) 5 fin 0 0 25 [some ((8, .ref x0) : TV), some ((0, .int x1) : TV), some ((0, .int x2) : TV), some ((0, .int x3) : TV), none] [] (fX8_readsAlone_L25 k6 x0 x1 x2 x3) := by
  unfold fX8_readsAlone_L25
  refine J_aload_n (pc := 25) hc dX8_readsAlone_25 rfl rfl ?_
  refine J_iload_n (pc := 26) hc dX8_readsAlone_26 rfl rfl ?_
  refine J_if_eq (pc := 27) (tgt := 34) hc dX8_readsAlone_27 (by decide) ?_ ?_
  · refine J_iconst (pc := 34) (v := 1) hc dX8_readsAlone_34 (by decide) ?_
    refine J_sub (l' := [some ((8, .ref x0) : TV), some ((0, .int x1) : TV), some ((0, .int x2) : TV), none, none]) ⟨rfl, ⟨rfl, ⟨rfl, trivial⟩⟩⟩ ?_
    exact jX8_readsAlone_L35 hc he hk6 x0 x1 x2 1 x0
  · refine J_iconst (pc := 30) (v := 0) hc dX8_readsAlone_30 (by decide) ?_
    refine J_goto (pc := 31) (tgt := 35) hc dX8_readsAlone_31 (by decide) ?_
    refine J_sub (l' := [some ((8, .ref x0) : TV), some ((0, .int x1) : TV), some ((0, .int x2) : TV), none, none]) ⟨rfl, ⟨rfl, ⟨rfl, trivial⟩⟩⟩ ?_
    exact jX8_readsAlone_L35 hc he hk6 x0 x1 x2 0 x0
set_option maxRecDepth 100000 in
set_option maxHeartbeats 4000000 in
theorem jX8_readsAlone_L6 {κ : Cx} {fin : Unit → Mm → Prop} (hc : Jc κ RX8 cX8_readsAlone 5 4 0 0 82) (he : Ed κ cX8_readsAlone 0 0 wV .return_ fin) : ∀ (n : Nat) (x0 : Nat) (x1 : Int32) (x2 : Int32) (x3 : Int32), Jg κ (wM κ) 5 fin 0 0 6 [some ((8, .ref x0) : TV), some ((0, .int x1) : TV), some ((0, .int x2) : TV), some ((0, .int x3) : TV), none] [] (fX8_readsAlone_L6 n x0 x1 x2 x3) := by
  intro n
  induction n with
  | zero => intro x0 x1 x2 x3; exact J_fail
  | succ n ih =>
    intro x0 x1 x2 x3
    unfold fX8_readsAlone_L6
    refine J_iload_n (pc := 6) hc dX8_readsAlone_6 rfl rfl ?_
    refine J_if_ne (pc := 7) (tgt := 25) hc dX8_readsAlone_7 (by decide) ?_ ?_
    · refine J_sub (l' := [some ((8, .ref x0) : TV), some ((0, .int x1) : TV), some ((0, .int x2) : TV), some ((0, .int x3) : TV), none]) ⟨rfl, ⟨rfl, ⟨rfl, ⟨rfl, trivial⟩⟩⟩⟩ ?_
      exact jX8_readsAlone_L25 hc he ih x0 x1 x2 x3
    · refine J_aload_n (pc := 10) hc dX8_readsAlone_10 rfl rfl ?_
      refine J_getI (pc := 11) hc clX8 (k := 37) (Nat.le_of_ble_eq_true rfl) rfl tw1199 rfl dX8_readsAlone_11 (fun v9 => ?_)
      refine J_if_ne (pc := 14) (tgt := 100) hc dX8_readsAlone_14 (by decide) ?_ ?_
      · refine J_sub (l' := [some ((8, .ref x0) : TV), some ((0, .int x1) : TV), none, none, none]) ⟨rfl, ⟨rfl, trivial⟩⟩ ?_
        exact jX8_readsAlone_L100 hc he x0 x1
      · refine J_aload_n (pc := 17) hc dX8_readsAlone_17 rfl rfl ?_
        refine J_getI (pc := 18) hc clX8 (k := 35) (Nat.le_of_ble_eq_true rfl) rfl tw1197 rfl dX8_readsAlone_18 (fun v10 => ?_)
        refine J_iconst (pc := 21) (v := 2) hc dX8_readsAlone_21 (by decide) ?_
        refine J_icmp_ne (pc := 22) (tgt := 100) hc dX8_readsAlone_22 (by decide) ?_ ?_
        · refine J_sub (l' := [some ((8, .ref x0) : TV), some ((0, .int x1) : TV), none, none, none]) ⟨rfl, ⟨rfl, trivial⟩⟩ ?_
          exact jX8_readsAlone_L100 hc he x0 x1
        · refine J_sub (l' := [some ((8, .ref x0) : TV), some ((0, .int x1) : TV), some ((0, .int x2) : TV), some ((0, .int x3) : TV), none]) ⟨rfl, ⟨rfl, ⟨rfl, ⟨rfl, trivial⟩⟩⟩⟩ ?_
          exact jX8_readsAlone_L25 hc he ih x0 x1 x2 x3
set_option maxRecDepth 100000 in
set_option maxHeartbeats 4000000 in
theorem jX8_readsAlone {κ : Cx} {fin : Unit → Mm → Prop} (hc : Jc κ RX8 cX8_readsAlone 5 4 0 0 82) (he : Ed κ cX8_readsAlone 0 0 wV .return_ fin) (x0 : Nat) : Jg κ (wM κ) 5 fin 0 0 0 [some ((8, .ref x0) : TV), none, none, none, none] [] (fX8_readsAlone x0) := by
  unfold fX8_readsAlone
  refine J_iconst (pc := 0) (v := 0) hc dX8_readsAlone_0 (by decide) ?_
  refine J_istore_n (pc := 1) (l' := [some ((8, .ref x0) : TV), some ((0, .int 0) : TV), none, none, none]) hc dX8_readsAlone_1 rfl (by decide) rfl rfl ?_
  refine J_iconst (pc := 2) (v := 0) hc dX8_readsAlone_2 (by decide) ?_
  refine J_istore_n (pc := 3) (l' := [some ((8, .ref x0) : TV), some ((0, .int 0) : TV), some ((0, .int 0) : TV), none, none]) hc dX8_readsAlone_3 rfl (by decide) rfl rfl ?_
  refine J_iconst (pc := 4) (v := 1) hc dX8_readsAlone_4 (by decide) ?_
  refine J_istore_n (pc := 5) (l' := [some ((8, .ref x0) : TV), some ((0, .int 0) : TV), some ((0, .int 0) : TV), some ((0, .int 1) : TV), none]) hc dX8_readsAlone_5 rfl (by decide) rfl rfl ?_
  refine J_sub (l' := [some ((8, .ref x0) : TV), some ((0, .int 0) : TV), some ((0, .int 0) : TV), some ((0, .int 1) : TV), none]) ⟨rfl, ⟨rfl, ⟨rfl, ⟨rfl, trivial⟩⟩⟩⟩ ?_
  exact jX8_readsAlone_L6 hc he fu x0 0 0 1
theorem moX8_readsAlone : MOk yX8_readsAlone 0 := ⟨by decide +kernel, by decide +kernel, by decide +kernel⟩
set_option maxRecDepth 100000 in
set_option maxHeartbeats 4000000 in
theorem KX8_readsAlone (x0 : Nat) : Ct wV yX8_readsAlone cX8_readsAlone 5 none 4 0 0 82 [((8, .ref x0) : TV)] (fX8_readsAlone x0) :=
  Ct_V (j := 4) (by decide +kernel) rfl rfl (Nat.le_of_ble_eq_true rfl) (fun κ fin hc he hin => jX8_readsAlone hc he x0)
set_option maxRecDepth 100000 in
set_option maxHeartbeats 4000000 in
theorem jX8_readsOne_L146 {κ : Cx} {fin : Unit → Mm → Prop} (hc : Jc κ RX8 cX8_readsOne 6 5 0 0 105) (he : Ed κ cX8_readsOne 0 0 wV .return_ fin) (x0 : Nat) (x2 : Int32) (x5 : Int32) (s0 : Int32) (s1 : Int32) (s2 : Nat) : Jg κ (wM κ) 6 fin 0 0 146 [some ((8, .ref x0) : TV), none, some ((0, .int x2) : TV), none, none, some ((0, .int x5) : TV)] [((0, .int s0) : TV), ((0, .int s1) : TV), ((8, .ref s2) : TV)] (fX8_readsOne_L146 x0 x2 x5 s0 s1 s2) := by
  unfold fX8_readsOne_L146
  refine J_iload (pc := 146) hc dX8_readsOne_146 rfl ?_
  refine J_callVi (pc := 148) hc clX8 (As := [((0, .int s1) : TV), ((0, .int s0) : TV), ((0, .int x5) : TV)]) (KX8_readsMode s2 s1 s0 x5) dX8_readsOne_148 moX8_readsMode rfl tw1450 tw1452 twp74 tw9 tw1453 rfl (Nat.le_of_ble_eq_true rfl) (Nat.le_of_ble_eq_true rfl) (Nat.le_of_ble_eq_true rfl) (Nat.le_of_ble_eq_true rfl) (Nat.le_of_ble_eq_true rfl) rfl (fun v1 => ?_)
  refine J_if_ne (pc := 151) (tgt := 164) hc dX8_readsOne_151 (by decide) ?_ ?_
  · exact J_vret (pc := 164) he dX8_readsOne_164
  · refine J_aload_n (pc := 154) hc dX8_readsOne_154 rfl rfl ?_
    refine J_iconst (pc := 155) (v := 4) hc dX8_readsOne_155 (by decide) ?_
    refine J_putI (pc := 156) hc clX8 (k := 37) (Nat.le_of_ble_eq_true rfl) rfl rfl tw1199 rfl rfl dX8_readsOne_156 ?_
    refine J_aload_n (pc := 159) hc dX8_readsOne_159 rfl rfl ?_
    refine J_iload_n (pc := 160) hc dX8_readsOne_160 rfl rfl ?_
    refine J_putI (pc := 161) hc clX8 (k := 38) (Nat.le_of_ble_eq_true rfl) rfl rfl tw1200 rfl rfl dX8_readsOne_161 ?_
    exact J_vret (pc := 164) he dX8_readsOne_164
set_option maxRecDepth 100000 in
set_option maxHeartbeats 4000000 in
theorem jX8_readsOne_L123 {κ : Cx} {fin : Unit → Mm → Prop} (hc : Jc κ RX8 cX8_readsOne 6 5 0 0 105) (he : Ed κ cX8_readsOne 0 0 wV .return_ fin) (x0 : Nat) (x1 : Int32) (x2 : Int32) (x3 : Int32) (x4 : Int32) (s0 : Int32) : Jg κ (wM κ) 6 fin 0 0 123 [some ((8, .ref x0) : TV), some ((0, .int x1) : TV), some ((0, .int x2) : TV), some ((0, .int x3) : TV), some ((0, .int x4) : TV), none] [((0, .int s0) : TV)] (fX8_readsOne_L123 x0 x1 x2 x3 x4 s0) := by
  unfold fX8_readsOne_L123
  refine J_istore (pc := 123) (l' := [some ((8, .ref x0) : TV), some ((0, .int x1) : TV), some ((0, .int x2) : TV), some ((0, .int x3) : TV), some ((0, .int x4) : TV), some ((0, .int s0) : TV)]) hc dX8_readsOne_123 (by decide) rfl rfl ?_
  refine J_aload_n (pc := 125) hc dX8_readsOne_125 rfl rfl ?_
  refine J_getI (pc := 126) hc clX8 (k := 37) (Nat.le_of_ble_eq_true rfl) rfl tw1199 rfl dX8_readsOne_126 (fun v2 => ?_)
  refine J_if_ne (pc := 129) (tgt := 164) hc dX8_readsOne_129 (by decide) ?_ ?_
  · exact J_vret (pc := 164) he dX8_readsOne_164
  · refine J_aload_n (pc := 132) hc dX8_readsOne_132 rfl rfl ?_
    refine J_iload_n (pc := 133) hc dX8_readsOne_133 rfl rfl ?_
    refine J_iload_n (pc := 134) hc dX8_readsOne_134 rfl rfl ?_
    refine J_if_eq (pc := 135) (tgt := 144) hc dX8_readsOne_135 (by decide) ?_ ?_
    · refine J_iload (pc := 144) hc dX8_readsOne_144 rfl ?_
      refine J_sub (l' := [some ((8, .ref x0) : TV), none, some ((0, .int x2) : TV), none, none, some ((0, .int s0) : TV)]) ⟨rfl, ⟨rfl, ⟨rfl, trivial⟩⟩⟩ ?_
      exact jX8_readsOne_L146 hc he x0 x2 s0 x4 x1 x0
    · refine J_iload (pc := 138) hc dX8_readsOne_138 rfl ?_
      refine J_ineg (pc := 140) hc dX8_readsOne_140 ?_
      refine J_goto (pc := 141) (tgt := 146) hc dX8_readsOne_141 (by decide) ?_
      refine J_sub (l' := [some ((8, .ref x0) : TV), none, some ((0, .int x2) : TV), none, none, some ((0, .int s0) : TV)]) ⟨rfl, ⟨rfl, ⟨rfl, trivial⟩⟩⟩ ?_
      exact jX8_readsOne_L146 hc he x0 x2 s0 (-x4) x1 x0
set_option maxRecDepth 100000 in
set_option maxHeartbeats 4000000 in
theorem jX8_readsOne_L103 {κ : Cx} {fin : Unit → Mm → Prop} (hc : Jc κ RX8 cX8_readsOne 6 5 0 0 105) (he : Ed κ cX8_readsOne 0 0 wV .return_ fin) (x0 : Nat) (x1 : Int32) (x2 : Int32) (x3 : Int32) (s0 : Int32) : Jg κ (wM κ) 6 fin 0 0 103 [some ((8, .ref x0) : TV), some ((0, .int x1) : TV), some ((0, .int x2) : TV), some ((0, .int x3) : TV), none, none] [((0, .int s0) : TV)] (fX8_readsOne_L103 x0 x1 x2 x3 s0) := by
  unfold fX8_readsOne_L103
  refine J_istore (pc := 103) (l' := [some ((8, .ref x0) : TV), some ((0, .int x1) : TV), some ((0, .int x2) : TV), some ((0, .int x3) : TV), some ((0, .int s0) : TV), none]) hc dX8_readsOne_103 (by decide) rfl rfl ?_
  refine J_iload_n (pc := 105) hc dX8_readsOne_105 rfl rfl ?_
  refine J_iconst (pc := 106) (v := 2) hc dX8_readsOne_106 (by decide) ?_
  refine J_icmp_ne (pc := 107) (tgt := 122) hc dX8_readsOne_107 (by decide) ?_ ?_
  · refine J_iconst (pc := 122) (v := 0) hc dX8_readsOne_122 (by decide) ?_
    refine J_sub (l' := [some ((8, .ref x0) : TV), some ((0, .int x1) : TV), some ((0, .int x2) : TV), some ((0, .int x3) : TV), some ((0, .int s0) : TV), none]) ⟨rfl, ⟨rfl, ⟨rfl, ⟨rfl, ⟨rfl, trivial⟩⟩⟩⟩⟩ ?_
    exact jX8_readsOne_L123 hc he x0 x1 x2 x3 s0 0
  · refine J_aload_n (pc := 110) hc dX8_readsOne_110 rfl rfl ?_
    refine J_iconst (pc := 111) (v := 0) hc dX8_readsOne_111 (by decide) ?_
    refine J_aload_n (pc := 112) hc dX8_readsOne_112 rfl rfl ?_
    refine J_getI (pc := 113) hc clX8 (k := 9) (Nat.le_of_ble_eq_true rfl) rfl tw1171 rfl dX8_readsOne_113 (fun v3 => ?_)
    refine J_callVi (pc := 116) hc clX8 (As := [((0, .int 0) : TV), ((0, .int v3) : TV)]) (KX8_reads x0 0 v3) dX8_readsOne_116 moX8_reads rfl tw1631 tw1633 twp96 tw9 tw1634 rfl (Nat.le_of_ble_eq_true rfl) (Nat.le_of_ble_eq_true rfl) (Nat.le_of_ble_eq_true rfl) (Nat.le_of_ble_eq_true rfl) (Nat.le_of_ble_eq_true rfl) rfl (fun v4 => ?_)
    refine J_goto (pc := 119) (tgt := 123) hc dX8_readsOne_119 (by decide) ?_
    refine J_sub (l' := [some ((8, .ref x0) : TV), some ((0, .int x1) : TV), some ((0, .int x2) : TV), some ((0, .int x3) : TV), some ((0, .int s0) : TV), none]) ⟨rfl, ⟨rfl, ⟨rfl, ⟨rfl, ⟨rfl, trivial⟩⟩⟩⟩⟩ ?_
    exact jX8_readsOne_L123 hc he x0 x1 x2 x3 s0 v4
set_option maxRecDepth 100000 in
set_option maxHeartbeats 4000000 in
theorem jX8_readsOne_L72 {κ : Cx} {fin : Unit → Mm → Prop} (hc : Jc κ RX8 cX8_readsOne 6 5 0 0 105) (he : Ed κ cX8_readsOne 0 0 wV .return_ fin) (x0 : Nat) (x1 : Int32) (x2 : Int32) (x3 : Int32) : Jg κ (wM κ) 6 fin 0 0 72 [some ((8, .ref x0) : TV), some ((0, .int x1) : TV), some ((0, .int x2) : TV), some ((0, .int x3) : TV), none, none] [] (fX8_readsOne_L72 x0 x1 x2 x3) := by
  unfold fX8_readsOne_L72
  refine J_iload_n (pc := 72) hc dX8_readsOne_72 rfl rfl ?_
  refine J_if_ne (pc := 73) (tgt := 80) hc dX8_readsOne_73 (by decide) ?_ ?_
  · refine J_iload_n (pc := 80) hc dX8_readsOne_80 rfl rfl ?_
    refine J_iconst (pc := 81) (v := 1) hc dX8_readsOne_81 (by decide) ?_
    refine J_icmp_ne (pc := 82) (tgt := 94) hc dX8_readsOne_82 (by decide) ?_ ?_
    · refine J_aload_n (pc := 94) hc dX8_readsOne_94 rfl rfl ?_
      refine J_iconst (pc := 95) (v := 0) hc dX8_readsOne_95 (by decide) ?_
      refine J_aload_n (pc := 96) hc dX8_readsOne_96 rfl rfl ?_
      refine J_getI (pc := 97) hc clX8 (k := 9) (Nat.le_of_ble_eq_true rfl) rfl tw1171 rfl dX8_readsOne_97 (fun v5 => ?_)
      refine J_callVi (pc := 100) hc clX8 (As := [((0, .int 0) : TV), ((0, .int v5) : TV)]) (KX8_reads x0 0 v5) dX8_readsOne_100 moX8_reads rfl tw1631 tw1633 twp96 tw9 tw1634 rfl (Nat.le_of_ble_eq_true rfl) (Nat.le_of_ble_eq_true rfl) (Nat.le_of_ble_eq_true rfl) (Nat.le_of_ble_eq_true rfl) (Nat.le_of_ble_eq_true rfl) rfl (fun v6 => ?_)
      refine J_sub (l' := [some ((8, .ref x0) : TV), some ((0, .int x1) : TV), some ((0, .int x2) : TV), some ((0, .int x3) : TV), none, none]) ⟨rfl, ⟨rfl, ⟨rfl, ⟨rfl, trivial⟩⟩⟩⟩ ?_
      exact jX8_readsOne_L103 hc he x0 x1 x2 x3 v6
    · refine J_aload_n (pc := 85) hc dX8_readsOne_85 rfl rfl ?_
      refine J_iconst (pc := 86) (v := 0) hc dX8_readsOne_86 (by decide) ?_
      refine J_iconst (pc := 87) (v := 3) hc dX8_readsOne_87 (by decide) ?_
      refine J_callVi (pc := 88) hc clX8 (As := [((0, .int 0) : TV), ((0, .int 3) : TV)]) (KX8_reads x0 0 3) dX8_readsOne_88 moX8_reads rfl tw1631 tw1633 twp96 tw9 tw1634 rfl (Nat.le_of_ble_eq_true rfl) (Nat.le_of_ble_eq_true rfl) (Nat.le_of_ble_eq_true rfl) (Nat.le_of_ble_eq_true rfl) (Nat.le_of_ble_eq_true rfl) rfl (fun v7 => ?_)
      refine J_goto (pc := 91) (tgt := 103) hc dX8_readsOne_91 (by decide) ?_
      refine J_sub (l' := [some ((8, .ref x0) : TV), some ((0, .int x1) : TV), some ((0, .int x2) : TV), some ((0, .int x3) : TV), none, none]) ⟨rfl, ⟨rfl, ⟨rfl, ⟨rfl, trivial⟩⟩⟩⟩ ?_
      exact jX8_readsOne_L103 hc he x0 x1 x2 x3 v7
  · refine J_iconst (pc := 76) (v := 0) hc dX8_readsOne_76 (by decide) ?_
    refine J_goto (pc := 77) (tgt := 103) hc dX8_readsOne_77 (by decide) ?_
    refine J_sub (l' := [some ((8, .ref x0) : TV), some ((0, .int x1) : TV), some ((0, .int x2) : TV), some ((0, .int x3) : TV), none, none]) ⟨rfl, ⟨rfl, ⟨rfl, ⟨rfl, trivial⟩⟩⟩⟩ ?_
    exact jX8_readsOne_L103 hc he x0 x1 x2 x3 0
set_option maxRecDepth 100000 in
set_option maxHeartbeats 4000000 in
theorem jX8_readsOne_L63 {κ : Cx} {fin : Unit → Mm → Prop} (hc : Jc κ RX8 cX8_readsOne 6 5 0 0 105) (he : Ed κ cX8_readsOne 0 0 wV .return_ fin) (x0 : Nat) (x1 : Int32) (x2 : Int32) (s0 : Int32) : Jg κ (wM κ) 6 fin 0 0 63 [some ((8, .ref x0) : TV), some ((0, .int x1) : TV), some ((0, .int x2) : TV), none, none, none] [((0, .int s0) : TV)] (fX8_readsOne_L63 x0 x1 x2 s0) := by
  unfold fX8_readsOne_L63
  refine J_istore_n (pc := 63) (l' := [some ((8, .ref x0) : TV), some ((0, .int x1) : TV), some ((0, .int x2) : TV), some ((0, .int s0) : TV), none, none]) hc dX8_readsOne_63 rfl (by decide) rfl rfl ?_
  refine J_iload_n (pc := 64) hc dX8_readsOne_64 rfl rfl ?_
  refine J_if_eq (pc := 65) (tgt := 72) hc dX8_readsOne_65 (by decide) ?_ ?_
  · refine J_sub (l' := [some ((8, .ref x0) : TV), some ((0, .int x1) : TV), some ((0, .int x2) : TV), some ((0, .int s0) : TV), none, none]) ⟨rfl, ⟨rfl, ⟨rfl, ⟨rfl, trivial⟩⟩⟩⟩ ?_
    exact jX8_readsOne_L72 hc he x0 x1 x2 s0
  · refine J_aload_n (pc := 68) hc dX8_readsOne_68 rfl rfl ?_
    refine J_callVv (pc := 69) hc clX8 (As := []) (KX8_goesOn x0) dX8_readsOne_69 moX8_goesOn rfl tw1627 tw1629 twp95 tw9 tw1630 rfl (Nat.le_of_ble_eq_true rfl) (Nat.le_of_ble_eq_true rfl) (Nat.le_of_ble_eq_true rfl) (Nat.le_of_ble_eq_true rfl) (Nat.le_of_ble_eq_true rfl) rfl (fun _ => ?_)
    refine J_sub (l' := [some ((8, .ref x0) : TV), some ((0, .int x1) : TV), some ((0, .int x2) : TV), some ((0, .int s0) : TV), none, none]) ⟨rfl, ⟨rfl, ⟨rfl, ⟨rfl, trivial⟩⟩⟩⟩ ?_
    exact jX8_readsOne_L72 hc he x0 x1 x2 s0
set_option maxRecDepth 100000 in
set_option maxHeartbeats 4000000 in
theorem jX8_readsOne_L62 {κ : Cx} {fin : Unit → Mm → Prop} (hc : Jc κ RX8 cX8_readsOne 6 5 0 0 105) (he : Ed κ cX8_readsOne 0 0 wV .return_ fin) (x0 : Nat) (x1 : Int32) (x2 : Int32) : Jg κ (wM κ) 6 fin 0 0 62 [some ((8, .ref x0) : TV), some ((0, .int x1) : TV), some ((0, .int x2) : TV), none, none, none] [] (fX8_readsOne_L62 x0 x1 x2) := by
  unfold fX8_readsOne_L62
  refine J_iconst (pc := 62) (v := 0) hc dX8_readsOne_62 (by decide) ?_
  refine J_sub (l' := [some ((8, .ref x0) : TV), some ((0, .int x1) : TV), some ((0, .int x2) : TV), none, none, none]) ⟨rfl, ⟨rfl, ⟨rfl, trivial⟩⟩⟩ ?_
  exact jX8_readsOne_L63 hc he x0 x1 x2 0
set_option maxRecDepth 100000 in
set_option maxHeartbeats 4000000 in
theorem jX8_readsOne_L25 {κ : Cx} {fin : Unit → Mm → Prop} (hc : Jc κ RX8 cX8_readsOne 6 5 0 0 105) (he : Ed κ cX8_readsOne 0 0 wV .return_ fin) (x0 : Nat) (x1 : Int32) (s0 : Int32) (s1 : Nat) : Jg κ (wM κ) 6 fin 0 0 25 [some ((8, .ref x0) : TV), some ((0, .int x1) : TV), none, none, none, none] [((0, .int s0) : TV), ((8, .ref s1) : TV)] (fX8_readsOne_L25 x0 x1 s0 s1) := by
  unfold fX8_readsOne_L25
  refine J_iconst (pc := 25) (v := 4) hc dX8_readsOne_25 (by decide) ?_
  refine J_callVv (pc := 26) hc clX8 (As := [((0, .int s0) : TV), ((0, .int 4) : TV)]) (KX8_must s1 s0 4) dX8_readsOne_26 moX8_must rfl tw1639 tw1641 twp98 tw9 tw1642 rfl (Nat.le_of_ble_eq_true rfl) (Nat.le_of_ble_eq_true rfl) (Nat.le_of_ble_eq_true rfl) (Nat.le_of_ble_eq_true rfl) (Nat.le_of_ble_eq_true rfl) rfl (fun _ => ?_)
  refine J_aload_n (pc := 29) hc dX8_readsOne_29 rfl rfl ?_
  refine J_getI (pc := 30) hc clX8 (k := 34) (Nat.le_of_ble_eq_true rfl) rfl tw1196 rfl dX8_readsOne_30 (fun v8 => ?_)
  refine J_istore_n (pc := 33) (l' := [some ((8, .ref x0) : TV), some ((0, .int x1) : TV), some ((0, .int v8) : TV), none, none, none]) hc dX8_readsOne_33 rfl (by decide) rfl rfl ?_
  refine J_aload_n (pc := 34) hc dX8_readsOne_34 rfl rfl ?_
  refine J_callVv (pc := 35) hc clX8 (As := []) (KX8_goesOn x0) dX8_readsOne_35 moX8_goesOn rfl tw1627 tw1629 twp95 tw9 tw1630 rfl (Nat.le_of_ble_eq_true rfl) (Nat.le_of_ble_eq_true rfl) (Nat.le_of_ble_eq_true rfl) (Nat.le_of_ble_eq_true rfl) (Nat.le_of_ble_eq_true rfl) rfl (fun _ => ?_)
  refine J_aload_n (pc := 38) hc dX8_readsOne_38 rfl rfl ?_
  refine J_getI (pc := 39) hc clX8 (k := 37) (Nat.le_of_ble_eq_true rfl) rfl tw1199 rfl dX8_readsOne_39 (fun v9 => ?_)
  refine J_if_ne (pc := 42) (tgt := 62) hc dX8_readsOne_42 (by decide) ?_ ?_
  · refine J_sub (l' := [some ((8, .ref x0) : TV), some ((0, .int x1) : TV), some ((0, .int v8) : TV), none, none, none]) ⟨rfl, ⟨rfl, ⟨rfl, trivial⟩⟩⟩ ?_
    exact jX8_readsOne_L62 hc he x0 x1 v8
  · refine J_iload_n (pc := 45) hc dX8_readsOne_45 rfl rfl ?_
    refine J_iconst (pc := 46) (v := 1) hc dX8_readsOne_46 (by decide) ?_
    refine J_icmp_ne (pc := 47) (tgt := 62) hc dX8_readsOne_47 (by decide) ?_ ?_
    · refine J_sub (l' := [some ((8, .ref x0) : TV), some ((0, .int x1) : TV), some ((0, .int v8) : TV), none, none, none]) ⟨rfl, ⟨rfl, ⟨rfl, trivial⟩⟩⟩ ?_
      exact jX8_readsOne_L62 hc he x0 x1 v8
    · refine J_aload_n (pc := 50) hc dX8_readsOne_50 rfl rfl ?_
      refine J_getI (pc := 51) hc clX8 (k := 35) (Nat.le_of_ble_eq_true rfl) rfl tw1197 rfl dX8_readsOne_51 (fun v10 => ?_)
      refine J_iconst (pc := 54) (v := 5) hc dX8_readsOne_54 (by decide) ?_
      refine J_icmp_ne (pc := 55) (tgt := 62) hc dX8_readsOne_55 (by decide) ?_ ?_
      · refine J_sub (l' := [some ((8, .ref x0) : TV), some ((0, .int x1) : TV), some ((0, .int v8) : TV), none, none, none]) ⟨rfl, ⟨rfl, ⟨rfl, trivial⟩⟩⟩ ?_
        exact jX8_readsOne_L62 hc he x0 x1 v8
      · refine J_iconst (pc := 58) (v := 1) hc dX8_readsOne_58 (by decide) ?_
        refine J_goto (pc := 59) (tgt := 63) hc dX8_readsOne_59 (by decide) ?_
        refine J_sub (l' := [some ((8, .ref x0) : TV), some ((0, .int x1) : TV), some ((0, .int v8) : TV), none, none, none]) ⟨rfl, ⟨rfl, ⟨rfl, trivial⟩⟩⟩ ?_
        exact jX8_readsOne_L63 hc he x0 x1 v8 1
set_option maxRecDepth 100000 in
set_option maxHeartbeats 4000000 in
theorem jX8_readsOne {κ : Cx} {fin : Unit → Mm → Prop} (hc : Jc κ RX8 cX8_readsOne 6 5 0 0 105) (he : Ed κ cX8_readsOne 0 0 wV .return_ fin) (x0 : Nat) : Jg κ (wM κ) 6 fin 0 0 0 [some ((8, .ref x0) : TV), none, none, none, none, none] [] (fX8_readsOne x0) := by
  unfold fX8_readsOne
  refine J_aload_n (pc := 0) hc dX8_readsOne_0 rfl rfl ?_
  refine J_callVi (pc := 1) hc clX8 (As := []) (KX8_wordHere x0) dX8_readsOne_1 moX8_wordHere rfl tw1623 tw1625 twp94 tw9 tw1626 rfl (Nat.le_of_ble_eq_true rfl) (Nat.le_of_ble_eq_true rfl) (Nat.le_of_ble_eq_true rfl) (Nat.le_of_ble_eq_true rfl) (Nat.le_of_ble_eq_true rfl) rfl (fun v11 => ?_)
  refine J_bipush (pc := 4) (v := 6) hc dX8_readsOne_4 (by decide) ?_
  refine J_isub (pc := 6) hc dX8_readsOne_6 ?_
  refine J_nmi (fun v12 => ?_)
  refine J_istore_n (pc := 7) (l' := [some ((8, .ref x0) : TV), some ((0, .int v12) : TV), none, none, none, none]) hc dX8_readsOne_7 rfl (by decide) rfl rfl ?_
  refine J_aload_n (pc := 8) hc dX8_readsOne_8 rfl rfl ?_
  refine J_aload_n (pc := 9) hc dX8_readsOne_9 rfl rfl ?_
  refine J_getI (pc := 10) hc clX8 (k := 16) (Nat.le_of_ble_eq_true rfl) rfl tw1178 rfl dX8_readsOne_10 (fun v13 => ?_)
  refine J_aload_n (pc := 13) hc dX8_readsOne_13 rfl rfl ?_
  refine J_getI (pc := 14) hc clX8 (k := 9) (Nat.le_of_ble_eq_true rfl) rfl tw1171 rfl dX8_readsOne_14 (fun v14 => ?_)
  refine J_icmp_ge (pc := 17) (tgt := 24) hc dX8_readsOne_17 (by decide) ?_ ?_
  · refine J_iconst (pc := 24) (v := 0) hc dX8_readsOne_24 (by decide) ?_
    refine J_sub (l' := [some ((8, .ref x0) : TV), some ((0, .int v12) : TV), none, none, none, none]) ⟨rfl, ⟨rfl, trivial⟩⟩ ?_
    exact jX8_readsOne_L25 hc he x0 v12 0 x0
  · refine J_iconst (pc := 20) (v := 1) hc dX8_readsOne_20 (by decide) ?_
    refine J_goto (pc := 21) (tgt := 25) hc dX8_readsOne_21 (by decide) ?_
    refine J_sub (l' := [some ((8, .ref x0) : TV), some ((0, .int v12) : TV), none, none, none, none]) ⟨rfl, ⟨rfl, trivial⟩⟩ ?_
    exact jX8_readsOne_L25 hc he x0 v12 1 x0
theorem moX8_readsOne : MOk yX8_readsOne 0 := ⟨by decide +kernel, by decide +kernel, by decide +kernel⟩
set_option maxRecDepth 100000 in
set_option maxHeartbeats 4000000 in
theorem KX8_readsOne (x0 : Nat) : Ct wV yX8_readsOne cX8_readsOne 6 none 5 0 0 105 [((8, .ref x0) : TV)] (fX8_readsOne x0) :=
  Ct_V (j := 5) (by decide +kernel) rfl rfl (Nat.le_of_ble_eq_true rfl) (fun κ fin hc he hin => jX8_readsOne hc he x0)
set_option maxRecDepth 100000 in
set_option maxHeartbeats 4000000 in
theorem jX8_readsAbove_L63 {κ : Cx} {fin : Unit → Mm → Prop} (hc : Jc κ RX8 cX8_readsAbove 1 6 0 0 130) (he : Ed κ cX8_readsAbove 0 0 wV .return_ fin) (s0 : Int32) (s1 : Nat) : Jg κ (wM κ) 1 fin 0 0 63 [none] [((0, .int s0) : TV), ((8, .ref s1) : TV)] (fX8_readsAbove_L63 s0 s1) := by
  unfold fX8_readsAbove_L63
  refine J_iconst (pc := 63) (v := 3) hc dX8_readsAbove_63 (by decide) ?_
  refine J_callVv (pc := 64) hc clX8 (As := [((0, .int s0) : TV), ((0, .int 3) : TV)]) (KX8_must s1 s0 3) dX8_readsAbove_64 moX8_must rfl tw1639 tw1641 twp98 tw9 tw1642 rfl (Nat.le_of_ble_eq_true rfl) (Nat.le_of_ble_eq_true rfl) (Nat.le_of_ble_eq_true rfl) (Nat.le_of_ble_eq_true rfl) (Nat.le_of_ble_eq_true rfl) rfl (fun _ => ?_)
  exact J_vret (pc := 67) he dX8_readsAbove_67
set_option maxRecDepth 100000 in
set_option maxHeartbeats 4000000 in
theorem jX8_readsAbove_L42 {κ : Cx} {fin : Unit → Mm → Prop} (hc : Jc κ RX8 cX8_readsAbove 1 6 0 0 130) (he : Ed κ cX8_readsAbove 0 0 wV .return_ fin) (x0 : Nat) (s0 : Int32) (s1 : Nat) : Jg κ (wM κ) 1 fin 0 0 42 [some ((8, .ref x0) : TV)] [((0, .int s0) : TV), ((8, .ref s1) : TV)] (fX8_readsAbove_L42 x0 s0 s1) := by
  unfold fX8_readsAbove_L42
  refine J_iconst (pc := 42) (v := 1) hc dX8_readsAbove_42 (by decide) ?_
  refine J_callVv (pc := 43) hc clX8 (As := [((0, .int s0) : TV), ((0, .int 1) : TV)]) (KX8_must s1 s0 1) dX8_readsAbove_43 moX8_must rfl tw1639 tw1641 twp98 tw9 tw1642 rfl (Nat.le_of_ble_eq_true rfl) (Nat.le_of_ble_eq_true rfl) (Nat.le_of_ble_eq_true rfl) (Nat.le_of_ble_eq_true rfl) (Nat.le_of_ble_eq_true rfl) rfl (fun _ => ?_)
  refine J_aload_n (pc := 46) hc dX8_readsAbove_46 rfl rfl ?_
  refine J_aload_n (pc := 47) hc dX8_readsAbove_47 rfl rfl ?_
  refine J_getI (pc := 48) hc clX8 (k := 16) (Nat.le_of_ble_eq_true rfl) rfl tw1178 rfl dX8_readsAbove_48 (fun v1 => ?_)
  refine J_aload_n (pc := 51) hc dX8_readsAbove_51 rfl rfl ?_
  refine J_getI (pc := 52) hc clX8 (k := 9) (Nat.le_of_ble_eq_true rfl) rfl tw1171 rfl dX8_readsAbove_52 (fun v2 => ?_)
  refine J_icmp_ne (pc := 55) (tgt := 62) hc dX8_readsAbove_55 (by decide) ?_ ?_
  · refine J_iconst (pc := 62) (v := 0) hc dX8_readsAbove_62 (by decide) ?_
    refine J_sub (l' := [none]) (show subL _ _ from trivial) ?_
    exact jX8_readsAbove_L63 hc he 0 x0
  · refine J_iconst (pc := 58) (v := 1) hc dX8_readsAbove_58 (by decide) ?_
    refine J_goto (pc := 59) (tgt := 63) hc dX8_readsAbove_59 (by decide) ?_
    refine J_sub (l' := [none]) (show subL _ _ from trivial) ?_
    exact jX8_readsAbove_L63 hc he 1 x0
set_option maxRecDepth 100000 in
set_option maxHeartbeats 4000000 in
theorem jX8_readsAbove_L28 {κ : Cx} {fin : Unit → Mm → Prop} (hc : Jc κ RX8 cX8_readsAbove 1 6 0 0 130) (he : Ed κ cX8_readsAbove 0 0 wV .return_ fin) (x0 : Nat) : Jg κ (wM κ) 1 fin 0 0 28 [some ((8, .ref x0) : TV)] [] (fX8_readsAbove_L28 x0) := by
  unfold fX8_readsAbove_L28
  refine J_aload_n (pc := 28) hc dX8_readsAbove_28 rfl rfl ?_
  refine J_aload_n (pc := 29) hc dX8_readsAbove_29 rfl rfl ?_
  refine J_getI (pc := 30) hc clX8 (k := 35) (Nat.le_of_ble_eq_true rfl) rfl tw1197 rfl dX8_readsAbove_30 (fun v3 => ?_)
  refine J_iconst (pc := 33) (v := 4) hc dX8_readsAbove_33 (by decide) ?_
  refine J_icmp_ne (pc := 34) (tgt := 41) hc dX8_readsAbove_34 (by decide) ?_ ?_
  · refine J_iconst (pc := 41) (v := 0) hc dX8_readsAbove_41 (by decide) ?_
    refine J_sub (l' := [some ((8, .ref x0) : TV)]) ⟨rfl, trivial⟩ ?_
    exact jX8_readsAbove_L42 hc he x0 0 x0
  · refine J_iconst (pc := 37) (v := 1) hc dX8_readsAbove_37 (by decide) ?_
    refine J_goto (pc := 38) (tgt := 42) hc dX8_readsAbove_38 (by decide) ?_
    refine J_sub (l' := [some ((8, .ref x0) : TV)]) ⟨rfl, trivial⟩ ?_
    exact jX8_readsAbove_L42 hc he x0 1 x0
set_option maxRecDepth 100000 in
set_option maxHeartbeats 4000000 in
theorem jX8_readsAbove_L0 {κ : Cx} {fin : Unit → Mm → Prop} (hc : Jc κ RX8 cX8_readsAbove 1 6 0 0 130) (he : Ed κ cX8_readsAbove 0 0 wV .return_ fin) : ∀ (n : Nat) (x0 : Nat), Jg κ (wM κ) 1 fin 0 0 0 [some ((8, .ref x0) : TV)] [] (fX8_readsAbove_L0 n x0) := by
  intro n
  induction n with
  | zero => intro x0; exact J_fail
  | succ n ih =>
    intro x0
    unfold fX8_readsAbove_L0
    refine J_aload_n (pc := 0) hc dX8_readsAbove_0 rfl rfl ?_
    refine J_getI (pc := 1) hc clX8 (k := 37) (Nat.le_of_ble_eq_true rfl) rfl tw1199 rfl dX8_readsAbove_1 (fun v4 => ?_)
    refine J_if_ne (pc := 4) (tgt := 28) hc dX8_readsAbove_4 (by decide) ?_ ?_
    · refine J_sub (l' := [some ((8, .ref x0) : TV)]) ⟨rfl, trivial⟩ ?_
      exact jX8_readsAbove_L28 hc he x0
    · refine J_aload_n (pc := 7) hc dX8_readsAbove_7 rfl rfl ?_
      refine J_callVi (pc := 8) hc clX8 (As := []) (KX8_wordHere x0) dX8_readsAbove_8 moX8_wordHere rfl tw1623 tw1625 twp94 tw9 tw1626 rfl (Nat.le_of_ble_eq_true rfl) (Nat.le_of_ble_eq_true rfl) (Nat.le_of_ble_eq_true rfl) (Nat.le_of_ble_eq_true rfl) (Nat.le_of_ble_eq_true rfl) rfl (fun v5 => ?_)
      refine J_bipush (pc := 11) (v := 6) hc dX8_readsAbove_11 (by decide) ?_
      refine J_bipush (pc := 13) (v := 8) hc dX8_readsAbove_13 (by decide) ?_
      refine J_callSi (pc := 15) hc (As := [((0, .int v5) : TV), ((0, .int 6) : TV), ((0, .int 8) : TV)]) (KX8_in v5 6 8) dX8_readsAbove_15 moX8_in tw1298 tw1299 tw9 tw1300 rfl (Nat.le_of_ble_eq_true rfl) (Nat.le_of_ble_eq_true rfl) (Nat.le_of_ble_eq_true rfl) (Nat.le_of_ble_eq_true rfl) (Nat.le_of_ble_eq_true rfl) rfl (fun v6 => ?_)
      refine J_if_eq (pc := 18) (tgt := 28) hc dX8_readsAbove_18 (by decide) ?_ ?_
      · refine J_sub (l' := [some ((8, .ref x0) : TV)]) ⟨rfl, trivial⟩ ?_
        exact jX8_readsAbove_L28 hc he x0
      · refine J_aload_n (pc := 21) hc dX8_readsAbove_21 rfl rfl ?_
        refine J_callVv (pc := 22) hc clX8 (As := []) (KX8_readsOne x0) dX8_readsAbove_22 moX8_readsOne rfl tw1667 tw1669 twp105 tw9 tw1670 rfl (Nat.le_of_ble_eq_true rfl) (Nat.le_of_ble_eq_true rfl) (Nat.le_of_ble_eq_true rfl) (Nat.le_of_ble_eq_true rfl) (Nat.le_of_ble_eq_true rfl) rfl (fun _ => ?_)
        refine J_goto (pc := 25) (tgt := 0) hc dX8_readsAbove_25 (by decide) ?_
        refine J_sub (l' := [some ((8, .ref x0) : TV)]) ⟨rfl, trivial⟩ ?_
        exact ih x0
set_option maxRecDepth 100000 in
set_option maxHeartbeats 4000000 in
theorem jX8_readsAbove {κ : Cx} {fin : Unit → Mm → Prop} (hc : Jc κ RX8 cX8_readsAbove 1 6 0 0 130) (he : Ed κ cX8_readsAbove 0 0 wV .return_ fin) (x0 : Nat) : Jg κ (wM κ) 1 fin 0 0 0 [some ((8, .ref x0) : TV)] [] (fX8_readsAbove x0) := by
  unfold fX8_readsAbove
  refine J_sub (l' := [some ((8, .ref x0) : TV)]) ⟨rfl, trivial⟩ ?_
  exact jX8_readsAbove_L0 hc he fu x0
theorem moX8_readsAbove : MOk yX8_readsAbove 0 := ⟨by decide +kernel, by decide +kernel, by decide +kernel⟩
set_option maxRecDepth 100000 in
set_option maxHeartbeats 4000000 in
theorem KX8_readsAbove (x0 : Nat) : Ct wV yX8_readsAbove cX8_readsAbove 1 none 6 0 0 130 [((8, .ref x0) : TV)] (fX8_readsAbove x0) :=
  Ct_V (j := 0) (by decide +kernel) rfl rfl (Nat.le_of_ble_eq_true rfl) (fun κ fin hc he hin => jX8_readsAbove hc he x0)
set_option maxRecDepth 100000 in
set_option maxHeartbeats 4000000 in
theorem jX8_readsSetting_L51 {κ : Cx} {fin : Unit → Mm → Prop} (hc : Jc κ RX8 cX8_readsSetting 3 5 0 0 105) (he : Ed κ cX8_readsSetting 0 0 wV .return_ fin) (s0 : Int32) (s1 : Int32) (s2 : Nat) : Jg κ (wM κ) 3 fin 0 0 51 [none, none, none] [((0, .int s0) : TV), ((0, .int s1) : TV), ((11, .ref s2) : TV)] (fX8_readsSetting_L51 s0 s1 s2) := by
  unfold fX8_readsSetting_L51
  refine J_iast (pc := 51) hc dX8_readsSetting_51 ?_
  exact J_vret (pc := 52) he dX8_readsSetting_52
set_option maxRecDepth 100000 in
set_option maxHeartbeats 4000000 in
theorem jX8_readsSetting_L17 {κ : Cx} {fin : Unit → Mm → Prop} (hc : Jc κ RX8 cX8_readsSetting 3 5 0 0 105) (he : Ed κ cX8_readsSetting 0 0 wV .return_ fin) (x0 : Nat) (x1 : Int32) (s0 : Int32) (s1 : Nat) : Jg κ (wM κ) 3 fin 0 0 17 [some ((8, .ref x0) : TV), some ((0, .int x1) : TV), none] [((0, .int s0) : TV), ((8, .ref s1) : TV)] (fX8_readsSetting_L17 x0 x1 s0 s1) := by
  unfold fX8_readsSetting_L17
  refine J_iload_n (pc := 17) hc dX8_readsSetting_17 rfl rfl ?_
  refine J_callSi (pc := 18) hc (As := [((0, .int x1) : TV)]) (KX8_highOf x1) dX8_readsSetting_18 moX8_highOf tw1465 tw1466 tw9 tw1467 rfl (Nat.le_of_ble_eq_true rfl) (Nat.le_of_ble_eq_true rfl) (Nat.le_of_ble_eq_true rfl) (Nat.le_of_ble_eq_true rfl) (Nat.le_of_ble_eq_true rfl) rfl (fun v1 => ?_)
  refine J_callVi (pc := 21) hc clX8 (As := [((0, .int s0) : TV), ((0, .int v1) : TV)]) (KX8_reads s1 s0 v1) dX8_readsSetting_21 moX8_reads rfl tw1631 tw1633 twp96 tw9 tw1634 rfl (Nat.le_of_ble_eq_true rfl) (Nat.le_of_ble_eq_true rfl) (Nat.le_of_ble_eq_true rfl) (Nat.le_of_ble_eq_true rfl) (Nat.le_of_ble_eq_true rfl) rfl (fun v2 => ?_)
  refine J_istore_n (pc := 24) (l' := [some ((8, .ref x0) : TV), some ((0, .int x1) : TV), some ((0, .int v2) : TV)]) hc dX8_readsSetting_24 rfl (by decide) rfl rfl ?_
  refine J_aload_n (pc := 25) hc dX8_readsSetting_25 rfl rfl ?_
  refine J_getA (pc := 26) hc clX8 (k := 2) (kd := 11) (Nat.le_of_ble_eq_true rfl) rfl (Nat.le_of_ble_eq_true rfl) (Nat.le_of_ble_eq_true rfl) tw1164 rfl dX8_readsSetting_26 (fun v3 => ?_)
  refine J_iconst (pc := 29) (v := 2) hc dX8_readsSetting_29 (by decide) ?_
  refine J_iload_n (pc := 30) hc dX8_readsSetting_30 rfl rfl ?_
  refine J_iadd (pc := 31) hc dX8_readsSetting_31 ?_
  refine J_aload_n (pc := 32) hc dX8_readsSetting_32 rfl rfl ?_
  refine J_getI (pc := 33) hc clX8 (k := 37) (Nat.le_of_ble_eq_true rfl) rfl tw1199 rfl dX8_readsSetting_33 (fun v4 => ?_)
  refine J_if_ne (pc := 36) (tgt := 43) hc dX8_readsSetting_36 (by decide) ?_ ?_
  · refine J_aload_n (pc := 43) hc dX8_readsSetting_43 rfl rfl ?_
    refine J_getA (pc := 44) hc clX8 (k := 2) (kd := 11) (Nat.le_of_ble_eq_true rfl) rfl (Nat.le_of_ble_eq_true rfl) (Nat.le_of_ble_eq_true rfl) tw1164 rfl dX8_readsSetting_44 (fun v5 => ?_)
    refine J_iconst (pc := 47) (v := 2) hc dX8_readsSetting_47 (by decide) ?_
    refine J_iload_n (pc := 48) hc dX8_readsSetting_48 rfl rfl ?_
    refine J_iadd (pc := 49) hc dX8_readsSetting_49 ?_
    refine J_iald (pc := 50) hc dX8_readsSetting_50 (fun v6 => ?_)
    refine J_sub (l' := [none, none, none]) (show subL _ _ from trivial) ?_
    exact jX8_readsSetting_L51 hc he v6 (2 + x1) v3
  · refine J_iload_n (pc := 39) hc dX8_readsSetting_39 rfl rfl ?_
    refine J_goto (pc := 40) (tgt := 51) hc dX8_readsSetting_40 (by decide) ?_
    refine J_sub (l' := [none, none, none]) (show subL _ _ from trivial) ?_
    exact jX8_readsSetting_L51 hc he v2 (2 + x1) v3
set_option maxRecDepth 100000 in
set_option maxHeartbeats 4000000 in
theorem jX8_readsSetting {κ : Cx} {fin : Unit → Mm → Prop} (hc : Jc κ RX8 cX8_readsSetting 3 5 0 0 105) (he : Ed κ cX8_readsSetting 0 0 wV .return_ fin) (x0 : Nat) : Jg κ (wM κ) 3 fin 0 0 0 [some ((8, .ref x0) : TV), none, none] [] (fX8_readsSetting x0) := by
  unfold fX8_readsSetting
  refine J_aload_n (pc := 0) hc dX8_readsSetting_0 rfl rfl ?_
  refine J_iconst (pc := 1) (v := 0) hc dX8_readsSetting_1 (by decide) ?_
  refine J_iconst (pc := 2) (v := 5) hc dX8_readsSetting_2 (by decide) ?_
  refine J_callVi (pc := 3) hc clX8 (As := [((0, .int 0) : TV), ((0, .int 5) : TV)]) (KX8_reads x0 0 5) dX8_readsSetting_3 moX8_reads rfl tw1631 tw1633 twp96 tw9 tw1634 rfl (Nat.le_of_ble_eq_true rfl) (Nat.le_of_ble_eq_true rfl) (Nat.le_of_ble_eq_true rfl) (Nat.le_of_ble_eq_true rfl) (Nat.le_of_ble_eq_true rfl) rfl (fun v7 => ?_)
  refine J_istore_n (pc := 6) (l' := [some ((8, .ref x0) : TV), some ((0, .int v7) : TV), none]) hc dX8_readsSetting_6 rfl (by decide) rfl rfl ?_
  refine J_aload_n (pc := 7) hc dX8_readsSetting_7 rfl rfl ?_
  refine J_iload_n (pc := 8) hc dX8_readsSetting_8 rfl rfl ?_
  refine J_if_ne (pc := 9) (tgt := 16) hc dX8_readsSetting_9 (by decide) ?_ ?_
  · refine J_iconst (pc := 16) (v := 0) hc dX8_readsSetting_16 (by decide) ?_
    refine J_sub (l' := [some ((8, .ref x0) : TV), some ((0, .int v7) : TV), none]) ⟨rfl, ⟨rfl, trivial⟩⟩ ?_
    exact jX8_readsSetting_L17 hc he x0 v7 0 x0
  · refine J_iconst (pc := 12) (v := 1) hc dX8_readsSetting_12 (by decide) ?_
    refine J_goto (pc := 13) (tgt := 17) hc dX8_readsSetting_13 (by decide) ?_
    refine J_sub (l' := [some ((8, .ref x0) : TV), some ((0, .int v7) : TV), none]) ⟨rfl, ⟨rfl, trivial⟩⟩ ?_
    exact jX8_readsSetting_L17 hc he x0 v7 1 x0
theorem moX8_readsSetting : MOk yX8_readsSetting 0 := ⟨by decide +kernel, by decide +kernel, by decide +kernel⟩
set_option maxRecDepth 100000 in
set_option maxHeartbeats 4000000 in
theorem KX8_readsSetting (x0 : Nat) : Ct wV yX8_readsSetting cX8_readsSetting 3 none 5 0 0 105 [((8, .ref x0) : TV)] (fX8_readsSetting x0) :=
  Ct_V (j := 2) (by decide +kernel) rfl rfl (Nat.le_of_ble_eq_true rfl) (fun κ fin hc he hin => jX8_readsSetting hc he x0)
set_option maxRecDepth 100000 in
set_option maxHeartbeats 4000000 in
theorem jX8_readsLoss_L43 {κ : Cx} {fin : Unit → Mm → Prop} (hc : Jc κ RX8 cX8_readsLoss 3 5 0 0 105) (he : Ed κ cX8_readsLoss 0 0 wV .return_ fin) (s0 : Int32) (s1 : Int32) (s2 : Nat) : Jg κ (wM κ) 3 fin 0 0 43 [none, none, none] [((0, .int s0) : TV), ((0, .int s1) : TV), ((11, .ref s2) : TV)] (fX8_readsLoss_L43 s0 s1 s2) := by
  unfold fX8_readsLoss_L43
  refine J_iast (pc := 43) hc dX8_readsLoss_43 ?_
  exact J_vret (pc := 44) he dX8_readsLoss_44
set_option maxRecDepth 100000 in
set_option maxHeartbeats 4000000 in
theorem jX8_readsLoss {κ : Cx} {fin : Unit → Mm → Prop} (hc : Jc κ RX8 cX8_readsLoss 3 5 0 0 105) (he : Ed κ cX8_readsLoss 0 0 wV .return_ fin) (x0 : Nat) : Jg κ (wM κ) 3 fin 0 0 0 [some ((8, .ref x0) : TV), none, none] [] (fX8_readsLoss x0) := by
  unfold fX8_readsLoss
  refine J_aload_n (pc := 0) hc dX8_readsLoss_0 rfl rfl ?_
  refine J_iconst (pc := 1) (v := 0) hc dX8_readsLoss_1 (by decide) ?_
  refine J_bipush (pc := 2) (v := 19) hc dX8_readsLoss_2 (by decide) ?_
  refine J_callVi (pc := 4) hc clX8 (As := [((0, .int 0) : TV), ((0, .int 19) : TV)]) (KX8_reads x0 0 19) dX8_readsLoss_4 moX8_reads rfl tw1631 tw1633 twp96 tw9 tw1634 rfl (Nat.le_of_ble_eq_true rfl) (Nat.le_of_ble_eq_true rfl) (Nat.le_of_ble_eq_true rfl) (Nat.le_of_ble_eq_true rfl) (Nat.le_of_ble_eq_true rfl) rfl (fun v1 => ?_)
  refine J_istore_n (pc := 7) (l' := [some ((8, .ref x0) : TV), some ((0, .int v1) : TV), none]) hc dX8_readsLoss_7 rfl (by decide) rfl rfl ?_
  refine J_aload_n (pc := 8) hc dX8_readsLoss_8 rfl rfl ?_
  refine J_iconst (pc := 9) (v := 0) hc dX8_readsLoss_9 (by decide) ?_
  refine J_iconst (pc := 10) (v := 5) hc dX8_readsLoss_10 (by decide) ?_
  refine J_callVi (pc := 11) hc clX8 (As := [((0, .int 0) : TV), ((0, .int 5) : TV)]) (KX8_reads x0 0 5) dX8_readsLoss_11 moX8_reads rfl tw1631 tw1633 twp96 tw9 tw1634 rfl (Nat.le_of_ble_eq_true rfl) (Nat.le_of_ble_eq_true rfl) (Nat.le_of_ble_eq_true rfl) (Nat.le_of_ble_eq_true rfl) (Nat.le_of_ble_eq_true rfl) rfl (fun v2 => ?_)
  refine J_istore_n (pc := 14) (l' := [some ((8, .ref x0) : TV), some ((0, .int v1) : TV), some ((0, .int v2) : TV)]) hc dX8_readsLoss_14 rfl (by decide) rfl rfl ?_
  refine J_aload_n (pc := 15) hc dX8_readsLoss_15 rfl rfl ?_
  refine J_getA (pc := 16) hc clX8 (k := 2) (kd := 11) (Nat.le_of_ble_eq_true rfl) rfl (Nat.le_of_ble_eq_true rfl) (Nat.le_of_ble_eq_true rfl) tw1164 rfl dX8_readsLoss_16 (fun v3 => ?_)
  refine J_bipush (pc := 19) (v := 8) hc dX8_readsLoss_19 (by decide) ?_
  refine J_iload_n (pc := 21) hc dX8_readsLoss_21 rfl rfl ?_
  refine J_iadd (pc := 22) hc dX8_readsLoss_22 ?_
  refine J_aload_n (pc := 23) hc dX8_readsLoss_23 rfl rfl ?_
  refine J_getI (pc := 24) hc clX8 (k := 37) (Nat.le_of_ble_eq_true rfl) rfl tw1199 rfl dX8_readsLoss_24 (fun v4 => ?_)
  refine J_if_ne (pc := 27) (tgt := 34) hc dX8_readsLoss_27 (by decide) ?_ ?_
  · refine J_aload_n (pc := 34) hc dX8_readsLoss_34 rfl rfl ?_
    refine J_getA (pc := 35) hc clX8 (k := 2) (kd := 11) (Nat.le_of_ble_eq_true rfl) rfl (Nat.le_of_ble_eq_true rfl) (Nat.le_of_ble_eq_true rfl) tw1164 rfl dX8_readsLoss_35 (fun v5 => ?_)
    refine J_bipush (pc := 38) (v := 8) hc dX8_readsLoss_38 (by decide) ?_
    refine J_iload_n (pc := 40) hc dX8_readsLoss_40 rfl rfl ?_
    refine J_iadd (pc := 41) hc dX8_readsLoss_41 ?_
    refine J_iald (pc := 42) hc dX8_readsLoss_42 (fun v6 => ?_)
    refine J_sub (l' := [none, none, none]) (show subL _ _ from trivial) ?_
    exact jX8_readsLoss_L43 hc he v6 (8 + v1) v3
  · refine J_iload_n (pc := 30) hc dX8_readsLoss_30 rfl rfl ?_
    refine J_goto (pc := 31) (tgt := 43) hc dX8_readsLoss_31 (by decide) ?_
    refine J_sub (l' := [none, none, none]) (show subL _ _ from trivial) ?_
    exact jX8_readsLoss_L43 hc he v2 (8 + v1) v3
theorem moX8_readsLoss : MOk yX8_readsLoss 0 := ⟨by decide +kernel, by decide +kernel, by decide +kernel⟩
set_option maxRecDepth 100000 in
set_option maxHeartbeats 4000000 in
theorem KX8_readsLoss (x0 : Nat) : Ct wV yX8_readsLoss cX8_readsLoss 3 none 5 0 0 105 [((8, .ref x0) : TV)] (fX8_readsLoss x0) :=
  Ct_V (j := 2) (by decide +kernel) rfl rfl (Nat.le_of_ble_eq_true rfl) (fun κ fin hc he hin => jX8_readsLoss hc he x0)
set_option maxRecDepth 100000 in
set_option maxHeartbeats 4000000 in
theorem jX8_readsLine_L45 {κ : Cx} {fin : Unit → Mm → Prop} (hc : Jc κ RX8 cX8_readsLine 2 7 0 0 150) (he : Ed κ cX8_readsLine 0 0 wV .return_ fin) (x0 : Nat) (s0 : Int32) (s1 : Nat) : Jg κ (wM κ) 2 fin 0 0 45 [some ((8, .ref x0) : TV), none] [((0, .int s0) : TV), ((8, .ref s1) : TV)] (fX8_readsLine_L45 x0 s0 s1) := by
  unfold fX8_readsLine_L45
  refine J_iconst (pc := 45) (v := 1) hc dX8_readsLine_45 (by decide) ?_
  refine J_callVv (pc := 46) hc clX8 (As := [((0, .int s0) : TV), ((0, .int 1) : TV)]) (KX8_must s1 s0 1) dX8_readsLine_46 moX8_must rfl tw1639 tw1641 twp98 tw9 tw1642 rfl (Nat.le_of_ble_eq_true rfl) (Nat.le_of_ble_eq_true rfl) (Nat.le_of_ble_eq_true rfl) (Nat.le_of_ble_eq_true rfl) (Nat.le_of_ble_eq_true rfl) rfl (fun _ => ?_)
  refine J_aload_n (pc := 49) hc dX8_readsLine_49 rfl rfl ?_
  refine J_callVv (pc := 50) hc clX8 (As := []) (KX8_addsTold x0) dX8_readsLine_50 moX8_addsTold rfl tw1671 tw1673 twp106 tw9 tw1674 rfl (Nat.le_of_ble_eq_true rfl) (Nat.le_of_ble_eq_true rfl) (Nat.le_of_ble_eq_true rfl) (Nat.le_of_ble_eq_true rfl) (Nat.le_of_ble_eq_true rfl) rfl (fun _ => ?_)
  exact J_vret (pc := 53) he dX8_readsLine_53
set_option maxRecDepth 100000 in
set_option maxHeartbeats 4000000 in
theorem jX8_readsLine_L31 {κ : Cx} {fin : Unit → Mm → Prop} (hc : Jc κ RX8 cX8_readsLine 2 7 0 0 150) (he : Ed κ cX8_readsLine 0 0 wV .return_ fin) (x0 : Nat) : Jg κ (wM κ) 2 fin 0 0 31 [some ((8, .ref x0) : TV), none] [] (fX8_readsLine_L31 x0) := by
  unfold fX8_readsLine_L31
  refine J_aload_n (pc := 31) hc dX8_readsLine_31 rfl rfl ?_
  refine J_aload_n (pc := 32) hc dX8_readsLine_32 rfl rfl ?_
  refine J_getI (pc := 33) hc clX8 (k := 35) (Nat.le_of_ble_eq_true rfl) rfl tw1197 rfl dX8_readsLine_33 (fun v1 => ?_)
  refine J_iconst (pc := 36) (v := 4) hc dX8_readsLine_36 (by decide) ?_
  refine J_icmp_ne (pc := 37) (tgt := 44) hc dX8_readsLine_37 (by decide) ?_ ?_
  · refine J_iconst (pc := 44) (v := 0) hc dX8_readsLine_44 (by decide) ?_
    refine J_sub (l' := [some ((8, .ref x0) : TV), none]) ⟨rfl, trivial⟩ ?_
    exact jX8_readsLine_L45 hc he x0 0 x0
  · refine J_iconst (pc := 40) (v := 1) hc dX8_readsLine_40 (by decide) ?_
    refine J_goto (pc := 41) (tgt := 45) hc dX8_readsLine_41 (by decide) ?_
    refine J_sub (l' := [some ((8, .ref x0) : TV), none]) ⟨rfl, trivial⟩ ?_
    exact jX8_readsLine_L45 hc he x0 1 x0
set_option maxRecDepth 100000 in
set_option maxHeartbeats 4000000 in
theorem jX8_readsLine {κ : Cx} {fin : Unit → Mm → Prop} (hc : Jc κ RX8 cX8_readsLine 2 7 0 0 150) (he : Ed κ cX8_readsLine 0 0 wV .return_ fin) (x0 : Nat) (x1 : Int32) : Jg κ (wM κ) 2 fin 0 0 0 [some ((8, .ref x0) : TV), some ((0, .int x1) : TV)] [] (fX8_readsLine x0 x1) := by
  unfold fX8_readsLine
  refine J_aload_n (pc := 0) hc dX8_readsLine_0 rfl rfl ?_
  refine J_callVv (pc := 1) hc clX8 (As := []) (KX8_laysTold x0) dX8_readsLine_1 moX8_laysTold rfl tw1651 tw1653 twp101 tw9 tw1654 rfl (Nat.le_of_ble_eq_true rfl) (Nat.le_of_ble_eq_true rfl) (Nat.le_of_ble_eq_true rfl) (Nat.le_of_ble_eq_true rfl) (Nat.le_of_ble_eq_true rfl) rfl (fun _ => ?_)
  refine J_iload_n (pc := 4) hc dX8_readsLine_4 rfl rfl ?_
  refine J_if_ne (pc := 5) (tgt := 15) hc dX8_readsLine_5 (by decide) ?_ ?_
  · refine J_iload_n (pc := 15) hc dX8_readsLine_15 rfl rfl ?_
    refine J_iconst (pc := 16) (v := 1) hc dX8_readsLine_16 (by decide) ?_
    refine J_icmp_ne (pc := 17) (tgt := 27) hc dX8_readsLine_17 (by decide) ?_ ?_
    · refine J_aload_n (pc := 27) hc dX8_readsLine_27 rfl rfl ?_
      refine J_callVv (pc := 28) hc clX8 (As := []) (KX8_readsAbove x0) dX8_readsLine_28 moX8_readsAbove rfl tw1663 tw1665 twp104 tw9 tw1666 rfl (Nat.le_of_ble_eq_true rfl) (Nat.le_of_ble_eq_true rfl) (Nat.le_of_ble_eq_true rfl) (Nat.le_of_ble_eq_true rfl) (Nat.le_of_ble_eq_true rfl) rfl (fun _ => ?_)
      refine J_sub (l' := [some ((8, .ref x0) : TV), none]) ⟨rfl, trivial⟩ ?_
      exact jX8_readsLine_L31 hc he x0
    · refine J_aload_n (pc := 20) hc dX8_readsLine_20 rfl rfl ?_
      refine J_callVv (pc := 21) hc clX8 (As := []) (KX8_readsAlone x0) dX8_readsLine_21 moX8_readsAlone rfl tw1659 tw1661 twp103 tw9 tw1662 rfl (Nat.le_of_ble_eq_true rfl) (Nat.le_of_ble_eq_true rfl) (Nat.le_of_ble_eq_true rfl) (Nat.le_of_ble_eq_true rfl) (Nat.le_of_ble_eq_true rfl) rfl (fun _ => ?_)
      refine J_goto (pc := 24) (tgt := 31) hc dX8_readsLine_24 (by decide) ?_
      refine J_sub (l' := [some ((8, .ref x0) : TV), none]) ⟨rfl, trivial⟩ ?_
      exact jX8_readsLine_L31 hc he x0
  · refine J_aload_n (pc := 8) hc dX8_readsLine_8 rfl rfl ?_
    refine J_callVv (pc := 9) hc clX8 (As := []) (KX8_readsRow x0) dX8_readsLine_9 moX8_readsRow rfl tw1655 tw1657 twp102 tw9 tw1658 rfl (Nat.le_of_ble_eq_true rfl) (Nat.le_of_ble_eq_true rfl) (Nat.le_of_ble_eq_true rfl) (Nat.le_of_ble_eq_true rfl) (Nat.le_of_ble_eq_true rfl) rfl (fun _ => ?_)
    refine J_goto (pc := 12) (tgt := 31) hc dX8_readsLine_12 (by decide) ?_
    refine J_sub (l' := [some ((8, .ref x0) : TV), none]) ⟨rfl, trivial⟩ ?_
    exact jX8_readsLine_L31 hc he x0
theorem moX8_readsLine : MOk yX8_readsLine 1 := ⟨by decide +kernel, by decide +kernel, by decide +kernel⟩
set_option maxRecDepth 100000 in
set_option maxHeartbeats 4000000 in
theorem KX8_readsLine (x0 : Nat) (x1 : Int32) : Ct wV yX8_readsLine cX8_readsLine 2 none 7 0 0 150 [((8, .ref x0) : TV), ((0, .int x1) : TV)] (fX8_readsLine x0 x1) :=
  Ct_V (j := 0) (by decide +kernel) rfl rfl (Nat.le_of_ble_eq_true rfl) (fun κ fin hc he hin => jX8_readsLine hc he x0 x1)
set_option maxRecDepth 100000 in
set_option maxHeartbeats 4000000 in
theorem jX8_readsStatement_L97 {κ : Cx} {fin : Unit → Mm → Prop} (hc : Jc κ RX8 cX8_readsStatement 2 8 0 0 171) (he : Ed κ cX8_readsStatement 0 0 wV .return_ fin) (x0 : Nat) (s0 : Int32) (s1 : Nat) : Jg κ (wM κ) 2 fin 0 0 97 [some ((8, .ref x0) : TV), none] [((0, .int s0) : TV), ((8, .ref s1) : TV)] (fX8_readsStatement_L97 x0 s0 s1) := by
  unfold fX8_readsStatement_L97
  refine J_iconst (pc := 97) (v := 1) hc dX8_readsStatement_97 (by decide) ?_
  refine J_callVv (pc := 98) hc clX8 (As := [((0, .int s0) : TV), ((0, .int 1) : TV)]) (KX8_must s1 s0 1) dX8_readsStatement_98 moX8_must rfl tw1639 tw1641 twp98 tw9 tw1642 rfl (Nat.le_of_ble_eq_true rfl) (Nat.le_of_ble_eq_true rfl) (Nat.le_of_ble_eq_true rfl) (Nat.le_of_ble_eq_true rfl) (Nat.le_of_ble_eq_true rfl) rfl (fun _ => ?_)
  refine J_aload_n (pc := 101) hc dX8_readsStatement_101 rfl rfl ?_
  refine J_callVv (pc := 102) hc clX8 (As := []) (KX8_goesOn x0) dX8_readsStatement_102 moX8_goesOn rfl tw1627 tw1629 twp95 tw9 tw1630 rfl (Nat.le_of_ble_eq_true rfl) (Nat.le_of_ble_eq_true rfl) (Nat.le_of_ble_eq_true rfl) (Nat.le_of_ble_eq_true rfl) (Nat.le_of_ble_eq_true rfl) rfl (fun _ => ?_)
  exact J_vret (pc := 105) he dX8_readsStatement_105
set_option maxRecDepth 100000 in
set_option maxHeartbeats 4000000 in
theorem jX8_readsStatement_L83 {κ : Cx} {fin : Unit → Mm → Prop} (hc : Jc κ RX8 cX8_readsStatement 2 8 0 0 171) (he : Ed κ cX8_readsStatement 0 0 wV .return_ fin) (x0 : Nat) : Jg κ (wM κ) 2 fin 0 0 83 [some ((8, .ref x0) : TV), none] [] (fX8_readsStatement_L83 x0) := by
  unfold fX8_readsStatement_L83
  refine J_aload_n (pc := 83) hc dX8_readsStatement_83 rfl rfl ?_
  refine J_aload_n (pc := 84) hc dX8_readsStatement_84 rfl rfl ?_
  refine J_getI (pc := 85) hc clX8 (k := 35) (Nat.le_of_ble_eq_true rfl) rfl tw1197 rfl dX8_readsStatement_85 (fun v1 => ?_)
  refine J_iconst (pc := 88) (v := 4) hc dX8_readsStatement_88 (by decide) ?_
  refine J_icmp_ne (pc := 89) (tgt := 96) hc dX8_readsStatement_89 (by decide) ?_ ?_
  · refine J_iconst (pc := 96) (v := 0) hc dX8_readsStatement_96 (by decide) ?_
    refine J_sub (l' := [some ((8, .ref x0) : TV), none]) ⟨rfl, trivial⟩ ?_
    exact jX8_readsStatement_L97 hc he x0 0 x0
  · refine J_iconst (pc := 92) (v := 1) hc dX8_readsStatement_92 (by decide) ?_
    refine J_goto (pc := 93) (tgt := 97) hc dX8_readsStatement_93 (by decide) ?_
    refine J_sub (l' := [some ((8, .ref x0) : TV), none]) ⟨rfl, trivial⟩ ?_
    exact jX8_readsStatement_L97 hc he x0 1 x0
set_option maxRecDepth 100000 in
set_option maxHeartbeats 4000000 in
theorem jX8_readsStatement_L38 {κ : Cx} {fin : Unit → Mm → Prop} (hc : Jc κ RX8 cX8_readsStatement 2 8 0 0 171) (he : Ed κ cX8_readsStatement 0 0 wV .return_ fin) (x0 : Nat) (x1 : Int32) (s0 : Int32) (s1 : Nat) : Jg κ (wM κ) 2 fin 0 0 38 [some ((8, .ref x0) : TV), some ((0, .int x1) : TV)] [((0, .int s0) : TV), ((8, .ref s1) : TV)] (fX8_readsStatement_L38 x0 x1 s0 s1) := by
  unfold fX8_readsStatement_L38
  refine J_iconst (pc := 38) (v := 5) hc dX8_readsStatement_38 (by decide) ?_
  refine J_callVv (pc := 39) hc clX8 (As := [((0, .int s0) : TV), ((0, .int 5) : TV)]) (KX8_must s1 s0 5) dX8_readsStatement_39 moX8_must rfl tw1639 tw1641 twp98 tw9 tw1642 rfl (Nat.le_of_ble_eq_true rfl) (Nat.le_of_ble_eq_true rfl) (Nat.le_of_ble_eq_true rfl) (Nat.le_of_ble_eq_true rfl) (Nat.le_of_ble_eq_true rfl) rfl (fun _ => ?_)
  refine J_aload_n (pc := 42) hc dX8_readsStatement_42 rfl rfl ?_
  refine J_callVv (pc := 43) hc clX8 (As := []) (KX8_goesOn x0) dX8_readsStatement_43 moX8_goesOn rfl tw1627 tw1629 twp95 tw9 tw1630 rfl (Nat.le_of_ble_eq_true rfl) (Nat.le_of_ble_eq_true rfl) (Nat.le_of_ble_eq_true rfl) (Nat.le_of_ble_eq_true rfl) (Nat.le_of_ble_eq_true rfl) rfl (fun _ => ?_)
  refine J_aload_n (pc := 46) hc dX8_readsStatement_46 rfl rfl ?_
  refine J_getI (pc := 47) hc clX8 (k := 37) (Nat.le_of_ble_eq_true rfl) rfl tw1199 rfl dX8_readsStatement_47 (fun v2 => ?_)
  refine J_if_le (pc := 50) (tgt := 54) hc dX8_readsStatement_50 (by decide) ?_ ?_
  · refine J_iload_n (pc := 54) hc dX8_readsStatement_54 rfl rfl ?_
    refine J_iconst (pc := 55) (v := 2) hc dX8_readsStatement_55 (by decide) ?_
    refine J_icmp_gt (pc := 56) (tgt := 67) hc dX8_readsStatement_56 (by decide) ?_ ?_
    · refine J_iload_n (pc := 67) hc dX8_readsStatement_67 rfl rfl ?_
      refine J_iconst (pc := 68) (v := 3) hc dX8_readsStatement_68 (by decide) ?_
      refine J_icmp_ne (pc := 69) (tgt := 79) hc dX8_readsStatement_69 (by decide) ?_ ?_
      · refine J_aload_n (pc := 79) hc dX8_readsStatement_79 rfl rfl ?_
        refine J_callVv (pc := 80) hc clX8 (As := []) (KX8_readsLoss x0) dX8_readsStatement_80 moX8_readsLoss rfl tw1679 tw1681 twp108 tw9 tw1682 rfl (Nat.le_of_ble_eq_true rfl) (Nat.le_of_ble_eq_true rfl) (Nat.le_of_ble_eq_true rfl) (Nat.le_of_ble_eq_true rfl) (Nat.le_of_ble_eq_true rfl) rfl (fun _ => ?_)
        refine J_sub (l' := [some ((8, .ref x0) : TV), none]) ⟨rfl, trivial⟩ ?_
        exact jX8_readsStatement_L83 hc he x0
      · refine J_aload_n (pc := 72) hc dX8_readsStatement_72 rfl rfl ?_
        refine J_callVv (pc := 73) hc clX8 (As := []) (KX8_readsSetting x0) dX8_readsStatement_73 moX8_readsSetting rfl tw1675 tw1677 twp107 tw9 tw1678 rfl (Nat.le_of_ble_eq_true rfl) (Nat.le_of_ble_eq_true rfl) (Nat.le_of_ble_eq_true rfl) (Nat.le_of_ble_eq_true rfl) (Nat.le_of_ble_eq_true rfl) rfl (fun _ => ?_)
        refine J_goto (pc := 76) (tgt := 83) hc dX8_readsStatement_76 (by decide) ?_
        refine J_sub (l' := [some ((8, .ref x0) : TV), none]) ⟨rfl, trivial⟩ ?_
        exact jX8_readsStatement_L83 hc he x0
    · refine J_aload_n (pc := 59) hc dX8_readsStatement_59 rfl rfl ?_
      refine J_iload_n (pc := 60) hc dX8_readsStatement_60 rfl rfl ?_
      refine J_callVv (pc := 61) hc clX8 (As := [((0, .int x1) : TV)]) (KX8_readsLine x0 x1) dX8_readsStatement_61 moX8_readsLine rfl tw1647 tw1649 twp100 tw9 tw1650 rfl (Nat.le_of_ble_eq_true rfl) (Nat.le_of_ble_eq_true rfl) (Nat.le_of_ble_eq_true rfl) (Nat.le_of_ble_eq_true rfl) (Nat.le_of_ble_eq_true rfl) rfl (fun _ => ?_)
      refine J_goto (pc := 64) (tgt := 83) hc dX8_readsStatement_64 (by decide) ?_
      refine J_sub (l' := [some ((8, .ref x0) : TV), none]) ⟨rfl, trivial⟩ ?_
      exact jX8_readsStatement_L83 hc he x0
  · exact J_vret (pc := 53) he dX8_readsStatement_53
set_option maxRecDepth 100000 in
set_option maxHeartbeats 4000000 in
theorem jX8_readsStatement_L33 {κ : Cx} {fin : Unit → Mm → Prop} (hc : Jc κ RX8 cX8_readsStatement 2 8 0 0 171) (he : Ed κ cX8_readsStatement 0 0 wV .return_ fin) (x0 : Nat) (x1 : Int32) (s0 : Nat) : Jg κ (wM κ) 2 fin 0 0 33 [some ((8, .ref x0) : TV), some ((0, .int x1) : TV)] [((8, .ref s0) : TV)] (fX8_readsStatement_L33 x0 x1 s0) := by
  unfold fX8_readsStatement_L33
  refine J_iconst (pc := 33) (v := 1) hc dX8_readsStatement_33 (by decide) ?_
  refine J_goto (pc := 34) (tgt := 38) hc dX8_readsStatement_34 (by decide) ?_
  refine J_sub (l' := [some ((8, .ref x0) : TV), some ((0, .int x1) : TV)]) ⟨rfl, ⟨rfl, trivial⟩⟩ ?_
  exact jX8_readsStatement_L38 hc he x0 x1 1 s0
set_option maxRecDepth 100000 in
set_option maxHeartbeats 4000000 in
theorem jX8_readsStatement {κ : Cx} {fin : Unit → Mm → Prop} (hc : Jc κ RX8 cX8_readsStatement 2 8 0 0 171) (he : Ed κ cX8_readsStatement 0 0 wV .return_ fin) (x0 : Nat) : Jg κ (wM κ) 2 fin 0 0 0 [some ((8, .ref x0) : TV), none] [] (fX8_readsStatement x0) := by
  unfold fX8_readsStatement
  refine J_aload_n (pc := 0) hc dX8_readsStatement_0 rfl rfl ?_
  refine J_callVi (pc := 1) hc clX8 (As := []) (KX8_wordHere x0) dX8_readsStatement_1 moX8_wordHere rfl tw1623 tw1625 twp94 tw9 tw1626 rfl (Nat.le_of_ble_eq_true rfl) (Nat.le_of_ble_eq_true rfl) (Nat.le_of_ble_eq_true rfl) (Nat.le_of_ble_eq_true rfl) (Nat.le_of_ble_eq_true rfl) rfl (fun v3 => ?_)
  refine J_istore_n (pc := 4) (l' := [some ((8, .ref x0) : TV), some ((0, .int v3) : TV)]) hc dX8_readsStatement_4 rfl (by decide) rfl rfl ?_
  refine J_aload_n (pc := 5) hc dX8_readsStatement_5 rfl rfl ?_
  refine J_iload_n (pc := 6) hc dX8_readsStatement_6 rfl rfl ?_
  refine J_iconst (pc := 7) (v := 0) hc dX8_readsStatement_7 (by decide) ?_
  refine J_iconst (pc := 8) (v := 4) hc dX8_readsStatement_8 (by decide) ?_
  refine J_callSi (pc := 9) hc (As := [((0, .int v3) : TV), ((0, .int 0) : TV), ((0, .int 4) : TV)]) (KX8_in v3 0 4) dX8_readsStatement_9 moX8_in tw1298 tw1299 tw9 tw1300 rfl (Nat.le_of_ble_eq_true rfl) (Nat.le_of_ble_eq_true rfl) (Nat.le_of_ble_eq_true rfl) (Nat.le_of_ble_eq_true rfl) (Nat.le_of_ble_eq_true rfl) rfl (fun v4 => ?_)
  refine J_iconst (pc := 12) (v := 1) hc dX8_readsStatement_12 (by decide) ?_
  refine J_callVv (pc := 13) hc clX8 (As := [((0, .int v4) : TV), ((0, .int 1) : TV)]) (KX8_must x0 v4 1) dX8_readsStatement_13 moX8_must rfl tw1639 tw1641 twp98 tw9 tw1642 rfl (Nat.le_of_ble_eq_true rfl) (Nat.le_of_ble_eq_true rfl) (Nat.le_of_ble_eq_true rfl) (Nat.le_of_ble_eq_true rfl) (Nat.le_of_ble_eq_true rfl) rfl (fun _ => ?_)
  refine J_aload_n (pc := 16) hc dX8_readsStatement_16 rfl rfl ?_
  refine J_iload_n (pc := 17) hc dX8_readsStatement_17 rfl rfl ?_
  refine J_iconst (pc := 18) (v := 2) hc dX8_readsStatement_18 (by decide) ?_
  refine J_icmp_gt (pc := 19) (tgt := 33) hc dX8_readsStatement_19 (by decide) ?_ ?_
  · refine J_sub (l' := [some ((8, .ref x0) : TV), some ((0, .int v3) : TV)]) ⟨rfl, ⟨rfl, trivial⟩⟩ ?_
    exact jX8_readsStatement_L33 hc he x0 v3 x0
  · refine J_aload_n (pc := 22) hc dX8_readsStatement_22 rfl rfl ?_
    refine J_getA (pc := 23) hc clX8 (k := 2) (kd := 11) (Nat.le_of_ble_eq_true rfl) rfl (Nat.le_of_ble_eq_true rfl) (Nat.le_of_ble_eq_true rfl) tw1164 rfl dX8_readsStatement_23 (fun v5 => ?_)
    refine J_iconst (pc := 26) (v := 1) hc dX8_readsStatement_26 (by decide) ?_
    refine J_iald (pc := 27) hc dX8_readsStatement_27 (fun v6 => ?_)
    refine J_bipush (pc := 28) (v := 20) hc dX8_readsStatement_28 (by decide) ?_
    refine J_icmp_ge (pc := 30) (tgt := 37) hc dX8_readsStatement_30 (by decide) ?_ ?_
    · refine J_iconst (pc := 37) (v := 0) hc dX8_readsStatement_37 (by decide) ?_
      refine J_sub (l' := [some ((8, .ref x0) : TV), some ((0, .int v3) : TV)]) ⟨rfl, ⟨rfl, trivial⟩⟩ ?_
      exact jX8_readsStatement_L38 hc he x0 v3 0 x0
    · refine J_sub (l' := [some ((8, .ref x0) : TV), some ((0, .int v3) : TV)]) ⟨rfl, ⟨rfl, trivial⟩⟩ ?_
      exact jX8_readsStatement_L33 hc he x0 v3 x0
theorem moX8_readsStatement : MOk yX8_readsStatement 0 := ⟨by decide +kernel, by decide +kernel, by decide +kernel⟩
set_option maxRecDepth 100000 in
set_option maxHeartbeats 4000000 in
theorem KX8_readsStatement (x0 : Nat) : Ct wV yX8_readsStatement cX8_readsStatement 2 none 8 0 0 171 [((8, .ref x0) : TV)] (fX8_readsStatement x0) :=
  Ct_V (j := 1) (by decide +kernel) rfl rfl (Nat.le_of_ble_eq_true rfl) (fun κ fin hc he hin => jX8_readsStatement hc he x0)
set_option maxRecDepth 100000 in
set_option maxHeartbeats 4000000 in
theorem jX8_load_L99 {κ : Cx} {fin : Int32 → Mm → Prop} (hc : Jc κ RX8 cX8_load 2 9 0 0 192) (he : Ed κ cX8_load 0 0 wI .ireturn fin) (x0 : Nat) : Jg κ (wM κ) 2 fin 0 0 99 [some ((8, .ref x0) : TV), none] [] (fX8_load_L99 x0) := by
  unfold fX8_load_L99
  refine J_aload_n (pc := 99) hc dX8_load_99 rfl rfl ?_
  refine J_iconst (pc := 100) (v := 0) hc dX8_load_100 (by decide) ?_
  refine J_putI (pc := 101) hc clX8 (k := 32) (Nat.le_of_ble_eq_true rfl) rfl rfl tw1194 rfl rfl dX8_load_101 ?_
  refine J_aload_n (pc := 104) hc dX8_load_104 rfl rfl ?_
  refine J_getI (pc := 105) hc clX8 (k := 37) (Nat.le_of_ble_eq_true rfl) rfl tw1199 rfl dX8_load_105 (fun v1 => ?_)
  refine J_if_le (pc := 108) (tgt := 113) hc dX8_load_108 (by decide) ?_ ?_
  · refine J_aload_n (pc := 113) hc dX8_load_113 rfl rfl ?_
    refine J_getA (pc := 114) hc clX8 (k := 2) (kd := 11) (Nat.le_of_ble_eq_true rfl) rfl (Nat.le_of_ble_eq_true rfl) (Nat.le_of_ble_eq_true rfl) tw1164 rfl dX8_load_114 (fun v2 => ?_)
    refine J_iconst (pc := 117) (v := 0) hc dX8_load_117 (by decide) ?_
    refine J_aload_n (pc := 118) hc dX8_load_118 rfl rfl ?_
    refine J_getA (pc := 119) hc clX8 (k := 1) (kd := 11) (Nat.le_of_ble_eq_true rfl) rfl (Nat.le_of_ble_eq_true rfl) (Nat.le_of_ble_eq_true rfl) tw1163 rfl dX8_load_119 (fun v3 => ?_)
    refine J_iconst (pc := 122) (v := 0) hc dX8_load_122 (by decide) ?_
    refine J_callSv (pc := 123) hc (As := [((11, .ref v2) : TV), ((0, .int 0) : TV), ((11, .ref v3) : TV), ((0, .int 0) : TV)]) (KX8_copies v2 0 v3 0) dX8_load_123 moX8_copies tw1159 tw1160 tw9 tw1161 rfl (Nat.le_of_ble_eq_true rfl) (Nat.le_of_ble_eq_true rfl) (Nat.le_of_ble_eq_true rfl) (Nat.le_of_ble_eq_true rfl) (Nat.le_of_ble_eq_true rfl) rfl (fun _ => ?_)
    refine J_aload_n (pc := 126) hc dX8_load_126 rfl rfl ?_
    refine J_iconst (pc := 127) (v := 0) hc dX8_load_127 (by decide) ?_
    refine J_putI (pc := 128) hc clX8 (k := 4) (Nat.le_of_ble_eq_true rfl) rfl rfl tw1166 rfl rfl dX8_load_128 ?_
    refine J_aload_n (pc := 131) hc dX8_load_131 rfl rfl ?_
    refine J_getA (pc := 132) hc clX8 (k := 1) (kd := 11) (Nat.le_of_ble_eq_true rfl) rfl (Nat.le_of_ble_eq_true rfl) (Nat.le_of_ble_eq_true rfl) tw1163 rfl dX8_load_132 (fun v4 => ?_)
    refine J_iconst (pc := 135) (v := 1) hc dX8_load_135 (by decide) ?_
    refine J_iald (pc := 136) hc dX8_load_136 (fun v5 => ?_)
    exact J_iret (pc := 137) he dX8_load_137
  · refine J_iconst (pc := 111) (v := (-1)) hc dX8_load_111 (by decide) ?_
    exact J_iret (pc := 112) he dX8_load_112
set_option maxRecDepth 100000 in
set_option maxHeartbeats 4000000 in
theorem jX8_load_L78 {κ : Cx} {fin : Int32 → Mm → Prop} (hc : Jc κ RX8 cX8_load 2 9 0 0 192) (he : Ed κ cX8_load 0 0 wI .ireturn fin) : ∀ (n : Nat) (x0 : Nat), Jg κ (wM κ) 2 fin 0 0 78 [some ((8, .ref x0) : TV), none] [] (fX8_load_L78 n x0) := by
  intro n
  induction n with
  | zero => intro x0; exact J_fail
  | succ n ih =>
    intro x0
    unfold fX8_load_L78
    refine J_aload_n (pc := 78) hc dX8_load_78 rfl rfl ?_
    refine J_getI (pc := 79) hc clX8 (k := 37) (Nat.le_of_ble_eq_true rfl) rfl tw1199 rfl dX8_load_79 (fun v6 => ?_)
    refine J_if_ne (pc := 82) (tgt := 99) hc dX8_load_82 (by decide) ?_ ?_
    · refine J_sub (l' := [some ((8, .ref x0) : TV), none]) ⟨rfl, trivial⟩ ?_
      exact jX8_load_L99 hc he x0
    · refine J_aload_n (pc := 85) hc dX8_load_85 rfl rfl ?_
      refine J_getI (pc := 86) hc clX8 (k := 35) (Nat.le_of_ble_eq_true rfl) rfl tw1197 rfl dX8_load_86 (fun v7 => ?_)
      refine J_if_eq (pc := 89) (tgt := 99) hc dX8_load_89 (by decide) ?_ ?_
      · refine J_sub (l' := [some ((8, .ref x0) : TV), none]) ⟨rfl, trivial⟩ ?_
        exact jX8_load_L99 hc he x0
      · refine J_aload_n (pc := 92) hc dX8_load_92 rfl rfl ?_
        refine J_callVv (pc := 93) hc clX8 (As := []) (KX8_readsStatement x0) dX8_load_93 moX8_readsStatement rfl tw1643 tw1645 twp99 tw9 tw1646 rfl (Nat.le_of_ble_eq_true rfl) (Nat.le_of_ble_eq_true rfl) (Nat.le_of_ble_eq_true rfl) (Nat.le_of_ble_eq_true rfl) (Nat.le_of_ble_eq_true rfl) rfl (fun _ => ?_)
        refine J_goto (pc := 96) (tgt := 78) hc dX8_load_96 (by decide) ?_
        refine J_sub (l' := [some ((8, .ref x0) : TV), none]) ⟨rfl, trivial⟩ ?_
        exact ih x0
set_option maxRecDepth 100000 in
set_option maxHeartbeats 4000000 in
theorem jX8_load_L65 {κ : Cx} {fin : Int32 → Mm → Prop} (hc : Jc κ RX8 cX8_load 2 9 0 0 192) (he : Ed κ cX8_load 0 0 wI .ireturn fin) (x0 : Nat) (x1 : Int32) (s0 : Int32) (s1 : Nat) : Jg κ (wM κ) 2 fin 0 0 65 [some ((8, .ref x0) : TV), some ((0, .int x1) : TV)] [((0, .int s0) : TV), ((8, .ref s1) : TV)] (fX8_load_L65 x0 x1 s0 s1) := by
  unfold fX8_load_L65
  refine J_iconst (pc := 65) (v := 1) hc dX8_load_65 (by decide) ?_
  refine J_callVv (pc := 66) hc clX8 (As := [((0, .int s0) : TV), ((0, .int 1) : TV)]) (KX8_must s1 s0 1) dX8_load_66 moX8_must rfl tw1639 tw1641 twp98 tw9 tw1642 rfl (Nat.le_of_ble_eq_true rfl) (Nat.le_of_ble_eq_true rfl) (Nat.le_of_ble_eq_true rfl) (Nat.le_of_ble_eq_true rfl) (Nat.le_of_ble_eq_true rfl) rfl (fun _ => ?_)
  refine J_aload_n (pc := 69) hc dX8_load_69 rfl rfl ?_
  refine J_callVv (pc := 70) hc clX8 (As := []) (KX8_goesOn x0) dX8_load_70 moX8_goesOn rfl tw1627 tw1629 twp95 tw9 tw1630 rfl (Nat.le_of_ble_eq_true rfl) (Nat.le_of_ble_eq_true rfl) (Nat.le_of_ble_eq_true rfl) (Nat.le_of_ble_eq_true rfl) (Nat.le_of_ble_eq_true rfl) rfl (fun _ => ?_)
  refine J_aload_n (pc := 73) hc dX8_load_73 rfl rfl ?_
  refine J_iload_n (pc := 74) hc dX8_load_74 rfl rfl ?_
  refine J_callVv (pc := 75) hc clX8 (As := [((0, .int x1) : TV)]) (KX8_begins x0 x1) dX8_load_75 moX8_begins rfl tw1155 tw1157 twp46 tw9 tw1158 rfl (Nat.le_of_ble_eq_true rfl) (Nat.le_of_ble_eq_true rfl) (Nat.le_of_ble_eq_true rfl) (Nat.le_of_ble_eq_true rfl) (Nat.le_of_ble_eq_true rfl) rfl (fun _ => ?_)
  refine J_sub (l' := [some ((8, .ref x0) : TV), none]) ⟨rfl, trivial⟩ ?_
  exact jX8_load_L78 hc he fu x0
set_option maxRecDepth 100000 in
set_option maxHeartbeats 4000000 in
theorem jX8_load {κ : Cx} {fin : Int32 → Mm → Prop} (hc : Jc κ RX8 cX8_load 2 9 0 0 192) (he : Ed κ cX8_load 0 0 wI .ireturn fin) (x0 : Nat) : Jg κ (wM κ) 2 fin 0 0 0 [some ((8, .ref x0) : TV), none] [] (fX8_load x0) := by
  unfold fX8_load
  refine J_aload_n (pc := 0) hc dX8_load_0 rfl rfl ?_
  refine J_iconst (pc := 1) (v := 0) hc dX8_load_1 (by decide) ?_
  refine J_putI (pc := 2) hc clX8 (k := 0) (Nat.le_of_ble_eq_true rfl) rfl rfl tw1162 rfl rfl dX8_load_2 ?_
  refine J_aload_n (pc := 5) hc dX8_load_5 rfl rfl ?_
  refine J_iconst (pc := 6) (v := 0) hc dX8_load_6 (by decide) ?_
  refine J_putI (pc := 7) hc clX8 (k := 33) (Nat.le_of_ble_eq_true rfl) rfl rfl tw1195 rfl rfl dX8_load_7 ?_
  refine J_aload_n (pc := 10) hc dX8_load_10 rfl rfl ?_
  refine J_iconst (pc := 11) (v := 0) hc dX8_load_11 (by decide) ?_
  refine J_putI (pc := 12) hc clX8 (k := 37) (Nat.le_of_ble_eq_true rfl) rfl rfl tw1199 rfl rfl dX8_load_12 ?_
  refine J_aload_n (pc := 15) hc dX8_load_15 rfl rfl ?_
  refine J_iconst (pc := 16) (v := (-1)) hc dX8_load_16 (by decide) ?_
  refine J_putI (pc := 17) hc clX8 (k := 38) (Nat.le_of_ble_eq_true rfl) rfl rfl tw1200 rfl rfl dX8_load_17 ?_
  refine J_aload_n (pc := 20) hc dX8_load_20 rfl rfl ?_
  refine J_bipush (pc := 21) (v := 16) hc dX8_load_21 (by decide) ?_
  refine J_callVv (pc := 23) hc clX8 (As := [((0, .int 16) : TV)]) (KX8_begins x0 16) dX8_load_23 moX8_begins rfl tw1155 tw1157 twp46 tw9 tw1158 rfl (Nat.le_of_ble_eq_true rfl) (Nat.le_of_ble_eq_true rfl) (Nat.le_of_ble_eq_true rfl) (Nat.le_of_ble_eq_true rfl) (Nat.le_of_ble_eq_true rfl) rfl (fun _ => ?_)
  refine J_aload_n (pc := 26) hc dX8_load_26 rfl rfl ?_
  refine J_callVv (pc := 27) hc clX8 (As := []) (KX8_advances x0) dX8_load_27 moX8_advances rfl tw1612 tw1614 twp92 tw9 tw1615 rfl (Nat.le_of_ble_eq_true rfl) (Nat.le_of_ble_eq_true rfl) (Nat.le_of_ble_eq_true rfl) (Nat.le_of_ble_eq_true rfl) (Nat.le_of_ble_eq_true rfl) rfl (fun _ => ?_)
  refine J_aload_n (pc := 30) hc dX8_load_30 rfl rfl ?_
  refine J_callVi (pc := 31) hc clX8 (As := []) (KX8_wordHere x0) dX8_load_31 moX8_wordHere rfl tw1623 tw1625 twp94 tw9 tw1626 rfl (Nat.le_of_ble_eq_true rfl) (Nat.le_of_ble_eq_true rfl) (Nat.le_of_ble_eq_true rfl) (Nat.le_of_ble_eq_true rfl) (Nat.le_of_ble_eq_true rfl) rfl (fun v8 => ?_)
  refine J_iconst (pc := 34) (v := 5) hc dX8_load_34 (by decide) ?_
  refine J_icmp_ne (pc := 35) (tgt := 78) hc dX8_load_35 (by decide) ?_ ?_
  · refine J_sub (l' := [some ((8, .ref x0) : TV), none]) ⟨rfl, trivial⟩ ?_
    exact jX8_load_L78 hc he fu x0
  · refine J_aload_n (pc := 38) hc dX8_load_38 rfl rfl ?_
    refine J_callVv (pc := 39) hc clX8 (As := []) (KX8_goesOn x0) dX8_load_39 moX8_goesOn rfl tw1627 tw1629 twp95 tw9 tw1630 rfl (Nat.le_of_ble_eq_true rfl) (Nat.le_of_ble_eq_true rfl) (Nat.le_of_ble_eq_true rfl) (Nat.le_of_ble_eq_true rfl) (Nat.le_of_ble_eq_true rfl) rfl (fun _ => ?_)
    refine J_aload_n (pc := 42) hc dX8_load_42 rfl rfl ?_
    refine J_bipush (pc := 43) (v := 8) hc dX8_load_43 (by decide) ?_
    refine J_bipush (pc := 45) (v := 40) hc dX8_load_45 (by decide) ?_
    refine J_callVi (pc := 47) hc clX8 (As := [((0, .int 8) : TV), ((0, .int 40) : TV)]) (KX8_reads x0 8 40) dX8_load_47 moX8_reads rfl tw1631 tw1633 twp96 tw9 tw1634 rfl (Nat.le_of_ble_eq_true rfl) (Nat.le_of_ble_eq_true rfl) (Nat.le_of_ble_eq_true rfl) (Nat.le_of_ble_eq_true rfl) (Nat.le_of_ble_eq_true rfl) rfl (fun v9 => ?_)
    refine J_istore_n (pc := 50) (l' := [some ((8, .ref x0) : TV), some ((0, .int v9) : TV)]) hc dX8_load_50 rfl (by decide) rfl rfl ?_
    refine J_aload_n (pc := 51) hc dX8_load_51 rfl rfl ?_
    refine J_aload_n (pc := 52) hc dX8_load_52 rfl rfl ?_
    refine J_getI (pc := 53) hc clX8 (k := 35) (Nat.le_of_ble_eq_true rfl) rfl tw1197 rfl dX8_load_53 (fun v10 => ?_)
    refine J_iconst (pc := 56) (v := 4) hc dX8_load_56 (by decide) ?_
    refine J_icmp_ne (pc := 57) (tgt := 64) hc dX8_load_57 (by decide) ?_ ?_
    · refine J_iconst (pc := 64) (v := 0) hc dX8_load_64 (by decide) ?_
      refine J_sub (l' := [some ((8, .ref x0) : TV), some ((0, .int v9) : TV)]) ⟨rfl, ⟨rfl, trivial⟩⟩ ?_
      exact jX8_load_L65 hc he x0 v9 0 x0
    · refine J_iconst (pc := 60) (v := 1) hc dX8_load_60 (by decide) ?_
      refine J_goto (pc := 61) (tgt := 65) hc dX8_load_61 (by decide) ?_
      refine J_sub (l' := [some ((8, .ref x0) : TV), some ((0, .int v9) : TV)]) ⟨rfl, ⟨rfl, trivial⟩⟩ ?_
      exact jX8_load_L65 hc he x0 v9 1 x0
theorem moX8_load : MOk yX8_load 0 := ⟨by decide +kernel, by decide +kernel, by decide +kernel⟩
set_option maxRecDepth 100000 in
set_option maxHeartbeats 4000000 in
theorem KX8_load (x0 : Nat) : Ct wI yX8_load cX8_load 2 (some .int) 9 0 0 192 [((8, .ref x0) : TV)] (fX8_load x0) :=
  Ct_I (j := 1) (by decide +kernel) rfl rfl (Nat.le_of_ble_eq_true rfl) (fun κ fin hc he => jX8_load hc he x0)
set_option maxRecDepth 100000 in
set_option maxHeartbeats 4000000 in
theorem jX8_errorCode {κ : Cx} {fin : Int32 → Mm → Prop} (hc : Jc κ RX8 cX8_errorCode 1 0 0 0 0) (he : Ed κ cX8_errorCode 0 0 wI .ireturn fin) (x0 : Nat) : Jg κ (wM κ) 1 fin 0 0 0 [some ((8, .ref x0) : TV)] [] (fX8_errorCode x0) := by
  unfold fX8_errorCode
  refine J_aload_n (pc := 0) hc dX8_errorCode_0 rfl rfl ?_
  refine J_iconst (pc := 1) (v := 0) hc dX8_errorCode_1 (by decide) ?_
  refine J_putI (pc := 2) hc clX8 (k := 0) (Nat.le_of_ble_eq_true rfl) rfl rfl tw1162 rfl rfl dX8_errorCode_2 ?_
  refine J_aload_n (pc := 5) hc dX8_errorCode_5 rfl rfl ?_
  refine J_getI (pc := 6) hc clX8 (k := 37) (Nat.le_of_ble_eq_true rfl) rfl tw1199 rfl dX8_errorCode_6 (fun v1 => ?_)
  exact J_iret (pc := 9) he dX8_errorCode_9
theorem moX8_errorCode : MOk yX8_errorCode 0 := ⟨by decide +kernel, by decide +kernel, by decide +kernel⟩
set_option maxRecDepth 100000 in
set_option maxHeartbeats 4000000 in
theorem KX8_errorCode (x0 : Nat) : Ct wI yX8_errorCode cX8_errorCode 1 (some .int) 0 0 0 0 [((8, .ref x0) : TV)] (fX8_errorCode x0) :=
  Ct_I (j := 0) (by decide +kernel) rfl rfl (Nat.le_of_ble_eq_true rfl) (fun κ fin hc he => jX8_errorCode hc he x0)
set_option maxRecDepth 100000 in
set_option maxHeartbeats 4000000 in
theorem jX8_errorPosition {κ : Cx} {fin : Int32 → Mm → Prop} (hc : Jc κ RX8 cX8_errorPosition 1 0 0 0 0) (he : Ed κ cX8_errorPosition 0 0 wI .ireturn fin) (x0 : Nat) : Jg κ (wM κ) 1 fin 0 0 0 [some ((8, .ref x0) : TV)] [] (fX8_errorPosition x0) := by
  unfold fX8_errorPosition
  refine J_aload_n (pc := 0) hc dX8_errorPosition_0 rfl rfl ?_
  refine J_iconst (pc := 1) (v := 0) hc dX8_errorPosition_1 (by decide) ?_
  refine J_putI (pc := 2) hc clX8 (k := 0) (Nat.le_of_ble_eq_true rfl) rfl rfl tw1162 rfl rfl dX8_errorPosition_2 ?_
  refine J_aload_n (pc := 5) hc dX8_errorPosition_5 rfl rfl ?_
  refine J_getI (pc := 6) hc clX8 (k := 38) (Nat.le_of_ble_eq_true rfl) rfl tw1200 rfl dX8_errorPosition_6 (fun v1 => ?_)
  exact J_iret (pc := 9) he dX8_errorPosition_9
theorem moX8_errorPosition : MOk yX8_errorPosition 0 := ⟨by decide +kernel, by decide +kernel, by decide +kernel⟩
set_option maxRecDepth 100000 in
set_option maxHeartbeats 4000000 in
theorem KX8_errorPosition (x0 : Nat) : Ct wI yX8_errorPosition cX8_errorPosition 1 (some .int) 0 0 0 0 [((8, .ref x0) : TV)] (fX8_errorPosition x0) :=
  Ct_I (j := 0) (by decide +kernel) rfl rfl (Nat.le_of_ble_eq_true rfl) (fun κ fin hc he => jX8_errorPosition hc he x0)
set_option maxRecDepth 100000 in
set_option maxHeartbeats 4000000 in
theorem jX8_prints {κ : Cx} {fin : Unit → Mm → Prop} (hc : Jc κ RX8 cX8_prints 2 0 0 0 0) (he : Ed κ cX8_prints 0 0 wV .return_ fin) (x0 : Nat) (x1 : Int32) : Jg κ (wM κ) 2 fin 0 0 0 [some ((8, .ref x0) : TV), some ((0, .int x1) : TV)] [] (fX8_prints x0 x1) := by
  unfold fX8_prints
  refine J_aload_n (pc := 0) hc dX8_prints_0 rfl rfl ?_
  refine J_getA (pc := 1) hc clX8 (k := 40) (kd := 10) (Nat.le_of_ble_eq_true rfl) rfl (Nat.le_of_ble_eq_true rfl) (Nat.le_of_ble_eq_true rfl) tw1202 rfl dX8_prints_1 (fun v1 => ?_)
  refine J_aload_n (pc := 4) hc dX8_prints_4 rfl rfl ?_
  refine J_getI (pc := 5) hc clX8 (k := 41) (Nat.le_of_ble_eq_true rfl) rfl tw1203 rfl dX8_prints_5 (fun v2 => ?_)
  refine J_iload_n (pc := 8) hc dX8_prints_8 rfl rfl ?_
  refine J_i2bN (pc := 9) hc dX8_prints_9 ?_
  refine J_bast (pc := 10) hc dX8_prints_10 ?_
  refine J_aload_n (pc := 11) hc dX8_prints_11 rfl rfl ?_
  refine J_dup (pc := 12) hc dX8_prints_12 rfl ?_
  refine J_getI (pc := 13) hc clX8 (k := 41) (Nat.le_of_ble_eq_true rfl) rfl tw1203 rfl dX8_prints_13 (fun v3 => ?_)
  refine J_iconst (pc := 16) (v := 1) hc dX8_prints_16 (by decide) ?_
  refine J_iadd (pc := 17) hc dX8_prints_17 ?_
  refine J_putI (pc := 18) hc clX8 (k := 41) (Nat.le_of_ble_eq_true rfl) rfl rfl tw1203 rfl rfl dX8_prints_18 ?_
  exact J_vret (pc := 21) he dX8_prints_21
theorem moX8_prints : MOk yX8_prints 1 := ⟨by decide +kernel, by decide +kernel, by decide +kernel⟩
set_option maxRecDepth 100000 in
set_option maxHeartbeats 4000000 in
theorem KX8_prints (x0 : Nat) (x1 : Int32) : Ct wV yX8_prints cX8_prints 2 none 0 0 0 0 [((8, .ref x0) : TV), ((0, .int x1) : TV)] (fX8_prints x0 x1) :=
  Ct_V (j := 0) (by decide +kernel) rfl rfl (Nat.le_of_ble_eq_true rfl) (fun κ fin hc he hin => jX8_prints hc he x0 x1)
set_option maxRecDepth 100000 in
set_option maxHeartbeats 4000000 in
theorem jX8_printsWord_L33 {κ : Cx} {fin : Unit → Mm → Prop} (hc : Jc κ RX8 cX8_printsWord 4 1 0 0 21) (he : Ed κ cX8_printsWord 0 0 wV .return_ fin) : ∀ (n : Nat) (x0 : Nat) (x2 : Int32), Jg κ (wM κ) 4 fin 0 0 33 [some ((8, .ref x0) : TV), none, some ((0, .int x2) : TV), none] [] (fX8_printsWord_L33 n x0 x2) := by
  intro n
  induction n with
  | zero => intro x0 x2; exact J_fail
  | succ n ih =>
    intro x0 x2
    unfold fX8_printsWord_L33
    refine J_aload_n (pc := 33) hc dX8_printsWord_33 rfl rfl ?_
    refine J_getA (pc := 34) hc clX8 (k := 39) (kd := 10) (Nat.le_of_ble_eq_true rfl) rfl (Nat.le_of_ble_eq_true rfl) (Nat.le_of_ble_eq_true rfl) tw1201 rfl dX8_printsWord_34 (fun v1 => ?_)
    refine J_iload_n (pc := 37) hc dX8_printsWord_37 rfl rfl ?_
    refine J_bald (pc := 38) hc dX8_printsWord_38 (fun v2 => ?_)
    refine J_bipush (pc := 39) (v := 32) hc dX8_printsWord_39 (by decide) ?_
    refine J_icmp_eq (pc := 41) (tgt := 60) hc dX8_printsWord_41 (by decide) ?_ ?_
    · exact J_vret (pc := 60) he dX8_printsWord_60
    · refine J_aload_n (pc := 44) hc dX8_printsWord_44 rfl rfl ?_
      refine J_aload_n (pc := 45) hc dX8_printsWord_45 rfl rfl ?_
      refine J_getA (pc := 46) hc clX8 (k := 39) (kd := 10) (Nat.le_of_ble_eq_true rfl) rfl (Nat.le_of_ble_eq_true rfl) (Nat.le_of_ble_eq_true rfl) tw1201 rfl dX8_printsWord_46 (fun v3 => ?_)
      refine J_iload_n (pc := 49) hc dX8_printsWord_49 rfl rfl ?_
      refine J_bald (pc := 50) hc dX8_printsWord_50 (fun v4 => ?_)
      refine J_callVv (pc := 51) hc clX8 (As := [((0, .int v4) : TV)]) (KX8_prints x0 v4) dX8_printsWord_51 moX8_prints rfl tw1699 tw1701 twp110 tw9 tw1702 rfl (Nat.le_of_ble_eq_true rfl) (Nat.le_of_ble_eq_true rfl) (Nat.le_of_ble_eq_true rfl) (Nat.le_of_ble_eq_true rfl) (Nat.le_of_ble_eq_true rfl) rfl (fun _ => ?_)
      refine J_iinc (pc := 54) (v := x2 + 1) (l' := [some ((8, .ref x0) : TV), none, some ((0, .int (x2 + 1)) : TV), none]) hc dX8_printsWord_54 rfl rfl (by decide) rfl rfl ?_
      refine J_goto (pc := 57) (tgt := 33) hc dX8_printsWord_57 (by decide) ?_
      refine J_sub (l' := [some ((8, .ref x0) : TV), none, some ((0, .int (x2 + 1)) : TV), none]) ⟨rfl, ⟨rfl, trivial⟩⟩ ?_
      exact ih x0 (x2 + 1)
set_option maxRecDepth 100000 in
set_option maxHeartbeats 4000000 in
theorem jX8_printsWord_L25 {κ : Cx} {fin : Unit → Mm → Prop} (hc : Jc κ RX8 cX8_printsWord 4 1 0 0 21) (he : Ed κ cX8_printsWord 0 0 wV .return_ fin) {k4 : Nat → Int32 → Int32 → Mm → Option (Unit × Mm)} (hk4 : ∀ (x0 : Nat) (x2 : Int32) (x3 : Int32), Jg κ (wM κ) 4 fin 0 0 4 [some ((8, .ref x0) : TV), none, some ((0, .int x2) : TV), some ((0, .int x3) : TV)] [] (k4 x0 x2 x3)) (x0 : Nat) (x2 : Int32) (s0 : Int32) (s1 : Int32) : Jg κ (wM κ) 4 fin 0 0 25 [some ((8, .ref x0) : TV), none, some ((0, .int x2) : TV), none] [((0, .int s0) : TV), ((0, .int s1) : TV)] (fX8_printsWord_L25 k4 x0 x2 s0 s1) := by
  unfold fX8_printsWord_L25
  refine J_isub (pc := 25) hc dX8_printsWord_25 ?_
  refine J_nmi (fun v5 => ?_)
  refine J_istore_n (pc := 26) (l' := [some ((8, .ref x0) : TV), none, some ((0, .int x2) : TV), some ((0, .int v5) : TV)]) hc dX8_printsWord_26 rfl (by decide) rfl rfl ?_
  refine J_iinc (pc := 27) (v := x2 + 1) (l' := [some ((8, .ref x0) : TV), none, some ((0, .int (x2 + 1)) : TV), some ((0, .int v5) : TV)]) hc dX8_printsWord_27 rfl rfl (by decide) rfl rfl ?_
  refine J_goto (pc := 30) (tgt := 4) hc dX8_printsWord_30 (by decide) ?_
  refine J_sub (l' := [some ((8, .ref x0) : TV), none, some ((0, .int (x2 + 1)) : TV), some ((0, .int v5) : TV)]) ⟨rfl, ⟨rfl, ⟨rfl, trivial⟩⟩⟩ ?_
  exact hk4 x0 (x2 + 1) v5
set_option maxRecDepth 100000 in
set_option maxHeartbeats 4000000 in
theorem jX8_printsWord_L4 {κ : Cx} {fin : Unit → Mm → Prop} (hc : Jc κ RX8 cX8_printsWord 4 1 0 0 21) (he : Ed κ cX8_printsWord 0 0 wV .return_ fin) : ∀ (n : Nat) (x0 : Nat) (x2 : Int32) (x3 : Int32), Jg κ (wM κ) 4 fin 0 0 4 [some ((8, .ref x0) : TV), none, some ((0, .int x2) : TV), some ((0, .int x3) : TV)] [] (fX8_printsWord_L4 n x0 x2 x3) := by
  intro n
  induction n with
  | zero => intro x0 x2 x3; exact J_fail
  | succ n ih =>
    intro x0 x2 x3
    unfold fX8_printsWord_L4
    refine J_iload_n (pc := 4) hc dX8_printsWord_4 rfl rfl ?_
    refine J_if_le (pc := 5) (tgt := 33) hc dX8_printsWord_5 (by decide) ?_ ?_
    · refine J_sub (l' := [some ((8, .ref x0) : TV), none, some ((0, .int x2) : TV), none]) ⟨rfl, ⟨rfl, trivial⟩⟩ ?_
      exact jX8_printsWord_L33 hc he fu x0 x2
    · refine J_iload_n (pc := 8) hc dX8_printsWord_8 rfl rfl ?_
      refine J_aload_n (pc := 9) hc dX8_printsWord_9 rfl rfl ?_
      refine J_getA (pc := 10) hc clX8 (k := 39) (kd := 10) (Nat.le_of_ble_eq_true rfl) rfl (Nat.le_of_ble_eq_true rfl) (Nat.le_of_ble_eq_true rfl) tw1201 rfl dX8_printsWord_10 (fun v6 => ?_)
      refine J_iload_n (pc := 13) hc dX8_printsWord_13 rfl rfl ?_
      refine J_bald (pc := 14) hc dX8_printsWord_14 (fun v7 => ?_)
      refine J_bipush (pc := 15) (v := 32) hc dX8_printsWord_15 (by decide) ?_
      refine J_icmp_ne (pc := 17) (tgt := 24) hc dX8_printsWord_17 (by decide) ?_ ?_
      · refine J_iconst (pc := 24) (v := 0) hc dX8_printsWord_24 (by decide) ?_
        refine J_sub (l' := [some ((8, .ref x0) : TV), none, some ((0, .int x2) : TV), none]) ⟨rfl, ⟨rfl, trivial⟩⟩ ?_
        exact jX8_printsWord_L25 hc he ih x0 x2 0 x3
      · refine J_iconst (pc := 20) (v := 1) hc dX8_printsWord_20 (by decide) ?_
        refine J_goto (pc := 21) (tgt := 25) hc dX8_printsWord_21 (by decide) ?_
        refine J_sub (l' := [some ((8, .ref x0) : TV), none, some ((0, .int x2) : TV), none]) ⟨rfl, ⟨rfl, trivial⟩⟩ ?_
        exact jX8_printsWord_L25 hc he ih x0 x2 1 x3
set_option maxRecDepth 100000 in
set_option maxHeartbeats 4000000 in
theorem jX8_printsWord {κ : Cx} {fin : Unit → Mm → Prop} (hc : Jc κ RX8 cX8_printsWord 4 1 0 0 21) (he : Ed κ cX8_printsWord 0 0 wV .return_ fin) (x0 : Nat) (x1 : Int32) : Jg κ (wM κ) 4 fin 0 0 0 [some ((8, .ref x0) : TV), some ((0, .int x1) : TV), none, none] [] (fX8_printsWord x0 x1) := by
  unfold fX8_printsWord
  refine J_iconst (pc := 0) (v := 0) hc dX8_printsWord_0 (by decide) ?_
  refine J_istore_n (pc := 1) (l' := [some ((8, .ref x0) : TV), some ((0, .int x1) : TV), some ((0, .int 0) : TV), none]) hc dX8_printsWord_1 rfl (by decide) rfl rfl ?_
  refine J_iload_n (pc := 2) hc dX8_printsWord_2 rfl rfl ?_
  refine J_istore_n (pc := 3) (l' := [some ((8, .ref x0) : TV), some ((0, .int x1) : TV), some ((0, .int 0) : TV), some ((0, .int x1) : TV)]) hc dX8_printsWord_3 rfl (by decide) rfl rfl ?_
  refine J_sub (l' := [some ((8, .ref x0) : TV), none, some ((0, .int 0) : TV), some ((0, .int x1) : TV)]) ⟨rfl, ⟨rfl, ⟨rfl, trivial⟩⟩⟩ ?_
  exact jX8_printsWord_L4 hc he fu x0 0 x1
theorem moX8_printsWord : MOk yX8_printsWord 1 := ⟨by decide +kernel, by decide +kernel, by decide +kernel⟩
set_option maxRecDepth 100000 in
set_option maxHeartbeats 4000000 in
theorem KX8_printsWord (x0 : Nat) (x1 : Int32) : Ct wV yX8_printsWord cX8_printsWord 4 none 1 0 0 21 [((8, .ref x0) : TV), ((0, .int x1) : TV)] (fX8_printsWord x0 x1) :=
  Ct_V (j := 2) (by decide +kernel) rfl rfl (Nat.le_of_ble_eq_true rfl) (fun κ fin hc he hin => jX8_printsWord hc he x0 x1)
set_option maxRecDepth 100000 in
set_option maxHeartbeats 4000000 in
theorem jX8_printsNumber_L38 {κ : Cx} {fin : Unit → Mm → Prop} (hc : Jc κ RX8 cX8_printsNumber 3 1 0 0 21) (he : Ed κ cX8_printsNumber 0 0 wV .return_ fin) (x0 : Nat) (x2 : Int32) : Jg κ (wM κ) 3 fin 0 0 38 [some ((8, .ref x0) : TV), none, some ((0, .int x2) : TV)] [] (fX8_printsNumber_L38 x0 x2) := by
  unfold fX8_printsNumber_L38
  refine J_aload_n (pc := 38) hc dX8_printsNumber_38 rfl rfl ?_
  refine J_bipush (pc := 39) (v := 48) hc dX8_printsNumber_39 (by decide) ?_
  refine J_iload_n (pc := 41) hc dX8_printsNumber_41 rfl rfl ?_
  refine J_bipush (pc := 42) (v := 10) hc dX8_printsNumber_42 (by decide) ?_
  refine J_iremC (pc := 44) hc dX8_printsNumber_44 (by decide) ?_
  refine J_iadd (pc := 45) hc dX8_printsNumber_45 ?_
  refine J_callVv (pc := 46) hc clX8 (As := [((0, .int (48 + (x2 - x2 / 10 * 10))) : TV)]) (KX8_prints x0 (48 + (x2 - x2 / 10 * 10))) dX8_printsNumber_46 moX8_prints rfl tw1699 tw1701 twp110 tw9 tw1702 rfl (Nat.le_of_ble_eq_true rfl) (Nat.le_of_ble_eq_true rfl) (Nat.le_of_ble_eq_true rfl) (Nat.le_of_ble_eq_true rfl) (Nat.le_of_ble_eq_true rfl) rfl (fun _ => ?_)
  exact J_vret (pc := 49) he dX8_printsNumber_49
set_option maxRecDepth 100000 in
set_option maxHeartbeats 4000000 in
theorem jX8_printsNumber_L20 {κ : Cx} {fin : Unit → Mm → Prop} (hc : Jc κ RX8 cX8_printsNumber 3 1 0 0 21) (he : Ed κ cX8_printsNumber 0 0 wV .return_ fin) (x0 : Nat) (s0 : Int32) : Jg κ (wM κ) 3 fin 0 0 20 [some ((8, .ref x0) : TV), none, none] [((0, .int s0) : TV)] (fX8_printsNumber_L20 x0 s0) := by
  unfold fX8_printsNumber_L20
  refine J_istore_n (pc := 20) (l' := [some ((8, .ref x0) : TV), none, some ((0, .int s0) : TV)]) hc dX8_printsNumber_20 rfl (by decide) rfl rfl ?_
  refine J_iload_n (pc := 21) hc dX8_printsNumber_21 rfl rfl ?_
  refine J_bipush (pc := 22) (v := 10) hc dX8_printsNumber_22 (by decide) ?_
  refine J_icmp_lt (pc := 24) (tgt := 38) hc dX8_printsNumber_24 (by decide) ?_ ?_
  · refine J_sub (l' := [some ((8, .ref x0) : TV), none, some ((0, .int s0) : TV)]) ⟨rfl, ⟨rfl, trivial⟩⟩ ?_
    exact jX8_printsNumber_L38 hc he x0 s0
  · refine J_aload_n (pc := 27) hc dX8_printsNumber_27 rfl rfl ?_
    refine J_bipush (pc := 28) (v := 48) hc dX8_printsNumber_28 (by decide) ?_
    refine J_iload_n (pc := 30) hc dX8_printsNumber_30 rfl rfl ?_
    refine J_bipush (pc := 31) (v := 10) hc dX8_printsNumber_31 (by decide) ?_
    refine J_idivC (pc := 33) hc dX8_printsNumber_33 (by decide) ?_
    refine J_iadd (pc := 34) hc dX8_printsNumber_34 ?_
    refine J_callVv (pc := 35) hc clX8 (As := [((0, .int (48 + (s0 / 10))) : TV)]) (KX8_prints x0 (48 + (s0 / 10))) dX8_printsNumber_35 moX8_prints rfl tw1699 tw1701 twp110 tw9 tw1702 rfl (Nat.le_of_ble_eq_true rfl) (Nat.le_of_ble_eq_true rfl) (Nat.le_of_ble_eq_true rfl) (Nat.le_of_ble_eq_true rfl) (Nat.le_of_ble_eq_true rfl) rfl (fun _ => ?_)
    refine J_sub (l' := [some ((8, .ref x0) : TV), none, some ((0, .int s0) : TV)]) ⟨rfl, ⟨rfl, trivial⟩⟩ ?_
    exact jX8_printsNumber_L38 hc he x0 s0
set_option maxRecDepth 100000 in
set_option maxHeartbeats 4000000 in
theorem jX8_printsNumber_L10 {κ : Cx} {fin : Unit → Mm → Prop} (hc : Jc κ RX8 cX8_printsNumber 3 1 0 0 21) (he : Ed κ cX8_printsNumber 0 0 wV .return_ fin) (x0 : Nat) (x1 : Int32) : Jg κ (wM κ) 3 fin 0 0 10 [some ((8, .ref x0) : TV), some ((0, .int x1) : TV), none] [] (fX8_printsNumber_L10 x0 x1) := by
  unfold fX8_printsNumber_L10
  refine J_iload_n (pc := 10) hc dX8_printsNumber_10 rfl rfl ?_
  refine J_if_ge (pc := 11) (tgt := 19) hc dX8_printsNumber_11 (by decide) ?_ ?_
  · refine J_iload_n (pc := 19) hc dX8_printsNumber_19 rfl rfl ?_
    refine J_sub (l' := [some ((8, .ref x0) : TV), none, none]) ⟨rfl, trivial⟩ ?_
    exact jX8_printsNumber_L20 hc he x0 x1
  · refine J_iload_n (pc := 14) hc dX8_printsNumber_14 rfl rfl ?_
    refine J_ineg (pc := 15) hc dX8_printsNumber_15 ?_
    refine J_goto (pc := 16) (tgt := 20) hc dX8_printsNumber_16 (by decide) ?_
    refine J_sub (l' := [some ((8, .ref x0) : TV), none, none]) ⟨rfl, trivial⟩ ?_
    exact jX8_printsNumber_L20 hc he x0 (-x1)
set_option maxRecDepth 100000 in
set_option maxHeartbeats 4000000 in
theorem jX8_printsNumber {κ : Cx} {fin : Unit → Mm → Prop} (hc : Jc κ RX8 cX8_printsNumber 3 1 0 0 21) (he : Ed κ cX8_printsNumber 0 0 wV .return_ fin) (x0 : Nat) (x1 : Int32) : Jg κ (wM κ) 3 fin 0 0 0 [some ((8, .ref x0) : TV), some ((0, .int x1) : TV), none] [] (fX8_printsNumber x0 x1) := by
  unfold fX8_printsNumber
  refine J_iload_n (pc := 0) hc dX8_printsNumber_0 rfl rfl ?_
  refine J_if_ge (pc := 1) (tgt := 10) hc dX8_printsNumber_1 (by decide) ?_ ?_
  · refine J_sub (l' := [some ((8, .ref x0) : TV), some ((0, .int x1) : TV), none]) ⟨rfl, ⟨rfl, trivial⟩⟩ ?_
    exact jX8_printsNumber_L10 hc he x0 x1
  · refine J_aload_n (pc := 4) hc dX8_printsNumber_4 rfl rfl ?_
    refine J_bipush (pc := 5) (v := 45) hc dX8_printsNumber_5 (by decide) ?_
    refine J_callVv (pc := 7) hc clX8 (As := [((0, .int 45) : TV)]) (KX8_prints x0 45) dX8_printsNumber_7 moX8_prints rfl tw1699 tw1701 twp110 tw9 tw1702 rfl (Nat.le_of_ble_eq_true rfl) (Nat.le_of_ble_eq_true rfl) (Nat.le_of_ble_eq_true rfl) (Nat.le_of_ble_eq_true rfl) (Nat.le_of_ble_eq_true rfl) rfl (fun _ => ?_)
    refine J_sub (l' := [some ((8, .ref x0) : TV), some ((0, .int x1) : TV), none]) ⟨rfl, ⟨rfl, trivial⟩⟩ ?_
    exact jX8_printsNumber_L10 hc he x0 x1
theorem moX8_printsNumber : MOk yX8_printsNumber 1 := ⟨by decide +kernel, by decide +kernel, by decide +kernel⟩
set_option maxRecDepth 100000 in
set_option maxHeartbeats 4000000 in
theorem KX8_printsNumber (x0 : Nat) (x1 : Int32) : Ct wV yX8_printsNumber cX8_printsNumber 3 none 1 0 0 21 [((8, .ref x0) : TV), ((0, .int x1) : TV)] (fX8_printsNumber x0 x1) :=
  Ct_V (j := 1) (by decide +kernel) rfl rfl (Nat.le_of_ble_eq_true rfl) (fun κ fin hc he hin => jX8_printsNumber hc he x0 x1)
set_option maxRecDepth 100000 in
set_option maxHeartbeats 4000000 in
theorem jX8_printsMode_L60 {κ : Cx} {fin : Unit → Mm → Prop} (hc : Jc κ RX8 cX8_printsMode 2 2 0 0 43) (he : Ed κ cX8_printsMode 0 0 wV .return_ fin) (x0 : Nat) (x1 : Int32) : Jg κ (wM κ) 2 fin 0 0 60 [some ((8, .ref x0) : TV), some ((0, .int x1) : TV)] [] (fX8_printsMode_L60 x0 x1) := by
  unfold fX8_printsMode_L60
  refine J_aload_n (pc := 60) hc dX8_printsMode_60 rfl rfl ?_
  refine J_getA (pc := 61) hc clX8 (k := 10) (kd := 11) (Nat.le_of_ble_eq_true rfl) rfl (Nat.le_of_ble_eq_true rfl) (Nat.le_of_ble_eq_true rfl) tw1172 rfl dX8_printsMode_61 (fun v1 => ?_)
  refine J_iload_n (pc := 64) hc dX8_printsMode_64 rfl rfl ?_
  refine J_iald (pc := 65) hc dX8_printsMode_65 (fun v2 => ?_)
  refine J_iconst (pc := 66) (v := 2) hc dX8_printsMode_66 (by decide) ?_
  refine J_icmp_ne (pc := 67) (tgt := 86) hc dX8_printsMode_67 (by decide) ?_ ?_
  · exact J_vret (pc := 86) he dX8_printsMode_86
  · refine J_aload_n (pc := 70) hc dX8_printsMode_70 rfl rfl ?_
    refine J_bipush (pc := 71) (v := 32) hc dX8_printsMode_71 (by decide) ?_
    refine J_callVv (pc := 73) hc clX8 (As := [((0, .int 32) : TV)]) (KX8_prints x0 32) dX8_printsMode_73 moX8_prints rfl tw1699 tw1701 twp110 tw9 tw1702 rfl (Nat.le_of_ble_eq_true rfl) (Nat.le_of_ble_eq_true rfl) (Nat.le_of_ble_eq_true rfl) (Nat.le_of_ble_eq_true rfl) (Nat.le_of_ble_eq_true rfl) rfl (fun _ => ?_)
    refine J_aload_n (pc := 76) hc dX8_printsMode_76 rfl rfl ?_
    refine J_aload_n (pc := 77) hc dX8_printsMode_77 rfl rfl ?_
    refine J_getA (pc := 78) hc clX8 (k := 12) (kd := 11) (Nat.le_of_ble_eq_true rfl) rfl (Nat.le_of_ble_eq_true rfl) (Nat.le_of_ble_eq_true rfl) tw1174 rfl dX8_printsMode_78 (fun v3 => ?_)
    refine J_iload_n (pc := 81) hc dX8_printsMode_81 rfl rfl ?_
    refine J_iald (pc := 82) hc dX8_printsMode_82 (fun v4 => ?_)
    refine J_callVv (pc := 83) hc clX8 (As := [((0, .int v4) : TV)]) (KX8_printsNumber x0 v4) dX8_printsMode_83 moX8_printsNumber rfl tw1703 tw1705 twp111 tw9 tw1706 rfl (Nat.le_of_ble_eq_true rfl) (Nat.le_of_ble_eq_true rfl) (Nat.le_of_ble_eq_true rfl) (Nat.le_of_ble_eq_true rfl) (Nat.le_of_ble_eq_true rfl) rfl (fun _ => ?_)
    exact J_vret (pc := 86) he dX8_printsMode_86
set_option maxRecDepth 100000 in
set_option maxHeartbeats 4000000 in
theorem jX8_printsMode_L38 {κ : Cx} {fin : Unit → Mm → Prop} (hc : Jc κ RX8 cX8_printsMode 2 2 0 0 43) (he : Ed κ cX8_printsMode 0 0 wV .return_ fin) (x0 : Nat) (x1 : Int32) (s0 : Int32) (s1 : Nat) : Jg κ (wM κ) 2 fin 0 0 38 [some ((8, .ref x0) : TV), some ((0, .int x1) : TV)] [((0, .int s0) : TV), ((8, .ref s1) : TV)] (fX8_printsMode_L38 x0 x1 s0 s1) := by
  unfold fX8_printsMode_L38
  refine J_callVv (pc := 38) hc clX8 (As := [((0, .int s0) : TV)]) (KX8_prints s1 s0) dX8_printsMode_38 moX8_prints rfl tw1699 tw1701 twp110 tw9 tw1702 rfl (Nat.le_of_ble_eq_true rfl) (Nat.le_of_ble_eq_true rfl) (Nat.le_of_ble_eq_true rfl) (Nat.le_of_ble_eq_true rfl) (Nat.le_of_ble_eq_true rfl) rfl (fun _ => ?_)
  refine J_aload_n (pc := 41) hc dX8_printsMode_41 rfl rfl ?_
  refine J_getA (pc := 42) hc clX8 (k := 10) (kd := 11) (Nat.le_of_ble_eq_true rfl) rfl (Nat.le_of_ble_eq_true rfl) (Nat.le_of_ble_eq_true rfl) tw1172 rfl dX8_printsMode_42 (fun v5 => ?_)
  refine J_iload_n (pc := 45) hc dX8_printsMode_45 rfl rfl ?_
  refine J_iald (pc := 46) hc dX8_printsMode_46 (fun v6 => ?_)
  refine J_if_eq (pc := 47) (tgt := 60) hc dX8_printsMode_47 (by decide) ?_ ?_
  · refine J_sub (l' := [some ((8, .ref x0) : TV), some ((0, .int x1) : TV)]) ⟨rfl, ⟨rfl, trivial⟩⟩ ?_
    exact jX8_printsMode_L60 hc he x0 x1
  · refine J_aload_n (pc := 50) hc dX8_printsMode_50 rfl rfl ?_
    refine J_aload_n (pc := 51) hc dX8_printsMode_51 rfl rfl ?_
    refine J_getA (pc := 52) hc clX8 (k := 11) (kd := 11) (Nat.le_of_ble_eq_true rfl) rfl (Nat.le_of_ble_eq_true rfl) (Nat.le_of_ble_eq_true rfl) tw1173 rfl dX8_printsMode_52 (fun v7 => ?_)
    refine J_iload_n (pc := 55) hc dX8_printsMode_55 rfl rfl ?_
    refine J_iald (pc := 56) hc dX8_printsMode_56 (fun v8 => ?_)
    refine J_callVv (pc := 57) hc clX8 (As := [((0, .int v8) : TV)]) (KX8_printsNumber x0 v8) dX8_printsMode_57 moX8_printsNumber rfl tw1703 tw1705 twp111 tw9 tw1706 rfl (Nat.le_of_ble_eq_true rfl) (Nat.le_of_ble_eq_true rfl) (Nat.le_of_ble_eq_true rfl) (Nat.le_of_ble_eq_true rfl) (Nat.le_of_ble_eq_true rfl) rfl (fun _ => ?_)
    refine J_sub (l' := [some ((8, .ref x0) : TV), some ((0, .int x1) : TV)]) ⟨rfl, ⟨rfl, trivial⟩⟩ ?_
    exact jX8_printsMode_L60 hc he x0 x1
set_option maxRecDepth 100000 in
set_option maxHeartbeats 4000000 in
theorem jX8_printsMode {κ : Cx} {fin : Unit → Mm → Prop} (hc : Jc κ RX8 cX8_printsMode 2 2 0 0 43) (he : Ed κ cX8_printsMode 0 0 wV .return_ fin) (x0 : Nat) (x1 : Int32) : Jg κ (wM κ) 2 fin 0 0 0 [some ((8, .ref x0) : TV), some ((0, .int x1) : TV)] [] (fX8_printsMode x0 x1) := by
  unfold fX8_printsMode
  refine J_aload_n (pc := 0) hc dX8_printsMode_0 rfl rfl ?_
  refine J_bipush (pc := 1) (v := 32) hc dX8_printsMode_1 (by decide) ?_
  refine J_callVv (pc := 3) hc clX8 (As := [((0, .int 32) : TV)]) (KX8_prints x0 32) dX8_printsMode_3 moX8_prints rfl tw1699 tw1701 twp110 tw9 tw1702 rfl (Nat.le_of_ble_eq_true rfl) (Nat.le_of_ble_eq_true rfl) (Nat.le_of_ble_eq_true rfl) (Nat.le_of_ble_eq_true rfl) (Nat.le_of_ble_eq_true rfl) rfl (fun _ => ?_)
  refine J_aload_n (pc := 6) hc dX8_printsMode_6 rfl rfl ?_
  refine J_aload_n (pc := 7) hc dX8_printsMode_7 rfl rfl ?_
  refine J_getA (pc := 8) hc clX8 (k := 10) (kd := 11) (Nat.le_of_ble_eq_true rfl) rfl (Nat.le_of_ble_eq_true rfl) (Nat.le_of_ble_eq_true rfl) tw1172 rfl dX8_printsMode_8 (fun v9 => ?_)
  refine J_iload_n (pc := 11) hc dX8_printsMode_11 rfl rfl ?_
  refine J_iald (pc := 12) hc dX8_printsMode_12 (fun v10 => ?_)
  refine J_if_ne (pc := 13) (tgt := 21) hc dX8_printsMode_13 (by decide) ?_ ?_
  · refine J_aload_n (pc := 21) hc dX8_printsMode_21 rfl rfl ?_
    refine J_getA (pc := 22) hc clX8 (k := 10) (kd := 11) (Nat.le_of_ble_eq_true rfl) rfl (Nat.le_of_ble_eq_true rfl) (Nat.le_of_ble_eq_true rfl) tw1172 rfl dX8_printsMode_22 (fun v11 => ?_)
    refine J_iload_n (pc := 25) hc dX8_printsMode_25 rfl rfl ?_
    refine J_iald (pc := 26) hc dX8_printsMode_26 (fun v12 => ?_)
    refine J_iconst (pc := 27) (v := 1) hc dX8_printsMode_27 (by decide) ?_
    refine J_icmp_ne (pc := 28) (tgt := 36) hc dX8_printsMode_28 (by decide) ?_ ?_
    · refine J_bipush (pc := 36) (v := 104) hc dX8_printsMode_36 (by decide) ?_
      refine J_sub (l' := [some ((8, .ref x0) : TV), some ((0, .int x1) : TV)]) ⟨rfl, ⟨rfl, trivial⟩⟩ ?_
      exact jX8_printsMode_L38 hc he x0 x1 104 x0
    · refine J_bipush (pc := 31) (v := 118) hc dX8_printsMode_31 (by decide) ?_
      refine J_goto (pc := 33) (tgt := 38) hc dX8_printsMode_33 (by decide) ?_
      refine J_sub (l' := [some ((8, .ref x0) : TV), some ((0, .int x1) : TV)]) ⟨rfl, ⟨rfl, trivial⟩⟩ ?_
      exact jX8_printsMode_L38 hc he x0 x1 118 x0
  · refine J_bipush (pc := 16) (v := 112) hc dX8_printsMode_16 (by decide) ?_
    refine J_goto (pc := 18) (tgt := 38) hc dX8_printsMode_18 (by decide) ?_
    refine J_sub (l' := [some ((8, .ref x0) : TV), some ((0, .int x1) : TV)]) ⟨rfl, ⟨rfl, trivial⟩⟩ ?_
    exact jX8_printsMode_L38 hc he x0 x1 112 x0
theorem moX8_printsMode : MOk yX8_printsMode 1 := ⟨by decide +kernel, by decide +kernel, by decide +kernel⟩
set_option maxRecDepth 100000 in
set_option maxHeartbeats 4000000 in
theorem KX8_printsMode (x0 : Nat) (x1 : Int32) : Ct wV yX8_printsMode cX8_printsMode 2 none 2 0 0 43 [((8, .ref x0) : TV), ((0, .int x1) : TV)] (fX8_printsMode x0 x1) :=
  Ct_V (j := 0) (by decide +kernel) rfl rfl (Nat.le_of_ble_eq_true rfl) (fun κ fin hc he hin => jX8_printsMode hc he x0 x1)
set_option maxRecDepth 100000 in
set_option maxHeartbeats 4000000 in
theorem jX8_write_L116 {κ : Cx} {fin : Int32 → Mm → Prop} (hc : Jc κ RX8 cX8_write 4 5 0 0 112) (he : Ed κ cX8_write 0 0 wI .ireturn fin) (x0 : Nat) : Jg κ (wM κ) 4 fin 0 0 116 [some ((8, .ref x0) : TV), none, none, none] [] (fX8_write_L116 x0) := by
  unfold fX8_write_L116
  refine J_aload_n (pc := 116) hc dX8_write_116 rfl rfl ?_
  refine J_getI (pc := 117) hc clX8 (k := 41) (Nat.le_of_ble_eq_true rfl) rfl tw1203 rfl dX8_write_117 (fun v1 => ?_)
  exact J_iret (pc := 120) he dX8_write_120
set_option maxRecDepth 100000 in
set_option maxHeartbeats 4000000 in
theorem jX8_write_L93 {κ : Cx} {fin : Int32 → Mm → Prop} (hc : Jc κ RX8 cX8_write 4 5 0 0 112) (he : Ed κ cX8_write 0 0 wI .ireturn fin) : ∀ (n : Nat) (x0 : Nat) (x2 : Int32) (x3 : Int32), Jg κ (wM κ) 4 fin 0 0 93 [some ((8, .ref x0) : TV), none, some ((0, .int x2) : TV), some ((0, .int x3) : TV)] [] (fX8_write_L93 n x0 x2 x3) := by
  intro n
  induction n with
  | zero => intro x0 x2 x3; exact J_fail
  | succ n ih =>
    intro x0 x2 x3
    unfold fX8_write_L93
    refine J_iload_n (pc := 93) hc dX8_write_93 rfl rfl ?_
    refine J_aload_n (pc := 94) hc dX8_write_94 rfl rfl ?_
    refine J_getI (pc := 95) hc clX8 (k := 14) (Nat.le_of_ble_eq_true rfl) rfl tw1176 rfl dX8_write_95 (fun v2 => ?_)
    refine J_icmp_ge (pc := 98) (tgt := 116) hc dX8_write_98 (by decide) ?_ ?_
    · refine J_sub (l' := [some ((8, .ref x0) : TV), none, none, none]) ⟨rfl, trivial⟩ ?_
      exact jX8_write_L116 hc he x0
    · refine J_iload_n (pc := 101) hc dX8_write_101 rfl rfl ?_
      refine J_if_ne (pc := 102) (tgt := 116) hc dX8_write_102 (by decide) ?_ ?_
      · refine J_sub (l' := [some ((8, .ref x0) : TV), none, none, none]) ⟨rfl, trivial⟩ ?_
        exact jX8_write_L116 hc he x0
      · refine J_aload_n (pc := 105) hc dX8_write_105 rfl rfl ?_
        refine J_iload_n (pc := 106) hc dX8_write_106 rfl rfl ?_
        refine J_callVv (pc := 107) hc clX8 (As := [((0, .int x3) : TV)]) (KX8_printsMode x0 x3) dX8_write_107 moX8_printsMode rfl tw1707 tw1709 twp112 tw9 tw1710 rfl (Nat.le_of_ble_eq_true rfl) (Nat.le_of_ble_eq_true rfl) (Nat.le_of_ble_eq_true rfl) (Nat.le_of_ble_eq_true rfl) (Nat.le_of_ble_eq_true rfl) rfl (fun _ => ?_)
        refine J_iinc (pc := 110) (v := x3 + 1) (l' := [some ((8, .ref x0) : TV), none, some ((0, .int x2) : TV), some ((0, .int (x3 + 1)) : TV)]) hc dX8_write_110 rfl rfl (by decide) rfl rfl ?_
        refine J_goto (pc := 113) (tgt := 93) hc dX8_write_113 (by decide) ?_
        refine J_sub (l' := [some ((8, .ref x0) : TV), none, some ((0, .int x2) : TV), some ((0, .int (x3 + 1)) : TV)]) ⟨rfl, ⟨rfl, ⟨rfl, trivial⟩⟩⟩ ?_
        exact ih x0 x2 (x3 + 1)
set_option maxRecDepth 100000 in
set_option maxHeartbeats 4000000 in
theorem jX8_write_L91 {κ : Cx} {fin : Int32 → Mm → Prop} (hc : Jc κ RX8 cX8_write 4 5 0 0 112) (he : Ed κ cX8_write 0 0 wI .ireturn fin) (x0 : Nat) (x2 : Int32) : Jg κ (wM κ) 4 fin 0 0 91 [some ((8, .ref x0) : TV), none, some ((0, .int x2) : TV), none] [] (fX8_write_L91 x0 x2) := by
  unfold fX8_write_L91
  refine J_iconst (pc := 91) (v := 0) hc dX8_write_91 (by decide) ?_
  refine J_istore_n (pc := 92) (l' := [some ((8, .ref x0) : TV), none, some ((0, .int x2) : TV), some ((0, .int 0) : TV)]) hc dX8_write_92 rfl (by decide) rfl rfl ?_
  refine J_sub (l' := [some ((8, .ref x0) : TV), none, some ((0, .int x2) : TV), some ((0, .int 0) : TV)]) ⟨rfl, ⟨rfl, ⟨rfl, trivial⟩⟩⟩ ?_
  exact jX8_write_L93 hc he fu x0 x2 0
set_option maxRecDepth 100000 in
set_option maxHeartbeats 4000000 in
theorem jX8_write_L57 {κ : Cx} {fin : Int32 → Mm → Prop} (hc : Jc κ RX8 cX8_write 4 5 0 0 112) (he : Ed κ cX8_write 0 0 wI .ireturn fin) : ∀ (n : Nat) (x0 : Nat) (x2 : Int32) (x3 : Int32), Jg κ (wM κ) 4 fin 0 0 57 [some ((8, .ref x0) : TV), none, some ((0, .int x2) : TV), some ((0, .int x3) : TV)] [] (fX8_write_L57 n x0 x2 x3) := by
  intro n
  induction n with
  | zero => intro x0 x2 x3; exact J_fail
  | succ n ih =>
    intro x0 x2 x3
    unfold fX8_write_L57
    refine J_iload_n (pc := 57) hc dX8_write_57 rfl rfl ?_
    refine J_aload_n (pc := 58) hc dX8_write_58 rfl rfl ?_
    refine J_getI (pc := 59) hc clX8 (k := 19) (Nat.le_of_ble_eq_true rfl) rfl tw1181 rfl dX8_write_59 (fun v3 => ?_)
    refine J_icmp_ge (pc := 62) (tgt := 91) hc dX8_write_62 (by decide) ?_ ?_
    · refine J_sub (l' := [some ((8, .ref x0) : TV), none, some ((0, .int x2) : TV), none]) ⟨rfl, ⟨rfl, trivial⟩⟩ ?_
      exact jX8_write_L91 hc he x0 x2
    · refine J_iload_n (pc := 65) hc dX8_write_65 rfl rfl ?_
      refine J_if_eq (pc := 66) (tgt := 91) hc dX8_write_66 (by decide) ?_ ?_
      · refine J_sub (l' := [some ((8, .ref x0) : TV), none, some ((0, .int x2) : TV), none]) ⟨rfl, ⟨rfl, trivial⟩⟩ ?_
        exact jX8_write_L91 hc he x0 x2
      · refine J_aload_n (pc := 69) hc dX8_write_69 rfl rfl ?_
        refine J_bipush (pc := 70) (v := 32) hc dX8_write_70 (by decide) ?_
        refine J_callVv (pc := 72) hc clX8 (As := [((0, .int 32) : TV)]) (KX8_prints x0 32) dX8_write_72 moX8_prints rfl tw1699 tw1701 twp110 tw9 tw1702 rfl (Nat.le_of_ble_eq_true rfl) (Nat.le_of_ble_eq_true rfl) (Nat.le_of_ble_eq_true rfl) (Nat.le_of_ble_eq_true rfl) (Nat.le_of_ble_eq_true rfl) rfl (fun _ => ?_)
        refine J_aload_n (pc := 75) hc dX8_write_75 rfl rfl ?_
        refine J_aload_n (pc := 76) hc dX8_write_76 rfl rfl ?_
        refine J_getA (pc := 77) hc clX8 (k := 18) (kd := 11) (Nat.le_of_ble_eq_true rfl) rfl (Nat.le_of_ble_eq_true rfl) (Nat.le_of_ble_eq_true rfl) tw1180 rfl dX8_write_77 (fun v4 => ?_)
        refine J_iload_n (pc := 80) hc dX8_write_80 rfl rfl ?_
        refine J_iald (pc := 81) hc dX8_write_81 (fun v5 => ?_)
        refine J_callVv (pc := 82) hc clX8 (As := [((0, .int v5) : TV)]) (KX8_printsNumber x0 v5) dX8_write_82 moX8_printsNumber rfl tw1703 tw1705 twp111 tw9 tw1706 rfl (Nat.le_of_ble_eq_true rfl) (Nat.le_of_ble_eq_true rfl) (Nat.le_of_ble_eq_true rfl) (Nat.le_of_ble_eq_true rfl) (Nat.le_of_ble_eq_true rfl) rfl (fun _ => ?_)
        refine J_iinc (pc := 85) (v := x3 + 1) (l' := [some ((8, .ref x0) : TV), none, some ((0, .int x2) : TV), some ((0, .int (x3 + 1)) : TV)]) hc dX8_write_85 rfl rfl (by decide) rfl rfl ?_
        refine J_goto (pc := 88) (tgt := 57) hc dX8_write_88 (by decide) ?_
        refine J_sub (l' := [some ((8, .ref x0) : TV), none, some ((0, .int x2) : TV), some ((0, .int (x3 + 1)) : TV)]) ⟨rfl, ⟨rfl, ⟨rfl, trivial⟩⟩⟩ ?_
        exact ih x0 x2 (x3 + 1)
set_option maxRecDepth 100000 in
set_option maxHeartbeats 4000000 in
theorem jX8_write_L52 {κ : Cx} {fin : Int32 → Mm → Prop} (hc : Jc κ RX8 cX8_write 4 5 0 0 112) (he : Ed κ cX8_write 0 0 wI .ireturn fin) (x0 : Nat) (x2 : Int32) (s0 : Int32) (s1 : Nat) : Jg κ (wM κ) 4 fin 0 0 52 [some ((8, .ref x0) : TV), none, some ((0, .int x2) : TV), none] [((0, .int s0) : TV), ((8, .ref s1) : TV)] (fX8_write_L52 x0 x2 s0 s1) := by
  unfold fX8_write_L52
  refine J_callVv (pc := 52) hc clX8 (As := [((0, .int s0) : TV)]) (KX8_printsWord s1 s0) dX8_write_52 moX8_printsWord rfl tw1695 tw1697 twp109 tw9 tw1698 rfl (Nat.le_of_ble_eq_true rfl) (Nat.le_of_ble_eq_true rfl) (Nat.le_of_ble_eq_true rfl) (Nat.le_of_ble_eq_true rfl) (Nat.le_of_ble_eq_true rfl) rfl (fun _ => ?_)
  refine J_iconst (pc := 55) (v := 0) hc dX8_write_55 (by decide) ?_
  refine J_istore_n (pc := 56) (l' := [some ((8, .ref x0) : TV), none, some ((0, .int x2) : TV), some ((0, .int 0) : TV)]) hc dX8_write_56 rfl (by decide) rfl rfl ?_
  refine J_sub (l' := [some ((8, .ref x0) : TV), none, some ((0, .int x2) : TV), some ((0, .int 0) : TV)]) ⟨rfl, ⟨rfl, ⟨rfl, trivial⟩⟩⟩ ?_
  exact jX8_write_L57 hc he fu x0 x2 0
set_option maxRecDepth 100000 in
set_option maxHeartbeats 4000000 in
theorem jX8_write_L14 {κ : Cx} {fin : Int32 → Mm → Prop} (hc : Jc κ RX8 cX8_write 4 5 0 0 112) (he : Ed κ cX8_write 0 0 wI .ireturn fin) (x0 : Nat) (x1 : Int32) (s0 : Int32) (s1 : Nat) : Jg κ (wM κ) 4 fin 0 0 14 [some ((8, .ref x0) : TV), some ((0, .int x1) : TV), none, none] [((0, .int s0) : TV), ((8, .ref s1) : TV)] (fX8_write_L14 x0 x1 s0 s1) := by
  unfold fX8_write_L14
  refine J_putI (pc := 14) hc clX8 (k := 0) (Nat.le_of_ble_eq_true rfl) rfl rfl tw1162 rfl rfl dX8_write_14 ?_
  refine J_aload_n (pc := 17) hc dX8_write_17 rfl rfl ?_
  refine J_getI (pc := 18) hc clX8 (k := 0) (Nat.le_of_ble_eq_true rfl) rfl tw1162 rfl dX8_write_18 (fun v6 => ?_)
  refine J_if_le (pc := 21) (tgt := 26) hc dX8_write_21 (by decide) ?_ ?_
  · refine J_aload_n (pc := 26) hc dX8_write_26 rfl rfl ?_
    refine J_iload_n (pc := 27) hc dX8_write_27 rfl rfl ?_
    refine J_callVi (pc := 28) hc clX8 (As := [((0, .int x1) : TV)]) (KX8_isMark x0 x1) dX8_write_28 moX8_isMark rfl tw1320 tw1322 twp51 tw9 tw1323 rfl (Nat.le_of_ble_eq_true rfl) (Nat.le_of_ble_eq_true rfl) (Nat.le_of_ble_eq_true rfl) (Nat.le_of_ble_eq_true rfl) (Nat.le_of_ble_eq_true rfl) rfl (fun v7 => ?_)
    refine J_istore_n (pc := 31) (l' := [some ((8, .ref x0) : TV), some ((0, .int x1) : TV), some ((0, .int v7) : TV), none]) hc dX8_write_31 rfl (by decide) rfl rfl ?_
    refine J_aload_n (pc := 32) hc dX8_write_32 rfl rfl ?_
    refine J_iload_n (pc := 33) hc dX8_write_33 rfl rfl ?_
    refine J_callVv (pc := 34) hc clX8 (As := [((0, .int x1) : TV)]) (KX8_codesLine x0 x1) dX8_write_34 moX8_codesLine rfl tw1324 tw1326 twp52 tw9 tw1327 rfl (Nat.le_of_ble_eq_true rfl) (Nat.le_of_ble_eq_true rfl) (Nat.le_of_ble_eq_true rfl) (Nat.le_of_ble_eq_true rfl) (Nat.le_of_ble_eq_true rfl) rfl (fun _ => ?_)
    refine J_aload_n (pc := 37) hc dX8_write_37 rfl rfl ?_
    refine J_iconst (pc := 38) (v := 0) hc dX8_write_38 (by decide) ?_
    refine J_putI (pc := 39) hc clX8 (k := 41) (Nat.le_of_ble_eq_true rfl) rfl rfl tw1203 rfl rfl dX8_write_39 ?_
    refine J_aload_n (pc := 42) hc dX8_write_42 rfl rfl ?_
    refine J_iload_n (pc := 43) hc dX8_write_43 rfl rfl ?_
    refine J_if_eq (pc := 44) (tgt := 51) hc dX8_write_44 (by decide) ?_ ?_
    · refine J_iconst (pc := 51) (v := 2) hc dX8_write_51 (by decide) ?_
      refine J_sub (l' := [some ((8, .ref x0) : TV), none, some ((0, .int v7) : TV), none]) ⟨rfl, ⟨rfl, trivial⟩⟩ ?_
      exact jX8_write_L52 hc he x0 v7 2 x0
    · refine J_iconst (pc := 47) (v := 1) hc dX8_write_47 (by decide) ?_
      refine J_goto (pc := 48) (tgt := 52) hc dX8_write_48 (by decide) ?_
      refine J_sub (l' := [some ((8, .ref x0) : TV), none, some ((0, .int v7) : TV), none]) ⟨rfl, ⟨rfl, trivial⟩⟩ ?_
      exact jX8_write_L52 hc he x0 v7 1 x0
  · refine J_iconst (pc := 24) (v := 0) hc dX8_write_24 (by decide) ?_
    exact J_iret (pc := 25) he dX8_write_25
set_option maxRecDepth 100000 in
set_option maxHeartbeats 4000000 in
theorem jX8_write {κ : Cx} {fin : Int32 → Mm → Prop} (hc : Jc κ RX8 cX8_write 4 5 0 0 112) (he : Ed κ cX8_write 0 0 wI .ireturn fin) (x0 : Nat) (x1 : Int32) : Jg κ (wM κ) 4 fin 0 0 0 [some ((8, .ref x0) : TV), some ((0, .int x1) : TV), none, none] [] (fX8_write x0 x1) := by
  unfold fX8_write
  refine J_aload_n (pc := 0) hc dX8_write_0 rfl rfl ?_
  refine J_aload_n (pc := 1) hc dX8_write_1 rfl rfl ?_
  refine J_iload_n (pc := 2) hc dX8_write_2 rfl rfl ?_
  refine J_callVi (pc := 3) hc clX8 (As := [((0, .int x1) : TV)]) (KX8_isLine x0 x1) dX8_write_3 moX8_isLine rfl tw1390 tw1392 twp66 tw9 tw1393 rfl (Nat.le_of_ble_eq_true rfl) (Nat.le_of_ble_eq_true rfl) (Nat.le_of_ble_eq_true rfl) (Nat.le_of_ble_eq_true rfl) (Nat.le_of_ble_eq_true rfl) rfl (fun v8 => ?_)
  refine J_if_eq (pc := 6) (tgt := 13) hc dX8_write_6 (by decide) ?_ ?_
  · refine J_iconst (pc := 13) (v := 1) hc dX8_write_13 (by decide) ?_
    refine J_sub (l' := [some ((8, .ref x0) : TV), some ((0, .int x1) : TV), none, none]) ⟨rfl, ⟨rfl, trivial⟩⟩ ?_
    exact jX8_write_L14 hc he x0 x1 1 x0
  · refine J_iconst (pc := 9) (v := 0) hc dX8_write_9 (by decide) ?_
    refine J_goto (pc := 10) (tgt := 14) hc dX8_write_10 (by decide) ?_
    refine J_sub (l' := [some ((8, .ref x0) : TV), some ((0, .int x1) : TV), none, none]) ⟨rfl, ⟨rfl, trivial⟩⟩ ?_
    exact jX8_write_L14 hc he x0 x1 0 x0
theorem moX8_write : MOk yX8_write 1 := ⟨by decide +kernel, by decide +kernel, by decide +kernel⟩
set_option maxRecDepth 100000 in
set_option maxHeartbeats 4000000 in
theorem KX8_write (x0 : Nat) (x1 : Int32) : Ct wI yX8_write cX8_write 4 (some .int) 5 0 0 112 [((8, .ref x0) : TV), ((0, .int x1) : TV)] (fX8_write x0 x1) :=
  Ct_I (j := 2) (by decide +kernel) rfl rfl (Nat.le_of_ble_eq_true rfl) (fun κ fin hc he => jX8_write hc he x0 x1)
set_option maxRecDepth 100000 in
set_option maxHeartbeats 4000000 in
theorem jX8_show_L101 {κ : Cx} {fin : Int32 → Mm → Prop} (hc : Jc κ RX8 cX8_show 3 9 0 0 200) (he : Ed κ cX8_show 0 0 wI .ireturn fin) (x0 : Nat) : Jg κ (wM κ) 3 fin 0 0 101 [some ((8, .ref x0) : TV), none, none] [] (fX8_show_L101 x0) := by
  unfold fX8_show_L101
  refine J_aload_n (pc := 101) hc dX8_show_101 rfl rfl ?_
  refine J_getI (pc := 102) hc clX8 (k := 41) (Nat.le_of_ble_eq_true rfl) rfl tw1203 rfl dX8_show_102 (fun v1 => ?_)
  exact J_iret (pc := 105) he dX8_show_105
set_option maxRecDepth 100000 in
set_option maxHeartbeats 4000000 in
theorem jX8_show_L70 {κ : Cx} {fin : Int32 → Mm → Prop} (hc : Jc κ RX8 cX8_show 3 9 0 0 200) (he : Ed κ cX8_show 0 0 wI .ireturn fin) {k37 : Nat → Int32 → Int32 → Mm → Option (Int32 × Mm)} (hk37 : ∀ (x0 : Nat) (x1 : Int32) (x2 : Int32), Jg κ (wM κ) 3 fin 0 0 37 [some ((8, .ref x0) : TV), some ((0, .int x1) : TV), some ((0, .int x2) : TV)] [] (k37 x0 x1 x2)) (x0 : Nat) (x1 : Int32) (x2 : Int32) (s0 : Int32) (s1 : Nat) : Jg κ (wM κ) 3 fin 0 0 70 [some ((8, .ref x0) : TV), some ((0, .int x1) : TV), some ((0, .int x2) : TV)] [((0, .int s0) : TV), ((8, .ref s1) : TV)] (fX8_show_L70 k37 x0 x1 x2 s0 s1) := by
  unfold fX8_show_L70
  refine J_callVv (pc := 70) hc clX8 (As := [((0, .int s0) : TV)]) (KX8_prints s1 s0) dX8_show_70 moX8_prints rfl tw1699 tw1701 twp110 tw9 tw1702 rfl (Nat.le_of_ble_eq_true rfl) (Nat.le_of_ble_eq_true rfl) (Nat.le_of_ble_eq_true rfl) (Nat.le_of_ble_eq_true rfl) (Nat.le_of_ble_eq_true rfl) rfl (fun _ => ?_)
  refine J_iinc (pc := 73) (v := x2 + 1) (l' := [some ((8, .ref x0) : TV), some ((0, .int x1) : TV), some ((0, .int (x2 + 1)) : TV)]) hc dX8_show_73 rfl rfl (by decide) rfl rfl ?_
  refine J_goto (pc := 76) (tgt := 37) hc dX8_show_76 (by decide) ?_
  refine J_sub (l' := [some ((8, .ref x0) : TV), some ((0, .int x1) : TV), some ((0, .int (x2 + 1)) : TV)]) ⟨rfl, ⟨rfl, ⟨rfl, trivial⟩⟩⟩ ?_
  exact hk37 x0 x1 (x2 + 1)
set_option maxRecDepth 100000 in
set_option maxHeartbeats 4000000 in
theorem jX8_show_L37 {κ : Cx} {fin : Int32 → Mm → Prop} (hc : Jc κ RX8 cX8_show 3 9 0 0 200) (he : Ed κ cX8_show 0 0 wI .ireturn fin) : ∀ (n : Nat) (x0 : Nat) (x1 : Int32) (x2 : Int32), Jg κ (wM κ) 3 fin 0 0 37 [some ((8, .ref x0) : TV), some ((0, .int x1) : TV), some ((0, .int x2) : TV)] [] (fX8_show_L37 n x0 x1 x2) := by
  intro n
  induction n with
  | zero => intro x0 x1 x2; exact J_fail
  | succ n ih =>
    intro x0 x1 x2
    unfold fX8_show_L37
    refine J_iload_n (pc := 37) hc dX8_show_37 rfl rfl ?_
    refine J_aload_n (pc := 38) hc dX8_show_38 rfl rfl ?_
    refine J_getA (pc := 39) hc clX8 (k := 1) (kd := 11) (Nat.le_of_ble_eq_true rfl) rfl (Nat.le_of_ble_eq_true rfl) (Nat.le_of_ble_eq_true rfl) tw1163 rfl dX8_show_39 (fun v2 => ?_)
    refine J_iconst (pc := 42) (v := 0) hc dX8_show_42 (by decide) ?_
    refine J_iald (pc := 43) hc dX8_show_43 (fun v3 => ?_)
    refine J_icmp_ge (pc := 44) (tgt := 79) hc dX8_show_44 (by decide) ?_ ?_
    · refine J_aload_n (pc := 79) hc dX8_show_79 rfl rfl ?_
      refine J_getA (pc := 80) hc clX8 (k := 21) (kd := 11) (Nat.le_of_ble_eq_true rfl) rfl (Nat.le_of_ble_eq_true rfl) (Nat.le_of_ble_eq_true rfl) tw1183 rfl dX8_show_80 (fun v4 => ?_)
      refine J_iload_n (pc := 83) hc dX8_show_83 rfl rfl ?_
      refine J_iald (pc := 84) hc dX8_show_84 (fun v5 => ?_)
      refine J_if_le (pc := 85) (tgt := 101) hc dX8_show_85 (by decide) ?_ ?_
      · refine J_sub (l' := [some ((8, .ref x0) : TV), none, none]) ⟨rfl, trivial⟩ ?_
        exact jX8_show_L101 hc he x0
      · refine J_aload_n (pc := 88) hc dX8_show_88 rfl rfl ?_
        refine J_bipush (pc := 89) (v := 48) hc dX8_show_89 (by decide) ?_
        refine J_aload_n (pc := 91) hc dX8_show_91 rfl rfl ?_
        refine J_getA (pc := 92) hc clX8 (k := 21) (kd := 11) (Nat.le_of_ble_eq_true rfl) rfl (Nat.le_of_ble_eq_true rfl) (Nat.le_of_ble_eq_true rfl) tw1183 rfl dX8_show_92 (fun v6 => ?_)
        refine J_iload_n (pc := 95) hc dX8_show_95 rfl rfl ?_
        refine J_iald (pc := 96) hc dX8_show_96 (fun v7 => ?_)
        refine J_iadd (pc := 97) hc dX8_show_97 ?_
        refine J_callVv (pc := 98) hc clX8 (As := [((0, .int (48 + v7)) : TV)]) (KX8_prints x0 (48 + v7)) dX8_show_98 moX8_prints rfl tw1699 tw1701 twp110 tw9 tw1702 rfl (Nat.le_of_ble_eq_true rfl) (Nat.le_of_ble_eq_true rfl) (Nat.le_of_ble_eq_true rfl) (Nat.le_of_ble_eq_true rfl) (Nat.le_of_ble_eq_true rfl) rfl (fun _ => ?_)
        refine J_sub (l' := [some ((8, .ref x0) : TV), none, none]) ⟨rfl, trivial⟩ ?_
        exact jX8_show_L101 hc he x0
    · refine J_aload_n (pc := 47) hc dX8_show_47 rfl rfl ?_
      refine J_aload_n (pc := 48) hc dX8_show_48 rfl rfl ?_
      refine J_getA (pc := 49) hc clX8 (k := 20) (kd := 11) (Nat.le_of_ble_eq_true rfl) rfl (Nat.le_of_ble_eq_true rfl) (Nat.le_of_ble_eq_true rfl) tw1182 rfl dX8_show_49 (fun v8 => ?_)
      refine J_bipush (pc := 52) (v := 40) hc dX8_show_52 (by decide) ?_
      refine J_iload_n (pc := 54) hc dX8_show_54 rfl rfl ?_
      refine J_imul (pc := 55) hc dX8_show_55 ?_
      refine J_iload_n (pc := 56) hc dX8_show_56 rfl rfl ?_
      refine J_iadd (pc := 57) hc dX8_show_57 ?_
      refine J_iald (pc := 58) hc dX8_show_58 (fun v9 => ?_)
      refine J_iconst (pc := 59) (v := 1) hc dX8_show_59 (by decide) ?_
      refine J_icmp_ne (pc := 60) (tgt := 68) hc dX8_show_60 (by decide) ?_ ?_
      · refine J_bipush (pc := 68) (v := 46) hc dX8_show_68 (by decide) ?_
        refine J_sub (l' := [some ((8, .ref x0) : TV), some ((0, .int x1) : TV), some ((0, .int x2) : TV)]) ⟨rfl, ⟨rfl, ⟨rfl, trivial⟩⟩⟩ ?_
        exact jX8_show_L70 hc he ih x0 x1 x2 46 x0
      · refine J_bipush (pc := 63) (v := 35) hc dX8_show_63 (by decide) ?_
        refine J_goto (pc := 65) (tgt := 70) hc dX8_show_65 (by decide) ?_
        refine J_sub (l' := [some ((8, .ref x0) : TV), some ((0, .int x1) : TV), some ((0, .int x2) : TV)]) ⟨rfl, ⟨rfl, ⟨rfl, trivial⟩⟩⟩ ?_
        exact jX8_show_L70 hc he ih x0 x1 x2 35 x0
set_option maxRecDepth 100000 in
set_option maxHeartbeats 4000000 in
theorem jX8_show_L14 {κ : Cx} {fin : Int32 → Mm → Prop} (hc : Jc κ RX8 cX8_show 3 9 0 0 200) (he : Ed κ cX8_show 0 0 wI .ireturn fin) (x0 : Nat) (x1 : Int32) (s0 : Int32) (s1 : Nat) : Jg κ (wM κ) 3 fin 0 0 14 [some ((8, .ref x0) : TV), some ((0, .int x1) : TV), none] [((0, .int s0) : TV), ((8, .ref s1) : TV)] (fX8_show_L14 x0 x1 s0 s1) := by
  unfold fX8_show_L14
  refine J_putI (pc := 14) hc clX8 (k := 0) (Nat.le_of_ble_eq_true rfl) rfl rfl tw1162 rfl rfl dX8_show_14 ?_
  refine J_aload_n (pc := 17) hc dX8_show_17 rfl rfl ?_
  refine J_getI (pc := 18) hc clX8 (k := 0) (Nat.le_of_ble_eq_true rfl) rfl tw1162 rfl dX8_show_18 (fun v10 => ?_)
  refine J_if_le (pc := 21) (tgt := 26) hc dX8_show_21 (by decide) ?_ ?_
  · refine J_aload_n (pc := 26) hc dX8_show_26 rfl rfl ?_
    refine J_callVv (pc := 27) hc clX8 (As := []) (KX8_sendsPage x0) dX8_show_27 moX8_sendsPage rfl tw1524 tw1526 twp81 tw9 tw1527 rfl (Nat.le_of_ble_eq_true rfl) (Nat.le_of_ble_eq_true rfl) (Nat.le_of_ble_eq_true rfl) (Nat.le_of_ble_eq_true rfl) (Nat.le_of_ble_eq_true rfl) rfl (fun _ => ?_)
    refine J_aload_n (pc := 30) hc dX8_show_30 rfl rfl ?_
    refine J_iconst (pc := 31) (v := 0) hc dX8_show_31 (by decide) ?_
    refine J_putI (pc := 32) hc clX8 (k := 41) (Nat.le_of_ble_eq_true rfl) rfl rfl tw1203 rfl rfl dX8_show_32 ?_
    refine J_iconst (pc := 35) (v := 0) hc dX8_show_35 (by decide) ?_
    refine J_istore_n (pc := 36) (l' := [some ((8, .ref x0) : TV), some ((0, .int x1) : TV), some ((0, .int 0) : TV)]) hc dX8_show_36 rfl (by decide) rfl rfl ?_
    refine J_sub (l' := [some ((8, .ref x0) : TV), some ((0, .int x1) : TV), some ((0, .int 0) : TV)]) ⟨rfl, ⟨rfl, ⟨rfl, trivial⟩⟩⟩ ?_
    exact jX8_show_L37 hc he fu x0 x1 0
  · refine J_iconst (pc := 24) (v := 0) hc dX8_show_24 (by decide) ?_
    exact J_iret (pc := 25) he dX8_show_25
set_option maxRecDepth 100000 in
set_option maxHeartbeats 4000000 in
theorem jX8_show {κ : Cx} {fin : Int32 → Mm → Prop} (hc : Jc κ RX8 cX8_show 3 9 0 0 200) (he : Ed κ cX8_show 0 0 wI .ireturn fin) (x0 : Nat) (x1 : Int32) : Jg κ (wM κ) 3 fin 0 0 0 [some ((8, .ref x0) : TV), some ((0, .int x1) : TV), none] [] (fX8_show x0 x1) := by
  unfold fX8_show
  refine J_aload_n (pc := 0) hc dX8_show_0 rfl rfl ?_
  refine J_aload_n (pc := 1) hc dX8_show_1 rfl rfl ?_
  refine J_iload_n (pc := 2) hc dX8_show_2 rfl rfl ?_
  refine J_callVi (pc := 3) hc clX8 (As := [((0, .int x1) : TV)]) (KX8_isLine x0 x1) dX8_show_3 moX8_isLine rfl tw1390 tw1392 twp66 tw9 tw1393 rfl (Nat.le_of_ble_eq_true rfl) (Nat.le_of_ble_eq_true rfl) (Nat.le_of_ble_eq_true rfl) (Nat.le_of_ble_eq_true rfl) (Nat.le_of_ble_eq_true rfl) rfl (fun v11 => ?_)
  refine J_if_eq (pc := 6) (tgt := 13) hc dX8_show_6 (by decide) ?_ ?_
  · refine J_iconst (pc := 13) (v := 1) hc dX8_show_13 (by decide) ?_
    refine J_sub (l' := [some ((8, .ref x0) : TV), some ((0, .int x1) : TV), none]) ⟨rfl, ⟨rfl, trivial⟩⟩ ?_
    exact jX8_show_L14 hc he x0 x1 1 x0
  · refine J_iconst (pc := 9) (v := 0) hc dX8_show_9 (by decide) ?_
    refine J_goto (pc := 10) (tgt := 14) hc dX8_show_10 (by decide) ?_
    refine J_sub (l' := [some ((8, .ref x0) : TV), some ((0, .int x1) : TV), none]) ⟨rfl, ⟨rfl, trivial⟩⟩ ?_
    exact jX8_show_L14 hc he x0 x1 0 x0
theorem moX8_show : MOk yX8_show 1 := ⟨by decide +kernel, by decide +kernel, by decide +kernel⟩
set_option maxRecDepth 100000 in
set_option maxHeartbeats 4000000 in
theorem KX8_show (x0 : Nat) (x1 : Int32) : Ct wI yX8_show cX8_show 3 (some .int) 9 0 0 200 [((8, .ref x0) : TV), ((0, .int x1) : TV)] (fX8_show x0 x1) :=
  Ct_I (j := 1) (by decide +kernel) rfl rfl (Nat.le_of_ble_eq_true rfl) (fun κ fin hc he => jX8_show hc he x0 x1)
set_option maxRecDepth 100000 in
set_option maxHeartbeats 4000000 in
theorem jX8_output {κ : Cx} {fin : Int32 → Mm → Prop} (hc : Jc κ RX8 cX8_output 2 1 0 0 22) (he : Ed κ cX8_output 0 0 wI .ireturn fin) (x0 : Nat) (x1 : Int32) : Jg κ (wM κ) 2 fin 0 0 0 [some ((8, .ref x0) : TV), some ((0, .int x1) : TV)] [] (fX8_output x0 x1) := by
  unfold fX8_output
  refine J_aload_n (pc := 0) hc dX8_output_0 rfl rfl ?_
  refine J_iconst (pc := 1) (v := 0) hc dX8_output_1 (by decide) ?_
  refine J_putI (pc := 2) hc clX8 (k := 0) (Nat.le_of_ble_eq_true rfl) rfl rfl tw1162 rfl rfl dX8_output_2 ?_
  refine J_iload_n (pc := 5) hc dX8_output_5 rfl rfl ?_
  refine J_iconst (pc := 6) (v := 0) hc dX8_output_6 (by decide) ?_
  refine J_aload_n (pc := 7) hc dX8_output_7 rfl rfl ?_
  refine J_getI (pc := 8) hc clX8 (k := 41) (Nat.le_of_ble_eq_true rfl) rfl tw1203 rfl dX8_output_8 (fun v1 => ?_)
  refine J_iconst (pc := 11) (v := 1) hc dX8_output_11 (by decide) ?_
  refine J_isub (pc := 12) hc dX8_output_12 ?_
  refine J_callSi (pc := 13) hc (As := [((0, .int x1) : TV), ((0, .int 0) : TV), ((0, .int (v1 - 1)) : TV)]) (KX8_in x1 0 (v1 - 1)) dX8_output_13 moX8_in tw1298 tw1299 tw9 tw1300 rfl (Nat.le_of_ble_eq_true rfl) (Nat.le_of_ble_eq_true rfl) (Nat.le_of_ble_eq_true rfl) (Nat.le_of_ble_eq_true rfl) (Nat.le_of_ble_eq_true rfl) rfl (fun v2 => ?_)
  refine J_if_eq (pc := 16) (tgt := 28) hc dX8_output_16 (by decide) ?_ ?_
  · refine J_iconst (pc := 28) (v := (-1)) hc dX8_output_28 (by decide) ?_
    exact J_iret (pc := 29) he dX8_output_29
  · refine J_aload_n (pc := 19) hc dX8_output_19 rfl rfl ?_
    refine J_getA (pc := 20) hc clX8 (k := 40) (kd := 10) (Nat.le_of_ble_eq_true rfl) rfl (Nat.le_of_ble_eq_true rfl) (Nat.le_of_ble_eq_true rfl) tw1202 rfl dX8_output_20 (fun v3 => ?_)
    refine J_iload_n (pc := 23) hc dX8_output_23 rfl rfl ?_
    refine J_bald (pc := 24) hc dX8_output_24 (fun v4 => ?_)
    refine J_goto (pc := 25) (tgt := 29) hc dX8_output_25 (by decide) ?_
    exact J_iret (pc := 29) he dX8_output_29
theorem moX8_output : MOk yX8_output 1 := ⟨by decide +kernel, by decide +kernel, by decide +kernel⟩
set_option maxRecDepth 100000 in
set_option maxHeartbeats 4000000 in
theorem KX8_output (x0 : Nat) (x1 : Int32) : Ct wI yX8_output cX8_output 2 (some .int) 1 0 0 22 [((8, .ref x0) : TV), ((0, .int x1) : TV)] (fX8_output x0 x1) :=
  Ct_I (j := 0) (by decide +kernel) rfl rfl (Nat.le_of_ble_eq_true rfl) (fun κ fin hc he => jX8_output hc he x0 x1)
set_option maxRecDepth 100000 in
set_option maxHeartbeats 4000000 in
theorem jX8_undo {κ : Cx} {fin : Int32 → Mm → Prop} (hc : Jc κ RX8 cX8_undo 1 1 0 0 24) (he : Ed κ cX8_undo 0 0 wI .ireturn fin) (x0 : Nat) : Jg κ (wM κ) 1 fin 0 0 0 [some ((8, .ref x0) : TV)] [] (fX8_undo x0) := by
  unfold fX8_undo
  refine J_aload_n (pc := 0) hc dX8_undo_0 rfl rfl ?_
  refine J_iconst (pc := 1) (v := 0) hc dX8_undo_1 (by decide) ?_
  refine J_putI (pc := 2) hc clX8 (k := 0) (Nat.le_of_ble_eq_true rfl) rfl rfl tw1162 rfl rfl dX8_undo_2 ?_
  refine J_aload_n (pc := 5) hc dX8_undo_5 rfl rfl ?_
  refine J_getI (pc := 6) hc clX8 (k := 4) (Nat.le_of_ble_eq_true rfl) rfl tw1166 rfl dX8_undo_6 (fun v1 => ?_)
  refine J_if_ne (pc := 9) (tgt := 14) hc dX8_undo_9 (by decide) ?_ ?_
  · refine J_aload_n (pc := 14) hc dX8_undo_14 rfl rfl ?_
    refine J_dup (pc := 15) hc dX8_undo_15 rfl ?_
    refine J_getI (pc := 16) hc clX8 (k := 4) (Nat.le_of_ble_eq_true rfl) rfl tw1166 rfl dX8_undo_16 (fun v2 => ?_)
    refine J_iconst (pc := 19) (v := 1) hc dX8_undo_19 (by decide) ?_
    refine J_isub (pc := 20) hc dX8_undo_20 ?_
    refine J_putI (pc := 21) hc clX8 (k := 4) (Nat.le_of_ble_eq_true rfl) rfl rfl tw1166 rfl rfl dX8_undo_21 ?_
    refine J_aload_n (pc := 24) hc dX8_undo_24 rfl rfl ?_
    refine J_getA (pc := 25) hc clX8 (k := 3) (kd := 11) (Nat.le_of_ble_eq_true rfl) rfl (Nat.le_of_ble_eq_true rfl) (Nat.le_of_ble_eq_true rfl) tw1165 rfl dX8_undo_25 (fun v3 => ?_)
    refine J_sipush (pc := 28) (v := 828) hc dX8_undo_28 (by decide) ?_
    refine J_aload_n (pc := 31) hc dX8_undo_31 rfl rfl ?_
    refine J_getI (pc := 32) hc clX8 (k := 4) (Nat.le_of_ble_eq_true rfl) rfl tw1166 rfl dX8_undo_32 (fun v4 => ?_)
    refine J_imul (pc := 35) hc dX8_undo_35 ?_
    refine J_aload_n (pc := 36) hc dX8_undo_36 rfl rfl ?_
    refine J_getA (pc := 37) hc clX8 (k := 1) (kd := 11) (Nat.le_of_ble_eq_true rfl) rfl (Nat.le_of_ble_eq_true rfl) (Nat.le_of_ble_eq_true rfl) tw1163 rfl dX8_undo_37 (fun v5 => ?_)
    refine J_iconst (pc := 40) (v := 0) hc dX8_undo_40 (by decide) ?_
    refine J_callSv (pc := 41) hc (As := [((11, .ref v3) : TV), ((0, .int (828 * v4)) : TV), ((11, .ref v5) : TV), ((0, .int 0) : TV)]) (KX8_copies v3 (828 * v4) v5 0) dX8_undo_41 moX8_copies tw1159 tw1160 tw9 tw1161 rfl (Nat.le_of_ble_eq_true rfl) (Nat.le_of_ble_eq_true rfl) (Nat.le_of_ble_eq_true rfl) (Nat.le_of_ble_eq_true rfl) (Nat.le_of_ble_eq_true rfl) rfl (fun _ => ?_)
    refine J_aload_n (pc := 44) hc dX8_undo_44 rfl rfl ?_
    refine J_getI (pc := 45) hc clX8 (k := 4) (Nat.le_of_ble_eq_true rfl) rfl tw1166 rfl dX8_undo_45 (fun v6 => ?_)
    exact J_iret (pc := 48) he dX8_undo_48
  · refine J_iconst (pc := 12) (v := (-1)) hc dX8_undo_12 (by decide) ?_
    exact J_iret (pc := 13) he dX8_undo_13
theorem moX8_undo : MOk yX8_undo 0 := ⟨by decide +kernel, by decide +kernel, by decide +kernel⟩
set_option maxRecDepth 100000 in
set_option maxHeartbeats 4000000 in
theorem KX8_undo (x0 : Nat) : Ct wI yX8_undo cX8_undo 1 (some .int) 1 0 0 24 [((8, .ref x0) : TV)] (fX8_undo x0) :=
  Ct_I (j := 0) (by decide +kernel) rfl rfl (Nat.le_of_ble_eq_true rfl) (fun κ fin hc he => jX8_undo hc he x0)
set_option maxRecDepth 100000 in
set_option maxHeartbeats 4000000 in
theorem jX8_save_L15 {κ : Cx} {fin : Unit → Mm → Prop} (hc : Jc κ RX8 cX8_save 2 1 0 0 24) (he : Ed κ cX8_save 0 0 wV .return_ fin) (x0 : Nat) (x1 : Int32) (s0 : Int32) (s1 : Nat) : Jg κ (wM κ) 2 fin 0 0 15 [some ((8, .ref x0) : TV), some ((0, .int x1) : TV)] [((0, .int s0) : TV), ((8, .ref s1) : TV)] (fX8_save_L15 x0 x1 s0 s1) := by
  unfold fX8_save_L15
  refine J_putI (pc := 15) hc clX8 (k := 0) (Nat.le_of_ble_eq_true rfl) rfl rfl tw1162 rfl rfl dX8_save_15 ?_
  refine J_aload_n (pc := 18) hc dX8_save_18 rfl rfl ?_
  refine J_getI (pc := 19) hc clX8 (k := 0) (Nat.le_of_ble_eq_true rfl) rfl tw1162 rfl dX8_save_19 (fun v1 => ?_)
  refine J_if_le (pc := 22) (tgt := 26) hc dX8_save_22 (by decide) ?_ ?_
  · refine J_aload_n (pc := 26) hc dX8_save_26 rfl rfl ?_
    refine J_getA (pc := 27) hc clX8 (k := 1) (kd := 11) (Nat.le_of_ble_eq_true rfl) rfl (Nat.le_of_ble_eq_true rfl) (Nat.le_of_ble_eq_true rfl) tw1163 rfl dX8_save_27 (fun v2 => ?_)
    refine J_iconst (pc := 30) (v := 0) hc dX8_save_30 (by decide) ?_
    refine J_aload_n (pc := 31) hc dX8_save_31 rfl rfl ?_
    refine J_getA (pc := 32) hc clX8 (k := 5) (kd := 11) (Nat.le_of_ble_eq_true rfl) rfl (Nat.le_of_ble_eq_true rfl) (Nat.le_of_ble_eq_true rfl) tw1167 rfl dX8_save_32 (fun v3 => ?_)
    refine J_sipush (pc := 35) (v := 828) hc dX8_save_35 (by decide) ?_
    refine J_iload_n (pc := 38) hc dX8_save_38 rfl rfl ?_
    refine J_imul (pc := 39) hc dX8_save_39 ?_
    refine J_callSv (pc := 40) hc (As := [((11, .ref v2) : TV), ((0, .int 0) : TV), ((11, .ref v3) : TV), ((0, .int (828 * x1)) : TV)]) (KX8_copies v2 0 v3 (828 * x1)) dX8_save_40 moX8_copies tw1159 tw1160 tw9 tw1161 rfl (Nat.le_of_ble_eq_true rfl) (Nat.le_of_ble_eq_true rfl) (Nat.le_of_ble_eq_true rfl) (Nat.le_of_ble_eq_true rfl) (Nat.le_of_ble_eq_true rfl) rfl (fun _ => ?_)
    refine J_aload_n (pc := 43) hc dX8_save_43 rfl rfl ?_
    refine J_getA (pc := 44) hc clX8 (k := 6) (kd := 13) (Nat.le_of_ble_eq_true rfl) rfl (Nat.le_of_ble_eq_true rfl) (Nat.le_of_ble_eq_true rfl) tw1168 rfl dX8_save_44 (fun v4 => ?_)
    refine J_iload_n (pc := 47) hc dX8_save_47 rfl rfl ?_
    refine J_iconst (pc := 48) (v := 1) hc dX8_save_48 (by decide) ?_
    refine J_zast (pc := 49) hc dX8_save_49 ?_
    exact J_vret (pc := 50) he dX8_save_50
  · exact J_vret (pc := 25) he dX8_save_25
set_option maxRecDepth 100000 in
set_option maxHeartbeats 4000000 in
theorem jX8_save {κ : Cx} {fin : Unit → Mm → Prop} (hc : Jc κ RX8 cX8_save 2 1 0 0 24) (he : Ed κ cX8_save 0 0 wV .return_ fin) (x0 : Nat) (x1 : Int32) : Jg κ (wM κ) 2 fin 0 0 0 [some ((8, .ref x0) : TV), some ((0, .int x1) : TV)] [] (fX8_save x0 x1) := by
  unfold fX8_save
  refine J_aload_n (pc := 0) hc dX8_save_0 rfl rfl ?_
  refine J_iload_n (pc := 1) hc dX8_save_1 rfl rfl ?_
  refine J_iconst (pc := 2) (v := 0) hc dX8_save_2 (by decide) ?_
  refine J_iconst (pc := 3) (v := 1) hc dX8_save_3 (by decide) ?_
  refine J_callSi (pc := 4) hc (As := [((0, .int x1) : TV), ((0, .int 0) : TV), ((0, .int 1) : TV)]) (KX8_in x1 0 1) dX8_save_4 moX8_in tw1298 tw1299 tw9 tw1300 rfl (Nat.le_of_ble_eq_true rfl) (Nat.le_of_ble_eq_true rfl) (Nat.le_of_ble_eq_true rfl) (Nat.le_of_ble_eq_true rfl) (Nat.le_of_ble_eq_true rfl) rfl (fun v5 => ?_)
  refine J_if_eq (pc := 7) (tgt := 14) hc dX8_save_7 (by decide) ?_ ?_
  · refine J_iconst (pc := 14) (v := 1) hc dX8_save_14 (by decide) ?_
    refine J_sub (l' := [some ((8, .ref x0) : TV), some ((0, .int x1) : TV)]) ⟨rfl, ⟨rfl, trivial⟩⟩ ?_
    exact jX8_save_L15 hc he x0 x1 1 x0
  · refine J_iconst (pc := 10) (v := 0) hc dX8_save_10 (by decide) ?_
    refine J_goto (pc := 11) (tgt := 15) hc dX8_save_11 (by decide) ?_
    refine J_sub (l' := [some ((8, .ref x0) : TV), some ((0, .int x1) : TV)]) ⟨rfl, ⟨rfl, trivial⟩⟩ ?_
    exact jX8_save_L15 hc he x0 x1 0 x0
theorem moX8_save : MOk yX8_save 1 := ⟨by decide +kernel, by decide +kernel, by decide +kernel⟩
set_option maxRecDepth 100000 in
set_option maxHeartbeats 4000000 in
theorem KX8_save (x0 : Nat) (x1 : Int32) : Ct wV yX8_save cX8_save 2 none 1 0 0 24 [((8, .ref x0) : TV), ((0, .int x1) : TV)] (fX8_save x0 x1) :=
  Ct_V (j := 0) (by decide +kernel) rfl rfl (Nat.le_of_ble_eq_true rfl) (fun κ fin hc he hin => jX8_save hc he x0 x1)
set_option maxRecDepth 100000 in
set_option maxHeartbeats 4000000 in
theorem jX8_restore_L28 {κ : Cx} {fin : Unit → Mm → Prop} (hc : Jc κ RX8 cX8_restore 2 1 0 0 24) (he : Ed κ cX8_restore 0 0 wV .return_ fin) (x0 : Nat) (x1 : Int32) (s0 : Int32) (s1 : Nat) : Jg κ (wM κ) 2 fin 0 0 28 [some ((8, .ref x0) : TV), some ((0, .int x1) : TV)] [((0, .int s0) : TV), ((8, .ref s1) : TV)] (fX8_restore_L28 x0 x1 s0 s1) := by
  unfold fX8_restore_L28
  refine J_putI (pc := 28) hc clX8 (k := 0) (Nat.le_of_ble_eq_true rfl) rfl rfl tw1162 rfl rfl dX8_restore_28 ?_
  refine J_aload_n (pc := 31) hc dX8_restore_31 rfl rfl ?_
  refine J_getI (pc := 32) hc clX8 (k := 0) (Nat.le_of_ble_eq_true rfl) rfl tw1162 rfl dX8_restore_32 (fun v1 => ?_)
  refine J_if_le (pc := 35) (tgt := 39) hc dX8_restore_35 (by decide) ?_ ?_
  · refine J_aload_n (pc := 39) hc dX8_restore_39 rfl rfl ?_
    refine J_getA (pc := 40) hc clX8 (k := 5) (kd := 11) (Nat.le_of_ble_eq_true rfl) rfl (Nat.le_of_ble_eq_true rfl) (Nat.le_of_ble_eq_true rfl) tw1167 rfl dX8_restore_40 (fun v2 => ?_)
    refine J_sipush (pc := 43) (v := 828) hc dX8_restore_43 (by decide) ?_
    refine J_iload_n (pc := 46) hc dX8_restore_46 rfl rfl ?_
    refine J_imul (pc := 47) hc dX8_restore_47 ?_
    refine J_aload_n (pc := 48) hc dX8_restore_48 rfl rfl ?_
    refine J_getA (pc := 49) hc clX8 (k := 1) (kd := 11) (Nat.le_of_ble_eq_true rfl) rfl (Nat.le_of_ble_eq_true rfl) (Nat.le_of_ble_eq_true rfl) tw1163 rfl dX8_restore_49 (fun v3 => ?_)
    refine J_iconst (pc := 52) (v := 0) hc dX8_restore_52 (by decide) ?_
    refine J_callSv (pc := 53) hc (As := [((11, .ref v2) : TV), ((0, .int (828 * x1)) : TV), ((11, .ref v3) : TV), ((0, .int 0) : TV)]) (KX8_copies v2 (828 * x1) v3 0) dX8_restore_53 moX8_copies tw1159 tw1160 tw9 tw1161 rfl (Nat.le_of_ble_eq_true rfl) (Nat.le_of_ble_eq_true rfl) (Nat.le_of_ble_eq_true rfl) (Nat.le_of_ble_eq_true rfl) (Nat.le_of_ble_eq_true rfl) rfl (fun _ => ?_)
    refine J_aload_n (pc := 56) hc dX8_restore_56 rfl rfl ?_
    refine J_iconst (pc := 57) (v := 0) hc dX8_restore_57 (by decide) ?_
    refine J_putI (pc := 58) hc clX8 (k := 4) (Nat.le_of_ble_eq_true rfl) rfl rfl tw1166 rfl rfl dX8_restore_58 ?_
    exact J_vret (pc := 61) he dX8_restore_61
  · exact J_vret (pc := 38) he dX8_restore_38
set_option maxRecDepth 100000 in
set_option maxHeartbeats 4000000 in
theorem jX8_restore {κ : Cx} {fin : Unit → Mm → Prop} (hc : Jc κ RX8 cX8_restore 2 1 0 0 24) (he : Ed κ cX8_restore 0 0 wV .return_ fin) (x0 : Nat) (x1 : Int32) : Jg κ (wM κ) 2 fin 0 0 0 [some ((8, .ref x0) : TV), some ((0, .int x1) : TV)] [] (fX8_restore x0 x1) := by
  unfold fX8_restore
  refine J_aload_n (pc := 0) hc dX8_restore_0 rfl rfl ?_
  refine J_iload_n (pc := 1) hc dX8_restore_1 rfl rfl ?_
  refine J_iconst (pc := 2) (v := 0) hc dX8_restore_2 (by decide) ?_
  refine J_iconst (pc := 3) (v := 1) hc dX8_restore_3 (by decide) ?_
  refine J_callSi (pc := 4) hc (As := [((0, .int x1) : TV), ((0, .int 0) : TV), ((0, .int 1) : TV)]) (KX8_in x1 0 1) dX8_restore_4 moX8_in tw1298 tw1299 tw9 tw1300 rfl (Nat.le_of_ble_eq_true rfl) (Nat.le_of_ble_eq_true rfl) (Nat.le_of_ble_eq_true rfl) (Nat.le_of_ble_eq_true rfl) (Nat.le_of_ble_eq_true rfl) rfl (fun v4 => ?_)
  refine J_if_ne (pc := 7) (tgt := 14) hc dX8_restore_7 (by decide) ?_ ?_
  · refine J_aload_n (pc := 14) hc dX8_restore_14 rfl rfl ?_
    refine J_getA (pc := 15) hc clX8 (k := 6) (kd := 13) (Nat.le_of_ble_eq_true rfl) rfl (Nat.le_of_ble_eq_true rfl) (Nat.le_of_ble_eq_true rfl) tw1168 rfl dX8_restore_15 (fun v5 => ?_)
    refine J_iload_n (pc := 18) hc dX8_restore_18 rfl rfl ?_
    refine J_zald (pc := 19) hc dX8_restore_19 (fun v6 => ?_)
    refine J_if_eq (pc := 20) (tgt := 27) hc dX8_restore_20 (by decide) ?_ ?_
    · refine J_iconst (pc := 27) (v := 2) hc dX8_restore_27 (by decide) ?_
      refine J_sub (l' := [some ((8, .ref x0) : TV), some ((0, .int x1) : TV)]) ⟨rfl, ⟨rfl, trivial⟩⟩ ?_
      exact jX8_restore_L28 hc he x0 x1 2 x0
    · refine J_iconst (pc := 23) (v := 0) hc dX8_restore_23 (by decide) ?_
      refine J_goto (pc := 24) (tgt := 28) hc dX8_restore_24 (by decide) ?_
      refine J_sub (l' := [some ((8, .ref x0) : TV), some ((0, .int x1) : TV)]) ⟨rfl, ⟨rfl, trivial⟩⟩ ?_
      exact jX8_restore_L28 hc he x0 x1 0 x0
  · refine J_iconst (pc := 10) (v := 1) hc dX8_restore_10 (by decide) ?_
    refine J_goto (pc := 11) (tgt := 28) hc dX8_restore_11 (by decide) ?_
    refine J_sub (l' := [some ((8, .ref x0) : TV), some ((0, .int x1) : TV)]) ⟨rfl, ⟨rfl, trivial⟩⟩ ?_
    exact jX8_restore_L28 hc he x0 x1 1 x0
theorem moX8_restore : MOk yX8_restore 1 := ⟨by decide +kernel, by decide +kernel, by decide +kernel⟩
set_option maxRecDepth 100000 in
set_option maxHeartbeats 4000000 in
theorem KX8_restore (x0 : Nat) (x1 : Int32) : Ct wV yX8_restore cX8_restore 2 none 1 0 0 24 [((8, .ref x0) : TV), ((0, .int x1) : TV)] (fX8_restore x0 x1) :=
  Ct_V (j := 0) (by decide +kernel) rfl rfl (Nat.le_of_ble_eq_true rfl) (fun κ fin hc he hin => jX8_restore hc he x0 x1)
