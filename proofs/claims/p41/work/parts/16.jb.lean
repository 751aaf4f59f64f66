set_option maxRecDepth 100000 in
set_option maxHeartbeats 4000000 in
theorem jX3_init {κ : Cx} {fin : Unit → Mm → Prop} (hc : Jc κ RX3 cX3_init 1 2 7 964 41) (he : Ed κ cX3_init 7 964 wV .return_ fin) (hin : Mh κ = "<init>") (x0 : Nat) : Jg κ (wM κ) 1 fin 0 0 0 [some ((3, .ref x0) : TV)] [] (fX3_init x0) := by
  unfold fX3_init
  refine J_aload_n (pc := 0) hc dX3_init_0 rfl rfl ?_
  refine J_objInit (pc := 1) hc tw107 tw43 tw44 (Nat.le_of_ble_eq_true rfl) (Nat.le_of_ble_eq_true rfl) (Nat.le_of_ble_eq_true rfl) dX3_init_1 ?_
  refine J_aload_n (pc := 4) hc dX3_init_4 rfl rfl ?_
  refine J_iconst (pc := 5) (v := 0) hc dX3_init_5 (by decide) ?_
  refine J_putI (pc := 6) hc clX3 (k := 0) (Nat.le_of_ble_eq_true rfl) rfl rfl tw174 (Or.inl rfl) rfl dX3_init_6 ?_
  refine J_aload_n (pc := 9) hc dX3_init_9 rfl rfl ?_
  refine J_iconst (pc := 10) (v := (-1)) hc dX3_init_10 (by decide) ?_
  refine J_putI (pc := 11) hc clX3 (k := 1) (Nat.le_of_ble_eq_true rfl) rfl rfl tw176 (Or.inl rfl) rfl dX3_init_11 ?_
  refine J_aload_n (pc := 14) hc dX3_init_14 rfl rfl ?_
  refine J_new (pc := 15) hc clX6 dvX6 tw108 tw109 tw6 (Nat.le_of_ble_eq_true rfl) (Nat.le_of_ble_eq_true rfl) dX3_init_15 (fun h1 => ?_)
  refine J_dup (pc := 18) hc dX3_init_18 rfl ?_
  refine J_callIv (pc := 19) hc (ci := 6) (Or.inl (Nat.le_of_ble_eq_true rfl)) (As := []) (KX6_init h1) dX3_init_19 moX6_init rfl tw110 tw111 tw6 tw112 rfl (Nat.le_of_ble_eq_true rfl) (Nat.le_of_ble_eq_true rfl) (Nat.le_of_ble_eq_true rfl) (Nat.le_of_ble_eq_true rfl) (Nat.le_of_ble_eq_true rfl) rfl (fun _ => ?_)
  refine J_putA (pc := 22) hc hin clX3 (k := 2) (kd := 6) (Nat.le_of_ble_eq_true rfl) rfl (Nat.le_of_ble_eq_true rfl) (fun _ => rfl) (fun _ => rfl) tw177 rfl rfl rfl dX3_init_22 ?_
  refine J_aload_n (pc := 25) hc dX3_init_25 rfl rfl ?_
  refine J_new (pc := 26) hc clX2 dvX2 tw135 tw46 tw3 (Nat.le_of_ble_eq_true rfl) (Nat.le_of_ble_eq_true rfl) dX3_init_26 (fun h2 => ?_)
  refine J_dup (pc := 29) hc dX3_init_29 rfl ?_
  refine J_callIv (pc := 30) hc (ci := 2) (Or.inl (Nat.le_of_ble_eq_true rfl)) (As := []) (KX2_init h2) dX3_init_30 moX2_init rfl tw136 tw48 tw3 tw49 rfl (Nat.le_of_ble_eq_true rfl) (Nat.le_of_ble_eq_true rfl) (Nat.le_of_ble_eq_true rfl) (Nat.le_of_ble_eq_true rfl) (Nat.le_of_ble_eq_true rfl) rfl (fun _ => ?_)
  refine J_putA (pc := 33) hc hin clX3 (k := 3) (kd := 2) (Nat.le_of_ble_eq_true rfl) rfl (Nat.le_of_ble_eq_true rfl) (fun _ => rfl) (fun _ => rfl) tw179 rfl rfl rfl dX3_init_33 ?_
  refine J_aload_n (pc := 36) hc dX3_init_36 rfl rfl ?_
  refine J_new (pc := 37) hc clX4 dvX4 tw137 tw138 tw7 (Nat.le_of_ble_eq_true rfl) (Nat.le_of_ble_eq_true rfl) dX3_init_37 (fun h3 => ?_)
  refine J_dup (pc := 40) hc dX3_init_40 rfl ?_
  refine J_callINv (pc := 41) hc (ci := 4) (Or.inl (Nat.le_of_ble_eq_true rfl)) (As := []) (KX4_init h3) dX3_init_41 moX4_init rfl (by decide +kernel) tw140 tw7 tw141 rfl (Nat.le_of_ble_eq_true rfl) (Nat.le_of_ble_eq_true rfl) (Nat.le_of_ble_eq_true rfl) (Nat.le_of_ble_eq_true rfl) (Nat.le_of_ble_eq_true rfl) rfl (fun _ => ?_)
  refine J_putA (pc := 44) hc hin clX3 (k := 4) (kd := 4) (Nat.le_of_ble_eq_true rfl) rfl (Nat.le_of_ble_eq_true rfl) (fun _ => rfl) (fun _ => rfl) tw181 rfl rfl rfl dX3_init_44 ?_
  exact J_vret (pc := 47) he dX3_init_47
theorem moX3_init : MOk yX3_init 0 := ⟨by decide +kernel, by decide +kernel, by decide +kernel⟩
set_option maxRecDepth 100000 in
set_option maxHeartbeats 4000000 in
theorem KX3_init (x0 : Nat) : Ct wV yX3_init cX3_init 1 none 2 7 964 41 [((3, .ref x0) : TV)] (fX3_init x0) :=
  Ct_V (j := 0) (by decide +kernel) rfl rfl (Nat.le_of_ble_eq_true rfl) (fun κ fin hc he hin => jX3_init hc he hin x0)
set_option maxRecDepth 100000 in
set_option maxHeartbeats 4000000 in
theorem jX3_failHere {κ : Cx} {fin : Int32 → Mm → Prop} (hc : Jc κ RX3 cX3_failHere 2 0 0 0 0) (he : EdZ κ cX3_failHere 0 0 id fin) (x0 : Nat) (x1 : Int32) : Jg κ (wM κ) 2 fin 0 0 0 [some ((3, .ref x0) : TV), some ((0, .int x1) : TV)] [] (fX3_failHere x0 x1) := by
  unfold fX3_failHere
  refine J_aload_n (pc := 0) hc dX3_failHere_0 rfl rfl ?_
  refine J_iload_n (pc := 1) hc dX3_failHere_1 rfl rfl ?_
  refine J_putI (pc := 2) hc clX3 (k := 0) (Nat.le_of_ble_eq_true rfl) rfl rfl tw174 (Or.inl rfl) rfl dX3_failHere_2 ?_
  refine J_aload_n (pc := 5) hc dX3_failHere_5 rfl rfl ?_
  refine J_aload_n (pc := 6) hc dX3_failHere_6 rfl rfl ?_
  refine J_getA (pc := 7) hc clX3 (k := 2) (kd := 6) (Nat.le_of_ble_eq_true rfl) rfl (Nat.le_of_ble_eq_true rfl) tw177 (Or.inl rfl) dX3_failHere_7 (fun v1 => ?_)
  refine J_getI (pc := 10) hc clX6 (k := 2) (Nat.le_of_ble_eq_true rfl) rfl tw119 (Or.inl rfl) dX3_failHere_10 (fun v2 => ?_)
  refine J_putI (pc := 13) hc clX3 (k := 1) (Nat.le_of_ble_eq_true rfl) rfl rfl tw176 (Or.inl rfl) rfl dX3_failHere_13 ?_
  refine J_iconst (pc := 16) (v := 0) hc dX3_failHere_16 (by decide) ?_
  exact J_zret (pc := 17) he dX3_failHere_17
theorem moX3_failHere : MOk yX3_failHere 1 := ⟨by decide +kernel, by decide +kernel, by decide +kernel⟩
set_option maxRecDepth 100000 in
set_option maxHeartbeats 4000000 in
theorem KX3_failHere (x0 : Nat) (x1 : Int32) : Ct wI yX3_failHere cX3_failHere 2 (some .boolean) 0 0 0 0 [((3, .ref x0) : TV), ((0, .int x1) : TV)] (fX3_failHere x0 x1) :=
  Ct_Z ⟨rfl, rfl⟩ (j := 0) (by decide +kernel) rfl rfl (Nat.le_of_ble_eq_true rfl) (fun κ fin hc he => jX3_failHere hc he x0 x1)
set_option maxRecDepth 100000 in
set_option maxHeartbeats 4000000 in
theorem jX3_needNumber_L43 {κ : Cx} {fin : Int32 → Mm → Prop} (hc : Jc κ RX3 cX3_needNumber 4 2 0 0 43) (he : EdZ κ cX3_needNumber 0 0 id fin) : Jg κ (wM κ) 4 fin 0 0 43 [none, none, none, none] [] (fX3_needNumber_L43) := by
  unfold fX3_needNumber_L43
  refine J_iconst (pc := 43) (v := 1) hc dX3_needNumber_43 (by decide) ?_
  refine J_goto (pc := 44) (tgt := 48) hc dX3_needNumber_44 (by decide) ?_
  exact J_zret (pc := 48) he dX3_needNumber_48
set_option maxRecDepth 100000 in
set_option maxHeartbeats 4000000 in
theorem jX3_needNumber_L35 {κ : Cx} {fin : Int32 → Mm → Prop} (hc : Jc κ RX3 cX3_needNumber 4 2 0 0 43) (he : EdZ κ cX3_needNumber 0 0 id fin) (x0 : Nat) : Jg κ (wM κ) 4 fin 0 0 35 [some ((3, .ref x0) : TV), none, none, none] [] (fX3_needNumber_L35 x0) := by
  unfold fX3_needNumber_L35
  refine J_aload_n (pc := 35) hc dX3_needNumber_35 rfl rfl ?_
  refine J_iconst (pc := 36) (v := 2) hc dX3_needNumber_36 (by decide) ?_
  refine J_callVi (pc := 37) hc clX3 (As := [((0, .int 2) : TV)]) (KX3_failHere x0 2) dX3_needNumber_37 moX3_failHere rfl tw412 tw414 twp3 tw5 tw415 rfl (Nat.le_of_ble_eq_true rfl) (Nat.le_of_ble_eq_true rfl) (Nat.le_of_ble_eq_true rfl) (Nat.le_of_ble_eq_true rfl) (Nat.le_of_ble_eq_true rfl) rfl (fun v1 => ?_)
  refine J_if_eq (pc := 40) (tgt := 47) hc dX3_needNumber_40 (by decide) ?_ ?_
  · refine J_iconst (pc := 47) (v := 0) hc dX3_needNumber_47 (by decide) ?_
    exact J_zret (pc := 48) he dX3_needNumber_48
  · refine J_sub (l' := [none, none, none, none]) (show subL _ _ from trivial) ?_
    exact jX3_needNumber_L43 hc he 
set_option maxRecDepth 100000 in
set_option maxHeartbeats 4000000 in
theorem jX3_needNumber {κ : Cx} {fin : Int32 → Mm → Prop} (hc : Jc κ RX3 cX3_needNumber 4 2 0 0 43) (he : EdZ κ cX3_needNumber 0 0 id fin) (x0 : Nat) (x1 : Int32) (x2 : Int32) : Jg κ (wM κ) 4 fin 0 0 0 [some ((3, .ref x0) : TV), some ((0, .int x1) : TV), some ((0, .int x2) : TV), none] [] (fX3_needNumber x0 x1 x2) := by
  unfold fX3_needNumber
  refine J_aload_n (pc := 0) hc dX3_needNumber_0 rfl rfl ?_
  refine J_getA (pc := 1) hc clX3 (k := 2) (kd := 6) (Nat.le_of_ble_eq_true rfl) rfl (Nat.le_of_ble_eq_true rfl) tw177 (Or.inl rfl) dX3_needNumber_1 (fun v2 => ?_)
  refine J_getI (pc := 4) hc clX6 (k := 1) (Nat.le_of_ble_eq_true rfl) rfl tw117 (Or.inl rfl) dX3_needNumber_4 (fun v3 => ?_)
  refine J_iconst (pc := 7) (v := 2) hc dX3_needNumber_7 (by decide) ?_
  refine J_icmp_eq (pc := 8) (tgt := 17) hc dX3_needNumber_8 (by decide) ?_ ?_
  · refine J_aload_n (pc := 17) hc dX3_needNumber_17 rfl rfl ?_
    refine J_getA (pc := 18) hc clX3 (k := 2) (kd := 6) (Nat.le_of_ble_eq_true rfl) rfl (Nat.le_of_ble_eq_true rfl) tw177 (Or.inl rfl) dX3_needNumber_18 (fun v4 => ?_)
    refine J_callVi (pc := 21) hc clX6 (As := []) (KX6_number v4) dX3_needNumber_21 moX6_number rfl tw416 tw417 tw418 tw6 tw419 rfl (Nat.le_of_ble_eq_true rfl) (Nat.le_of_ble_eq_true rfl) (Nat.le_of_ble_eq_true rfl) (Nat.le_of_ble_eq_true rfl) (Nat.le_of_ble_eq_true rfl) rfl (fun v5 => ?_)
    refine J_istore_n (pc := 24) (l' := [some ((3, .ref x0) : TV), some ((0, .int x1) : TV), some ((0, .int x2) : TV), some ((0, .int v5) : TV)]) hc dX3_needNumber_24 rfl (by decide) rfl rfl ?_
    refine J_iload_n (pc := 25) hc dX3_needNumber_25 rfl rfl ?_
    refine J_iload_n (pc := 26) hc dX3_needNumber_26 rfl rfl ?_
    refine J_icmp_lt (pc := 27) (tgt := 35) hc dX3_needNumber_27 (by decide) ?_ ?_
    · refine J_sub (l' := [some ((3, .ref x0) : TV), none, none, none]) ⟨rfl, trivial⟩ ?_
      exact jX3_needNumber_L35 hc he x0
    · refine J_iload_n (pc := 30) hc dX3_needNumber_30 rfl rfl ?_
      refine J_iload_n (pc := 31) hc dX3_needNumber_31 rfl rfl ?_
      refine J_icmp_le (pc := 32) (tgt := 43) hc dX3_needNumber_32 (by decide) ?_ ?_
      · refine J_sub (l' := [none, none, none, none]) (show subL _ _ from trivial) ?_
        exact jX3_needNumber_L43 hc he 
      · refine J_sub (l' := [some ((3, .ref x0) : TV), none, none, none]) ⟨rfl, trivial⟩ ?_
        exact jX3_needNumber_L35 hc he x0
  · refine J_aload_n (pc := 11) hc dX3_needNumber_11 rfl rfl ?_
    refine J_iconst (pc := 12) (v := 1) hc dX3_needNumber_12 (by decide) ?_
    refine J_callVi (pc := 13) hc clX3 (As := [((0, .int 1) : TV)]) (KX3_failHere x0 1) dX3_needNumber_13 moX3_failHere rfl tw412 tw414 twp3 tw5 tw415 rfl (Nat.le_of_ble_eq_true rfl) (Nat.le_of_ble_eq_true rfl) (Nat.le_of_ble_eq_true rfl) (Nat.le_of_ble_eq_true rfl) (Nat.le_of_ble_eq_true rfl) rfl (fun v6 => ?_)
    exact J_zret (pc := 16) he dX3_needNumber_16
theorem moX3_needNumber : MOk yX3_needNumber 2 := ⟨by decide +kernel, by decide +kernel, by decide +kernel⟩
set_option maxRecDepth 100000 in
set_option maxHeartbeats 4000000 in
theorem KX3_needNumber (x0 : Nat) (x1 : Int32) (x2 : Int32) : Ct wI yX3_needNumber cX3_needNumber 4 (some .boolean) 2 0 0 43 [((3, .ref x0) : TV), ((0, .int x1) : TV), ((0, .int x2) : TV)] (fX3_needNumber x0 x1 x2) :=
  Ct_Z ⟨rfl, rfl⟩ (j := 1) (by decide +kernel) rfl rfl (Nat.le_of_ble_eq_true rfl) (fun κ fin hc he => jX3_needNumber hc he x0 x1 x2)
set_option maxRecDepth 100000 in
set_option maxHeartbeats 4000000 in
theorem jX3_readSemicolon {κ : Cx} {fin : Int32 → Mm → Prop} (hc : Jc κ RX3 cX3_readSemicolon 1 2 0 0 41) (he : EdZ κ cX3_readSemicolon 0 0 id fin) (x0 : Nat) : Jg κ (wM κ) 1 fin 0 0 0 [some ((3, .ref x0) : TV)] [] (fX3_readSemicolon x0) := by
  unfold fX3_readSemicolon
  refine J_aload_n (pc := 0) hc dX3_readSemicolon_0 rfl rfl ?_
  refine J_getA (pc := 1) hc clX3 (k := 2) (kd := 6) (Nat.le_of_ble_eq_true rfl) rfl (Nat.le_of_ble_eq_true rfl) tw177 (Or.inl rfl) dX3_readSemicolon_1 (fun v1 => ?_)
  refine J_getI (pc := 4) hc clX6 (k := 1) (Nat.le_of_ble_eq_true rfl) rfl tw117 (Or.inl rfl) dX3_readSemicolon_4 (fun v2 => ?_)
  refine J_iconst (pc := 7) (v := 5) hc dX3_readSemicolon_7 (by decide) ?_
  refine J_icmp_eq (pc := 8) (tgt := 17) hc dX3_readSemicolon_8 (by decide) ?_ ?_
  · refine J_aload_n (pc := 17) hc dX3_readSemicolon_17 rfl rfl ?_
    refine J_getA (pc := 18) hc clX3 (k := 2) (kd := 6) (Nat.le_of_ble_eq_true rfl) rfl (Nat.le_of_ble_eq_true rfl) tw177 (Or.inl rfl) dX3_readSemicolon_18 (fun v3 => ?_)
    refine J_callVv (pc := 21) hc clX6 (As := []) (KX6_next v3) dX3_readSemicolon_21 moX6_next rfl tw407 tw337 tw338 tw6 tw339 rfl (Nat.le_of_ble_eq_true rfl) (Nat.le_of_ble_eq_true rfl) (Nat.le_of_ble_eq_true rfl) (Nat.le_of_ble_eq_true rfl) (Nat.le_of_ble_eq_true rfl) rfl (fun _ => ?_)
    refine J_iconst (pc := 24) (v := 1) hc dX3_readSemicolon_24 (by decide) ?_
    exact J_zret (pc := 25) he dX3_readSemicolon_25
  · refine J_aload_n (pc := 11) hc dX3_readSemicolon_11 rfl rfl ?_
    refine J_iconst (pc := 12) (v := 1) hc dX3_readSemicolon_12 (by decide) ?_
    refine J_callVi (pc := 13) hc clX3 (As := [((0, .int 1) : TV)]) (KX3_failHere x0 1) dX3_readSemicolon_13 moX3_failHere rfl tw412 tw414 twp3 tw5 tw415 rfl (Nat.le_of_ble_eq_true rfl) (Nat.le_of_ble_eq_true rfl) (Nat.le_of_ble_eq_true rfl) (Nat.le_of_ble_eq_true rfl) (Nat.le_of_ble_eq_true rfl) rfl (fun v4 => ?_)
    exact J_zret (pc := 16) he dX3_readSemicolon_16
theorem moX3_readSemicolon : MOk yX3_readSemicolon 0 := ⟨by decide +kernel, by decide +kernel, by decide +kernel⟩
set_option maxRecDepth 100000 in
set_option maxHeartbeats 4000000 in
theorem KX3_readSemicolon (x0 : Nat) : Ct wI yX3_readSemicolon cX3_readSemicolon 1 (some .boolean) 2 0 0 41 [((3, .ref x0) : TV)] (fX3_readSemicolon x0) :=
  Ct_Z ⟨rfl, rfl⟩ (j := 0) (by decide +kernel) rfl rfl (Nat.le_of_ble_eq_true rfl) (fun κ fin hc he => jX3_readSemicolon hc he x0)
set_option maxRecDepth 100000 in
set_option maxHeartbeats 4000000 in
theorem jX3_readWide {κ : Cx} {fin : Int32 → Mm → Prop} (hc : Jc κ RX3 cX3_readWide 1 3 0 0 66) (he : EdZ κ cX3_readWide 0 0 id fin) (x0 : Nat) : Jg κ (wM κ) 1 fin 0 0 0 [some ((3, .ref x0) : TV)] [] (fX3_readWide x0) := by
  unfold fX3_readWide
  refine J_aload_n (pc := 0) hc dX3_readWide_0 rfl rfl ?_
  refine J_getA (pc := 1) hc clX3 (k := 2) (kd := 6) (Nat.le_of_ble_eq_true rfl) rfl (Nat.le_of_ble_eq_true rfl) tw177 (Or.inl rfl) dX3_readWide_1 (fun v1 => ?_)
  refine J_callVv (pc := 4) hc clX6 (As := []) (KX6_next v1) dX3_readWide_4 moX6_next rfl tw407 tw337 tw338 tw6 tw339 rfl (Nat.le_of_ble_eq_true rfl) (Nat.le_of_ble_eq_true rfl) (Nat.le_of_ble_eq_true rfl) (Nat.le_of_ble_eq_true rfl) (Nat.le_of_ble_eq_true rfl) rfl (fun _ => ?_)
  refine J_aload_n (pc := 7) hc dX3_readWide_7 rfl rfl ?_
  refine J_bipush (pc := 8) (v := 8) hc dX3_readWide_8 (by decide) ?_
  refine J_bipush (pc := 10) (v := 40) hc dX3_readWide_10 (by decide) ?_
  refine J_callVi (pc := 12) hc clX3 (As := [((0, .int 8) : TV), ((0, .int 40) : TV)]) (KX3_needNumber x0 8 40) dX3_readWide_12 moX3_needNumber rfl tw408 tw410 twp2 tw5 tw411 rfl (Nat.le_of_ble_eq_true rfl) (Nat.le_of_ble_eq_true rfl) (Nat.le_of_ble_eq_true rfl) (Nat.le_of_ble_eq_true rfl) (Nat.le_of_ble_eq_true rfl) rfl (fun v2 => ?_)
  refine J_if_ne (pc := 15) (tgt := 20) hc dX3_readWide_15 (by decide) ?_ ?_
  · refine J_aload_n (pc := 20) hc dX3_readWide_20 rfl rfl ?_
    refine J_getA (pc := 21) hc clX3 (k := 3) (kd := 2) (Nat.le_of_ble_eq_true rfl) rfl (Nat.le_of_ble_eq_true rfl) tw179 (Or.inl rfl) dX3_readWide_21 (fun v3 => ?_)
    refine J_aload_n (pc := 24) hc dX3_readWide_24 rfl rfl ?_
    refine J_getA (pc := 25) hc clX3 (k := 2) (kd := 6) (Nat.le_of_ble_eq_true rfl) rfl (Nat.le_of_ble_eq_true rfl) tw177 (Or.inl rfl) dX3_readWide_25 (fun v4 => ?_)
    refine J_callVi (pc := 28) hc clX6 (As := []) (KX6_number v4) dX3_readWide_28 moX6_number rfl tw416 tw417 tw418 tw6 tw419 rfl (Nat.le_of_ble_eq_true rfl) (Nat.le_of_ble_eq_true rfl) (Nat.le_of_ble_eq_true rfl) (Nat.le_of_ble_eq_true rfl) (Nat.le_of_ble_eq_true rfl) rfl (fun v5 => ?_)
    refine J_putI (pc := 31) hc clX2 (k := 0) (Nat.le_of_ble_eq_true rfl) rfl rfl tw55 (Or.inl rfl) rfl dX3_readWide_31 ?_
    refine J_aload_n (pc := 34) hc dX3_readWide_34 rfl rfl ?_
    refine J_getA (pc := 35) hc clX3 (k := 2) (kd := 6) (Nat.le_of_ble_eq_true rfl) rfl (Nat.le_of_ble_eq_true rfl) tw177 (Or.inl rfl) dX3_readWide_35 (fun v6 => ?_)
    refine J_callVv (pc := 38) hc clX6 (As := []) (KX6_next v6) dX3_readWide_38 moX6_next rfl tw407 tw337 tw338 tw6 tw339 rfl (Nat.le_of_ble_eq_true rfl) (Nat.le_of_ble_eq_true rfl) (Nat.le_of_ble_eq_true rfl) (Nat.le_of_ble_eq_true rfl) (Nat.le_of_ble_eq_true rfl) rfl (fun _ => ?_)
    refine J_aload_n (pc := 41) hc dX3_readWide_41 rfl rfl ?_
    refine J_callVi (pc := 42) hc clX3 (As := []) (KX3_readSemicolon x0) dX3_readWide_42 moX3_readSemicolon rfl tw423 tw425 twp4 tw5 tw426 rfl (Nat.le_of_ble_eq_true rfl) (Nat.le_of_ble_eq_true rfl) (Nat.le_of_ble_eq_true rfl) (Nat.le_of_ble_eq_true rfl) (Nat.le_of_ble_eq_true rfl) rfl (fun v7 => ?_)
    exact J_zret (pc := 45) he dX3_readWide_45
  · refine J_iconst (pc := 18) (v := 0) hc dX3_readWide_18 (by decide) ?_
    exact J_zret (pc := 19) he dX3_readWide_19
theorem moX3_readWide : MOk yX3_readWide 0 := ⟨by decide +kernel, by decide +kernel, by decide +kernel⟩
set_option maxRecDepth 100000 in
set_option maxHeartbeats 4000000 in
theorem KX3_readWide (x0 : Nat) : Ct wI yX3_readWide cX3_readWide 1 (some .boolean) 3 0 0 66 [((3, .ref x0) : TV)] (fX3_readWide x0) :=
  Ct_Z ⟨rfl, rfl⟩ (j := 0) (by decide +kernel) rfl rfl (Nat.le_of_ble_eq_true rfl) (fun κ fin hc he => jX3_readWide hc he x0)
set_option maxRecDepth 100000 in
set_option maxHeartbeats 4000000 in
theorem jX3_readSet {κ : Cx} {fin : Int32 → Mm → Prop} (hc : Jc κ RX3 cX3_readSet 2 3 0 0 66) (he : EdZ κ cX3_readSet 0 0 id fin) (x0 : Nat) : Jg κ (wM κ) 2 fin 0 0 0 [some ((3, .ref x0) : TV), none] [] (fX3_readSet x0) := by
  unfold fX3_readSet
  refine J_aload_n (pc := 0) hc dX3_readSet_0 rfl rfl ?_
  refine J_getA (pc := 1) hc clX3 (k := 2) (kd := 6) (Nat.le_of_ble_eq_true rfl) rfl (Nat.le_of_ble_eq_true rfl) tw177 (Or.inl rfl) dX3_readSet_1 (fun v1 => ?_)
  refine J_callVv (pc := 4) hc clX6 (As := []) (KX6_next v1) dX3_readSet_4 moX6_next rfl tw407 tw337 tw338 tw6 tw339 rfl (Nat.le_of_ble_eq_true rfl) (Nat.le_of_ble_eq_true rfl) (Nat.le_of_ble_eq_true rfl) (Nat.le_of_ble_eq_true rfl) (Nat.le_of_ble_eq_true rfl) rfl (fun _ => ?_)
  refine J_aload_n (pc := 7) hc dX3_readSet_7 rfl rfl ?_
  refine J_iconst (pc := 8) (v := 0) hc dX3_readSet_8 (by decide) ?_
  refine J_iconst (pc := 9) (v := 5) hc dX3_readSet_9 (by decide) ?_
  refine J_callVi (pc := 10) hc clX3 (As := [((0, .int 0) : TV), ((0, .int 5) : TV)]) (KX3_needNumber x0 0 5) dX3_readSet_10 moX3_needNumber rfl tw408 tw410 twp2 tw5 tw411 rfl (Nat.le_of_ble_eq_true rfl) (Nat.le_of_ble_eq_true rfl) (Nat.le_of_ble_eq_true rfl) (Nat.le_of_ble_eq_true rfl) (Nat.le_of_ble_eq_true rfl) rfl (fun v2 => ?_)
  refine J_if_ne (pc := 13) (tgt := 18) hc dX3_readSet_13 (by decide) ?_ ?_
  · refine J_aload_n (pc := 18) hc dX3_readSet_18 rfl rfl ?_
    refine J_getA (pc := 19) hc clX3 (k := 2) (kd := 6) (Nat.le_of_ble_eq_true rfl) rfl (Nat.le_of_ble_eq_true rfl) tw177 (Or.inl rfl) dX3_readSet_19 (fun v3 => ?_)
    refine J_callVi (pc := 22) hc clX6 (As := []) (KX6_number v3) dX3_readSet_22 moX6_number rfl tw416 tw417 tw418 tw6 tw419 rfl (Nat.le_of_ble_eq_true rfl) (Nat.le_of_ble_eq_true rfl) (Nat.le_of_ble_eq_true rfl) (Nat.le_of_ble_eq_true rfl) (Nat.le_of_ble_eq_true rfl) rfl (fun v4 => ?_)
    refine J_istore_n (pc := 25) (l' := [some ((3, .ref x0) : TV), some ((0, .int v4) : TV)]) hc dX3_readSet_25 rfl (by decide) rfl rfl ?_
    refine J_aload_n (pc := 26) hc dX3_readSet_26 rfl rfl ?_
    refine J_getA (pc := 27) hc clX3 (k := 2) (kd := 6) (Nat.le_of_ble_eq_true rfl) rfl (Nat.le_of_ble_eq_true rfl) tw177 (Or.inl rfl) dX3_readSet_27 (fun v5 => ?_)
    refine J_callVv (pc := 30) hc clX6 (As := []) (KX6_next v5) dX3_readSet_30 moX6_next rfl tw407 tw337 tw338 tw6 tw339 rfl (Nat.le_of_ble_eq_true rfl) (Nat.le_of_ble_eq_true rfl) (Nat.le_of_ble_eq_true rfl) (Nat.le_of_ble_eq_true rfl) (Nat.le_of_ble_eq_true rfl) rfl (fun _ => ?_)
    refine J_iload_n (pc := 33) hc dX3_readSet_33 rfl rfl ?_
    refine J_if_lt (pc := 34) (tgt := 60) hc dX3_readSet_34 (by decide) ?_ ?_
    · refine J_iconst (pc := 60) (v := 0) hc dX3_readSet_60 (by decide) ?_
      exact J_zret (pc := 61) he dX3_readSet_61
    · refine J_iload_n (pc := 37) hc dX3_readSet_37 rfl rfl ?_
      refine J_bipush (pc := 38) (v := 6) hc dX3_readSet_38 (by decide) ?_
      refine J_icmp_ge (pc := 40) (tgt := 60) hc dX3_readSet_40 (by decide) ?_ ?_
      · refine J_iconst (pc := 60) (v := 0) hc dX3_readSet_60 (by decide) ?_
        exact J_zret (pc := 61) he dX3_readSet_61
      · refine J_aload_n (pc := 43) hc dX3_readSet_43 rfl rfl ?_
        refine J_getsN (pc := 44) (j := 1) hc (by decide) (by decide +kernel) dX3_readSet_44 ?_
        refine J_iload_n (pc := 47) hc dX3_readSet_47 rfl rfl ?_
        refine J_tald (pc := 48) (j := 1) hc (by decide) dX3_readSet_48 (fun v6 => ?_)
        refine J_getsN (pc := 49) (j := 2) hc (by decide) (by decide +kernel) dX3_readSet_49 ?_
        refine J_iload_n (pc := 52) hc dX3_readSet_52 rfl rfl ?_
        refine J_tald (pc := 53) (j := 2) hc (by decide) dX3_readSet_53 (fun v7 => ?_)
        refine J_callVi (pc := 54) hc clX3 (As := [((0, .int v6) : TV), ((0, .int v7) : TV)]) (KX3_needNumber x0 v6 v7) dX3_readSet_54 moX3_needNumber rfl tw408 tw410 twp2 tw5 tw411 rfl (Nat.le_of_ble_eq_true rfl) (Nat.le_of_ble_eq_true rfl) (Nat.le_of_ble_eq_true rfl) (Nat.le_of_ble_eq_true rfl) (Nat.le_of_ble_eq_true rfl) rfl (fun v8 => ?_)
        refine J_if_ne (pc := 57) (tgt := 62) hc dX3_readSet_57 (by decide) ?_ ?_
        · refine J_aload_n (pc := 62) hc dX3_readSet_62 rfl rfl ?_
          refine J_getA (pc := 63) hc clX3 (k := 3) (kd := 2) (Nat.le_of_ble_eq_true rfl) rfl (Nat.le_of_ble_eq_true rfl) tw179 (Or.inl rfl) dX3_readSet_63 (fun v9 => ?_)
          refine J_getA (pc := 66) hc clX2 (k := 4) (kd := 11) (Nat.le_of_ble_eq_true rfl) rfl (Nat.le_of_ble_eq_true rfl) tw69 (Or.inl rfl) dX3_readSet_66 (fun v10 => ?_)
          refine J_iload_n (pc := 69) hc dX3_readSet_69 rfl rfl ?_
          refine J_aload_n (pc := 70) hc dX3_readSet_70 rfl rfl ?_
          refine J_getA (pc := 71) hc clX3 (k := 2) (kd := 6) (Nat.le_of_ble_eq_true rfl) rfl (Nat.le_of_ble_eq_true rfl) tw177 (Or.inl rfl) dX3_readSet_71 (fun v11 => ?_)
          refine J_callVi (pc := 74) hc clX6 (As := []) (KX6_number v11) dX3_readSet_74 moX6_number rfl tw416 tw417 tw418 tw6 tw419 rfl (Nat.le_of_ble_eq_true rfl) (Nat.le_of_ble_eq_true rfl) (Nat.le_of_ble_eq_true rfl) (Nat.le_of_ble_eq_true rfl) (Nat.le_of_ble_eq_true rfl) rfl (fun v12 => ?_)
          refine J_iast (pc := 77) hc dX3_readSet_77 ?_
          refine J_aload_n (pc := 78) hc dX3_readSet_78 rfl rfl ?_
          refine J_getA (pc := 79) hc clX3 (k := 2) (kd := 6) (Nat.le_of_ble_eq_true rfl) rfl (Nat.le_of_ble_eq_true rfl) tw177 (Or.inl rfl) dX3_readSet_79 (fun v13 => ?_)
          refine J_callVv (pc := 82) hc clX6 (As := []) (KX6_next v13) dX3_readSet_82 moX6_next rfl tw407 tw337 tw338 tw6 tw339 rfl (Nat.le_of_ble_eq_true rfl) (Nat.le_of_ble_eq_true rfl) (Nat.le_of_ble_eq_true rfl) (Nat.le_of_ble_eq_true rfl) (Nat.le_of_ble_eq_true rfl) rfl (fun _ => ?_)
          refine J_aload_n (pc := 85) hc dX3_readSet_85 rfl rfl ?_
          refine J_callVi (pc := 86) hc clX3 (As := []) (KX3_readSemicolon x0) dX3_readSet_86 moX3_readSemicolon rfl tw423 tw425 twp4 tw5 tw426 rfl (Nat.le_of_ble_eq_true rfl) (Nat.le_of_ble_eq_true rfl) (Nat.le_of_ble_eq_true rfl) (Nat.le_of_ble_eq_true rfl) (Nat.le_of_ble_eq_true rfl) rfl (fun v14 => ?_)
          exact J_zret (pc := 89) he dX3_readSet_89
        · refine J_iconst (pc := 60) (v := 0) hc dX3_readSet_60 (by decide) ?_
          exact J_zret (pc := 61) he dX3_readSet_61
  · refine J_iconst (pc := 16) (v := 0) hc dX3_readSet_16 (by decide) ?_
    exact J_zret (pc := 17) he dX3_readSet_17
theorem moX3_readSet : MOk yX3_readSet 0 := ⟨by decide +kernel, by decide +kernel, by decide +kernel⟩
set_option maxRecDepth 100000 in
set_option maxHeartbeats 4000000 in
theorem KX3_readSet (x0 : Nat) : Ct wI yX3_readSet cX3_readSet 2 (some .boolean) 3 0 0 66 [((3, .ref x0) : TV)] (fX3_readSet x0) :=
  Ct_Z ⟨rfl, rfl⟩ (j := 1) (by decide +kernel) rfl rfl (Nat.le_of_ble_eq_true rfl) (fun κ fin hc he => jX3_readSet hc he x0)
set_option maxRecDepth 100000 in
set_option maxHeartbeats 4000000 in
theorem jX3_readLoss {κ : Cx} {fin : Int32 → Mm → Prop} (hc : Jc κ RX3 cX3_readLoss 2 3 0 0 66) (he : EdZ κ cX3_readLoss 0 0 id fin) (x0 : Nat) : Jg κ (wM κ) 2 fin 0 0 0 [some ((3, .ref x0) : TV), none] [] (fX3_readLoss x0) := by
  unfold fX3_readLoss
  refine J_aload_n (pc := 0) hc dX3_readLoss_0 rfl rfl ?_
  refine J_getA (pc := 1) hc clX3 (k := 2) (kd := 6) (Nat.le_of_ble_eq_true rfl) rfl (Nat.le_of_ble_eq_true rfl) tw177 (Or.inl rfl) dX3_readLoss_1 (fun v1 => ?_)
  refine J_callVv (pc := 4) hc clX6 (As := []) (KX6_next v1) dX3_readLoss_4 moX6_next rfl tw407 tw337 tw338 tw6 tw339 rfl (Nat.le_of_ble_eq_true rfl) (Nat.le_of_ble_eq_true rfl) (Nat.le_of_ble_eq_true rfl) (Nat.le_of_ble_eq_true rfl) (Nat.le_of_ble_eq_true rfl) rfl (fun _ => ?_)
  refine J_aload_n (pc := 7) hc dX3_readLoss_7 rfl rfl ?_
  refine J_iconst (pc := 8) (v := 0) hc dX3_readLoss_8 (by decide) ?_
  refine J_bipush (pc := 9) (v := 19) hc dX3_readLoss_9 (by decide) ?_
  refine J_callVi (pc := 11) hc clX3 (As := [((0, .int 0) : TV), ((0, .int 19) : TV)]) (KX3_needNumber x0 0 19) dX3_readLoss_11 moX3_needNumber rfl tw408 tw410 twp2 tw5 tw411 rfl (Nat.le_of_ble_eq_true rfl) (Nat.le_of_ble_eq_true rfl) (Nat.le_of_ble_eq_true rfl) (Nat.le_of_ble_eq_true rfl) (Nat.le_of_ble_eq_true rfl) rfl (fun v2 => ?_)
  refine J_if_ne (pc := 14) (tgt := 19) hc dX3_readLoss_14 (by decide) ?_ ?_
  · refine J_aload_n (pc := 19) hc dX3_readLoss_19 rfl rfl ?_
    refine J_getA (pc := 20) hc clX3 (k := 2) (kd := 6) (Nat.le_of_ble_eq_true rfl) rfl (Nat.le_of_ble_eq_true rfl) tw177 (Or.inl rfl) dX3_readLoss_20 (fun v3 => ?_)
    refine J_callVi (pc := 23) hc clX6 (As := []) (KX6_number v3) dX3_readLoss_23 moX6_number rfl tw416 tw417 tw418 tw6 tw419 rfl (Nat.le_of_ble_eq_true rfl) (Nat.le_of_ble_eq_true rfl) (Nat.le_of_ble_eq_true rfl) (Nat.le_of_ble_eq_true rfl) (Nat.le_of_ble_eq_true rfl) rfl (fun v4 => ?_)
    refine J_istore_n (pc := 26) (l' := [some ((3, .ref x0) : TV), some ((0, .int v4) : TV)]) hc dX3_readLoss_26 rfl (by decide) rfl rfl ?_
    refine J_aload_n (pc := 27) hc dX3_readLoss_27 rfl rfl ?_
    refine J_getA (pc := 28) hc clX3 (k := 2) (kd := 6) (Nat.le_of_ble_eq_true rfl) rfl (Nat.le_of_ble_eq_true rfl) tw177 (Or.inl rfl) dX3_readLoss_28 (fun v5 => ?_)
    refine J_callVv (pc := 31) hc clX6 (As := []) (KX6_next v5) dX3_readLoss_31 moX6_next rfl tw407 tw337 tw338 tw6 tw339 rfl (Nat.le_of_ble_eq_true rfl) (Nat.le_of_ble_eq_true rfl) (Nat.le_of_ble_eq_true rfl) (Nat.le_of_ble_eq_true rfl) (Nat.le_of_ble_eq_true rfl) rfl (fun _ => ?_)
    refine J_iload_n (pc := 34) hc dX3_readLoss_34 rfl rfl ?_
    refine J_if_lt (pc := 35) (tgt := 53) hc dX3_readLoss_35 (by decide) ?_ ?_
    · refine J_iconst (pc := 53) (v := 0) hc dX3_readLoss_53 (by decide) ?_
      exact J_zret (pc := 54) he dX3_readLoss_54
    · refine J_iload_n (pc := 38) hc dX3_readLoss_38 rfl rfl ?_
      refine J_bipush (pc := 39) (v := 20) hc dX3_readLoss_39 (by decide) ?_
      refine J_icmp_ge (pc := 41) (tgt := 53) hc dX3_readLoss_41 (by decide) ?_ ?_
      · refine J_iconst (pc := 53) (v := 0) hc dX3_readLoss_53 (by decide) ?_
        exact J_zret (pc := 54) he dX3_readLoss_54
      · refine J_aload_n (pc := 44) hc dX3_readLoss_44 rfl rfl ?_
        refine J_iconst (pc := 45) (v := 0) hc dX3_readLoss_45 (by decide) ?_
        refine J_iconst (pc := 46) (v := 5) hc dX3_readLoss_46 (by decide) ?_
        refine J_callVi (pc := 47) hc clX3 (As := [((0, .int 0) : TV), ((0, .int 5) : TV)]) (KX3_needNumber x0 0 5) dX3_readLoss_47 moX3_needNumber rfl tw408 tw410 twp2 tw5 tw411 rfl (Nat.le_of_ble_eq_true rfl) (Nat.le_of_ble_eq_true rfl) (Nat.le_of_ble_eq_true rfl) (Nat.le_of_ble_eq_true rfl) (Nat.le_of_ble_eq_true rfl) rfl (fun v6 => ?_)
        refine J_if_ne (pc := 50) (tgt := 55) hc dX3_readLoss_50 (by decide) ?_ ?_
        · refine J_aload_n (pc := 55) hc dX3_readLoss_55 rfl rfl ?_
          refine J_getA (pc := 56) hc clX3 (k := 3) (kd := 2) (Nat.le_of_ble_eq_true rfl) rfl (Nat.le_of_ble_eq_true rfl) tw179 (Or.inl rfl) dX3_readLoss_56 (fun v7 => ?_)
          refine J_getA (pc := 59) hc clX2 (k := 3) (kd := 11) (Nat.le_of_ble_eq_true rfl) rfl (Nat.le_of_ble_eq_true rfl) tw65 (Or.inl rfl) dX3_readLoss_59 (fun v8 => ?_)
          refine J_iload_n (pc := 62) hc dX3_readLoss_62 rfl rfl ?_
          refine J_aload_n (pc := 63) hc dX3_readLoss_63 rfl rfl ?_
          refine J_getA (pc := 64) hc clX3 (k := 2) (kd := 6) (Nat.le_of_ble_eq_true rfl) rfl (Nat.le_of_ble_eq_true rfl) tw177 (Or.inl rfl) dX3_readLoss_64 (fun v9 => ?_)
          refine J_callVi (pc := 67) hc clX6 (As := []) (KX6_number v9) dX3_readLoss_67 moX6_number rfl tw416 tw417 tw418 tw6 tw419 rfl (Nat.le_of_ble_eq_true rfl) (Nat.le_of_ble_eq_true rfl) (Nat.le_of_ble_eq_true rfl) (Nat.le_of_ble_eq_true rfl) (Nat.le_of_ble_eq_true rfl) rfl (fun v10 => ?_)
          refine J_iast (pc := 70) hc dX3_readLoss_70 ?_
          refine J_aload_n (pc := 71) hc dX3_readLoss_71 rfl rfl ?_
          refine J_getA (pc := 72) hc clX3 (k := 2) (kd := 6) (Nat.le_of_ble_eq_true rfl) rfl (Nat.le_of_ble_eq_true rfl) tw177 (Or.inl rfl) dX3_readLoss_72 (fun v11 => ?_)
          refine J_callVv (pc := 75) hc clX6 (As := []) (KX6_next v11) dX3_readLoss_75 moX6_next rfl tw407 tw337 tw338 tw6 tw339 rfl (Nat.le_of_ble_eq_true rfl) (Nat.le_of_ble_eq_true rfl) (Nat.le_of_ble_eq_true rfl) (Nat.le_of_ble_eq_true rfl) (Nat.le_of_ble_eq_true rfl) rfl (fun _ => ?_)
          refine J_aload_n (pc := 78) hc dX3_readLoss_78 rfl rfl ?_
          refine J_callVi (pc := 79) hc clX3 (As := []) (KX3_readSemicolon x0) dX3_readLoss_79 moX3_readSemicolon rfl tw423 tw425 twp4 tw5 tw426 rfl (Nat.le_of_ble_eq_true rfl) (Nat.le_of_ble_eq_true rfl) (Nat.le_of_ble_eq_true rfl) (Nat.le_of_ble_eq_true rfl) (Nat.le_of_ble_eq_true rfl) rfl (fun v12 => ?_)
          exact J_zret (pc := 82) he dX3_readLoss_82
        · refine J_iconst (pc := 53) (v := 0) hc dX3_readLoss_53 (by decide) ?_
          exact J_zret (pc := 54) he dX3_readLoss_54
  · refine J_iconst (pc := 17) (v := 0) hc dX3_readLoss_17 (by decide) ?_
    exact J_zret (pc := 18) he dX3_readLoss_18
theorem moX3_readLoss : MOk yX3_readLoss 0 := ⟨by decide +kernel, by decide +kernel, by decide +kernel⟩
set_option maxRecDepth 100000 in
set_option maxHeartbeats 4000000 in
theorem KX3_readLoss (x0 : Nat) : Ct wI yX3_readLoss cX3_readLoss 2 (some .boolean) 3 0 0 66 [((3, .ref x0) : TV)] (fX3_readLoss x0) :=
  Ct_Z ⟨rfl, rfl⟩ (j := 1) (by decide +kernel) rfl rfl (Nat.le_of_ble_eq_true rfl) (fun κ fin hc he => jX3_readLoss hc he x0)
set_option maxRecDepth 100000 in
set_option maxHeartbeats 4000000 in
theorem jX3_readRow {κ : Cx} {fin : Int32 → Mm → Prop} (hc : Jc κ RX3 cX3_readRow 1 3 0 0 68) (he : EdZ κ cX3_readRow 0 0 id fin) (x0 : Nat) : Jg κ (wM κ) 1 fin 0 0 0 [some ((3, .ref x0) : TV)] [] (fX3_readRow x0) := by
  unfold fX3_readRow
  refine J_aload_n (pc := 0) hc dX3_readRow_0 rfl rfl ?_
  refine J_getA (pc := 1) hc clX3 (k := 2) (kd := 6) (Nat.le_of_ble_eq_true rfl) rfl (Nat.le_of_ble_eq_true rfl) tw177 (Or.inl rfl) dX3_readRow_1 (fun v1 => ?_)
  refine J_getI (pc := 4) hc clX6 (k := 1) (Nat.le_of_ble_eq_true rfl) rfl tw117 (Or.inl rfl) dX3_readRow_4 (fun v2 => ?_)
  refine J_iconst (pc := 7) (v := 3) hc dX3_readRow_7 (by decide) ?_
  refine J_icmp_eq (pc := 8) (tgt := 17) hc dX3_readRow_8 (by decide) ?_ ?_
  · refine J_aload_n (pc := 17) hc dX3_readRow_17 rfl rfl ?_
    refine J_getA (pc := 18) hc clX3 (k := 2) (kd := 6) (Nat.le_of_ble_eq_true rfl) rfl (Nat.le_of_ble_eq_true rfl) tw177 (Or.inl rfl) dX3_readRow_18 (fun v3 => ?_)
    refine J_callVi (pc := 21) hc clX6 (As := []) (KX6_signs v3) dX3_readRow_21 moX6_signs rfl tw452 tw453 tw454 tw6 tw455 rfl (Nat.le_of_ble_eq_true rfl) (Nat.le_of_ble_eq_true rfl) (Nat.le_of_ble_eq_true rfl) (Nat.le_of_ble_eq_true rfl) (Nat.le_of_ble_eq_true rfl) rfl (fun v4 => ?_)
    refine J_aload_n (pc := 24) hc dX3_readRow_24 rfl rfl ?_
    refine J_getA (pc := 25) hc clX3 (k := 3) (kd := 2) (Nat.le_of_ble_eq_true rfl) rfl (Nat.le_of_ble_eq_true rfl) tw179 (Or.inl rfl) dX3_readRow_25 (fun v5 => ?_)
    refine J_getI (pc := 28) hc clX2 (k := 0) (Nat.le_of_ble_eq_true rfl) rfl tw55 (Or.inl rfl) dX3_readRow_28 (fun v6 => ?_)
    refine J_icmp_eq (pc := 31) (tgt := 40) hc dX3_readRow_31 (by decide) ?_ ?_
    · refine J_aload_n (pc := 40) hc dX3_readRow_40 rfl rfl ?_
      refine J_getA (pc := 41) hc clX3 (k := 3) (kd := 2) (Nat.le_of_ble_eq_true rfl) rfl (Nat.le_of_ble_eq_true rfl) tw179 (Or.inl rfl) dX3_readRow_41 (fun v7 => ?_)
      refine J_aload_n (pc := 44) hc dX3_readRow_44 rfl rfl ?_
      refine J_getA (pc := 45) hc clX3 (k := 3) (kd := 2) (Nat.le_of_ble_eq_true rfl) rfl (Nat.le_of_ble_eq_true rfl) tw179 (Or.inl rfl) dX3_readRow_45 (fun v8 => ?_)
      refine J_getI (pc := 48) hc clX2 (k := 1) (Nat.le_of_ble_eq_true rfl) rfl tw60 (Or.inl rfl) dX3_readRow_48 (fun v9 => ?_)
      refine J_aload_n (pc := 51) hc dX3_readRow_51 rfl rfl ?_
      refine J_getA (pc := 52) hc clX3 (k := 2) (kd := 6) (Nat.le_of_ble_eq_true rfl) rfl (Nat.le_of_ble_eq_true rfl) tw177 (Or.inl rfl) dX3_readRow_52 (fun v10 => ?_)
      refine J_callVj (pc := 55) hc clX6 (As := []) (KX6_dots v10) dX3_readRow_55 moX6_dots rfl tw456 tw457 tw458 tw6 tw459 rfl (Nat.le_of_ble_eq_true rfl) (Nat.le_of_ble_eq_true rfl) (Nat.le_of_ble_eq_true rfl) (Nat.le_of_ble_eq_true rfl) (Nat.le_of_ble_eq_true rfl) rfl (fun v11 => ?_)
      refine J_callVv (pc := 58) hc clX2 (As := [((0, .int v9) : TV), ((0, .long v11) : TV)]) (KX2_insertRow v7 v9 v11) dX3_readRow_58 moX2_insertRow rfl tw460 tw461 tw462 tw3 tw463 rfl (Nat.le_of_ble_eq_true rfl) (Nat.le_of_ble_eq_true rfl) (Nat.le_of_ble_eq_true rfl) (Nat.le_of_ble_eq_true rfl) (Nat.le_of_ble_eq_true rfl) rfl (fun _ => ?_)
      refine J_aload_n (pc := 61) hc dX3_readRow_61 rfl rfl ?_
      refine J_getA (pc := 62) hc clX3 (k := 2) (kd := 6) (Nat.le_of_ble_eq_true rfl) rfl (Nat.le_of_ble_eq_true rfl) tw177 (Or.inl rfl) dX3_readRow_62 (fun v12 => ?_)
      refine J_callVv (pc := 65) hc clX6 (As := []) (KX6_next v12) dX3_readRow_65 moX6_next rfl tw407 tw337 tw338 tw6 tw339 rfl (Nat.le_of_ble_eq_true rfl) (Nat.le_of_ble_eq_true rfl) (Nat.le_of_ble_eq_true rfl) (Nat.le_of_ble_eq_true rfl) (Nat.le_of_ble_eq_true rfl) rfl (fun _ => ?_)
      refine J_aload_n (pc := 68) hc dX3_readRow_68 rfl rfl ?_
      refine J_callVi (pc := 69) hc clX3 (As := []) (KX3_readSemicolon x0) dX3_readRow_69 moX3_readSemicolon rfl tw423 tw425 twp4 tw5 tw426 rfl (Nat.le_of_ble_eq_true rfl) (Nat.le_of_ble_eq_true rfl) (Nat.le_of_ble_eq_true rfl) (Nat.le_of_ble_eq_true rfl) (Nat.le_of_ble_eq_true rfl) rfl (fun v13 => ?_)
      exact J_zret (pc := 72) he dX3_readRow_72
    · refine J_aload_n (pc := 34) hc dX3_readRow_34 rfl rfl ?_
      refine J_iconst (pc := 35) (v := 3) hc dX3_readRow_35 (by decide) ?_
      refine J_callVi (pc := 36) hc clX3 (As := [((0, .int 3) : TV)]) (KX3_failHere x0 3) dX3_readRow_36 moX3_failHere rfl tw412 tw414 twp3 tw5 tw415 rfl (Nat.le_of_ble_eq_true rfl) (Nat.le_of_ble_eq_true rfl) (Nat.le_of_ble_eq_true rfl) (Nat.le_of_ble_eq_true rfl) (Nat.le_of_ble_eq_true rfl) rfl (fun v14 => ?_)
      exact J_zret (pc := 39) he dX3_readRow_39
  · refine J_aload_n (pc := 11) hc dX3_readRow_11 rfl rfl ?_
    refine J_iconst (pc := 12) (v := 1) hc dX3_readRow_12 (by decide) ?_
    refine J_callVi (pc := 13) hc clX3 (As := [((0, .int 1) : TV)]) (KX3_failHere x0 1) dX3_readRow_13 moX3_failHere rfl tw412 tw414 twp3 tw5 tw415 rfl (Nat.le_of_ble_eq_true rfl) (Nat.le_of_ble_eq_true rfl) (Nat.le_of_ble_eq_true rfl) (Nat.le_of_ble_eq_true rfl) (Nat.le_of_ble_eq_true rfl) rfl (fun v15 => ?_)
    exact J_zret (pc := 16) he dX3_readRow_16
theorem moX3_readRow : MOk yX3_readRow 0 := ⟨by decide +kernel, by decide +kernel, by decide +kernel⟩
set_option maxRecDepth 100000 in
set_option maxHeartbeats 4000000 in
theorem KX3_readRow (x0 : Nat) : Ct wI yX3_readRow cX3_readRow 1 (some .boolean) 3 0 0 68 [((3, .ref x0) : TV)] (fX3_readRow x0) :=
  Ct_Z ⟨rfl, rfl⟩ (j := 0) (by decide +kernel) rfl rfl (Nat.le_of_ble_eq_true rfl) (fun κ fin hc he => jX3_readRow hc he x0)
set_option maxRecDepth 100000 in
set_option maxHeartbeats 4000000 in
theorem jX3_endCode {κ : Cx} {fin : Int32 → Mm → Prop} (hc : Jc κ RX3 cX3_endCode 4 3 0 0 68) (he : EdZ κ cX3_endCode 0 0 id fin) (x0 : Nat) (x1 : Int32) (x2 : Int64) : Jg κ (wM κ) 4 fin 0 0 0 [some ((3, .ref x0) : TV), some ((0, .int x1) : TV), some ((0, .long x2) : TV), none] [] (fX3_endCode x0 x1 x2) := by
  unfold fX3_endCode
  refine J_aload_n (pc := 0) hc dX3_endCode_0 rfl rfl ?_
  refine J_getA (pc := 1) hc clX3 (k := 2) (kd := 6) (Nat.le_of_ble_eq_true rfl) rfl (Nat.le_of_ble_eq_true rfl) tw177 (Or.inl rfl) dX3_endCode_1 (fun v1 => ?_)
  refine J_getI (pc := 4) hc clX6 (k := 1) (Nat.le_of_ble_eq_true rfl) rfl tw117 (Or.inl rfl) dX3_endCode_4 (fun v2 => ?_)
  refine J_iconst (pc := 7) (v := 5) hc dX3_endCode_7 (by decide) ?_
  refine J_icmp_eq (pc := 8) (tgt := 17) hc dX3_endCode_8 (by decide) ?_ ?_
  · refine J_iload_n (pc := 17) hc dX3_endCode_17 rfl rfl ?_
    refine J_if_ne (pc := 18) (tgt := 27) hc dX3_endCode_18 (by decide) ?_ ?_
    · refine J_aload_n (pc := 27) hc dX3_endCode_27 rfl rfl ?_
      refine J_getA (pc := 28) hc clX3 (k := 3) (kd := 2) (Nat.le_of_ble_eq_true rfl) rfl (Nat.le_of_ble_eq_true rfl) tw179 (Or.inl rfl) dX3_endCode_28 (fun v3 => ?_)
      refine J_aload_n (pc := 31) hc dX3_endCode_31 rfl rfl ?_
      refine J_getA (pc := 32) hc clX3 (k := 3) (kd := 2) (Nat.le_of_ble_eq_true rfl) rfl (Nat.le_of_ble_eq_true rfl) tw179 (Or.inl rfl) dX3_endCode_32 (fun v4 => ?_)
      refine J_getI (pc := 35) hc clX2 (k := 1) (Nat.le_of_ble_eq_true rfl) rfl tw60 (Or.inl rfl) dX3_endCode_35 (fun v5 => ?_)
      refine J_lload_n (pc := 38) hc dX3_endCode_38 rfl rfl ?_
      refine J_callVv (pc := 39) hc clX2 (As := [((0, .int v5) : TV), ((0, .long x2) : TV)]) (KX2_insertRow v3 v5 x2) dX3_endCode_39 moX2_insertRow rfl tw460 tw461 tw462 tw3 tw463 rfl (Nat.le_of_ble_eq_true rfl) (Nat.le_of_ble_eq_true rfl) (Nat.le_of_ble_eq_true rfl) (Nat.le_of_ble_eq_true rfl) (Nat.le_of_ble_eq_true rfl) rfl (fun _ => ?_)
      refine J_aload_n (pc := 42) hc dX3_endCode_42 rfl rfl ?_
      refine J_getA (pc := 43) hc clX3 (k := 2) (kd := 6) (Nat.le_of_ble_eq_true rfl) rfl (Nat.le_of_ble_eq_true rfl) tw177 (Or.inl rfl) dX3_endCode_43 (fun v6 => ?_)
      refine J_callVv (pc := 46) hc clX6 (As := []) (KX6_next v6) dX3_endCode_46 moX6_next rfl tw407 tw337 tw338 tw6 tw339 rfl (Nat.le_of_ble_eq_true rfl) (Nat.le_of_ble_eq_true rfl) (Nat.le_of_ble_eq_true rfl) (Nat.le_of_ble_eq_true rfl) (Nat.le_of_ble_eq_true rfl) rfl (fun _ => ?_)
      refine J_iconst (pc := 49) (v := 1) hc dX3_endCode_49 (by decide) ?_
      exact J_zret (pc := 50) he dX3_endCode_50
    · refine J_aload_n (pc := 21) hc dX3_endCode_21 rfl rfl ?_
      refine J_iconst (pc := 22) (v := 3) hc dX3_endCode_22 (by decide) ?_
      refine J_callVi (pc := 23) hc clX3 (As := [((0, .int 3) : TV)]) (KX3_failHere x0 3) dX3_endCode_23 moX3_failHere rfl tw412 tw414 twp3 tw5 tw415 rfl (Nat.le_of_ble_eq_true rfl) (Nat.le_of_ble_eq_true rfl) (Nat.le_of_ble_eq_true rfl) (Nat.le_of_ble_eq_true rfl) (Nat.le_of_ble_eq_true rfl) rfl (fun v7 => ?_)
      exact J_zret (pc := 26) he dX3_endCode_26
  · refine J_aload_n (pc := 11) hc dX3_endCode_11 rfl rfl ?_
    refine J_iconst (pc := 12) (v := 1) hc dX3_endCode_12 (by decide) ?_
    refine J_callVi (pc := 13) hc clX3 (As := [((0, .int 1) : TV)]) (KX3_failHere x0 1) dX3_endCode_13 moX3_failHere rfl tw412 tw414 twp3 tw5 tw415 rfl (Nat.le_of_ble_eq_true rfl) (Nat.le_of_ble_eq_true rfl) (Nat.le_of_ble_eq_true rfl) (Nat.le_of_ble_eq_true rfl) (Nat.le_of_ble_eq_true rfl) rfl (fun v8 => ?_)
    exact J_zret (pc := 16) he dX3_endCode_16
theorem moX3_endCode : MOk yX3_endCode 2 := ⟨by decide +kernel, by decide +kernel, by decide +kernel⟩
set_option maxRecDepth 100000 in
set_option maxHeartbeats 4000000 in
theorem KX3_endCode (x0 : Nat) (x1 : Int32) (x2 : Int64) : Ct wI yX3_endCode cX3_endCode 4 (some .boolean) 3 0 0 68 [((3, .ref x0) : TV), ((0, .int x1) : TV), ((0, .long x2) : TV)] (fX3_endCode x0 x1 x2) :=
  Ct_Z ⟨rfl, rfl⟩ (j := 0) (by decide +kernel) rfl rfl (Nat.le_of_ble_eq_true rfl) (fun κ fin hc he => jX3_endCode hc he x0 x1 x2)
set_option maxRecDepth 100000 in
set_option maxHeartbeats 4000000 in
theorem jX3_readAlone_L165 {κ : Cx} {fin : Int32 → Mm → Prop} (hc : Jc κ RX3 cX3_readAlone 8 4 0 0 91) (he : EdZ κ cX3_readAlone 0 0 id fin) (x1 : Int64) (s0 : Int32) (s1 : Nat) : Jg κ (wM κ) 8 fin 0 0 165 [none, some ((0, .long x1) : TV), none, none, none, none, none, none] [((0, .int s0) : TV), ((3, .ref s1) : TV)] (fX3_readAlone_L165 x1 s0 s1) := by
  unfold fX3_readAlone_L165
  refine J_lload_n (pc := 165) hc dX3_readAlone_165 rfl rfl ?_
  refine J_callVi (pc := 166) hc clX3 (As := [((0, .int s0) : TV), ((0, .long x1) : TV)]) (KX3_endCode s1 s0 x1) dX3_readAlone_166 moX3_endCode rfl tw482 tw484 twp10 tw5 tw485 rfl (Nat.le_of_ble_eq_true rfl) (Nat.le_of_ble_eq_true rfl) (Nat.le_of_ble_eq_true rfl) (Nat.le_of_ble_eq_true rfl) (Nat.le_of_ble_eq_true rfl) rfl (fun v1 => ?_)
  exact J_zret (pc := 169) he dX3_readAlone_169
set_option maxRecDepth 100000 in
set_option maxHeartbeats 4000000 in
theorem jX3_readAlone_L148 {κ : Cx} {fin : Int32 → Mm → Prop} (hc : Jc κ RX3 cX3_readAlone 8 4 0 0 91) (he : EdZ κ cX3_readAlone 0 0 id fin) (x0 : Nat) (x1 : Int64) (x3 : Int32) : Jg κ (wM κ) 8 fin 0 0 148 [some ((3, .ref x0) : TV), some ((0, .long x1) : TV), none, some ((0, .int x3) : TV), none, none, none, none] [] (fX3_readAlone_L148 x0 x1 x3) := by
  unfold fX3_readAlone_L148
  refine J_aload_n (pc := 148) hc dX3_readAlone_148 rfl rfl ?_
  refine J_iload_n (pc := 149) hc dX3_readAlone_149 rfl rfl ?_
  refine J_aload_n (pc := 150) hc dX3_readAlone_150 rfl rfl ?_
  refine J_getA (pc := 151) hc clX3 (k := 3) (kd := 2) (Nat.le_of_ble_eq_true rfl) rfl (Nat.le_of_ble_eq_true rfl) tw179 (Or.inl rfl) dX3_readAlone_151 (fun v2 => ?_)
  refine J_getI (pc := 154) hc clX2 (k := 0) (Nat.le_of_ble_eq_true rfl) rfl tw55 (Or.inl rfl) dX3_readAlone_154 (fun v3 => ?_)
  refine J_icmp_ne (pc := 157) (tgt := 164) hc dX3_readAlone_157 (by decide) ?_ ?_
  · refine J_iconst (pc := 164) (v := 0) hc dX3_readAlone_164 (by decide) ?_
    refine J_sub (l' := [none, some ((0, .long x1) : TV), none, none, none, none, none, none]) ⟨rfl, trivial⟩ ?_
    exact jX3_readAlone_L165 hc he x1 0 x0
  · refine J_iconst (pc := 160) (v := 1) hc dX3_readAlone_160 (by decide) ?_
    refine J_goto (pc := 161) (tgt := 165) hc dX3_readAlone_161 (by decide) ?_
    refine J_sub (l' := [none, some ((0, .long x1) : TV), none, none, none, none, none, none]) ⟨rfl, trivial⟩ ?_
    exact jX3_readAlone_L165 hc he x1 1 x0
set_option maxRecDepth 100000 in
set_option maxHeartbeats 4000000 in
theorem jX3_readAlone_L130 {κ : Cx} {fin : Int32 → Mm → Prop} (hc : Jc κ RX3 cX3_readAlone 8 4 0 0 91) (he : EdZ κ cX3_readAlone 0 0 id fin) {k36 : Nat → Int64 → Int32 → Int32 → Int32 → Int32 → Mm → Option (Int32 × Mm)} (hk36 : ∀ (x0 : Nat) (x1 : Int64) (x3 : Int32) (x4 : Int32) (x5 : Int32) (x6 : Int32), Jg κ (wM κ) 8 fin 0 0 36 [some ((3, .ref x0) : TV), some ((0, .long x1) : TV), none, some ((0, .int x3) : TV), some ((0, .int x4) : TV), some ((0, .int x5) : TV), some ((0, .int x6) : TV), none] [] (k36 x0 x1 x3 x4 x5 x6)) (x0 : Nat) (x1 : Int64) (x3 : Int32) (x6 : Int32) (s0 : Int32) : Jg κ (wM κ) 8 fin 0 0 130 [some ((3, .ref x0) : TV), some ((0, .long x1) : TV), none, some ((0, .int x3) : TV), none, none, some ((0, .int x6) : TV), none] [((0, .int s0) : TV)] (fX3_readAlone_L130 k36 x0 x1 x3 x6 s0) := by
  unfold fX3_readAlone_L130
  refine J_istore (pc := 130) (l' := [some ((3, .ref x0) : TV), some ((0, .long x1) : TV), none, some ((0, .int x3) : TV), some ((0, .int s0) : TV), none, some ((0, .int x6) : TV), none]) hc dX3_readAlone_130 (by decide) rfl rfl ?_
  refine J_iconst (pc := 132) (v := 1) hc dX3_readAlone_132 (by decide) ?_
  refine J_istore (pc := 133) (l' := [some ((3, .ref x0) : TV), some ((0, .long x1) : TV), none, some ((0, .int x3) : TV), some ((0, .int s0) : TV), some ((0, .int 1) : TV), some ((0, .int x6) : TV), none]) hc dX3_readAlone_133 (by decide) rfl rfl ?_
  refine J_aload_n (pc := 135) hc dX3_readAlone_135 rfl rfl ?_
  refine J_getA (pc := 136) hc clX3 (k := 2) (kd := 6) (Nat.le_of_ble_eq_true rfl) rfl (Nat.le_of_ble_eq_true rfl) tw177 (Or.inl rfl) dX3_readAlone_136 (fun v4 => ?_)
  refine J_callVv (pc := 139) hc clX6 (As := []) (KX6_next v4) dX3_readAlone_139 moX6_next rfl tw407 tw337 tw338 tw6 tw339 rfl (Nat.le_of_ble_eq_true rfl) (Nat.le_of_ble_eq_true rfl) (Nat.le_of_ble_eq_true rfl) (Nat.le_of_ble_eq_true rfl) (Nat.le_of_ble_eq_true rfl) rfl (fun _ => ?_)
  refine J_iinc (pc := 142) (v := x6 + (-1)) (l' := [some ((3, .ref x0) : TV), some ((0, .long x1) : TV), none, some ((0, .int x3) : TV), some ((0, .int s0) : TV), some ((0, .int 1) : TV), some ((0, .int (x6 + (-1))) : TV), none]) hc dX3_readAlone_142 rfl rfl (by decide) rfl rfl ?_
  refine J_goto (pc := 145) (tgt := 36) hc dX3_readAlone_145 (by decide) ?_
  refine J_sub (l' := [some ((3, .ref x0) : TV), some ((0, .long x1) : TV), none, some ((0, .int x3) : TV), some ((0, .int s0) : TV), some ((0, .int 1) : TV), some ((0, .int (x6 + (-1))) : TV), none]) ⟨rfl, ⟨rfl, ⟨rfl, ⟨rfl, ⟨rfl, ⟨rfl, trivial⟩⟩⟩⟩⟩⟩ ?_
  exact hk36 x0 x1 x3 s0 1 (x6 + (-1))
set_option maxRecDepth 100000 in
set_option maxHeartbeats 4000000 in
theorem jX3_readAlone_L115 {κ : Cx} {fin : Int32 → Mm → Prop} (hc : Jc κ RX3 cX3_readAlone 8 4 0 0 91) (he : EdZ κ cX3_readAlone 0 0 id fin) {k36 : Nat → Int64 → Int32 → Int32 → Int32 → Int32 → Mm → Option (Int32 × Mm)} (hk36 : ∀ (x0 : Nat) (x1 : Int64) (x3 : Int32) (x4 : Int32) (x5 : Int32) (x6 : Int32), Jg κ (wM κ) 8 fin 0 0 36 [some ((3, .ref x0) : TV), some ((0, .long x1) : TV), none, some ((0, .int x3) : TV), some ((0, .int x4) : TV), some ((0, .int x5) : TV), some ((0, .int x6) : TV), none] [] (k36 x0 x1 x3 x4 x5 x6)) (x0 : Nat) (x4 : Int32) (x6 : Int32) (x7 : Int32) (s0 : Int64) (s1 : Int64) : Jg κ (wM κ) 8 fin 0 0 115 [some ((3, .ref x0) : TV), none, none, none, some ((0, .int x4) : TV), none, some ((0, .int x6) : TV), some ((0, .int x7) : TV)] [((0, .long s0) : TV), ((0, .long s1) : TV)] (fX3_readAlone_L115 k36 x0 x4 x6 x7 s0 s1) := by
  unfold fX3_readAlone_L115
  refine J_lor (pc := 115) hc dX3_readAlone_115 ?_
  refine J_nml (fun v5 => ?_)
  refine J_lstore_n (pc := 116) (l' := [some ((3, .ref x0) : TV), some ((0, .long v5) : TV), none, none, some ((0, .int x4) : TV), none, some ((0, .int x6) : TV), some ((0, .int x7) : TV)]) hc dX3_readAlone_116 rfl (by decide) rfl rfl ?_
  refine J_iload (pc := 117) hc dX3_readAlone_117 rfl ?_
  refine J_istore_n (pc := 119) (l' := [some ((3, .ref x0) : TV), some ((0, .long v5) : TV), none, some ((0, .int x7) : TV), some ((0, .int x4) : TV), none, some ((0, .int x6) : TV), some ((0, .int x7) : TV)]) hc dX3_readAlone_119 rfl (by decide) rfl rfl ?_
  refine J_iload (pc := 120) hc dX3_readAlone_120 rfl ?_
  refine J_if_ne (pc := 122) (tgt := 129) hc dX3_readAlone_122 (by decide) ?_ ?_
  · refine J_iconst (pc := 129) (v := 0) hc dX3_readAlone_129 (by decide) ?_
    refine J_sub (l' := [some ((3, .ref x0) : TV), some ((0, .long v5) : TV), none, some ((0, .int x7) : TV), none, none, some ((0, .int x6) : TV), none]) ⟨rfl, ⟨rfl, ⟨rfl, ⟨rfl, trivial⟩⟩⟩⟩ ?_
    exact jX3_readAlone_L130 hc he hk36 x0 v5 x7 x6 0
  · refine J_iconst (pc := 125) (v := 1) hc dX3_readAlone_125 (by decide) ?_
    refine J_goto (pc := 126) (tgt := 130) hc dX3_readAlone_126 (by decide) ?_
    refine J_sub (l' := [some ((3, .ref x0) : TV), some ((0, .long v5) : TV), none, some ((0, .int x7) : TV), none, none, some ((0, .int x6) : TV), none]) ⟨rfl, ⟨rfl, ⟨rfl, ⟨rfl, trivial⟩⟩⟩⟩ ?_
    exact jX3_readAlone_L130 hc he hk36 x0 v5 x7 x6 1
set_option maxRecDepth 100000 in
set_option maxHeartbeats 4000000 in
theorem jX3_readAlone_L36 {κ : Cx} {fin : Int32 → Mm → Prop} (hc : Jc κ RX3 cX3_readAlone 8 4 0 0 91) (he : EdZ κ cX3_readAlone 0 0 id fin) : ∀ (n : Nat) (x0 : Nat) (x1 : Int64) (x3 : Int32) (x4 : Int32) (x5 : Int32) (x6 : Int32), Jg κ (wM κ) 8 fin 0 0 36 [some ((3, .ref x0) : TV), some ((0, .long x1) : TV), none, some ((0, .int x3) : TV), some ((0, .int x4) : TV), some ((0, .int x5) : TV), some ((0, .int x6) : TV), none] [] (fX3_readAlone_L36 n x0 x1 x3 x4 x5 x6) := by
  intro n
  induction n with
  | zero => intro x0 x1 x3 x4 x5 x6; exact J_fail
  | succ n ih =>
    intro x0 x1 x3 x4 x5 x6
    unfold fX3_readAlone_L36
    refine J_iload (pc := 36) hc dX3_readAlone_36 rfl ?_
    refine J_if_le (pc := 38) (tgt := 148) hc dX3_readAlone_38 (by decide) ?_ ?_
    · refine J_sub (l' := [some ((3, .ref x0) : TV), some ((0, .long x1) : TV), none, some ((0, .int x3) : TV), none, none, none, none]) ⟨rfl, ⟨rfl, ⟨rfl, trivial⟩⟩⟩ ?_
      exact jX3_readAlone_L148 hc he x0 x1 x3
    · refine J_aload_n (pc := 41) hc dX3_readAlone_41 rfl rfl ?_
      refine J_getA (pc := 42) hc clX3 (k := 2) (kd := 6) (Nat.le_of_ble_eq_true rfl) rfl (Nat.le_of_ble_eq_true rfl) tw177 (Or.inl rfl) dX3_readAlone_42 (fun v6 => ?_)
      refine J_getI (pc := 45) hc clX6 (k := 1) (Nat.le_of_ble_eq_true rfl) rfl tw117 (Or.inl rfl) dX3_readAlone_45 (fun v7 => ?_)
      refine J_iconst (pc := 48) (v := 2) hc dX3_readAlone_48 (by decide) ?_
      refine J_icmp_ne (pc := 49) (tgt := 148) hc dX3_readAlone_49 (by decide) ?_ ?_
      · refine J_sub (l' := [some ((3, .ref x0) : TV), some ((0, .long x1) : TV), none, some ((0, .int x3) : TV), none, none, none, none]) ⟨rfl, ⟨rfl, ⟨rfl, trivial⟩⟩⟩ ?_
        exact jX3_readAlone_L148 hc he x0 x1 x3
      · refine J_aload_n (pc := 52) hc dX3_readAlone_52 rfl rfl ?_
        refine J_iload (pc := 53) hc dX3_readAlone_53 rfl ?_
        refine J_aload_n (pc := 55) hc dX3_readAlone_55 rfl rfl ?_
        refine J_getA (pc := 56) hc clX3 (k := 3) (kd := 2) (Nat.le_of_ble_eq_true rfl) rfl (Nat.le_of_ble_eq_true rfl) tw179 (Or.inl rfl) dX3_readAlone_56 (fun v8 => ?_)
        refine J_getI (pc := 59) hc clX2 (k := 0) (Nat.le_of_ble_eq_true rfl) rfl tw55 (Or.inl rfl) dX3_readAlone_59 (fun v9 => ?_)
        refine J_callVi (pc := 62) hc clX3 (As := [((0, .int x5) : TV), ((0, .int v9) : TV)]) (KX3_needNumber x0 x5 v9) dX3_readAlone_62 moX3_needNumber rfl tw408 tw410 twp2 tw5 tw411 rfl (Nat.le_of_ble_eq_true rfl) (Nat.le_of_ble_eq_true rfl) (Nat.le_of_ble_eq_true rfl) (Nat.le_of_ble_eq_true rfl) (Nat.le_of_ble_eq_true rfl) rfl (fun v10 => ?_)
        refine J_if_ne (pc := 65) (tgt := 70) hc dX3_readAlone_65 (by decide) ?_ ?_
        · refine J_iload_n (pc := 70) hc dX3_readAlone_70 rfl rfl ?_
          refine J_aload_n (pc := 71) hc dX3_readAlone_71 rfl rfl ?_
          refine J_getA (pc := 72) hc clX3 (k := 2) (kd := 6) (Nat.le_of_ble_eq_true rfl) rfl (Nat.le_of_ble_eq_true rfl) tw177 (Or.inl rfl) dX3_readAlone_72 (fun v11 => ?_)
          refine J_callVi (pc := 75) hc clX6 (As := []) (KX6_number v11) dX3_readAlone_75 moX6_number rfl tw416 tw417 tw418 tw6 tw419 rfl (Nat.le_of_ble_eq_true rfl) (Nat.le_of_ble_eq_true rfl) (Nat.le_of_ble_eq_true rfl) (Nat.le_of_ble_eq_true rfl) (Nat.le_of_ble_eq_true rfl) rfl (fun v12 => ?_)
          refine J_iadd (pc := 78) hc dX3_readAlone_78 ?_
          refine J_nmi (fun v13 => ?_)
          refine J_istore (pc := 79) (l' := [some ((3, .ref x0) : TV), some ((0, .long x1) : TV), none, some ((0, .int x3) : TV), some ((0, .int x4) : TV), some ((0, .int x5) : TV), some ((0, .int x6) : TV), some ((0, .int v13) : TV)]) hc dX3_readAlone_79 (by decide) rfl rfl ?_
          refine J_iload (pc := 81) hc dX3_readAlone_81 rfl ?_
          refine J_aload_n (pc := 83) hc dX3_readAlone_83 rfl rfl ?_
          refine J_getA (pc := 84) hc clX3 (k := 3) (kd := 2) (Nat.le_of_ble_eq_true rfl) rfl (Nat.le_of_ble_eq_true rfl) tw179 (Or.inl rfl) dX3_readAlone_84 (fun v14 => ?_)
          refine J_getI (pc := 87) hc clX2 (k := 0) (Nat.le_of_ble_eq_true rfl) rfl tw55 (Or.inl rfl) dX3_readAlone_87 (fun v15 => ?_)
          refine J_icmp_le (pc := 90) (tgt := 99) hc dX3_readAlone_90 (by decide) ?_ ?_
          · refine J_lload_n (pc := 99) hc dX3_readAlone_99 rfl rfl ?_
            refine J_iload (pc := 100) hc dX3_readAlone_100 rfl ?_
            refine J_if_eq (pc := 102) (tgt := 114) hc dX3_readAlone_102 (by decide) ?_ ?_
            · refine J_lconst (pc := 114) (v := 0) hc dX3_readAlone_114 rfl ?_
              refine J_sub (l' := [some ((3, .ref x0) : TV), none, none, none, some ((0, .int x4) : TV), none, some ((0, .int x6) : TV), some ((0, .int v13) : TV)]) ⟨rfl, ⟨rfl, ⟨rfl, ⟨rfl, trivial⟩⟩⟩⟩ ?_
              exact jX3_readAlone_L115 hc he ih x0 x4 x6 v13 0 x1
            · refine J_iload_n (pc := 105) hc dX3_readAlone_105 rfl rfl ?_
              refine J_iload (pc := 106) hc dX3_readAlone_106 rfl ?_
              refine J_callSNj (pc := 108) hc (As := [((0, .int x3) : TV), ((0, .int v13) : TV)]) (KX7_span x3 v13) dX3_readAlone_108 moX7_span (by decide +kernel) tw480 tw2 tw481 rfl (Nat.le_of_ble_eq_true rfl) (Nat.le_of_ble_eq_true rfl) (Nat.le_of_ble_eq_true rfl) (Nat.le_of_ble_eq_true rfl) (Nat.le_of_ble_eq_true rfl) rfl (fun v16 => ?_)
              refine J_goto (pc := 111) (tgt := 115) hc dX3_readAlone_111 (by decide) ?_
              refine J_sub (l' := [some ((3, .ref x0) : TV), none, none, none, some ((0, .int x4) : TV), none, some ((0, .int x6) : TV), some ((0, .int v13) : TV)]) ⟨rfl, ⟨rfl, ⟨rfl, ⟨rfl, trivial⟩⟩⟩⟩ ?_
              exact jX3_readAlone_L115 hc he ih x0 x4 x6 v13 v16 x1
          · refine J_aload_n (pc := 93) hc dX3_readAlone_93 rfl rfl ?_
            refine J_iconst (pc := 94) (v := 4) hc dX3_readAlone_94 (by decide) ?_
            refine J_callVi (pc := 95) hc clX3 (As := [((0, .int 4) : TV)]) (KX3_failHere x0 4) dX3_readAlone_95 moX3_failHere rfl tw412 tw414 twp3 tw5 tw415 rfl (Nat.le_of_ble_eq_true rfl) (Nat.le_of_ble_eq_true rfl) (Nat.le_of_ble_eq_true rfl) (Nat.le_of_ble_eq_true rfl) (Nat.le_of_ble_eq_true rfl) rfl (fun v17 => ?_)
            exact J_zret (pc := 98) he dX3_readAlone_98
        · refine J_iconst (pc := 68) (v := 0) hc dX3_readAlone_68 (by decide) ?_
          exact J_zret (pc := 69) he dX3_readAlone_69
set_option maxRecDepth 100000 in
set_option maxHeartbeats 4000000 in
theorem jX3_readAlone {κ : Cx} {fin : Int32 → Mm → Prop} (hc : Jc κ RX3 cX3_readAlone 8 4 0 0 91) (he : EdZ κ cX3_readAlone 0 0 id fin) (x0 : Nat) : Jg κ (wM κ) 8 fin 0 0 0 [some ((3, .ref x0) : TV), none, none, none, none, none, none, none] [] (fX3_readAlone x0) := by
  unfold fX3_readAlone
  refine J_lconst (pc := 0) (v := 0) hc dX3_readAlone_0 rfl ?_
  refine J_lstore_n (pc := 1) (l' := [some ((3, .ref x0) : TV), some ((0, .long 0) : TV), none, none, none, none, none, none]) hc dX3_readAlone_1 rfl (by decide) rfl rfl ?_
  refine J_iconst (pc := 2) (v := 0) hc dX3_readAlone_2 (by decide) ?_
  refine J_istore_n (pc := 3) (l' := [some ((3, .ref x0) : TV), some ((0, .long 0) : TV), none, some ((0, .int 0) : TV), none, none, none, none]) hc dX3_readAlone_3 rfl (by decide) rfl rfl ?_
  refine J_iconst (pc := 4) (v := 0) hc dX3_readAlone_4 (by decide) ?_
  refine J_istore (pc := 5) (l' := [some ((3, .ref x0) : TV), some ((0, .long 0) : TV), none, some ((0, .int 0) : TV), some ((0, .int 0) : TV), none, none, none]) hc dX3_readAlone_5 (by decide) rfl rfl ?_
  refine J_iconst (pc := 7) (v := 0) hc dX3_readAlone_7 (by decide) ?_
  refine J_istore (pc := 8) (l' := [some ((3, .ref x0) : TV), some ((0, .long 0) : TV), none, some ((0, .int 0) : TV), some ((0, .int 0) : TV), some ((0, .int 0) : TV), none, none]) hc dX3_readAlone_8 (by decide) rfl rfl ?_
  refine J_aload_n (pc := 10) hc dX3_readAlone_10 rfl rfl ?_
  refine J_iconst (pc := 11) (v := 0) hc dX3_readAlone_11 (by decide) ?_
  refine J_aload_n (pc := 12) hc dX3_readAlone_12 rfl rfl ?_
  refine J_getA (pc := 13) hc clX3 (k := 3) (kd := 2) (Nat.le_of_ble_eq_true rfl) rfl (Nat.le_of_ble_eq_true rfl) tw179 (Or.inl rfl) dX3_readAlone_13 (fun v18 => ?_)
  refine J_getI (pc := 16) hc clX2 (k := 0) (Nat.le_of_ble_eq_true rfl) rfl tw55 (Or.inl rfl) dX3_readAlone_16 (fun v19 => ?_)
  refine J_callVi (pc := 19) hc clX3 (As := [((0, .int 0) : TV), ((0, .int v19) : TV)]) (KX3_needNumber x0 0 v19) dX3_readAlone_19 moX3_needNumber rfl tw408 tw410 twp2 tw5 tw411 rfl (Nat.le_of_ble_eq_true rfl) (Nat.le_of_ble_eq_true rfl) (Nat.le_of_ble_eq_true rfl) (Nat.le_of_ble_eq_true rfl) (Nat.le_of_ble_eq_true rfl) rfl (fun v20 => ?_)
  refine J_if_ne (pc := 22) (tgt := 27) hc dX3_readAlone_22 (by decide) ?_ ?_
  · refine J_aload_n (pc := 27) hc dX3_readAlone_27 rfl rfl ?_
    refine J_getA (pc := 28) hc clX3 (k := 2) (kd := 6) (Nat.le_of_ble_eq_true rfl) rfl (Nat.le_of_ble_eq_true rfl) tw177 (Or.inl rfl) dX3_readAlone_28 (fun v21 => ?_)
    refine J_getI (pc := 31) hc clX6 (k := 0) (Nat.le_of_ble_eq_true rfl) rfl tw116 (Or.inl rfl) dX3_readAlone_31 (fun v22 => ?_)
    refine J_istore (pc := 34) (l' := [some ((3, .ref x0) : TV), some ((0, .long 0) : TV), none, some ((0, .int 0) : TV), some ((0, .int 0) : TV), some ((0, .int 0) : TV), some ((0, .int v22) : TV), none]) hc dX3_readAlone_34 (by decide) rfl rfl ?_
    refine J_sub (l' := [some ((3, .ref x0) : TV), some ((0, .long 0) : TV), none, some ((0, .int 0) : TV), some ((0, .int 0) : TV), some ((0, .int 0) : TV), some ((0, .int v22) : TV), none]) ⟨rfl, ⟨rfl, ⟨rfl, ⟨rfl, ⟨rfl, ⟨rfl, trivial⟩⟩⟩⟩⟩⟩ ?_
    exact jX3_readAlone_L36 hc he fu x0 0 0 0 0 v22
  · refine J_iconst (pc := 25) (v := 0) hc dX3_readAlone_25 (by decide) ?_
    exact J_zret (pc := 26) he dX3_readAlone_26
theorem moX3_readAlone : MOk yX3_readAlone 0 := ⟨by decide +kernel, by decide +kernel, by decide +kernel⟩
set_option maxRecDepth 100000 in
set_option maxHeartbeats 4000000 in
theorem KX3_readAlone (x0 : Nat) : Ct wI yX3_readAlone cX3_readAlone 8 (some .boolean) 4 0 0 91 [((3, .ref x0) : TV)] (fX3_readAlone x0) :=
  Ct_Z ⟨rfl, rfl⟩ (j := 7) (by decide +kernel) rfl rfl (Nat.le_of_ble_eq_true rfl) (fun κ fin hc he => jX3_readAlone hc he x0)
set_option maxRecDepth 100000 in
set_option maxHeartbeats 4000000 in
theorem jX3_needRead {κ : Cx} {fin : Int32 → Mm → Prop} (hc : Jc κ RX3 cX3_needRead 3 0 0 0 0) (he : EdZ κ cX3_needRead 0 0 id fin) (x0 : Nat) (x1 : Int32) (x2 : Int32) : Jg κ (wM κ) 3 fin 0 0 0 [some ((3, .ref x0) : TV), some ((0, .int x1) : TV), some ((0, .int x2) : TV)] [] (fX3_needRead x0 x1 x2) := by
  unfold fX3_needRead
  refine J_iload_n (pc := 0) hc dX3_needRead_0 rfl rfl ?_
  refine J_if_ne (pc := 1) (tgt := 14) hc dX3_needRead_1 (by decide) ?_ ?_
  · refine J_iload_n (pc := 14) hc dX3_needRead_14 rfl rfl ?_
    exact J_zret (pc := 15) he dX3_needRead_15
  · refine J_aload_n (pc := 4) hc dX3_needRead_4 rfl rfl ?_
    refine J_iconst (pc := 5) (v := 4) hc dX3_needRead_5 (by decide) ?_
    refine J_putI (pc := 6) hc clX3 (k := 0) (Nat.le_of_ble_eq_true rfl) rfl rfl tw174 (Or.inl rfl) rfl dX3_needRead_6 ?_
    refine J_aload_n (pc := 9) hc dX3_needRead_9 rfl rfl ?_
    refine J_iload_n (pc := 10) hc dX3_needRead_10 rfl rfl ?_
    refine J_putI (pc := 11) hc clX3 (k := 1) (Nat.le_of_ble_eq_true rfl) rfl rfl tw176 (Or.inl rfl) rfl dX3_needRead_11 ?_
    refine J_iload_n (pc := 14) hc dX3_needRead_14 rfl rfl ?_
    exact J_zret (pc := 15) he dX3_needRead_15
theorem moX3_needRead : MOk yX3_needRead 2 := ⟨by decide +kernel, by decide +kernel, by decide +kernel⟩
set_option maxRecDepth 100000 in
set_option maxHeartbeats 4000000 in
theorem KX3_needRead (x0 : Nat) (x1 : Int32) (x2 : Int32) : Ct wI yX3_needRead cX3_needRead 3 (some .boolean) 0 0 0 0 [((3, .ref x0) : TV), ((0, .int x1) : TV), ((0, .int x2) : TV)] (fX3_needRead x0 x1 x2) :=
  Ct_Z ⟨rfl, rfl⟩ (j := 0) (by decide +kernel) rfl rfl (Nat.le_of_ble_eq_true rfl) (fun κ fin hc he => jX3_needRead hc he x0 x1 x2)
set_option maxRecDepth 100000 in
set_option maxHeartbeats 4000000 in
theorem jX3_readPass {κ : Cx} {fin : Int32 → Mm → Prop} (hc : Jc κ RX3 cX3_readPass 2 3 0 0 63) (he : EdZ κ cX3_readPass 0 0 id fin) (x0 : Nat) : Jg κ (wM κ) 2 fin 0 0 0 [some ((3, .ref x0) : TV), none] [] (fX3_readPass x0) := by
  unfold fX3_readPass
  refine J_aload_n (pc := 0) hc dX3_readPass_0 rfl rfl ?_
  refine J_getA (pc := 1) hc clX3 (k := 4) (kd := 4) (Nat.le_of_ble_eq_true rfl) rfl (Nat.le_of_ble_eq_true rfl) tw181 (Or.inl rfl) dX3_readPass_1 (fun v1 => ?_)
  refine J_callVi (pc := 4) hc clX4 (As := []) (KX4_hasEnded v1) dX3_readPass_4 moX4_hasEnded rfl tw522 tw523 tw524 tw7 tw525 rfl (Nat.le_of_ble_eq_true rfl) (Nat.le_of_ble_eq_true rfl) (Nat.le_of_ble_eq_true rfl) (Nat.le_of_ble_eq_true rfl) (Nat.le_of_ble_eq_true rfl) rfl (fun v2 => ?_)
  refine J_if_eq (pc := 7) (tgt := 16) hc dX3_readPass_7 (by decide) ?_ ?_
  · refine J_aload_n (pc := 16) hc dX3_readPass_16 rfl rfl ?_
    refine J_getA (pc := 17) hc clX3 (k := 2) (kd := 6) (Nat.le_of_ble_eq_true rfl) rfl (Nat.le_of_ble_eq_true rfl) tw177 (Or.inl rfl) dX3_readPass_17 (fun v3 => ?_)
    refine J_getI (pc := 20) hc clX6 (k := 2) (Nat.le_of_ble_eq_true rfl) rfl tw119 (Or.inl rfl) dX3_readPass_20 (fun v4 => ?_)
    refine J_istore_n (pc := 23) (l' := [some ((3, .ref x0) : TV), some ((0, .int v4) : TV)]) hc dX3_readPass_23 rfl (by decide) rfl rfl ?_
    refine J_aload_n (pc := 24) hc dX3_readPass_24 rfl rfl ?_
    refine J_getA (pc := 25) hc clX3 (k := 2) (kd := 6) (Nat.le_of_ble_eq_true rfl) rfl (Nat.le_of_ble_eq_true rfl) tw177 (Or.inl rfl) dX3_readPass_25 (fun v5 => ?_)
    refine J_callVv (pc := 28) hc clX6 (As := []) (KX6_next v5) dX3_readPass_28 moX6_next rfl tw407 tw337 tw338 tw6 tw339 rfl (Nat.le_of_ble_eq_true rfl) (Nat.le_of_ble_eq_true rfl) (Nat.le_of_ble_eq_true rfl) (Nat.le_of_ble_eq_true rfl) (Nat.le_of_ble_eq_true rfl) rfl (fun _ => ?_)
    refine J_aload_n (pc := 31) hc dX3_readPass_31 rfl rfl ?_
    refine J_aload_n (pc := 32) hc dX3_readPass_32 rfl rfl ?_
    refine J_getA (pc := 33) hc clX3 (k := 4) (kd := 4) (Nat.le_of_ble_eq_true rfl) rfl (Nat.le_of_ble_eq_true rfl) tw181 (Or.inl rfl) dX3_readPass_33 (fun v6 => ?_)
    refine J_callVi (pc := 36) hc clX4 (As := []) (KX4_pass v6) dX3_readPass_36 moX4_pass rfl tw526 tw527 tw528 tw7 tw529 rfl (Nat.le_of_ble_eq_true rfl) (Nat.le_of_ble_eq_true rfl) (Nat.le_of_ble_eq_true rfl) (Nat.le_of_ble_eq_true rfl) (Nat.le_of_ble_eq_true rfl) rfl (fun v7 => ?_)
    refine J_iload_n (pc := 39) hc dX3_readPass_39 rfl rfl ?_
    refine J_callVi (pc := 40) hc clX3 (As := [((0, .int v7) : TV), ((0, .int v4) : TV)]) (KX3_needRead x0 v7 v4) dX3_readPass_40 moX3_needRead rfl tw535 tw537 twp14 tw5 tw538 rfl (Nat.le_of_ble_eq_true rfl) (Nat.le_of_ble_eq_true rfl) (Nat.le_of_ble_eq_true rfl) (Nat.le_of_ble_eq_true rfl) (Nat.le_of_ble_eq_true rfl) rfl (fun v8 => ?_)
    exact J_zret (pc := 43) he dX3_readPass_43
  · refine J_aload_n (pc := 10) hc dX3_readPass_10 rfl rfl ?_
    refine J_iconst (pc := 11) (v := 4) hc dX3_readPass_11 (by decide) ?_
    refine J_callVi (pc := 12) hc clX3 (As := [((0, .int 4) : TV)]) (KX3_failHere x0 4) dX3_readPass_12 moX3_failHere rfl tw412 tw414 twp3 tw5 tw415 rfl (Nat.le_of_ble_eq_true rfl) (Nat.le_of_ble_eq_true rfl) (Nat.le_of_ble_eq_true rfl) (Nat.le_of_ble_eq_true rfl) (Nat.le_of_ble_eq_true rfl) rfl (fun v9 => ?_)
    exact J_zret (pc := 15) he dX3_readPass_15
theorem moX3_readPass : MOk yX3_readPass 0 := ⟨by decide +kernel, by decide +kernel, by decide +kernel⟩
set_option maxRecDepth 100000 in
set_option maxHeartbeats 4000000 in
theorem KX3_readPass (x0 : Nat) : Ct wI yX3_readPass cX3_readPass 2 (some .boolean) 3 0 0 63 [((3, .ref x0) : TV)] (fX3_readPass x0) :=
  Ct_Z ⟨rfl, rfl⟩ (j := 1) (by decide +kernel) rfl rfl (Nat.le_of_ble_eq_true rfl) (fun κ fin hc he => jX3_readPass hc he x0)
set_option maxRecDepth 100000 in
set_option maxHeartbeats 4000000 in
theorem jX3_readVertical_L92 {κ : Cx} {fin : Int32 → Mm → Prop} (hc : Jc κ RX3 cX3_readVertical 4 3 0 0 66) (he : EdZ κ cX3_readVertical 0 0 id fin) (x0 : Nat) (x1 : Int32) (s0 : Int32) : Jg κ (wM κ) 4 fin 0 0 92 [some ((3, .ref x0) : TV), some ((0, .int x1) : TV), none, none] [((0, .int s0) : TV)] (fX3_readVertical_L92 x0 x1 s0) := by
  unfold fX3_readVertical_L92
  refine J_istore_n (pc := 92) (l' := [some ((3, .ref x0) : TV), some ((0, .int x1) : TV), none, some ((0, .int s0) : TV)]) hc dX3_readVertical_92 rfl (by decide) rfl rfl ?_
  refine J_aload_n (pc := 93) hc dX3_readVertical_93 rfl rfl ?_
  refine J_getA (pc := 94) hc clX3 (k := 2) (kd := 6) (Nat.le_of_ble_eq_true rfl) rfl (Nat.le_of_ble_eq_true rfl) tw177 (Or.inl rfl) dX3_readVertical_94 (fun v1 => ?_)
  refine J_callVv (pc := 97) hc clX6 (As := []) (KX6_next v1) dX3_readVertical_97 moX6_next rfl tw407 tw337 tw338 tw6 tw339 rfl (Nat.le_of_ble_eq_true rfl) (Nat.le_of_ble_eq_true rfl) (Nat.le_of_ble_eq_true rfl) (Nat.le_of_ble_eq_true rfl) (Nat.le_of_ble_eq_true rfl) rfl (fun _ => ?_)
  refine J_aload_n (pc := 100) hc dX3_readVertical_100 rfl rfl ?_
  refine J_aload_n (pc := 101) hc dX3_readVertical_101 rfl rfl ?_
  refine J_getA (pc := 102) hc clX3 (k := 4) (kd := 4) (Nat.le_of_ble_eq_true rfl) rfl (Nat.le_of_ble_eq_true rfl) tw181 (Or.inl rfl) dX3_readVertical_102 (fun v2 => ?_)
  refine J_iload_n (pc := 105) hc dX3_readVertical_105 rfl rfl ?_
  refine J_callVi (pc := 106) hc clX4 (As := [((0, .int s0) : TV)]) (KX4_goVertical v2 s0) dX3_readVertical_106 moX4_goVertical rfl tw544 tw545 tw546 tw7 tw547 rfl (Nat.le_of_ble_eq_true rfl) (Nat.le_of_ble_eq_true rfl) (Nat.le_of_ble_eq_true rfl) (Nat.le_of_ble_eq_true rfl) (Nat.le_of_ble_eq_true rfl) rfl (fun v3 => ?_)
  refine J_iload_n (pc := 109) hc dX3_readVertical_109 rfl rfl ?_
  refine J_callVi (pc := 110) hc clX3 (As := [((0, .int v3) : TV), ((0, .int x1) : TV)]) (KX3_needRead x0 v3 x1) dX3_readVertical_110 moX3_needRead rfl tw535 tw537 twp14 tw5 tw538 rfl (Nat.le_of_ble_eq_true rfl) (Nat.le_of_ble_eq_true rfl) (Nat.le_of_ble_eq_true rfl) (Nat.le_of_ble_eq_true rfl) (Nat.le_of_ble_eq_true rfl) rfl (fun v4 => ?_)
  exact J_zret (pc := 113) he dX3_readVertical_113
set_option maxRecDepth 100000 in
set_option maxHeartbeats 4000000 in
theorem jX3_readVertical_L59 {κ : Cx} {fin : Int32 → Mm → Prop} (hc : Jc κ RX3 cX3_readVertical 4 3 0 0 66) (he : EdZ κ cX3_readVertical 0 0 id fin) (x0 : Nat) (x1 : Int32) (x2 : Int32) : Jg κ (wM κ) 4 fin 0 0 59 [some ((3, .ref x0) : TV), some ((0, .int x1) : TV), some ((0, .int x2) : TV), none] [] (fX3_readVertical_L59 x0 x1 x2) := by
  unfold fX3_readVertical_L59
  refine J_aload_n (pc := 59) hc dX3_readVertical_59 rfl rfl ?_
  refine J_iconst (pc := 60) (v := 0) hc dX3_readVertical_60 (by decide) ?_
  refine J_iconst (pc := 61) (v := 3) hc dX3_readVertical_61 (by decide) ?_
  refine J_callVi (pc := 62) hc clX3 (As := [((0, .int 0) : TV), ((0, .int 3) : TV)]) (KX3_needNumber x0 0 3) dX3_readVertical_62 moX3_needNumber rfl tw408 tw410 twp2 tw5 tw411 rfl (Nat.le_of_ble_eq_true rfl) (Nat.le_of_ble_eq_true rfl) (Nat.le_of_ble_eq_true rfl) (Nat.le_of_ble_eq_true rfl) (Nat.le_of_ble_eq_true rfl) rfl (fun v5 => ?_)
  refine J_if_ne (pc := 65) (tgt := 70) hc dX3_readVertical_65 (by decide) ?_ ?_
  · refine J_iload_n (pc := 70) hc dX3_readVertical_70 rfl rfl ?_
    refine J_if_eq (pc := 71) (tgt := 85) hc dX3_readVertical_71 (by decide) ?_ ?_
    · refine J_aload_n (pc := 85) hc dX3_readVertical_85 rfl rfl ?_
      refine J_getA (pc := 86) hc clX3 (k := 2) (kd := 6) (Nat.le_of_ble_eq_true rfl) rfl (Nat.le_of_ble_eq_true rfl) tw177 (Or.inl rfl) dX3_readVertical_86 (fun v6 => ?_)
      refine J_callVi (pc := 89) hc clX6 (As := []) (KX6_number v6) dX3_readVertical_89 moX6_number rfl tw416 tw417 tw418 tw6 tw419 rfl (Nat.le_of_ble_eq_true rfl) (Nat.le_of_ble_eq_true rfl) (Nat.le_of_ble_eq_true rfl) (Nat.le_of_ble_eq_true rfl) (Nat.le_of_ble_eq_true rfl) rfl (fun v7 => ?_)
      refine J_sub (l' := [some ((3, .ref x0) : TV), some ((0, .int x1) : TV), none, none]) ⟨rfl, ⟨rfl, trivial⟩⟩ ?_
      exact jX3_readVertical_L92 hc he x0 x1 v7
    · refine J_aload_n (pc := 74) hc dX3_readVertical_74 rfl rfl ?_
      refine J_getA (pc := 75) hc clX3 (k := 2) (kd := 6) (Nat.le_of_ble_eq_true rfl) rfl (Nat.le_of_ble_eq_true rfl) tw177 (Or.inl rfl) dX3_readVertical_75 (fun v8 => ?_)
      refine J_callVi (pc := 78) hc clX6 (As := []) (KX6_number v8) dX3_readVertical_78 moX6_number rfl tw416 tw417 tw418 tw6 tw419 rfl (Nat.le_of_ble_eq_true rfl) (Nat.le_of_ble_eq_true rfl) (Nat.le_of_ble_eq_true rfl) (Nat.le_of_ble_eq_true rfl) (Nat.le_of_ble_eq_true rfl) rfl (fun v9 => ?_)
      refine J_ineg (pc := 81) hc dX3_readVertical_81 ?_
      refine J_goto (pc := 82) (tgt := 92) hc dX3_readVertical_82 (by decide) ?_
      refine J_sub (l' := [some ((3, .ref x0) : TV), some ((0, .int x1) : TV), none, none]) ⟨rfl, ⟨rfl, trivial⟩⟩ ?_
      exact jX3_readVertical_L92 hc he x0 x1 (-v9)
  · refine J_iconst (pc := 68) (v := 0) hc dX3_readVertical_68 (by decide) ?_
    exact J_zret (pc := 69) he dX3_readVertical_69
set_option maxRecDepth 100000 in
set_option maxHeartbeats 4000000 in
theorem jX3_readVertical_L47 {κ : Cx} {fin : Int32 → Mm → Prop} (hc : Jc κ RX3 cX3_readVertical 4 3 0 0 66) (he : EdZ κ cX3_readVertical 0 0 id fin) (x0 : Nat) (x1 : Int32) (s0 : Int32) : Jg κ (wM κ) 4 fin 0 0 47 [some ((3, .ref x0) : TV), some ((0, .int x1) : TV), none, none] [((0, .int s0) : TV)] (fX3_readVertical_L47 x0 x1 s0) := by
  unfold fX3_readVertical_L47
  refine J_istore_n (pc := 47) (l' := [some ((3, .ref x0) : TV), some ((0, .int x1) : TV), some ((0, .int s0) : TV), none]) hc dX3_readVertical_47 rfl (by decide) rfl rfl ?_
  refine J_iload_n (pc := 48) hc dX3_readVertical_48 rfl rfl ?_
  refine J_if_eq (pc := 49) (tgt := 59) hc dX3_readVertical_49 (by decide) ?_ ?_
  · refine J_sub (l' := [some ((3, .ref x0) : TV), some ((0, .int x1) : TV), some ((0, .int s0) : TV), none]) ⟨rfl, ⟨rfl, ⟨rfl, trivial⟩⟩⟩ ?_
    exact jX3_readVertical_L59 hc he x0 x1 s0
  · refine J_aload_n (pc := 52) hc dX3_readVertical_52 rfl rfl ?_
    refine J_getA (pc := 53) hc clX3 (k := 2) (kd := 6) (Nat.le_of_ble_eq_true rfl) rfl (Nat.le_of_ble_eq_true rfl) tw177 (Or.inl rfl) dX3_readVertical_53 (fun v10 => ?_)
    refine J_callVv (pc := 56) hc clX6 (As := []) (KX6_next v10) dX3_readVertical_56 moX6_next rfl tw407 tw337 tw338 tw6 tw339 rfl (Nat.le_of_ble_eq_true rfl) (Nat.le_of_ble_eq_true rfl) (Nat.le_of_ble_eq_true rfl) (Nat.le_of_ble_eq_true rfl) (Nat.le_of_ble_eq_true rfl) rfl (fun _ => ?_)
    refine J_sub (l' := [some ((3, .ref x0) : TV), some ((0, .int x1) : TV), some ((0, .int s0) : TV), none]) ⟨rfl, ⟨rfl, ⟨rfl, trivial⟩⟩⟩ ?_
    exact jX3_readVertical_L59 hc he x0 x1 s0
set_option maxRecDepth 100000 in
set_option maxHeartbeats 4000000 in
theorem jX3_readVertical {κ : Cx} {fin : Int32 → Mm → Prop} (hc : Jc κ RX3 cX3_readVertical 4 3 0 0 66) (he : EdZ κ cX3_readVertical 0 0 id fin) (x0 : Nat) : Jg κ (wM κ) 4 fin 0 0 0 [some ((3, .ref x0) : TV), none, none, none] [] (fX3_readVertical x0) := by
  unfold fX3_readVertical
  refine J_aload_n (pc := 0) hc dX3_readVertical_0 rfl rfl ?_
  refine J_getA (pc := 1) hc clX3 (k := 4) (kd := 4) (Nat.le_of_ble_eq_true rfl) rfl (Nat.le_of_ble_eq_true rfl) tw181 (Or.inl rfl) dX3_readVertical_1 (fun v11 => ?_)
  refine J_callVi (pc := 4) hc clX4 (As := []) (KX4_hasEnded v11) dX3_readVertical_4 moX4_hasEnded rfl tw522 tw523 tw524 tw7 tw525 rfl (Nat.le_of_ble_eq_true rfl) (Nat.le_of_ble_eq_true rfl) (Nat.le_of_ble_eq_true rfl) (Nat.le_of_ble_eq_true rfl) (Nat.le_of_ble_eq_true rfl) rfl (fun v12 => ?_)
  refine J_if_eq (pc := 7) (tgt := 16) hc dX3_readVertical_7 (by decide) ?_ ?_
  · refine J_aload_n (pc := 16) hc dX3_readVertical_16 rfl rfl ?_
    refine J_getA (pc := 17) hc clX3 (k := 2) (kd := 6) (Nat.le_of_ble_eq_true rfl) rfl (Nat.le_of_ble_eq_true rfl) tw177 (Or.inl rfl) dX3_readVertical_17 (fun v13 => ?_)
    refine J_getI (pc := 20) hc clX6 (k := 2) (Nat.le_of_ble_eq_true rfl) rfl tw119 (Or.inl rfl) dX3_readVertical_20 (fun v14 => ?_)
    refine J_istore_n (pc := 23) (l' := [some ((3, .ref x0) : TV), some ((0, .int v14) : TV), none, none]) hc dX3_readVertical_23 rfl (by decide) rfl rfl ?_
    refine J_aload_n (pc := 24) hc dX3_readVertical_24 rfl rfl ?_
    refine J_getA (pc := 25) hc clX3 (k := 2) (kd := 6) (Nat.le_of_ble_eq_true rfl) rfl (Nat.le_of_ble_eq_true rfl) tw177 (Or.inl rfl) dX3_readVertical_25 (fun v15 => ?_)
    refine J_callVv (pc := 28) hc clX6 (As := []) (KX6_next v15) dX3_readVertical_28 moX6_next rfl tw407 tw337 tw338 tw6 tw339 rfl (Nat.le_of_ble_eq_true rfl) (Nat.le_of_ble_eq_true rfl) (Nat.le_of_ble_eq_true rfl) (Nat.le_of_ble_eq_true rfl) (Nat.le_of_ble_eq_true rfl) rfl (fun _ => ?_)
    refine J_aload_n (pc := 31) hc dX3_readVertical_31 rfl rfl ?_
    refine J_getA (pc := 32) hc clX3 (k := 2) (kd := 6) (Nat.le_of_ble_eq_true rfl) rfl (Nat.le_of_ble_eq_true rfl) tw177 (Or.inl rfl) dX3_readVertical_32 (fun v16 => ?_)
    refine J_getI (pc := 35) hc clX6 (k := 1) (Nat.le_of_ble_eq_true rfl) rfl tw117 (Or.inl rfl) dX3_readVertical_35 (fun v17 => ?_)
    refine J_iconst (pc := 38) (v := 4) hc dX3_readVertical_38 (by decide) ?_
    refine J_icmp_ne (pc := 39) (tgt := 46) hc dX3_readVertical_39 (by decide) ?_ ?_
    · refine J_iconst (pc := 46) (v := 0) hc dX3_readVertical_46 (by decide) ?_
      refine J_sub (l' := [some ((3, .ref x0) : TV), some ((0, .int v14) : TV), none, none]) ⟨rfl, ⟨rfl, trivial⟩⟩ ?_
      exact jX3_readVertical_L47 hc he x0 v14 0
    · refine J_iconst (pc := 42) (v := 1) hc dX3_readVertical_42 (by decide) ?_
      refine J_goto (pc := 43) (tgt := 47) hc dX3_readVertical_43 (by decide) ?_
      refine J_sub (l' := [some ((3, .ref x0) : TV), some ((0, .int v14) : TV), none, none]) ⟨rfl, ⟨rfl, trivial⟩⟩ ?_
      exact jX3_readVertical_L47 hc he x0 v14 1
  · refine J_aload_n (pc := 10) hc dX3_readVertical_10 rfl rfl ?_
    refine J_iconst (pc := 11) (v := 4) hc dX3_readVertical_11 (by decide) ?_
    refine J_callVi (pc := 12) hc clX3 (As := [((0, .int 4) : TV)]) (KX3_failHere x0 4) dX3_readVertical_12 moX3_failHere rfl tw412 tw414 twp3 tw5 tw415 rfl (Nat.le_of_ble_eq_true rfl) (Nat.le_of_ble_eq_true rfl) (Nat.le_of_ble_eq_true rfl) (Nat.le_of_ble_eq_true rfl) (Nat.le_of_ble_eq_true rfl) rfl (fun v18 => ?_)
    exact J_zret (pc := 15) he dX3_readVertical_15
theorem moX3_readVertical : MOk yX3_readVertical 0 := ⟨by decide +kernel, by decide +kernel, by decide +kernel⟩
set_option maxRecDepth 100000 in
set_option maxHeartbeats 4000000 in
theorem KX3_readVertical (x0 : Nat) : Ct wI yX3_readVertical cX3_readVertical 4 (some .boolean) 3 0 0 66 [((3, .ref x0) : TV)] (fX3_readVertical x0) :=
  Ct_Z ⟨rfl, rfl⟩ (j := 3) (by decide +kernel) rfl rfl (Nat.le_of_ble_eq_true rfl) (fun κ fin hc he => jX3_readVertical hc he x0)
set_option maxRecDepth 100000 in
set_option maxHeartbeats 4000000 in
theorem jX3_readHorizontal {κ : Cx} {fin : Int32 → Mm → Prop} (hc : Jc κ RX3 cX3_readHorizontal 4 3 0 0 66) (he : EdZ κ cX3_readHorizontal 0 0 id fin) (x0 : Nat) : Jg κ (wM κ) 4 fin 0 0 0 [some ((3, .ref x0) : TV), none, none, none] [] (fX3_readHorizontal x0) := by
  unfold fX3_readHorizontal
  refine J_aload_n (pc := 0) hc dX3_readHorizontal_0 rfl rfl ?_
  refine J_getA (pc := 1) hc clX3 (k := 4) (kd := 4) (Nat.le_of_ble_eq_true rfl) rfl (Nat.le_of_ble_eq_true rfl) tw181 (Or.inl rfl) dX3_readHorizontal_1 (fun v1 => ?_)
  refine J_callVi (pc := 4) hc clX4 (As := []) (KX4_hasEnded v1) dX3_readHorizontal_4 moX4_hasEnded rfl tw522 tw523 tw524 tw7 tw525 rfl (Nat.le_of_ble_eq_true rfl) (Nat.le_of_ble_eq_true rfl) (Nat.le_of_ble_eq_true rfl) (Nat.le_of_ble_eq_true rfl) (Nat.le_of_ble_eq_true rfl) rfl (fun v2 => ?_)
  refine J_if_eq (pc := 7) (tgt := 16) hc dX3_readHorizontal_7 (by decide) ?_ ?_
  · refine J_aload_n (pc := 16) hc dX3_readHorizontal_16 rfl rfl ?_
    refine J_getA (pc := 17) hc clX3 (k := 2) (kd := 6) (Nat.le_of_ble_eq_true rfl) rfl (Nat.le_of_ble_eq_true rfl) tw177 (Or.inl rfl) dX3_readHorizontal_17 (fun v3 => ?_)
    refine J_getI (pc := 20) hc clX6 (k := 2) (Nat.le_of_ble_eq_true rfl) rfl tw119 (Or.inl rfl) dX3_readHorizontal_20 (fun v4 => ?_)
    refine J_istore_n (pc := 23) (l' := [some ((3, .ref x0) : TV), some ((0, .int v4) : TV), none, none]) hc dX3_readHorizontal_23 rfl (by decide) rfl rfl ?_
    refine J_aload_n (pc := 24) hc dX3_readHorizontal_24 rfl rfl ?_
    refine J_getA (pc := 25) hc clX3 (k := 2) (kd := 6) (Nat.le_of_ble_eq_true rfl) rfl (Nat.le_of_ble_eq_true rfl) tw177 (Or.inl rfl) dX3_readHorizontal_25 (fun v5 => ?_)
    refine J_callVv (pc := 28) hc clX6 (As := []) (KX6_next v5) dX3_readHorizontal_28 moX6_next rfl tw407 tw337 tw338 tw6 tw339 rfl (Nat.le_of_ble_eq_true rfl) (Nat.le_of_ble_eq_true rfl) (Nat.le_of_ble_eq_true rfl) (Nat.le_of_ble_eq_true rfl) (Nat.le_of_ble_eq_true rfl) rfl (fun _ => ?_)
    refine J_aload_n (pc := 31) hc dX3_readHorizontal_31 rfl rfl ?_
    refine J_iconst (pc := 32) (v := 0) hc dX3_readHorizontal_32 (by decide) ?_
    refine J_aload_n (pc := 33) hc dX3_readHorizontal_33 rfl rfl ?_
    refine J_getA (pc := 34) hc clX3 (k := 3) (kd := 2) (Nat.le_of_ble_eq_true rfl) rfl (Nat.le_of_ble_eq_true rfl) tw179 (Or.inl rfl) dX3_readHorizontal_34 (fun v6 => ?_)
    refine J_getI (pc := 37) hc clX2 (k := 0) (Nat.le_of_ble_eq_true rfl) rfl tw55 (Or.inl rfl) dX3_readHorizontal_37 (fun v7 => ?_)
    refine J_callVi (pc := 40) hc clX3 (As := [((0, .int 0) : TV), ((0, .int v7) : TV)]) (KX3_needNumber x0 0 v7) dX3_readHorizontal_40 moX3_needNumber rfl tw408 tw410 twp2 tw5 tw411 rfl (Nat.le_of_ble_eq_true rfl) (Nat.le_of_ble_eq_true rfl) (Nat.le_of_ble_eq_true rfl) (Nat.le_of_ble_eq_true rfl) (Nat.le_of_ble_eq_true rfl) rfl (fun v8 => ?_)
    refine J_if_ne (pc := 43) (tgt := 48) hc dX3_readHorizontal_43 (by decide) ?_ ?_
    · refine J_aload_n (pc := 48) hc dX3_readHorizontal_48 rfl rfl ?_
      refine J_getA (pc := 49) hc clX3 (k := 2) (kd := 6) (Nat.le_of_ble_eq_true rfl) rfl (Nat.le_of_ble_eq_true rfl) tw177 (Or.inl rfl) dX3_readHorizontal_49 (fun v9 => ?_)
      refine J_callVi (pc := 52) hc clX6 (As := []) (KX6_number v9) dX3_readHorizontal_52 moX6_number rfl tw416 tw417 tw418 tw6 tw419 rfl (Nat.le_of_ble_eq_true rfl) (Nat.le_of_ble_eq_true rfl) (Nat.le_of_ble_eq_true rfl) (Nat.le_of_ble_eq_true rfl) (Nat.le_of_ble_eq_true rfl) rfl (fun v10 => ?_)
      refine J_istore_n (pc := 55) (l' := [some ((3, .ref x0) : TV), some ((0, .int v4) : TV), some ((0, .int v10) : TV), none]) hc dX3_readHorizontal_55 rfl (by decide) rfl rfl ?_
      refine J_aload_n (pc := 56) hc dX3_readHorizontal_56 rfl rfl ?_
      refine J_getA (pc := 57) hc clX3 (k := 2) (kd := 6) (Nat.le_of_ble_eq_true rfl) rfl (Nat.le_of_ble_eq_true rfl) tw177 (Or.inl rfl) dX3_readHorizontal_57 (fun v11 => ?_)
      refine J_callVv (pc := 60) hc clX6 (As := []) (KX6_next v11) dX3_readHorizontal_60 moX6_next rfl tw407 tw337 tw338 tw6 tw339 rfl (Nat.le_of_ble_eq_true rfl) (Nat.le_of_ble_eq_true rfl) (Nat.le_of_ble_eq_true rfl) (Nat.le_of_ble_eq_true rfl) (Nat.le_of_ble_eq_true rfl) rfl (fun _ => ?_)
      refine J_aload_n (pc := 63) hc dX3_readHorizontal_63 rfl rfl ?_
      refine J_iconst (pc := 64) (v := 0) hc dX3_readHorizontal_64 (by decide) ?_
      refine J_aload_n (pc := 65) hc dX3_readHorizontal_65 rfl rfl ?_
      refine J_getA (pc := 66) hc clX3 (k := 3) (kd := 2) (Nat.le_of_ble_eq_true rfl) rfl (Nat.le_of_ble_eq_true rfl) tw179 (Or.inl rfl) dX3_readHorizontal_66 (fun v12 => ?_)
      refine J_getI (pc := 69) hc clX2 (k := 0) (Nat.le_of_ble_eq_true rfl) rfl tw55 (Or.inl rfl) dX3_readHorizontal_69 (fun v13 => ?_)
      refine J_callVi (pc := 72) hc clX3 (As := [((0, .int 0) : TV), ((0, .int v13) : TV)]) (KX3_needNumber x0 0 v13) dX3_readHorizontal_72 moX3_needNumber rfl tw408 tw410 twp2 tw5 tw411 rfl (Nat.le_of_ble_eq_true rfl) (Nat.le_of_ble_eq_true rfl) (Nat.le_of_ble_eq_true rfl) (Nat.le_of_ble_eq_true rfl) (Nat.le_of_ble_eq_true rfl) rfl (fun v14 => ?_)
      refine J_if_ne (pc := 75) (tgt := 80) hc dX3_readHorizontal_75 (by decide) ?_ ?_
      · refine J_aload_n (pc := 80) hc dX3_readHorizontal_80 rfl rfl ?_
        refine J_getA (pc := 81) hc clX3 (k := 2) (kd := 6) (Nat.le_of_ble_eq_true rfl) rfl (Nat.le_of_ble_eq_true rfl) tw177 (Or.inl rfl) dX3_readHorizontal_81 (fun v15 => ?_)
        refine J_callVi (pc := 84) hc clX6 (As := []) (KX6_number v15) dX3_readHorizontal_84 moX6_number rfl tw416 tw417 tw418 tw6 tw419 rfl (Nat.le_of_ble_eq_true rfl) (Nat.le_of_ble_eq_true rfl) (Nat.le_of_ble_eq_true rfl) (Nat.le_of_ble_eq_true rfl) (Nat.le_of_ble_eq_true rfl) rfl (fun v16 => ?_)
        refine J_istore_n (pc := 87) (l' := [some ((3, .ref x0) : TV), some ((0, .int v4) : TV), some ((0, .int v10) : TV), some ((0, .int v16) : TV)]) hc dX3_readHorizontal_87 rfl (by decide) rfl rfl ?_
        refine J_aload_n (pc := 88) hc dX3_readHorizontal_88 rfl rfl ?_
        refine J_getA (pc := 89) hc clX3 (k := 2) (kd := 6) (Nat.le_of_ble_eq_true rfl) rfl (Nat.le_of_ble_eq_true rfl) tw177 (Or.inl rfl) dX3_readHorizontal_89 (fun v17 => ?_)
        refine J_callVv (pc := 92) hc clX6 (As := []) (KX6_next v17) dX3_readHorizontal_92 moX6_next rfl tw407 tw337 tw338 tw6 tw339 rfl (Nat.le_of_ble_eq_true rfl) (Nat.le_of_ble_eq_true rfl) (Nat.le_of_ble_eq_true rfl) (Nat.le_of_ble_eq_true rfl) (Nat.le_of_ble_eq_true rfl) rfl (fun _ => ?_)
        refine J_aload_n (pc := 95) hc dX3_readHorizontal_95 rfl rfl ?_
        refine J_aload_n (pc := 96) hc dX3_readHorizontal_96 rfl rfl ?_
        refine J_getA (pc := 97) hc clX3 (k := 4) (kd := 4) (Nat.le_of_ble_eq_true rfl) rfl (Nat.le_of_ble_eq_true rfl) tw181 (Or.inl rfl) dX3_readHorizontal_97 (fun v18 => ?_)
        refine J_iload_n (pc := 100) hc dX3_readHorizontal_100 rfl rfl ?_
        refine J_iload_n (pc := 101) hc dX3_readHorizontal_101 rfl rfl ?_
        refine J_callVi (pc := 102) hc clX4 (As := [((0, .int v10) : TV), ((0, .int v16) : TV)]) (KX4_goHorizontal v18 v10 v16) dX3_readHorizontal_102 moX4_goHorizontal rfl tw553 tw554 tw555 tw7 tw556 rfl (Nat.le_of_ble_eq_true rfl) (Nat.le_of_ble_eq_true rfl) (Nat.le_of_ble_eq_true rfl) (Nat.le_of_ble_eq_true rfl) (Nat.le_of_ble_eq_true rfl) rfl (fun v19 => ?_)
        refine J_iload_n (pc := 105) hc dX3_readHorizontal_105 rfl rfl ?_
        refine J_callVi (pc := 106) hc clX3 (As := [((0, .int v19) : TV), ((0, .int v4) : TV)]) (KX3_needRead x0 v19 v4) dX3_readHorizontal_106 moX3_needRead rfl tw535 tw537 twp14 tw5 tw538 rfl (Nat.le_of_ble_eq_true rfl) (Nat.le_of_ble_eq_true rfl) (Nat.le_of_ble_eq_true rfl) (Nat.le_of_ble_eq_true rfl) (Nat.le_of_ble_eq_true rfl) rfl (fun v20 => ?_)
        exact J_zret (pc := 109) he dX3_readHorizontal_109
      · refine J_iconst (pc := 78) (v := 0) hc dX3_readHorizontal_78 (by decide) ?_
        exact J_zret (pc := 79) he dX3_readHorizontal_79
    · refine J_iconst (pc := 46) (v := 0) hc dX3_readHorizontal_46 (by decide) ?_
      exact J_zret (pc := 47) he dX3_readHorizontal_47
  · refine J_aload_n (pc := 10) hc dX3_readHorizontal_10 rfl rfl ?_
    refine J_iconst (pc := 11) (v := 4) hc dX3_readHorizontal_11 (by decide) ?_
    refine J_callVi (pc := 12) hc clX3 (As := [((0, .int 4) : TV)]) (KX3_failHere x0 4) dX3_readHorizontal_12 moX3_failHere rfl tw412 tw414 twp3 tw5 tw415 rfl (Nat.le_of_ble_eq_true rfl) (Nat.le_of_ble_eq_true rfl) (Nat.le_of_ble_eq_true rfl) (Nat.le_of_ble_eq_true rfl) (Nat.le_of_ble_eq_true rfl) rfl (fun v21 => ?_)
    exact J_zret (pc := 15) he dX3_readHorizontal_15
theorem moX3_readHorizontal : MOk yX3_readHorizontal 0 := ⟨by decide +kernel, by decide +kernel, by decide +kernel⟩
set_option maxRecDepth 100000 in
set_option maxHeartbeats 4000000 in
theorem KX3_readHorizontal (x0 : Nat) : Ct wI yX3_readHorizontal cX3_readHorizontal 4 (some .boolean) 3 0 0 66 [((3, .ref x0) : TV)] (fX3_readHorizontal x0) :=
  Ct_Z ⟨rfl, rfl⟩ (j := 3) (by decide +kernel) rfl rfl (Nat.le_of_ble_eq_true rfl) (fun κ fin hc he => jX3_readHorizontal hc he x0)
set_option maxRecDepth 100000 in
set_option maxHeartbeats 4000000 in
theorem jX3_readAbove_L138 {κ : Cx} {fin : Int32 → Mm → Prop} (hc : Jc κ RX3 cX3_readAbove 3 5 0 0 107) (he : EdZ κ cX3_readAbove 0 0 id fin) (x0 : Nat) (x1 : Int32) : Jg κ (wM κ) 3 fin 0 0 138 [some ((3, .ref x0) : TV), some ((0, .int x1) : TV), none] [] (fX3_readAbove_L138 x0 x1) := by
  unfold fX3_readAbove_L138
  refine J_iload_n (pc := 138) hc dX3_readAbove_138 rfl rfl ?_
  refine J_if_eq (pc := 139) (tgt := 167) hc dX3_readAbove_139 (by decide) ?_ ?_
  · refine J_iconst (pc := 167) (v := 0) hc dX3_readAbove_167 (by decide) ?_
    exact J_zret (pc := 168) he dX3_readAbove_168
  · refine J_aload_n (pc := 142) hc dX3_readAbove_142 rfl rfl ?_
    refine J_aload_n (pc := 143) hc dX3_readAbove_143 rfl rfl ?_
    refine J_getA (pc := 144) hc clX3 (k := 4) (kd := 4) (Nat.le_of_ble_eq_true rfl) rfl (Nat.le_of_ble_eq_true rfl) tw181 (Or.inl rfl) dX3_readAbove_144 (fun v1 => ?_)
    refine J_callVi (pc := 147) hc clX4 (As := []) (KX4_hasEnded v1) dX3_readAbove_147 moX4_hasEnded rfl tw522 tw523 tw524 tw7 tw525 rfl (Nat.le_of_ble_eq_true rfl) (Nat.le_of_ble_eq_true rfl) (Nat.le_of_ble_eq_true rfl) (Nat.le_of_ble_eq_true rfl) (Nat.le_of_ble_eq_true rfl) rfl (fun v2 => ?_)
    refine J_aload_n (pc := 150) hc dX3_readAbove_150 rfl rfl ?_
    refine J_getA (pc := 151) hc clX3 (k := 4) (kd := 4) (Nat.le_of_ble_eq_true rfl) rfl (Nat.le_of_ble_eq_true rfl) tw181 (Or.inl rfl) dX3_readAbove_151 (fun v3 => ?_)
    refine J_getJ (pc := 154) hc clX4 (k := 3) (Nat.le_of_ble_eq_true rfl) rfl tw150 (Or.inl rfl) dX3_readAbove_154 (fun v4 => ?_)
    refine J_callVi (pc := 157) hc clX3 (As := [((0, .int v2) : TV), ((0, .long v4) : TV)]) (KX3_endCode x0 v2 v4) dX3_readAbove_157 moX3_endCode rfl tw482 tw484 twp10 tw5 tw485 rfl (Nat.le_of_ble_eq_true rfl) (Nat.le_of_ble_eq_true rfl) (Nat.le_of_ble_eq_true rfl) (Nat.le_of_ble_eq_true rfl) (Nat.le_of_ble_eq_true rfl) rfl (fun v5 => ?_)
    refine J_if_eq (pc := 160) (tgt := 167) hc dX3_readAbove_160 (by decide) ?_ ?_
    · refine J_iconst (pc := 167) (v := 0) hc dX3_readAbove_167 (by decide) ?_
      exact J_zret (pc := 168) he dX3_readAbove_168
    · refine J_iconst (pc := 163) (v := 1) hc dX3_readAbove_163 (by decide) ?_
      refine J_goto (pc := 164) (tgt := 168) hc dX3_readAbove_164 (by decide) ?_
      exact J_zret (pc := 168) he dX3_readAbove_168
set_option maxRecDepth 100000 in
set_option maxHeartbeats 4000000 in
theorem jX3_readAbove_L132 {κ : Cx} {fin : Int32 → Mm → Prop} (hc : Jc κ RX3 cX3_readAbove 3 5 0 0 107) (he : EdZ κ cX3_readAbove 0 0 id fin) {k40 : Nat → Int32 → Int32 → Mm → Option (Int32 × Mm)} (hk40 : ∀ (x0 : Nat) (x1 : Int32) (x2 : Int32), Jg κ (wM κ) 3 fin 0 0 40 [some ((3, .ref x0) : TV), some ((0, .int x1) : TV), some ((0, .int x2) : TV)] [] (k40 x0 x1 x2)) (x0 : Nat) (x1 : Int32) (x2 : Int32) : Jg κ (wM κ) 3 fin 0 0 132 [some ((3, .ref x0) : TV), some ((0, .int x1) : TV), some ((0, .int x2) : TV)] [] (fX3_readAbove_L132 k40 x0 x1 x2) := by
  unfold fX3_readAbove_L132
  refine J_iinc (pc := 132) (v := x2 + (-1)) (l' := [some ((3, .ref x0) : TV), some ((0, .int x1) : TV), some ((0, .int (x2 + (-1))) : TV)]) hc dX3_readAbove_132 rfl rfl (by decide) rfl rfl ?_
  refine J_goto (pc := 135) (tgt := 40) hc dX3_readAbove_135 (by decide) ?_
  refine J_sub (l' := [some ((3, .ref x0) : TV), some ((0, .int x1) : TV), some ((0, .int (x2 + (-1))) : TV)]) ⟨rfl, ⟨rfl, ⟨rfl, trivial⟩⟩⟩ ?_
  exact hk40 x0 x1 (x2 + (-1))
set_option maxRecDepth 100000 in
set_option maxHeartbeats 4000000 in
theorem jX3_readAbove_L40 {κ : Cx} {fin : Int32 → Mm → Prop} (hc : Jc κ RX3 cX3_readAbove 3 5 0 0 107) (he : EdZ κ cX3_readAbove 0 0 id fin) : ∀ (n : Nat) (x0 : Nat) (x1 : Int32) (x2 : Int32), Jg κ (wM κ) 3 fin 0 0 40 [some ((3, .ref x0) : TV), some ((0, .int x1) : TV), some ((0, .int x2) : TV)] [] (fX3_readAbove_L40 n x0 x1 x2) := by
  intro n
  induction n with
  | zero => intro x0 x1 x2; exact J_fail
  | succ n ih =>
    intro x0 x1 x2
    unfold fX3_readAbove_L40
    refine J_iload_n (pc := 40) hc dX3_readAbove_40 rfl rfl ?_
    refine J_if_le (pc := 41) (tgt := 138) hc dX3_readAbove_41 (by decide) ?_ ?_
    · refine J_sub (l' := [some ((3, .ref x0) : TV), some ((0, .int x1) : TV), none]) ⟨rfl, ⟨rfl, trivial⟩⟩ ?_
      exact jX3_readAbove_L138 hc he x0 x1
    · refine J_iload_n (pc := 44) hc dX3_readAbove_44 rfl rfl ?_
      refine J_if_eq (pc := 45) (tgt := 138) hc dX3_readAbove_45 (by decide) ?_ ?_
      · refine J_sub (l' := [some ((3, .ref x0) : TV), some ((0, .int x1) : TV), none]) ⟨rfl, ⟨rfl, trivial⟩⟩ ?_
        exact jX3_readAbove_L138 hc he x0 x1
      · refine J_aload_n (pc := 48) hc dX3_readAbove_48 rfl rfl ?_
        refine J_getA (pc := 49) hc clX3 (k := 2) (kd := 6) (Nat.le_of_ble_eq_true rfl) rfl (Nat.le_of_ble_eq_true rfl) tw177 (Or.inl rfl) dX3_readAbove_49 (fun v6 => ?_)
        refine J_getI (pc := 52) hc clX6 (k := 1) (Nat.le_of_ble_eq_true rfl) rfl tw117 (Or.inl rfl) dX3_readAbove_52 (fun v7 => ?_)
        refine J_iconst (pc := 55) (v := 1) hc dX3_readAbove_55 (by decide) ?_
        refine J_icmp_ne (pc := 56) (tgt := 138) hc dX3_readAbove_56 (by decide) ?_ ?_
        · refine J_sub (l' := [some ((3, .ref x0) : TV), some ((0, .int x1) : TV), none]) ⟨rfl, ⟨rfl, trivial⟩⟩ ?_
          exact jX3_readAbove_L138 hc he x0 x1
        · refine J_aload_n (pc := 59) hc dX3_readAbove_59 rfl rfl ?_
          refine J_getA (pc := 60) hc clX3 (k := 4) (kd := 4) (Nat.le_of_ble_eq_true rfl) rfl (Nat.le_of_ble_eq_true rfl) tw181 (Or.inl rfl) dX3_readAbove_60 (fun v8 => ?_)
          refine J_callVv (pc := 63) hc clX4 (As := []) (KX4_look v8) dX3_readAbove_63 moX4_look rfl tw502 tw503 tw504 tw7 tw505 rfl (Nat.le_of_ble_eq_true rfl) (Nat.le_of_ble_eq_true rfl) (Nat.le_of_ble_eq_true rfl) (Nat.le_of_ble_eq_true rfl) (Nat.le_of_ble_eq_true rfl) rfl (fun _ => ?_)
          refine J_aload_n (pc := 66) hc dX3_readAbove_66 rfl rfl ?_
          refine J_getA (pc := 67) hc clX3 (k := 2) (kd := 6) (Nat.le_of_ble_eq_true rfl) rfl (Nat.le_of_ble_eq_true rfl) tw177 (Or.inl rfl) dX3_readAbove_67 (fun v9 => ?_)
          refine J_ldcS (pc := 70) (i := 6) hc rfl dX3_readAbove_70 ?_
          refine J_callVi (pc := 72) hc clX6 (As := [((20, .ref (SB + 6)) : TV)]) (KX6_isWord v9 (SB + 6)) dX3_readAbove_72 moX6_isWord rfl tw351 tw352 tw353 tw6 tw354 rfl (Nat.le_of_ble_eq_true rfl) (Nat.le_of_ble_eq_true rfl) (Nat.le_of_ble_eq_true rfl) (Nat.le_of_ble_eq_true rfl) (Nat.le_of_ble_eq_true rfl) rfl (fun v10 => ?_)
          refine J_if_eq (pc := 75) (tgt := 86) hc dX3_readAbove_75 (by decide) ?_ ?_
          · refine J_aload_n (pc := 86) hc dX3_readAbove_86 rfl rfl ?_
            refine J_getA (pc := 87) hc clX3 (k := 2) (kd := 6) (Nat.le_of_ble_eq_true rfl) rfl (Nat.le_of_ble_eq_true rfl) tw177 (Or.inl rfl) dX3_readAbove_87 (fun v11 => ?_)
            refine J_ldcS (pc := 90) (i := 7) hc rfl dX3_readAbove_90 ?_
            refine J_callVi (pc := 92) hc clX6 (As := [((20, .ref (SB + 7)) : TV)]) (KX6_isWord v11 (SB + 7)) dX3_readAbove_92 moX6_isWord rfl tw351 tw352 tw353 tw6 tw354 rfl (Nat.le_of_ble_eq_true rfl) (Nat.le_of_ble_eq_true rfl) (Nat.le_of_ble_eq_true rfl) (Nat.le_of_ble_eq_true rfl) (Nat.le_of_ble_eq_true rfl) rfl (fun v12 => ?_)
            refine J_if_eq (pc := 95) (tgt := 106) hc dX3_readAbove_95 (by decide) ?_ ?_
            · refine J_aload_n (pc := 106) hc dX3_readAbove_106 rfl rfl ?_
              refine J_getA (pc := 107) hc clX3 (k := 2) (kd := 6) (Nat.le_of_ble_eq_true rfl) rfl (Nat.le_of_ble_eq_true rfl) tw177 (Or.inl rfl) dX3_readAbove_107 (fun v13 => ?_)
              refine J_ldcS (pc := 110) (i := 8) hc rfl dX3_readAbove_110 ?_
              refine J_callVi (pc := 112) hc clX6 (As := [((20, .ref (SB + 8)) : TV)]) (KX6_isWord v13 (SB + 8)) dX3_readAbove_112 moX6_isWord rfl tw351 tw352 tw353 tw6 tw354 rfl (Nat.le_of_ble_eq_true rfl) (Nat.le_of_ble_eq_true rfl) (Nat.le_of_ble_eq_true rfl) (Nat.le_of_ble_eq_true rfl) (Nat.le_of_ble_eq_true rfl) rfl (fun v14 => ?_)
              refine J_if_eq (pc := 115) (tgt := 126) hc dX3_readAbove_115 (by decide) ?_ ?_
              · refine J_aload_n (pc := 126) hc dX3_readAbove_126 rfl rfl ?_
                refine J_iconst (pc := 127) (v := 1) hc dX3_readAbove_127 (by decide) ?_
                refine J_callVi (pc := 128) hc clX3 (As := [((0, .int 1) : TV)]) (KX3_failHere x0 1) dX3_readAbove_128 moX3_failHere rfl tw412 tw414 twp3 tw5 tw415 rfl (Nat.le_of_ble_eq_true rfl) (Nat.le_of_ble_eq_true rfl) (Nat.le_of_ble_eq_true rfl) (Nat.le_of_ble_eq_true rfl) (Nat.le_of_ble_eq_true rfl) rfl (fun v15 => ?_)
                refine J_istore_n (pc := 131) (l' := [some ((3, .ref x0) : TV), some ((0, .int v15) : TV), some ((0, .int x2) : TV)]) hc dX3_readAbove_131 rfl (by decide) rfl rfl ?_
                refine J_sub (l' := [some ((3, .ref x0) : TV), some ((0, .int v15) : TV), some ((0, .int x2) : TV)]) ⟨rfl, ⟨rfl, ⟨rfl, trivial⟩⟩⟩ ?_
                exact jX3_readAbove_L132 hc he ih x0 v15 x2
              · refine J_aload_n (pc := 118) hc dX3_readAbove_118 rfl rfl ?_
                refine J_callVi (pc := 119) hc clX3 (As := []) (KX3_readHorizontal x0) dX3_readAbove_119 moX3_readHorizontal rfl tw549 tw551 twp16 tw5 tw552 rfl (Nat.le_of_ble_eq_true rfl) (Nat.le_of_ble_eq_true rfl) (Nat.le_of_ble_eq_true rfl) (Nat.le_of_ble_eq_true rfl) (Nat.le_of_ble_eq_true rfl) rfl (fun v16 => ?_)
                refine J_istore_n (pc := 122) (l' := [some ((3, .ref x0) : TV), some ((0, .int v16) : TV), some ((0, .int x2) : TV)]) hc dX3_readAbove_122 rfl (by decide) rfl rfl ?_
                refine J_goto (pc := 123) (tgt := 132) hc dX3_readAbove_123 (by decide) ?_
                refine J_sub (l' := [some ((3, .ref x0) : TV), some ((0, .int v16) : TV), some ((0, .int x2) : TV)]) ⟨rfl, ⟨rfl, ⟨rfl, trivial⟩⟩⟩ ?_
                exact jX3_readAbove_L132 hc he ih x0 v16 x2
            · refine J_aload_n (pc := 98) hc dX3_readAbove_98 rfl rfl ?_
              refine J_callVi (pc := 99) hc clX3 (As := []) (KX3_readVertical x0) dX3_readAbove_99 moX3_readVertical rfl tw540 tw542 twp15 tw5 tw543 rfl (Nat.le_of_ble_eq_true rfl) (Nat.le_of_ble_eq_true rfl) (Nat.le_of_ble_eq_true rfl) (Nat.le_of_ble_eq_true rfl) (Nat.le_of_ble_eq_true rfl) rfl (fun v17 => ?_)
              refine J_istore_n (pc := 102) (l' := [some ((3, .ref x0) : TV), some ((0, .int v17) : TV), some ((0, .int x2) : TV)]) hc dX3_readAbove_102 rfl (by decide) rfl rfl ?_
              refine J_goto (pc := 103) (tgt := 132) hc dX3_readAbove_103 (by decide) ?_
              refine J_sub (l' := [some ((3, .ref x0) : TV), some ((0, .int v17) : TV), some ((0, .int x2) : TV)]) ⟨rfl, ⟨rfl, ⟨rfl, trivial⟩⟩⟩ ?_
              exact jX3_readAbove_L132 hc he ih x0 v17 x2
          · refine J_aload_n (pc := 78) hc dX3_readAbove_78 rfl rfl ?_
            refine J_callVi (pc := 79) hc clX3 (As := []) (KX3_readPass x0) dX3_readAbove_79 moX3_readPass rfl tw518 tw520 twp12 tw5 tw521 rfl (Nat.le_of_ble_eq_true rfl) (Nat.le_of_ble_eq_true rfl) (Nat.le_of_ble_eq_true rfl) (Nat.le_of_ble_eq_true rfl) (Nat.le_of_ble_eq_true rfl) rfl (fun v18 => ?_)
            refine J_istore_n (pc := 82) (l' := [some ((3, .ref x0) : TV), some ((0, .int v18) : TV), some ((0, .int x2) : TV)]) hc dX3_readAbove_82 rfl (by decide) rfl rfl ?_
            refine J_goto (pc := 83) (tgt := 132) hc dX3_readAbove_83 (by decide) ?_
            refine J_sub (l' := [some ((3, .ref x0) : TV), some ((0, .int v18) : TV), some ((0, .int x2) : TV)]) ⟨rfl, ⟨rfl, ⟨rfl, trivial⟩⟩⟩ ?_
            exact jX3_readAbove_L132 hc he ih x0 v18 x2
set_option maxRecDepth 100000 in
set_option maxHeartbeats 4000000 in
theorem jX3_readAbove {κ : Cx} {fin : Int32 → Mm → Prop} (hc : Jc κ RX3 cX3_readAbove 3 5 0 0 107) (he : EdZ κ cX3_readAbove 0 0 id fin) (x0 : Nat) : Jg κ (wM κ) 3 fin 0 0 0 [some ((3, .ref x0) : TV), none, none] [] (fX3_readAbove x0) := by
  unfold fX3_readAbove
  refine J_aload_n (pc := 0) hc dX3_readAbove_0 rfl rfl ?_
  refine J_getA (pc := 1) hc clX3 (k := 4) (kd := 4) (Nat.le_of_ble_eq_true rfl) rfl (Nat.le_of_ble_eq_true rfl) tw181 (Or.inl rfl) dX3_readAbove_1 (fun v19 => ?_)
  refine J_aload_n (pc := 4) hc dX3_readAbove_4 rfl rfl ?_
  refine J_getA (pc := 5) hc clX3 (k := 3) (kd := 2) (Nat.le_of_ble_eq_true rfl) rfl (Nat.le_of_ble_eq_true rfl) tw179 (Or.inl rfl) dX3_readAbove_5 (fun v20 => ?_)
  refine J_aload_n (pc := 8) hc dX3_readAbove_8 rfl rfl ?_
  refine J_getA (pc := 9) hc clX3 (k := 3) (kd := 2) (Nat.le_of_ble_eq_true rfl) rfl (Nat.le_of_ble_eq_true rfl) tw179 (Or.inl rfl) dX3_readAbove_9 (fun v21 => ?_)
  refine J_getI (pc := 12) hc clX2 (k := 1) (Nat.le_of_ble_eq_true rfl) rfl tw60 (Or.inl rfl) dX3_readAbove_12 (fun v22 => ?_)
  refine J_iconst (pc := 15) (v := 1) hc dX3_readAbove_15 (by decide) ?_
  refine J_isub (pc := 16) hc dX3_readAbove_16 ?_
  refine J_callVj (pc := 17) hc clX2 (As := [((0, .int (v22 - 1)) : TV)]) (KX2_rowAt v20 (v22 - 1)) dX3_readAbove_17 moX2_rowAt rfl tw490 tw491 tw492 tw3 tw493 rfl (Nat.le_of_ble_eq_true rfl) (Nat.le_of_ble_eq_true rfl) (Nat.le_of_ble_eq_true rfl) (Nat.le_of_ble_eq_true rfl) (Nat.le_of_ble_eq_true rfl) rfl (fun v23 => ?_)
  refine J_aload_n (pc := 20) hc dX3_readAbove_20 rfl rfl ?_
  refine J_getA (pc := 21) hc clX3 (k := 3) (kd := 2) (Nat.le_of_ble_eq_true rfl) rfl (Nat.le_of_ble_eq_true rfl) tw179 (Or.inl rfl) dX3_readAbove_21 (fun v24 => ?_)
  refine J_getI (pc := 24) hc clX2 (k := 0) (Nat.le_of_ble_eq_true rfl) rfl tw55 (Or.inl rfl) dX3_readAbove_24 (fun v25 => ?_)
  refine J_callVv (pc := 27) hc clX4 (As := [((0, .long v23) : TV), ((0, .int v25) : TV)]) (KX4_begin v19 v23 v25) dX3_readAbove_27 moX4_begin rfl tw494 tw495 tw496 tw7 tw497 rfl (Nat.le_of_ble_eq_true rfl) (Nat.le_of_ble_eq_true rfl) (Nat.le_of_ble_eq_true rfl) (Nat.le_of_ble_eq_true rfl) (Nat.le_of_ble_eq_true rfl) rfl (fun _ => ?_)
  refine J_iconst (pc := 30) (v := 1) hc dX3_readAbove_30 (by decide) ?_
  refine J_istore_n (pc := 31) (l' := [some ((3, .ref x0) : TV), some ((0, .int 1) : TV), none]) hc dX3_readAbove_31 rfl (by decide) rfl rfl ?_
  refine J_aload_n (pc := 32) hc dX3_readAbove_32 rfl rfl ?_
  refine J_getA (pc := 33) hc clX3 (k := 2) (kd := 6) (Nat.le_of_ble_eq_true rfl) rfl (Nat.le_of_ble_eq_true rfl) tw177 (Or.inl rfl) dX3_readAbove_33 (fun v26 => ?_)
  refine J_getI (pc := 36) hc clX6 (k := 0) (Nat.le_of_ble_eq_true rfl) rfl tw116 (Or.inl rfl) dX3_readAbove_36 (fun v27 => ?_)
  refine J_istore_n (pc := 39) (l' := [some ((3, .ref x0) : TV), some ((0, .int 1) : TV), some ((0, .int v27) : TV)]) hc dX3_readAbove_39 rfl (by decide) rfl rfl ?_
  refine J_sub (l' := [some ((3, .ref x0) : TV), some ((0, .int 1) : TV), some ((0, .int v27) : TV)]) ⟨rfl, ⟨rfl, ⟨rfl, trivial⟩⟩⟩ ?_
  exact jX3_readAbove_L40 hc he fu x0 1 v27
theorem moX3_readAbove : MOk yX3_readAbove 0 := ⟨by decide +kernel, by decide +kernel, by decide +kernel⟩
set_option maxRecDepth 100000 in
set_option maxHeartbeats 4000000 in
theorem KX3_readAbove (x0 : Nat) : Ct wI yX3_readAbove cX3_readAbove 3 (some .boolean) 5 0 0 107 [((3, .ref x0) : TV)] (fX3_readAbove x0) :=
  Ct_Z ⟨rfl, rfl⟩ (j := 2) (by decide +kernel) rfl rfl (Nat.le_of_ble_eq_true rfl) (fun κ fin hc he => jX3_readAbove hc he x0)
set_option maxRecDepth 100000 in
set_option maxHeartbeats 4000000 in
theorem jX3_readStatement_L80 {κ : Cx} {fin : Int32 → Mm → Prop} (hc : Jc κ RX3 cX3_readStatement 3 6 0 0 129) (he : EdZ κ cX3_readStatement 0 0 id fin) (x0 : Nat) (x1 : Int32) (x2 : Int32) : Jg κ (wM κ) 3 fin 0 0 80 [some ((3, .ref x0) : TV), some ((0, .int x1) : TV), some ((0, .int x2) : TV)] [] (fX3_readStatement_L80 x0 x1 x2) := by
  unfold fX3_readStatement_L80
  refine J_aload_n (pc := 80) hc dX3_readStatement_80 rfl rfl ?_
  refine J_getA (pc := 81) hc clX3 (k := 3) (kd := 2) (Nat.le_of_ble_eq_true rfl) rfl (Nat.le_of_ble_eq_true rfl) tw179 (Or.inl rfl) dX3_readStatement_81 (fun v1 => ?_)
  refine J_getI (pc := 84) hc clX2 (k := 1) (Nat.le_of_ble_eq_true rfl) rfl tw60 (Or.inl rfl) dX3_readStatement_84 (fun v2 => ?_)
  refine J_bipush (pc := 87) (v := 20) hc dX3_readStatement_87 (by decide) ?_
  refine J_icmp_lt (pc := 89) (tgt := 98) hc dX3_readStatement_89 (by decide) ?_ ?_
  · refine J_aload_n (pc := 98) hc dX3_readStatement_98 rfl rfl ?_
    refine J_getA (pc := 99) hc clX3 (k := 2) (kd := 6) (Nat.le_of_ble_eq_true rfl) rfl (Nat.le_of_ble_eq_true rfl) tw177 (Or.inl rfl) dX3_readStatement_99 (fun v3 => ?_)
    refine J_callVv (pc := 102) hc clX6 (As := []) (KX6_next v3) dX3_readStatement_102 moX6_next rfl tw407 tw337 tw338 tw6 tw339 rfl (Nat.le_of_ble_eq_true rfl) (Nat.le_of_ble_eq_true rfl) (Nat.le_of_ble_eq_true rfl) (Nat.le_of_ble_eq_true rfl) (Nat.le_of_ble_eq_true rfl) rfl (fun _ => ?_)
    refine J_iload_n (pc := 105) hc dX3_readStatement_105 rfl rfl ?_
    refine J_if_eq (pc := 106) (tgt := 116) hc dX3_readStatement_106 (by decide) ?_ ?_
    · refine J_iload_n (pc := 116) hc dX3_readStatement_116 rfl rfl ?_
      refine J_if_eq (pc := 117) (tgt := 127) hc dX3_readStatement_117 (by decide) ?_ ?_
      · refine J_aload_n (pc := 127) hc dX3_readStatement_127 rfl rfl ?_
        refine J_callVi (pc := 128) hc clX3 (As := []) (KX3_readAbove x0) dX3_readStatement_128 moX3_readAbove rfl tw486 tw488 twp11 tw5 tw489 rfl (Nat.le_of_ble_eq_true rfl) (Nat.le_of_ble_eq_true rfl) (Nat.le_of_ble_eq_true rfl) (Nat.le_of_ble_eq_true rfl) (Nat.le_of_ble_eq_true rfl) rfl (fun v4 => ?_)
        exact J_zret (pc := 131) he dX3_readStatement_131
      · refine J_aload_n (pc := 120) hc dX3_readStatement_120 rfl rfl ?_
        refine J_callVi (pc := 121) hc clX3 (As := []) (KX3_readAlone x0) dX3_readStatement_121 moX3_readAlone rfl tw475 tw477 twp9 tw5 tw478 rfl (Nat.le_of_ble_eq_true rfl) (Nat.le_of_ble_eq_true rfl) (Nat.le_of_ble_eq_true rfl) (Nat.le_of_ble_eq_true rfl) (Nat.le_of_ble_eq_true rfl) rfl (fun v5 => ?_)
        refine J_goto (pc := 124) (tgt := 131) hc dX3_readStatement_124 (by decide) ?_
        exact J_zret (pc := 131) he dX3_readStatement_131
    · refine J_aload_n (pc := 109) hc dX3_readStatement_109 rfl rfl ?_
      refine J_callVi (pc := 110) hc clX3 (As := []) (KX3_readRow x0) dX3_readStatement_110 moX3_readRow rfl tw448 tw450 twp8 tw5 tw451 rfl (Nat.le_of_ble_eq_true rfl) (Nat.le_of_ble_eq_true rfl) (Nat.le_of_ble_eq_true rfl) (Nat.le_of_ble_eq_true rfl) (Nat.le_of_ble_eq_true rfl) rfl (fun v6 => ?_)
      refine J_goto (pc := 113) (tgt := 131) hc dX3_readStatement_113 (by decide) ?_
      exact J_zret (pc := 131) he dX3_readStatement_131
  · refine J_aload_n (pc := 92) hc dX3_readStatement_92 rfl rfl ?_
    refine J_iconst (pc := 93) (v := 5) hc dX3_readStatement_93 (by decide) ?_
    refine J_callVi (pc := 94) hc clX3 (As := [((0, .int 5) : TV)]) (KX3_failHere x0 5) dX3_readStatement_94 moX3_failHere rfl tw412 tw414 twp3 tw5 tw415 rfl (Nat.le_of_ble_eq_true rfl) (Nat.le_of_ble_eq_true rfl) (Nat.le_of_ble_eq_true rfl) (Nat.le_of_ble_eq_true rfl) (Nat.le_of_ble_eq_true rfl) rfl (fun v7 => ?_)
    exact J_zret (pc := 97) he dX3_readStatement_97
set_option maxRecDepth 100000 in
set_option maxHeartbeats 4000000 in
theorem jX3_readStatement {κ : Cx} {fin : Int32 → Mm → Prop} (hc : Jc κ RX3 cX3_readStatement 3 6 0 0 129) (he : EdZ κ cX3_readStatement 0 0 id fin) (x0 : Nat) : Jg κ (wM κ) 3 fin 0 0 0 [some ((3, .ref x0) : TV), none, none] [] (fX3_readStatement x0) := by
  unfold fX3_readStatement
  refine J_aload_n (pc := 0) hc dX3_readStatement_0 rfl rfl ?_
  refine J_getA (pc := 1) hc clX3 (k := 2) (kd := 6) (Nat.le_of_ble_eq_true rfl) rfl (Nat.le_of_ble_eq_true rfl) tw177 (Or.inl rfl) dX3_readStatement_1 (fun v8 => ?_)
  refine J_ldcS (pc := 4) (i := 1) hc rfl dX3_readStatement_4 ?_
  refine J_callVi (pc := 6) hc clX6 (As := [((20, .ref (SB + 1)) : TV)]) (KX6_isWord v8 (SB + 1)) dX3_readStatement_6 moX6_isWord rfl tw351 tw352 tw353 tw6 tw354 rfl (Nat.le_of_ble_eq_true rfl) (Nat.le_of_ble_eq_true rfl) (Nat.le_of_ble_eq_true rfl) (Nat.le_of_ble_eq_true rfl) (Nat.le_of_ble_eq_true rfl) rfl (fun v9 => ?_)
  refine J_if_eq (pc := 9) (tgt := 17) hc dX3_readStatement_9 (by decide) ?_ ?_
  · refine J_aload_n (pc := 17) hc dX3_readStatement_17 rfl rfl ?_
    refine J_getA (pc := 18) hc clX3 (k := 2) (kd := 6) (Nat.le_of_ble_eq_true rfl) rfl (Nat.le_of_ble_eq_true rfl) tw177 (Or.inl rfl) dX3_readStatement_18 (fun v10 => ?_)
    refine J_ldcS (pc := 21) (i := 2) hc rfl dX3_readStatement_21 ?_
    refine J_callVi (pc := 23) hc clX6 (As := [((20, .ref (SB + 2)) : TV)]) (KX6_isWord v10 (SB + 2)) dX3_readStatement_23 moX6_isWord rfl tw351 tw352 tw353 tw6 tw354 rfl (Nat.le_of_ble_eq_true rfl) (Nat.le_of_ble_eq_true rfl) (Nat.le_of_ble_eq_true rfl) (Nat.le_of_ble_eq_true rfl) (Nat.le_of_ble_eq_true rfl) rfl (fun v11 => ?_)
    refine J_if_eq (pc := 26) (tgt := 34) hc dX3_readStatement_26 (by decide) ?_ ?_
    · refine J_aload_n (pc := 34) hc dX3_readStatement_34 rfl rfl ?_
      refine J_getA (pc := 35) hc clX3 (k := 2) (kd := 6) (Nat.le_of_ble_eq_true rfl) rfl (Nat.le_of_ble_eq_true rfl) tw177 (Or.inl rfl) dX3_readStatement_35 (fun v12 => ?_)
      refine J_ldcS (pc := 38) (i := 3) hc rfl dX3_readStatement_38 ?_
      refine J_callVi (pc := 40) hc clX6 (As := [((20, .ref (SB + 3)) : TV)]) (KX6_isWord v12 (SB + 3)) dX3_readStatement_40 moX6_isWord rfl tw351 tw352 tw353 tw6 tw354 rfl (Nat.le_of_ble_eq_true rfl) (Nat.le_of_ble_eq_true rfl) (Nat.le_of_ble_eq_true rfl) (Nat.le_of_ble_eq_true rfl) (Nat.le_of_ble_eq_true rfl) rfl (fun v13 => ?_)
      refine J_istore_n (pc := 43) (l' := [some ((3, .ref x0) : TV), some ((0, .int v13) : TV), none]) hc dX3_readStatement_43 rfl (by decide) rfl rfl ?_
      refine J_aload_n (pc := 44) hc dX3_readStatement_44 rfl rfl ?_
      refine J_getA (pc := 45) hc clX3 (k := 2) (kd := 6) (Nat.le_of_ble_eq_true rfl) rfl (Nat.le_of_ble_eq_true rfl) tw177 (Or.inl rfl) dX3_readStatement_45 (fun v14 => ?_)
      refine J_ldcS (pc := 48) (i := 4) hc rfl dX3_readStatement_48 ?_
      refine J_callVi (pc := 50) hc clX6 (As := [((20, .ref (SB + 4)) : TV)]) (KX6_isWord v14 (SB + 4)) dX3_readStatement_50 moX6_isWord rfl tw351 tw352 tw353 tw6 tw354 rfl (Nat.le_of_ble_eq_true rfl) (Nat.le_of_ble_eq_true rfl) (Nat.le_of_ble_eq_true rfl) (Nat.le_of_ble_eq_true rfl) (Nat.le_of_ble_eq_true rfl) rfl (fun v15 => ?_)
      refine J_istore_n (pc := 53) (l' := [some ((3, .ref x0) : TV), some ((0, .int v13) : TV), some ((0, .int v15) : TV)]) hc dX3_readStatement_53 rfl (by decide) rfl rfl ?_
      refine J_iload_n (pc := 54) hc dX3_readStatement_54 rfl rfl ?_
      refine J_if_ne (pc := 55) (tgt := 80) hc dX3_readStatement_55 (by decide) ?_ ?_
      · refine J_sub (l' := [some ((3, .ref x0) : TV), some ((0, .int v13) : TV), some ((0, .int v15) : TV)]) ⟨rfl, ⟨rfl, ⟨rfl, trivial⟩⟩⟩ ?_
        exact jX3_readStatement_L80 hc he x0 v13 v15
      · refine J_iload_n (pc := 58) hc dX3_readStatement_58 rfl rfl ?_
        refine J_if_ne (pc := 59) (tgt := 80) hc dX3_readStatement_59 (by decide) ?_ ?_
        · refine J_sub (l' := [some ((3, .ref x0) : TV), some ((0, .int v13) : TV), some ((0, .int v15) : TV)]) ⟨rfl, ⟨rfl, ⟨rfl, trivial⟩⟩⟩ ?_
          exact jX3_readStatement_L80 hc he x0 v13 v15
        · refine J_aload_n (pc := 62) hc dX3_readStatement_62 rfl rfl ?_
          refine J_getA (pc := 63) hc clX3 (k := 2) (kd := 6) (Nat.le_of_ble_eq_true rfl) rfl (Nat.le_of_ble_eq_true rfl) tw177 (Or.inl rfl) dX3_readStatement_63 (fun v16 => ?_)
          refine J_ldcS (pc := 66) (i := 5) hc rfl dX3_readStatement_66 ?_
          refine J_callVi (pc := 68) hc clX6 (As := [((20, .ref (SB + 5)) : TV)]) (KX6_isWord v16 (SB + 5)) dX3_readStatement_68 moX6_isWord rfl tw351 tw352 tw353 tw6 tw354 rfl (Nat.le_of_ble_eq_true rfl) (Nat.le_of_ble_eq_true rfl) (Nat.le_of_ble_eq_true rfl) (Nat.le_of_ble_eq_true rfl) (Nat.le_of_ble_eq_true rfl) rfl (fun v17 => ?_)
          refine J_if_ne (pc := 71) (tgt := 80) hc dX3_readStatement_71 (by decide) ?_ ?_
          · refine J_sub (l' := [some ((3, .ref x0) : TV), some ((0, .int v13) : TV), some ((0, .int v15) : TV)]) ⟨rfl, ⟨rfl, ⟨rfl, trivial⟩⟩⟩ ?_
            exact jX3_readStatement_L80 hc he x0 v13 v15
          · refine J_aload_n (pc := 74) hc dX3_readStatement_74 rfl rfl ?_
            refine J_iconst (pc := 75) (v := 1) hc dX3_readStatement_75 (by decide) ?_
            refine J_callVi (pc := 76) hc clX3 (As := [((0, .int 1) : TV)]) (KX3_failHere x0 1) dX3_readStatement_76 moX3_failHere rfl tw412 tw414 twp3 tw5 tw415 rfl (Nat.le_of_ble_eq_true rfl) (Nat.le_of_ble_eq_true rfl) (Nat.le_of_ble_eq_true rfl) (Nat.le_of_ble_eq_true rfl) (Nat.le_of_ble_eq_true rfl) rfl (fun v18 => ?_)
            exact J_zret (pc := 79) he dX3_readStatement_79
    · refine J_aload_n (pc := 29) hc dX3_readStatement_29 rfl rfl ?_
      refine J_callVi (pc := 30) hc clX3 (As := []) (KX3_readLoss x0) dX3_readStatement_30 moX3_readLoss rfl tw441 tw443 twp7 tw5 tw444 rfl (Nat.le_of_ble_eq_true rfl) (Nat.le_of_ble_eq_true rfl) (Nat.le_of_ble_eq_true rfl) (Nat.le_of_ble_eq_true rfl) (Nat.le_of_ble_eq_true rfl) rfl (fun v19 => ?_)
      exact J_zret (pc := 33) he dX3_readStatement_33
  · refine J_aload_n (pc := 12) hc dX3_readStatement_12 rfl rfl ?_
    refine J_callVi (pc := 13) hc clX3 (As := []) (KX3_readSet x0) dX3_readStatement_13 moX3_readSet rfl tw432 tw434 twp6 tw5 tw435 rfl (Nat.le_of_ble_eq_true rfl) (Nat.le_of_ble_eq_true rfl) (Nat.le_of_ble_eq_true rfl) (Nat.le_of_ble_eq_true rfl) (Nat.le_of_ble_eq_true rfl) rfl (fun v20 => ?_)
    exact J_zret (pc := 16) he dX3_readStatement_16
theorem moX3_readStatement : MOk yX3_readStatement 0 := ⟨by decide +kernel, by decide +kernel, by decide +kernel⟩
set_option maxRecDepth 100000 in
set_option maxHeartbeats 4000000 in
theorem KX3_readStatement (x0 : Nat) : Ct wI yX3_readStatement cX3_readStatement 3 (some .boolean) 6 0 0 129 [((3, .ref x0) : TV)] (fX3_readStatement x0) :=
  Ct_Z ⟨rfl, rfl⟩ (j := 2) (by decide +kernel) rfl rfl (Nat.le_of_ble_eq_true rfl) (fun κ fin hc he => jX3_readStatement hc he x0)
set_option maxRecDepth 100000 in
set_option maxHeartbeats 4000000 in
theorem jX3_readText_L57 {κ : Cx} {fin : Int32 → Mm → Prop} (hc : Jc κ RX3 cX3_readText 3 7 0 0 151) (he : EdZ κ cX3_readText 0 0 id fin) : ∀ (n : Nat) (x0 : Nat) (x1 : Int32) (x2 : Int32), Jg κ (wM κ) 3 fin 0 0 57 [some ((3, .ref x0) : TV), some ((0, .int x1) : TV), some ((0, .int x2) : TV)] [] (fX3_readText_L57 n x0 x1 x2) := by
  intro n
  induction n with
  | zero => intro x0 x1 x2; exact J_fail
  | succ n ih =>
    intro x0 x1 x2
    unfold fX3_readText_L57
    refine J_iload_n (pc := 57) hc dX3_readText_57 rfl rfl ?_
    refine J_if_le (pc := 58) (tgt := 86) hc dX3_readText_58 (by decide) ?_ ?_
    · refine J_iload_n (pc := 86) hc dX3_readText_86 rfl rfl ?_
      exact J_zret (pc := 87) he dX3_readText_87
    · refine J_iload_n (pc := 61) hc dX3_readText_61 rfl rfl ?_
      refine J_if_eq (pc := 62) (tgt := 86) hc dX3_readText_62 (by decide) ?_ ?_
      · refine J_iload_n (pc := 86) hc dX3_readText_86 rfl rfl ?_
        exact J_zret (pc := 87) he dX3_readText_87
      · refine J_aload_n (pc := 65) hc dX3_readText_65 rfl rfl ?_
        refine J_getA (pc := 66) hc clX3 (k := 2) (kd := 6) (Nat.le_of_ble_eq_true rfl) rfl (Nat.le_of_ble_eq_true rfl) tw177 (Or.inl rfl) dX3_readText_66 (fun v1 => ?_)
        refine J_getI (pc := 69) hc clX6 (k := 1) (Nat.le_of_ble_eq_true rfl) rfl tw117 (Or.inl rfl) dX3_readText_69 (fun v2 => ?_)
        refine J_if_eq (pc := 72) (tgt := 86) hc dX3_readText_72 (by decide) ?_ ?_
        · refine J_iload_n (pc := 86) hc dX3_readText_86 rfl rfl ?_
          exact J_zret (pc := 87) he dX3_readText_87
        · refine J_aload_n (pc := 75) hc dX3_readText_75 rfl rfl ?_
          refine J_callVi (pc := 76) hc clX3 (As := []) (KX3_readStatement x0) dX3_readText_76 moX3_readStatement rfl tw427 tw429 twp5 tw5 tw430 rfl (Nat.le_of_ble_eq_true rfl) (Nat.le_of_ble_eq_true rfl) (Nat.le_of_ble_eq_true rfl) (Nat.le_of_ble_eq_true rfl) (Nat.le_of_ble_eq_true rfl) rfl (fun v3 => ?_)
          refine J_istore_n (pc := 79) (l' := [some ((3, .ref x0) : TV), some ((0, .int v3) : TV), some ((0, .int x2) : TV)]) hc dX3_readText_79 rfl (by decide) rfl rfl ?_
          refine J_iinc (pc := 80) (v := x2 + (-1)) (l' := [some ((3, .ref x0) : TV), some ((0, .int v3) : TV), some ((0, .int (x2 + (-1))) : TV)]) hc dX3_readText_80 rfl rfl (by decide) rfl rfl ?_
          refine J_goto (pc := 83) (tgt := 57) hc dX3_readText_83 (by decide) ?_
          refine J_sub (l' := [some ((3, .ref x0) : TV), some ((0, .int v3) : TV), some ((0, .int (x2 + (-1))) : TV)]) ⟨rfl, ⟨rfl, ⟨rfl, trivial⟩⟩⟩ ?_
          exact ih x0 v3 (x2 + (-1))
set_option maxRecDepth 100000 in
set_option maxHeartbeats 4000000 in
theorem jX3_readText_L48 {κ : Cx} {fin : Int32 → Mm → Prop} (hc : Jc κ RX3 cX3_readText 3 7 0 0 151) (he : EdZ κ cX3_readText 0 0 id fin) (x0 : Nat) (s0 : Int32) : Jg κ (wM κ) 3 fin 0 0 48 [some ((3, .ref x0) : TV), none, none] [((0, .int s0) : TV)] (fX3_readText_L48 x0 s0) := by
  unfold fX3_readText_L48
  refine J_istore_n (pc := 48) (l' := [some ((3, .ref x0) : TV), some ((0, .int s0) : TV), none]) hc dX3_readText_48 rfl (by decide) rfl rfl ?_
  refine J_aload_n (pc := 49) hc dX3_readText_49 rfl rfl ?_
  refine J_getA (pc := 50) hc clX3 (k := 2) (kd := 6) (Nat.le_of_ble_eq_true rfl) rfl (Nat.le_of_ble_eq_true rfl) tw177 (Or.inl rfl) dX3_readText_50 (fun v4 => ?_)
  refine J_getI (pc := 53) hc clX6 (k := 0) (Nat.le_of_ble_eq_true rfl) rfl tw116 (Or.inl rfl) dX3_readText_53 (fun v5 => ?_)
  refine J_istore_n (pc := 56) (l' := [some ((3, .ref x0) : TV), some ((0, .int s0) : TV), some ((0, .int v5) : TV)]) hc dX3_readText_56 rfl (by decide) rfl rfl ?_
  refine J_sub (l' := [some ((3, .ref x0) : TV), some ((0, .int s0) : TV), some ((0, .int v5) : TV)]) ⟨rfl, ⟨rfl, ⟨rfl, trivial⟩⟩⟩ ?_
  exact jX3_readText_L57 hc he fu x0 s0 v5
set_option maxRecDepth 100000 in
set_option maxHeartbeats 4000000 in
theorem jX3_readText_L43 {κ : Cx} {fin : Int32 → Mm → Prop} (hc : Jc κ RX3 cX3_readText 3 7 0 0 151) (he : EdZ κ cX3_readText 0 0 id fin) (x0 : Nat) : Jg κ (wM κ) 3 fin 0 0 43 [some ((3, .ref x0) : TV), none, none] [] (fX3_readText_L43 x0) := by
  unfold fX3_readText_L43
  refine J_iconst (pc := 43) (v := 1) hc dX3_readText_43 (by decide) ?_
  refine J_goto (pc := 44) (tgt := 48) hc dX3_readText_44 (by decide) ?_
  refine J_sub (l' := [some ((3, .ref x0) : TV), none, none]) ⟨rfl, trivial⟩ ?_
  exact jX3_readText_L48 hc he x0 1
set_option maxRecDepth 100000 in
set_option maxHeartbeats 4000000 in
theorem jX3_readText {κ : Cx} {fin : Int32 → Mm → Prop} (hc : Jc κ RX3 cX3_readText 3 7 0 0 151) (he : EdZ κ cX3_readText 0 0 id fin) (x0 : Nat) : Jg κ (wM κ) 3 fin 0 0 0 [some ((3, .ref x0) : TV), none, none] [] (fX3_readText x0) := by
  unfold fX3_readText
  refine J_aload_n (pc := 0) hc dX3_readText_0 rfl rfl ?_
  refine J_iconst (pc := 1) (v := 0) hc dX3_readText_1 (by decide) ?_
  refine J_putI (pc := 2) hc clX3 (k := 0) (Nat.le_of_ble_eq_true rfl) rfl rfl tw174 (Or.inl rfl) rfl dX3_readText_2 ?_
  refine J_aload_n (pc := 5) hc dX3_readText_5 rfl rfl ?_
  refine J_iconst (pc := 6) (v := (-1)) hc dX3_readText_6 (by decide) ?_
  refine J_putI (pc := 7) hc clX3 (k := 1) (Nat.le_of_ble_eq_true rfl) rfl rfl tw176 (Or.inl rfl) rfl dX3_readText_7 ?_
  refine J_aload_n (pc := 10) hc dX3_readText_10 rfl rfl ?_
  refine J_getA (pc := 11) hc clX3 (k := 3) (kd := 2) (Nat.le_of_ble_eq_true rfl) rfl (Nat.le_of_ble_eq_true rfl) tw179 (Or.inl rfl) dX3_readText_11 (fun v6 => ?_)
  refine J_callVv (pc := 14) hc clX2 (As := []) (KX2_clear v6) dX3_readText_14 moX2_clear rfl tw328 tw329 tw330 tw3 tw331 rfl (Nat.le_of_ble_eq_true rfl) (Nat.le_of_ble_eq_true rfl) (Nat.le_of_ble_eq_true rfl) (Nat.le_of_ble_eq_true rfl) (Nat.le_of_ble_eq_true rfl) rfl (fun _ => ?_)
  refine J_aload_n (pc := 17) hc dX3_readText_17 rfl rfl ?_
  refine J_getA (pc := 18) hc clX3 (k := 2) (kd := 6) (Nat.le_of_ble_eq_true rfl) rfl (Nat.le_of_ble_eq_true rfl) tw177 (Or.inl rfl) dX3_readText_18 (fun v7 => ?_)
  refine J_callVv (pc := 21) hc clX6 (As := []) (KX6_begin v7) dX3_readText_21 moX6_begin rfl tw332 tw333 tw334 tw6 tw335 rfl (Nat.le_of_ble_eq_true rfl) (Nat.le_of_ble_eq_true rfl) (Nat.le_of_ble_eq_true rfl) (Nat.le_of_ble_eq_true rfl) (Nat.le_of_ble_eq_true rfl) rfl (fun _ => ?_)
  refine J_aload_n (pc := 24) hc dX3_readText_24 rfl rfl ?_
  refine J_getA (pc := 25) hc clX3 (k := 2) (kd := 6) (Nat.le_of_ble_eq_true rfl) rfl (Nat.le_of_ble_eq_true rfl) tw177 (Or.inl rfl) dX3_readText_25 (fun v8 => ?_)
  refine J_ldcS (pc := 28) (i := 0) hc rfl dX3_readText_28 ?_
  refine J_callVi (pc := 30) hc clX6 (As := [((20, .ref (SB + 0)) : TV)]) (KX6_isWord v8 (SB + 0)) dX3_readText_30 moX6_isWord rfl tw351 tw352 tw353 tw6 tw354 rfl (Nat.le_of_ble_eq_true rfl) (Nat.le_of_ble_eq_true rfl) (Nat.le_of_ble_eq_true rfl) (Nat.le_of_ble_eq_true rfl) (Nat.le_of_ble_eq_true rfl) rfl (fun v9 => ?_)
  refine J_if_eq (pc := 33) (tgt := 43) hc dX3_readText_33 (by decide) ?_ ?_
  · refine J_sub (l' := [some ((3, .ref x0) : TV), none, none]) ⟨rfl, trivial⟩ ?_
    exact jX3_readText_L43 hc he x0
  · refine J_aload_n (pc := 36) hc dX3_readText_36 rfl rfl ?_
    refine J_callVi (pc := 37) hc clX3 (As := []) (KX3_readWide x0) dX3_readText_37 moX3_readWide rfl tw403 tw405 twp1 tw5 tw406 rfl (Nat.le_of_ble_eq_true rfl) (Nat.le_of_ble_eq_true rfl) (Nat.le_of_ble_eq_true rfl) (Nat.le_of_ble_eq_true rfl) (Nat.le_of_ble_eq_true rfl) rfl (fun v10 => ?_)
    refine J_if_eq (pc := 40) (tgt := 47) hc dX3_readText_40 (by decide) ?_ ?_
    · refine J_iconst (pc := 47) (v := 0) hc dX3_readText_47 (by decide) ?_
      refine J_sub (l' := [some ((3, .ref x0) : TV), none, none]) ⟨rfl, trivial⟩ ?_
      exact jX3_readText_L48 hc he x0 0
    · refine J_sub (l' := [some ((3, .ref x0) : TV), none, none]) ⟨rfl, trivial⟩ ?_
      exact jX3_readText_L43 hc he x0
theorem moX3_readText : MOk yX3_readText 0 := ⟨by decide +kernel, by decide +kernel, by decide +kernel⟩
set_option maxRecDepth 100000 in
set_option maxHeartbeats 4000000 in
theorem KX3_readText (x0 : Nat) : Ct wI yX3_readText cX3_readText 3 (some .boolean) 7 0 0 151 [((3, .ref x0) : TV)] (fX3_readText x0) :=
  Ct_Z ⟨rfl, rfl⟩ (j := 2) (by decide +kernel) rfl rfl (Nat.le_of_ble_eq_true rfl) (fun κ fin hc he => jX3_readText hc he x0)
set_option maxRecDepth 100000 in
set_option maxHeartbeats 4000000 in
theorem jX5_init {κ : Cx} {fin : Unit → Mm → Prop} (hc : Jc κ RX5 cX5_init 1 3 14 339 60) (he : Ed κ cX5_init 14 339 wV .return_ fin) (hin : Mh κ = "<init>") (x0 : Nat) : Jg κ (wM κ) 1 fin 0 0 0 [some ((5, .ref x0) : TV)] [] (fX5_init x0) := by
  unfold fX5_init
  refine J_aload_n (pc := 0) hc dX5_init_0 rfl rfl ?_
  refine J_objInit (pc := 1) hc tw231 tw43 tw44 (Nat.le_of_ble_eq_true rfl) (Nat.le_of_ble_eq_true rfl) (Nat.le_of_ble_eq_true rfl) dX5_init_1 ?_
  refine J_aload_n (pc := 4) hc dX5_init_4 rfl rfl ?_
  refine J_bipush (pc := 5) (v := 20) hc dX5_init_5 (by decide) ?_
  refine J_newa12 (pc := 7) (N9 := 20) hc tw81 (by decide) (by decide) (Nat.le_of_ble_eq_true rfl) (Nat.le_of_ble_eq_true rfl) (Nat.le_of_ble_eq_true rfl) dX5_init_7 (fun h1 => ?_)
  refine J_putA (pc := 9) hc hin clX5 (k := 7) (kd := 12) (Nat.le_of_ble_eq_true rfl) rfl (Nat.le_of_ble_eq_true rfl) (fun _ => rfl) (fun _ => rfl) tw248 rfl rfl rfl dX5_init_9 ?_
  refine J_aload_n (pc := 12) hc dX5_init_12 rfl rfl ?_
  refine J_bipush (pc := 13) (v := 20) hc dX5_init_13 (by decide) ?_
  refine J_newa11 (pc := 15) (N9 := 20) hc tw82 (by decide) (by decide) (Nat.le_of_ble_eq_true rfl) (Nat.le_of_ble_eq_true rfl) (Nat.le_of_ble_eq_true rfl) dX5_init_15 (fun h2 => ?_)
  refine J_putA (pc := 17) hc hin clX5 (k := 8) (kd := 11) (Nat.le_of_ble_eq_true rfl) rfl (Nat.le_of_ble_eq_true rfl) (fun _ => rfl) (fun _ => rfl) tw250 rfl rfl rfl dX5_init_17 ?_
  refine J_aload_n (pc := 20) hc dX5_init_20 rfl rfl ?_
  refine J_bipush (pc := 21) (v := 20) hc dX5_init_21 (by decide) ?_
  refine J_newa11 (pc := 23) (N9 := 20) hc tw82 (by decide) (by decide) (Nat.le_of_ble_eq_true rfl) (Nat.le_of_ble_eq_true rfl) (Nat.le_of_ble_eq_true rfl) dX5_init_23 (fun h3 => ?_)
  refine J_putA (pc := 25) hc hin clX5 (k := 9) (kd := 11) (Nat.le_of_ble_eq_true rfl) rfl (Nat.le_of_ble_eq_true rfl) (fun _ => rfl) (fun _ => rfl) tw252 rfl rfl rfl dX5_init_25 ?_
  refine J_aload_n (pc := 28) hc dX5_init_28 rfl rfl ?_
  refine J_bipush (pc := 29) (v := 20) hc dX5_init_29 (by decide) ?_
  refine J_newa11 (pc := 31) (N9 := 20) hc tw82 (by decide) (by decide) (Nat.le_of_ble_eq_true rfl) (Nat.le_of_ble_eq_true rfl) (Nat.le_of_ble_eq_true rfl) dX5_init_31 (fun h4 => ?_)
  refine J_putA (pc := 33) hc hin clX5 (k := 10) (kd := 11) (Nat.le_of_ble_eq_true rfl) rfl (Nat.le_of_ble_eq_true rfl) (fun _ => rfl) (fun _ => rfl) tw254 rfl rfl rfl dX5_init_33 ?_
  refine J_aload_n (pc := 36) hc dX5_init_36 rfl rfl ?_
  refine J_bipush (pc := 37) (v := 20) hc dX5_init_37 (by decide) ?_
  refine J_newa11 (pc := 39) (N9 := 20) hc tw82 (by decide) (by decide) (Nat.le_of_ble_eq_true rfl) (Nat.le_of_ble_eq_true rfl) (Nat.le_of_ble_eq_true rfl) dX5_init_39 (fun h5 => ?_)
  refine J_putA (pc := 41) hc hin clX5 (k := 11) (kd := 11) (Nat.le_of_ble_eq_true rfl) rfl (Nat.le_of_ble_eq_true rfl) (fun _ => rfl) (fun _ => rfl) tw256 rfl rfl rfl dX5_init_41 ?_
  refine J_aload_n (pc := 44) hc dX5_init_44 rfl rfl ?_
  refine J_bipush (pc := 45) (v := 20) hc dX5_init_45 (by decide) ?_
  refine J_newa11 (pc := 47) (N9 := 20) hc tw82 (by decide) (by decide) (Nat.le_of_ble_eq_true rfl) (Nat.le_of_ble_eq_true rfl) (Nat.le_of_ble_eq_true rfl) dX5_init_47 (fun h6 => ?_)
  refine J_putA (pc := 49) hc hin clX5 (k := 12) (kd := 11) (Nat.le_of_ble_eq_true rfl) rfl (Nat.le_of_ble_eq_true rfl) (fun _ => rfl) (fun _ => rfl) tw258 rfl rfl rfl dX5_init_49 ?_
  refine J_aload_n (pc := 52) hc dX5_init_52 rfl rfl ?_
  refine J_bipush (pc := 53) (v := 20) hc dX5_init_53 (by decide) ?_
  refine J_newa11 (pc := 55) (N9 := 20) hc tw82 (by decide) (by decide) (Nat.le_of_ble_eq_true rfl) (Nat.le_of_ble_eq_true rfl) (Nat.le_of_ble_eq_true rfl) dX5_init_55 (fun h7 => ?_)
  refine J_putA (pc := 57) hc hin clX5 (k := 13) (kd := 11) (Nat.le_of_ble_eq_true rfl) rfl (Nat.le_of_ble_eq_true rfl) (fun _ => rfl) (fun _ => rfl) tw259 rfl rfl rfl dX5_init_57 ?_
  refine J_aload_n (pc := 60) hc dX5_init_60 rfl rfl ?_
  refine J_bipush (pc := 61) (v := 20) hc dX5_init_61 (by decide) ?_
  refine J_newa11 (pc := 63) (N9 := 20) hc tw82 (by decide) (by decide) (Nat.le_of_ble_eq_true rfl) (Nat.le_of_ble_eq_true rfl) (Nat.le_of_ble_eq_true rfl) dX5_init_63 (fun h8 => ?_)
  refine J_putA (pc := 65) hc hin clX5 (k := 14) (kd := 11) (Nat.le_of_ble_eq_true rfl) rfl (Nat.le_of_ble_eq_true rfl) (fun _ => rfl) (fun _ => rfl) tw260 rfl rfl rfl dX5_init_65 ?_
  refine J_aload_n (pc := 68) hc dX5_init_68 rfl rfl ?_
  refine J_new (pc := 69) hc clX0 dvX0 tw232 tw194 tw8 (Nat.le_of_ble_eq_true rfl) (Nat.le_of_ble_eq_true rfl) dX5_init_69 (fun h9 => ?_)
  refine J_dup (pc := 72) hc dX5_init_72 rfl ?_
  refine J_callIv (pc := 73) hc (ci := 0) (Or.inl (Nat.le_of_ble_eq_true rfl)) (As := []) (KX0_init h9) dX5_init_73 moX0_init rfl tw233 tw196 tw8 tw197 rfl (Nat.le_of_ble_eq_true rfl) (Nat.le_of_ble_eq_true rfl) (Nat.le_of_ble_eq_true rfl) (Nat.le_of_ble_eq_true rfl) (Nat.le_of_ble_eq_true rfl) rfl (fun _ => ?_)
  refine J_putA (pc := 76) hc hin clX5 (k := 15) (kd := 0) (Nat.le_of_ble_eq_true rfl) rfl (Nat.le_of_ble_eq_true rfl) (fun _ => rfl) (fun _ => rfl) tw261 rfl rfl rfl dX5_init_76 ?_
  exact J_vret (pc := 79) he dX5_init_79
theorem moX5_init : MOk yX5_init 0 := ⟨by decide +kernel, by decide +kernel, by decide +kernel⟩
set_option maxRecDepth 100000 in
set_option maxHeartbeats 4000000 in
theorem KX5_init (x0 : Nat) : Ct wV yX5_init cX5_init 1 none 3 14 339 60 [((5, .ref x0) : TV)] (fX5_init x0) :=
  Ct_V (j := 0) (by decide +kernel) rfl rfl (Nat.le_of_ble_eq_true rfl) (fun κ fin hc he hin => jX5_init hc he hin x0)
set_option maxRecDepth 100000 in
set_option maxHeartbeats 4000000 in
theorem jX5_prepare_L48 {κ : Cx} {fin : Unit → Mm → Prop} (hc : Jc κ RX5 cX5_prepare 3 4 0 0 103) (he : Ed κ cX5_prepare 0 0 wV .return_ fin) : ∀ (n : Nat) (x0 : Nat) (x1 : Nat) (x2 : Int32), Jg κ (wM κ) 3 fin 0 0 48 [some ((5, .ref x0) : TV), some ((2, .ref x1) : TV), some ((0, .int x2) : TV)] [] (fX5_prepare_L48 n x0 x1 x2) := by
  intro n
  induction n with
  | zero => intro x0 x1 x2; exact J_fail
  | succ n ih =>
    intro x0 x1 x2
    unfold fX5_prepare_L48
    refine J_iload_n (pc := 48) hc dX5_prepare_48 rfl rfl ?_
    refine J_aload_n (pc := 49) hc dX5_prepare_49 rfl rfl ?_
    refine J_getI (pc := 50) hc clX2 (k := 1) (Nat.le_of_ble_eq_true rfl) rfl tw58 (Or.inl rfl) dX5_prepare_50 (fun v1 => ?_)
    refine J_icmp_ge (pc := 53) (tgt := 122) hc dX5_prepare_53 (by decide) ?_ ?_
    · exact J_vret (pc := 122) he dX5_prepare_122
    · refine J_iload_n (pc := 56) hc dX5_prepare_56 rfl rfl ?_
      refine J_bipush (pc := 57) (v := 20) hc dX5_prepare_57 (by decide) ?_
      refine J_icmp_ge (pc := 59) (tgt := 122) hc dX5_prepare_59 (by decide) ?_ ?_
      · exact J_vret (pc := 122) he dX5_prepare_122
      · refine J_aload_n (pc := 62) hc dX5_prepare_62 rfl rfl ?_
        refine J_getA (pc := 63) hc clX5 (k := 15) (kd := 0) (Nat.le_of_ble_eq_true rfl) rfl (Nat.le_of_ble_eq_true rfl) tw261 (Or.inl rfl) dX5_prepare_63 (fun v2 => ?_)
        refine J_aload_n (pc := 66) hc dX5_prepare_66 rfl rfl ?_
        refine J_iload_n (pc := 67) hc dX5_prepare_67 rfl rfl ?_
        refine J_callVj (pc := 68) hc clX2 (As := [((0, .int x2) : TV)]) (KX2_rowAt x1 x2) dX5_prepare_68 moX2_rowAt rfl tw1257 tw491 tw492 tw3 tw493 rfl (Nat.le_of_ble_eq_true rfl) (Nat.le_of_ble_eq_true rfl) (Nat.le_of_ble_eq_true rfl) (Nat.le_of_ble_eq_true rfl) (Nat.le_of_ble_eq_true rfl) rfl (fun v3 => ?_)
        refine J_aload_n (pc := 71) hc dX5_prepare_71 rfl rfl ?_
        refine J_iload_n (pc := 72) hc dX5_prepare_72 rfl rfl ?_
        refine J_iconst (pc := 73) (v := 1) hc dX5_prepare_73 (by decide) ?_
        refine J_isub (pc := 74) hc dX5_prepare_74 ?_
        refine J_callVj (pc := 75) hc clX2 (As := [((0, .int (x2 - 1)) : TV)]) (KX2_rowAt x1 (x2 - 1)) dX5_prepare_75 moX2_rowAt rfl tw1257 tw491 tw492 tw3 tw493 rfl (Nat.le_of_ble_eq_true rfl) (Nat.le_of_ble_eq_true rfl) (Nat.le_of_ble_eq_true rfl) (Nat.le_of_ble_eq_true rfl) (Nat.le_of_ble_eq_true rfl) rfl (fun v4 => ?_)
        refine J_aload_n (pc := 78) hc dX5_prepare_78 rfl rfl ?_
        refine J_getI (pc := 79) hc clX2 (k := 0) (Nat.le_of_ble_eq_true rfl) rfl tw54 (Or.inl rfl) dX5_prepare_79 (fun v5 => ?_)
        refine J_callVv (pc := 82) hc clX0 (As := [((0, .long v3) : TV), ((0, .long v4) : TV), ((0, .int v5) : TV)]) (KX0_makeFor v2 v3 v4 v5) dX5_prepare_82 moX0_makeFor rfl tw1258 tw1009 tw1010 tw8 tw1011 rfl (Nat.le_of_ble_eq_true rfl) (Nat.le_of_ble_eq_true rfl) (Nat.le_of_ble_eq_true rfl) (Nat.le_of_ble_eq_true rfl) (Nat.le_of_ble_eq_true rfl) rfl (fun _ => ?_)
        refine J_aload_n (pc := 85) hc dX5_prepare_85 rfl rfl ?_
        refine J_getA (pc := 86) hc clX5 (k := 14) (kd := 11) (Nat.le_of_ble_eq_true rfl) rfl (Nat.le_of_ble_eq_true rfl) tw260 (Or.inl rfl) dX5_prepare_86 (fun v6 => ?_)
        refine J_iload_n (pc := 89) hc dX5_prepare_89 rfl rfl ?_
        refine J_aload_n (pc := 90) hc dX5_prepare_90 rfl rfl ?_
        refine J_getA (pc := 91) hc clX5 (k := 15) (kd := 0) (Nat.le_of_ble_eq_true rfl) rfl (Nat.le_of_ble_eq_true rfl) tw261 (Or.inl rfl) dX5_prepare_91 (fun v7 => ?_)
        refine J_getI (pc := 94) hc clX0 (k := 1) (Nat.le_of_ble_eq_true rfl) rfl tw204 (Or.inl rfl) dX5_prepare_94 (fun v8 => ?_)
        refine J_iast (pc := 97) hc dX5_prepare_97 ?_
        refine J_aload_n (pc := 98) hc dX5_prepare_98 rfl rfl ?_
        refine J_getA (pc := 99) hc clX5 (k := 13) (kd := 11) (Nat.le_of_ble_eq_true rfl) rfl (Nat.le_of_ble_eq_true rfl) tw259 (Or.inl rfl) dX5_prepare_99 (fun v9 => ?_)
        refine J_iload_n (pc := 102) hc dX5_prepare_102 rfl rfl ?_
        refine J_aload_n (pc := 103) hc dX5_prepare_103 rfl rfl ?_
        refine J_iload_n (pc := 104) hc dX5_prepare_104 rfl rfl ?_
        refine J_callVj (pc := 105) hc clX2 (As := [((0, .int x2) : TV)]) (KX2_rowAt x1 x2) dX5_prepare_105 moX2_rowAt rfl tw1257 tw491 tw492 tw3 tw493 rfl (Nat.le_of_ble_eq_true rfl) (Nat.le_of_ble_eq_true rfl) (Nat.le_of_ble_eq_true rfl) (Nat.le_of_ble_eq_true rfl) (Nat.le_of_ble_eq_true rfl) rfl (fun v10 => ?_)
        refine J_aload_n (pc := 108) hc dX5_prepare_108 rfl rfl ?_
        refine J_getI (pc := 109) hc clX2 (k := 0) (Nat.le_of_ble_eq_true rfl) rfl tw54 (Or.inl rfl) dX5_prepare_109 (fun v11 => ?_)
        refine J_callSNi (pc := 112) hc (As := [((0, .long v10) : TV), ((0, .int v11) : TV)]) (KX7_aloneBits v10 v11) dX5_prepare_112 moX7_aloneBits (by decide +kernel) tw1036 tw2 tw1037 rfl (Nat.le_of_ble_eq_true rfl) (Nat.le_of_ble_eq_true rfl) (Nat.le_of_ble_eq_true rfl) (Nat.le_of_ble_eq_true rfl) (Nat.le_of_ble_eq_true rfl) rfl (fun v12 => ?_)
        refine J_iast (pc := 115) hc dX5_prepare_115 ?_
        refine J_iinc (pc := 116) (v := x2 + 1) (l' := [some ((5, .ref x0) : TV), some ((2, .ref x1) : TV), some ((0, .int (x2 + 1)) : TV)]) hc dX5_prepare_116 rfl rfl (by decide) rfl rfl ?_
        refine J_goto (pc := 119) (tgt := 48) hc dX5_prepare_119 (by decide) ?_
        refine J_sub (l' := [some ((5, .ref x0) : TV), some ((2, .ref x1) : TV), some ((0, .int (x2 + 1)) : TV)]) ⟨rfl, ⟨rfl, ⟨rfl, trivial⟩⟩⟩ ?_
        exact ih x0 x1 (x2 + 1)
set_option maxRecDepth 100000 in
set_option maxHeartbeats 4000000 in
theorem jX5_prepare_L22 {κ : Cx} {fin : Unit → Mm → Prop} (hc : Jc κ RX5 cX5_prepare 3 4 0 0 103) (he : Ed κ cX5_prepare 0 0 wV .return_ fin) : ∀ (n : Nat) (x0 : Nat) (x1 : Nat) (x2 : Int32), Jg κ (wM κ) 3 fin 0 0 22 [some ((5, .ref x0) : TV), some ((2, .ref x1) : TV), some ((0, .int x2) : TV)] [] (fX5_prepare_L22 n x0 x1 x2) := by
  intro n
  induction n with
  | zero => intro x0 x1 x2; exact J_fail
  | succ n ih =>
    intro x0 x1 x2
    unfold fX5_prepare_L22
    refine J_iload_n (pc := 22) hc dX5_prepare_22 rfl rfl ?_
    refine J_bipush (pc := 23) (v := 20) hc dX5_prepare_23 (by decide) ?_
    refine J_icmp_ge (pc := 25) (tgt := 46) hc dX5_prepare_25 (by decide) ?_ ?_
    · refine J_iconst (pc := 46) (v := 0) hc dX5_prepare_46 (by decide) ?_
      refine J_istore_n (pc := 47) (l' := [some ((5, .ref x0) : TV), some ((2, .ref x1) : TV), some ((0, .int 0) : TV)]) hc dX5_prepare_47 rfl (by decide) rfl rfl ?_
      refine J_sub (l' := [some ((5, .ref x0) : TV), some ((2, .ref x1) : TV), some ((0, .int 0) : TV)]) ⟨rfl, ⟨rfl, ⟨rfl, trivial⟩⟩⟩ ?_
      exact jX5_prepare_L48 hc he fu x0 x1 0
    · refine J_aload_n (pc := 28) hc dX5_prepare_28 rfl rfl ?_
      refine J_getA (pc := 29) hc clX5 (k := 12) (kd := 11) (Nat.le_of_ble_eq_true rfl) rfl (Nat.le_of_ble_eq_true rfl) tw258 (Or.inl rfl) dX5_prepare_29 (fun v13 => ?_)
      refine J_iload_n (pc := 32) hc dX5_prepare_32 rfl rfl ?_
      refine J_aload_n (pc := 33) hc dX5_prepare_33 rfl rfl ?_
      refine J_getA (pc := 34) hc clX2 (k := 3) (kd := 11) (Nat.le_of_ble_eq_true rfl) rfl (Nat.le_of_ble_eq_true rfl) tw63 (Or.inl rfl) dX5_prepare_34 (fun v14 => ?_)
      refine J_iload_n (pc := 37) hc dX5_prepare_37 rfl rfl ?_
      refine J_iald (pc := 38) hc dX5_prepare_38 (fun v15 => ?_)
      refine J_iast (pc := 39) hc dX5_prepare_39 ?_
      refine J_iinc (pc := 40) (v := x2 + 1) (l' := [some ((5, .ref x0) : TV), some ((2, .ref x1) : TV), some ((0, .int (x2 + 1)) : TV)]) hc dX5_prepare_40 rfl rfl (by decide) rfl rfl ?_
      refine J_goto (pc := 43) (tgt := 22) hc dX5_prepare_43 (by decide) ?_
      refine J_sub (l' := [some ((5, .ref x0) : TV), some ((2, .ref x1) : TV), some ((0, .int (x2 + 1)) : TV)]) ⟨rfl, ⟨rfl, ⟨rfl, trivial⟩⟩⟩ ?_
      exact ih x0 x1 (x2 + 1)
set_option maxRecDepth 100000 in
set_option maxHeartbeats 4000000 in
theorem jX5_prepare {κ : Cx} {fin : Unit → Mm → Prop} (hc : Jc κ RX5 cX5_prepare 3 4 0 0 103) (he : Ed κ cX5_prepare 0 0 wV .return_ fin) (x0 : Nat) (x1 : Nat) : Jg κ (wM κ) 3 fin 0 0 0 [some ((5, .ref x0) : TV), some ((2, .ref x1) : TV), none] [] (fX5_prepare x0 x1) := by
  unfold fX5_prepare
  refine J_aload_n (pc := 0) hc dX5_prepare_0 rfl rfl ?_
  refine J_aload_n (pc := 1) hc dX5_prepare_1 rfl rfl ?_
  refine J_getA (pc := 2) hc clX2 (k := 4) (kd := 11) (Nat.le_of_ble_eq_true rfl) rfl (Nat.le_of_ble_eq_true rfl) tw67 (Or.inl rfl) dX5_prepare_2 (fun v16 => ?_)
  refine J_iconst (pc := 5) (v := 0) hc dX5_prepare_5 (by decide) ?_
  refine J_iald (pc := 6) hc dX5_prepare_6 (fun v17 => ?_)
  refine J_putI (pc := 7) hc clX5 (k := 0) (Nat.le_of_ble_eq_true rfl) rfl rfl tw234 (Or.inl rfl) rfl dX5_prepare_7 ?_
  refine J_aload_n (pc := 10) hc dX5_prepare_10 rfl rfl ?_
  refine J_aload_n (pc := 11) hc dX5_prepare_11 rfl rfl ?_
  refine J_getA (pc := 12) hc clX2 (k := 4) (kd := 11) (Nat.le_of_ble_eq_true rfl) rfl (Nat.le_of_ble_eq_true rfl) tw67 (Or.inl rfl) dX5_prepare_12 (fun v18 => ?_)
  refine J_iconst (pc := 15) (v := 3) hc dX5_prepare_15 (by decide) ?_
  refine J_iald (pc := 16) hc dX5_prepare_16 (fun v19 => ?_)
  refine J_putI (pc := 17) hc clX5 (k := 1) (Nat.le_of_ble_eq_true rfl) rfl rfl tw236 (Or.inl rfl) rfl dX5_prepare_17 ?_
  refine J_iconst (pc := 20) (v := 0) hc dX5_prepare_20 (by decide) ?_
  refine J_istore_n (pc := 21) (l' := [some ((5, .ref x0) : TV), some ((2, .ref x1) : TV), some ((0, .int 0) : TV)]) hc dX5_prepare_21 rfl (by decide) rfl rfl ?_
  refine J_sub (l' := [some ((5, .ref x0) : TV), some ((2, .ref x1) : TV), some ((0, .int 0) : TV)]) ⟨rfl, ⟨rfl, ⟨rfl, trivial⟩⟩⟩ ?_
  exact jX5_prepare_L22 hc he fu x0 x1 0
theorem moX5_prepare : MOk yX5_prepare 1 := ⟨by decide +kernel, by decide +kernel, by decide +kernel⟩
set_option maxRecDepth 100000 in
set_option maxHeartbeats 4000000 in
theorem KX5_prepare (x0 : Nat) (x1 : Nat) : Ct wV yX5_prepare cX5_prepare 3 none 4 0 0 103 [((5, .ref x0) : TV), ((2, .ref x1) : TV)] (fX5_prepare x0 x1) :=
  Ct_V (j := 1) (by decide +kernel) rfl rfl (Nat.le_of_ble_eq_true rfl) (fun κ fin hc he hin => jX5_prepare hc he x0 x1)
set_option maxRecDepth 100000 in
set_option maxHeartbeats 4000000 in
theorem jX5_loseOnly_L28 {κ : Cx} {fin : Unit → Mm → Prop} (hc : Jc κ RX5 cX5_loseOnly 3 0 0 0 0) (he : Ed κ cX5_loseOnly 0 0 wV .return_ fin) {k7 : Nat → Int32 → Int32 → Mm → Option (Unit × Mm)} (hk7 : ∀ (x0 : Nat) (x1 : Int32) (x2 : Int32), Jg κ (wM κ) 3 fin 0 0 7 [some ((5, .ref x0) : TV), some ((0, .int x1) : TV), some ((0, .int x2) : TV)] [] (k7 x0 x1 x2)) (x0 : Nat) (x1 : Int32) (x2 : Int32) (s0 : Int32) (s1 : Int32) (s2 : Nat) : Jg κ (wM κ) 3 fin 0 0 28 [some ((5, .ref x0) : TV), some ((0, .int x1) : TV), some ((0, .int x2) : TV)] [((0, .int s0) : TV), ((0, .int s1) : TV), ((11, .ref s2) : TV)] (fX5_loseOnly_L28 k7 x0 x1 x2 s0 s1 s2) := by
  unfold fX5_loseOnly_L28
  refine J_iast (pc := 28) hc dX5_loseOnly_28 ?_
  refine J_iinc (pc := 29) (v := x2 + 1) (l' := [some ((5, .ref x0) : TV), some ((0, .int x1) : TV), some ((0, .int (x2 + 1)) : TV)]) hc dX5_loseOnly_29 rfl rfl (by decide) rfl rfl ?_
  refine J_goto (pc := 32) (tgt := 7) hc dX5_loseOnly_32 (by decide) ?_
  refine J_sub (l' := [some ((5, .ref x0) : TV), some ((0, .int x1) : TV), some ((0, .int (x2 + 1)) : TV)]) ⟨rfl, ⟨rfl, ⟨rfl, trivial⟩⟩⟩ ?_
  exact hk7 x0 x1 (x2 + 1)
set_option maxRecDepth 100000 in
set_option maxHeartbeats 4000000 in
theorem jX5_loseOnly_L7 {κ : Cx} {fin : Unit → Mm → Prop} (hc : Jc κ RX5 cX5_loseOnly 3 0 0 0 0) (he : Ed κ cX5_loseOnly 0 0 wV .return_ fin) : ∀ (n : Nat) (x0 : Nat) (x1 : Int32) (x2 : Int32), Jg κ (wM κ) 3 fin 0 0 7 [some ((5, .ref x0) : TV), some ((0, .int x1) : TV), some ((0, .int x2) : TV)] [] (fX5_loseOnly_L7 n x0 x1 x2) := by
  intro n
  induction n with
  | zero => intro x0 x1 x2; exact J_fail
  | succ n ih =>
    intro x0 x1 x2
    unfold fX5_loseOnly_L7
    refine J_iload_n (pc := 7) hc dX5_loseOnly_7 rfl rfl ?_
    refine J_bipush (pc := 8) (v := 20) hc dX5_loseOnly_8 (by decide) ?_
    refine J_icmp_ge (pc := 10) (tgt := 35) hc dX5_loseOnly_10 (by decide) ?_ ?_
    · exact J_vret (pc := 35) he dX5_loseOnly_35
    · refine J_aload_n (pc := 13) hc dX5_loseOnly_13 rfl rfl ?_
      refine J_getA (pc := 14) hc clX5 (k := 12) (kd := 11) (Nat.le_of_ble_eq_true rfl) rfl (Nat.le_of_ble_eq_true rfl) tw258 (Or.inl rfl) dX5_loseOnly_14 (fun v1 => ?_)
      refine J_iload_n (pc := 17) hc dX5_loseOnly_17 rfl rfl ?_
      refine J_iload_n (pc := 18) hc dX5_loseOnly_18 rfl rfl ?_
      refine J_iload_n (pc := 19) hc dX5_loseOnly_19 rfl rfl ?_
      refine J_icmp_ne (pc := 20) (tgt := 27) hc dX5_loseOnly_20 (by decide) ?_ ?_
      · refine J_iconst (pc := 27) (v := 0) hc dX5_loseOnly_27 (by decide) ?_
        refine J_sub (l' := [some ((5, .ref x0) : TV), some ((0, .int x1) : TV), some ((0, .int x2) : TV)]) ⟨rfl, ⟨rfl, ⟨rfl, trivial⟩⟩⟩ ?_
        exact jX5_loseOnly_L28 hc he ih x0 x1 x2 0 x2 v1
      · refine J_iconst (pc := 23) (v := 1) hc dX5_loseOnly_23 (by decide) ?_
        refine J_goto (pc := 24) (tgt := 28) hc dX5_loseOnly_24 (by decide) ?_
        refine J_sub (l' := [some ((5, .ref x0) : TV), some ((0, .int x1) : TV), some ((0, .int x2) : TV)]) ⟨rfl, ⟨rfl, ⟨rfl, trivial⟩⟩⟩ ?_
        exact jX5_loseOnly_L28 hc he ih x0 x1 x2 1 x2 v1
set_option maxRecDepth 100000 in
set_option maxHeartbeats 4000000 in
theorem jX5_loseOnly {κ : Cx} {fin : Unit → Mm → Prop} (hc : Jc κ RX5 cX5_loseOnly 3 0 0 0 0) (he : Ed κ cX5_loseOnly 0 0 wV .return_ fin) (x0 : Nat) (x1 : Int32) : Jg κ (wM κ) 3 fin 0 0 0 [some ((5, .ref x0) : TV), some ((0, .int x1) : TV), none] [] (fX5_loseOnly x0 x1) := by
  unfold fX5_loseOnly
  refine J_aload_n (pc := 0) hc dX5_loseOnly_0 rfl rfl ?_
  refine J_iconst (pc := 1) (v := 0) hc dX5_loseOnly_1 (by decide) ?_
  refine J_putI (pc := 2) hc clX5 (k := 1) (Nat.le_of_ble_eq_true rfl) rfl rfl tw236 (Or.inl rfl) rfl dX5_loseOnly_2 ?_
  refine J_iconst (pc := 5) (v := 0) hc dX5_loseOnly_5 (by decide) ?_
  refine J_istore_n (pc := 6) (l' := [some ((5, .ref x0) : TV), some ((0, .int x1) : TV), some ((0, .int 0) : TV)]) hc dX5_loseOnly_6 rfl (by decide) rfl rfl ?_
  refine J_sub (l' := [some ((5, .ref x0) : TV), some ((0, .int x1) : TV), some ((0, .int 0) : TV)]) ⟨rfl, ⟨rfl, ⟨rfl, trivial⟩⟩⟩ ?_
  exact jX5_loseOnly_L7 hc he fu x0 x1 0
theorem moX5_loseOnly : MOk yX5_loseOnly 1 := ⟨by decide +kernel, by decide +kernel, by decide +kernel⟩
set_option maxRecDepth 100000 in
set_option maxHeartbeats 4000000 in
theorem KX5_loseOnly (x0 : Nat) (x1 : Int32) : Ct wV yX5_loseOnly cX5_loseOnly 3 none 0 0 0 0 [((5, .ref x0) : TV), ((0, .int x1) : TV)] (fX5_loseOnly x0 x1) :=
  Ct_V (j := 1) (by decide +kernel) rfl rfl (Nat.le_of_ble_eq_true rfl) (fun κ fin hc he hin => jX5_loseOnly hc he x0 x1)
set_option maxRecDepth 100000 in
set_option maxHeartbeats 4000000 in
theorem jX5_clear_L27 {κ : Cx} {fin : Unit → Mm → Prop} (hc : Jc κ RX5 cX5_clear 2 0 0 0 0) (he : Ed κ cX5_clear 0 0 wV .return_ fin) : ∀ (n : Nat) (x0 : Nat) (x1 : Int32), Jg κ (wM κ) 2 fin 0 0 27 [some ((5, .ref x0) : TV), some ((0, .int x1) : TV)] [] (fX5_clear_L27 n x0 x1) := by
  intro n
  induction n with
  | zero => intro x0 x1; exact J_fail
  | succ n ih =>
    intro x0 x1
    unfold fX5_clear_L27
    refine J_iload_n (pc := 27) hc dX5_clear_27 rfl rfl ?_
    refine J_bipush (pc := 28) (v := 20) hc dX5_clear_28 (by decide) ?_
    refine J_icmp_ge (pc := 30) (tgt := 74) hc dX5_clear_30 (by decide) ?_ ?_
    · exact J_vret (pc := 74) he dX5_clear_74
    · refine J_aload_n (pc := 33) hc dX5_clear_33 rfl rfl ?_
      refine J_getA (pc := 34) hc clX5 (k := 7) (kd := 12) (Nat.le_of_ble_eq_true rfl) rfl (Nat.le_of_ble_eq_true rfl) tw248 (Or.inl rfl) dX5_clear_34 (fun v1 => ?_)
      refine J_iload_n (pc := 37) hc dX5_clear_37 rfl rfl ?_
      refine J_lconst (pc := 38) (v := 0) hc dX5_clear_38 rfl ?_
      refine J_last (pc := 39) hc dX5_clear_39 ?_
      refine J_aload_n (pc := 40) hc dX5_clear_40 rfl rfl ?_
      refine J_getA (pc := 41) hc clX5 (k := 8) (kd := 11) (Nat.le_of_ble_eq_true rfl) rfl (Nat.le_of_ble_eq_true rfl) tw250 (Or.inl rfl) dX5_clear_41 (fun v2 => ?_)
      refine J_iload_n (pc := 44) hc dX5_clear_44 rfl rfl ?_
      refine J_iconst (pc := 45) (v := 0) hc dX5_clear_45 (by decide) ?_
      refine J_iast (pc := 46) hc dX5_clear_46 ?_
      refine J_aload_n (pc := 47) hc dX5_clear_47 rfl rfl ?_
      refine J_getA (pc := 48) hc clX5 (k := 9) (kd := 11) (Nat.le_of_ble_eq_true rfl) rfl (Nat.le_of_ble_eq_true rfl) tw252 (Or.inl rfl) dX5_clear_48 (fun v3 => ?_)
      refine J_iload_n (pc := 51) hc dX5_clear_51 rfl rfl ?_
      refine J_iconst (pc := 52) (v := 0) hc dX5_clear_52 (by decide) ?_
      refine J_iast (pc := 53) hc dX5_clear_53 ?_
      refine J_aload_n (pc := 54) hc dX5_clear_54 rfl rfl ?_
      refine J_getA (pc := 55) hc clX5 (k := 10) (kd := 11) (Nat.le_of_ble_eq_true rfl) rfl (Nat.le_of_ble_eq_true rfl) tw254 (Or.inl rfl) dX5_clear_55 (fun v4 => ?_)
      refine J_iload_n (pc := 58) hc dX5_clear_58 rfl rfl ?_
      refine J_iconst (pc := 59) (v := 0) hc dX5_clear_59 (by decide) ?_
      refine J_iast (pc := 60) hc dX5_clear_60 ?_
      refine J_aload_n (pc := 61) hc dX5_clear_61 rfl rfl ?_
      refine J_getA (pc := 62) hc clX5 (k := 11) (kd := 11) (Nat.le_of_ble_eq_true rfl) rfl (Nat.le_of_ble_eq_true rfl) tw256 (Or.inl rfl) dX5_clear_62 (fun v5 => ?_)
      refine J_iload_n (pc := 65) hc dX5_clear_65 rfl rfl ?_
      refine J_iconst (pc := 66) (v := 0) hc dX5_clear_66 (by decide) ?_
      refine J_iast (pc := 67) hc dX5_clear_67 ?_
      refine J_iinc (pc := 68) (v := x1 + 1) (l' := [some ((5, .ref x0) : TV), some ((0, .int (x1 + 1)) : TV)]) hc dX5_clear_68 rfl rfl (by decide) rfl rfl ?_
      refine J_goto (pc := 71) (tgt := 27) hc dX5_clear_71 (by decide) ?_
      refine J_sub (l' := [some ((5, .ref x0) : TV), some ((0, .int (x1 + 1)) : TV)]) ⟨rfl, ⟨rfl, trivial⟩⟩ ?_
      exact ih x0 (x1 + 1)
set_option maxRecDepth 100000 in
set_option maxHeartbeats 4000000 in
theorem jX5_clear {κ : Cx} {fin : Unit → Mm → Prop} (hc : Jc κ RX5 cX5_clear 2 0 0 0 0) (he : Ed κ cX5_clear 0 0 wV .return_ fin) (x0 : Nat) : Jg κ (wM κ) 2 fin 0 0 0 [some ((5, .ref x0) : TV), none] [] (fX5_clear x0) := by
  unfold fX5_clear
  refine J_aload_n (pc := 0) hc dX5_clear_0 rfl rfl ?_
  refine J_iconst (pc := 1) (v := 0) hc dX5_clear_1 (by decide) ?_
  refine J_putI (pc := 2) hc clX5 (k := 2) (Nat.le_of_ble_eq_true rfl) rfl rfl tw238 (Or.inl rfl) rfl dX5_clear_2 ?_
  refine J_aload_n (pc := 5) hc dX5_clear_5 rfl rfl ?_
  refine J_iconst (pc := 6) (v := 0) hc dX5_clear_6 (by decide) ?_
  refine J_putI (pc := 7) hc clX5 (k := 3) (Nat.le_of_ble_eq_true rfl) rfl rfl tw240 (Or.inl rfl) rfl dX5_clear_7 ?_
  refine J_aload_n (pc := 10) hc dX5_clear_10 rfl rfl ?_
  refine J_iconst (pc := 11) (v := 0) hc dX5_clear_11 (by decide) ?_
  refine J_putI (pc := 12) hc clX5 (k := 4) (Nat.le_of_ble_eq_true rfl) rfl rfl tw242 (Or.inl rfl) rfl dX5_clear_12 ?_
  refine J_aload_n (pc := 15) hc dX5_clear_15 rfl rfl ?_
  refine J_iconst (pc := 16) (v := 0) hc dX5_clear_16 (by decide) ?_
  refine J_putI (pc := 17) hc clX5 (k := 5) (Nat.le_of_ble_eq_true rfl) rfl rfl tw244 (Or.inl rfl) rfl dX5_clear_17 ?_
  refine J_aload_n (pc := 20) hc dX5_clear_20 rfl rfl ?_
  refine J_iconst (pc := 21) (v := 0) hc dX5_clear_21 (by decide) ?_
  refine J_putI (pc := 22) hc clX5 (k := 6) (Nat.le_of_ble_eq_true rfl) rfl rfl tw246 (Or.inl rfl) rfl dX5_clear_22 ?_
  refine J_iconst (pc := 25) (v := 0) hc dX5_clear_25 (by decide) ?_
  refine J_istore_n (pc := 26) (l' := [some ((5, .ref x0) : TV), some ((0, .int 0) : TV)]) hc dX5_clear_26 rfl (by decide) rfl rfl ?_
  refine J_sub (l' := [some ((5, .ref x0) : TV), some ((0, .int 0) : TV)]) ⟨rfl, ⟨rfl, trivial⟩⟩ ?_
  exact jX5_clear_L27 hc he fu x0 0
theorem moX5_clear : MOk yX5_clear 0 := ⟨by decide +kernel, by decide +kernel, by decide +kernel⟩
set_option maxRecDepth 100000 in
set_option maxHeartbeats 4000000 in
theorem KX5_clear (x0 : Nat) : Ct wV yX5_clear cX5_clear 2 none 0 0 0 0 [((5, .ref x0) : TV)] (fX5_clear x0) :=
  Ct_V (j := 1) (by decide +kernel) rfl rfl (Nat.le_of_ble_eq_true rfl) (fun κ fin hc he hin => jX5_clear hc he x0)
set_option maxRecDepth 100000 in
set_option maxHeartbeats 4000000 in
theorem jX5_isSentAlone_L36 {κ : Cx} {fin : Int32 → Mm → Prop} (hc : Jc κ RX5 cX5_isSentAlone 3 1 0 0 21) (he : EdZ κ cX5_isSentAlone 0 0 id fin) : Jg κ (wM κ) 3 fin 0 0 36 [none, none, none] [] (fX5_isSentAlone_L36) := by
  unfold fX5_isSentAlone_L36
  refine J_iconst (pc := 36) (v := 1) hc dX5_isSentAlone_36 (by decide) ?_
  refine J_goto (pc := 37) (tgt := 41) hc dX5_isSentAlone_37 (by decide) ?_
  exact J_zret (pc := 41) he dX5_isSentAlone_41
set_option maxRecDepth 100000 in
set_option maxHeartbeats 4000000 in
theorem jX5_isSentAlone {κ : Cx} {fin : Int32 → Mm → Prop} (hc : Jc κ RX5 cX5_isSentAlone 3 1 0 0 21) (he : EdZ κ cX5_isSentAlone 0 0 id fin) (x0 : Nat) (x1 : Nat) (x2 : Int32) : Jg κ (wM κ) 3 fin 0 0 0 [some ((5, .ref x0) : TV), some ((2, .ref x1) : TV), some ((0, .int x2) : TV)] [] (fX5_isSentAlone x0 x1 x2) := by
  unfold fX5_isSentAlone
  refine J_iload_n (pc := 0) hc dX5_isSentAlone_0 rfl rfl ?_
  refine J_aload_n (pc := 1) hc dX5_isSentAlone_1 rfl rfl ?_
  refine J_getI (pc := 2) hc clX5 (k := 0) (Nat.le_of_ble_eq_true rfl) rfl tw234 (Or.inl rfl) dX5_isSentAlone_2 (fun v1 => ?_)
  refine J_callSNi (pc := 5) hc (As := [((0, .int x2) : TV), ((0, .int v1) : TV)]) (KX7_isEvery x2 v1) dX5_isSentAlone_5 moX7_isEvery (by decide +kernel) tw1002 tw2 tw1003 rfl (Nat.le_of_ble_eq_true rfl) (Nat.le_of_ble_eq_true rfl) (Nat.le_of_ble_eq_true rfl) (Nat.le_of_ble_eq_true rfl) (Nat.le_of_ble_eq_true rfl) rfl (fun v2 => ?_)
  refine J_if_ne (pc := 8) (tgt := 36) hc dX5_isSentAlone_8 (by decide) ?_ ?_
  · refine J_sub (l' := [none, none, none]) (show subL _ _ from trivial) ?_
    exact jX5_isSentAlone_L36 hc he 
  · refine J_aload_n (pc := 11) hc dX5_isSentAlone_11 rfl rfl ?_
    refine J_getA (pc := 12) hc clX2 (k := 4) (kd := 11) (Nat.le_of_ble_eq_true rfl) rfl (Nat.le_of_ble_eq_true rfl) tw67 (Or.inl rfl) dX5_isSentAlone_12 (fun v3 => ?_)
    refine J_iconst (pc := 15) (v := 1) hc dX5_isSentAlone_15 (by decide) ?_
    refine J_iald (pc := 16) hc dX5_isSentAlone_16 (fun v4 => ?_)
    refine J_iconst (pc := 17) (v := 1) hc dX5_isSentAlone_17 (by decide) ?_
    refine J_icmp_ne (pc := 18) (tgt := 40) hc dX5_isSentAlone_18 (by decide) ?_ ?_
    · refine J_iconst (pc := 40) (v := 0) hc dX5_isSentAlone_40 (by decide) ?_
      exact J_zret (pc := 41) he dX5_isSentAlone_41
    · refine J_aload_n (pc := 21) hc dX5_isSentAlone_21 rfl rfl ?_
      refine J_getA (pc := 22) hc clX5 (k := 13) (kd := 11) (Nat.le_of_ble_eq_true rfl) rfl (Nat.le_of_ble_eq_true rfl) tw259 (Or.inl rfl) dX5_isSentAlone_22 (fun v5 => ?_)
      refine J_iload_n (pc := 25) hc dX5_isSentAlone_25 rfl rfl ?_
      refine J_iald (pc := 26) hc dX5_isSentAlone_26 (fun v6 => ?_)
      refine J_aload_n (pc := 27) hc dX5_isSentAlone_27 rfl rfl ?_
      refine J_getA (pc := 28) hc clX5 (k := 14) (kd := 11) (Nat.le_of_ble_eq_true rfl) rfl (Nat.le_of_ble_eq_true rfl) tw260 (Or.inl rfl) dX5_isSentAlone_28 (fun v7 => ?_)
      refine J_iload_n (pc := 31) hc dX5_isSentAlone_31 rfl rfl ?_
      refine J_iald (pc := 32) hc dX5_isSentAlone_32 (fun v8 => ?_)
      refine J_icmp_ge (pc := 33) (tgt := 40) hc dX5_isSentAlone_33 (by decide) ?_ ?_
      · refine J_iconst (pc := 40) (v := 0) hc dX5_isSentAlone_40 (by decide) ?_
        exact J_zret (pc := 41) he dX5_isSentAlone_41
      · refine J_sub (l' := [none, none, none]) (show subL _ _ from trivial) ?_
        exact jX5_isSentAlone_L36 hc he 
theorem moX5_isSentAlone : MOk yX5_isSentAlone 2 := ⟨by decide +kernel, by decide +kernel, by decide +kernel⟩
set_option maxRecDepth 100000 in
set_option maxHeartbeats 4000000 in
theorem KX5_isSentAlone (x0 : Nat) (x1 : Nat) (x2 : Int32) : Ct wI yX5_isSentAlone cX5_isSentAlone 3 (some .boolean) 1 0 0 21 [((5, .ref x0) : TV), ((2, .ref x1) : TV), ((0, .int x2) : TV)] (fX5_isSentAlone x0 x1 x2) :=
  Ct_Z ⟨rfl, rfl⟩ (j := 0) (by decide +kernel) rfl rfl (Nat.le_of_ble_eq_true rfl) (fun κ fin hc he => jX5_isSentAlone hc he x0 x1 x2)
set_option maxRecDepth 100000 in
set_option maxHeartbeats 4000000 in
theorem jX5_rowAbove {κ : Cx} {fin : Int64 → Mm → Prop} (hc : Jc κ RX5 cX5_rowAbove 2 0 0 0 0) (he : Ed κ cX5_rowAbove 0 0 wJ .lreturn fin) (x0 : Nat) (x1 : Int32) : Jg κ (wM κ) 2 fin 0 0 0 [some ((5, .ref x0) : TV), some ((0, .int x1) : TV)] [] (fX5_rowAbove x0 x1) := by
  unfold fX5_rowAbove
  refine J_iload_n (pc := 0) hc dX5_rowAbove_0 rfl rfl ?_
  refine J_if_le (pc := 1) (tgt := 21) hc dX5_rowAbove_1 (by decide) ?_ ?_
  · refine J_lconst (pc := 21) (v := 0) hc dX5_rowAbove_21 rfl ?_
    exact J_lret (pc := 22) he dX5_rowAbove_22
  · refine J_iload_n (pc := 4) hc dX5_rowAbove_4 rfl rfl ?_
    refine J_bipush (pc := 5) (v := 20) hc dX5_rowAbove_5 (by decide) ?_
    refine J_icmp_gt (pc := 7) (tgt := 21) hc dX5_rowAbove_7 (by decide) ?_ ?_
    · refine J_lconst (pc := 21) (v := 0) hc dX5_rowAbove_21 rfl ?_
      exact J_lret (pc := 22) he dX5_rowAbove_22
    · refine J_aload_n (pc := 10) hc dX5_rowAbove_10 rfl rfl ?_
      refine J_getA (pc := 11) hc clX5 (k := 7) (kd := 12) (Nat.le_of_ble_eq_true rfl) rfl (Nat.le_of_ble_eq_true rfl) tw248 (Or.inl rfl) dX5_rowAbove_11 (fun v1 => ?_)
      refine J_iload_n (pc := 14) hc dX5_rowAbove_14 rfl rfl ?_
      refine J_iconst (pc := 15) (v := 1) hc dX5_rowAbove_15 (by decide) ?_
      refine J_isub (pc := 16) hc dX5_rowAbove_16 ?_
      refine J_lald (pc := 17) hc dX5_rowAbove_17 (fun v2 => ?_)
      refine J_goto (pc := 18) (tgt := 22) hc dX5_rowAbove_18 (by decide) ?_
      exact J_lret (pc := 22) he dX5_rowAbove_22
theorem moX5_rowAbove : MOk yX5_rowAbove 1 := ⟨by decide +kernel, by decide +kernel, by decide +kernel⟩
set_option maxRecDepth 100000 in
set_option maxHeartbeats 4000000 in
theorem KX5_rowAbove (x0 : Nat) (x1 : Int32) : Ct wJ yX5_rowAbove cX5_rowAbove 2 (some .long) 0 0 0 0 [((5, .ref x0) : TV), ((0, .int x1) : TV)] (fX5_rowAbove x0 x1) :=
  Ct_J (j := 0) (by decide +kernel) rfl rfl (Nat.le_of_ble_eq_true rfl) (fun κ fin hc he => jX5_rowAbove hc he x0 x1)
set_option maxRecDepth 100000 in
set_option maxHeartbeats 4000000 in
theorem jX5_readByAbove {κ : Cx} {fin : Int64 → Mm → Prop} (hc : Jc κ RX5 cX5_readByAbove 3 4 0 0 103) (he : Ed κ cX5_readByAbove 0 0 wJ .lreturn fin) (x0 : Nat) (x1 : Nat) (x2 : Int32) : Jg κ (wM κ) 3 fin 0 0 0 [some ((5, .ref x0) : TV), some ((2, .ref x1) : TV), some ((0, .int x2) : TV)] [] (fX5_readByAbove x0 x1 x2) := by
  unfold fX5_readByAbove
  refine J_aload_n (pc := 0) hc dX5_readByAbove_0 rfl rfl ?_
  refine J_iload_n (pc := 1) hc dX5_readByAbove_1 rfl rfl ?_
  refine J_callVj (pc := 2) hc clX5 (As := [((0, .int x2) : TV)]) (KX5_rowAbove x0 x2) dX5_readByAbove_2 moX5_rowAbove rfl tw1283 tw1285 twp39 tw9 tw1286 rfl (Nat.le_of_ble_eq_true rfl) (Nat.le_of_ble_eq_true rfl) (Nat.le_of_ble_eq_true rfl) (Nat.le_of_ble_eq_true rfl) (Nat.le_of_ble_eq_true rfl) rfl (fun v1 => ?_)
  refine J_aload_n (pc := 5) hc dX5_readByAbove_5 rfl rfl ?_
  refine J_iload_n (pc := 6) hc dX5_readByAbove_6 rfl rfl ?_
  refine J_iconst (pc := 7) (v := 1) hc dX5_readByAbove_7 (by decide) ?_
  refine J_isub (pc := 8) hc dX5_readByAbove_8 ?_
  refine J_callVj (pc := 9) hc clX2 (As := [((0, .int (x2 - 1)) : TV)]) (KX2_rowAt x1 (x2 - 1)) dX5_readByAbove_9 moX2_rowAt rfl tw1257 tw491 tw492 tw3 tw493 rfl (Nat.le_of_ble_eq_true rfl) (Nat.le_of_ble_eq_true rfl) (Nat.le_of_ble_eq_true rfl) (Nat.le_of_ble_eq_true rfl) (Nat.le_of_ble_eq_true rfl) rfl (fun v2 => ?_)
  refine J_lcmp (pc := 12) hc dX5_readByAbove_12 ?_
  refine J_if_ne (pc := 13) (tgt := 22) hc dX5_readByAbove_13 (by decide) ?_ ?_
  · refine J_aload_n (pc := 22) hc dX5_readByAbove_22 rfl rfl ?_
    refine J_getA (pc := 23) hc clX5 (k := 15) (kd := 0) (Nat.le_of_ble_eq_true rfl) rfl (Nat.le_of_ble_eq_true rfl) tw261 (Or.inl rfl) dX5_readByAbove_23 (fun v3 => ?_)
    refine J_aload_n (pc := 26) hc dX5_readByAbove_26 rfl rfl ?_
    refine J_iload_n (pc := 27) hc dX5_readByAbove_27 rfl rfl ?_
    refine J_callVj (pc := 28) hc clX2 (As := [((0, .int x2) : TV)]) (KX2_rowAt x1 x2) dX5_readByAbove_28 moX2_rowAt rfl tw1257 tw491 tw492 tw3 tw493 rfl (Nat.le_of_ble_eq_true rfl) (Nat.le_of_ble_eq_true rfl) (Nat.le_of_ble_eq_true rfl) (Nat.le_of_ble_eq_true rfl) (Nat.le_of_ble_eq_true rfl) rfl (fun v4 => ?_)
    refine J_aload_n (pc := 31) hc dX5_readByAbove_31 rfl rfl ?_
    refine J_iload_n (pc := 32) hc dX5_readByAbove_32 rfl rfl ?_
    refine J_iconst (pc := 33) (v := 1) hc dX5_readByAbove_33 (by decide) ?_
    refine J_isub (pc := 34) hc dX5_readByAbove_34 ?_
    refine J_callVj (pc := 35) hc clX2 (As := [((0, .int (x2 - 1)) : TV)]) (KX2_rowAt x1 (x2 - 1)) dX5_readByAbove_35 moX2_rowAt rfl tw1257 tw491 tw492 tw3 tw493 rfl (Nat.le_of_ble_eq_true rfl) (Nat.le_of_ble_eq_true rfl) (Nat.le_of_ble_eq_true rfl) (Nat.le_of_ble_eq_true rfl) (Nat.le_of_ble_eq_true rfl) rfl (fun v5 => ?_)
    refine J_aload_n (pc := 38) hc dX5_readByAbove_38 rfl rfl ?_
    refine J_getI (pc := 39) hc clX2 (k := 0) (Nat.le_of_ble_eq_true rfl) rfl tw54 (Or.inl rfl) dX5_readByAbove_39 (fun v6 => ?_)
    refine J_callVv (pc := 42) hc clX0 (As := [((0, .long v4) : TV), ((0, .long v5) : TV), ((0, .int v6) : TV)]) (KX0_makeFor v3 v4 v5 v6) dX5_readByAbove_42 moX0_makeFor rfl tw1258 tw1009 tw1010 tw8 tw1011 rfl (Nat.le_of_ble_eq_true rfl) (Nat.le_of_ble_eq_true rfl) (Nat.le_of_ble_eq_true rfl) (Nat.le_of_ble_eq_true rfl) (Nat.le_of_ble_eq_true rfl) rfl (fun _ => ?_)
    refine J_aload_n (pc := 45) hc dX5_readByAbove_45 rfl rfl ?_
    refine J_getA (pc := 46) hc clX5 (k := 15) (kd := 0) (Nat.le_of_ble_eq_true rfl) rfl (Nat.le_of_ble_eq_true rfl) tw261 (Or.inl rfl) dX5_readByAbove_46 (fun v7 => ?_)
    refine J_aload_n (pc := 49) hc dX5_readByAbove_49 rfl rfl ?_
    refine J_iload_n (pc := 50) hc dX5_readByAbove_50 rfl rfl ?_
    refine J_callVj (pc := 51) hc clX5 (As := [((0, .int x2) : TV)]) (KX5_rowAbove x0 x2) dX5_readByAbove_51 moX5_rowAbove rfl tw1283 tw1285 twp39 tw9 tw1286 rfl (Nat.le_of_ble_eq_true rfl) (Nat.le_of_ble_eq_true rfl) (Nat.le_of_ble_eq_true rfl) (Nat.le_of_ble_eq_true rfl) (Nat.le_of_ble_eq_true rfl) rfl (fun v8 => ?_)
    refine J_aload_n (pc := 54) hc dX5_readByAbove_54 rfl rfl ?_
    refine J_getI (pc := 55) hc clX2 (k := 0) (Nat.le_of_ble_eq_true rfl) rfl tw54 (Or.inl rfl) dX5_readByAbove_55 (fun v9 => ?_)
    refine J_callVj (pc := 58) hc clX0 (As := [((0, .long v8) : TV), ((0, .int v9) : TV)]) (KX0_readUnder v7 v8 v9) dX5_readByAbove_58 moX0_readUnder rfl tw1287 tw1225 tw1226 tw8 tw1227 rfl (Nat.le_of_ble_eq_true rfl) (Nat.le_of_ble_eq_true rfl) (Nat.le_of_ble_eq_true rfl) (Nat.le_of_ble_eq_true rfl) (Nat.le_of_ble_eq_true rfl) rfl (fun v10 => ?_)
    exact J_lret (pc := 61) he dX5_readByAbove_61
  · refine J_aload_n (pc := 16) hc dX5_readByAbove_16 rfl rfl ?_
    refine J_iload_n (pc := 17) hc dX5_readByAbove_17 rfl rfl ?_
    refine J_callVj (pc := 18) hc clX2 (As := [((0, .int x2) : TV)]) (KX2_rowAt x1 x2) dX5_readByAbove_18 moX2_rowAt rfl tw1257 tw491 tw492 tw3 tw493 rfl (Nat.le_of_ble_eq_true rfl) (Nat.le_of_ble_eq_true rfl) (Nat.le_of_ble_eq_true rfl) (Nat.le_of_ble_eq_true rfl) (Nat.le_of_ble_eq_true rfl) rfl (fun v11 => ?_)
    exact J_lret (pc := 21) he dX5_readByAbove_21
theorem moX5_readByAbove : MOk yX5_readByAbove 2 := ⟨by decide +kernel, by decide +kernel, by decide +kernel⟩
set_option maxRecDepth 100000 in
set_option maxHeartbeats 4000000 in
theorem KX5_readByAbove (x0 : Nat) (x1 : Nat) (x2 : Int32) : Ct wJ yX5_readByAbove cX5_readByAbove 3 (some .long) 4 0 0 103 [((5, .ref x0) : TV), ((2, .ref x1) : TV), ((0, .int x2) : TV)] (fX5_readByAbove x0 x1 x2) :=
  Ct_J (j := 0) (by decide +kernel) rfl rfl (Nat.le_of_ble_eq_true rfl) (fun κ fin hc he => jX5_readByAbove hc he x0 x1 x2)
set_option maxRecDepth 100000 in
set_option maxHeartbeats 4000000 in
theorem jX5_stepBack_L37 {κ : Cx} {fin : Int32 → Mm → Prop} (hc : Jc κ RX5 cX5_stepBack 4 2 0 0 43) (he : Ed κ cX5_stepBack 0 0 wI .ireturn fin) : ∀ (n : Nat) (x0 : Nat) (x1 : Nat) (x3 : Int32), Jg κ (wM κ) 4 fin 0 0 37 [some ((5, .ref x0) : TV), some ((2, .ref x1) : TV), none, some ((0, .int x3) : TV)] [] (fX5_stepBack_L37 n x0 x1 x3) := by
  intro n
  induction n with
  | zero => intro x0 x1 x3; exact J_fail
  | succ n ih =>
    intro x0 x1 x3
    unfold fX5_stepBack_L37
    refine J_iload_n (pc := 37) hc dX5_stepBack_37 rfl rfl ?_
    refine J_if_le (pc := 38) (tgt := 56) hc dX5_stepBack_38 (by decide) ?_ ?_
    · refine J_iload_n (pc := 56) hc dX5_stepBack_56 rfl rfl ?_
      exact J_iret (pc := 57) he dX5_stepBack_57
    · refine J_aload_n (pc := 41) hc dX5_stepBack_41 rfl rfl ?_
      refine J_aload_n (pc := 42) hc dX5_stepBack_42 rfl rfl ?_
      refine J_iload_n (pc := 43) hc dX5_stepBack_43 rfl rfl ?_
      refine J_callVi (pc := 44) hc clX5 (As := [((2, .ref x1) : TV), ((0, .int x3) : TV)]) (KX5_isSentAlone x0 x1 x3) dX5_stepBack_44 moX5_isSentAlone rfl tw1273 tw1275 twp37 tw9 tw1276 rfl (Nat.le_of_ble_eq_true rfl) (Nat.le_of_ble_eq_true rfl) (Nat.le_of_ble_eq_true rfl) (Nat.le_of_ble_eq_true rfl) (Nat.le_of_ble_eq_true rfl) rfl (fun v1 => ?_)
      refine J_if_ne (pc := 47) (tgt := 56) hc dX5_stepBack_47 (by decide) ?_ ?_
      · refine J_iload_n (pc := 56) hc dX5_stepBack_56 rfl rfl ?_
        exact J_iret (pc := 57) he dX5_stepBack_57
      · refine J_iinc (pc := 50) (v := x3 + (-1)) (l' := [some ((5, .ref x0) : TV), some ((2, .ref x1) : TV), none, some ((0, .int (x3 + (-1))) : TV)]) hc dX5_stepBack_50 rfl rfl (by decide) rfl rfl ?_
        refine J_goto (pc := 53) (tgt := 37) hc dX5_stepBack_53 (by decide) ?_
        refine J_sub (l' := [some ((5, .ref x0) : TV), some ((2, .ref x1) : TV), none, some ((0, .int (x3 + (-1))) : TV)]) ⟨rfl, ⟨rfl, ⟨rfl, trivial⟩⟩⟩ ?_
        exact ih x0 x1 (x3 + (-1))
set_option maxRecDepth 100000 in
set_option maxHeartbeats 4000000 in
theorem jX5_stepBack {κ : Cx} {fin : Int32 → Mm → Prop} (hc : Jc κ RX5 cX5_stepBack 4 2 0 0 43) (he : Ed κ cX5_stepBack 0 0 wI .ireturn fin) (x0 : Nat) (x1 : Nat) (x2 : Int32) : Jg κ (wM κ) 4 fin 0 0 0 [some ((5, .ref x0) : TV), some ((2, .ref x1) : TV), some ((0, .int x2) : TV), none] [] (fX5_stepBack x0 x1 x2) := by
  unfold fX5_stepBack
  refine J_aload_n (pc := 0) hc dX5_stepBack_0 rfl rfl ?_
  refine J_dup (pc := 1) hc dX5_stepBack_1 rfl ?_
  refine J_getI (pc := 2) hc clX5 (k := 4) (Nat.le_of_ble_eq_true rfl) rfl tw242 (Or.inl rfl) dX5_stepBack_2 (fun v2 => ?_)
  refine J_iconst (pc := 5) (v := 1) hc dX5_stepBack_5 (by decide) ?_
  refine J_iadd (pc := 6) hc dX5_stepBack_6 ?_
  refine J_putI (pc := 7) hc clX5 (k := 4) (Nat.le_of_ble_eq_true rfl) rfl rfl tw242 (Or.inl rfl) rfl dX5_stepBack_7 ?_
  refine J_aload_n (pc := 10) hc dX5_stepBack_10 rfl rfl ?_
  refine J_getA (pc := 11) hc clX5 (k := 11) (kd := 11) (Nat.le_of_ble_eq_true rfl) rfl (Nat.le_of_ble_eq_true rfl) tw256 (Or.inl rfl) dX5_stepBack_11 (fun v3 => ?_)
  refine J_iload_n (pc := 14) hc dX5_stepBack_14 rfl rfl ?_
  refine J_dup2 (pc := 15) hc dX5_stepBack_15 rfl rfl ?_
  refine J_iald (pc := 16) hc dX5_stepBack_16 (fun v4 => ?_)
  refine J_iconst (pc := 17) (v := 1) hc dX5_stepBack_17 (by decide) ?_
  refine J_iadd (pc := 18) hc dX5_stepBack_18 ?_
  refine J_iast (pc := 19) hc dX5_stepBack_19 ?_
  refine J_aload_n (pc := 20) hc dX5_stepBack_20 rfl rfl ?_
  refine J_dup (pc := 21) hc dX5_stepBack_21 rfl ?_
  refine J_getI (pc := 22) hc clX5 (k := 2) (Nat.le_of_ble_eq_true rfl) rfl tw238 (Or.inl rfl) dX5_stepBack_22 (fun v5 => ?_)
  refine J_aload_n (pc := 25) hc dX5_stepBack_25 rfl rfl ?_
  refine J_getA (pc := 26) hc clX2 (k := 4) (kd := 11) (Nat.le_of_ble_eq_true rfl) rfl (Nat.le_of_ble_eq_true rfl) tw67 (Or.inl rfl) dX5_stepBack_26 (fun v6 => ?_)
  refine J_iconst (pc := 29) (v := 5) hc dX5_stepBack_29 (by decide) ?_
  refine J_iald (pc := 30) hc dX5_stepBack_30 (fun v7 => ?_)
  refine J_iadd (pc := 31) hc dX5_stepBack_31 ?_
  refine J_putI (pc := 32) hc clX5 (k := 2) (Nat.le_of_ble_eq_true rfl) rfl rfl tw238 (Or.inl rfl) rfl dX5_stepBack_32 ?_
  refine J_iload_n (pc := 35) hc dX5_stepBack_35 rfl rfl ?_
  refine J_istore_n (pc := 36) (l' := [some ((5, .ref x0) : TV), some ((2, .ref x1) : TV), some ((0, .int x2) : TV), some ((0, .int x2) : TV)]) hc dX5_stepBack_36 rfl (by decide) rfl rfl ?_
  refine J_sub (l' := [some ((5, .ref x0) : TV), some ((2, .ref x1) : TV), none, some ((0, .int x2) : TV)]) ⟨rfl, ⟨rfl, ⟨rfl, trivial⟩⟩⟩ ?_
  exact jX5_stepBack_L37 hc he fu x0 x1 x2
theorem moX5_stepBack : MOk yX5_stepBack 2 := ⟨by decide +kernel, by decide +kernel, by decide +kernel⟩
set_option maxRecDepth 100000 in
set_option maxHeartbeats 4000000 in
theorem KX5_stepBack (x0 : Nat) (x1 : Nat) (x2 : Int32) : Ct wI yX5_stepBack cX5_stepBack 4 (some .int) 2 0 0 43 [((5, .ref x0) : TV), ((2, .ref x1) : TV), ((0, .int x2) : TV)] (fX5_stepBack x0 x1 x2) :=
  Ct_I (j := 1) (by decide +kernel) rfl rfl (Nat.le_of_ble_eq_true rfl) (fun κ fin hc he => jX5_stepBack hc he x0 x1 x2)
set_option maxRecDepth 100000 in
set_option maxHeartbeats 4000000 in
theorem jX5_sendOne_L258 {κ : Cx} {fin : Int32 → Mm → Prop} (hc : Jc κ RX5 cX5_sendOne 8 5 0 0 125) (he : Ed κ cX5_sendOne 0 0 wI .ireturn fin) (x2 : Int32) (s0 : Int32) (s1 : Int32) (s2 : Nat) : Jg κ (wM κ) 8 fin 0 0 258 [none, none, some ((0, .int x2) : TV), none, none, none, none, none] [((0, .int s0) : TV), ((0, .int s1) : TV), ((11, .ref s2) : TV)] (fX5_sendOne_L258 x2 s0 s1 s2) := by
  unfold fX5_sendOne_L258
  refine J_iast (pc := 258) hc dX5_sendOne_258 ?_
  refine J_iload_n (pc := 259) hc dX5_sendOne_259 rfl rfl ?_
  refine J_iconst (pc := 260) (v := 1) hc dX5_sendOne_260 (by decide) ?_
  refine J_iadd (pc := 261) hc dX5_sendOne_261 ?_
  exact J_iret (pc := 262) he dX5_sendOne_262
set_option maxRecDepth 100000 in
set_option maxHeartbeats 4000000 in
theorem jX5_sendOne_L242 {κ : Cx} {fin : Int32 → Mm → Prop} (hc : Jc κ RX5 cX5_sendOne 8 5 0 0 125) (he : Ed κ cX5_sendOne 0 0 wI .ireturn fin) (x0 : Nat) (x2 : Int32) (x5 : Int32) (s0 : Int64) (s1 : Int32) (s2 : Nat) : Jg κ (wM κ) 8 fin 0 0 242 [some ((5, .ref x0) : TV), none, some ((0, .int x2) : TV), none, none, some ((0, .int x5) : TV), none, none] [((0, .long s0) : TV), ((0, .int s1) : TV), ((12, .ref s2) : TV)] (fX5_sendOne_L242 x0 x2 x5 s0 s1 s2) := by
  unfold fX5_sendOne_L242
  refine J_last (pc := 242) hc dX5_sendOne_242 ?_
  refine J_aload_n (pc := 243) hc dX5_sendOne_243 rfl rfl ?_
  refine J_getA (pc := 244) hc clX5 (k := 8) (kd := 11) (Nat.le_of_ble_eq_true rfl) rfl (Nat.le_of_ble_eq_true rfl) tw250 (Or.inl rfl) dX5_sendOne_244 (fun v1 => ?_)
  refine J_iload_n (pc := 247) hc dX5_sendOne_247 rfl rfl ?_
  refine J_iload (pc := 248) hc dX5_sendOne_248 rfl ?_
  refine J_if_eq (pc := 250) (tgt := 257) hc dX5_sendOne_250 (by decide) ?_ ?_
  · refine J_iconst (pc := 257) (v := 2) hc dX5_sendOne_257 (by decide) ?_
    refine J_sub (l' := [none, none, some ((0, .int x2) : TV), none, none, none, none, none]) ⟨rfl, trivial⟩ ?_
    exact jX5_sendOne_L258 hc he x2 2 x2 v1
  · refine J_iconst (pc := 253) (v := 1) hc dX5_sendOne_253 (by decide) ?_
    refine J_goto (pc := 254) (tgt := 258) hc dX5_sendOne_254 (by decide) ?_
    refine J_sub (l' := [none, none, some ((0, .int x2) : TV), none, none, none, none, none]) ⟨rfl, trivial⟩ ?_
    exact jX5_sendOne_L258 hc he x2 1 x2 v1
set_option maxRecDepth 100000 in
set_option maxHeartbeats 4000000 in
theorem jX5_sendOne_L201 {κ : Cx} {fin : Int32 → Mm → Prop} (hc : Jc κ RX5 cX5_sendOne 8 5 0 0 125) (he : Ed κ cX5_sendOne 0 0 wI .ireturn fin) (x0 : Nat) (x1 : Nat) (x2 : Int32) (x5 : Int32) : Jg κ (wM κ) 8 fin 0 0 201 [some ((5, .ref x0) : TV), some ((2, .ref x1) : TV), some ((0, .int x2) : TV), none, none, some ((0, .int x5) : TV), none, none] [] (fX5_sendOne_L201 x0 x1 x2 x5) := by
  unfold fX5_sendOne_L201
  refine J_aload_n (pc := 201) hc dX5_sendOne_201 rfl rfl ?_
  refine J_getI (pc := 202) hc clX5 (k := 4) (Nat.le_of_ble_eq_true rfl) rfl tw242 (Or.inl rfl) dX5_sendOne_202 (fun v2 => ?_)
  refine J_aload_n (pc := 205) hc dX5_sendOne_205 rfl rfl ?_
  refine J_getI (pc := 206) hc clX5 (k := 1) (Nat.le_of_ble_eq_true rfl) rfl tw236 (Or.inl rfl) dX5_sendOne_206 (fun v3 => ?_)
  refine J_icmp_ge (pc := 209) (tgt := 219) hc dX5_sendOne_209 (by decide) ?_ ?_
  · refine J_aload_n (pc := 219) hc dX5_sendOne_219 rfl rfl ?_
    refine J_getA (pc := 220) hc clX5 (k := 7) (kd := 12) (Nat.le_of_ble_eq_true rfl) rfl (Nat.le_of_ble_eq_true rfl) tw248 (Or.inl rfl) dX5_sendOne_220 (fun v4 => ?_)
    refine J_iload_n (pc := 223) hc dX5_sendOne_223 rfl rfl ?_
    refine J_aload_n (pc := 224) hc dX5_sendOne_224 rfl rfl ?_
    refine J_getA (pc := 225) hc clX2 (k := 4) (kd := 11) (Nat.le_of_ble_eq_true rfl) rfl (Nat.le_of_ble_eq_true rfl) tw67 (Or.inl rfl) dX5_sendOne_225 (fun v5 => ?_)
    refine J_iconst (pc := 228) (v := 2) hc dX5_sendOne_228 (by decide) ?_
    refine J_iald (pc := 229) hc dX5_sendOne_229 (fun v6 => ?_)
    refine J_if_ne (pc := 230) (tgt := 241) hc dX5_sendOne_230 (by decide) ?_ ?_
    · refine J_lconst (pc := 241) (v := 0) hc dX5_sendOne_241 rfl ?_
      refine J_sub (l' := [some ((5, .ref x0) : TV), none, some ((0, .int x2) : TV), none, none, some ((0, .int x5) : TV), none, none]) ⟨rfl, ⟨rfl, ⟨rfl, trivial⟩⟩⟩ ?_
      exact jX5_sendOne_L242 hc he x0 x2 x5 0 x2 v4
    · refine J_aload_n (pc := 233) hc dX5_sendOne_233 rfl rfl ?_
      refine J_iload_n (pc := 234) hc dX5_sendOne_234 rfl rfl ?_
      refine J_callVj (pc := 235) hc clX5 (As := [((0, .int x2) : TV)]) (KX5_rowAbove x0 x2) dX5_sendOne_235 moX5_rowAbove rfl tw1283 tw1285 twp39 tw9 tw1286 rfl (Nat.le_of_ble_eq_true rfl) (Nat.le_of_ble_eq_true rfl) (Nat.le_of_ble_eq_true rfl) (Nat.le_of_ble_eq_true rfl) (Nat.le_of_ble_eq_true rfl) rfl (fun v7 => ?_)
      refine J_goto (pc := 238) (tgt := 242) hc dX5_sendOne_238 (by decide) ?_
      refine J_sub (l' := [some ((5, .ref x0) : TV), none, some ((0, .int x2) : TV), none, none, some ((0, .int x5) : TV), none, none]) ⟨rfl, ⟨rfl, ⟨rfl, trivial⟩⟩⟩ ?_
      exact jX5_sendOne_L242 hc he x0 x2 x5 v7 x2 v4
  · refine J_aload_n (pc := 212) hc dX5_sendOne_212 rfl rfl ?_
    refine J_aload_n (pc := 213) hc dX5_sendOne_213 rfl rfl ?_
    refine J_iload_n (pc := 214) hc dX5_sendOne_214 rfl rfl ?_
    refine J_callVi (pc := 215) hc clX5 (As := [((2, .ref x1) : TV), ((0, .int x2) : TV)]) (KX5_stepBack x0 x1 x2) dX5_sendOne_215 moX5_stepBack rfl tw1288 tw1290 twp40 tw9 tw1291 rfl (Nat.le_of_ble_eq_true rfl) (Nat.le_of_ble_eq_true rfl) (Nat.le_of_ble_eq_true rfl) (Nat.le_of_ble_eq_true rfl) (Nat.le_of_ble_eq_true rfl) rfl (fun v8 => ?_)
    exact J_iret (pc := 218) he dX5_sendOne_218
set_option maxRecDepth 100000 in
set_option maxHeartbeats 4000000 in
theorem jX5_sendOne_L168 {κ : Cx} {fin : Int32 → Mm → Prop} (hc : Jc κ RX5 cX5_sendOne 8 5 0 0 125) (he : Ed κ cX5_sendOne 0 0 wI .ireturn fin) (x2 : Int32) (s0 : Int32) (s1 : Int32) (s2 : Nat) : Jg κ (wM κ) 8 fin 0 0 168 [none, none, some ((0, .int x2) : TV), none, none, none, none, none] [((0, .int s0) : TV), ((0, .int s1) : TV), ((11, .ref s2) : TV)] (fX5_sendOne_L168 x2 s0 s1 s2) := by
  unfold fX5_sendOne_L168
  refine J_iast (pc := 168) hc dX5_sendOne_168 ?_
  refine J_iload_n (pc := 169) hc dX5_sendOne_169 rfl rfl ?_
  refine J_iconst (pc := 170) (v := 1) hc dX5_sendOne_170 (by decide) ?_
  refine J_iadd (pc := 171) hc dX5_sendOne_171 ?_
  exact J_iret (pc := 172) he dX5_sendOne_172
set_option maxRecDepth 100000 in
set_option maxHeartbeats 4000000 in
theorem jX5_sendOne_L128 {κ : Cx} {fin : Int32 → Mm → Prop} (hc : Jc κ RX5 cX5_sendOne 8 5 0 0 125) (he : Ed κ cX5_sendOne 0 0 wI .ireturn fin) (x0 : Nat) (x1 : Nat) (x2 : Int32) (x5 : Int32) (s0 : Int64) : Jg κ (wM κ) 8 fin 0 0 128 [some ((5, .ref x0) : TV), some ((2, .ref x1) : TV), some ((0, .int x2) : TV), none, none, some ((0, .int x5) : TV), none, none] [((0, .long s0) : TV)] (fX5_sendOne_L128 x0 x1 x2 x5 s0) := by
  unfold fX5_sendOne_L128
  refine J_lstore (pc := 128) (l' := [some ((5, .ref x0) : TV), some ((2, .ref x1) : TV), some ((0, .int x2) : TV), none, none, some ((0, .int x5) : TV), some ((0, .long s0) : TV), none]) hc dX5_sendOne_128 (by decide) rfl rfl ?_
  refine J_lload (pc := 130) hc dX5_sendOne_130 rfl ?_
  refine J_ldc2 (pc := 132) (v := (-1)) hc dX5_sendOne_132 tw1278 ?_
  refine J_lcmp (pc := 135) hc dX5_sendOne_135 ?_
  refine J_if_eq (pc := 136) (tgt := 173) hc dX5_sendOne_136 (by decide) ?_ ?_
  · refine J_iload (pc := 173) hc dX5_sendOne_173 rfl ?_
    refine J_if_eq (pc := 175) (tgt := 191) hc dX5_sendOne_175 (by decide) ?_ ?_
    · refine J_aload_n (pc := 191) hc dX5_sendOne_191 rfl rfl ?_
      refine J_dup (pc := 192) hc dX5_sendOne_192 rfl ?_
      refine J_getI (pc := 193) hc clX5 (k := 6) (Nat.le_of_ble_eq_true rfl) rfl tw246 (Or.inl rfl) dX5_sendOne_193 (fun v9 => ?_)
      refine J_iconst (pc := 196) (v := 1) hc dX5_sendOne_196 (by decide) ?_
      refine J_iadd (pc := 197) hc dX5_sendOne_197 ?_
      refine J_putI (pc := 198) hc clX5 (k := 6) (Nat.le_of_ble_eq_true rfl) rfl rfl tw246 (Or.inl rfl) rfl dX5_sendOne_198 ?_
      refine J_sub (l' := [some ((5, .ref x0) : TV), some ((2, .ref x1) : TV), some ((0, .int x2) : TV), none, none, some ((0, .int x5) : TV), none, none]) ⟨rfl, ⟨rfl, ⟨rfl, ⟨rfl, trivial⟩⟩⟩⟩ ?_
      exact jX5_sendOne_L201 hc he x0 x1 x2 x5
    · refine J_aload_n (pc := 178) hc dX5_sendOne_178 rfl rfl ?_
      refine J_dup (pc := 179) hc dX5_sendOne_179 rfl ?_
      refine J_getI (pc := 180) hc clX5 (k := 5) (Nat.le_of_ble_eq_true rfl) rfl tw244 (Or.inl rfl) dX5_sendOne_180 (fun v10 => ?_)
      refine J_iconst (pc := 183) (v := 1) hc dX5_sendOne_183 (by decide) ?_
      refine J_iadd (pc := 184) hc dX5_sendOne_184 ?_
      refine J_putI (pc := 185) hc clX5 (k := 5) (Nat.le_of_ble_eq_true rfl) rfl rfl tw244 (Or.inl rfl) rfl dX5_sendOne_185 ?_
      refine J_goto (pc := 188) (tgt := 201) hc dX5_sendOne_188 (by decide) ?_
      refine J_sub (l' := [some ((5, .ref x0) : TV), some ((2, .ref x1) : TV), some ((0, .int x2) : TV), none, none, some ((0, .int x5) : TV), none, none]) ⟨rfl, ⟨rfl, ⟨rfl, ⟨rfl, trivial⟩⟩⟩⟩ ?_
      exact jX5_sendOne_L201 hc he x0 x1 x2 x5
  · refine J_aload_n (pc := 139) hc dX5_sendOne_139 rfl rfl ?_
    refine J_getA (pc := 140) hc clX5 (k := 7) (kd := 12) (Nat.le_of_ble_eq_true rfl) rfl (Nat.le_of_ble_eq_true rfl) tw248 (Or.inl rfl) dX5_sendOne_140 (fun v11 => ?_)
    refine J_iload_n (pc := 143) hc dX5_sendOne_143 rfl rfl ?_
    refine J_lload (pc := 144) hc dX5_sendOne_144 rfl ?_
    refine J_last (pc := 146) hc dX5_sendOne_146 ?_
    refine J_aload_n (pc := 147) hc dX5_sendOne_147 rfl rfl ?_
    refine J_getA (pc := 148) hc clX5 (k := 8) (kd := 11) (Nat.le_of_ble_eq_true rfl) rfl (Nat.le_of_ble_eq_true rfl) tw250 (Or.inl rfl) dX5_sendOne_148 (fun v12 => ?_)
    refine J_iload_n (pc := 151) hc dX5_sendOne_151 rfl rfl ?_
    refine J_lload (pc := 152) hc dX5_sendOne_152 rfl ?_
    refine J_aload_n (pc := 154) hc dX5_sendOne_154 rfl rfl ?_
    refine J_iload_n (pc := 155) hc dX5_sendOne_155 rfl rfl ?_
    refine J_callVj (pc := 156) hc clX2 (As := [((0, .int x2) : TV)]) (KX2_rowAt x1 x2) dX5_sendOne_156 moX2_rowAt rfl tw1257 tw491 tw492 tw3 tw493 rfl (Nat.le_of_ble_eq_true rfl) (Nat.le_of_ble_eq_true rfl) (Nat.le_of_ble_eq_true rfl) (Nat.le_of_ble_eq_true rfl) (Nat.le_of_ble_eq_true rfl) rfl (fun v13 => ?_)
    refine J_lcmp (pc := 159) hc dX5_sendOne_159 ?_
    refine J_if_ne (pc := 160) (tgt := 167) hc dX5_sendOne_160 (by decide) ?_ ?_
    · refine J_iconst (pc := 167) (v := 3) hc dX5_sendOne_167 (by decide) ?_
      refine J_sub (l' := [none, none, some ((0, .int x2) : TV), none, none, none, none, none]) ⟨rfl, trivial⟩ ?_
      exact jX5_sendOne_L168 hc he x2 3 x2 v12
    · refine J_iconst (pc := 163) (v := 0) hc dX5_sendOne_163 (by decide) ?_
      refine J_goto (pc := 164) (tgt := 168) hc dX5_sendOne_164 (by decide) ?_
      refine J_sub (l' := [none, none, some ((0, .int x2) : TV), none, none, none, none, none]) ⟨rfl, trivial⟩ ?_
      exact jX5_sendOne_L168 hc he x2 0 x2 v12
set_option maxRecDepth 100000 in
set_option maxHeartbeats 4000000 in
theorem jX5_sendOne_L97 {κ : Cx} {fin : Int32 → Mm → Prop} (hc : Jc κ RX5 cX5_sendOne 8 5 0 0 125) (he : Ed κ cX5_sendOne 0 0 wI .ireturn fin) (x0 : Nat) (x1 : Nat) (x2 : Int32) (x3 : Int32) (s0 : Int32) : Jg κ (wM κ) 8 fin 0 0 97 [some ((5, .ref x0) : TV), some ((2, .ref x1) : TV), some ((0, .int x2) : TV), some ((0, .int x3) : TV), none, none, none, none] [((0, .int s0) : TV)] (fX5_sendOne_L97 x0 x1 x2 x3 s0) := by
  unfold fX5_sendOne_L97
  refine J_istore (pc := 97) (l' := [some ((5, .ref x0) : TV), some ((2, .ref x1) : TV), some ((0, .int x2) : TV), some ((0, .int x3) : TV), none, some ((0, .int s0) : TV), none, none]) hc dX5_sendOne_97 (by decide) rfl rfl ?_
  refine J_iload (pc := 99) hc dX5_sendOne_99 rfl ?_
  refine J_if_eq (pc := 101) (tgt := 110) hc dX5_sendOne_101 (by decide) ?_ ?_
  · refine J_iload_n (pc := 110) hc dX5_sendOne_110 rfl rfl ?_
    refine J_if_eq (pc := 111) (tgt := 122) hc dX5_sendOne_111 (by decide) ?_ ?_
    · refine J_aload_n (pc := 122) hc dX5_sendOne_122 rfl rfl ?_
      refine J_aload_n (pc := 123) hc dX5_sendOne_123 rfl rfl ?_
      refine J_iload_n (pc := 124) hc dX5_sendOne_124 rfl rfl ?_
      refine J_callVj (pc := 125) hc clX5 (As := [((2, .ref x1) : TV), ((0, .int x2) : TV)]) (KX5_readByAbove x0 x1 x2) dX5_sendOne_125 moX5_readByAbove rfl tw1279 tw1281 twp38 tw9 tw1282 rfl (Nat.le_of_ble_eq_true rfl) (Nat.le_of_ble_eq_true rfl) (Nat.le_of_ble_eq_true rfl) (Nat.le_of_ble_eq_true rfl) (Nat.le_of_ble_eq_true rfl) rfl (fun v14 => ?_)
      refine J_sub (l' := [some ((5, .ref x0) : TV), some ((2, .ref x1) : TV), some ((0, .int x2) : TV), none, none, some ((0, .int s0) : TV), none, none]) ⟨rfl, ⟨rfl, ⟨rfl, ⟨rfl, trivial⟩⟩⟩⟩ ?_
      exact jX5_sendOne_L128 hc he x0 x1 x2 s0 v14
    · refine J_aload_n (pc := 114) hc dX5_sendOne_114 rfl rfl ?_
      refine J_iload_n (pc := 115) hc dX5_sendOne_115 rfl rfl ?_
      refine J_callVj (pc := 116) hc clX2 (As := [((0, .int x2) : TV)]) (KX2_rowAt x1 x2) dX5_sendOne_116 moX2_rowAt rfl tw1257 tw491 tw492 tw3 tw493 rfl (Nat.le_of_ble_eq_true rfl) (Nat.le_of_ble_eq_true rfl) (Nat.le_of_ble_eq_true rfl) (Nat.le_of_ble_eq_true rfl) (Nat.le_of_ble_eq_true rfl) rfl (fun v15 => ?_)
      refine J_goto (pc := 119) (tgt := 128) hc dX5_sendOne_119 (by decide) ?_
      refine J_sub (l' := [some ((5, .ref x0) : TV), some ((2, .ref x1) : TV), some ((0, .int x2) : TV), none, none, some ((0, .int s0) : TV), none, none]) ⟨rfl, ⟨rfl, ⟨rfl, ⟨rfl, trivial⟩⟩⟩⟩ ?_
      exact jX5_sendOne_L128 hc he x0 x1 x2 s0 v15
  · refine J_ldc2 (pc := 104) (v := (-1)) hc dX5_sendOne_104 tw1278 ?_
    refine J_goto (pc := 107) (tgt := 128) hc dX5_sendOne_107 (by decide) ?_
    refine J_sub (l' := [some ((5, .ref x0) : TV), some ((2, .ref x1) : TV), some ((0, .int x2) : TV), none, none, some ((0, .int s0) : TV), none, none]) ⟨rfl, ⟨rfl, ⟨rfl, ⟨rfl, trivial⟩⟩⟩⟩ ?_
    exact jX5_sendOne_L128 hc he x0 x1 x2 s0 (-1)
set_option maxRecDepth 100000 in
set_option maxHeartbeats 4000000 in
theorem jX5_sendOne_L32 {κ : Cx} {fin : Int32 → Mm → Prop} (hc : Jc κ RX5 cX5_sendOne 8 5 0 0 125) (he : Ed κ cX5_sendOne 0 0 wI .ireturn fin) (x0 : Nat) (x1 : Nat) (x2 : Int32) (x3 : Int32) (s0 : Int32) (s1 : Int32) : Jg κ (wM κ) 8 fin 0 0 32 [some ((5, .ref x0) : TV), some ((2, .ref x1) : TV), some ((0, .int x2) : TV), some ((0, .int x3) : TV), none, none, none, none] [((0, .int s0) : TV), ((0, .int s1) : TV)] (fX5_sendOne_L32 x0 x1 x2 x3 s0 s1) := by
  unfold fX5_sendOne_L32
  refine J_iadd (pc := 32) hc dX5_sendOne_32 ?_
  refine J_nmi (fun v16 => ?_)
  refine J_istore (pc := 33) (l' := [some ((5, .ref x0) : TV), some ((2, .ref x1) : TV), some ((0, .int x2) : TV), some ((0, .int x3) : TV), some ((0, .int v16) : TV), none, none, none]) hc dX5_sendOne_33 (by decide) rfl rfl ?_
  refine J_aload_n (pc := 35) hc dX5_sendOne_35 rfl rfl ?_
  refine J_dup (pc := 36) hc dX5_sendOne_36 rfl ?_
  refine J_getI (pc := 37) hc clX5 (k := 3) (Nat.le_of_ble_eq_true rfl) rfl tw240 (Or.inl rfl) dX5_sendOne_37 (fun v17 => ?_)
  refine J_iconst (pc := 40) (v := 1) hc dX5_sendOne_40 (by decide) ?_
  refine J_iadd (pc := 41) hc dX5_sendOne_41 ?_
  refine J_putI (pc := 42) hc clX5 (k := 3) (Nat.le_of_ble_eq_true rfl) rfl rfl tw240 (Or.inl rfl) rfl dX5_sendOne_42 ?_
  refine J_aload_n (pc := 45) hc dX5_sendOne_45 rfl rfl ?_
  refine J_getA (pc := 46) hc clX5 (k := 9) (kd := 11) (Nat.le_of_ble_eq_true rfl) rfl (Nat.le_of_ble_eq_true rfl) tw252 (Or.inl rfl) dX5_sendOne_46 (fun v18 => ?_)
  refine J_iload_n (pc := 49) hc dX5_sendOne_49 rfl rfl ?_
  refine J_dup2 (pc := 50) hc dX5_sendOne_50 rfl rfl ?_
  refine J_iald (pc := 51) hc dX5_sendOne_51 (fun v19 => ?_)
  refine J_iconst (pc := 52) (v := 1) hc dX5_sendOne_52 (by decide) ?_
  refine J_iadd (pc := 53) hc dX5_sendOne_53 ?_
  refine J_iast (pc := 54) hc dX5_sendOne_54 ?_
  refine J_aload_n (pc := 55) hc dX5_sendOne_55 rfl rfl ?_
  refine J_getA (pc := 56) hc clX5 (k := 10) (kd := 11) (Nat.le_of_ble_eq_true rfl) rfl (Nat.le_of_ble_eq_true rfl) tw254 (Or.inl rfl) dX5_sendOne_56 (fun v20 => ?_)
  refine J_iload_n (pc := 59) hc dX5_sendOne_59 rfl rfl ?_
  refine J_dup2 (pc := 60) hc dX5_sendOne_60 rfl rfl ?_
  refine J_iald (pc := 61) hc dX5_sendOne_61 (fun v21 => ?_)
  refine J_iload (pc := 62) hc dX5_sendOne_62 rfl ?_
  refine J_iadd (pc := 64) hc dX5_sendOne_64 ?_
  refine J_iast (pc := 65) hc dX5_sendOne_65 ?_
  refine J_aload_n (pc := 66) hc dX5_sendOne_66 rfl rfl ?_
  refine J_dup (pc := 67) hc dX5_sendOne_67 rfl ?_
  refine J_getI (pc := 68) hc clX5 (k := 2) (Nat.le_of_ble_eq_true rfl) rfl tw238 (Or.inl rfl) dX5_sendOne_68 (fun v22 => ?_)
  refine J_iload (pc := 71) hc dX5_sendOne_71 rfl ?_
  refine J_iadd (pc := 73) hc dX5_sendOne_73 ?_
  refine J_putI (pc := 74) hc clX5 (k := 2) (Nat.le_of_ble_eq_true rfl) rfl rfl tw238 (Or.inl rfl) rfl dX5_sendOne_74 ?_
  refine J_aload_n (pc := 77) hc dX5_sendOne_77 rfl rfl ?_
  refine J_getA (pc := 78) hc clX5 (k := 9) (kd := 11) (Nat.le_of_ble_eq_true rfl) rfl (Nat.le_of_ble_eq_true rfl) tw252 (Or.inl rfl) dX5_sendOne_78 (fun v23 => ?_)
  refine J_iload_n (pc := 81) hc dX5_sendOne_81 rfl rfl ?_
  refine J_iald (pc := 82) hc dX5_sendOne_82 (fun v24 => ?_)
  refine J_aload_n (pc := 83) hc dX5_sendOne_83 rfl rfl ?_
  refine J_getA (pc := 84) hc clX5 (k := 12) (kd := 11) (Nat.le_of_ble_eq_true rfl) rfl (Nat.le_of_ble_eq_true rfl) tw258 (Or.inl rfl) dX5_sendOne_84 (fun v25 => ?_)
  refine J_iload_n (pc := 87) hc dX5_sendOne_87 rfl rfl ?_
  refine J_iald (pc := 88) hc dX5_sendOne_88 (fun v26 => ?_)
  refine J_icmp_gt (pc := 89) (tgt := 96) hc dX5_sendOne_89 (by decide) ?_ ?_
  · refine J_iconst (pc := 96) (v := 0) hc dX5_sendOne_96 (by decide) ?_
    refine J_sub (l' := [some ((5, .ref x0) : TV), some ((2, .ref x1) : TV), some ((0, .int x2) : TV), some ((0, .int x3) : TV), none, none, none, none]) ⟨rfl, ⟨rfl, ⟨rfl, ⟨rfl, trivial⟩⟩⟩⟩ ?_
    exact jX5_sendOne_L97 hc he x0 x1 x2 x3 0
  · refine J_iconst (pc := 92) (v := 1) hc dX5_sendOne_92 (by decide) ?_
    refine J_goto (pc := 93) (tgt := 97) hc dX5_sendOne_93 (by decide) ?_
    refine J_sub (l' := [some ((5, .ref x0) : TV), some ((2, .ref x1) : TV), some ((0, .int x2) : TV), some ((0, .int x3) : TV), none, none, none, none]) ⟨rfl, ⟨rfl, ⟨rfl, ⟨rfl, trivial⟩⟩⟩⟩ ?_
    exact jX5_sendOne_L97 hc he x0 x1 x2 x3 1
set_option maxRecDepth 100000 in
set_option maxHeartbeats 4000000 in
theorem jX5_sendOne {κ : Cx} {fin : Int32 → Mm → Prop} (hc : Jc κ RX5 cX5_sendOne 8 5 0 0 125) (he : Ed κ cX5_sendOne 0 0 wI .ireturn fin) (x0 : Nat) (x1 : Nat) (x2 : Int32) : Jg κ (wM κ) 8 fin 0 0 0 [some ((5, .ref x0) : TV), some ((2, .ref x1) : TV), some ((0, .int x2) : TV), none, none, none, none, none] [] (fX5_sendOne x0 x1 x2) := by
  unfold fX5_sendOne
  refine J_aload_n (pc := 0) hc dX5_sendOne_0 rfl rfl ?_
  refine J_aload_n (pc := 1) hc dX5_sendOne_1 rfl rfl ?_
  refine J_iload_n (pc := 2) hc dX5_sendOne_2 rfl rfl ?_
  refine J_callVi (pc := 3) hc clX5 (As := [((2, .ref x1) : TV), ((0, .int x2) : TV)]) (KX5_isSentAlone x0 x1 x2) dX5_sendOne_3 moX5_isSentAlone rfl tw1273 tw1275 twp37 tw9 tw1276 rfl (Nat.le_of_ble_eq_true rfl) (Nat.le_of_ble_eq_true rfl) (Nat.le_of_ble_eq_true rfl) (Nat.le_of_ble_eq_true rfl) (Nat.le_of_ble_eq_true rfl) rfl (fun v27 => ?_)
  refine J_istore_n (pc := 6) (l' := [some ((5, .ref x0) : TV), some ((2, .ref x1) : TV), some ((0, .int x2) : TV), some ((0, .int v27) : TV), none, none, none, none]) hc dX5_sendOne_6 rfl (by decide) rfl rfl ?_
  refine J_aload_n (pc := 7) hc dX5_sendOne_7 rfl rfl ?_
  refine J_getA (pc := 8) hc clX2 (k := 4) (kd := 11) (Nat.le_of_ble_eq_true rfl) rfl (Nat.le_of_ble_eq_true rfl) tw67 (Or.inl rfl) dX5_sendOne_8 (fun v28 => ?_)
  refine J_iconst (pc := 11) (v := 4) hc dX5_sendOne_11 (by decide) ?_
  refine J_iald (pc := 12) hc dX5_sendOne_12 (fun v29 => ?_)
  refine J_iload_n (pc := 13) hc dX5_sendOne_13 rfl rfl ?_
  refine J_if_eq (pc := 14) (tgt := 26) hc dX5_sendOne_14 (by decide) ?_ ?_
  · refine J_aload_n (pc := 26) hc dX5_sendOne_26 rfl rfl ?_
    refine J_getA (pc := 27) hc clX5 (k := 14) (kd := 11) (Nat.le_of_ble_eq_true rfl) rfl (Nat.le_of_ble_eq_true rfl) tw260 (Or.inl rfl) dX5_sendOne_27 (fun v30 => ?_)
    refine J_iload_n (pc := 30) hc dX5_sendOne_30 rfl rfl ?_
    refine J_iald (pc := 31) hc dX5_sendOne_31 (fun v31 => ?_)
    refine J_sub (l' := [some ((5, .ref x0) : TV), some ((2, .ref x1) : TV), some ((0, .int x2) : TV), some ((0, .int v27) : TV), none, none, none, none]) ⟨rfl, ⟨rfl, ⟨rfl, ⟨rfl, trivial⟩⟩⟩⟩ ?_
    exact jX5_sendOne_L32 hc he x0 x1 x2 v27 v31 v29
  · refine J_aload_n (pc := 17) hc dX5_sendOne_17 rfl rfl ?_
    refine J_getA (pc := 18) hc clX5 (k := 13) (kd := 11) (Nat.le_of_ble_eq_true rfl) rfl (Nat.le_of_ble_eq_true rfl) tw259 (Or.inl rfl) dX5_sendOne_18 (fun v32 => ?_)
    refine J_iload_n (pc := 21) hc dX5_sendOne_21 rfl rfl ?_
    refine J_iald (pc := 22) hc dX5_sendOne_22 (fun v33 => ?_)
    refine J_goto (pc := 23) (tgt := 32) hc dX5_sendOne_23 (by decide) ?_
    refine J_sub (l' := [some ((5, .ref x0) : TV), some ((2, .ref x1) : TV), some ((0, .int x2) : TV), some ((0, .int v27) : TV), none, none, none, none]) ⟨rfl, ⟨rfl, ⟨rfl, ⟨rfl, trivial⟩⟩⟩⟩ ?_
    exact jX5_sendOne_L32 hc he x0 x1 x2 v27 v33 v29
theorem moX5_sendOne : MOk yX5_sendOne 2 := ⟨by decide +kernel, by decide +kernel, by decide +kernel⟩
set_option maxRecDepth 100000 in
set_option maxHeartbeats 4000000 in
theorem KX5_sendOne (x0 : Nat) (x1 : Nat) (x2 : Int32) : Ct wI yX5_sendOne cX5_sendOne 8 (some .int) 5 0 0 125 [((5, .ref x0) : TV), ((2, .ref x1) : TV), ((0, .int x2) : TV)] (fX5_sendOne x0 x1 x2) :=
  Ct_I (j := 5) (by decide +kernel) rfl rfl (Nat.le_of_ble_eq_true rfl) (fun κ fin hc he => jX5_sendOne hc he x0 x1 x2)
set_option maxRecDepth 100000 in
set_option maxHeartbeats 4000000 in
theorem jX5_sendPage_L10 {κ : Cx} {fin : Unit → Mm → Prop} (hc : Jc κ RX5 cX5_sendPage 4 6 0 0 152) (he : Ed κ cX5_sendPage 0 0 wV .return_ fin) : ∀ (n : Nat) (x0 : Nat) (x1 : Nat) (x2 : Int32) (x3 : Int32), Jg κ (wM κ) 4 fin 0 0 10 [some ((5, .ref x0) : TV), some ((2, .ref x1) : TV), some ((0, .int x2) : TV), some ((0, .int x3) : TV)] [] (fX5_sendPage_L10 n x0 x1 x2 x3) := by
  intro n
  induction n with
  | zero => intro x0 x1 x2 x3; exact J_fail
  | succ n ih =>
    intro x0 x1 x2 x3
    unfold fX5_sendPage_L10
    refine J_iload_n (pc := 10) hc dX5_sendPage_10 rfl rfl ?_
    refine J_if_le (pc := 11) (tgt := 35) hc dX5_sendPage_11 (by decide) ?_ ?_
    · exact J_vret (pc := 35) he dX5_sendPage_35
    · refine J_aload_n (pc := 14) hc dX5_sendPage_14 rfl rfl ?_
      refine J_iload_n (pc := 15) hc dX5_sendPage_15 rfl rfl ?_
      refine J_callVi (pc := 16) hc clX2 (As := [((0, .int x2) : TV)]) (KX2_hasLine x1 x2) dX5_sendPage_16 moX2_hasLine rfl tw1268 tw469 tw470 tw3 tw471 rfl (Nat.le_of_ble_eq_true rfl) (Nat.le_of_ble_eq_true rfl) (Nat.le_of_ble_eq_true rfl) (Nat.le_of_ble_eq_true rfl) (Nat.le_of_ble_eq_true rfl) rfl (fun v1 => ?_)
      refine J_if_eq (pc := 19) (tgt := 35) hc dX5_sendPage_19 (by decide) ?_ ?_
      · exact J_vret (pc := 35) he dX5_sendPage_35
      · refine J_aload_n (pc := 22) hc dX5_sendPage_22 rfl rfl ?_
        refine J_aload_n (pc := 23) hc dX5_sendPage_23 rfl rfl ?_
        refine J_iload_n (pc := 24) hc dX5_sendPage_24 rfl rfl ?_
        refine J_callVi (pc := 25) hc clX5 (As := [((2, .ref x1) : TV), ((0, .int x2) : TV)]) (KX5_sendOne x0 x1 x2) dX5_sendPage_25 moX5_sendOne rfl tw1269 tw1271 twp36 tw9 tw1272 rfl (Nat.le_of_ble_eq_true rfl) (Nat.le_of_ble_eq_true rfl) (Nat.le_of_ble_eq_true rfl) (Nat.le_of_ble_eq_true rfl) (Nat.le_of_ble_eq_true rfl) rfl (fun v2 => ?_)
        refine J_istore_n (pc := 28) (l' := [some ((5, .ref x0) : TV), some ((2, .ref x1) : TV), some ((0, .int v2) : TV), some ((0, .int x3) : TV)]) hc dX5_sendPage_28 rfl (by decide) rfl rfl ?_
        refine J_iinc (pc := 29) (v := x3 + (-1)) (l' := [some ((5, .ref x0) : TV), some ((2, .ref x1) : TV), some ((0, .int v2) : TV), some ((0, .int (x3 + (-1))) : TV)]) hc dX5_sendPage_29 rfl rfl (by decide) rfl rfl ?_
        refine J_goto (pc := 32) (tgt := 10) hc dX5_sendPage_32 (by decide) ?_
        refine J_sub (l' := [some ((5, .ref x0) : TV), some ((2, .ref x1) : TV), some ((0, .int v2) : TV), some ((0, .int (x3 + (-1))) : TV)]) ⟨rfl, ⟨rfl, ⟨rfl, ⟨rfl, trivial⟩⟩⟩⟩ ?_
        exact ih x0 x1 v2 (x3 + (-1))
set_option maxRecDepth 100000 in
set_option maxHeartbeats 4000000 in
theorem jX5_sendPage {κ : Cx} {fin : Unit → Mm → Prop} (hc : Jc κ RX5 cX5_sendPage 4 6 0 0 152) (he : Ed κ cX5_sendPage 0 0 wV .return_ fin) (x0 : Nat) (x1 : Nat) : Jg κ (wM κ) 4 fin 0 0 0 [some ((5, .ref x0) : TV), some ((2, .ref x1) : TV), none, none] [] (fX5_sendPage x0 x1) := by
  unfold fX5_sendPage
  refine J_aload_n (pc := 0) hc dX5_sendPage_0 rfl rfl ?_
  refine J_callVv (pc := 1) hc clX5 (As := []) (KX5_clear x0) dX5_sendPage_1 moX5_clear rfl tw1264 tw1266 twp35 tw9 tw1267 rfl (Nat.le_of_ble_eq_true rfl) (Nat.le_of_ble_eq_true rfl) (Nat.le_of_ble_eq_true rfl) (Nat.le_of_ble_eq_true rfl) (Nat.le_of_ble_eq_true rfl) rfl (fun _ => ?_)
  refine J_iconst (pc := 4) (v := 0) hc dX5_sendPage_4 (by decide) ?_
  refine J_istore_n (pc := 5) (l' := [some ((5, .ref x0) : TV), some ((2, .ref x1) : TV), some ((0, .int 0) : TV), none]) hc dX5_sendPage_5 rfl (by decide) rfl rfl ?_
  refine J_sipush (pc := 6) (v := 1000) hc dX5_sendPage_6 (by decide) ?_
  refine J_istore_n (pc := 9) (l' := [some ((5, .ref x0) : TV), some ((2, .ref x1) : TV), some ((0, .int 0) : TV), some ((0, .int 1000) : TV)]) hc dX5_sendPage_9 rfl (by decide) rfl rfl ?_
  refine J_sub (l' := [some ((5, .ref x0) : TV), some ((2, .ref x1) : TV), some ((0, .int 0) : TV), some ((0, .int 1000) : TV)]) ⟨rfl, ⟨rfl, ⟨rfl, ⟨rfl, trivial⟩⟩⟩⟩ ?_
  exact jX5_sendPage_L10 hc he fu x0 x1 0 1000
theorem moX5_sendPage : MOk yX5_sendPage 1 := ⟨by decide +kernel, by decide +kernel, by decide +kernel⟩
set_option maxRecDepth 100000 in
set_option maxHeartbeats 4000000 in
theorem KX5_sendPage (x0 : Nat) (x1 : Nat) : Ct wV yX5_sendPage cX5_sendPage 4 none 6 0 0 152 [((5, .ref x0) : TV), ((2, .ref x1) : TV)] (fX5_sendPage x0 x1) :=
  Ct_V (j := 2) (by decide +kernel) rfl rfl (Nat.le_of_ble_eq_true rfl) (fun κ fin hc he hin => jX5_sendPage hc he x0 x1)
set_option maxRecDepth 100000 in
set_option maxHeartbeats 4000000 in
theorem jX5_linesOfState_L32 {κ : Cx} {fin : Int32 → Mm → Prop} (hc : Jc κ RX5 cX5_linesOfState 5 0 0 0 0) (he : Ed κ cX5_linesOfState 0 0 wI .ireturn fin) {k5 : Nat → Int32 → Int32 → Int32 → Int32 → Mm → Option (Int32 × Mm)} (hk5 : ∀ (x0 : Nat) (x1 : Int32) (x2 : Int32) (x3 : Int32) (x4 : Int32), Jg κ (wM κ) 5 fin 0 0 5 [some ((5, .ref x0) : TV), some ((0, .int x1) : TV), some ((0, .int x2) : TV), some ((0, .int x3) : TV), some ((0, .int x4) : TV)] [] (k5 x0 x1 x2 x3 x4)) (x0 : Nat) (x1 : Int32) (x2 : Int32) (x3 : Int32) (x4 : Int32) : Jg κ (wM κ) 5 fin 0 0 32 [some ((5, .ref x0) : TV), some ((0, .int x1) : TV), some ((0, .int x2) : TV), some ((0, .int x3) : TV), some ((0, .int x4) : TV)] [] (fX5_linesOfState_L32 k5 x0 x1 x2 x3 x4) := by
  unfold fX5_linesOfState_L32
  refine J_iinc (pc := 32) (v := x4 + 1) (l' := [some ((5, .ref x0) : TV), some ((0, .int x1) : TV), some ((0, .int x2) : TV), some ((0, .int x3) : TV), some ((0, .int (x4 + 1)) : TV)]) hc dX5_linesOfState_32 rfl rfl (by decide) rfl rfl ?_
  refine J_goto (pc := 35) (tgt := 5) hc dX5_linesOfState_35 (by decide) ?_
  refine J_sub (l' := [some ((5, .ref x0) : TV), some ((0, .int x1) : TV), some ((0, .int x2) : TV), some ((0, .int x3) : TV), some ((0, .int (x4 + 1)) : TV)]) ⟨rfl, ⟨rfl, ⟨rfl, ⟨rfl, ⟨rfl, trivial⟩⟩⟩⟩⟩ ?_
  exact hk5 x0 x1 x2 x3 (x4 + 1)
set_option maxRecDepth 100000 in
set_option maxHeartbeats 4000000 in
theorem jX5_linesOfState_L5 {κ : Cx} {fin : Int32 → Mm → Prop} (hc : Jc κ RX5 cX5_linesOfState 5 0 0 0 0) (he : Ed κ cX5_linesOfState 0 0 wI .ireturn fin) : ∀ (n : Nat) (x0 : Nat) (x1 : Int32) (x2 : Int32) (x3 : Int32) (x4 : Int32), Jg κ (wM κ) 5 fin 0 0 5 [some ((5, .ref x0) : TV), some ((0, .int x1) : TV), some ((0, .int x2) : TV), some ((0, .int x3) : TV), some ((0, .int x4) : TV)] [] (fX5_linesOfState_L5 n x0 x1 x2 x3 x4) := by
  intro n
  induction n with
  | zero => intro x0 x1 x2 x3 x4; exact J_fail
  | succ n ih =>
    intro x0 x1 x2 x3 x4
    unfold fX5_linesOfState_L5
    refine J_iload (pc := 5) hc dX5_linesOfState_5 rfl ?_
    refine J_iload_n (pc := 7) hc dX5_linesOfState_7 rfl rfl ?_
    refine J_icmp_ge (pc := 8) (tgt := 38) hc dX5_linesOfState_8 (by decide) ?_ ?_
    · refine J_iload_n (pc := 38) hc dX5_linesOfState_38 rfl rfl ?_
      exact J_iret (pc := 39) he dX5_linesOfState_39
    · refine J_iload (pc := 11) hc dX5_linesOfState_11 rfl ?_
      refine J_bipush (pc := 13) (v := 20) hc dX5_linesOfState_13 (by decide) ?_
      refine J_icmp_ge (pc := 15) (tgt := 38) hc dX5_linesOfState_15 (by decide) ?_ ?_
      · refine J_iload_n (pc := 38) hc dX5_linesOfState_38 rfl rfl ?_
        exact J_iret (pc := 39) he dX5_linesOfState_39
      · refine J_aload_n (pc := 18) hc dX5_linesOfState_18 rfl rfl ?_
        refine J_getA (pc := 19) hc clX5 (k := 8) (kd := 11) (Nat.le_of_ble_eq_true rfl) rfl (Nat.le_of_ble_eq_true rfl) tw250 (Or.inl rfl) dX5_linesOfState_19 (fun v1 => ?_)
        refine J_iload (pc := 22) hc dX5_linesOfState_22 rfl ?_
        refine J_iald (pc := 24) hc dX5_linesOfState_24 (fun v2 => ?_)
        refine J_iload_n (pc := 25) hc dX5_linesOfState_25 rfl rfl ?_
        refine J_icmp_ne (pc := 26) (tgt := 32) hc dX5_linesOfState_26 (by decide) ?_ ?_
        · refine J_sub (l' := [some ((5, .ref x0) : TV), some ((0, .int x1) : TV), some ((0, .int x2) : TV), some ((0, .int x3) : TV), some ((0, .int x4) : TV)]) ⟨rfl, ⟨rfl, ⟨rfl, ⟨rfl, ⟨rfl, trivial⟩⟩⟩⟩⟩ ?_
          exact jX5_linesOfState_L32 hc he ih x0 x1 x2 x3 x4
        · refine J_iinc (pc := 29) (v := x3 + 1) (l' := [some ((5, .ref x0) : TV), some ((0, .int x1) : TV), some ((0, .int x2) : TV), some ((0, .int (x3 + 1)) : TV), some ((0, .int x4) : TV)]) hc dX5_linesOfState_29 rfl rfl (by decide) rfl rfl ?_
          refine J_sub (l' := [some ((5, .ref x0) : TV), some ((0, .int x1) : TV), some ((0, .int x2) : TV), some ((0, .int (x3 + 1)) : TV), some ((0, .int x4) : TV)]) ⟨rfl, ⟨rfl, ⟨rfl, ⟨rfl, ⟨rfl, trivial⟩⟩⟩⟩⟩ ?_
          exact jX5_linesOfState_L32 hc he ih x0 x1 x2 (x3 + 1) x4
set_option maxRecDepth 100000 in
set_option maxHeartbeats 4000000 in
theorem jX5_linesOfState {κ : Cx} {fin : Int32 → Mm → Prop} (hc : Jc κ RX5 cX5_linesOfState 5 0 0 0 0) (he : Ed κ cX5_linesOfState 0 0 wI .ireturn fin) (x0 : Nat) (x1 : Int32) (x2 : Int32) : Jg κ (wM κ) 5 fin 0 0 0 [some ((5, .ref x0) : TV), some ((0, .int x1) : TV), some ((0, .int x2) : TV), none, none] [] (fX5_linesOfState x0 x1 x2) := by
  unfold fX5_linesOfState
  refine J_iconst (pc := 0) (v := 0) hc dX5_linesOfState_0 (by decide) ?_
  refine J_istore_n (pc := 1) (l' := [some ((5, .ref x0) : TV), some ((0, .int x1) : TV), some ((0, .int x2) : TV), some ((0, .int 0) : TV), none]) hc dX5_linesOfState_1 rfl (by decide) rfl rfl ?_
  refine J_iconst (pc := 2) (v := 0) hc dX5_linesOfState_2 (by decide) ?_
  refine J_istore (pc := 3) (l' := [some ((5, .ref x0) : TV), some ((0, .int x1) : TV), some ((0, .int x2) : TV), some ((0, .int 0) : TV), some ((0, .int 0) : TV)]) hc dX5_linesOfState_3 (by decide) rfl rfl ?_
  refine J_sub (l' := [some ((5, .ref x0) : TV), some ((0, .int x1) : TV), some ((0, .int x2) : TV), some ((0, .int 0) : TV), some ((0, .int 0) : TV)]) ⟨rfl, ⟨rfl, ⟨rfl, ⟨rfl, ⟨rfl, trivial⟩⟩⟩⟩⟩ ?_
  exact jX5_linesOfState_L5 hc he fu x0 x1 x2 0 0
theorem moX5_linesOfState : MOk yX5_linesOfState 2 := ⟨by decide +kernel, by decide +kernel, by decide +kernel⟩
set_option maxRecDepth 100000 in
set_option maxHeartbeats 4000000 in
theorem KX5_linesOfState (x0 : Nat) (x1 : Int32) (x2 : Int32) : Ct wI yX5_linesOfState cX5_linesOfState 5 (some .int) 0 0 0 0 [((5, .ref x0) : TV), ((0, .int x1) : TV), ((0, .int x2) : TV)] (fX5_linesOfState x0 x1 x2) :=
  Ct_I (j := 2) (by decide +kernel) rfl rfl (Nat.le_of_ble_eq_true rfl) (fun κ fin hc he => jX5_linesOfState hc he x0 x1 x2)
set_option maxRecDepth 100000 in
set_option maxHeartbeats 4000000 in
theorem jX5_wrongDotsOf {κ : Cx} {fin : Int32 → Mm → Prop} (hc : Jc κ RX5 cX5_wrongDotsOf 3 2 0 0 42) (he : Ed κ cX5_wrongDotsOf 0 0 wI .ireturn fin) (x0 : Nat) (x1 : Int32) (x2 : Nat) : Jg κ (wM κ) 3 fin 0 0 0 [some ((5, .ref x0) : TV), some ((0, .int x1) : TV), some ((2, .ref x2) : TV)] [] (fX5_wrongDotsOf x0 x1 x2) := by
  unfold fX5_wrongDotsOf
  refine J_aload_n (pc := 0) hc dX5_wrongDotsOf_0 rfl rfl ?_
  refine J_iload_n (pc := 1) hc dX5_wrongDotsOf_1 rfl rfl ?_
  refine J_callVi (pc := 2) hc clX2 (As := [((0, .int x1) : TV)]) (KX2_hasLine x2 x1) dX5_wrongDotsOf_2 moX2_hasLine rfl tw1268 tw469 tw470 tw3 tw471 rfl (Nat.le_of_ble_eq_true rfl) (Nat.le_of_ble_eq_true rfl) (Nat.le_of_ble_eq_true rfl) (Nat.le_of_ble_eq_true rfl) (Nat.le_of_ble_eq_true rfl) rfl (fun v1 => ?_)
  refine J_if_eq (pc := 5) (tgt := 26) hc dX5_wrongDotsOf_5 (by decide) ?_ ?_
  · refine J_iconst (pc := 26) (v := 0) hc dX5_wrongDotsOf_26 (by decide) ?_
    exact J_iret (pc := 27) he dX5_wrongDotsOf_27
  · refine J_aload_n (pc := 8) hc dX5_wrongDotsOf_8 rfl rfl ?_
    refine J_getA (pc := 9) hc clX5 (k := 7) (kd := 12) (Nat.le_of_ble_eq_true rfl) rfl (Nat.le_of_ble_eq_true rfl) tw248 (Or.inl rfl) dX5_wrongDotsOf_9 (fun v2 => ?_)
    refine J_iload_n (pc := 12) hc dX5_wrongDotsOf_12 rfl rfl ?_
    refine J_lald (pc := 13) hc dX5_wrongDotsOf_13 (fun v3 => ?_)
    refine J_aload_n (pc := 14) hc dX5_wrongDotsOf_14 rfl rfl ?_
    refine J_iload_n (pc := 15) hc dX5_wrongDotsOf_15 rfl rfl ?_
    refine J_callVj (pc := 16) hc clX2 (As := [((0, .int x1) : TV)]) (KX2_rowAt x2 x1) dX5_wrongDotsOf_16 moX2_rowAt rfl tw1257 tw491 tw492 tw3 tw493 rfl (Nat.le_of_ble_eq_true rfl) (Nat.le_of_ble_eq_true rfl) (Nat.le_of_ble_eq_true rfl) (Nat.le_of_ble_eq_true rfl) (Nat.le_of_ble_eq_true rfl) rfl (fun v4 => ?_)
    refine J_lxor (pc := 19) hc dX5_wrongDotsOf_19 ?_
    refine J_callSi (pc := 20) hc (As := [((0, .long (v3 ^^^ v4)) : TV)]) (KJ13_bitCount_95d88 (v3 ^^^ v4)) dX5_wrongDotsOf_20 moJ13_bitCount_95d88 tw1300 tw512 tw31 tw513 rfl (Nat.le_of_ble_eq_true rfl) (Nat.le_of_ble_eq_true rfl) (Nat.le_of_ble_eq_true rfl) (Nat.le_of_ble_eq_true rfl) (Nat.le_of_ble_eq_true rfl) rfl (fun v5 => ?_)
    refine J_goto (pc := 23) (tgt := 27) hc dX5_wrongDotsOf_23 (by decide) ?_
    exact J_iret (pc := 27) he dX5_wrongDotsOf_27
theorem moX5_wrongDotsOf : MOk yX5_wrongDotsOf 2 := ⟨by decide +kernel, by decide +kernel, by decide +kernel⟩
set_option maxRecDepth 100000 in
set_option maxHeartbeats 4000000 in
theorem KX5_wrongDotsOf (x0 : Nat) (x1 : Int32) (x2 : Nat) : Ct wI yX5_wrongDotsOf cX5_wrongDotsOf 3 (some .int) 2 0 0 42 [((5, .ref x0) : TV), ((0, .int x1) : TV), ((2, .ref x2) : TV)] (fX5_wrongDotsOf x0 x1 x2) :=
  Ct_I (j := 0) (by decide +kernel) rfl rfl (Nat.le_of_ble_eq_true rfl) (fun κ fin hc he => jX5_wrongDotsOf hc he x0 x1 x2)
set_option maxRecDepth 100000 in
set_option maxHeartbeats 4000000 in
theorem jX5_wrongDots_L4 {κ : Cx} {fin : Int32 → Mm → Prop} (hc : Jc κ RX5 cX5_wrongDots 4 3 0 0 64) (he : Ed κ cX5_wrongDots 0 0 wI .ireturn fin) : ∀ (n : Nat) (x0 : Nat) (x1 : Nat) (x2 : Int32) (x3 : Int32), Jg κ (wM κ) 4 fin 0 0 4 [some ((5, .ref x0) : TV), some ((2, .ref x1) : TV), some ((0, .int x2) : TV), some ((0, .int x3) : TV)] [] (fX5_wrongDots_L4 n x0 x1 x2 x3) := by
  intro n
  induction n with
  | zero => intro x0 x1 x2 x3; exact J_fail
  | succ n ih =>
    intro x0 x1 x2 x3
    unfold fX5_wrongDots_L4
    refine J_iload_n (pc := 4) hc dX5_wrongDots_4 rfl rfl ?_
    refine J_aload_n (pc := 5) hc dX5_wrongDots_5 rfl rfl ?_
    refine J_getI (pc := 6) hc clX2 (k := 1) (Nat.le_of_ble_eq_true rfl) rfl tw58 (Or.inl rfl) dX5_wrongDots_6 (fun v1 => ?_)
    refine J_icmp_ge (pc := 9) (tgt := 27) hc dX5_wrongDots_9 (by decide) ?_ ?_
    · refine J_iload_n (pc := 27) hc dX5_wrongDots_27 rfl rfl ?_
      exact J_iret (pc := 28) he dX5_wrongDots_28
    · refine J_iload_n (pc := 12) hc dX5_wrongDots_12 rfl rfl ?_
      refine J_aload_n (pc := 13) hc dX5_wrongDots_13 rfl rfl ?_
      refine J_iload_n (pc := 14) hc dX5_wrongDots_14 rfl rfl ?_
      refine J_aload_n (pc := 15) hc dX5_wrongDots_15 rfl rfl ?_
      refine J_callVi (pc := 16) hc clX5 (As := [((0, .int x3) : TV), ((2, .ref x1) : TV)]) (KX5_wrongDotsOf x0 x3 x1) dX5_wrongDots_16 moX5_wrongDotsOf rfl tw1296 tw1297 tw1298 tw9 tw1299 rfl (Nat.le_of_ble_eq_true rfl) (Nat.le_of_ble_eq_true rfl) (Nat.le_of_ble_eq_true rfl) (Nat.le_of_ble_eq_true rfl) (Nat.le_of_ble_eq_true rfl) rfl (fun v2 => ?_)
      refine J_iadd (pc := 19) hc dX5_wrongDots_19 ?_
      refine J_nmi (fun v3 => ?_)
      refine J_istore_n (pc := 20) (l' := [some ((5, .ref x0) : TV), some ((2, .ref x1) : TV), some ((0, .int v3) : TV), some ((0, .int x3) : TV)]) hc dX5_wrongDots_20 rfl (by decide) rfl rfl ?_
      refine J_iinc (pc := 21) (v := x3 + 1) (l' := [some ((5, .ref x0) : TV), some ((2, .ref x1) : TV), some ((0, .int v3) : TV), some ((0, .int (x3 + 1)) : TV)]) hc dX5_wrongDots_21 rfl rfl (by decide) rfl rfl ?_
      refine J_goto (pc := 24) (tgt := 4) hc dX5_wrongDots_24 (by decide) ?_
      refine J_sub (l' := [some ((5, .ref x0) : TV), some ((2, .ref x1) : TV), some ((0, .int v3) : TV), some ((0, .int (x3 + 1)) : TV)]) ⟨rfl, ⟨rfl, ⟨rfl, ⟨rfl, trivial⟩⟩⟩⟩ ?_
      exact ih x0 x1 v3 (x3 + 1)
set_option maxRecDepth 100000 in
set_option maxHeartbeats 4000000 in
theorem jX5_wrongDots {κ : Cx} {fin : Int32 → Mm → Prop} (hc : Jc κ RX5 cX5_wrongDots 4 3 0 0 64) (he : Ed κ cX5_wrongDots 0 0 wI .ireturn fin) (x0 : Nat) (x1 : Nat) : Jg κ (wM κ) 4 fin 0 0 0 [some ((5, .ref x0) : TV), some ((2, .ref x1) : TV), none, none] [] (fX5_wrongDots x0 x1) := by
  unfold fX5_wrongDots
  refine J_iconst (pc := 0) (v := 0) hc dX5_wrongDots_0 (by decide) ?_
  refine J_istore_n (pc := 1) (l' := [some ((5, .ref x0) : TV), some ((2, .ref x1) : TV), some ((0, .int 0) : TV), none]) hc dX5_wrongDots_1 rfl (by decide) rfl rfl ?_
  refine J_iconst (pc := 2) (v := 0) hc dX5_wrongDots_2 (by decide) ?_
  refine J_istore_n (pc := 3) (l' := [some ((5, .ref x0) : TV), some ((2, .ref x1) : TV), some ((0, .int 0) : TV), some ((0, .int 0) : TV)]) hc dX5_wrongDots_3 rfl (by decide) rfl rfl ?_
  refine J_sub (l' := [some ((5, .ref x0) : TV), some ((2, .ref x1) : TV), some ((0, .int 0) : TV), some ((0, .int 0) : TV)]) ⟨rfl, ⟨rfl, ⟨rfl, ⟨rfl, trivial⟩⟩⟩⟩ ?_
  exact jX5_wrongDots_L4 hc he fu x0 x1 0 0
theorem moX5_wrongDots : MOk yX5_wrongDots 1 := ⟨by decide +kernel, by decide +kernel, by decide +kernel⟩
set_option maxRecDepth 100000 in
set_option maxHeartbeats 4000000 in
theorem KX5_wrongDots (x0 : Nat) (x1 : Nat) : Ct wI yX5_wrongDots cX5_wrongDots 4 (some .int) 3 0 0 64 [((5, .ref x0) : TV), ((2, .ref x1) : TV)] (fX5_wrongDots x0 x1) :=
  Ct_I (j := 2) (by decide +kernel) rfl rfl (Nat.le_of_ble_eq_true rfl) (fun κ fin hc he => jX5_wrongDots hc he x0 x1)
set_option maxRecDepth 100000 in
set_option maxHeartbeats 4000000 in
theorem jX5_wrongLines_L24 {κ : Cx} {fin : Int32 → Mm → Prop} (hc : Jc κ RX5 cX5_wrongLines 4 3 0 0 64) (he : Ed κ cX5_wrongLines 0 0 wI .ireturn fin) {k4 : Nat → Nat → Int32 → Int32 → Mm → Option (Int32 × Mm)} (hk4 : ∀ (x0 : Nat) (x1 : Nat) (x2 : Int32) (x3 : Int32), Jg κ (wM κ) 4 fin 0 0 4 [some ((5, .ref x0) : TV), some ((2, .ref x1) : TV), some ((0, .int x2) : TV), some ((0, .int x3) : TV)] [] (k4 x0 x1 x2 x3)) (x0 : Nat) (x1 : Nat) (x2 : Int32) (x3 : Int32) : Jg κ (wM κ) 4 fin 0 0 24 [some ((5, .ref x0) : TV), some ((2, .ref x1) : TV), some ((0, .int x2) : TV), some ((0, .int x3) : TV)] [] (fX5_wrongLines_L24 k4 x0 x1 x2 x3) := by
  unfold fX5_wrongLines_L24
  refine J_iinc (pc := 24) (v := x3 + 1) (l' := [some ((5, .ref x0) : TV), some ((2, .ref x1) : TV), some ((0, .int x2) : TV), some ((0, .int (x3 + 1)) : TV)]) hc dX5_wrongLines_24 rfl rfl (by decide) rfl rfl ?_
  refine J_goto (pc := 27) (tgt := 4) hc dX5_wrongLines_27 (by decide) ?_
  refine J_sub (l' := [some ((5, .ref x0) : TV), some ((2, .ref x1) : TV), some ((0, .int x2) : TV), some ((0, .int (x3 + 1)) : TV)]) ⟨rfl, ⟨rfl, ⟨rfl, ⟨rfl, trivial⟩⟩⟩⟩ ?_
  exact hk4 x0 x1 x2 (x3 + 1)
set_option maxRecDepth 100000 in
set_option maxHeartbeats 4000000 in
theorem jX5_wrongLines_L4 {κ : Cx} {fin : Int32 → Mm → Prop} (hc : Jc κ RX5 cX5_wrongLines 4 3 0 0 64) (he : Ed κ cX5_wrongLines 0 0 wI .ireturn fin) : ∀ (n : Nat) (x0 : Nat) (x1 : Nat) (x2 : Int32) (x3 : Int32), Jg κ (wM κ) 4 fin 0 0 4 [some ((5, .ref x0) : TV), some ((2, .ref x1) : TV), some ((0, .int x2) : TV), some ((0, .int x3) : TV)] [] (fX5_wrongLines_L4 n x0 x1 x2 x3) := by
  intro n
  induction n with
  | zero => intro x0 x1 x2 x3; exact J_fail
  | succ n ih =>
    intro x0 x1 x2 x3
    unfold fX5_wrongLines_L4
    refine J_iload_n (pc := 4) hc dX5_wrongLines_4 rfl rfl ?_
    refine J_aload_n (pc := 5) hc dX5_wrongLines_5 rfl rfl ?_
    refine J_getI (pc := 6) hc clX2 (k := 1) (Nat.le_of_ble_eq_true rfl) rfl tw58 (Or.inl rfl) dX5_wrongLines_6 (fun v1 => ?_)
    refine J_icmp_ge (pc := 9) (tgt := 30) hc dX5_wrongLines_9 (by decide) ?_ ?_
    · refine J_iload_n (pc := 30) hc dX5_wrongLines_30 rfl rfl ?_
      exact J_iret (pc := 31) he dX5_wrongLines_31
    · refine J_aload_n (pc := 12) hc dX5_wrongLines_12 rfl rfl ?_
      refine J_iload_n (pc := 13) hc dX5_wrongLines_13 rfl rfl ?_
      refine J_aload_n (pc := 14) hc dX5_wrongLines_14 rfl rfl ?_
      refine J_callVi (pc := 15) hc clX5 (As := [((0, .int x3) : TV), ((2, .ref x1) : TV)]) (KX5_wrongDotsOf x0 x3 x1) dX5_wrongLines_15 moX5_wrongDotsOf rfl tw1296 tw1297 tw1298 tw9 tw1299 rfl (Nat.le_of_ble_eq_true rfl) (Nat.le_of_ble_eq_true rfl) (Nat.le_of_ble_eq_true rfl) (Nat.le_of_ble_eq_true rfl) (Nat.le_of_ble_eq_true rfl) rfl (fun v2 => ?_)
      refine J_if_le (pc := 18) (tgt := 24) hc dX5_wrongLines_18 (by decide) ?_ ?_
      · refine J_sub (l' := [some ((5, .ref x0) : TV), some ((2, .ref x1) : TV), some ((0, .int x2) : TV), some ((0, .int x3) : TV)]) ⟨rfl, ⟨rfl, ⟨rfl, ⟨rfl, trivial⟩⟩⟩⟩ ?_
        exact jX5_wrongLines_L24 hc he ih x0 x1 x2 x3
      · refine J_iinc (pc := 21) (v := x2 + 1) (l' := [some ((5, .ref x0) : TV), some ((2, .ref x1) : TV), some ((0, .int (x2 + 1)) : TV), some ((0, .int x3) : TV)]) hc dX5_wrongLines_21 rfl rfl (by decide) rfl rfl ?_
        refine J_sub (l' := [some ((5, .ref x0) : TV), some ((2, .ref x1) : TV), some ((0, .int (x2 + 1)) : TV), some ((0, .int x3) : TV)]) ⟨rfl, ⟨rfl, ⟨rfl, ⟨rfl, trivial⟩⟩⟩⟩ ?_
        exact jX5_wrongLines_L24 hc he ih x0 x1 (x2 + 1) x3
set_option maxRecDepth 100000 in
set_option maxHeartbeats 4000000 in
theorem jX5_wrongLines {κ : Cx} {fin : Int32 → Mm → Prop} (hc : Jc κ RX5 cX5_wrongLines 4 3 0 0 64) (he : Ed κ cX5_wrongLines 0 0 wI .ireturn fin) (x0 : Nat) (x1 : Nat) : Jg κ (wM κ) 4 fin 0 0 0 [some ((5, .ref x0) : TV), some ((2, .ref x1) : TV), none, none] [] (fX5_wrongLines x0 x1) := by
  unfold fX5_wrongLines
  refine J_iconst (pc := 0) (v := 0) hc dX5_wrongLines_0 (by decide) ?_
  refine J_istore_n (pc := 1) (l' := [some ((5, .ref x0) : TV), some ((2, .ref x1) : TV), some ((0, .int 0) : TV), none]) hc dX5_wrongLines_1 rfl (by decide) rfl rfl ?_
  refine J_iconst (pc := 2) (v := 0) hc dX5_wrongLines_2 (by decide) ?_
  refine J_istore_n (pc := 3) (l' := [some ((5, .ref x0) : TV), some ((2, .ref x1) : TV), some ((0, .int 0) : TV), some ((0, .int 0) : TV)]) hc dX5_wrongLines_3 rfl (by decide) rfl rfl ?_
  refine J_sub (l' := [some ((5, .ref x0) : TV), some ((2, .ref x1) : TV), some ((0, .int 0) : TV), some ((0, .int 0) : TV)]) ⟨rfl, ⟨rfl, ⟨rfl, ⟨rfl, trivial⟩⟩⟩⟩ ?_
  exact jX5_wrongLines_L4 hc he fu x0 x1 0 0
theorem moX5_wrongLines : MOk yX5_wrongLines 1 := ⟨by decide +kernel, by decide +kernel, by decide +kernel⟩
set_option maxRecDepth 100000 in
set_option maxHeartbeats 4000000 in
theorem KX5_wrongLines (x0 : Nat) (x1 : Nat) : Ct wI yX5_wrongLines cX5_wrongLines 4 (some .int) 3 0 0 64 [((5, .ref x0) : TV), ((2, .ref x1) : TV)] (fX5_wrongLines x0 x1) :=
  Ct_I (j := 2) (by decide +kernel) rfl rfl (Nat.le_of_ble_eq_true rfl) (fun κ fin hc he => jX5_wrongLines hc he x0 x1)
set_option maxRecDepth 100000 in
set_option maxHeartbeats 4000000 in
theorem jX5_lastWrongLine_L7 {κ : Cx} {fin : Int32 → Mm → Prop} (hc : Jc κ RX5 cX5_lastWrongLine 3 3 0 0 64) (he : Ed κ cX5_lastWrongLine 0 0 wI .ireturn fin) : ∀ (n : Nat) (x0 : Nat) (x1 : Nat) (x2 : Int32), Jg κ (wM κ) 3 fin 0 0 7 [some ((5, .ref x0) : TV), some ((2, .ref x1) : TV), some ((0, .int x2) : TV)] [] (fX5_lastWrongLine_L7 n x0 x1 x2) := by
  intro n
  induction n with
  | zero => intro x0 x1 x2; exact J_fail
  | succ n ih =>
    intro x0 x1 x2
    unfold fX5_lastWrongLine_L7
    refine J_iload_n (pc := 7) hc dX5_lastWrongLine_7 rfl rfl ?_
    refine J_if_lt (pc := 8) (tgt := 28) hc dX5_lastWrongLine_8 (by decide) ?_ ?_
    · refine J_iconst (pc := 28) (v := (-1)) hc dX5_lastWrongLine_28 (by decide) ?_
      exact J_iret (pc := 29) he dX5_lastWrongLine_29
    · refine J_aload_n (pc := 11) hc dX5_lastWrongLine_11 rfl rfl ?_
      refine J_iload_n (pc := 12) hc dX5_lastWrongLine_12 rfl rfl ?_
      refine J_aload_n (pc := 13) hc dX5_lastWrongLine_13 rfl rfl ?_
      refine J_callVi (pc := 14) hc clX5 (As := [((0, .int x2) : TV), ((2, .ref x1) : TV)]) (KX5_wrongDotsOf x0 x2 x1) dX5_lastWrongLine_14 moX5_wrongDotsOf rfl tw1296 tw1297 tw1298 tw9 tw1299 rfl (Nat.le_of_ble_eq_true rfl) (Nat.le_of_ble_eq_true rfl) (Nat.le_of_ble_eq_true rfl) (Nat.le_of_ble_eq_true rfl) (Nat.le_of_ble_eq_true rfl) rfl (fun v1 => ?_)
      refine J_if_le (pc := 17) (tgt := 22) hc dX5_lastWrongLine_17 (by decide) ?_ ?_
      · refine J_iinc (pc := 22) (v := x2 + (-1)) (l' := [some ((5, .ref x0) : TV), some ((2, .ref x1) : TV), some ((0, .int (x2 + (-1))) : TV)]) hc dX5_lastWrongLine_22 rfl rfl (by decide) rfl rfl ?_
        refine J_goto (pc := 25) (tgt := 7) hc dX5_lastWrongLine_25 (by decide) ?_
        refine J_sub (l' := [some ((5, .ref x0) : TV), some ((2, .ref x1) : TV), some ((0, .int (x2 + (-1))) : TV)]) ⟨rfl, ⟨rfl, ⟨rfl, trivial⟩⟩⟩ ?_
        exact ih x0 x1 (x2 + (-1))
      · refine J_iload_n (pc := 20) hc dX5_lastWrongLine_20 rfl rfl ?_
        exact J_iret (pc := 21) he dX5_lastWrongLine_21
set_option maxRecDepth 100000 in
set_option maxHeartbeats 4000000 in
theorem jX5_lastWrongLine {κ : Cx} {fin : Int32 → Mm → Prop} (hc : Jc κ RX5 cX5_lastWrongLine 3 3 0 0 64) (he : Ed κ cX5_lastWrongLine 0 0 wI .ireturn fin) (x0 : Nat) (x1 : Nat) : Jg κ (wM κ) 3 fin 0 0 0 [some ((5, .ref x0) : TV), some ((2, .ref x1) : TV), none] [] (fX5_lastWrongLine x0 x1) := by
  unfold fX5_lastWrongLine
  refine J_aload_n (pc := 0) hc dX5_lastWrongLine_0 rfl rfl ?_
  refine J_getI (pc := 1) hc clX2 (k := 1) (Nat.le_of_ble_eq_true rfl) rfl tw58 (Or.inl rfl) dX5_lastWrongLine_1 (fun v2 => ?_)
  refine J_iconst (pc := 4) (v := 1) hc dX5_lastWrongLine_4 (by decide) ?_
  refine J_isub (pc := 5) hc dX5_lastWrongLine_5 ?_
  refine J_nmi (fun v3 => ?_)
  refine J_istore_n (pc := 6) (l' := [some ((5, .ref x0) : TV), some ((2, .ref x1) : TV), some ((0, .int v3) : TV)]) hc dX5_lastWrongLine_6 rfl (by decide) rfl rfl ?_
  refine J_sub (l' := [some ((5, .ref x0) : TV), some ((2, .ref x1) : TV), some ((0, .int v3) : TV)]) ⟨rfl, ⟨rfl, ⟨rfl, trivial⟩⟩⟩ ?_
  exact jX5_lastWrongLine_L7 hc he fu x0 x1 v3
theorem moX5_lastWrongLine : MOk yX5_lastWrongLine 1 := ⟨by decide +kernel, by decide +kernel, by decide +kernel⟩
set_option maxRecDepth 100000 in
set_option maxHeartbeats 4000000 in
theorem KX5_lastWrongLine (x0 : Nat) (x1 : Nat) : Ct wI yX5_lastWrongLine cX5_lastWrongLine 3 (some .int) 3 0 0 64 [((5, .ref x0) : TV), ((2, .ref x1) : TV)] (fX5_lastWrongLine x0 x1) :=
  Ct_I (j := 1) (by decide +kernel) rfl rfl (Nat.le_of_ble_eq_true rfl) (fun κ fin hc he => jX5_lastWrongLine hc he x0 x1)
