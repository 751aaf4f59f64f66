set_option maxRecDepth 100000 in
set_option maxHeartbeats 8000000 in
theorem qX9_above_L23 {κ : Cx} {fin : Nat → Mm → Prop} {mc ms : Nat} (hc : Jc κ RX9 cX9_above 3 4 mc ms 164) (he : EdW κ cX9_above (tA 13) .areturn (fun _ => True) fin) (s0 : Nat) : Jw κ (wM κ) 3 fin 23 [none, none, none] [((13, .ref s0) : TV)] (gX9_above_L23 s0) := by
  unfold gX9_above_L23
  exact N_ret (pc := 23) he dX9_above_23 trivial rfl
set_option maxRecDepth 100000 in
set_option maxHeartbeats 8000000 in
theorem qX9_above {κ : Cx} {fin : Nat → Mm → Prop} {mc ms : Nat} (hc : Jc κ RX9 cX9_above 3 4 mc ms 164) (he : EdW κ cX9_above (tA 13) .areturn (fun _ => True) fin) (x0 : Nat) (x1 : Nat) (x2 : Int32) : Jw κ (wM κ) 3 fin 0 [some ((54, .ref x0) : TV), some ((44, .ref x1) : TV), some ((0, .int x2) : TV)] [] (gX9_above x0 x1 x2) := by
  unfold gX9_above
  refine N_iload_n (pc := 0) hc dX9_above_0 rfl rfl ?_
  refine N_if_ne (pc := 1) (tgt := 13) hc dX9_above_1 (by decide) ?_ ?_
  · refine N_aload_n (pc := 13) hc dX9_above_13 rfl rfl ?_
    refine N_iload_n (pc := 14) hc dX9_above_14 rfl rfl ?_
    refine N_iconst (pc := 15) (v := 1) hc dX9_above_15 (by decide) ?_
    refine N_isub (pc := 16) hc dX9_above_16 ?_
    refine N_callV (pc := 17) hc clJx4a65c (As := [((0, .int (x2 - 1)) : TV)]) (ZJx4a65c_get_915e3 x1 (x2 - 1)) dX9_above_17 mzJx4a65c_get_915e3 rfl tw1079 tw1059 tw1060 tw13 tw1061 rfl (Nat.le_of_ble_eq_true rfl) (Nat.le_of_ble_eq_true rfl) (Nat.le_of_ble_eq_true rfl) rfl (fun h1 => ?_)
    show Jw κ (wM κ) 3 fin 20 [some ((54, .ref x0) : TV), some ((44, .ref x1) : TV), some ((0, .int x2) : TV)] [((16, .ref h1) : TV)] _
    refine N_castZ (pc := 20) hc tw881 dX9_above_20 ?_
    refine N_sub (l' := [none, none, none]) (show subL _ _ from trivial) ?_
    exact qX9_above_L23 hc he h1
  · refine N_aload_n (pc := 4) hc dX9_above_4 rfl rfl ?_
    refine N_getI (pc := 5) hc clX9 (k := 0) (Nat.le_of_ble_eq_true rfl) rfl tw769 (Or.inl rfl) dX9_above_5 (fun v2 => ?_)
    refine N_newa13 (pc := 8) hc tw950 dX9_above_8 (fun h3 => ?_)
    refine N_goto (pc := 10) (tgt := 23) hc dX9_above_10 (by decide) ?_
    refine N_sub (l' := [none, none, none]) (show subL _ _ from trivial) ?_
    exact qX9_above_L23 hc he h3
theorem mzX9_above : MOk yX9_above 2 := ⟨by decide +kernel, by decide +kernel, by decide +kernel⟩
set_option maxRecDepth 100000 in
set_option maxHeartbeats 8000000 in
theorem ZX9_above (x0 : Nat) (x1 : Nat) (x2 : Int32) : Cw (tA 13) yX9_above cX9_above 3 (some (.array .boolean)) 4 164 [((54, .ref x0) : TV), ((44, .ref x1) : TV), ((0, .int x2) : TV)] (gX9_above x0 x1 x2) :=
  Cw_A (Or.inr ⟨_, rfl⟩) (j := 0) (by decide +kernel) rfl rfl (Nat.le_of_ble_eq_true rfl) (fun κ fin mc ms hc he => qX9_above hc he x0 x1 x2)
set_option maxRecDepth 100000 in
set_option maxHeartbeats 8000000 in
theorem qL_find_L4 {κ : Cx} {fin : Int32 → Mm → Prop} {mc ms : Nat} (hc : Jc κ RL cL_find 4 1 mc ms 100) (he : EdW κ cL_find tI .ireturn (fun _ => True) fin) : ∀ (n : Nat) (x0 : Nat) (x2 : Int32) (x3 : Int32), Jw κ (wM κ) 4 fin 4 [some ((13, .ref x0) : TV), none, some ((0, .int x2) : TV), some ((0, .int x3) : TV)] [] (gL_find_L4 n x0 x2 x3) := by
  intro n
  induction n with
  | zero => intro x0 x2 x3; exact N_fail
  | succ n ih =>
    intro x0 x2 x3
    unfold gL_find_L4
    refine N_iload_n (pc := 4) hc dL_find_4 rfl rfl ?_
    refine N_aload_n (pc := 5) hc dL_find_5 rfl rfl ?_
    refine N_zlen (pc := 6) hc dL_find_6 (fun v1 => ?_)
    refine N_icmp_ge (pc := 7) (tgt := 25) hc dL_find_7 (by decide) ?_ ?_
    · refine N_aload_n (pc := 25) hc dL_find_25 rfl rfl ?_
      refine N_zlen (pc := 26) hc dL_find_26 (fun v2 => ?_)
      exact N_ret (pc := 27) he dL_find_27 trivial rfl
    · refine N_aload_n (pc := 10) hc dL_find_10 rfl rfl ?_
      refine N_iload_n (pc := 11) hc dL_find_11 rfl rfl ?_
      refine N_zald (pc := 12) hc dL_find_12 (fun v3 => ?_)
      refine N_iload_n (pc := 13) hc dL_find_13 rfl rfl ?_
      refine N_icmp_ne (pc := 14) (tgt := 19) hc dL_find_14 (by decide) ?_ ?_
      · refine N_iinc (pc := 19) (v := x3 + 1) (l' := [some ((13, .ref x0) : TV), none, some ((0, .int x2) : TV), some ((0, .int (x3 + 1)) : TV)]) hc dL_find_19 rfl rfl (by decide) rfl rfl ?_
        refine N_goto (pc := 22) (tgt := 4) hc dL_find_22 (by decide) ?_
        refine N_sub (l' := [some ((13, .ref x0) : TV), none, some ((0, .int x2) : TV), some ((0, .int (x3 + 1)) : TV)]) ⟨rfl, ⟨rfl, ⟨rfl, trivial⟩⟩⟩ ?_
        exact ih x0 x2 (x3 + 1)
      · refine N_iload_n (pc := 17) hc dL_find_17 rfl rfl ?_
        exact N_ret (pc := 18) he dL_find_18 trivial rfl
set_option maxRecDepth 100000 in
set_option maxHeartbeats 8000000 in
theorem qL_find {κ : Cx} {fin : Int32 → Mm → Prop} {mc ms : Nat} (hc : Jc κ RL cL_find 4 1 mc ms 100) (he : EdW κ cL_find tI .ireturn (fun _ => True) fin) (x0 : Nat) (x1 : Int32) (x2 : Int32) : Jw κ (wM κ) 4 fin 0 [some ((13, .ref x0) : TV), some ((0, .int x1) : TV), some ((0, .int x2) : TV), none] [] (gL_find x0 x1 x2) := by
  unfold gL_find
  refine N_iload_n (pc := 0) hc dL_find_0 rfl rfl ?_
  refine N_iconst (pc := 1) (v := 1) hc dL_find_1 (by decide) ?_
  refine N_iadd (pc := 2) hc dL_find_2 ?_
  refine N_nmi (fun v4 => ?_)
  refine N_istore_n (pc := 3) (l' := [some ((13, .ref x0) : TV), some ((0, .int x1) : TV), some ((0, .int x2) : TV), some ((0, .int v4) : TV)]) hc dL_find_3 rfl (by decide) rfl rfl ?_
  refine N_sub (l' := [some ((13, .ref x0) : TV), none, some ((0, .int x2) : TV), some ((0, .int v4) : TV)]) ⟨rfl, ⟨rfl, ⟨rfl, trivial⟩⟩⟩ ?_
  exact qL_find_L4 hc he fu x0 x2 v4
theorem mzL_find : MOk yL_find 3 := ⟨by decide +kernel, by decide +kernel, by decide +kernel⟩
set_option maxRecDepth 100000 in
set_option maxHeartbeats 8000000 in
theorem ZL_find (x0 : Nat) (x1 : Int32) (x2 : Int32) : Cw tI yL_find cL_find 4 (some .int) 1 100 [((13, .ref x0) : TV), ((0, .int x1) : TV), ((0, .int x2) : TV)] (gL_find x0 x1 x2) :=
  Cw_I (j := 1) (by decide +kernel) rfl rfl (Nat.le_of_ble_eq_true rfl) (fun κ fin mc ms hc he => qL_find hc he x0 x1 x2)
set_option maxRecDepth 100000 in
set_option maxHeartbeats 8000000 in
theorem qL_changes_L34 {κ : Cx} {fin : Nat → Mm → Prop} {mc ms : Nat} (hc : Jc κ RL cL_changes 4 7 mc ms 231) (he : EdW κ cL_changes (tA 44) .areturn (fun _ => True) fin) {k12 : Nat → Nat → Int32 → Int32 → Mm → Option (Nat × Mm × Nat × Nat)} (hk12 : ∀ (x0 : Nat) (x1 : Nat) (x2 : Int32) (x3 : Int32), Jw κ (wM κ) 4 fin 12 [some ((13, .ref x0) : TV), some ((44, .ref x1) : TV), some ((0, .int x2) : TV), some ((0, .int x3) : TV)] [] (k12 x0 x1 x2 x3)) (x0 : Nat) (x1 : Nat) (x3 : Int32) : Jw κ (wM κ) 4 fin 34 [some ((13, .ref x0) : TV), some ((44, .ref x1) : TV), none, some ((0, .int x3) : TV)] [] (gL_changes_L34 k12 x0 x1 x3) := by
  unfold gL_changes_L34
  refine N_aload_n (pc := 34) hc dL_changes_34 rfl rfl ?_
  refine N_iload_n (pc := 35) hc dL_changes_35 rfl rfl ?_
  refine N_zald (pc := 36) hc dL_changes_36 (fun v1 => ?_)
  refine N_istore_n (pc := 37) (l' := [some ((13, .ref x0) : TV), some ((44, .ref x1) : TV), some ((0, .int v1) : TV), some ((0, .int x3) : TV)]) hc dL_changes_37 rfl (by decide) rfl rfl ?_
  refine N_iinc (pc := 38) (v := x3 + 1) (l' := [some ((13, .ref x0) : TV), some ((44, .ref x1) : TV), some ((0, .int v1) : TV), some ((0, .int (x3 + 1)) : TV)]) hc dL_changes_38 rfl rfl (by decide) rfl rfl ?_
  refine N_goto (pc := 41) (tgt := 12) hc dL_changes_41 (by decide) ?_
  refine N_sub (l' := [some ((13, .ref x0) : TV), some ((44, .ref x1) : TV), some ((0, .int v1) : TV), some ((0, .int (x3 + 1)) : TV)]) ⟨rfl, ⟨rfl, ⟨rfl, ⟨rfl, trivial⟩⟩⟩⟩ ?_
  exact hk12 x0 x1 v1 (x3 + 1)
set_option maxRecDepth 100000 in
set_option maxHeartbeats 8000000 in
theorem qL_changes_L12 {κ : Cx} {fin : Nat → Mm → Prop} {mc ms : Nat} (hc : Jc κ RL cL_changes 4 7 mc ms 231) (he : EdW κ cL_changes (tA 44) .areturn (fun _ => True) fin) : ∀ (n : Nat) (x0 : Nat) (x1 : Nat) (x2 : Int32) (x3 : Int32), Jw κ (wM κ) 4 fin 12 [some ((13, .ref x0) : TV), some ((44, .ref x1) : TV), some ((0, .int x2) : TV), some ((0, .int x3) : TV)] [] (gL_changes_L12 n x0 x1 x2 x3) := by
  intro n
  induction n with
  | zero => intro x0 x1 x2 x3; exact N_fail
  | succ n ih =>
    intro x0 x1 x2 x3
    unfold gL_changes_L12
    refine N_iload_n (pc := 12) hc dL_changes_12 rfl rfl ?_
    refine N_aload_n (pc := 13) hc dL_changes_13 rfl rfl ?_
    refine N_zlen (pc := 14) hc dL_changes_14 (fun v2 => ?_)
    refine N_icmp_ge (pc := 15) (tgt := 44) hc dL_changes_15 (by decide) ?_ ?_
    · refine N_aload_n (pc := 44) hc dL_changes_44 rfl rfl ?_
      exact N_ret (pc := 45) he dL_changes_45 trivial rfl
    · refine N_aload_n (pc := 18) hc dL_changes_18 rfl rfl ?_
      refine N_iload_n (pc := 19) hc dL_changes_19 rfl rfl ?_
      refine N_zald (pc := 20) hc dL_changes_20 (fun v3 => ?_)
      refine N_iload_n (pc := 21) hc dL_changes_21 rfl rfl ?_
      refine N_icmp_eq (pc := 22) (tgt := 34) hc dL_changes_22 (by decide) ?_ ?_
      · refine N_sub (l' := [some ((13, .ref x0) : TV), some ((44, .ref x1) : TV), none, some ((0, .int x3) : TV)]) ⟨rfl, ⟨rfl, ⟨rfl, trivial⟩⟩⟩ ?_
        exact qL_changes_L34 hc he ih x0 x1 x3
      · refine N_aload_n (pc := 25) hc dL_changes_25 rfl rfl ?_
        refine N_iload_n (pc := 26) hc dL_changes_26 rfl rfl ?_
        refine N_callS (pc := 27) hc (As := [((0, .int x3) : TV)]) (ZJ6_valueOf_2dffe x3) dL_changes_27 mzJ6_valueOf_2dffe tw1094 tw1095 tw25 tw1096 rfl (Nat.le_of_ble_eq_true rfl) (Nat.le_of_ble_eq_true rfl) (Nat.le_of_ble_eq_true rfl) rfl (fun h4 => ?_)
        show Jw κ (wM κ) 4 fin 30 [some ((13, .ref x0) : TV), some ((44, .ref x1) : TV), some ((0, .int x2) : TV), some ((0, .int x3) : TV)] [((28, .ref h4) : TV), ((44, .ref x1) : TV)] _
        refine N_to16 (h := h4) [] (Or.inr (Or.inl rfl)) ?_
        refine N_callV (pc := 30) hc clJx4a65c (As := [((16, .ref h4) : TV)]) (ZJx4a65c_add_9ea2d x1 h4) dL_changes_30 mzJx4a65c_add_9ea2d rfl tw1114 tw887 tw888 tw13 tw889 rfl (Nat.le_of_ble_eq_true rfl) (Nat.le_of_ble_eq_true rfl) (Nat.le_of_ble_eq_true rfl) rfl (fun v5 => ?_)
        show Jw κ (wM κ) 4 fin 33 [some ((13, .ref x0) : TV), some ((44, .ref x1) : TV), some ((0, .int x2) : TV), some ((0, .int x3) : TV)] [((0, .int v5) : TV)] _
        refine N_pop (pc := 33) hc dL_changes_33 rfl ?_
        refine N_sub (l' := [some ((13, .ref x0) : TV), some ((44, .ref x1) : TV), none, some ((0, .int x3) : TV)]) ⟨rfl, ⟨rfl, ⟨rfl, trivial⟩⟩⟩ ?_
        exact qL_changes_L34 hc he ih x0 x1 x3
set_option maxRecDepth 100000 in
set_option maxHeartbeats 8000000 in
theorem qL_changes {κ : Cx} {fin : Nat → Mm → Prop} {mc ms : Nat} (hc : Jc κ RL cL_changes 4 7 mc ms 231) (he : EdW κ cL_changes (tA 44) .areturn (fun _ => True) fin) (x0 : Nat) : Jw κ (wM κ) 4 fin 0 [some ((13, .ref x0) : TV), none, none, none] [] (gL_changes x0) := by
  unfold gL_changes
  refine N_new (pc := 0) hc clJx4a65c dvJx4a65c tw1083 tw741 tw13 dL_changes_0 (fun h6 => ?_)
  refine N_dup (pc := 3) hc dL_changes_3 rfl ?_
  refine N_callI (pc := 4) hc (ci := 44) (As := []) (ZJx4a65c_init_da8c8 h6) dL_changes_4 mzJx4a65c_init_da8c8 rfl tw1084 tw743 tw13 tw744 rfl (Nat.le_of_ble_eq_true rfl) (Nat.le_of_ble_eq_true rfl) (Nat.le_of_ble_eq_true rfl) rfl (fun _ => ?_)
  show Jw κ (wM κ) 4 fin 7 [some ((13, .ref x0) : TV), none, none, none] [((44, .ref h6) : TV)] _
  refine N_astore_n (pc := 7) (l' := [some ((13, .ref x0) : TV), some ((44, .ref h6) : TV), none, none]) hc dL_changes_7 rfl (by decide) rfl rfl ?_
  refine N_iconst (pc := 8) (v := 0) hc dL_changes_8 (by decide) ?_
  refine N_istore_n (pc := 9) (l' := [some ((13, .ref x0) : TV), some ((44, .ref h6) : TV), some ((0, .int 0) : TV), none]) hc dL_changes_9 rfl (by decide) rfl rfl ?_
  refine N_iconst (pc := 10) (v := 0) hc dL_changes_10 (by decide) ?_
  refine N_istore_n (pc := 11) (l' := [some ((13, .ref x0) : TV), some ((44, .ref h6) : TV), some ((0, .int 0) : TV), some ((0, .int 0) : TV)]) hc dL_changes_11 rfl (by decide) rfl rfl ?_
  refine N_sub (l' := [some ((13, .ref x0) : TV), some ((44, .ref h6) : TV), some ((0, .int 0) : TV), some ((0, .int 0) : TV)]) ⟨rfl, ⟨rfl, ⟨rfl, ⟨rfl, trivial⟩⟩⟩⟩ ?_
  exact qL_changes_L12 hc he fu x0 h6 0 0
theorem mzL_changes : MOk yL_changes 1 := ⟨by decide +kernel, by decide +kernel, by decide +kernel⟩
set_option maxRecDepth 100000 in
set_option maxHeartbeats 8000000 in
theorem ZL_changes (x0 : Nat) : Cw (tA 44) yL_changes cL_changes 4 (some (.object "java/util/ArrayList")) 7 231 [((13, .ref x0) : TV)] (gL_changes x0) :=
  Cw_A (Or.inl ⟨_, rfl⟩) (j := 3) (by decide +kernel) rfl rfl (Nat.le_of_ble_eq_true rfl) (fun κ fin mc ms hc he => qL_changes hc he x0)
set_option maxRecDepth 100000 in
set_option maxHeartbeats 8000000 in
theorem qL_marksBehind_L107 {κ : Cx} {fin : Nat → Mm → Prop} {mc ms : Nat} (hc : Jc κ RL cL_marksBehind 6 8 mc ms 254) (he : EdW κ cL_marksBehind (tA 11) .areturn (fun _ => True) fin) {k23 : Nat → Int32 → Int32 → Nat → Nat → Mm → Option (Nat × Mm × Nat × Nat)} (hk23 : ∀ (x0 : Nat) (x1 : Int32) (x2 : Int32) (x3 : Nat) (x4 : Nat), Jw κ (wM κ) 6 fin 23 [some ((13, .ref x0) : TV), some ((0, .int x1) : TV), some ((0, .int x2) : TV), some ((11, .ref x3) : TV), some ((43, .ref x4) : TV), none] [] (k23 x0 x1 x2 x3 x4)) (x0 : Nat) (x1 : Int32) (x2 : Int32) (x3 : Nat) (x4 : Nat) : Jw κ (wM κ) 6 fin 107 [some ((13, .ref x0) : TV), some ((0, .int x1) : TV), some ((0, .int x2) : TV), some ((11, .ref x3) : TV), some ((43, .ref x4) : TV), none] [] (gL_marksBehind_L107 k23 x0 x1 x2 x3 x4) := by
  unfold gL_marksBehind_L107
  refine N_goto (pc := 107) (tgt := 23) hc dL_marksBehind_107 (by decide) ?_
  refine N_sub (l' := [some ((13, .ref x0) : TV), some ((0, .int x1) : TV), some ((0, .int x2) : TV), some ((11, .ref x3) : TV), some ((43, .ref x4) : TV), none]) ⟨rfl, ⟨rfl, ⟨rfl, ⟨rfl, ⟨rfl, trivial⟩⟩⟩⟩⟩ ?_
  exact hk23 x0 x1 x2 x3 x4
set_option maxRecDepth 100000 in
set_option maxHeartbeats 8000000 in
theorem qL_marksBehind_L78 {κ : Cx} {fin : Nat → Mm → Prop} {mc ms : Nat} (hc : Jc κ RL cL_marksBehind 6 8 mc ms 254) (he : EdW κ cL_marksBehind (tA 11) .areturn (fun _ => True) fin) {k23 : Nat → Int32 → Int32 → Nat → Nat → Mm → Option (Nat × Mm × Nat × Nat)} (hk23 : ∀ (x0 : Nat) (x1 : Int32) (x2 : Int32) (x3 : Nat) (x4 : Nat), Jw κ (wM κ) 6 fin 23 [some ((13, .ref x0) : TV), some ((0, .int x1) : TV), some ((0, .int x2) : TV), some ((11, .ref x3) : TV), some ((43, .ref x4) : TV), none] [] (k23 x0 x1 x2 x3 x4)) (x0 : Nat) (x1 : Int32) (x2 : Int32) (x3 : Nat) (x4 : Nat) (x5 : Int32) : Jw κ (wM κ) 6 fin 78 [some ((13, .ref x0) : TV), some ((0, .int x1) : TV), some ((0, .int x2) : TV), some ((11, .ref x3) : TV), some ((43, .ref x4) : TV), some ((0, .int x5) : TV)] [] (gL_marksBehind_L78 k23 x0 x1 x2 x3 x4 x5) := by
  unfold gL_marksBehind_L78
  refine N_aload_n (pc := 78) hc dL_marksBehind_78 rfl rfl ?_
  refine N_iconst (pc := 79) (v := 0) hc dL_marksBehind_79 (by decide) ?_
  refine N_iald (pc := 80) hc dL_marksBehind_80 (fun v1 => ?_)
  refine N_aload_n (pc := 81) hc dL_marksBehind_81 rfl rfl ?_
  refine N_zlen (pc := 82) hc dL_marksBehind_82 (fun v2 => ?_)
  refine N_icmp_ge (pc := 83) (tgt := 107) hc dL_marksBehind_83 (by decide) ?_ ?_
  · refine N_sub (l' := [some ((13, .ref x0) : TV), some ((0, .int x1) : TV), some ((0, .int x2) : TV), some ((11, .ref x3) : TV), some ((43, .ref x4) : TV), none]) ⟨rfl, ⟨rfl, ⟨rfl, ⟨rfl, ⟨rfl, trivial⟩⟩⟩⟩⟩ ?_
    exact qL_marksBehind_L107 hc he hk23 x0 x1 x2 x3 x4
  · refine N_iload (pc := 86) hc dL_marksBehind_86 rfl ?_
    refine N_aload_n (pc := 88) hc dL_marksBehind_88 rfl rfl ?_
    refine N_iconst (pc := 89) (v := 0) hc dL_marksBehind_89 (by decide) ?_
    refine N_iald (pc := 90) hc dL_marksBehind_90 (fun v3 => ?_)
    refine N_icmp_le (pc := 91) (tgt := 107) hc dL_marksBehind_91 (by decide) ?_ ?_
    · refine N_sub (l' := [some ((13, .ref x0) : TV), some ((0, .int x1) : TV), some ((0, .int x2) : TV), some ((11, .ref x3) : TV), some ((43, .ref x4) : TV), none]) ⟨rfl, ⟨rfl, ⟨rfl, ⟨rfl, ⟨rfl, trivial⟩⟩⟩⟩⟩ ?_
      exact qL_marksBehind_L107 hc he hk23 x0 x1 x2 x3 x4
    · refine N_aload_n (pc := 94) hc dL_marksBehind_94 rfl rfl ?_
      refine N_iconst (pc := 95) (v := 1) hc dL_marksBehind_95 (by decide) ?_
      refine N_iald (pc := 96) hc dL_marksBehind_96 (fun v4 => ?_)
      refine N_aload_n (pc := 97) hc dL_marksBehind_97 rfl rfl ?_
      refine N_zlen (pc := 98) hc dL_marksBehind_98 (fun v5 => ?_)
      refine N_icmp_ne (pc := 99) (tgt := 107) hc dL_marksBehind_99 (by decide) ?_ ?_
      · refine N_sub (l' := [some ((13, .ref x0) : TV), some ((0, .int x1) : TV), some ((0, .int x2) : TV), some ((11, .ref x3) : TV), some ((43, .ref x4) : TV), none]) ⟨rfl, ⟨rfl, ⟨rfl, ⟨rfl, ⟨rfl, trivial⟩⟩⟩⟩⟩ ?_
        exact qL_marksBehind_L107 hc he hk23 x0 x1 x2 x3 x4
      · refine N_aload_n (pc := 102) hc dL_marksBehind_102 rfl rfl ?_
        refine N_iconst (pc := 103) (v := 1) hc dL_marksBehind_103 (by decide) ?_
        refine N_iload (pc := 104) hc dL_marksBehind_104 rfl ?_
        refine N_iast (pc := 106) hc dL_marksBehind_106 ?_
        refine N_sub (l' := [some ((13, .ref x0) : TV), some ((0, .int x1) : TV), some ((0, .int x2) : TV), some ((11, .ref x3) : TV), some ((43, .ref x4) : TV), none]) ⟨rfl, ⟨rfl, ⟨rfl, ⟨rfl, ⟨rfl, trivial⟩⟩⟩⟩⟩ ?_
        exact qL_marksBehind_L107 hc he hk23 x0 x1 x2 x3 x4
set_option maxRecDepth 100000 in
set_option maxHeartbeats 8000000 in
theorem qL_marksBehind_L23 {κ : Cx} {fin : Nat → Mm → Prop} {mc ms : Nat} (hc : Jc κ RL cL_marksBehind 6 8 mc ms 254) (he : EdW κ cL_marksBehind (tA 11) .areturn (fun _ => True) fin) : ∀ (n : Nat) (x0 : Nat) (x1 : Int32) (x2 : Int32) (x3 : Nat) (x4 : Nat), Jw κ (wM κ) 6 fin 23 [some ((13, .ref x0) : TV), some ((0, .int x1) : TV), some ((0, .int x2) : TV), some ((11, .ref x3) : TV), some ((43, .ref x4) : TV), none] [] (gL_marksBehind_L23 n x0 x1 x2 x3 x4) := by
  intro n
  induction n with
  | zero => intro x0 x1 x2 x3 x4; exact N_fail
  | succ n ih =>
    intro x0 x1 x2 x3 x4
    unfold gL_marksBehind_L23
    refine N_aload (pc := 23) hc dL_marksBehind_23 rfl ?_
    refine N_callF (pc := 25) hc clJx35411 (y := yJx35411_hasNext_aae02) (x := ⟨"java/util/Iterator", "hasNext", "()Z"⟩) (As := []) (ZJx35411_hasNext_aae02 x4) dL_marksBehind_25 (n := 0) ⟨by decide +kernel, by decide +kernel, by decide +kernel⟩ tw840 rfl (by decide) ⟨by decide +kernel, by decide +kernel⟩ (tw_F tw1117 tw863 tw865 tw35 tw867) rfl (Nat.le_of_ble_eq_true rfl) (Nat.le_of_ble_eq_true rfl) (Nat.le_of_ble_eq_true rfl) rfl (fun v6 => ?_)
    show Jw κ (wM κ) 6 fin 30 [some ((13, .ref x0) : TV), some ((0, .int x1) : TV), some ((0, .int x2) : TV), some ((11, .ref x3) : TV), some ((43, .ref x4) : TV), none] [((0, .int v6) : TV)] _
    refine N_if_eq (pc := 30) (tgt := 110) hc dL_marksBehind_30 (by decide) ?_ ?_
    · refine N_aload_n (pc := 110) hc dL_marksBehind_110 rfl rfl ?_
      exact N_ret (pc := 111) he dL_marksBehind_111 trivial rfl
    · refine N_aload (pc := 33) hc dL_marksBehind_33 rfl ?_
      refine N_callF (pc := 35) hc clJx35411 (y := yJx35411_next_0502b) (x := ⟨"java/util/Iterator", "next", "()Ljava/lang/Object;"⟩) (As := []) (ZJx35411_next_0502b x4) dL_marksBehind_35 (n := 0) ⟨by decide +kernel, by decide +kernel, by decide +kernel⟩ tw840 rfl (by decide) ⟨by decide +kernel, by decide +kernel⟩ (tw_F tw1119 tw872 tw874 tw35 tw876) rfl (Nat.le_of_ble_eq_true rfl) (Nat.le_of_ble_eq_true rfl) (Nat.le_of_ble_eq_true rfl) rfl (fun h7 => ?_)
      show Jw κ (wM κ) 6 fin 40 [some ((13, .ref x0) : TV), some ((0, .int x1) : TV), some ((0, .int x2) : TV), some ((11, .ref x3) : TV), some ((43, .ref x4) : TV), none] [((16, .ref h7) : TV)] _
      refine N_castI (pc := 40) hc tw1120 tw1102 dL_marksBehind_40 ?_
      refine N_callBV (pc := 43) hc (As := []) (ZJ6_intValue_8abf5 h7) dL_marksBehind_43 mzJ6_intValue_8abf5 rfl tw1121 tw1122 tw1123 tw25 tw1124 rfl (Nat.le_of_ble_eq_true rfl) (Nat.le_of_ble_eq_true rfl) (Nat.le_of_ble_eq_true rfl) rfl (fun v8 => ?_)
      show Jw κ (wM κ) 6 fin 46 [some ((13, .ref x0) : TV), some ((0, .int x1) : TV), some ((0, .int x2) : TV), some ((11, .ref x3) : TV), some ((43, .ref x4) : TV), none] [((0, .int v8) : TV)] _
      refine N_istore (pc := 46) (l' := [some ((13, .ref x0) : TV), some ((0, .int x1) : TV), some ((0, .int x2) : TV), some ((11, .ref x3) : TV), some ((43, .ref x4) : TV), some ((0, .int v8) : TV)]) hc dL_marksBehind_46 (by decide) rfl rfl ?_
      refine N_iload (pc := 48) hc dL_marksBehind_48 rfl ?_
      refine N_iload_n (pc := 50) hc dL_marksBehind_50 rfl rfl ?_
      refine N_icmp_le (pc := 51) (tgt := 78) hc dL_marksBehind_51 (by decide) ?_ ?_
      · refine N_sub (l' := [some ((13, .ref x0) : TV), some ((0, .int x1) : TV), some ((0, .int x2) : TV), some ((11, .ref x3) : TV), some ((43, .ref x4) : TV), some ((0, .int v8) : TV)]) ⟨rfl, ⟨rfl, ⟨rfl, ⟨rfl, ⟨rfl, ⟨rfl, trivial⟩⟩⟩⟩⟩⟩ ?_
        exact qL_marksBehind_L78 hc he ih x0 x1 x2 x3 x4 v8
      · refine N_aload_n (pc := 54) hc dL_marksBehind_54 rfl rfl ?_
        refine N_iload (pc := 55) hc dL_marksBehind_55 rfl ?_
        refine N_zald (pc := 57) hc dL_marksBehind_57 (fun v9 => ?_)
        refine N_iload_n (pc := 58) hc dL_marksBehind_58 rfl rfl ?_
        refine N_icmp_eq (pc := 59) (tgt := 78) hc dL_marksBehind_59 (by decide) ?_ ?_
        · refine N_sub (l' := [some ((13, .ref x0) : TV), some ((0, .int x1) : TV), some ((0, .int x2) : TV), some ((11, .ref x3) : TV), some ((43, .ref x4) : TV), some ((0, .int v8) : TV)]) ⟨rfl, ⟨rfl, ⟨rfl, ⟨rfl, ⟨rfl, ⟨rfl, trivial⟩⟩⟩⟩⟩⟩ ?_
          exact qL_marksBehind_L78 hc he ih x0 x1 x2 x3 x4 v8
        · refine N_aload_n (pc := 62) hc dL_marksBehind_62 rfl rfl ?_
          refine N_iconst (pc := 63) (v := 0) hc dL_marksBehind_63 (by decide) ?_
          refine N_iald (pc := 64) hc dL_marksBehind_64 (fun v10 => ?_)
          refine N_aload_n (pc := 65) hc dL_marksBehind_65 rfl rfl ?_
          refine N_zlen (pc := 66) hc dL_marksBehind_66 (fun v11 => ?_)
          refine N_icmp_ne (pc := 67) (tgt := 78) hc dL_marksBehind_67 (by decide) ?_ ?_
          · refine N_sub (l' := [some ((13, .ref x0) : TV), some ((0, .int x1) : TV), some ((0, .int x2) : TV), some ((11, .ref x3) : TV), some ((43, .ref x4) : TV), some ((0, .int v8) : TV)]) ⟨rfl, ⟨rfl, ⟨rfl, ⟨rfl, ⟨rfl, ⟨rfl, trivial⟩⟩⟩⟩⟩⟩ ?_
            exact qL_marksBehind_L78 hc he ih x0 x1 x2 x3 x4 v8
          · refine N_aload_n (pc := 70) hc dL_marksBehind_70 rfl rfl ?_
            refine N_iconst (pc := 71) (v := 0) hc dL_marksBehind_71 (by decide) ?_
            refine N_iload (pc := 72) hc dL_marksBehind_72 rfl ?_
            refine N_iast (pc := 74) hc dL_marksBehind_74 ?_
            refine N_goto (pc := 75) (tgt := 107) hc dL_marksBehind_75 (by decide) ?_
            refine N_sub (l' := [some ((13, .ref x0) : TV), some ((0, .int x1) : TV), some ((0, .int x2) : TV), some ((11, .ref x3) : TV), some ((43, .ref x4) : TV), none]) ⟨rfl, ⟨rfl, ⟨rfl, ⟨rfl, ⟨rfl, trivial⟩⟩⟩⟩⟩ ?_
            exact qL_marksBehind_L107 hc he ih x0 x1 x2 x3 x4
set_option maxRecDepth 100000 in
set_option maxHeartbeats 8000000 in
theorem qL_marksBehind {κ : Cx} {fin : Nat → Mm → Prop} {mc ms : Nat} (hc : Jc κ RL cL_marksBehind 6 8 mc ms 254) (he : EdW κ cL_marksBehind (tA 11) .areturn (fun _ => True) fin) (x0 : Nat) (x1 : Int32) (x2 : Int32) : Jw κ (wM κ) 6 fin 0 [some ((13, .ref x0) : TV), some ((0, .int x1) : TV), some ((0, .int x2) : TV), none, none, none] [] (gL_marksBehind x0 x1 x2) := by
  unfold gL_marksBehind
  refine N_iconst (pc := 0) (v := 2) hc dL_marksBehind_0 (by decide) ?_
  refine N_newa11 (pc := 1) hc tw82 dL_marksBehind_1 (fun h12 => ?_)
  refine N_dup (pc := 3) hc dL_marksBehind_3 rfl ?_
  refine N_iconst (pc := 4) (v := 0) hc dL_marksBehind_4 (by decide) ?_
  refine N_aload_n (pc := 5) hc dL_marksBehind_5 rfl rfl ?_
  refine N_zlen (pc := 6) hc dL_marksBehind_6 (fun v13 => ?_)
  refine N_iast (pc := 7) hc dL_marksBehind_7 ?_
  refine N_dup (pc := 8) hc dL_marksBehind_8 rfl ?_
  refine N_iconst (pc := 9) (v := 1) hc dL_marksBehind_9 (by decide) ?_
  refine N_aload_n (pc := 10) hc dL_marksBehind_10 rfl rfl ?_
  refine N_zlen (pc := 11) hc dL_marksBehind_11 (fun v14 => ?_)
  refine N_iast (pc := 12) hc dL_marksBehind_12 ?_
  refine N_astore_n (pc := 13) (l' := [some ((13, .ref x0) : TV), some ((0, .int x1) : TV), some ((0, .int x2) : TV), some ((11, .ref h12) : TV), none, none]) hc dL_marksBehind_13 rfl (by decide) rfl rfl ?_
  refine N_aload_n (pc := 14) hc dL_marksBehind_14 rfl rfl ?_
  refine N_callS (pc := 15) hc (As := [((13, .ref x0) : TV)]) (ZL_changes x0) dL_marksBehind_15 mzL_changes tw1091 tw1092 tw0 tw1093 rfl (Nat.le_of_ble_eq_true rfl) (Nat.le_of_ble_eq_true rfl) (Nat.le_of_ble_eq_true rfl) rfl (fun h15 => ?_)
  show Jw κ (wM κ) 6 fin 18 [some ((13, .ref x0) : TV), some ((0, .int x1) : TV), some ((0, .int x2) : TV), some ((11, .ref h12) : TV), none, none] [((44, .ref h15) : TV)] _
  refine N_callV (pc := 18) hc clJx4a65c (As := []) (ZJx4a65c_iterator_32c93 h15) dL_marksBehind_18 mzJx4a65c_iterator_32c93 rfl tw1115 tw836 tw837 tw13 tw838 rfl (Nat.le_of_ble_eq_true rfl) (Nat.le_of_ble_eq_true rfl) (Nat.le_of_ble_eq_true rfl) rfl (fun h16 => ?_)
  show Jw κ (wM κ) 6 fin 21 [some ((13, .ref x0) : TV), some ((0, .int x1) : TV), some ((0, .int x2) : TV), some ((11, .ref h12) : TV), none, none] [((43, .ref h16) : TV)] _
  refine N_astore (pc := 21) (l' := [some ((13, .ref x0) : TV), some ((0, .int x1) : TV), some ((0, .int x2) : TV), some ((11, .ref h12) : TV), some ((43, .ref h16) : TV), none]) hc dL_marksBehind_21 (by decide) rfl rfl ?_
  refine N_sub (l' := [some ((13, .ref x0) : TV), some ((0, .int x1) : TV), some ((0, .int x2) : TV), some ((11, .ref h12) : TV), some ((43, .ref h16) : TV), none]) ⟨rfl, ⟨rfl, ⟨rfl, ⟨rfl, ⟨rfl, trivial⟩⟩⟩⟩⟩ ?_
  exact qL_marksBehind_L23 hc he fu x0 x1 x2 h12 h16
theorem mzL_marksBehind : MOk yL_marksBehind 3 := ⟨by decide +kernel, by decide +kernel, by decide +kernel⟩
set_option maxRecDepth 100000 in
set_option maxHeartbeats 8000000 in
theorem ZL_marksBehind (x0 : Nat) (x1 : Int32) (x2 : Int32) : Cw (tA 11) yL_marksBehind cL_marksBehind 6 (some (.array .int)) 8 254 [((13, .ref x0) : TV), ((0, .int x1) : TV), ((0, .int x2) : TV)] (gL_marksBehind x0 x1 x2) :=
  Cw_A (Or.inr ⟨_, rfl⟩) (j := 3) (by decide +kernel) rfl rfl (Nat.le_of_ble_eq_true rfl) (fun κ fin mc ms hc he => qL_marksBehind hc he x0 x1 x2)
set_option maxRecDepth 100000 in
set_option maxHeartbeats 8000000 in
theorem qX8_init {κ : Cx} {fin : Unit → Mm → Prop} {mc ms : Nat} (hc : Jc κ RX8 cX8_init 5 1 mc ms 100) (he : EdW κ cX8_init tV .return_ (fun _ => True) fin) (hin : Mh κ = "<init>") (x0 : Nat) (x1 : Int32) (x2 : Int32) (x3 : Int32) (x4 : Int32) : Jw κ (wM κ) 5 fin 0 [some ((53, .ref x0) : TV), some ((0, .int x1) : TV), some ((0, .int x2) : TV), some ((0, .int x3) : TV), some ((0, .int x4) : TV)] [] (gX8_init x0 x1 x2 x3 x4) := by
  unfold gX8_init
  refine N_aload_n (pc := 0) hc dX8_init_0 rfl rfl ?_
  refine N_objInit (pc := 1) hc tw1130 tw43 tw44 (Nat.le_of_ble_eq_true rfl) (Nat.le_of_ble_eq_true rfl) (Nat.le_of_ble_eq_true rfl) dX8_init_1 ?_
  refine N_aload_n (pc := 4) hc dX8_init_4 rfl rfl ?_
  refine N_iload_n (pc := 5) hc dX8_init_5 rfl rfl ?_
  refine N_putIF (pc := 6) hc hin clX8 (k := 0) (Nat.le_of_ble_eq_true rfl) rfl rfl tw1131 rfl rfl rfl dX8_init_6 ?_
  refine N_aload_n (pc := 9) hc dX8_init_9 rfl rfl ?_
  refine N_iload_n (pc := 10) hc dX8_init_10 rfl rfl ?_
  refine N_putIF (pc := 11) hc hin clX8 (k := 1) (Nat.le_of_ble_eq_true rfl) rfl rfl tw1133 rfl rfl rfl dX8_init_11 ?_
  refine N_aload_n (pc := 14) hc dX8_init_14 rfl rfl ?_
  refine N_iload_n (pc := 15) hc dX8_init_15 rfl rfl ?_
  refine N_putIF (pc := 16) hc hin clX8 (k := 2) (Nat.le_of_ble_eq_true rfl) rfl rfl tw1135 rfl rfl rfl dX8_init_16 ?_
  refine N_aload_n (pc := 19) hc dX8_init_19 rfl rfl ?_
  refine N_iload (pc := 20) hc dX8_init_20 rfl ?_
  refine N_putIF (pc := 22) hc hin clX8 (k := 3) (Nat.le_of_ble_eq_true rfl) rfl rfl tw1137 rfl rfl rfl dX8_init_22 ?_
  exact N_ret (pc := 25) he dX8_init_25 trivial rfl
theorem mzX8_init : MOk yX8_init 4 := ⟨by decide +kernel, by decide +kernel, by decide +kernel⟩
set_option maxRecDepth 100000 in
set_option maxHeartbeats 8000000 in
theorem ZX8_init (x0 : Nat) (x1 : Int32) (x2 : Int32) (x3 : Int32) (x4 : Int32) : Cw tV yX8_init cX8_init 5 none 1 100 [((53, .ref x0) : TV), ((0, .int x1) : TV), ((0, .int x2) : TV), ((0, .int x3) : TV), ((0, .int x4) : TV)] (gX8_init x0 x1 x2 x3 x4) :=
  Cw_V (j := 0) (by decide +kernel) rfl rfl (Nat.le_of_ble_eq_true rfl) (fun κ fin mc ms hc he hin => qX8_init hc he hin x0 x1 x2 x3 x4)
set_option maxRecDepth 100000 in
set_option maxHeartbeats 8000000 in
theorem qL_code_L173 {κ : Cx} {fin : Nat → Mm → Prop} {mc ms : Nat} (hc : Jc κ RL cL_code 8 9 mc ms 279) (he : EdW κ cL_code (tA 44) .areturn (fun _ => True) fin) {k13 : Nat → Nat → Nat → Int32 → Int32 → Mm → Option (Nat × Mm × Nat × Nat)} (hk13 : ∀ (x0 : Nat) (x1 : Nat) (x2 : Nat) (x3 : Int32) (x4 : Int32), Jw κ (wM κ) 8 fin 13 [some ((13, .ref x0) : TV), some ((13, .ref x1) : TV), some ((44, .ref x2) : TV), some ((0, .int x3) : TV), some ((0, .int x4) : TV), none, none, none] [] (k13 x0 x1 x2 x3 x4)) (x0 : Nat) (x1 : Nat) (x2 : Nat) (x3 : Int32) (x4 : Int32) : Jw κ (wM κ) 8 fin 173 [some ((13, .ref x0) : TV), some ((13, .ref x1) : TV), some ((44, .ref x2) : TV), some ((0, .int x3) : TV), some ((0, .int x4) : TV), none, none, none] [] (gL_code_L173 k13 x0 x1 x2 x3 x4) := by
  unfold gL_code_L173
  refine N_goto (pc := 173) (tgt := 13) hc dL_code_173 (by decide) ?_
  refine N_sub (l' := [some ((13, .ref x0) : TV), some ((13, .ref x1) : TV), some ((44, .ref x2) : TV), some ((0, .int x3) : TV), some ((0, .int x4) : TV), none, none, none]) ⟨rfl, ⟨rfl, ⟨rfl, ⟨rfl, ⟨rfl, trivial⟩⟩⟩⟩⟩ ?_
  exact hk13 x0 x1 x2 x3 x4
set_option maxRecDepth 100000 in
set_option maxHeartbeats 8000000 in
theorem qL_code_L105 {κ : Cx} {fin : Nat → Mm → Prop} {mc ms : Nat} (hc : Jc κ RL cL_code 8 9 mc ms 279) (he : EdW κ cL_code (tA 44) .areturn (fun _ => True) fin) {k13 : Nat → Nat → Nat → Int32 → Int32 → Mm → Option (Nat × Mm × Nat × Nat)} (hk13 : ∀ (x0 : Nat) (x1 : Nat) (x2 : Nat) (x3 : Int32) (x4 : Int32), Jw κ (wM κ) 8 fin 13 [some ((13, .ref x0) : TV), some ((13, .ref x1) : TV), some ((44, .ref x2) : TV), some ((0, .int x3) : TV), some ((0, .int x4) : TV), none, none, none] [] (k13 x0 x1 x2 x3 x4)) (x0 : Nat) (x1 : Nat) (x2 : Nat) (x3 : Int32) (x5 : Int32) (x6 : Nat) (s0 : Int32) : Jw κ (wM κ) 8 fin 105 [some ((13, .ref x0) : TV), some ((13, .ref x1) : TV), some ((44, .ref x2) : TV), some ((0, .int x3) : TV), none, some ((0, .int x5) : TV), some ((11, .ref x6) : TV), none] [((0, .int s0) : TV)] (gL_code_L105 k13 x0 x1 x2 x3 x5 x6 s0) := by
  unfold gL_code_L105
  refine N_istore (pc := 105) (l' := [some ((13, .ref x0) : TV), some ((13, .ref x1) : TV), some ((44, .ref x2) : TV), some ((0, .int x3) : TV), some ((0, .int s0) : TV), some ((0, .int x5) : TV), some ((11, .ref x6) : TV), none]) hc dL_code_105 (by decide) rfl rfl ?_
  refine N_aload_n (pc := 107) hc dL_code_107 rfl rfl ?_
  refine N_new (pc := 108) hc clX8 dvX8 tw1125 tw1126 tw36 dL_code_108 (fun h1 => ?_)
  refine N_dup (pc := 111) hc dL_code_111 rfl ?_
  refine N_iconst (pc := 112) (v := 1) hc dL_code_112 (by decide) ?_
  refine N_iload (pc := 113) hc dL_code_113 rfl ?_
  refine N_aload (pc := 115) hc dL_code_115 rfl ?_
  refine N_iconst (pc := 117) (v := 0) hc dL_code_117 (by decide) ?_
  refine N_iald (pc := 118) hc dL_code_118 (fun v2 => ?_)
  refine N_isub (pc := 119) hc dL_code_119 ?_
  refine N_iconst (pc := 120) (v := 0) hc dL_code_120 (by decide) ?_
  refine N_iload_n (pc := 121) hc dL_code_121 rfl rfl ?_
  refine N_callI (pc := 122) hc (ci := 53) (As := [((0, .int 1) : TV), ((0, .int (x5 - v2)) : TV), ((0, .int 0) : TV), ((0, .int x3) : TV)]) (ZX8_init h1 1 (x5 - v2) 0 x3) dL_code_122 mzX8_init rfl tw1127 tw1128 tw36 tw1129 rfl (Nat.le_of_ble_eq_true rfl) (Nat.le_of_ble_eq_true rfl) (Nat.le_of_ble_eq_true rfl) rfl (fun _ => ?_)
  show Jw κ (wM κ) 8 fin 125 [some ((13, .ref x0) : TV), some ((13, .ref x1) : TV), some ((44, .ref x2) : TV), some ((0, .int x3) : TV), some ((0, .int s0) : TV), some ((0, .int x5) : TV), some ((11, .ref x6) : TV), none] [((53, .ref h1) : TV), ((44, .ref x2) : TV)] _
  refine N_to16 (h := h1) [] (Or.inr (Or.inr rfl)) ?_
  refine N_callV (pc := 125) hc clJx4a65c (As := [((16, .ref h1) : TV)]) (ZJx4a65c_add_9ea2d x2 h1) dL_code_125 mzJx4a65c_add_9ea2d rfl tw1114 tw887 tw888 tw13 tw889 rfl (Nat.le_of_ble_eq_true rfl) (Nat.le_of_ble_eq_true rfl) (Nat.le_of_ble_eq_true rfl) rfl (fun v3 => ?_)
  show Jw κ (wM κ) 8 fin 128 [some ((13, .ref x0) : TV), some ((13, .ref x1) : TV), some ((44, .ref x2) : TV), some ((0, .int x3) : TV), some ((0, .int s0) : TV), some ((0, .int x5) : TV), some ((11, .ref x6) : TV), none] [((0, .int v3) : TV)] _
  refine N_pop (pc := 128) hc dL_code_128 rfl ?_
  refine N_goto (pc := 129) (tgt := 173) hc dL_code_129 (by decide) ?_
  refine N_sub (l' := [some ((13, .ref x0) : TV), some ((13, .ref x1) : TV), some ((44, .ref x2) : TV), some ((0, .int x3) : TV), some ((0, .int s0) : TV), none, none, none]) ⟨rfl, ⟨rfl, ⟨rfl, ⟨rfl, ⟨rfl, trivial⟩⟩⟩⟩⟩ ?_
  exact qL_code_L173 hc he hk13 x0 x1 x2 x3 s0
set_option maxRecDepth 100000 in
set_option maxHeartbeats 8000000 in
theorem qL_code_L31 {κ : Cx} {fin : Nat → Mm → Prop} {mc ms : Nat} (hc : Jc κ RL cL_code 8 9 mc ms 279) (he : EdW κ cL_code (tA 44) .areturn (fun _ => True) fin) {k13 : Nat → Nat → Nat → Int32 → Int32 → Mm → Option (Nat × Mm × Nat × Nat)} (hk13 : ∀ (x0 : Nat) (x1 : Nat) (x2 : Nat) (x3 : Int32) (x4 : Int32), Jw κ (wM κ) 8 fin 13 [some ((13, .ref x0) : TV), some ((13, .ref x1) : TV), some ((44, .ref x2) : TV), some ((0, .int x3) : TV), some ((0, .int x4) : TV), none, none, none] [] (k13 x0 x1 x2 x3 x4)) (x0 : Nat) (x1 : Nat) (x2 : Nat) (x3 : Int32) (x4 : Int32) (s0 : Int32) (s1 : Int32) (s2 : Nat) : Jw κ (wM κ) 8 fin 31 [some ((13, .ref x0) : TV), some ((13, .ref x1) : TV), some ((44, .ref x2) : TV), some ((0, .int x3) : TV), some ((0, .int x4) : TV), none, none, none] [((0, .int s0) : TV), ((0, .int s1) : TV), ((13, .ref s2) : TV)] (gL_code_L31 k13 x0 x1 x2 x3 x4 s0 s1 s2) := by
  unfold gL_code_L31
  refine N_callS (pc := 31) hc (As := [((13, .ref s2) : TV), ((0, .int s1) : TV), ((0, .int s0) : TV)]) (ZL_find s2 s1 s0) dL_code_31 mzL_find tw1085 tw1086 tw0 tw1087 rfl (Nat.le_of_ble_eq_true rfl) (Nat.le_of_ble_eq_true rfl) (Nat.le_of_ble_eq_true rfl) rfl (fun v4 => ?_)
  show Jw κ (wM κ) 8 fin 34 [some ((13, .ref x0) : TV), some ((13, .ref x1) : TV), some ((44, .ref x2) : TV), some ((0, .int x3) : TV), some ((0, .int x4) : TV), none, none, none] [((0, .int v4) : TV)] _
  refine N_istore (pc := 34) (l' := [some ((13, .ref x0) : TV), some ((13, .ref x1) : TV), some ((44, .ref x2) : TV), some ((0, .int x3) : TV), some ((0, .int x4) : TV), some ((0, .int v4) : TV), none, none]) hc dL_code_34 (by decide) rfl rfl ?_
  refine N_aload_n (pc := 36) hc dL_code_36 rfl rfl ?_
  refine N_iload_n (pc := 37) hc dL_code_37 rfl rfl ?_
  refine N_iload (pc := 38) hc dL_code_38 rfl ?_
  refine N_callS (pc := 40) hc (As := [((13, .ref x0) : TV), ((0, .int x3) : TV), ((0, .int x4) : TV)]) (ZL_marksBehind x0 x3 x4) dL_code_40 mzL_marksBehind tw1088 tw1089 tw0 tw1090 rfl (Nat.le_of_ble_eq_true rfl) (Nat.le_of_ble_eq_true rfl) (Nat.le_of_ble_eq_true rfl) rfl (fun h5 => ?_)
  show Jw κ (wM κ) 8 fin 43 [some ((13, .ref x0) : TV), some ((13, .ref x1) : TV), some ((44, .ref x2) : TV), some ((0, .int x3) : TV), some ((0, .int x4) : TV), some ((0, .int v4) : TV), none, none] [((11, .ref h5) : TV)] _
  refine N_astore (pc := 43) (l' := [some ((13, .ref x0) : TV), some ((13, .ref x1) : TV), some ((44, .ref x2) : TV), some ((0, .int x3) : TV), some ((0, .int x4) : TV), some ((0, .int v4) : TV), some ((11, .ref h5) : TV), none]) hc dL_code_43 (by decide) rfl rfl ?_
  refine N_aload (pc := 45) hc dL_code_45 rfl ?_
  refine N_iconst (pc := 47) (v := 1) hc dL_code_47 (by decide) ?_
  refine N_iald (pc := 48) hc dL_code_48 (fun v6 => ?_)
  refine N_iload (pc := 49) hc dL_code_49 rfl ?_
  refine N_icmp_ge (pc := 51) (tgt := 78) hc dL_code_51 (by decide) ?_ ?_
  · refine N_iload (pc := 78) hc dL_code_78 rfl ?_
    refine N_aload (pc := 80) hc dL_code_80 rfl ?_
    refine N_iconst (pc := 82) (v := 0) hc dL_code_82 (by decide) ?_
    refine N_iald (pc := 83) hc dL_code_83 (fun v7 => ?_)
    refine N_isub (pc := 84) hc dL_code_84 ?_
    refine N_mabs (pc := 85) hc dL_code_85 tw1148 tw1030 tw19 tw1031 (Nat.le_of_ble_eq_true rfl) (Nat.le_of_ble_eq_true rfl) (Nat.le_of_ble_eq_true rfl) ?_
    refine N_iconst (pc := 88) (v := 4) hc dL_code_88 (by decide) ?_
    refine N_icmp_ge (pc := 89) (tgt := 132) hc dL_code_89 (by decide) ?_ ?_
    · refine N_aload_n (pc := 132) hc dL_code_132 rfl rfl ?_
      refine N_iload (pc := 133) hc dL_code_133 rfl ?_
      refine N_iload (pc := 135) hc dL_code_135 rfl ?_
      refine N_callS (pc := 137) hc (As := [((13, .ref x1) : TV), ((0, .int v4) : TV), ((0, .int x4) : TV)]) (ZL_find x1 v4 x4) dL_code_137 mzL_find tw1085 tw1086 tw0 tw1087 rfl (Nat.le_of_ble_eq_true rfl) (Nat.le_of_ble_eq_true rfl) (Nat.le_of_ble_eq_true rfl) rfl (fun v8 => ?_)
      show Jw κ (wM κ) 8 fin 140 [some ((13, .ref x0) : TV), some ((13, .ref x1) : TV), some ((44, .ref x2) : TV), some ((0, .int x3) : TV), some ((0, .int x4) : TV), some ((0, .int v4) : TV), some ((11, .ref h5) : TV), none] [((0, .int v8) : TV)] _
      refine N_istore (pc := 140) (l' := [some ((13, .ref x0) : TV), some ((13, .ref x1) : TV), some ((44, .ref x2) : TV), some ((0, .int x3) : TV), some ((0, .int x4) : TV), some ((0, .int v4) : TV), some ((11, .ref h5) : TV), some ((0, .int v8) : TV)]) hc dL_code_140 (by decide) rfl rfl ?_
      refine N_aload_n (pc := 142) hc dL_code_142 rfl rfl ?_
      refine N_new (pc := 143) hc clX8 dvX8 tw1125 tw1126 tw36 dL_code_143 (fun h9 => ?_)
      refine N_dup (pc := 146) hc dL_code_146 rfl ?_
      refine N_iconst (pc := 147) (v := 2) hc dL_code_147 (by decide) ?_
      refine N_iload (pc := 148) hc dL_code_148 rfl ?_
      refine N_iload_n (pc := 150) hc dL_code_150 rfl rfl ?_
      refine N_iconst (pc := 151) (v := 0) hc dL_code_151 (by decide) ?_
      refine N_mmax (pc := 152) hc dL_code_152 tw1149 tw906 tw19 tw907 (Nat.le_of_ble_eq_true rfl) (Nat.le_of_ble_eq_true rfl) (Nat.le_of_ble_eq_true rfl) ?_
      refine N_isub (pc := 155) hc dL_code_155 ?_
      refine N_iload (pc := 156) hc dL_code_156 rfl ?_
      refine N_iload (pc := 158) hc dL_code_158 rfl ?_
      refine N_isub (pc := 160) hc dL_code_160 ?_
      refine N_iload (pc := 161) hc dL_code_161 rfl ?_
      refine N_callI (pc := 163) hc (ci := 53) (As := [((0, .int 2) : TV), ((0, .int (v4 - (mmax x3 0))) : TV), ((0, .int (v8 - v4)) : TV), ((0, .int v8) : TV)]) (ZX8_init h9 2 (v4 - (mmax x3 0)) (v8 - v4) v8) dL_code_163 mzX8_init rfl tw1127 tw1128 tw36 tw1129 rfl (Nat.le_of_ble_eq_true rfl) (Nat.le_of_ble_eq_true rfl) (Nat.le_of_ble_eq_true rfl) rfl (fun _ => ?_)
      show Jw κ (wM κ) 8 fin 166 [some ((13, .ref x0) : TV), some ((13, .ref x1) : TV), some ((44, .ref x2) : TV), some ((0, .int x3) : TV), some ((0, .int x4) : TV), some ((0, .int v4) : TV), some ((11, .ref h5) : TV), some ((0, .int v8) : TV)] [((53, .ref h9) : TV), ((44, .ref x2) : TV)] _
      refine N_to16 (h := h9) [] (Or.inr (Or.inr rfl)) ?_
      refine N_callV (pc := 166) hc clJx4a65c (As := [((16, .ref h9) : TV)]) (ZJx4a65c_add_9ea2d x2 h9) dL_code_166 mzJx4a65c_add_9ea2d rfl tw1114 tw887 tw888 tw13 tw889 rfl (Nat.le_of_ble_eq_true rfl) (Nat.le_of_ble_eq_true rfl) (Nat.le_of_ble_eq_true rfl) rfl (fun v10 => ?_)
      show Jw κ (wM κ) 8 fin 169 [some ((13, .ref x0) : TV), some ((13, .ref x1) : TV), some ((44, .ref x2) : TV), some ((0, .int x3) : TV), some ((0, .int x4) : TV), some ((0, .int v4) : TV), some ((11, .ref h5) : TV), some ((0, .int v8) : TV)] [((0, .int v10) : TV)] _
      refine N_pop (pc := 169) hc dL_code_169 rfl ?_
      refine N_iload (pc := 170) hc dL_code_170 rfl ?_
      refine N_istore_n (pc := 172) (l' := [some ((13, .ref x0) : TV), some ((13, .ref x1) : TV), some ((44, .ref x2) : TV), some ((0, .int v8) : TV), some ((0, .int x4) : TV), some ((0, .int v4) : TV), some ((11, .ref h5) : TV), some ((0, .int v8) : TV)]) hc dL_code_172 rfl (by decide) rfl rfl ?_
      refine N_sub (l' := [some ((13, .ref x0) : TV), some ((13, .ref x1) : TV), some ((44, .ref x2) : TV), some ((0, .int v8) : TV), some ((0, .int x4) : TV), none, none, none]) ⟨rfl, ⟨rfl, ⟨rfl, ⟨rfl, ⟨rfl, trivial⟩⟩⟩⟩⟩ ?_
      exact qL_code_L173 hc he hk13 x0 x1 x2 v8 x4
    · refine N_iload (pc := 92) hc dL_code_92 rfl ?_
      refine N_istore_n (pc := 94) (l' := [some ((13, .ref x0) : TV), some ((13, .ref x1) : TV), some ((44, .ref x2) : TV), some ((0, .int v4) : TV), some ((0, .int x4) : TV), some ((0, .int v4) : TV), some ((11, .ref h5) : TV), none]) hc dL_code_94 rfl (by decide) rfl rfl ?_
      refine N_iload (pc := 95) hc dL_code_95 rfl ?_
      refine N_if_ne (pc := 97) (tgt := 104) hc dL_code_97 (by decide) ?_ ?_
      · refine N_iconst (pc := 104) (v := 0) hc dL_code_104 (by decide) ?_
        refine N_sub (l' := [some ((13, .ref x0) : TV), some ((13, .ref x1) : TV), some ((44, .ref x2) : TV), some ((0, .int v4) : TV), none, some ((0, .int v4) : TV), some ((11, .ref h5) : TV), none]) ⟨rfl, ⟨rfl, ⟨rfl, ⟨rfl, ⟨rfl, ⟨rfl, trivial⟩⟩⟩⟩⟩⟩ ?_
        exact qL_code_L105 hc he hk13 x0 x1 x2 v4 v4 h5 0
      · refine N_iconst (pc := 100) (v := 1) hc dL_code_100 (by decide) ?_
        refine N_goto (pc := 101) (tgt := 105) hc dL_code_101 (by decide) ?_
        refine N_sub (l' := [some ((13, .ref x0) : TV), some ((13, .ref x1) : TV), some ((44, .ref x2) : TV), some ((0, .int v4) : TV), none, some ((0, .int v4) : TV), some ((11, .ref h5) : TV), none]) ⟨rfl, ⟨rfl, ⟨rfl, ⟨rfl, ⟨rfl, ⟨rfl, trivial⟩⟩⟩⟩⟩⟩ ?_
        exact qL_code_L105 hc he hk13 x0 x1 x2 v4 v4 h5 1
  · refine N_aload (pc := 54) hc dL_code_54 rfl ?_
    refine N_iconst (pc := 56) (v := 1) hc dL_code_56 (by decide) ?_
    refine N_iald (pc := 57) hc dL_code_57 (fun v11 => ?_)
    refine N_istore_n (pc := 58) (l' := [some ((13, .ref x0) : TV), some ((13, .ref x1) : TV), some ((44, .ref x2) : TV), some ((0, .int v11) : TV), some ((0, .int x4) : TV), some ((0, .int v4) : TV), some ((11, .ref h5) : TV), none]) hc dL_code_58 rfl (by decide) rfl rfl ?_
    refine N_aload_n (pc := 59) hc dL_code_59 rfl rfl ?_
    refine N_new (pc := 60) hc clX8 dvX8 tw1125 tw1126 tw36 dL_code_60 (fun h12 => ?_)
    refine N_dup (pc := 63) hc dL_code_63 rfl ?_
    refine N_iconst (pc := 64) (v := 0) hc dL_code_64 (by decide) ?_
    refine N_iconst (pc := 65) (v := 0) hc dL_code_65 (by decide) ?_
    refine N_iconst (pc := 66) (v := 0) hc dL_code_66 (by decide) ?_
    refine N_iload_n (pc := 67) hc dL_code_67 rfl rfl ?_
    refine N_callI (pc := 68) hc (ci := 53) (As := [((0, .int 0) : TV), ((0, .int 0) : TV), ((0, .int 0) : TV), ((0, .int v11) : TV)]) (ZX8_init h12 0 0 0 v11) dL_code_68 mzX8_init rfl tw1127 tw1128 tw36 tw1129 rfl (Nat.le_of_ble_eq_true rfl) (Nat.le_of_ble_eq_true rfl) (Nat.le_of_ble_eq_true rfl) rfl (fun _ => ?_)
    show Jw κ (wM κ) 8 fin 71 [some ((13, .ref x0) : TV), some ((13, .ref x1) : TV), some ((44, .ref x2) : TV), some ((0, .int v11) : TV), some ((0, .int x4) : TV), some ((0, .int v4) : TV), some ((11, .ref h5) : TV), none] [((53, .ref h12) : TV), ((44, .ref x2) : TV)] _
    refine N_to16 (h := h12) [] (Or.inr (Or.inr rfl)) ?_
    refine N_callV (pc := 71) hc clJx4a65c (As := [((16, .ref h12) : TV)]) (ZJx4a65c_add_9ea2d x2 h12) dL_code_71 mzJx4a65c_add_9ea2d rfl tw1114 tw887 tw888 tw13 tw889 rfl (Nat.le_of_ble_eq_true rfl) (Nat.le_of_ble_eq_true rfl) (Nat.le_of_ble_eq_true rfl) rfl (fun v13 => ?_)
    show Jw κ (wM κ) 8 fin 74 [some ((13, .ref x0) : TV), some ((13, .ref x1) : TV), some ((44, .ref x2) : TV), some ((0, .int v11) : TV), some ((0, .int x4) : TV), some ((0, .int v4) : TV), some ((11, .ref h5) : TV), none] [((0, .int v13) : TV)] _
    refine N_pop (pc := 74) hc dL_code_74 rfl ?_
    refine N_goto (pc := 75) (tgt := 173) hc dL_code_75 (by decide) ?_
    refine N_sub (l' := [some ((13, .ref x0) : TV), some ((13, .ref x1) : TV), some ((44, .ref x2) : TV), some ((0, .int v11) : TV), some ((0, .int x4) : TV), none, none, none]) ⟨rfl, ⟨rfl, ⟨rfl, ⟨rfl, ⟨rfl, trivial⟩⟩⟩⟩⟩ ?_
    exact qL_code_L173 hc he hk13 x0 x1 x2 v11 x4
set_option maxRecDepth 100000 in
set_option maxHeartbeats 8000000 in
theorem qL_code_L13 {κ : Cx} {fin : Nat → Mm → Prop} {mc ms : Nat} (hc : Jc κ RL cL_code 8 9 mc ms 279) (he : EdW κ cL_code (tA 44) .areturn (fun _ => True) fin) : ∀ (n : Nat) (x0 : Nat) (x1 : Nat) (x2 : Nat) (x3 : Int32) (x4 : Int32), Jw κ (wM κ) 8 fin 13 [some ((13, .ref x0) : TV), some ((13, .ref x1) : TV), some ((44, .ref x2) : TV), some ((0, .int x3) : TV), some ((0, .int x4) : TV), none, none, none] [] (gL_code_L13 n x0 x1 x2 x3 x4) := by
  intro n
  induction n with
  | zero => intro x0 x1 x2 x3 x4; exact N_fail
  | succ n ih =>
    intro x0 x1 x2 x3 x4
    unfold gL_code_L13
    refine N_iload_n (pc := 13) hc dL_code_13 rfl rfl ?_
    refine N_aload_n (pc := 14) hc dL_code_14 rfl rfl ?_
    refine N_zlen (pc := 15) hc dL_code_15 (fun v14 => ?_)
    refine N_icmp_ge (pc := 16) (tgt := 176) hc dL_code_16 (by decide) ?_ ?_
    · refine N_aload_n (pc := 176) hc dL_code_176 rfl rfl ?_
      exact N_ret (pc := 177) he dL_code_177 trivial rfl
    · refine N_aload_n (pc := 19) hc dL_code_19 rfl rfl ?_
      refine N_iload_n (pc := 20) hc dL_code_20 rfl rfl ?_
      refine N_iload (pc := 21) hc dL_code_21 rfl ?_
      refine N_if_ne (pc := 23) (tgt := 30) hc dL_code_23 (by decide) ?_ ?_
      · refine N_iconst (pc := 30) (v := 0) hc dL_code_30 (by decide) ?_
        refine N_sub (l' := [some ((13, .ref x0) : TV), some ((13, .ref x1) : TV), some ((44, .ref x2) : TV), some ((0, .int x3) : TV), some ((0, .int x4) : TV), none, none, none]) ⟨rfl, ⟨rfl, ⟨rfl, ⟨rfl, ⟨rfl, trivial⟩⟩⟩⟩⟩ ?_
        exact qL_code_L31 hc he ih x0 x1 x2 x3 x4 0 x3 x1
      · refine N_iconst (pc := 26) (v := 1) hc dL_code_26 (by decide) ?_
        refine N_goto (pc := 27) (tgt := 31) hc dL_code_27 (by decide) ?_
        refine N_sub (l' := [some ((13, .ref x0) : TV), some ((13, .ref x1) : TV), some ((44, .ref x2) : TV), some ((0, .int x3) : TV), some ((0, .int x4) : TV), none, none, none]) ⟨rfl, ⟨rfl, ⟨rfl, ⟨rfl, ⟨rfl, trivial⟩⟩⟩⟩⟩ ?_
        exact qL_code_L31 hc he ih x0 x1 x2 x3 x4 1 x3 x1
set_option maxRecDepth 100000 in
set_option maxHeartbeats 8000000 in
theorem qL_code {κ : Cx} {fin : Nat → Mm → Prop} {mc ms : Nat} (hc : Jc κ RL cL_code 8 9 mc ms 279) (he : EdW κ cL_code (tA 44) .areturn (fun _ => True) fin) (x0 : Nat) (x1 : Nat) : Jw κ (wM κ) 8 fin 0 [some ((13, .ref x0) : TV), some ((13, .ref x1) : TV), none, none, none, none, none, none] [] (gL_code x0 x1) := by
  unfold gL_code
  refine N_new (pc := 0) hc clJx4a65c dvJx4a65c tw1083 tw741 tw13 dL_code_0 (fun h15 => ?_)
  refine N_dup (pc := 3) hc dL_code_3 rfl ?_
  refine N_callI (pc := 4) hc (ci := 44) (As := []) (ZJx4a65c_init_da8c8 h15) dL_code_4 mzJx4a65c_init_da8c8 rfl tw1084 tw743 tw13 tw744 rfl (Nat.le_of_ble_eq_true rfl) (Nat.le_of_ble_eq_true rfl) (Nat.le_of_ble_eq_true rfl) rfl (fun _ => ?_)
  show Jw κ (wM κ) 8 fin 7 [some ((13, .ref x0) : TV), some ((13, .ref x1) : TV), none, none, none, none, none, none] [((44, .ref h15) : TV)] _
  refine N_astore_n (pc := 7) (l' := [some ((13, .ref x0) : TV), some ((13, .ref x1) : TV), some ((44, .ref h15) : TV), none, none, none, none, none]) hc dL_code_7 rfl (by decide) rfl rfl ?_
  refine N_iconst (pc := 8) (v := (-1)) hc dL_code_8 (by decide) ?_
  refine N_istore_n (pc := 9) (l' := [some ((13, .ref x0) : TV), some ((13, .ref x1) : TV), some ((44, .ref h15) : TV), some ((0, .int (-1)) : TV), none, none, none, none]) hc dL_code_9 rfl (by decide) rfl rfl ?_
  refine N_iconst (pc := 10) (v := 0) hc dL_code_10 (by decide) ?_
  refine N_istore (pc := 11) (l' := [some ((13, .ref x0) : TV), some ((13, .ref x1) : TV), some ((44, .ref h15) : TV), some ((0, .int (-1)) : TV), some ((0, .int 0) : TV), none, none, none]) hc dL_code_11 (by decide) rfl rfl ?_
  refine N_sub (l' := [some ((13, .ref x0) : TV), some ((13, .ref x1) : TV), some ((44, .ref h15) : TV), some ((0, .int (-1)) : TV), some ((0, .int 0) : TV), none, none, none]) ⟨rfl, ⟨rfl, ⟨rfl, ⟨rfl, ⟨rfl, trivial⟩⟩⟩⟩⟩ ?_
  exact qL_code_L13 hc he fu x0 x1 h15 (-1) 0
theorem mzL_code : MOk yL_code 2 := ⟨by decide +kernel, by decide +kernel, by decide +kernel⟩
set_option maxRecDepth 100000 in
set_option maxHeartbeats 8000000 in
theorem ZL_code (x0 : Nat) (x1 : Nat) : Cw (tA 44) yL_code cL_code 8 (some (.object "java/util/ArrayList")) 9 279 [((13, .ref x0) : TV), ((13, .ref x1) : TV)] (gL_code x0 x1) :=
  Cw_A (Or.inl ⟨_, rfl⟩) (j := 6) (by decide +kernel) rfl rfl (Nat.le_of_ble_eq_true rfl) (fun κ fin mc ms hc he => qL_code hc he x0 x1)
set_option maxRecDepth 100000 in
set_option maxHeartbeats 8000000 in
theorem qX9_codeOf {κ : Cx} {fin : Nat → Mm → Prop} {mc ms : Nat} (hc : Jc κ RX9 cX9_codeOf 2 10 mc ms 306) (he : EdW κ cX9_codeOf (tA 44) .areturn (fun _ => True) fin) (x0 : Nat) (x1 : Int32) : Jw κ (wM κ) 2 fin 0 [some ((54, .ref x0) : TV), some ((0, .int x1) : TV)] [] (gX9_codeOf x0 x1) := by
  unfold gX9_codeOf
  refine N_aload_n (pc := 0) hc dX9_codeOf_0 rfl rfl ?_
  refine N_aload_n (pc := 1) hc dX9_codeOf_1 rfl rfl ?_
  refine N_getA (pc := 2) hc clX9 (k := 3) (kd := 44) (Nat.le_of_ble_eq_true rfl) rfl (Nat.le_of_ble_eq_true rfl) tw775 (Or.inl rfl) dX9_codeOf_2 (fun v1 => ?_)
  refine N_iload_n (pc := 5) hc dX9_codeOf_5 rfl rfl ?_
  refine N_callV (pc := 6) hc clX9 (As := [((44, .ref v1) : TV), ((0, .int x1) : TV)]) (ZX9_above x0 v1 x1) dX9_codeOf_6 mzX9_above rfl tw1075 tw1076 tw1077 tw10 tw1078 rfl (Nat.le_of_ble_eq_true rfl) (Nat.le_of_ble_eq_true rfl) (Nat.le_of_ble_eq_true rfl) rfl (fun h2 => ?_)
  show Jw κ (wM κ) 2 fin 9 [some ((54, .ref x0) : TV), some ((0, .int x1) : TV)] [((13, .ref h2) : TV)] _
  refine N_aload_n (pc := 9) hc dX9_codeOf_9 rfl rfl ?_
  refine N_getA (pc := 10) hc clX9 (k := 3) (kd := 44) (Nat.le_of_ble_eq_true rfl) rfl (Nat.le_of_ble_eq_true rfl) tw775 (Or.inl rfl) dX9_codeOf_10 (fun v3 => ?_)
  refine N_iload_n (pc := 13) hc dX9_codeOf_13 rfl rfl ?_
  refine N_callV (pc := 14) hc clJx4a65c (As := [((0, .int x1) : TV)]) (ZJx4a65c_get_915e3 v3 x1) dX9_codeOf_14 mzJx4a65c_get_915e3 rfl tw1079 tw1059 tw1060 tw13 tw1061 rfl (Nat.le_of_ble_eq_true rfl) (Nat.le_of_ble_eq_true rfl) (Nat.le_of_ble_eq_true rfl) rfl (fun h4 => ?_)
  show Jw κ (wM κ) 2 fin 17 [some ((54, .ref x0) : TV), some ((0, .int x1) : TV)] [((16, .ref h4) : TV), ((13, .ref h2) : TV)] _
  refine N_castZ (pc := 17) hc tw881 dX9_codeOf_17 ?_
  refine N_callSN (pc := 20) hc (As := [((13, .ref h2) : TV), ((13, .ref h4) : TV)]) (hst1 := "DotRunsLaw") (ZL_code h2 h4) dX9_codeOf_20 mzL_code (by decide +kernel) tw1081 tw0 tw1082 rfl (Nat.le_of_ble_eq_true rfl) (Nat.le_of_ble_eq_true rfl) (Nat.le_of_ble_eq_true rfl) rfl (fun h5 => ?_)
  show Jw κ (wM κ) 2 fin 23 [some ((54, .ref x0) : TV), some ((0, .int x1) : TV)] [((44, .ref h5) : TV)] _
  exact N_ret (pc := 23) he dX9_codeOf_23 trivial rfl
theorem mzX9_codeOf : MOk yX9_codeOf 1 := ⟨by decide +kernel, by decide +kernel, by decide +kernel⟩
set_option maxRecDepth 100000 in
set_option maxHeartbeats 8000000 in
theorem ZX9_codeOf (x0 : Nat) (x1 : Int32) : Cw (tA 44) yX9_codeOf cX9_codeOf 2 (some (.object "java/util/ArrayList")) 10 306 [((54, .ref x0) : TV), ((0, .int x1) : TV)] (gX9_codeOf x0 x1) :=
  Cw_A (Or.inl ⟨_, rfl⟩) (j := 0) (by decide +kernel) rfl rfl (Nat.le_of_ble_eq_true rfl) (fun κ fin mc ms hc he => qX9_codeOf hc he x0 x1)
set_option maxRecDepth 100000 in
set_option maxHeartbeats 8000000 in
theorem qL_alone_L18 {κ : Cx} {fin : Nat → Mm → Prop} {mc ms : Nat} (hc : Jc κ RL cL_alone 5 8 mc ms 254) (he : EdW κ cL_alone (tA 44) .areturn (fun _ => True) fin) : ∀ (n : Nat) (x0 : Nat) (x1 : Nat) (x2 : Int32) (x3 : Nat), Jw κ (wM κ) 5 fin 18 [some ((13, .ref x0) : TV), some ((44, .ref x1) : TV), some ((0, .int x2) : TV), some ((43, .ref x3) : TV), none] [] (gL_alone_L18 n x0 x1 x2 x3) := by
  intro n
  induction n with
  | zero => intro x0 x1 x2 x3; exact N_fail
  | succ n ih =>
    intro x0 x1 x2 x3
    unfold gL_alone_L18
    refine N_aload_n (pc := 18) hc dL_alone_18 rfl rfl ?_
    refine N_callF (pc := 19) hc clJx35411 (y := yJx35411_hasNext_aae02) (x := ⟨"java/util/Iterator", "hasNext", "()Z"⟩) (As := []) (ZJx35411_hasNext_aae02 x3) dL_alone_19 (n := 0) ⟨by decide +kernel, by decide +kernel, by decide +kernel⟩ tw840 rfl (by decide) ⟨by decide +kernel, by decide +kernel⟩ (tw_F tw1117 tw863 tw865 tw35 tw867) rfl (Nat.le_of_ble_eq_true rfl) (Nat.le_of_ble_eq_true rfl) (Nat.le_of_ble_eq_true rfl) rfl (fun v1 => ?_)
    show Jw κ (wM κ) 5 fin 24 [some ((13, .ref x0) : TV), some ((44, .ref x1) : TV), some ((0, .int x2) : TV), some ((43, .ref x3) : TV), none] [((0, .int v1) : TV)] _
    refine N_if_eq (pc := 24) (tgt := 59) hc dL_alone_24 (by decide) ?_ ?_
    · refine N_aload_n (pc := 59) hc dL_alone_59 rfl rfl ?_
      refine N_aload_n (pc := 60) hc dL_alone_60 rfl rfl ?_
      refine N_zlen (pc := 61) hc dL_alone_61 (fun v2 => ?_)
      refine N_iload_n (pc := 62) hc dL_alone_62 rfl rfl ?_
      refine N_isub (pc := 63) hc dL_alone_63 ?_
      refine N_callS (pc := 64) hc (As := [((0, .int (v2 - x2)) : TV)]) (ZJ6_valueOf_2dffe (v2 - x2)) dL_alone_64 mzJ6_valueOf_2dffe tw1094 tw1095 tw25 tw1096 rfl (Nat.le_of_ble_eq_true rfl) (Nat.le_of_ble_eq_true rfl) (Nat.le_of_ble_eq_true rfl) rfl (fun h3 => ?_)
      show Jw κ (wM κ) 5 fin 67 [some ((13, .ref x0) : TV), some ((44, .ref x1) : TV), some ((0, .int x2) : TV), some ((43, .ref x3) : TV), none] [((28, .ref h3) : TV), ((44, .ref x1) : TV)] _
      refine N_to16 (h := h3) [] (Or.inr (Or.inl rfl)) ?_
      refine N_callV (pc := 67) hc clJx4a65c (As := [((16, .ref h3) : TV)]) (ZJx4a65c_add_9ea2d x1 h3) dL_alone_67 mzJx4a65c_add_9ea2d rfl tw1114 tw887 tw888 tw13 tw889 rfl (Nat.le_of_ble_eq_true rfl) (Nat.le_of_ble_eq_true rfl) (Nat.le_of_ble_eq_true rfl) rfl (fun v4 => ?_)
      show Jw κ (wM κ) 5 fin 70 [some ((13, .ref x0) : TV), some ((44, .ref x1) : TV), some ((0, .int x2) : TV), some ((43, .ref x3) : TV), none] [((0, .int v4) : TV)] _
      refine N_pop (pc := 70) hc dL_alone_70 rfl ?_
      refine N_aload_n (pc := 71) hc dL_alone_71 rfl rfl ?_
      exact N_ret (pc := 72) he dL_alone_72 trivial rfl
    · refine N_aload_n (pc := 27) hc dL_alone_27 rfl rfl ?_
      refine N_callF (pc := 28) hc clJx35411 (y := yJx35411_next_0502b) (x := ⟨"java/util/Iterator", "next", "()Ljava/lang/Object;"⟩) (As := []) (ZJx35411_next_0502b x3) dL_alone_28 (n := 0) ⟨by decide +kernel, by decide +kernel, by decide +kernel⟩ tw840 rfl (by decide) ⟨by decide +kernel, by decide +kernel⟩ (tw_F tw1119 tw872 tw874 tw35 tw876) rfl (Nat.le_of_ble_eq_true rfl) (Nat.le_of_ble_eq_true rfl) (Nat.le_of_ble_eq_true rfl) rfl (fun h5 => ?_)
      show Jw κ (wM κ) 5 fin 33 [some ((13, .ref x0) : TV), some ((44, .ref x1) : TV), some ((0, .int x2) : TV), some ((43, .ref x3) : TV), none] [((16, .ref h5) : TV)] _
      refine N_castI (pc := 33) hc tw1120 tw1102 dL_alone_33 ?_
      refine N_callBV (pc := 36) hc (As := []) (ZJ6_intValue_8abf5 h5) dL_alone_36 mzJ6_intValue_8abf5 rfl tw1121 tw1122 tw1123 tw25 tw1124 rfl (Nat.le_of_ble_eq_true rfl) (Nat.le_of_ble_eq_true rfl) (Nat.le_of_ble_eq_true rfl) rfl (fun v6 => ?_)
      show Jw κ (wM κ) 5 fin 39 [some ((13, .ref x0) : TV), some ((44, .ref x1) : TV), some ((0, .int x2) : TV), some ((43, .ref x3) : TV), none] [((0, .int v6) : TV)] _
      refine N_istore (pc := 39) (l' := [some ((13, .ref x0) : TV), some ((44, .ref x1) : TV), some ((0, .int x2) : TV), some ((43, .ref x3) : TV), some ((0, .int v6) : TV)]) hc dL_alone_39 (by decide) rfl rfl ?_
      refine N_aload_n (pc := 41) hc dL_alone_41 rfl rfl ?_
      refine N_iload (pc := 42) hc dL_alone_42 rfl ?_
      refine N_iload_n (pc := 44) hc dL_alone_44 rfl rfl ?_
      refine N_isub (pc := 45) hc dL_alone_45 ?_
      refine N_callS (pc := 46) hc (As := [((0, .int (v6 - x2)) : TV)]) (ZJ6_valueOf_2dffe (v6 - x2)) dL_alone_46 mzJ6_valueOf_2dffe tw1094 tw1095 tw25 tw1096 rfl (Nat.le_of_ble_eq_true rfl) (Nat.le_of_ble_eq_true rfl) (Nat.le_of_ble_eq_true rfl) rfl (fun h7 => ?_)
      show Jw κ (wM κ) 5 fin 49 [some ((13, .ref x0) : TV), some ((44, .ref x1) : TV), some ((0, .int x2) : TV), some ((43, .ref x3) : TV), some ((0, .int v6) : TV)] [((28, .ref h7) : TV), ((44, .ref x1) : TV)] _
      refine N_to16 (h := h7) [] (Or.inr (Or.inl rfl)) ?_
      refine N_callV (pc := 49) hc clJx4a65c (As := [((16, .ref h7) : TV)]) (ZJx4a65c_add_9ea2d x1 h7) dL_alone_49 mzJx4a65c_add_9ea2d rfl tw1114 tw887 tw888 tw13 tw889 rfl (Nat.le_of_ble_eq_true rfl) (Nat.le_of_ble_eq_true rfl) (Nat.le_of_ble_eq_true rfl) rfl (fun v8 => ?_)
      show Jw κ (wM κ) 5 fin 52 [some ((13, .ref x0) : TV), some ((44, .ref x1) : TV), some ((0, .int x2) : TV), some ((43, .ref x3) : TV), some ((0, .int v6) : TV)] [((0, .int v8) : TV)] _
      refine N_pop (pc := 52) hc dL_alone_52 rfl ?_
      refine N_iload (pc := 53) hc dL_alone_53 rfl ?_
      refine N_istore_n (pc := 55) (l' := [some ((13, .ref x0) : TV), some ((44, .ref x1) : TV), some ((0, .int v6) : TV), some ((43, .ref x3) : TV), some ((0, .int v6) : TV)]) hc dL_alone_55 rfl (by decide) rfl rfl ?_
      refine N_goto (pc := 56) (tgt := 18) hc dL_alone_56 (by decide) ?_
      refine N_sub (l' := [some ((13, .ref x0) : TV), some ((44, .ref x1) : TV), some ((0, .int v6) : TV), some ((43, .ref x3) : TV), none]) ⟨rfl, ⟨rfl, ⟨rfl, ⟨rfl, trivial⟩⟩⟩⟩ ?_
      exact ih x0 x1 v6 x3
set_option maxRecDepth 100000 in
set_option maxHeartbeats 8000000 in
theorem qL_alone {κ : Cx} {fin : Nat → Mm → Prop} {mc ms : Nat} (hc : Jc κ RL cL_alone 5 8 mc ms 254) (he : EdW κ cL_alone (tA 44) .areturn (fun _ => True) fin) (x0 : Nat) : Jw κ (wM κ) 5 fin 0 [some ((13, .ref x0) : TV), none, none, none, none] [] (gL_alone x0) := by
  unfold gL_alone
  refine N_new (pc := 0) hc clJx4a65c dvJx4a65c tw1083 tw741 tw13 dL_alone_0 (fun h9 => ?_)
  refine N_dup (pc := 3) hc dL_alone_3 rfl ?_
  refine N_callI (pc := 4) hc (ci := 44) (As := []) (ZJx4a65c_init_da8c8 h9) dL_alone_4 mzJx4a65c_init_da8c8 rfl tw1084 tw743 tw13 tw744 rfl (Nat.le_of_ble_eq_true rfl) (Nat.le_of_ble_eq_true rfl) (Nat.le_of_ble_eq_true rfl) rfl (fun _ => ?_)
  show Jw κ (wM κ) 5 fin 7 [some ((13, .ref x0) : TV), none, none, none, none] [((44, .ref h9) : TV)] _
  refine N_astore_n (pc := 7) (l' := [some ((13, .ref x0) : TV), some ((44, .ref h9) : TV), none, none, none]) hc dL_alone_7 rfl (by decide) rfl rfl ?_
  refine N_iconst (pc := 8) (v := 0) hc dL_alone_8 (by decide) ?_
  refine N_istore_n (pc := 9) (l' := [some ((13, .ref x0) : TV), some ((44, .ref h9) : TV), some ((0, .int 0) : TV), none, none]) hc dL_alone_9 rfl (by decide) rfl rfl ?_
  refine N_aload_n (pc := 10) hc dL_alone_10 rfl rfl ?_
  refine N_callS (pc := 11) hc (As := [((13, .ref x0) : TV)]) (ZL_changes x0) dL_alone_11 mzL_changes tw1091 tw1092 tw0 tw1093 rfl (Nat.le_of_ble_eq_true rfl) (Nat.le_of_ble_eq_true rfl) (Nat.le_of_ble_eq_true rfl) rfl (fun h10 => ?_)
  show Jw κ (wM κ) 5 fin 14 [some ((13, .ref x0) : TV), some ((44, .ref h9) : TV), some ((0, .int 0) : TV), none, none] [((44, .ref h10) : TV)] _
  refine N_callV (pc := 14) hc clJx4a65c (As := []) (ZJx4a65c_iterator_32c93 h10) dL_alone_14 mzJx4a65c_iterator_32c93 rfl tw1115 tw836 tw837 tw13 tw838 rfl (Nat.le_of_ble_eq_true rfl) (Nat.le_of_ble_eq_true rfl) (Nat.le_of_ble_eq_true rfl) rfl (fun h11 => ?_)
  show Jw κ (wM κ) 5 fin 17 [some ((13, .ref x0) : TV), some ((44, .ref h9) : TV), some ((0, .int 0) : TV), none, none] [((43, .ref h11) : TV)] _
  refine N_astore_n (pc := 17) (l' := [some ((13, .ref x0) : TV), some ((44, .ref h9) : TV), some ((0, .int 0) : TV), some ((43, .ref h11) : TV), none]) hc dL_alone_17 rfl (by decide) rfl rfl ?_
  refine N_sub (l' := [some ((13, .ref x0) : TV), some ((44, .ref h9) : TV), some ((0, .int 0) : TV), some ((43, .ref h11) : TV), none]) ⟨rfl, ⟨rfl, ⟨rfl, ⟨rfl, trivial⟩⟩⟩⟩ ?_
  exact qL_alone_L18 hc he fu x0 h9 0 h11
theorem mzL_alone : MOk yL_alone 1 := ⟨by decide +kernel, by decide +kernel, by decide +kernel⟩
set_option maxRecDepth 100000 in
set_option maxHeartbeats 8000000 in
theorem ZL_alone (x0 : Nat) : Cw (tA 44) yL_alone cL_alone 5 (some (.object "java/util/ArrayList")) 8 254 [((13, .ref x0) : TV)] (gL_alone x0) :=
  Cw_A (Or.inl ⟨_, rfl⟩) (j := 4) (by decide +kernel) rfl rfl (Nat.le_of_ble_eq_true rfl) (fun κ fin mc ms hc he => qL_alone hc he x0)
set_option maxRecDepth 100000 in
set_option maxHeartbeats 8000000 in
theorem qL_bitsOf {κ : Cx} {fin : Int32 → Mm → Prop} {mc ms : Nat} (hc : Jc κ RL cL_bitsOf 1 1 mc ms 100) (he : EdW κ cL_bitsOf tI .ireturn (fun _ => True) fin) (x0 : Int32) : Jw κ (wM κ) 1 fin 0 [some ((0, .int x0) : TV)] [] (gL_bitsOf x0) := by
  unfold gL_bitsOf
  refine N_iload_n (pc := 0) hc dL_bitsOf_0 rfl rfl ?_
  refine N_bipush (pc := 1) (v := 8) hc dL_bitsOf_1 (by decide) ?_
  refine N_icmp_ge (pc := 3) (tgt := 10) hc dL_bitsOf_3 (by decide) ?_ ?_
  · refine N_bipush (pc := 10) (v := 8) hc dL_bitsOf_10 (by decide) ?_
    exact N_ret (pc := 12) he dL_bitsOf_12 trivial rfl
  · refine N_iconst (pc := 6) (v := 4) hc dL_bitsOf_6 (by decide) ?_
    refine N_goto (pc := 7) (tgt := 12) hc dL_bitsOf_7 (by decide) ?_
    exact N_ret (pc := 12) he dL_bitsOf_12 trivial rfl
theorem mzL_bitsOf : MOk yL_bitsOf 1 := ⟨by decide +kernel, by decide +kernel, by decide +kernel⟩
set_option maxRecDepth 100000 in
set_option maxHeartbeats 8000000 in
theorem ZL_bitsOf (x0 : Int32) : Cw tI yL_bitsOf cL_bitsOf 1 (some .int) 1 100 [((0, .int x0) : TV)] (gL_bitsOf x0) :=
  Cw_I (j := 0) (by decide +kernel) rfl rfl (Nat.le_of_ble_eq_true rfl) (fun κ fin mc ms hc he => qL_bitsOf hc he x0)
set_option maxRecDepth 100000 in
set_option maxHeartbeats 8000000 in
theorem qL_bits_L7 {κ : Cx} {fin : Int32 → Mm → Prop} {mc ms : Nat} (hc : Jc κ RL cL_bits 4 3 mc ms 142) (he : EdW κ cL_bits tI .ireturn (fun _ => True) fin) : ∀ (n : Nat) (x1 : Int32) (x2 : Nat), Jw κ (wM κ) 4 fin 7 [none, some ((0, .int x1) : TV), some ((43, .ref x2) : TV), none] [] (gL_bits_L7 n x1 x2) := by
  intro n
  induction n with
  | zero => intro x1 x2; exact N_fail
  | succ n ih =>
    intro x1 x2
    unfold gL_bits_L7
    refine N_aload_n (pc := 7) hc dL_bits_7 rfl rfl ?_
    refine N_callF (pc := 8) hc clJx35411 (y := yJx35411_hasNext_aae02) (x := ⟨"java/util/Iterator", "hasNext", "()Z"⟩) (As := []) (ZJx35411_hasNext_aae02 x2) dL_bits_8 (n := 0) ⟨by decide +kernel, by decide +kernel, by decide +kernel⟩ tw840 rfl (by decide) ⟨by decide +kernel, by decide +kernel⟩ (tw_F tw1117 tw863 tw865 tw35 tw867) rfl (Nat.le_of_ble_eq_true rfl) (Nat.le_of_ble_eq_true rfl) (Nat.le_of_ble_eq_true rfl) rfl (fun v1 => ?_)
    show Jw κ (wM κ) 4 fin 13 [none, some ((0, .int x1) : TV), some ((43, .ref x2) : TV), none] [((0, .int v1) : TV)] _
    refine N_if_eq (pc := 13) (tgt := 39) hc dL_bits_13 (by decide) ?_ ?_
    · refine N_iload_n (pc := 39) hc dL_bits_39 rfl rfl ?_
      exact N_ret (pc := 40) he dL_bits_40 trivial rfl
    · refine N_aload_n (pc := 16) hc dL_bits_16 rfl rfl ?_
      refine N_callF (pc := 17) hc clJx35411 (y := yJx35411_next_0502b) (x := ⟨"java/util/Iterator", "next", "()Ljava/lang/Object;"⟩) (As := []) (ZJx35411_next_0502b x2) dL_bits_17 (n := 0) ⟨by decide +kernel, by decide +kernel, by decide +kernel⟩ tw840 rfl (by decide) ⟨by decide +kernel, by decide +kernel⟩ (tw_F tw1119 tw872 tw874 tw35 tw876) rfl (Nat.le_of_ble_eq_true rfl) (Nat.le_of_ble_eq_true rfl) (Nat.le_of_ble_eq_true rfl) rfl (fun h2 => ?_)
      show Jw κ (wM κ) 4 fin 22 [none, some ((0, .int x1) : TV), some ((43, .ref x2) : TV), none] [((16, .ref h2) : TV)] _
      refine N_castI (pc := 22) hc tw1120 tw1102 dL_bits_22 ?_
      refine N_callBV (pc := 25) hc (As := []) (ZJ6_intValue_8abf5 h2) dL_bits_25 mzJ6_intValue_8abf5 rfl tw1121 tw1122 tw1123 tw25 tw1124 rfl (Nat.le_of_ble_eq_true rfl) (Nat.le_of_ble_eq_true rfl) (Nat.le_of_ble_eq_true rfl) rfl (fun v3 => ?_)
      show Jw κ (wM κ) 4 fin 28 [none, some ((0, .int x1) : TV), some ((43, .ref x2) : TV), none] [((0, .int v3) : TV)] _
      refine N_istore_n (pc := 28) (l' := [none, some ((0, .int x1) : TV), some ((43, .ref x2) : TV), some ((0, .int v3) : TV)]) hc dL_bits_28 rfl (by decide) rfl rfl ?_
      refine N_iload_n (pc := 29) hc dL_bits_29 rfl rfl ?_
      refine N_iload_n (pc := 30) hc dL_bits_30 rfl rfl ?_
      refine N_callS (pc := 31) hc (As := [((0, .int v3) : TV)]) (ZL_bitsOf v3) dL_bits_31 mzL_bitsOf tw1173 tw1174 tw0 tw1175 rfl (Nat.le_of_ble_eq_true rfl) (Nat.le_of_ble_eq_true rfl) (Nat.le_of_ble_eq_true rfl) rfl (fun v4 => ?_)
      show Jw κ (wM κ) 4 fin 34 [none, some ((0, .int x1) : TV), some ((43, .ref x2) : TV), some ((0, .int v3) : TV)] [((0, .int v4) : TV), ((0, .int x1) : TV)] _
      refine N_iadd (pc := 34) hc dL_bits_34 ?_
      refine N_nmi (fun v5 => ?_)
      refine N_istore_n (pc := 35) (l' := [none, some ((0, .int v5) : TV), some ((43, .ref x2) : TV), some ((0, .int v3) : TV)]) hc dL_bits_35 rfl (by decide) rfl rfl ?_
      refine N_goto (pc := 36) (tgt := 7) hc dL_bits_36 (by decide) ?_
      refine N_sub (l' := [none, some ((0, .int v5) : TV), some ((43, .ref x2) : TV), none]) ⟨rfl, ⟨rfl, trivial⟩⟩ ?_
      exact ih v5 x2
set_option maxRecDepth 100000 in
set_option maxHeartbeats 8000000 in
theorem qL_bits {κ : Cx} {fin : Int32 → Mm → Prop} {mc ms : Nat} (hc : Jc κ RL cL_bits 4 3 mc ms 142) (he : EdW κ cL_bits tI .ireturn (fun _ => True) fin) (x0 : Nat) : Jw κ (wM κ) 4 fin 0 [some ((44, .ref x0) : TV), none, none, none] [] (gL_bits x0) := by
  unfold gL_bits
  refine N_iconst (pc := 0) (v := 0) hc dL_bits_0 (by decide) ?_
  refine N_istore_n (pc := 1) (l' := [some ((44, .ref x0) : TV), some ((0, .int 0) : TV), none, none]) hc dL_bits_1 rfl (by decide) rfl rfl ?_
  refine N_aload_n (pc := 2) hc dL_bits_2 rfl rfl ?_
  refine N_callV (pc := 3) hc clJx4a65c (As := []) (ZJx4a65c_iterator_32c93 x0) dL_bits_3 mzJx4a65c_iterator_32c93 rfl tw1115 tw836 tw837 tw13 tw838 rfl (Nat.le_of_ble_eq_true rfl) (Nat.le_of_ble_eq_true rfl) (Nat.le_of_ble_eq_true rfl) rfl (fun h6 => ?_)
  show Jw κ (wM κ) 4 fin 6 [some ((44, .ref x0) : TV), some ((0, .int 0) : TV), none, none] [((43, .ref h6) : TV)] _
  refine N_astore_n (pc := 6) (l' := [some ((44, .ref x0) : TV), some ((0, .int 0) : TV), some ((43, .ref h6) : TV), none]) hc dL_bits_6 rfl (by decide) rfl rfl ?_
  refine N_sub (l' := [none, some ((0, .int 0) : TV), some ((43, .ref h6) : TV), none]) ⟨rfl, ⟨rfl, trivial⟩⟩ ?_
  exact qL_bits_L7 hc he fu 0 h6
theorem mzL_bits : MOk yL_bits 1 := ⟨by decide +kernel, by decide +kernel, by decide +kernel⟩
set_option maxRecDepth 100000 in
set_option maxHeartbeats 8000000 in
theorem ZL_bits (x0 : Nat) : Cw tI yL_bits cL_bits 4 (some .int) 3 142 [((44, .ref x0) : TV)] (gL_bits x0) :=
  Cw_I (j := 3) (by decide +kernel) rfl rfl (Nat.le_of_ble_eq_true rfl) (fun κ fin mc ms hc he => qL_bits hc he x0)
set_option maxRecDepth 100000 in
set_option maxHeartbeats 8000000 in
theorem qX8_bits {κ : Cx} {fin : Int32 → Mm → Prop} {mc ms : Nat} (hc : Jc κ RX8 cX8_bits 1 2 mc ms 120) (he : EdW κ cX8_bits tI .ireturn (fun _ => True) fin) (x0 : Nat) : Jw κ (wM κ) 1 fin 0 [some ((53, .ref x0) : TV)] [] (gX8_bits x0) := by
  unfold gX8_bits
  refine N_aload_n (pc := 0) hc dX8_bits_0 rfl rfl ?_
  refine N_getI (pc := 1) hc clX8 (k := 0) (Nat.le_of_ble_eq_true rfl) rfl tw1131 (Or.inl rfl) dX8_bits_1 (fun v1 => ?_)
  refine N_if_ne (pc := 4) (tgt := 9) hc dX8_bits_4 (by decide) ?_ ?_
  · refine N_aload_n (pc := 9) hc dX8_bits_9 rfl rfl ?_
    refine N_getI (pc := 10) hc clX8 (k := 0) (Nat.le_of_ble_eq_true rfl) rfl tw1131 (Or.inl rfl) dX8_bits_10 (fun v2 => ?_)
    refine N_iconst (pc := 13) (v := 2) hc dX8_bits_13 (by decide) ?_
    refine N_icmp_ne (pc := 14) (tgt := 35) hc dX8_bits_14 (by decide) ?_ ?_
    · refine N_aload_n (pc := 35) hc dX8_bits_35 rfl rfl ?_
      refine N_getI (pc := 36) hc clX8 (k := 1) (Nat.le_of_ble_eq_true rfl) rfl tw1133 (Or.inl rfl) dX8_bits_36 (fun v3 => ?_)
      refine N_mabs (pc := 39) hc dX8_bits_39 tw1185 tw1030 tw19 tw1031 (Nat.le_of_ble_eq_true rfl) (Nat.le_of_ble_eq_true rfl) (Nat.le_of_ble_eq_true rfl) ?_
      refine N_swc (pc := 42) (v := 0) (tgt := 68) hc dX8_bits_42 (by decide) (by decide) rfl (by decide) (by decide) ?_ (fun h42_0 => ?_)
      · refine N_iconst (pc := 68) (v := 1) hc dX8_bits_68 (by decide) ?_
        refine N_goto (pc := 69) (tgt := 83) hc dX8_bits_69 (by decide) ?_
        exact N_ret (pc := 83) he dX8_bits_83 trivial rfl
      refine N_swc (pc := 42) (v := 1) (tgt := 72) hc dX8_bits_42 (by decide) (by decide) rfl (by decide) (by decide) ?_ (fun h42_1 => ?_)
      · refine N_iconst (pc := 72) (v := 3) hc dX8_bits_72 (by decide) ?_
        refine N_goto (pc := 73) (tgt := 83) hc dX8_bits_73 (by decide) ?_
        exact N_ret (pc := 83) he dX8_bits_83 trivial rfl
      refine N_swc (pc := 42) (v := 2) (tgt := 76) hc dX8_bits_42 (by decide) (by decide) rfl (by decide) (by decide) ?_ (fun h42_2 => ?_)
      · refine N_bipush (pc := 76) (v := 6) hc dX8_bits_76 (by decide) ?_
        refine N_goto (pc := 78) (tgt := 83) hc dX8_bits_78 (by decide) ?_
        exact N_ret (pc := 83) he dX8_bits_83 trivial rfl
      refine N_swd (pc := 42) (tgt := 81) hc dX8_bits_42 (by omega) (by decide) ?_
      · refine N_bipush (pc := 81) (v := 7) hc dX8_bits_81 (by decide) ?_
        exact N_ret (pc := 83) he dX8_bits_83 trivial rfl
    · refine N_iconst (pc := 17) (v := 3) hc dX8_bits_17 (by decide) ?_
      refine N_aload_n (pc := 18) hc dX8_bits_18 rfl rfl ?_
      refine N_getI (pc := 19) hc clX8 (k := 1) (Nat.le_of_ble_eq_true rfl) rfl tw1133 (Or.inl rfl) dX8_bits_19 (fun v4 => ?_)
      refine N_callSN (pc := 22) hc (As := [((0, .int v4) : TV)]) (hst1 := "DotRunsLaw") (ZL_bitsOf v4) dX8_bits_22 mzL_bitsOf (by decide +kernel) tw1174 tw0 tw1175 rfl (Nat.le_of_ble_eq_true rfl) (Nat.le_of_ble_eq_true rfl) (Nat.le_of_ble_eq_true rfl) rfl (fun v5 => ?_)
      show Jw κ (wM κ) 1 fin 25 [some ((53, .ref x0) : TV)] [((0, .int v5) : TV), ((0, .int 3) : TV)] _
      refine N_iadd (pc := 25) hc dX8_bits_25 ?_
      refine N_aload_n (pc := 26) hc dX8_bits_26 rfl rfl ?_
      refine N_getI (pc := 27) hc clX8 (k := 2) (Nat.le_of_ble_eq_true rfl) rfl tw1135 (Or.inl rfl) dX8_bits_27 (fun v6 => ?_)
      refine N_callSN (pc := 30) hc (As := [((0, .int v6) : TV)]) (hst1 := "DotRunsLaw") (ZL_bitsOf v6) dX8_bits_30 mzL_bitsOf (by decide +kernel) tw1174 tw0 tw1175 rfl (Nat.le_of_ble_eq_true rfl) (Nat.le_of_ble_eq_true rfl) (Nat.le_of_ble_eq_true rfl) rfl (fun v7 => ?_)
      show Jw κ (wM κ) 1 fin 33 [some ((53, .ref x0) : TV)] [((0, .int v7) : TV), ((0, .int (3 + v5)) : TV)] _
      refine N_iadd (pc := 33) hc dX8_bits_33 ?_
      exact N_ret (pc := 34) he dX8_bits_34 trivial rfl
  · refine N_iconst (pc := 7) (v := 4) hc dX8_bits_7 (by decide) ?_
    exact N_ret (pc := 8) he dX8_bits_8 trivial rfl
theorem mzX8_bits : MOk yX8_bits 0 := ⟨by decide +kernel, by decide +kernel, by decide +kernel⟩
set_option maxRecDepth 100000 in
set_option maxHeartbeats 8000000 in
theorem ZX8_bits (x0 : Nat) : Cw tI yX8_bits cX8_bits 1 (some .int) 2 120 [((53, .ref x0) : TV)] (gX8_bits x0) :=
  Cw_I (j := 0) (by decide +kernel) rfl rfl (Nat.le_of_ble_eq_true rfl) (fun κ fin mc ms hc he => qX8_bits hc he x0)
set_option maxRecDepth 100000 in
set_option maxHeartbeats 8000000 in
theorem qL_modeBits_L7 {κ : Cx} {fin : Int32 → Mm → Prop} {mc ms : Nat} (hc : Jc κ RL cL_modeBits 4 3 mc ms 142) (he : EdW κ cL_modeBits tI .ireturn (fun _ => True) fin) : ∀ (n : Nat) (x1 : Int32) (x2 : Nat), Jw κ (wM κ) 4 fin 7 [none, some ((0, .int x1) : TV), some ((43, .ref x2) : TV), none] [] (gL_modeBits_L7 n x1 x2) := by
  intro n
  induction n with
  | zero => intro x1 x2; exact N_fail
  | succ n ih =>
    intro x1 x2
    unfold gL_modeBits_L7
    refine N_aload_n (pc := 7) hc dL_modeBits_7 rfl rfl ?_
    refine N_callF (pc := 8) hc clJx35411 (y := yJx35411_hasNext_aae02) (x := ⟨"java/util/Iterator", "hasNext", "()Z"⟩) (As := []) (ZJx35411_hasNext_aae02 x2) dL_modeBits_8 (n := 0) ⟨by decide +kernel, by decide +kernel, by decide +kernel⟩ tw840 rfl (by decide) ⟨by decide +kernel, by decide +kernel⟩ (tw_F tw1117 tw863 tw865 tw35 tw867) rfl (Nat.le_of_ble_eq_true rfl) (Nat.le_of_ble_eq_true rfl) (Nat.le_of_ble_eq_true rfl) rfl (fun v1 => ?_)
    show Jw κ (wM κ) 4 fin 13 [none, some ((0, .int x1) : TV), some ((43, .ref x2) : TV), none] [((0, .int v1) : TV)] _
    refine N_if_eq (pc := 13) (tgt := 36) hc dL_modeBits_13 (by decide) ?_ ?_
    · refine N_iload_n (pc := 36) hc dL_modeBits_36 rfl rfl ?_
      exact N_ret (pc := 37) he dL_modeBits_37 trivial rfl
    · refine N_aload_n (pc := 16) hc dL_modeBits_16 rfl rfl ?_
      refine N_callF (pc := 17) hc clJx35411 (y := yJx35411_next_0502b) (x := ⟨"java/util/Iterator", "next", "()Ljava/lang/Object;"⟩) (As := []) (ZJx35411_next_0502b x2) dL_modeBits_17 (n := 0) ⟨by decide +kernel, by decide +kernel, by decide +kernel⟩ tw840 rfl (by decide) ⟨by decide +kernel, by decide +kernel⟩ (tw_F tw1119 tw872 tw874 tw35 tw876) rfl (Nat.le_of_ble_eq_true rfl) (Nat.le_of_ble_eq_true rfl) (Nat.le_of_ble_eq_true rfl) rfl (fun h2 => ?_)
      show Jw κ (wM κ) 4 fin 22 [none, some ((0, .int x1) : TV), some ((43, .ref x2) : TV), none] [((16, .ref h2) : TV)] _
      refine N_castM (pc := 22) hc tw1125 tw1126 dL_modeBits_22 ?_
      refine N_astore_n (pc := 25) (l' := [none, some ((0, .int x1) : TV), some ((43, .ref x2) : TV), some ((53, .ref h2) : TV)]) hc dL_modeBits_25 rfl (by decide) rfl rfl ?_
      refine N_iload_n (pc := 26) hc dL_modeBits_26 rfl rfl ?_
      refine N_aload_n (pc := 27) hc dL_modeBits_27 rfl rfl ?_
      refine N_callV (pc := 28) hc clX8 (As := []) (ZX8_bits h2) dL_modeBits_28 mzX8_bits rfl tw1180 tw1181 tw1182 tw36 tw1183 rfl (Nat.le_of_ble_eq_true rfl) (Nat.le_of_ble_eq_true rfl) (Nat.le_of_ble_eq_true rfl) rfl (fun v3 => ?_)
      show Jw κ (wM κ) 4 fin 31 [none, some ((0, .int x1) : TV), some ((43, .ref x2) : TV), some ((53, .ref h2) : TV)] [((0, .int v3) : TV), ((0, .int x1) : TV)] _
      refine N_iadd (pc := 31) hc dL_modeBits_31 ?_
      refine N_nmi (fun v4 => ?_)
      refine N_istore_n (pc := 32) (l' := [none, some ((0, .int v4) : TV), some ((43, .ref x2) : TV), some ((53, .ref h2) : TV)]) hc dL_modeBits_32 rfl (by decide) rfl rfl ?_
      refine N_goto (pc := 33) (tgt := 7) hc dL_modeBits_33 (by decide) ?_
      refine N_sub (l' := [none, some ((0, .int v4) : TV), some ((43, .ref x2) : TV), none]) ⟨rfl, ⟨rfl, trivial⟩⟩ ?_
      exact ih v4 x2
set_option maxRecDepth 100000 in
set_option maxHeartbeats 8000000 in
theorem qL_modeBits {κ : Cx} {fin : Int32 → Mm → Prop} {mc ms : Nat} (hc : Jc κ RL cL_modeBits 4 3 mc ms 142) (he : EdW κ cL_modeBits tI .ireturn (fun _ => True) fin) (x0 : Nat) : Jw κ (wM κ) 4 fin 0 [some ((44, .ref x0) : TV), none, none, none] [] (gL_modeBits x0) := by
  unfold gL_modeBits
  refine N_iconst (pc := 0) (v := 0) hc dL_modeBits_0 (by decide) ?_
  refine N_istore_n (pc := 1) (l' := [some ((44, .ref x0) : TV), some ((0, .int 0) : TV), none, none]) hc dL_modeBits_1 rfl (by decide) rfl rfl ?_
  refine N_aload_n (pc := 2) hc dL_modeBits_2 rfl rfl ?_
  refine N_callV (pc := 3) hc clJx4a65c (As := []) (ZJx4a65c_iterator_32c93 x0) dL_modeBits_3 mzJx4a65c_iterator_32c93 rfl tw1115 tw836 tw837 tw13 tw838 rfl (Nat.le_of_ble_eq_true rfl) (Nat.le_of_ble_eq_true rfl) (Nat.le_of_ble_eq_true rfl) rfl (fun h5 => ?_)
  show Jw κ (wM κ) 4 fin 6 [some ((44, .ref x0) : TV), some ((0, .int 0) : TV), none, none] [((43, .ref h5) : TV)] _
  refine N_astore_n (pc := 6) (l' := [some ((44, .ref x0) : TV), some ((0, .int 0) : TV), some ((43, .ref h5) : TV), none]) hc dL_modeBits_6 rfl (by decide) rfl rfl ?_
  refine N_sub (l' := [none, some ((0, .int 0) : TV), some ((43, .ref h5) : TV), none]) ⟨rfl, ⟨rfl, trivial⟩⟩ ?_
  exact qL_modeBits_L7 hc he fu 0 h5
theorem mzL_modeBits : MOk yL_modeBits 1 := ⟨by decide +kernel, by decide +kernel, by decide +kernel⟩
set_option maxRecDepth 100000 in
set_option maxHeartbeats 8000000 in
theorem ZL_modeBits (x0 : Nat) : Cw tI yL_modeBits cL_modeBits 4 (some .int) 3 142 [((44, .ref x0) : TV)] (gL_modeBits x0) :=
  Cw_I (j := 3) (by decide +kernel) rfl rfl (Nat.le_of_ble_eq_true rfl) (fun κ fin mc ms hc he => qL_modeBits hc he x0)
set_option maxRecDepth 100000 in
set_option maxHeartbeats 8000000 in
theorem qX9_isMark_L49 {κ : Cx} {fin : Int32 → Mm → Prop} {mc ms : Nat} (hc : Jc κ RX9 cX9_isMark 2 11 mc ms 327) (he : EdW κ cX9_isMark tI .ireturn (fun a => a = 0 ∨ a = 1) fin) : Jw κ (wM κ) 2 fin 49 [none, none] [] (gX9_isMark_L49) := by
  unfold gX9_isMark_L49
  refine N_iconst (pc := 49) (v := 1) hc dX9_isMark_49 (by decide) ?_
  refine N_goto (pc := 50) (tgt := 54) hc dX9_isMark_50 (by decide) ?_
  exact N_zret (pc := 54) he dX9_isMark_54
set_option maxRecDepth 100000 in
set_option maxHeartbeats 8000000 in
theorem qX9_isMark {κ : Cx} {fin : Int32 → Mm → Prop} {mc ms : Nat} (hc : Jc κ RX9 cX9_isMark 2 11 mc ms 327) (he : EdW κ cX9_isMark tI .ireturn (fun a => a = 0 ∨ a = 1) fin) (x0 : Nat) (x1 : Int32) : Jw κ (wM κ) 2 fin 0 [some ((54, .ref x0) : TV), some ((0, .int x1) : TV)] [] (gX9_isMark x0 x1) := by
  unfold gX9_isMark
  refine N_iload_n (pc := 0) hc dX9_isMark_0 rfl rfl ?_
  refine N_aload_n (pc := 1) hc dX9_isMark_1 rfl rfl ?_
  refine N_getA (pc := 2) hc clX9 (k := 1) (kd := 11) (Nat.le_of_ble_eq_true rfl) rfl (Nat.le_of_ble_eq_true rfl) tw771 (Or.inl rfl) dX9_isMark_2 (fun v1 => ?_)
  refine N_iconst (pc := 5) (v := 0) hc dX9_isMark_5 (by decide) ?_
  refine N_iald (pc := 6) hc dX9_isMark_6 (fun v2 => ?_)
  refine N_irem (pc := 7) hc dX9_isMark_7 ?_
  refine N_if_eq (pc := 8) (tgt := 49) hc dX9_isMark_8 (by decide) ?_ ?_
  · refine N_sub (l' := [none, none]) (show subL _ _ from trivial) ?_
    exact qX9_isMark_L49 hc he 
  · refine N_aload_n (pc := 11) hc dX9_isMark_11 rfl rfl ?_
    refine N_getA (pc := 12) hc clX9 (k := 1) (kd := 11) (Nat.le_of_ble_eq_true rfl) rfl (Nat.le_of_ble_eq_true rfl) tw771 (Or.inl rfl) dX9_isMark_12 (fun v3 => ?_)
    refine N_iconst (pc := 15) (v := 1) hc dX9_isMark_15 (by decide) ?_
    refine N_iald (pc := 16) hc dX9_isMark_16 (fun v4 => ?_)
    refine N_iconst (pc := 17) (v := 1) hc dX9_isMark_17 (by decide) ?_
    refine N_icmp_ne (pc := 18) (tgt := 53) hc dX9_isMark_18 (by decide) ?_ ?_
    · refine N_iconst (pc := 53) (v := 0) hc dX9_isMark_53 (by decide) ?_
      exact N_zret (pc := 54) he dX9_isMark_54
    · refine N_aload_n (pc := 21) hc dX9_isMark_21 rfl rfl ?_
      refine N_getA (pc := 22) hc clX9 (k := 3) (kd := 44) (Nat.le_of_ble_eq_true rfl) rfl (Nat.le_of_ble_eq_true rfl) tw775 (Or.inl rfl) dX9_isMark_22 (fun v5 => ?_)
      refine N_iload_n (pc := 25) hc dX9_isMark_25 rfl rfl ?_
      refine N_callV (pc := 26) hc clJx4a65c (As := [((0, .int x1) : TV)]) (ZJx4a65c_get_915e3 v5 x1) dX9_isMark_26 mzJx4a65c_get_915e3 rfl tw1079 tw1059 tw1060 tw13 tw1061 rfl (Nat.le_of_ble_eq_true rfl) (Nat.le_of_ble_eq_true rfl) (Nat.le_of_ble_eq_true rfl) rfl (fun h6 => ?_)
      show Jw κ (wM κ) 2 fin 29 [some ((54, .ref x0) : TV), some ((0, .int x1) : TV)] [((16, .ref h6) : TV)] _
      refine N_castZ (pc := 29) hc tw881 dX9_isMark_29 ?_
      refine N_callSN (pc := 32) hc (As := [((13, .ref h6) : TV)]) (hst1 := "DotRunsLaw") (ZL_alone h6) dX9_isMark_32 mzL_alone (by decide +kernel) tw1151 tw0 tw1152 rfl (Nat.le_of_ble_eq_true rfl) (Nat.le_of_ble_eq_true rfl) (Nat.le_of_ble_eq_true rfl) rfl (fun h7 => ?_)
      show Jw κ (wM κ) 2 fin 35 [some ((54, .ref x0) : TV), some ((0, .int x1) : TV)] [((44, .ref h7) : TV)] _
      refine N_callSN (pc := 35) hc (As := [((44, .ref h7) : TV)]) (hst1 := "DotRunsLaw") (ZL_bits h7) dX9_isMark_35 mzL_bits (by decide +kernel) tw1171 tw0 tw1172 rfl (Nat.le_of_ble_eq_true rfl) (Nat.le_of_ble_eq_true rfl) (Nat.le_of_ble_eq_true rfl) rfl (fun v8 => ?_)
      show Jw κ (wM κ) 2 fin 38 [some ((54, .ref x0) : TV), some ((0, .int x1) : TV)] [((0, .int v8) : TV)] _
      refine N_aload_n (pc := 38) hc dX9_isMark_38 rfl rfl ?_
      refine N_iload_n (pc := 39) hc dX9_isMark_39 rfl rfl ?_
      refine N_callV (pc := 40) hc clX9 (As := [((0, .int x1) : TV)]) (ZX9_codeOf x0 x1) dX9_isMark_40 mzX9_codeOf rfl tw1176 tw1072 tw1073 tw10 tw1074 rfl (Nat.le_of_ble_eq_true rfl) (Nat.le_of_ble_eq_true rfl) (Nat.le_of_ble_eq_true rfl) rfl (fun h9 => ?_)
      show Jw κ (wM κ) 2 fin 43 [some ((54, .ref x0) : TV), some ((0, .int x1) : TV)] [((44, .ref h9) : TV), ((0, .int v8) : TV)] _
      refine N_callSN (pc := 43) hc (As := [((44, .ref h9) : TV)]) (hst1 := "DotRunsLaw") (ZL_modeBits h9) dX9_isMark_43 mzL_modeBits (by decide +kernel) tw1178 tw0 tw1179 rfl (Nat.le_of_ble_eq_true rfl) (Nat.le_of_ble_eq_true rfl) (Nat.le_of_ble_eq_true rfl) rfl (fun v10 => ?_)
      show Jw κ (wM κ) 2 fin 46 [some ((54, .ref x0) : TV), some ((0, .int x1) : TV)] [((0, .int v10) : TV), ((0, .int v8) : TV)] _
      refine N_icmp_ge (pc := 46) (tgt := 53) hc dX9_isMark_46 (by decide) ?_ ?_
      · refine N_iconst (pc := 53) (v := 0) hc dX9_isMark_53 (by decide) ?_
        exact N_zret (pc := 54) he dX9_isMark_54
      · refine N_sub (l' := [none, none]) (show subL _ _ from trivial) ?_
        exact qX9_isMark_L49 hc he 
theorem mzX9_isMark : MOk yX9_isMark 1 := ⟨by decide +kernel, by decide +kernel, by decide +kernel⟩
set_option maxRecDepth 100000 in
set_option maxHeartbeats 8000000 in
theorem ZX9_isMark (x0 : Nat) (x1 : Int32) : Cw tI yX9_isMark cX9_isMark 2 (some .boolean) 11 327 [((54, .ref x0) : TV), ((0, .int x1) : TV)] (gX9_isMark x0 x1) :=
  Cw_Z ⟨rfl, rfl⟩ (j := 0) (by decide +kernel) rfl rfl (Nat.le_of_ble_eq_true rfl) (fun κ fin mc ms hc he => qX9_isMark hc he x0 x1)
set_option maxRecDepth 100000 in
set_option maxHeartbeats 8000000 in
theorem qX9_bitsOf {κ : Cx} {fin : Int32 → Mm → Prop} {mc ms : Nat} (hc : Jc κ RX9 cX9_bitsOf 2 12 mc ms 348) (he : EdW κ cX9_bitsOf tI .ireturn (fun _ => True) fin) (x0 : Nat) (x1 : Int32) : Jw κ (wM κ) 2 fin 0 [some ((54, .ref x0) : TV), some ((0, .int x1) : TV)] [] (gX9_bitsOf x0 x1) := by
  unfold gX9_bitsOf
  refine N_aload_n (pc := 0) hc dX9_bitsOf_0 rfl rfl ?_
  refine N_iload_n (pc := 1) hc dX9_bitsOf_1 rfl rfl ?_
  refine N_callV (pc := 2) hc clX9 (As := [((0, .int x1) : TV)]) (ZX9_isMark x0 x1) dX9_bitsOf_2 mzX9_isMark rfl tw1192 tw1166 tw1167 tw10 tw1168 rfl (Nat.le_of_ble_eq_true rfl) (Nat.le_of_ble_eq_true rfl) (Nat.le_of_ble_eq_true rfl) rfl (fun v1 => ?_)
  show Jw κ (wM κ) 2 fin 5 [some ((54, .ref x0) : TV), some ((0, .int x1) : TV)] [((0, .int v1) : TV)] _
  refine N_if_eq (pc := 5) (tgt := 28) hc dX9_bitsOf_5 (by decide) ?_ ?_
  · refine N_aload_n (pc := 28) hc dX9_bitsOf_28 rfl rfl ?_
    refine N_iload_n (pc := 29) hc dX9_bitsOf_29 rfl rfl ?_
    refine N_callV (pc := 30) hc clX9 (As := [((0, .int x1) : TV)]) (ZX9_codeOf x0 x1) dX9_bitsOf_30 mzX9_codeOf rfl tw1176 tw1072 tw1073 tw10 tw1074 rfl (Nat.le_of_ble_eq_true rfl) (Nat.le_of_ble_eq_true rfl) (Nat.le_of_ble_eq_true rfl) rfl (fun h2 => ?_)
    show Jw κ (wM κ) 2 fin 33 [some ((54, .ref x0) : TV), some ((0, .int x1) : TV)] [((44, .ref h2) : TV)] _
    refine N_callSN (pc := 33) hc (As := [((44, .ref h2) : TV)]) (hst1 := "DotRunsLaw") (ZL_modeBits h2) dX9_bitsOf_33 mzL_modeBits (by decide +kernel) tw1178 tw0 tw1179 rfl (Nat.le_of_ble_eq_true rfl) (Nat.le_of_ble_eq_true rfl) (Nat.le_of_ble_eq_true rfl) rfl (fun v3 => ?_)
    show Jw κ (wM κ) 2 fin 36 [some ((54, .ref x0) : TV), some ((0, .int x1) : TV)] [((0, .int v3) : TV)] _
    exact N_ret (pc := 36) he dX9_bitsOf_36 trivial rfl
  · refine N_aload_n (pc := 8) hc dX9_bitsOf_8 rfl rfl ?_
    refine N_getA (pc := 9) hc clX9 (k := 3) (kd := 44) (Nat.le_of_ble_eq_true rfl) rfl (Nat.le_of_ble_eq_true rfl) tw775 (Or.inl rfl) dX9_bitsOf_9 (fun v4 => ?_)
    refine N_iload_n (pc := 12) hc dX9_bitsOf_12 rfl rfl ?_
    refine N_callV (pc := 13) hc clJx4a65c (As := [((0, .int x1) : TV)]) (ZJx4a65c_get_915e3 v4 x1) dX9_bitsOf_13 mzJx4a65c_get_915e3 rfl tw1079 tw1059 tw1060 tw13 tw1061 rfl (Nat.le_of_ble_eq_true rfl) (Nat.le_of_ble_eq_true rfl) (Nat.le_of_ble_eq_true rfl) rfl (fun h5 => ?_)
    show Jw κ (wM κ) 2 fin 16 [some ((54, .ref x0) : TV), some ((0, .int x1) : TV)] [((16, .ref h5) : TV)] _
    refine N_castZ (pc := 16) hc tw881 dX9_bitsOf_16 ?_
    refine N_callSN (pc := 19) hc (As := [((13, .ref h5) : TV)]) (hst1 := "DotRunsLaw") (ZL_alone h5) dX9_bitsOf_19 mzL_alone (by decide +kernel) tw1151 tw0 tw1152 rfl (Nat.le_of_ble_eq_true rfl) (Nat.le_of_ble_eq_true rfl) (Nat.le_of_ble_eq_true rfl) rfl (fun h6 => ?_)
    show Jw κ (wM κ) 2 fin 22 [some ((54, .ref x0) : TV), some ((0, .int x1) : TV)] [((44, .ref h6) : TV)] _
    refine N_callSN (pc := 22) hc (As := [((44, .ref h6) : TV)]) (hst1 := "DotRunsLaw") (ZL_bits h6) dX9_bitsOf_22 mzL_bits (by decide +kernel) tw1171 tw0 tw1172 rfl (Nat.le_of_ble_eq_true rfl) (Nat.le_of_ble_eq_true rfl) (Nat.le_of_ble_eq_true rfl) rfl (fun v7 => ?_)
    show Jw κ (wM κ) 2 fin 25 [some ((54, .ref x0) : TV), some ((0, .int x1) : TV)] [((0, .int v7) : TV)] _
    refine N_goto (pc := 25) (tgt := 36) hc dX9_bitsOf_25 (by decide) ?_
    exact N_ret (pc := 36) he dX9_bitsOf_36 trivial rfl
theorem mzX9_bitsOf : MOk yX9_bitsOf 1 := ⟨by decide +kernel, by decide +kernel, by decide +kernel⟩
set_option maxRecDepth 100000 in
set_option maxHeartbeats 8000000 in
theorem ZX9_bitsOf (x0 : Nat) (x1 : Int32) : Cw tI yX9_bitsOf cX9_bitsOf 2 (some .int) 12 348 [((54, .ref x0) : TV), ((0, .int x1) : TV)] (gX9_bitsOf x0 x1) :=
  Cw_I (j := 0) (by decide +kernel) rfl rfl (Nat.le_of_ble_eq_true rfl) (fun κ fin mc ms hc he => qX9_bitsOf hc he x0 x1)
set_option maxRecDepth 100000 in
set_option maxHeartbeats 8000000 in
theorem qL_read_L253 {κ : Cx} {fin : (Option Nat) → Mm → Prop} {mc ms : Nat} (hc : Jc κ RL cL_read 12 9 mc ms 279) (he : EdW κ cL_read (tO 13) .areturn (fun _ => True) fin) (s0 : Option Nat) : Jw κ (wM κ) 12 fin 253 [none, none, none, none, none, none, none, none, none, none, none, none] [((13, va_rf s0) : TV)] (gL_read_L253 s0) := by
  unfold gL_read_L253
  exact N_ret (pc := 253) he dL_read_253 trivial rfl
set_option maxRecDepth 100000 in
set_option maxHeartbeats 8000000 in
theorem qL_read_L237 {κ : Cx} {fin : (Option Nat) → Mm → Prop} {mc ms : Nat} (hc : Jc κ RL cL_read 12 9 mc ms 279) (he : EdW κ cL_read (tO 13) .areturn (fun _ => True) fin) {k16 : Nat → Nat → Int32 → Int32 → Nat → Mm → Option ((Option Nat) × Mm × Nat × Nat)} (hk16 : ∀ (x1 : Nat) (x2 : Nat) (x3 : Int32) (x4 : Int32) (x5 : Nat), Jw κ (wM κ) 12 fin 16 [none, some ((13, .ref x1) : TV), some ((13, .ref x2) : TV), some ((0, .int x3) : TV), some ((0, .int x4) : TV), some ((43, .ref x5) : TV), none, none, none, none, none, none] [] (k16 x1 x2 x3 x4 x5)) (x1 : Nat) (x2 : Nat) (x3 : Int32) (x5 : Nat) (s0 : Int32) : Jw κ (wM κ) 12 fin 237 [none, some ((13, .ref x1) : TV), some ((13, .ref x2) : TV), some ((0, .int x3) : TV), none, some ((43, .ref x5) : TV), none, none, none, none, none, none] [((0, .int s0) : TV)] (gL_read_L237 k16 x1 x2 x3 x5 s0) := by
  unfold gL_read_L237
  refine N_istore (pc := 237) (l' := [none, some ((13, .ref x1) : TV), some ((13, .ref x2) : TV), some ((0, .int x3) : TV), some ((0, .int s0) : TV), some ((43, .ref x5) : TV), none, none, none, none, none, none]) hc dL_read_237 (by decide) rfl rfl ?_
  refine N_goto (pc := 239) (tgt := 16) hc dL_read_239 (by decide) ?_
  refine N_sub (l' := [none, some ((13, .ref x1) : TV), some ((13, .ref x2) : TV), some ((0, .int x3) : TV), some ((0, .int s0) : TV), some ((43, .ref x5) : TV), none, none, none, none, none, none]) ⟨rfl, ⟨rfl, ⟨rfl, ⟨rfl, ⟨rfl, trivial⟩⟩⟩⟩⟩ ?_
  exact hk16 x1 x2 x3 s0 x5
set_option maxRecDepth 100000 in
set_option maxHeartbeats 8000000 in
theorem qL_read_L227 {κ : Cx} {fin : (Option Nat) → Mm → Prop} {mc ms : Nat} (hc : Jc κ RL cL_read 12 9 mc ms 279) (he : EdW κ cL_read (tO 13) .areturn (fun _ => True) fin) {k16 : Nat → Nat → Int32 → Int32 → Nat → Mm → Option ((Option Nat) × Mm × Nat × Nat)} (hk16 : ∀ (x1 : Nat) (x2 : Nat) (x3 : Int32) (x4 : Int32) (x5 : Nat), Jw κ (wM κ) 12 fin 16 [none, some ((13, .ref x1) : TV), some ((13, .ref x2) : TV), some ((0, .int x3) : TV), some ((0, .int x4) : TV), some ((43, .ref x5) : TV), none, none, none, none, none, none] [] (k16 x1 x2 x3 x4 x5)) (x1 : Nat) (x2 : Nat) (x3 : Int32) (x4 : Int32) (x5 : Nat) (s0 : Int32) : Jw κ (wM κ) 12 fin 227 [none, some ((13, .ref x1) : TV), some ((13, .ref x2) : TV), some ((0, .int x3) : TV), some ((0, .int x4) : TV), some ((43, .ref x5) : TV), none, none, none, none, none, none] [((0, .int s0) : TV)] (gL_read_L227 k16 x1 x2 x3 x4 x5 s0) := by
  unfold gL_read_L227
  refine N_iload (pc := 227) hc dL_read_227 rfl ?_
  refine N_icmp_eq (pc := 229) (tgt := 236) hc dL_read_229 (by decide) ?_ ?_
  · refine N_iconst (pc := 236) (v := 0) hc dL_read_236 (by decide) ?_
    refine N_sub (l' := [none, some ((13, .ref x1) : TV), some ((13, .ref x2) : TV), some ((0, .int x3) : TV), none, some ((43, .ref x5) : TV), none, none, none, none, none, none]) ⟨rfl, ⟨rfl, ⟨rfl, ⟨rfl, trivial⟩⟩⟩⟩ ?_
    exact qL_read_L237 hc he hk16 x1 x2 x3 x5 0
  · refine N_iconst (pc := 232) (v := 1) hc dL_read_232 (by decide) ?_
    refine N_goto (pc := 233) (tgt := 237) hc dL_read_233 (by decide) ?_
    refine N_sub (l' := [none, some ((13, .ref x1) : TV), some ((13, .ref x2) : TV), some ((0, .int x3) : TV), none, some ((43, .ref x5) : TV), none, none, none, none, none, none]) ⟨rfl, ⟨rfl, ⟨rfl, ⟨rfl, trivial⟩⟩⟩⟩ ?_
    exact qL_read_L237 hc he hk16 x1 x2 x3 x5 1
set_option maxRecDepth 100000 in
set_option maxHeartbeats 8000000 in
theorem qL_read_L203 {κ : Cx} {fin : (Option Nat) → Mm → Prop} {mc ms : Nat} (hc : Jc κ RL cL_read 12 9 mc ms 279) (he : EdW κ cL_read (tO 13) .areturn (fun _ => True) fin) {k183 : Nat → Nat → Int32 → Nat → Nat → Int32 → Int32 → Mm → Option ((Option Nat) × Mm × Nat × Nat)} (hk183 : ∀ (x1 : Nat) (x2 : Nat) (x4 : Int32) (x5 : Nat) (x6 : Nat) (x10 : Int32) (x11 : Int32), Jw κ (wM κ) 12 fin 183 [none, some ((13, .ref x1) : TV), some ((13, .ref x2) : TV), none, some ((0, .int x4) : TV), some ((43, .ref x5) : TV), some ((53, .ref x6) : TV), none, none, none, some ((0, .int x10) : TV), some ((0, .int x11) : TV)] [] (k183 x1 x2 x4 x5 x6 x10 x11)) (x1 : Nat) (x2 : Nat) (x4 : Int32) (x5 : Nat) (x6 : Nat) (x10 : Int32) (x11 : Int32) (s0 : Int32) (s1 : Int32) (s2 : Nat) : Jw κ (wM κ) 12 fin 203 [none, some ((13, .ref x1) : TV), some ((13, .ref x2) : TV), none, some ((0, .int x4) : TV), some ((43, .ref x5) : TV), some ((53, .ref x6) : TV), none, none, none, some ((0, .int x10) : TV), some ((0, .int x11) : TV)] [((0, .int s0) : TV), ((0, .int s1) : TV), ((13, .ref s2) : TV)] (gL_read_L203 k183 x1 x2 x4 x5 x6 x10 x11 s0 s1 s2) := by
  unfold gL_read_L203
  refine N_zast (pc := 203) hc dL_read_203 ?_
  refine N_iinc (pc := 204) (v := x11 + 1) (l' := [none, some ((13, .ref x1) : TV), some ((13, .ref x2) : TV), none, some ((0, .int x4) : TV), some ((43, .ref x5) : TV), some ((53, .ref x6) : TV), none, none, none, some ((0, .int x10) : TV), some ((0, .int (x11 + 1)) : TV)]) hc dL_read_204 rfl rfl (by decide) rfl rfl ?_
  refine N_goto (pc := 207) (tgt := 183) hc dL_read_207 (by decide) ?_
  refine N_sub (l' := [none, some ((13, .ref x1) : TV), some ((13, .ref x2) : TV), none, some ((0, .int x4) : TV), some ((43, .ref x5) : TV), some ((53, .ref x6) : TV), none, none, none, some ((0, .int x10) : TV), some ((0, .int (x11 + 1)) : TV)]) ⟨rfl, ⟨rfl, ⟨rfl, ⟨rfl, ⟨rfl, ⟨rfl, ⟨rfl, trivial⟩⟩⟩⟩⟩⟩⟩ ?_
  exact hk183 x1 x2 x4 x5 x6 x10 (x11 + 1)
set_option maxRecDepth 100000 in
set_option maxHeartbeats 8000000 in
theorem qL_read_L183 {κ : Cx} {fin : (Option Nat) → Mm → Prop} {mc ms : Nat} (hc : Jc κ RL cL_read 12 9 mc ms 279) (he : EdW κ cL_read (tO 13) .areturn (fun _ => True) fin) {k16 : Nat → Nat → Int32 → Int32 → Nat → Mm → Option ((Option Nat) × Mm × Nat × Nat)} (hk16 : ∀ (x1 : Nat) (x2 : Nat) (x3 : Int32) (x4 : Int32) (x5 : Nat), Jw κ (wM κ) 12 fin 16 [none, some ((13, .ref x1) : TV), some ((13, .ref x2) : TV), some ((0, .int x3) : TV), some ((0, .int x4) : TV), some ((43, .ref x5) : TV), none, none, none, none, none, none] [] (k16 x1 x2 x3 x4 x5)) : ∀ (n : Nat) (x1 : Nat) (x2 : Nat) (x4 : Int32) (x5 : Nat) (x6 : Nat) (x10 : Int32) (x11 : Int32), Jw κ (wM κ) 12 fin 183 [none, some ((13, .ref x1) : TV), some ((13, .ref x2) : TV), none, some ((0, .int x4) : TV), some ((43, .ref x5) : TV), some ((53, .ref x6) : TV), none, none, none, some ((0, .int x10) : TV), some ((0, .int x11) : TV)] [] (gL_read_L183 k16 n x1 x2 x4 x5 x6 x10 x11) := by
  intro n
  induction n with
  | zero => intro x1 x2 x4 x5 x6 x10 x11; exact N_fail
  | succ n ih =>
    intro x1 x2 x4 x5 x6 x10 x11
    unfold gL_read_L183
    refine N_iload (pc := 183) hc dL_read_183 rfl ?_
    refine N_iload (pc := 185) hc dL_read_185 rfl ?_
    refine N_icmp_ge (pc := 187) (tgt := 210) hc dL_read_187 (by decide) ?_ ?_
    · refine N_iload (pc := 210) hc dL_read_210 rfl ?_
      refine N_istore_n (pc := 212) (l' := [none, some ((13, .ref x1) : TV), some ((13, .ref x2) : TV), some ((0, .int x10) : TV), some ((0, .int x4) : TV), some ((43, .ref x5) : TV), some ((53, .ref x6) : TV), none, none, none, some ((0, .int x10) : TV), some ((0, .int x11) : TV)]) hc dL_read_212 rfl (by decide) rfl rfl ?_
      refine N_aload (pc := 213) hc dL_read_213 rfl ?_
      refine N_getNI (pc := 215) hc clX8 (k := 0) (Nat.le_of_ble_eq_true rfl) rfl (hst0 := "DotRunsLaw") (by decide +kernel) dL_read_215 (fun v1 => ?_)
      refine N_iconst (pc := 218) (v := 1) hc dL_read_218 (by decide) ?_
      refine N_icmp_ne (pc := 219) (tgt := 226) hc dL_read_219 (by decide) ?_ ?_
      · refine N_iconst (pc := 226) (v := 0) hc dL_read_226 (by decide) ?_
        refine N_sub (l' := [none, some ((13, .ref x1) : TV), some ((13, .ref x2) : TV), some ((0, .int x10) : TV), some ((0, .int x4) : TV), some ((43, .ref x5) : TV), none, none, none, none, none, none]) ⟨rfl, ⟨rfl, ⟨rfl, ⟨rfl, ⟨rfl, trivial⟩⟩⟩⟩⟩ ?_
        exact qL_read_L227 hc he hk16 x1 x2 x10 x4 x5 0
      · refine N_iconst (pc := 222) (v := 1) hc dL_read_222 (by decide) ?_
        refine N_goto (pc := 223) (tgt := 227) hc dL_read_223 (by decide) ?_
        refine N_sub (l' := [none, some ((13, .ref x1) : TV), some ((13, .ref x2) : TV), some ((0, .int x10) : TV), some ((0, .int x4) : TV), some ((43, .ref x5) : TV), none, none, none, none, none, none]) ⟨rfl, ⟨rfl, ⟨rfl, ⟨rfl, ⟨rfl, trivial⟩⟩⟩⟩⟩ ?_
        exact qL_read_L227 hc he hk16 x1 x2 x10 x4 x5 1
    · refine N_aload_n (pc := 190) hc dL_read_190 rfl rfl ?_
      refine N_iload (pc := 191) hc dL_read_191 rfl ?_
      refine N_iload (pc := 193) hc dL_read_193 rfl ?_
      refine N_if_ne (pc := 195) (tgt := 202) hc dL_read_195 (by decide) ?_ ?_
      · refine N_iconst (pc := 202) (v := 0) hc dL_read_202 (by decide) ?_
        refine N_sub (l' := [none, some ((13, .ref x1) : TV), some ((13, .ref x2) : TV), none, some ((0, .int x4) : TV), some ((43, .ref x5) : TV), some ((53, .ref x6) : TV), none, none, none, some ((0, .int x10) : TV), some ((0, .int x11) : TV)]) ⟨rfl, ⟨rfl, ⟨rfl, ⟨rfl, ⟨rfl, ⟨rfl, ⟨rfl, trivial⟩⟩⟩⟩⟩⟩⟩ ?_
        exact qL_read_L203 hc he ih x1 x2 x4 x5 x6 x10 x11 0 x11 x2
      · refine N_iconst (pc := 198) (v := 1) hc dL_read_198 (by decide) ?_
        refine N_goto (pc := 199) (tgt := 203) hc dL_read_199 (by decide) ?_
        refine N_sub (l' := [none, some ((13, .ref x1) : TV), some ((13, .ref x2) : TV), none, some ((0, .int x4) : TV), some ((43, .ref x5) : TV), some ((53, .ref x6) : TV), none, none, none, some ((0, .int x10) : TV), some ((0, .int x11) : TV)]) ⟨rfl, ⟨rfl, ⟨rfl, ⟨rfl, ⟨rfl, ⟨rfl, ⟨rfl, trivial⟩⟩⟩⟩⟩⟩⟩ ?_
        exact qL_read_L203 hc he ih x1 x2 x4 x5 x6 x10 x11 1 x11 x2
set_option maxRecDepth 100000 in
set_option maxHeartbeats 8000000 in
theorem qL_read_L160 {κ : Cx} {fin : (Option Nat) → Mm → Prop} {mc ms : Nat} (hc : Jc κ RL cL_read 12 9 mc ms 279) (he : EdW κ cL_read (tO 13) .areturn (fun _ => True) fin) {k16 : Nat → Nat → Int32 → Int32 → Nat → Mm → Option ((Option Nat) × Mm × Nat × Nat)} (hk16 : ∀ (x1 : Nat) (x2 : Nat) (x3 : Int32) (x4 : Int32) (x5 : Nat), Jw κ (wM κ) 12 fin 16 [none, some ((13, .ref x1) : TV), some ((13, .ref x2) : TV), some ((0, .int x3) : TV), some ((0, .int x4) : TV), some ((43, .ref x5) : TV), none, none, none, none, none, none] [] (k16 x1 x2 x3 x4 x5)) : ∀ (n : Nat) (x1 : Nat) (x2 : Nat) (x4 : Int32) (x5 : Nat) (x6 : Nat) (x9 : Int32) (x10 : Int32) (x11 : Int32), Jw κ (wM κ) 12 fin 160 [none, some ((13, .ref x1) : TV), some ((13, .ref x2) : TV), none, some ((0, .int x4) : TV), some ((43, .ref x5) : TV), some ((53, .ref x6) : TV), none, none, some ((0, .int x9) : TV), some ((0, .int x10) : TV), some ((0, .int x11) : TV)] [] (gL_read_L160 k16 n x1 x2 x4 x5 x6 x9 x10 x11) := by
  intro n
  induction n with
  | zero => intro x1 x2 x4 x5 x6 x9 x10 x11; exact N_fail
  | succ n ih =>
    intro x1 x2 x4 x5 x6 x9 x10 x11
    unfold gL_read_L160
    refine N_iload (pc := 160) hc dL_read_160 rfl ?_
    refine N_iload (pc := 162) hc dL_read_162 rfl ?_
    refine N_icmp_ge (pc := 164) (tgt := 179) hc dL_read_164 (by decide) ?_ ?_
    · refine N_iload (pc := 179) hc dL_read_179 rfl ?_
      refine N_istore (pc := 181) (l' := [none, some ((13, .ref x1) : TV), some ((13, .ref x2) : TV), none, some ((0, .int x4) : TV), some ((43, .ref x5) : TV), some ((53, .ref x6) : TV), none, none, some ((0, .int x9) : TV), some ((0, .int x10) : TV), some ((0, .int x9) : TV)]) hc dL_read_181 (by decide) rfl rfl ?_
      refine N_sub (l' := [none, some ((13, .ref x1) : TV), some ((13, .ref x2) : TV), none, some ((0, .int x4) : TV), some ((43, .ref x5) : TV), some ((53, .ref x6) : TV), none, none, none, some ((0, .int x10) : TV), some ((0, .int x9) : TV)]) ⟨rfl, ⟨rfl, ⟨rfl, ⟨rfl, ⟨rfl, ⟨rfl, ⟨rfl, trivial⟩⟩⟩⟩⟩⟩⟩ ?_
      exact qL_read_L183 hc he hk16 fu x1 x2 x4 x5 x6 x10 x9
    · refine N_aload_n (pc := 167) hc dL_read_167 rfl rfl ?_
      refine N_iload (pc := 168) hc dL_read_168 rfl ?_
      refine N_iload (pc := 170) hc dL_read_170 rfl ?_
      refine N_zast (pc := 172) hc dL_read_172 ?_
      refine N_iinc (pc := 173) (v := x11 + 1) (l' := [none, some ((13, .ref x1) : TV), some ((13, .ref x2) : TV), none, some ((0, .int x4) : TV), some ((43, .ref x5) : TV), some ((53, .ref x6) : TV), none, none, some ((0, .int x9) : TV), some ((0, .int x10) : TV), some ((0, .int (x11 + 1)) : TV)]) hc dL_read_173 rfl rfl (by decide) rfl rfl ?_
      refine N_goto (pc := 176) (tgt := 160) hc dL_read_176 (by decide) ?_
      refine N_sub (l' := [none, some ((13, .ref x1) : TV), some ((13, .ref x2) : TV), none, some ((0, .int x4) : TV), some ((43, .ref x5) : TV), some ((53, .ref x6) : TV), none, none, some ((0, .int x9) : TV), some ((0, .int x10) : TV), some ((0, .int (x11 + 1)) : TV)]) ⟨rfl, ⟨rfl, ⟨rfl, ⟨rfl, ⟨rfl, ⟨rfl, ⟨rfl, ⟨rfl, trivial⟩⟩⟩⟩⟩⟩⟩⟩ ?_
      exact ih x1 x2 x4 x5 x6 x9 x10 (x11 + 1)
set_option maxRecDepth 100000 in
set_option maxHeartbeats 8000000 in
theorem qL_read_L156 {κ : Cx} {fin : (Option Nat) → Mm → Prop} {mc ms : Nat} (hc : Jc κ RL cL_read 12 9 mc ms 279) (he : EdW κ cL_read (tO 13) .areturn (fun _ => True) fin) {k16 : Nat → Nat → Int32 → Int32 → Nat → Mm → Option ((Option Nat) × Mm × Nat × Nat)} (hk16 : ∀ (x1 : Nat) (x2 : Nat) (x3 : Int32) (x4 : Int32) (x5 : Nat), Jw κ (wM κ) 12 fin 16 [none, some ((13, .ref x1) : TV), some ((13, .ref x2) : TV), some ((0, .int x3) : TV), some ((0, .int x4) : TV), some ((43, .ref x5) : TV), none, none, none, none, none, none] [] (k16 x1 x2 x3 x4 x5)) (x1 : Nat) (x2 : Nat) (x4 : Int32) (x5 : Nat) (x6 : Nat) (x8 : Int32) (x9 : Int32) (x10 : Int32) : Jw κ (wM κ) 12 fin 156 [none, some ((13, .ref x1) : TV), some ((13, .ref x2) : TV), none, some ((0, .int x4) : TV), some ((43, .ref x5) : TV), some ((53, .ref x6) : TV), none, some ((0, .int x8) : TV), some ((0, .int x9) : TV), some ((0, .int x10) : TV), none] [] (gL_read_L156 k16 x1 x2 x4 x5 x6 x8 x9 x10) := by
  unfold gL_read_L156
  refine N_iload (pc := 156) hc dL_read_156 rfl ?_
  refine N_istore (pc := 158) (l' := [none, some ((13, .ref x1) : TV), some ((13, .ref x2) : TV), none, some ((0, .int x4) : TV), some ((43, .ref x5) : TV), some ((53, .ref x6) : TV), none, some ((0, .int x8) : TV), some ((0, .int x9) : TV), some ((0, .int x10) : TV), some ((0, .int x8) : TV)]) hc dL_read_158 (by decide) rfl rfl ?_
  refine N_sub (l' := [none, some ((13, .ref x1) : TV), some ((13, .ref x2) : TV), none, some ((0, .int x4) : TV), some ((43, .ref x5) : TV), some ((53, .ref x6) : TV), none, none, some ((0, .int x9) : TV), some ((0, .int x10) : TV), some ((0, .int x8) : TV)]) ⟨rfl, ⟨rfl, ⟨rfl, ⟨rfl, ⟨rfl, ⟨rfl, ⟨rfl, ⟨rfl, trivial⟩⟩⟩⟩⟩⟩⟩⟩ ?_
  exact qL_read_L160 hc he hk16 fu x1 x2 x4 x5 x6 x9 x10 x8
set_option maxRecDepth 100000 in
set_option maxHeartbeats 8000000 in
theorem qL_read_L154 {κ : Cx} {fin : (Option Nat) → Mm → Prop} {mc ms : Nat} (hc : Jc κ RL cL_read 12 9 mc ms 279) (he : EdW κ cL_read (tO 13) .areturn (fun _ => True) fin) : Jw κ (wM κ) 12 fin 154 [none, none, none, none, none, none, none, none, none, none, none, none] [] (gL_read_L154) := by
  unfold gL_read_L154
  refine N_null (pc := 154) (k := 13) hc dL_read_154 ?_
  exact N_ret (pc := 155) he dL_read_155 trivial rfl
set_option maxRecDepth 100000 in
set_option maxHeartbeats 8000000 in
theorem qL_read_L131 {κ : Cx} {fin : (Option Nat) → Mm → Prop} {mc ms : Nat} (hc : Jc κ RL cL_read 12 9 mc ms 279) (he : EdW κ cL_read (tO 13) .areturn (fun _ => True) fin) {k16 : Nat → Nat → Int32 → Int32 → Nat → Mm → Option ((Option Nat) × Mm × Nat × Nat)} (hk16 : ∀ (x1 : Nat) (x2 : Nat) (x3 : Int32) (x4 : Int32) (x5 : Nat), Jw κ (wM κ) 12 fin 16 [none, some ((13, .ref x1) : TV), some ((13, .ref x2) : TV), some ((0, .int x3) : TV), some ((0, .int x4) : TV), some ((43, .ref x5) : TV), none, none, none, none, none, none] [] (k16 x1 x2 x3 x4 x5)) (x1 : Nat) (x2 : Nat) (x3 : Int32) (x4 : Int32) (x5 : Nat) (x6 : Nat) (x8 : Int32) (x9 : Int32) (s0 : Int32) : Jw κ (wM κ) 12 fin 131 [none, some ((13, .ref x1) : TV), some ((13, .ref x2) : TV), some ((0, .int x3) : TV), some ((0, .int x4) : TV), some ((43, .ref x5) : TV), some ((53, .ref x6) : TV), none, some ((0, .int x8) : TV), some ((0, .int x9) : TV), none, none] [((0, .int s0) : TV)] (gL_read_L131 k16 x1 x2 x3 x4 x5 x6 x8 x9 s0) := by
  unfold gL_read_L131
  refine N_istore (pc := 131) (l' := [none, some ((13, .ref x1) : TV), some ((13, .ref x2) : TV), some ((0, .int x3) : TV), some ((0, .int x4) : TV), some ((43, .ref x5) : TV), some ((53, .ref x6) : TV), none, some ((0, .int x8) : TV), some ((0, .int x9) : TV), some ((0, .int s0) : TV), none]) hc dL_read_131 (by decide) rfl rfl ?_
  refine N_aload (pc := 133) hc dL_read_133 rfl ?_
  refine N_getNI (pc := 135) hc clX8 (k := 0) (Nat.le_of_ble_eq_true rfl) rfl (hst0 := "DotRunsLaw") (by decide +kernel) dL_read_135 (fun v2 => ?_)
  refine N_if_le (pc := 138) (tgt := 156) hc dL_read_138 (by decide) ?_ ?_
  · refine N_sub (l' := [none, some ((13, .ref x1) : TV), some ((13, .ref x2) : TV), none, some ((0, .int x4) : TV), some ((43, .ref x5) : TV), some ((53, .ref x6) : TV), none, some ((0, .int x8) : TV), some ((0, .int x9) : TV), some ((0, .int s0) : TV), none]) ⟨rfl, ⟨rfl, ⟨rfl, ⟨rfl, ⟨rfl, ⟨rfl, ⟨rfl, ⟨rfl, trivial⟩⟩⟩⟩⟩⟩⟩⟩ ?_
    exact qL_read_L156 hc he hk16 x1 x2 x4 x5 x6 x8 x9 s0
  · refine N_iload (pc := 141) hc dL_read_141 rfl ?_
    refine N_iload_n (pc := 143) hc dL_read_143 rfl rfl ?_
    refine N_icmp_le (pc := 144) (tgt := 154) hc dL_read_144 (by decide) ?_ ?_
    · refine N_sub (l' := [none, none, none, none, none, none, none, none, none, none, none, none]) (show subL _ _ from trivial) ?_
      exact qL_read_L154 hc he 
    · refine N_iload (pc := 147) hc dL_read_147 rfl ?_
      refine N_aload_n (pc := 149) hc dL_read_149 rfl rfl ?_
      refine N_zlen (pc := 150) hc dL_read_150 (fun v3 => ?_)
      refine N_icmp_le (pc := 151) (tgt := 156) hc dL_read_151 (by decide) ?_ ?_
      · refine N_sub (l' := [none, some ((13, .ref x1) : TV), some ((13, .ref x2) : TV), none, some ((0, .int x4) : TV), some ((43, .ref x5) : TV), some ((53, .ref x6) : TV), none, some ((0, .int x8) : TV), some ((0, .int x9) : TV), some ((0, .int s0) : TV), none]) ⟨rfl, ⟨rfl, ⟨rfl, ⟨rfl, ⟨rfl, ⟨rfl, ⟨rfl, ⟨rfl, trivial⟩⟩⟩⟩⟩⟩⟩⟩ ?_
        exact qL_read_L156 hc he hk16 x1 x2 x4 x5 x6 x8 x9 s0
      · refine N_sub (l' := [none, none, none, none, none, none, none, none, none, none, none, none]) (show subL _ _ from trivial) ?_
        exact qL_read_L154 hc he 
set_option maxRecDepth 100000 in
set_option maxHeartbeats 8000000 in
theorem qL_read_L107 {κ : Cx} {fin : (Option Nat) → Mm → Prop} {mc ms : Nat} (hc : Jc κ RL cL_read 12 9 mc ms 279) (he : EdW κ cL_read (tO 13) .areturn (fun _ => True) fin) {k16 : Nat → Nat → Int32 → Int32 → Nat → Mm → Option ((Option Nat) × Mm × Nat × Nat)} (hk16 : ∀ (x1 : Nat) (x2 : Nat) (x3 : Int32) (x4 : Int32) (x5 : Nat), Jw κ (wM κ) 12 fin 16 [none, some ((13, .ref x1) : TV), some ((13, .ref x2) : TV), some ((0, .int x3) : TV), some ((0, .int x4) : TV), some ((43, .ref x5) : TV), none, none, none, none, none, none] [] (k16 x1 x2 x3 x4 x5)) (x1 : Nat) (x2 : Nat) (x3 : Int32) (x4 : Int32) (x5 : Nat) (x6 : Nat) (x8 : Int32) (s0 : Int32) : Jw κ (wM κ) 12 fin 107 [none, some ((13, .ref x1) : TV), some ((13, .ref x2) : TV), some ((0, .int x3) : TV), some ((0, .int x4) : TV), some ((43, .ref x5) : TV), some ((53, .ref x6) : TV), none, some ((0, .int x8) : TV), none, none, none] [((0, .int s0) : TV)] (gL_read_L107 k16 x1 x2 x3 x4 x5 x6 x8 s0) := by
  unfold gL_read_L107
  refine N_istore (pc := 107) (l' := [none, some ((13, .ref x1) : TV), some ((13, .ref x2) : TV), some ((0, .int x3) : TV), some ((0, .int x4) : TV), some ((43, .ref x5) : TV), some ((53, .ref x6) : TV), none, some ((0, .int x8) : TV), some ((0, .int s0) : TV), none, none]) hc dL_read_107 (by decide) rfl rfl ?_
  refine N_aload (pc := 109) hc dL_read_109 rfl ?_
  refine N_getNI (pc := 111) hc clX8 (k := 0) (Nat.le_of_ble_eq_true rfl) rfl (hst0 := "DotRunsLaw") (by decide +kernel) dL_read_111 (fun v4 => ?_)
  refine N_iconst (pc := 114) (v := 2) hc dL_read_114 (by decide) ?_
  refine N_icmp_ne (pc := 115) (tgt := 129) hc dL_read_115 (by decide) ?_ ?_
  · refine N_iload (pc := 129) hc dL_read_129 rfl ?_
    refine N_sub (l' := [none, some ((13, .ref x1) : TV), some ((13, .ref x2) : TV), some ((0, .int x3) : TV), some ((0, .int x4) : TV), some ((43, .ref x5) : TV), some ((53, .ref x6) : TV), none, some ((0, .int x8) : TV), some ((0, .int s0) : TV), none, none]) ⟨rfl, ⟨rfl, ⟨rfl, ⟨rfl, ⟨rfl, ⟨rfl, ⟨rfl, ⟨rfl, trivial⟩⟩⟩⟩⟩⟩⟩⟩ ?_
    exact qL_read_L131 hc he hk16 x1 x2 x3 x4 x5 x6 x8 s0 s0
  · refine N_iload (pc := 118) hc dL_read_118 rfl ?_
    refine N_aload (pc := 120) hc dL_read_120 rfl ?_
    refine N_getNI (pc := 122) hc clX8 (k := 2) (Nat.le_of_ble_eq_true rfl) rfl (hst0 := "DotRunsLaw") (by decide +kernel) dL_read_122 (fun v5 => ?_)
    refine N_iadd (pc := 125) hc dL_read_125 ?_
    refine N_goto (pc := 126) (tgt := 131) hc dL_read_126 (by decide) ?_
    refine N_sub (l' := [none, some ((13, .ref x1) : TV), some ((13, .ref x2) : TV), some ((0, .int x3) : TV), some ((0, .int x4) : TV), some ((43, .ref x5) : TV), some ((53, .ref x6) : TV), none, some ((0, .int x8) : TV), some ((0, .int s0) : TV), none, none]) ⟨rfl, ⟨rfl, ⟨rfl, ⟨rfl, ⟨rfl, ⟨rfl, ⟨rfl, ⟨rfl, trivial⟩⟩⟩⟩⟩⟩⟩⟩ ?_
    exact qL_read_L131 hc he hk16 x1 x2 x3 x4 x5 x6 x8 s0 (s0 + v5)
set_option maxRecDepth 100000 in
set_option maxHeartbeats 8000000 in
theorem qL_read_L16 {κ : Cx} {fin : (Option Nat) → Mm → Prop} {mc ms : Nat} (hc : Jc κ RL cL_read 12 9 mc ms 279) (he : EdW κ cL_read (tO 13) .areturn (fun _ => True) fin) : ∀ (n : Nat) (x1 : Nat) (x2 : Nat) (x3 : Int32) (x4 : Int32) (x5 : Nat), Jw κ (wM κ) 12 fin 16 [none, some ((13, .ref x1) : TV), some ((13, .ref x2) : TV), some ((0, .int x3) : TV), some ((0, .int x4) : TV), some ((43, .ref x5) : TV), none, none, none, none, none, none] [] (gL_read_L16 n x1 x2 x3 x4 x5) := by
  intro n
  induction n with
  | zero => intro x1 x2 x3 x4 x5; exact N_fail
  | succ n ih =>
    intro x1 x2 x3 x4 x5
    unfold gL_read_L16
    refine N_aload (pc := 16) hc dL_read_16 rfl ?_
    refine N_callF (pc := 18) hc clJx35411 (y := yJx35411_hasNext_aae02) (x := ⟨"java/util/Iterator", "hasNext", "()Z"⟩) (As := []) (ZJx35411_hasNext_aae02 x5) dL_read_18 (n := 0) ⟨by decide +kernel, by decide +kernel, by decide +kernel⟩ tw840 rfl (by decide) ⟨by decide +kernel, by decide +kernel⟩ (tw_F tw1117 tw863 tw865 tw35 tw867) rfl (Nat.le_of_ble_eq_true rfl) (Nat.le_of_ble_eq_true rfl) (Nat.le_of_ble_eq_true rfl) rfl (fun v6 => ?_)
    show Jw κ (wM κ) 12 fin 23 [none, some ((13, .ref x1) : TV), some ((13, .ref x2) : TV), some ((0, .int x3) : TV), some ((0, .int x4) : TV), some ((43, .ref x5) : TV), none, none, none, none, none, none] [((0, .int v6) : TV)] _
    refine N_if_eq (pc := 23) (tgt := 242) hc dL_read_23 (by decide) ?_ ?_
    · refine N_iload_n (pc := 242) hc dL_read_242 rfl rfl ?_
      refine N_aload_n (pc := 243) hc dL_read_243 rfl rfl ?_
      refine N_zlen (pc := 244) hc dL_read_244 (fun v7 => ?_)
      refine N_icmp_ne (pc := 245) (tgt := 252) hc dL_read_245 (by decide) ?_ ?_
      · refine N_null (pc := 252) (k := 13) hc dL_read_252 ?_
        refine N_sub (l' := [none, none, none, none, none, none, none, none, none, none, none, none]) (show subL _ _ from trivial) ?_
        exact qL_read_L253 hc he none
      · refine N_aload_n (pc := 248) hc dL_read_248 rfl rfl ?_
        refine N_goto (pc := 249) (tgt := 253) hc dL_read_249 (by decide) ?_
        refine N_sub (l' := [none, none, none, none, none, none, none, none, none, none, none, none]) (show subL _ _ from trivial) ?_
        exact qL_read_L253 hc he (some x2)
    · refine N_aload (pc := 26) hc dL_read_26 rfl ?_
      refine N_callF (pc := 28) hc clJx35411 (y := yJx35411_next_0502b) (x := ⟨"java/util/Iterator", "next", "()Ljava/lang/Object;"⟩) (As := []) (ZJx35411_next_0502b x5) dL_read_28 (n := 0) ⟨by decide +kernel, by decide +kernel, by decide +kernel⟩ tw840 rfl (by decide) ⟨by decide +kernel, by decide +kernel⟩ (tw_F tw1119 tw872 tw874 tw35 tw876) rfl (Nat.le_of_ble_eq_true rfl) (Nat.le_of_ble_eq_true rfl) (Nat.le_of_ble_eq_true rfl) rfl (fun h8 => ?_)
      show Jw κ (wM κ) 12 fin 33 [none, some ((13, .ref x1) : TV), some ((13, .ref x2) : TV), some ((0, .int x3) : TV), some ((0, .int x4) : TV), some ((43, .ref x5) : TV), none, none, none, none, none, none] [((16, .ref h8) : TV)] _
      refine N_castM (pc := 33) hc tw1125 tw1126 dL_read_33 ?_
      refine N_astore (pc := 36) (l' := [none, some ((13, .ref x1) : TV), some ((13, .ref x2) : TV), some ((0, .int x3) : TV), some ((0, .int x4) : TV), some ((43, .ref x5) : TV), some ((53, .ref h8) : TV), none, none, none, none, none]) hc dL_read_36 (by decide) rfl rfl ?_
      refine N_iload_n (pc := 38) hc dL_read_38 rfl rfl ?_
      refine N_aload_n (pc := 39) hc dL_read_39 rfl rfl ?_
      refine N_zlen (pc := 40) hc dL_read_40 (fun v9 => ?_)
      refine N_icmp_ne (pc := 41) (tgt := 46) hc dL_read_41 (by decide) ?_ ?_
      · refine N_aload_n (pc := 46) hc dL_read_46 rfl rfl ?_
        refine N_iload_n (pc := 47) hc dL_read_47 rfl rfl ?_
        refine N_iload (pc := 48) hc dL_read_48 rfl ?_
        refine N_callS (pc := 50) hc (As := [((13, .ref x1) : TV), ((0, .int x3) : TV), ((0, .int x4) : TV)]) (ZL_marksBehind x1 x3 x4) dL_read_50 mzL_marksBehind tw1088 tw1089 tw0 tw1090 rfl (Nat.le_of_ble_eq_true rfl) (Nat.le_of_ble_eq_true rfl) (Nat.le_of_ble_eq_true rfl) rfl (fun h10 => ?_)
        show Jw κ (wM κ) 12 fin 53 [none, some ((13, .ref x1) : TV), some ((13, .ref x2) : TV), some ((0, .int x3) : TV), some ((0, .int x4) : TV), some ((43, .ref x5) : TV), some ((53, .ref h8) : TV), none, none, none, none, none] [((11, .ref h10) : TV)] _
        refine N_astore (pc := 53) (l' := [none, some ((13, .ref x1) : TV), some ((13, .ref x2) : TV), some ((0, .int x3) : TV), some ((0, .int x4) : TV), some ((43, .ref x5) : TV), some ((53, .ref h8) : TV), some ((11, .ref h10) : TV), none, none, none, none]) hc dL_read_53 (by decide) rfl rfl ?_
        refine N_iload_n (pc := 55) hc dL_read_55 rfl rfl ?_
        refine N_iconst (pc := 56) (v := 0) hc dL_read_56 (by decide) ?_
        refine N_mmax (pc := 57) hc dL_read_57 tw1149 tw906 tw19 tw907 (Nat.le_of_ble_eq_true rfl) (Nat.le_of_ble_eq_true rfl) (Nat.le_of_ble_eq_true rfl) ?_
        refine N_nmi (fun v11 => ?_)
        refine N_istore (pc := 60) (l' := [none, some ((13, .ref x1) : TV), some ((13, .ref x2) : TV), some ((0, .int x3) : TV), some ((0, .int x4) : TV), some ((43, .ref x5) : TV), some ((53, .ref h8) : TV), some ((11, .ref h10) : TV), some ((0, .int v11) : TV), none, none, none]) hc dL_read_60 (by decide) rfl rfl ?_
        refine N_aload (pc := 62) hc dL_read_62 rfl ?_
        refine N_getNI (pc := 64) hc clX8 (k := 0) (Nat.le_of_ble_eq_true rfl) rfl (hst0 := "DotRunsLaw") (by decide +kernel) dL_read_64 (fun v12 => ?_)
        refine N_if_ne (pc := 67) (tgt := 77) hc dL_read_67 (by decide) ?_ ?_
        · refine N_aload (pc := 77) hc dL_read_77 rfl ?_
          refine N_getNI (pc := 79) hc clX8 (k := 0) (Nat.le_of_ble_eq_true rfl) rfl (hst0 := "DotRunsLaw") (by decide +kernel) dL_read_79 (fun v13 => ?_)
          refine N_iconst (pc := 82) (v := 1) hc dL_read_82 (by decide) ?_
          refine N_icmp_ne (pc := 83) (tgt := 99) hc dL_read_83 (by decide) ?_ ?_
          · refine N_iload (pc := 99) hc dL_read_99 rfl ?_
            refine N_aload (pc := 101) hc dL_read_101 rfl ?_
            refine N_getNI (pc := 103) hc clX8 (k := 1) (Nat.le_of_ble_eq_true rfl) rfl (hst0 := "DotRunsLaw") (by decide +kernel) dL_read_103 (fun v14 => ?_)
            refine N_iadd (pc := 106) hc dL_read_106 ?_
            refine N_sub (l' := [none, some ((13, .ref x1) : TV), some ((13, .ref x2) : TV), some ((0, .int x3) : TV), some ((0, .int x4) : TV), some ((43, .ref x5) : TV), some ((53, .ref h8) : TV), none, some ((0, .int v11) : TV), none, none, none]) ⟨rfl, ⟨rfl, ⟨rfl, ⟨rfl, ⟨rfl, ⟨rfl, ⟨rfl, trivial⟩⟩⟩⟩⟩⟩⟩ ?_
            exact qL_read_L107 hc he ih x1 x2 x3 x4 x5 h8 v11 (v11 + v14)
          · refine N_aload (pc := 86) hc dL_read_86 rfl ?_
            refine N_iconst (pc := 88) (v := 0) hc dL_read_88 (by decide) ?_
            refine N_iald (pc := 89) hc dL_read_89 (fun v15 => ?_)
            refine N_aload (pc := 90) hc dL_read_90 rfl ?_
            refine N_getNI (pc := 92) hc clX8 (k := 1) (Nat.le_of_ble_eq_true rfl) rfl (hst0 := "DotRunsLaw") (by decide +kernel) dL_read_92 (fun v16 => ?_)
            refine N_iadd (pc := 95) hc dL_read_95 ?_
            refine N_goto (pc := 96) (tgt := 107) hc dL_read_96 (by decide) ?_
            refine N_sub (l' := [none, some ((13, .ref x1) : TV), some ((13, .ref x2) : TV), some ((0, .int x3) : TV), some ((0, .int x4) : TV), some ((43, .ref x5) : TV), some ((53, .ref h8) : TV), none, some ((0, .int v11) : TV), none, none, none]) ⟨rfl, ⟨rfl, ⟨rfl, ⟨rfl, ⟨rfl, ⟨rfl, ⟨rfl, trivial⟩⟩⟩⟩⟩⟩⟩ ?_
            exact qL_read_L107 hc he ih x1 x2 x3 x4 x5 h8 v11 (v15 + v16)
        · refine N_aload (pc := 70) hc dL_read_70 rfl ?_
          refine N_iconst (pc := 72) (v := 1) hc dL_read_72 (by decide) ?_
          refine N_iald (pc := 73) hc dL_read_73 (fun v17 => ?_)
          refine N_goto (pc := 74) (tgt := 107) hc dL_read_74 (by decide) ?_
          refine N_sub (l' := [none, some ((13, .ref x1) : TV), some ((13, .ref x2) : TV), some ((0, .int x3) : TV), some ((0, .int x4) : TV), some ((43, .ref x5) : TV), some ((53, .ref h8) : TV), none, some ((0, .int v11) : TV), none, none, none]) ⟨rfl, ⟨rfl, ⟨rfl, ⟨rfl, ⟨rfl, ⟨rfl, ⟨rfl, trivial⟩⟩⟩⟩⟩⟩⟩ ?_
          exact qL_read_L107 hc he ih x1 x2 x3 x4 x5 h8 v11 v17
      · refine N_null (pc := 44) (k := 13) hc dL_read_44 ?_
        exact N_ret (pc := 45) he dL_read_45 trivial rfl
set_option maxRecDepth 100000 in
set_option maxHeartbeats 8000000 in
theorem qL_read {κ : Cx} {fin : (Option Nat) → Mm → Prop} {mc ms : Nat} (hc : Jc κ RL cL_read 12 9 mc ms 279) (he : EdW κ cL_read (tO 13) .areturn (fun _ => True) fin) (x0 : Nat) (x1 : Nat) : Jw κ (wM κ) 12 fin 0 [some ((44, .ref x0) : TV), some ((13, .ref x1) : TV), none, none, none, none, none, none, none, none, none, none] [] (gL_read x0 x1) := by
  unfold gL_read
  refine N_aload_n (pc := 0) hc dL_read_0 rfl rfl ?_
  refine N_zlen (pc := 1) hc dL_read_1 (fun v18 => ?_)
  refine N_newa13 (pc := 2) hc tw950 dL_read_2 (fun h19 => ?_)
  refine N_astore_n (pc := 4) (l' := [some ((44, .ref x0) : TV), some ((13, .ref x1) : TV), some ((13, .ref h19) : TV), none, none, none, none, none, none, none, none, none]) hc dL_read_4 rfl (by decide) rfl rfl ?_
  refine N_iconst (pc := 5) (v := (-1)) hc dL_read_5 (by decide) ?_
  refine N_istore_n (pc := 6) (l' := [some ((44, .ref x0) : TV), some ((13, .ref x1) : TV), some ((13, .ref h19) : TV), some ((0, .int (-1)) : TV), none, none, none, none, none, none, none, none]) hc dL_read_6 rfl (by decide) rfl rfl ?_
  refine N_iconst (pc := 7) (v := 0) hc dL_read_7 (by decide) ?_
  refine N_istore (pc := 8) (l' := [some ((44, .ref x0) : TV), some ((13, .ref x1) : TV), some ((13, .ref h19) : TV), some ((0, .int (-1)) : TV), some ((0, .int 0) : TV), none, none, none, none, none, none, none]) hc dL_read_8 (by decide) rfl rfl ?_
  refine N_aload_n (pc := 10) hc dL_read_10 rfl rfl ?_
  refine N_callV (pc := 11) hc clJx4a65c (As := []) (ZJx4a65c_iterator_32c93 x0) dL_read_11 mzJx4a65c_iterator_32c93 rfl tw1115 tw836 tw837 tw13 tw838 rfl (Nat.le_of_ble_eq_true rfl) (Nat.le_of_ble_eq_true rfl) (Nat.le_of_ble_eq_true rfl) rfl (fun h20 => ?_)
  show Jw κ (wM κ) 12 fin 14 [some ((44, .ref x0) : TV), some ((13, .ref x1) : TV), some ((13, .ref h19) : TV), some ((0, .int (-1)) : TV), some ((0, .int 0) : TV), none, none, none, none, none, none, none] [((43, .ref h20) : TV)] _
  refine N_astore (pc := 14) (l' := [some ((44, .ref x0) : TV), some ((13, .ref x1) : TV), some ((13, .ref h19) : TV), some ((0, .int (-1)) : TV), some ((0, .int 0) : TV), some ((43, .ref h20) : TV), none, none, none, none, none, none]) hc dL_read_14 (by decide) rfl rfl ?_
  refine N_sub (l' := [none, some ((13, .ref x1) : TV), some ((13, .ref h19) : TV), some ((0, .int (-1)) : TV), some ((0, .int 0) : TV), some ((43, .ref h20) : TV), none, none, none, none, none, none]) ⟨rfl, ⟨rfl, ⟨rfl, ⟨rfl, ⟨rfl, trivial⟩⟩⟩⟩⟩ ?_
  exact qL_read_L16 hc he fu x1 h19 (-1) 0 h20
theorem mzL_read : MOk yL_read 2 := ⟨by decide +kernel, by decide +kernel, by decide +kernel⟩
set_option maxRecDepth 100000 in
set_option maxHeartbeats 8000000 in
theorem ZL_read (x0 : Nat) (x1 : Nat) : Cw (tO 13) yL_read cL_read 12 (some (.array .boolean)) 9 279 [((44, .ref x0) : TV), ((13, .ref x1) : TV)] (gL_read x0 x1) :=
  Cw_O (Or.inr ⟨_, rfl⟩) (j := 10) (by decide +kernel) rfl rfl (Nat.le_of_ble_eq_true rfl) (fun κ fin mc ms hc he => qL_read hc he x0 x1)
set_option maxRecDepth 100000 in
set_option maxHeartbeats 8000000 in
theorem qX9_wrong_L47 {κ : Cx} {fin : Int32 → Mm → Prop} {mc ms : Nat} (hc : Jc κ RX9 cX9_wrong 4 4 mc ms 164) (he : EdW κ cX9_wrong tI .ireturn (fun _ => True) fin) {k4 : Nat → Int32 → Int32 → Int32 → Mm → Option (Int32 × Mm × Nat × Nat)} (hk4 : ∀ (x0 : Nat) (x1 : Int32) (x2 : Int32) (x3 : Int32), Jw κ (wM κ) 4 fin 4 [some ((54, .ref x0) : TV), some ((0, .int x1) : TV), some ((0, .int x2) : TV), some ((0, .int x3) : TV)] [] (k4 x0 x1 x2 x3)) (x0 : Nat) (x1 : Int32) (x3 : Int32) (s0 : Int32) (s1 : Int32) : Jw κ (wM κ) 4 fin 47 [some ((54, .ref x0) : TV), some ((0, .int x1) : TV), none, some ((0, .int x3) : TV)] [((0, .int s0) : TV), ((0, .int s1) : TV)] (gX9_wrong_L47 k4 x0 x1 x3 s0 s1) := by
  unfold gX9_wrong_L47
  refine N_iadd (pc := 47) hc dX9_wrong_47 ?_
  refine N_nmi (fun v1 => ?_)
  refine N_istore_n (pc := 48) (l' := [some ((54, .ref x0) : TV), some ((0, .int x1) : TV), some ((0, .int v1) : TV), some ((0, .int x3) : TV)]) hc dX9_wrong_48 rfl (by decide) rfl rfl ?_
  refine N_iinc (pc := 49) (v := x3 + 1) (l' := [some ((54, .ref x0) : TV), some ((0, .int x1) : TV), some ((0, .int v1) : TV), some ((0, .int (x3 + 1)) : TV)]) hc dX9_wrong_49 rfl rfl (by decide) rfl rfl ?_
  refine N_goto (pc := 52) (tgt := 4) hc dX9_wrong_52 (by decide) ?_
  refine N_sub (l' := [some ((54, .ref x0) : TV), some ((0, .int x1) : TV), some ((0, .int v1) : TV), some ((0, .int (x3 + 1)) : TV)]) ⟨rfl, ⟨rfl, ⟨rfl, ⟨rfl, trivial⟩⟩⟩⟩ ?_
  exact hk4 x0 x1 v1 (x3 + 1)
set_option maxRecDepth 100000 in
set_option maxHeartbeats 8000000 in
theorem qX9_wrong_L4 {κ : Cx} {fin : Int32 → Mm → Prop} {mc ms : Nat} (hc : Jc κ RX9 cX9_wrong 4 4 mc ms 164) (he : EdW κ cX9_wrong tI .ireturn (fun _ => True) fin) : ∀ (n : Nat) (x0 : Nat) (x1 : Int32) (x2 : Int32) (x3 : Int32), Jw κ (wM κ) 4 fin 4 [some ((54, .ref x0) : TV), some ((0, .int x1) : TV), some ((0, .int x2) : TV), some ((0, .int x3) : TV)] [] (gX9_wrong_L4 n x0 x1 x2 x3) := by
  intro n
  induction n with
  | zero => intro x0 x1 x2 x3; exact N_fail
  | succ n ih =>
    intro x0 x1 x2 x3
    unfold gX9_wrong_L4
    refine N_iload_n (pc := 4) hc dX9_wrong_4 rfl rfl ?_
    refine N_aload_n (pc := 5) hc dX9_wrong_5 rfl rfl ?_
    refine N_getI (pc := 6) hc clX9 (k := 0) (Nat.le_of_ble_eq_true rfl) rfl tw769 (Or.inl rfl) dX9_wrong_6 (fun v2 => ?_)
    refine N_icmp_ge (pc := 9) (tgt := 55) hc dX9_wrong_9 (by decide) ?_ ?_
    · refine N_iload_n (pc := 55) hc dX9_wrong_55 rfl rfl ?_
      exact N_ret (pc := 56) he dX9_wrong_56 trivial rfl
    · refine N_iload_n (pc := 12) hc dX9_wrong_12 rfl rfl ?_
      refine N_aload_n (pc := 13) hc dX9_wrong_13 rfl rfl ?_
      refine N_getA (pc := 14) hc clX9 (k := 4) (kd := 44) (Nat.le_of_ble_eq_true rfl) rfl (Nat.le_of_ble_eq_true rfl) tw777 (Or.inl rfl) dX9_wrong_14 (fun v3 => ?_)
      refine N_iload_n (pc := 17) hc dX9_wrong_17 rfl rfl ?_
      refine N_callV (pc := 18) hc clJx4a65c (As := [((0, .int x1) : TV)]) (ZJx4a65c_get_915e3 v3 x1) dX9_wrong_18 mzJx4a65c_get_915e3 rfl tw1079 tw1059 tw1060 tw13 tw1061 rfl (Nat.le_of_ble_eq_true rfl) (Nat.le_of_ble_eq_true rfl) (Nat.le_of_ble_eq_true rfl) rfl (fun h4 => ?_)
      show Jw κ (wM κ) 4 fin 21 [some ((54, .ref x0) : TV), some ((0, .int x1) : TV), some ((0, .int x2) : TV), some ((0, .int x3) : TV)] [((16, .ref h4) : TV), ((0, .int x2) : TV)] _
      refine N_castZ (pc := 21) hc tw881 dX9_wrong_21 ?_
      refine N_iload_n (pc := 24) hc dX9_wrong_24 rfl rfl ?_
      refine N_zald (pc := 25) hc dX9_wrong_25 (fun v5 => ?_)
      refine N_aload_n (pc := 26) hc dX9_wrong_26 rfl rfl ?_
      refine N_getA (pc := 27) hc clX9 (k := 3) (kd := 44) (Nat.le_of_ble_eq_true rfl) rfl (Nat.le_of_ble_eq_true rfl) tw775 (Or.inl rfl) dX9_wrong_27 (fun v6 => ?_)
      refine N_iload_n (pc := 30) hc dX9_wrong_30 rfl rfl ?_
      refine N_callV (pc := 31) hc clJx4a65c (As := [((0, .int x1) : TV)]) (ZJx4a65c_get_915e3 v6 x1) dX9_wrong_31 mzJx4a65c_get_915e3 rfl tw1079 tw1059 tw1060 tw13 tw1061 rfl (Nat.le_of_ble_eq_true rfl) (Nat.le_of_ble_eq_true rfl) (Nat.le_of_ble_eq_true rfl) rfl (fun h7 => ?_)
      show Jw κ (wM κ) 4 fin 34 [some ((54, .ref x0) : TV), some ((0, .int x1) : TV), some ((0, .int x2) : TV), some ((0, .int x3) : TV)] [((16, .ref h7) : TV), ((0, .int v5) : TV), ((0, .int x2) : TV)] _
      refine N_castZ (pc := 34) hc tw881 dX9_wrong_34 ?_
      refine N_iload_n (pc := 37) hc dX9_wrong_37 rfl rfl ?_
      refine N_zald (pc := 38) hc dX9_wrong_38 (fun v8 => ?_)
      refine N_icmp_ne (pc := 39) (tgt := 46) hc dX9_wrong_39 (by decide) ?_ ?_
      · refine N_iconst (pc := 46) (v := 1) hc dX9_wrong_46 (by decide) ?_
        refine N_sub (l' := [some ((54, .ref x0) : TV), some ((0, .int x1) : TV), none, some ((0, .int x3) : TV)]) ⟨rfl, ⟨rfl, ⟨rfl, trivial⟩⟩⟩ ?_
        exact qX9_wrong_L47 hc he ih x0 x1 x3 1 x2
      · refine N_iconst (pc := 42) (v := 0) hc dX9_wrong_42 (by decide) ?_
        refine N_goto (pc := 43) (tgt := 47) hc dX9_wrong_43 (by decide) ?_
        refine N_sub (l' := [some ((54, .ref x0) : TV), some ((0, .int x1) : TV), none, some ((0, .int x3) : TV)]) ⟨rfl, ⟨rfl, ⟨rfl, trivial⟩⟩⟩ ?_
        exact qX9_wrong_L47 hc he ih x0 x1 x3 0 x2
set_option maxRecDepth 100000 in
set_option maxHeartbeats 8000000 in
theorem qX9_wrong {κ : Cx} {fin : Int32 → Mm → Prop} {mc ms : Nat} (hc : Jc κ RX9 cX9_wrong 4 4 mc ms 164) (he : EdW κ cX9_wrong tI .ireturn (fun _ => True) fin) (x0 : Nat) (x1 : Int32) : Jw κ (wM κ) 4 fin 0 [some ((54, .ref x0) : TV), some ((0, .int x1) : TV), none, none] [] (gX9_wrong x0 x1) := by
  unfold gX9_wrong
  refine N_iconst (pc := 0) (v := 0) hc dX9_wrong_0 (by decide) ?_
  refine N_istore_n (pc := 1) (l' := [some ((54, .ref x0) : TV), some ((0, .int x1) : TV), some ((0, .int 0) : TV), none]) hc dX9_wrong_1 rfl (by decide) rfl rfl ?_
  refine N_iconst (pc := 2) (v := 0) hc dX9_wrong_2 (by decide) ?_
  refine N_istore_n (pc := 3) (l' := [some ((54, .ref x0) : TV), some ((0, .int x1) : TV), some ((0, .int 0) : TV), some ((0, .int 0) : TV)]) hc dX9_wrong_3 rfl (by decide) rfl rfl ?_
  refine N_sub (l' := [some ((54, .ref x0) : TV), some ((0, .int x1) : TV), some ((0, .int 0) : TV), some ((0, .int 0) : TV)]) ⟨rfl, ⟨rfl, ⟨rfl, ⟨rfl, trivial⟩⟩⟩⟩ ?_
  exact qX9_wrong_L4 hc he fu x0 x1 0 0
theorem mzX9_wrong : MOk yX9_wrong 1 := ⟨by decide +kernel, by decide +kernel, by decide +kernel⟩
set_option maxRecDepth 100000 in
set_option maxHeartbeats 8000000 in
theorem ZX9_wrong (x0 : Nat) (x1 : Int32) : Cw tI yX9_wrong cX9_wrong 4 (some .int) 4 164 [((54, .ref x0) : TV), ((0, .int x1) : TV)] (gX9_wrong x0 x1) :=
  Cw_I (j := 2) (by decide +kernel) rfl rfl (Nat.le_of_ble_eq_true rfl) (fun κ fin mc ms hc he => qX9_wrong hc he x0 x1)
set_option maxRecDepth 100000 in
set_option maxHeartbeats 8000000 in
theorem qX9_allWrong_L4 {κ : Cx} {fin : Int32 → Mm → Prop} {mc ms : Nat} (hc : Jc κ RX9 cX9_allWrong 3 5 mc ms 187) (he : EdW κ cX9_allWrong tI .ireturn (fun _ => True) fin) : ∀ (n : Nat) (x0 : Nat) (x1 : Int32) (x2 : Int32), Jw κ (wM κ) 3 fin 4 [some ((54, .ref x0) : TV), some ((0, .int x1) : TV), some ((0, .int x2) : TV)] [] (gX9_allWrong_L4 n x0 x1 x2) := by
  intro n
  induction n with
  | zero => intro x0 x1 x2; exact N_fail
  | succ n ih =>
    intro x0 x1 x2
    unfold gX9_allWrong_L4
    refine N_iload_n (pc := 4) hc dX9_allWrong_4 rfl rfl ?_
    refine N_aload_n (pc := 5) hc dX9_allWrong_5 rfl rfl ?_
    refine N_getA (pc := 6) hc clX9 (k := 3) (kd := 44) (Nat.le_of_ble_eq_true rfl) rfl (Nat.le_of_ble_eq_true rfl) tw775 (Or.inl rfl) dX9_allWrong_6 (fun v1 => ?_)
    refine N_callV (pc := 9) hc clJx4a65c (As := []) (ZJx4a65c_size_8abf5 v1) dX9_allWrong_9 mzJx4a65c_size_8abf5 rfl tw1238 tw976 tw977 tw13 tw978 rfl (Nat.le_of_ble_eq_true rfl) (Nat.le_of_ble_eq_true rfl) (Nat.le_of_ble_eq_true rfl) rfl (fun v2 => ?_)
    show Jw κ (wM κ) 3 fin 12 [some ((54, .ref x0) : TV), some ((0, .int x1) : TV), some ((0, .int x2) : TV)] [((0, .int v2) : TV), ((0, .int x2) : TV)] _
    refine N_icmp_ge (pc := 12) (tgt := 29) hc dX9_allWrong_12 (by decide) ?_ ?_
    · refine N_iload_n (pc := 29) hc dX9_allWrong_29 rfl rfl ?_
      exact N_ret (pc := 30) he dX9_allWrong_30 trivial rfl
    · refine N_iload_n (pc := 15) hc dX9_allWrong_15 rfl rfl ?_
      refine N_aload_n (pc := 16) hc dX9_allWrong_16 rfl rfl ?_
      refine N_iload_n (pc := 17) hc dX9_allWrong_17 rfl rfl ?_
      refine N_callV (pc := 18) hc clX9 (As := [((0, .int x2) : TV)]) (ZX9_wrong x0 x2) dX9_allWrong_18 mzX9_wrong rfl tw1245 tw1246 tw1247 tw10 tw1248 rfl (Nat.le_of_ble_eq_true rfl) (Nat.le_of_ble_eq_true rfl) (Nat.le_of_ble_eq_true rfl) rfl (fun v3 => ?_)
      show Jw κ (wM κ) 3 fin 21 [some ((54, .ref x0) : TV), some ((0, .int x1) : TV), some ((0, .int x2) : TV)] [((0, .int v3) : TV), ((0, .int x1) : TV)] _
      refine N_iadd (pc := 21) hc dX9_allWrong_21 ?_
      refine N_nmi (fun v4 => ?_)
      refine N_istore_n (pc := 22) (l' := [some ((54, .ref x0) : TV), some ((0, .int v4) : TV), some ((0, .int x2) : TV)]) hc dX9_allWrong_22 rfl (by decide) rfl rfl ?_
      refine N_iinc (pc := 23) (v := x2 + 1) (l' := [some ((54, .ref x0) : TV), some ((0, .int v4) : TV), some ((0, .int (x2 + 1)) : TV)]) hc dX9_allWrong_23 rfl rfl (by decide) rfl rfl ?_
      refine N_goto (pc := 26) (tgt := 4) hc dX9_allWrong_26 (by decide) ?_
      refine N_sub (l' := [some ((54, .ref x0) : TV), some ((0, .int v4) : TV), some ((0, .int (x2 + 1)) : TV)]) ⟨rfl, ⟨rfl, ⟨rfl, trivial⟩⟩⟩ ?_
      exact ih x0 v4 (x2 + 1)
set_option maxRecDepth 100000 in
set_option maxHeartbeats 8000000 in
theorem qX9_allWrong {κ : Cx} {fin : Int32 → Mm → Prop} {mc ms : Nat} (hc : Jc κ RX9 cX9_allWrong 3 5 mc ms 187) (he : EdW κ cX9_allWrong tI .ireturn (fun _ => True) fin) (x0 : Nat) : Jw κ (wM κ) 3 fin 0 [some ((54, .ref x0) : TV), none, none] [] (gX9_allWrong x0) := by
  unfold gX9_allWrong
  refine N_iconst (pc := 0) (v := 0) hc dX9_allWrong_0 (by decide) ?_
  refine N_istore_n (pc := 1) (l' := [some ((54, .ref x0) : TV), some ((0, .int 0) : TV), none]) hc dX9_allWrong_1 rfl (by decide) rfl rfl ?_
  refine N_iconst (pc := 2) (v := 0) hc dX9_allWrong_2 (by decide) ?_
  refine N_istore_n (pc := 3) (l' := [some ((54, .ref x0) : TV), some ((0, .int 0) : TV), some ((0, .int 0) : TV)]) hc dX9_allWrong_3 rfl (by decide) rfl rfl ?_
  refine N_sub (l' := [some ((54, .ref x0) : TV), some ((0, .int 0) : TV), some ((0, .int 0) : TV)]) ⟨rfl, ⟨rfl, ⟨rfl, trivial⟩⟩⟩ ?_
  exact qX9_allWrong_L4 hc he fu x0 0 0
theorem mzX9_allWrong : MOk yX9_allWrong 0 := ⟨by decide +kernel, by decide +kernel, by decide +kernel⟩
set_option maxRecDepth 100000 in
set_option maxHeartbeats 8000000 in
theorem ZX9_allWrong (x0 : Nat) : Cw tI yX9_allWrong cX9_allWrong 3 (some .int) 5 187 [((54, .ref x0) : TV)] (gX9_allWrong x0) :=
  Cw_I (j := 2) (by decide +kernel) rfl rfl (Nat.le_of_ble_eq_true rfl) (fun κ fin mc ms hc he => qX9_allWrong hc he x0)
set_option maxRecDepth 100000 in
set_option maxHeartbeats 8000000 in
theorem qX9_count_L39 {κ : Cx} {fin : Int32 → Mm → Prop} {mc ms : Nat} (hc : Jc κ RX9 cX9_count 7 1 mc ms 100) (he : EdW κ cX9_count tI .ireturn (fun _ => True) fin) {k14 : Int32 → Int32 → Nat → Int32 → Int32 → Mm → Option (Int32 × Mm × Nat × Nat)} (hk14 : ∀ (x1 : Int32) (x2 : Int32) (x3 : Nat) (x4 : Int32) (x5 : Int32), Jw κ (wM κ) 7 fin 14 [none, some ((0, .int x1) : TV), some ((0, .int x2) : TV), some ((11, .ref x3) : TV), some ((0, .int x4) : TV), some ((0, .int x5) : TV), none] [] (k14 x1 x2 x3 x4 x5)) (x1 : Int32) (x3 : Nat) (x4 : Int32) (x5 : Int32) (s0 : Int32) (s1 : Int32) : Jw κ (wM κ) 7 fin 39 [none, some ((0, .int x1) : TV), none, some ((11, .ref x3) : TV), some ((0, .int x4) : TV), some ((0, .int x5) : TV), none] [((0, .int s0) : TV), ((0, .int s1) : TV)] (gX9_count_L39 k14 x1 x3 x4 x5 s0 s1) := by
  unfold gX9_count_L39
  refine N_iadd (pc := 39) hc dX9_count_39 ?_
  refine N_nmi (fun v1 => ?_)
  refine N_istore_n (pc := 40) (l' := [none, some ((0, .int x1) : TV), some ((0, .int v1) : TV), some ((11, .ref x3) : TV), some ((0, .int x4) : TV), some ((0, .int x5) : TV), none]) hc dX9_count_40 rfl (by decide) rfl rfl ?_
  refine N_iinc (pc := 41) (v := x5 + 1) (l' := [none, some ((0, .int x1) : TV), some ((0, .int v1) : TV), some ((11, .ref x3) : TV), some ((0, .int x4) : TV), some ((0, .int (x5 + 1)) : TV), none]) hc dX9_count_41 rfl rfl (by decide) rfl rfl ?_
  refine N_goto (pc := 44) (tgt := 14) hc dX9_count_44 (by decide) ?_
  refine N_sub (l' := [none, some ((0, .int x1) : TV), some ((0, .int v1) : TV), some ((11, .ref x3) : TV), some ((0, .int x4) : TV), some ((0, .int (x5 + 1)) : TV), none]) ⟨rfl, ⟨rfl, ⟨rfl, ⟨rfl, ⟨rfl, trivial⟩⟩⟩⟩⟩ ?_
  exact hk14 x1 v1 x3 x4 (x5 + 1)
set_option maxRecDepth 100000 in
set_option maxHeartbeats 8000000 in
theorem qX9_count_L14 {κ : Cx} {fin : Int32 → Mm → Prop} {mc ms : Nat} (hc : Jc κ RX9 cX9_count 7 1 mc ms 100) (he : EdW κ cX9_count tI .ireturn (fun _ => True) fin) : ∀ (n : Nat) (x1 : Int32) (x2 : Int32) (x3 : Nat) (x4 : Int32) (x5 : Int32), Jw κ (wM κ) 7 fin 14 [none, some ((0, .int x1) : TV), some ((0, .int x2) : TV), some ((11, .ref x3) : TV), some ((0, .int x4) : TV), some ((0, .int x5) : TV), none] [] (gX9_count_L14 n x1 x2 x3 x4 x5) := by
  intro n
  induction n with
  | zero => intro x1 x2 x3 x4 x5; exact N_fail
  | succ n ih =>
    intro x1 x2 x3 x4 x5
    unfold gX9_count_L14
    refine N_iload (pc := 14) hc dX9_count_14 rfl ?_
    refine N_iload (pc := 16) hc dX9_count_16 rfl ?_
    refine N_icmp_ge (pc := 18) (tgt := 47) hc dX9_count_18 (by decide) ?_ ?_
    · refine N_iload_n (pc := 47) hc dX9_count_47 rfl rfl ?_
      exact N_ret (pc := 48) he dX9_count_48 trivial rfl
    · refine N_aload_n (pc := 21) hc dX9_count_21 rfl rfl ?_
      refine N_iload (pc := 22) hc dX9_count_22 rfl ?_
      refine N_iald (pc := 24) hc dX9_count_24 (fun v2 => ?_)
      refine N_istore (pc := 25) (l' := [none, some ((0, .int x1) : TV), some ((0, .int x2) : TV), some ((11, .ref x3) : TV), some ((0, .int x4) : TV), some ((0, .int x5) : TV), some ((0, .int v2) : TV)]) hc dX9_count_25 (by decide) rfl rfl ?_
      refine N_iload_n (pc := 27) hc dX9_count_27 rfl rfl ?_
      refine N_iload (pc := 28) hc dX9_count_28 rfl ?_
      refine N_iload_n (pc := 30) hc dX9_count_30 rfl rfl ?_
      refine N_icmp_ne (pc := 31) (tgt := 38) hc dX9_count_31 (by decide) ?_ ?_
      · refine N_iconst (pc := 38) (v := 0) hc dX9_count_38 (by decide) ?_
        refine N_sub (l' := [none, some ((0, .int x1) : TV), none, some ((11, .ref x3) : TV), some ((0, .int x4) : TV), some ((0, .int x5) : TV), none]) ⟨rfl, ⟨rfl, ⟨rfl, ⟨rfl, trivial⟩⟩⟩⟩ ?_
        exact qX9_count_L39 hc he ih x1 x3 x4 x5 0 x2
      · refine N_iconst (pc := 34) (v := 1) hc dX9_count_34 (by decide) ?_
        refine N_goto (pc := 35) (tgt := 39) hc dX9_count_35 (by decide) ?_
        refine N_sub (l' := [none, some ((0, .int x1) : TV), none, some ((11, .ref x3) : TV), some ((0, .int x4) : TV), some ((0, .int x5) : TV), none]) ⟨rfl, ⟨rfl, ⟨rfl, ⟨rfl, trivial⟩⟩⟩⟩ ?_
        exact qX9_count_L39 hc he ih x1 x3 x4 x5 1 x2
set_option maxRecDepth 100000 in
set_option maxHeartbeats 8000000 in
theorem qX9_count {κ : Cx} {fin : Int32 → Mm → Prop} {mc ms : Nat} (hc : Jc κ RX9 cX9_count 7 1 mc ms 100) (he : EdW κ cX9_count tI .ireturn (fun _ => True) fin) (x0 : Nat) (x1 : Int32) : Jw κ (wM κ) 7 fin 0 [some ((54, .ref x0) : TV), some ((0, .int x1) : TV), none, none, none, none, none] [] (gX9_count x0 x1) := by
  unfold gX9_count
  refine N_iconst (pc := 0) (v := 0) hc dX9_count_0 (by decide) ?_
  refine N_istore_n (pc := 1) (l' := [some ((54, .ref x0) : TV), some ((0, .int x1) : TV), some ((0, .int 0) : TV), none, none, none, none]) hc dX9_count_1 rfl (by decide) rfl rfl ?_
  refine N_aload_n (pc := 2) hc dX9_count_2 rfl rfl ?_
  refine N_getA (pc := 3) hc clX9 (k := 5) (kd := 11) (Nat.le_of_ble_eq_true rfl) rfl (Nat.le_of_ble_eq_true rfl) tw779 (Or.inl rfl) dX9_count_3 (fun v3 => ?_)
  refine N_astore_n (pc := 6) (l' := [some ((54, .ref x0) : TV), some ((0, .int x1) : TV), some ((0, .int 0) : TV), some ((11, .ref v3) : TV), none, none, none]) hc dX9_count_6 rfl (by decide) rfl rfl ?_
  refine N_aload_n (pc := 7) hc dX9_count_7 rfl rfl ?_
  refine N_ilen (pc := 8) hc dX9_count_8 (fun v4 => ?_)
  refine N_istore (pc := 9) (l' := [some ((54, .ref x0) : TV), some ((0, .int x1) : TV), some ((0, .int 0) : TV), some ((11, .ref v3) : TV), some ((0, .int v4) : TV), none, none]) hc dX9_count_9 (by decide) rfl rfl ?_
  refine N_iconst (pc := 11) (v := 0) hc dX9_count_11 (by decide) ?_
  refine N_istore (pc := 12) (l' := [some ((54, .ref x0) : TV), some ((0, .int x1) : TV), some ((0, .int 0) : TV), some ((11, .ref v3) : TV), some ((0, .int v4) : TV), some ((0, .int 0) : TV), none]) hc dX9_count_12 (by decide) rfl rfl ?_
  refine N_sub (l' := [none, some ((0, .int x1) : TV), some ((0, .int 0) : TV), some ((11, .ref v3) : TV), some ((0, .int v4) : TV), some ((0, .int 0) : TV), none]) ⟨rfl, ⟨rfl, ⟨rfl, ⟨rfl, ⟨rfl, trivial⟩⟩⟩⟩⟩ ?_
  exact qX9_count_L14 hc he fu x1 0 v3 v4 0
theorem mzX9_count : MOk yX9_count 1 := ⟨by decide +kernel, by decide +kernel, by decide +kernel⟩
set_option maxRecDepth 100000 in
set_option maxHeartbeats 8000000 in
theorem ZX9_count (x0 : Nat) (x1 : Int32) : Cw tI yX9_count cX9_count 7 (some .int) 1 100 [((54, .ref x0) : TV), ((0, .int x1) : TV)] (gX9_count x0 x1) :=
  Cw_I (j := 5) (by decide +kernel) rfl rfl (Nat.le_of_ble_eq_true rfl) (fun κ fin mc ms hc he => qX9_count hc he x0 x1)
set_option maxRecDepth 100000 in
set_option maxHeartbeats 8000000 in
theorem qX9_init {κ : Cx} {fin : Unit → Mm → Prop} {mc ms : Nat} (hc : Jc κ RX9 cX9_init 1 4 mc ms 160) (he : EdW κ cX9_init tV .return_ (fun _ => True) fin) (hin : Mh κ = "<init>") (x0 : Nat) : Jw κ (wM κ) 1 fin 0 [some ((54, .ref x0) : TV)] [] (gX9_init x0) := by
  unfold gX9_init
  refine N_aload_n (pc := 0) hc dX9_init_0 rfl rfl ?_
  refine N_objInit (pc := 1) hc tw739 tw43 tw44 (Nat.le_of_ble_eq_true rfl) (Nat.le_of_ble_eq_true rfl) (Nat.le_of_ble_eq_true rfl) dX9_init_1 ?_
  refine N_aload_n (pc := 4) hc dX9_init_4 rfl rfl ?_
  refine N_bipush (pc := 5) (v := 6) hc dX9_init_5 (by decide) ?_
  refine N_newa11 (pc := 7) hc tw82 dX9_init_7 (fun h1 => ?_)
  refine N_dup (pc := 9) hc dX9_init_9 rfl ?_
  refine N_iconst (pc := 10) (v := 0) hc dX9_init_10 (by decide) ?_
  refine N_iconst (pc := 11) (v := 4) hc dX9_init_11 (by decide) ?_
  refine N_iast (pc := 12) hc dX9_init_12 ?_
  refine N_dup (pc := 13) hc dX9_init_13 rfl ?_
  refine N_iconst (pc := 14) (v := 1) hc dX9_init_14 (by decide) ?_
  refine N_iconst (pc := 15) (v := 0) hc dX9_init_15 (by decide) ?_
  refine N_iast (pc := 16) hc dX9_init_16 ?_
  refine N_dup (pc := 17) hc dX9_init_17 rfl ?_
  refine N_iconst (pc := 18) (v := 2) hc dX9_init_18 (by decide) ?_
  refine N_iconst (pc := 19) (v := 0) hc dX9_init_19 (by decide) ?_
  refine N_iast (pc := 20) hc dX9_init_20 ?_
  refine N_dup (pc := 21) hc dX9_init_21 rfl ?_
  refine N_iconst (pc := 22) (v := 3) hc dX9_init_22 (by decide) ?_
  refine N_iconst (pc := 23) (v := 0) hc dX9_init_23 (by decide) ?_
  refine N_iast (pc := 24) hc dX9_init_24 ?_
  refine N_dup (pc := 25) hc dX9_init_25 rfl ?_
  refine N_iconst (pc := 26) (v := 4) hc dX9_init_26 (by decide) ?_
  refine N_bipush (pc := 27) (v := 8) hc dX9_init_27 (by decide) ?_
  refine N_iast (pc := 29) hc dX9_init_29 ?_
  refine N_dup (pc := 30) hc dX9_init_30 rfl ?_
  refine N_iconst (pc := 31) (v := 5) hc dX9_init_31 (by decide) ?_
  refine N_bipush (pc := 32) (v := 16) hc dX9_init_32 (by decide) ?_
  refine N_iast (pc := 34) hc dX9_init_34 ?_
  refine N_putA (pc := 35) hc clX9 (k := 1) (kd := 11) (Nat.le_of_ble_eq_true rfl) rfl (Nat.le_of_ble_eq_true rfl) (fun _ => rfl) (fun _ => rfl) tw771 (Or.inl rfl) rfl dX9_init_35 ?_
  refine N_aload_n (pc := 38) hc dX9_init_38 rfl rfl ?_
  refine N_bipush (pc := 39) (v := 20) hc dX9_init_39 (by decide) ?_
  refine N_newa11 (pc := 41) hc tw82 dX9_init_41 (fun h2 => ?_)
  refine N_putA (pc := 43) hc clX9 (k := 2) (kd := 11) (Nat.le_of_ble_eq_true rfl) rfl (Nat.le_of_ble_eq_true rfl) (fun _ => rfl) (fun _ => rfl) tw773 (Or.inl rfl) rfl dX9_init_43 ?_
  refine N_aload_n (pc := 46) hc dX9_init_46 rfl rfl ?_
  refine N_new (pc := 47) hc clJx4a65c dvJx4a65c tw740 tw741 tw13 dX9_init_47 (fun h3 => ?_)
  refine N_dup (pc := 50) hc dX9_init_50 rfl ?_
  refine N_callI (pc := 51) hc (ci := 44) (As := []) (ZJx4a65c_init_da8c8 h3) dX9_init_51 mzJx4a65c_init_da8c8 rfl tw742 tw743 tw13 tw744 rfl (Nat.le_of_ble_eq_true rfl) (Nat.le_of_ble_eq_true rfl) (Nat.le_of_ble_eq_true rfl) rfl (fun _ => ?_)
  show Jw κ (wM κ) 1 fin 54 [some ((54, .ref x0) : TV)] [((44, .ref h3) : TV), ((54, .ref x0) : TV)] _
  refine N_putA (pc := 54) hc clX9 (k := 3) (kd := 44) (Nat.le_of_ble_eq_true rfl) rfl (Nat.le_of_ble_eq_true rfl) (fun _ => rfl) (fun _ => rfl) tw775 (Or.inl rfl) rfl dX9_init_54 ?_
  exact N_ret (pc := 57) he dX9_init_57 trivial rfl
theorem mzX9_init : MOk yX9_init 0 := ⟨by decide +kernel, by decide +kernel, by decide +kernel⟩
set_option maxRecDepth 100000 in
set_option maxHeartbeats 8000000 in
theorem ZX9_init (x0 : Nat) : Cw tV yX9_init cX9_init 1 none 4 160 [((54, .ref x0) : TV)] (gX9_init x0) :=
  Cw_V (j := 0) (by decide +kernel) rfl rfl (Nat.le_of_ble_eq_true rfl) (fun κ fin mc ms hc he hin => qX9_init hc he hin x0)
set_option maxRecDepth 100000 in
set_option maxHeartbeats 8000000 in
theorem qX9_copy_L52 {κ : Cx} {fin : Nat → Mm → Prop} {mc ms : Nat} (hc : Jc κ RX9 cX9_copy 4 7 mc ms 231) (he : EdW κ cX9_copy (tA 54) .areturn (fun _ => True) fin) : ∀ (n : Nat) (x1 : Nat) (x2 : Nat), Jw κ (wM κ) 4 fin 52 [none, some ((54, .ref x1) : TV), some ((43, .ref x2) : TV), none] [] (gX9_copy_L52 n x1 x2) := by
  intro n
  induction n with
  | zero => intro x1 x2; exact N_fail
  | succ n ih =>
    intro x1 x2
    unfold gX9_copy_L52
    refine N_aload_n (pc := 52) hc dX9_copy_52 rfl rfl ?_
    refine N_callF (pc := 53) hc clJx35411 (y := yJx35411_hasNext_aae02) (x := ⟨"java/util/Iterator", "hasNext", "()Z"⟩) (As := []) (ZJx35411_hasNext_aae02 x2) dX9_copy_53 (n := 0) ⟨by decide +kernel, by decide +kernel, by decide +kernel⟩ tw840 rfl (by decide) ⟨by decide +kernel, by decide +kernel⟩ (tw_F tw859 tw863 tw865 tw35 tw867) rfl (Nat.le_of_ble_eq_true rfl) (Nat.le_of_ble_eq_true rfl) (Nat.le_of_ble_eq_true rfl) rfl (fun v1 => ?_)
    show Jw κ (wM κ) 4 fin 58 [none, some ((54, .ref x1) : TV), some ((43, .ref x2) : TV), none] [((0, .int v1) : TV)] _
    refine N_if_eq (pc := 58) (tgt := 89) hc dX9_copy_58 (by decide) ?_ ?_
    · refine N_aload_n (pc := 89) hc dX9_copy_89 rfl rfl ?_
      exact N_ret (pc := 90) he dX9_copy_90 trivial rfl
    · refine N_aload_n (pc := 61) hc dX9_copy_61 rfl rfl ?_
      refine N_callF (pc := 62) hc clJx35411 (y := yJx35411_next_0502b) (x := ⟨"java/util/Iterator", "next", "()Ljava/lang/Object;"⟩) (As := []) (ZJx35411_next_0502b x2) dX9_copy_62 (n := 0) ⟨by decide +kernel, by decide +kernel, by decide +kernel⟩ tw840 rfl (by decide) ⟨by decide +kernel, by decide +kernel⟩ (tw_F tw869 tw872 tw874 tw35 tw876) rfl (Nat.le_of_ble_eq_true rfl) (Nat.le_of_ble_eq_true rfl) (Nat.le_of_ble_eq_true rfl) rfl (fun h2 => ?_)
      show Jw κ (wM κ) 4 fin 67 [none, some ((54, .ref x1) : TV), some ((43, .ref x2) : TV), none] [((16, .ref h2) : TV)] _
      refine N_castZ (pc := 67) hc tw881 dX9_copy_67 ?_
      refine N_astore_n (pc := 70) (l' := [none, some ((54, .ref x1) : TV), some ((43, .ref x2) : TV), some ((13, .ref h2) : TV)]) hc dX9_copy_70 rfl (by decide) rfl rfl ?_
      refine N_aload_n (pc := 71) hc dX9_copy_71 rfl rfl ?_
      refine N_getA (pc := 72) hc clX9 (k := 3) (kd := 44) (Nat.le_of_ble_eq_true rfl) rfl (Nat.le_of_ble_eq_true rfl) tw775 (Or.inl rfl) dX9_copy_72 (fun v3 => ?_)
      refine N_aload_n (pc := 75) hc dX9_copy_75 rfl rfl ?_
      refine N_clone13 (pc := 76) hc tw882 tw883 tw830 tw831 tw884 (Nat.le_of_ble_eq_true rfl) (Nat.le_of_ble_eq_true rfl) (Nat.le_of_ble_eq_true rfl) dX9_copy_76 (fun h4 => ?_)
      refine N_castZt (pc := 79) hc tw881 dX9_copy_79 ?_
      refine N_to16 (h := h4) [] (Or.inl rfl) ?_
      refine N_callV (pc := 82) hc clJx4a65c (As := [((16, .ref h4) : TV)]) (ZJx4a65c_add_9ea2d v3 h4) dX9_copy_82 mzJx4a65c_add_9ea2d rfl tw886 tw887 tw888 tw13 tw889 rfl (Nat.le_of_ble_eq_true rfl) (Nat.le_of_ble_eq_true rfl) (Nat.le_of_ble_eq_true rfl) rfl (fun v5 => ?_)
      show Jw κ (wM κ) 4 fin 85 [none, some ((54, .ref x1) : TV), some ((43, .ref x2) : TV), some ((13, .ref h2) : TV)] [((0, .int v5) : TV)] _
      refine N_pop (pc := 85) hc dX9_copy_85 rfl ?_
      refine N_goto (pc := 86) (tgt := 52) hc dX9_copy_86 (by decide) ?_
      refine N_sub (l' := [none, some ((54, .ref x1) : TV), some ((43, .ref x2) : TV), none]) ⟨rfl, ⟨rfl, trivial⟩⟩ ?_
      exact ih x1 x2
set_option maxRecDepth 100000 in
set_option maxHeartbeats 8000000 in
theorem qX9_copy {κ : Cx} {fin : Nat → Mm → Prop} {mc ms : Nat} (hc : Jc κ RX9 cX9_copy 4 7 mc ms 231) (he : EdW κ cX9_copy (tA 54) .areturn (fun _ => True) fin) (x0 : Nat) : Jw κ (wM κ) 4 fin 0 [some ((54, .ref x0) : TV), none, none, none] [] (gX9_copy x0) := by
  unfold gX9_copy
  refine N_new (pc := 0) hc clX9 dvX9 tw826 tw735 tw10 dX9_copy_0 (fun h6 => ?_)
  refine N_dup (pc := 3) hc dX9_copy_3 rfl ?_
  refine N_callI (pc := 4) hc (ci := 54) (As := []) (ZX9_init h6) dX9_copy_4 mzX9_init rfl tw827 tw737 tw10 tw738 rfl (Nat.le_of_ble_eq_true rfl) (Nat.le_of_ble_eq_true rfl) (Nat.le_of_ble_eq_true rfl) rfl (fun _ => ?_)
  show Jw κ (wM κ) 4 fin 7 [some ((54, .ref x0) : TV), none, none, none] [((54, .ref h6) : TV)] _
  refine N_astore_n (pc := 7) (l' := [some ((54, .ref x0) : TV), some ((54, .ref h6) : TV), none, none]) hc dX9_copy_7 rfl (by decide) rfl rfl ?_
  refine N_aload_n (pc := 8) hc dX9_copy_8 rfl rfl ?_
  refine N_aload_n (pc := 9) hc dX9_copy_9 rfl rfl ?_
  refine N_getI (pc := 10) hc clX9 (k := 0) (Nat.le_of_ble_eq_true rfl) rfl tw769 (Or.inl rfl) dX9_copy_10 (fun v7 => ?_)
  refine N_putI (pc := 13) hc clX9 (k := 0) (Nat.le_of_ble_eq_true rfl) rfl rfl tw769 (Or.inl rfl) rfl dX9_copy_13 ?_
  refine N_aload_n (pc := 16) hc dX9_copy_16 rfl rfl ?_
  refine N_aload_n (pc := 17) hc dX9_copy_17 rfl rfl ?_
  refine N_getA (pc := 18) hc clX9 (k := 1) (kd := 11) (Nat.le_of_ble_eq_true rfl) rfl (Nat.le_of_ble_eq_true rfl) tw771 (Or.inl rfl) dX9_copy_18 (fun v8 => ?_)
  refine N_clone11 (pc := 21) hc tw828 tw829 tw830 tw831 tw832 (Nat.le_of_ble_eq_true rfl) (Nat.le_of_ble_eq_true rfl) (Nat.le_of_ble_eq_true rfl) dX9_copy_21 (fun h9 => ?_)
  refine N_castIt (pc := 24) hc tw834 dX9_copy_24 ?_
  refine N_putA (pc := 27) hc clX9 (k := 1) (kd := 11) (Nat.le_of_ble_eq_true rfl) rfl (Nat.le_of_ble_eq_true rfl) (fun _ => rfl) (fun _ => rfl) tw771 (Or.inl rfl) rfl dX9_copy_27 ?_
  refine N_aload_n (pc := 30) hc dX9_copy_30 rfl rfl ?_
  refine N_aload_n (pc := 31) hc dX9_copy_31 rfl rfl ?_
  refine N_getA (pc := 32) hc clX9 (k := 2) (kd := 11) (Nat.le_of_ble_eq_true rfl) rfl (Nat.le_of_ble_eq_true rfl) tw773 (Or.inl rfl) dX9_copy_32 (fun v10 => ?_)
  refine N_clone11 (pc := 35) hc tw828 tw829 tw830 tw831 tw832 (Nat.le_of_ble_eq_true rfl) (Nat.le_of_ble_eq_true rfl) (Nat.le_of_ble_eq_true rfl) dX9_copy_35 (fun h11 => ?_)
  refine N_castIt (pc := 38) hc tw834 dX9_copy_38 ?_
  refine N_putA (pc := 41) hc clX9 (k := 2) (kd := 11) (Nat.le_of_ble_eq_true rfl) rfl (Nat.le_of_ble_eq_true rfl) (fun _ => rfl) (fun _ => rfl) tw773 (Or.inl rfl) rfl dX9_copy_41 ?_
  refine N_aload_n (pc := 44) hc dX9_copy_44 rfl rfl ?_
  refine N_getA (pc := 45) hc clX9 (k := 3) (kd := 44) (Nat.le_of_ble_eq_true rfl) rfl (Nat.le_of_ble_eq_true rfl) tw775 (Or.inl rfl) dX9_copy_45 (fun v12 => ?_)
  refine N_callV (pc := 48) hc clJx4a65c (As := []) (ZJx4a65c_iterator_32c93 v12) dX9_copy_48 mzJx4a65c_iterator_32c93 rfl tw835 tw836 tw837 tw13 tw838 rfl (Nat.le_of_ble_eq_true rfl) (Nat.le_of_ble_eq_true rfl) (Nat.le_of_ble_eq_true rfl) rfl (fun h13 => ?_)
  show Jw κ (wM κ) 4 fin 51 [some ((54, .ref x0) : TV), some ((54, .ref h6) : TV), none, none] [((43, .ref h13) : TV)] _
  refine N_astore_n (pc := 51) (l' := [some ((54, .ref x0) : TV), some ((54, .ref h6) : TV), some ((43, .ref h13) : TV), none]) hc dX9_copy_51 rfl (by decide) rfl rfl ?_
  refine N_sub (l' := [none, some ((54, .ref h6) : TV), some ((43, .ref h13) : TV), none]) ⟨rfl, ⟨rfl, trivial⟩⟩ ?_
  exact qX9_copy_L52 hc he fu h6 h13
theorem mzX9_copy : MOk yX9_copy 0 := ⟨by decide +kernel, by decide +kernel, by decide +kernel⟩
set_option maxRecDepth 100000 in
set_option maxHeartbeats 8000000 in
theorem ZX9_copy (x0 : Nat) : Cw (tA 54) yX9_copy cX9_copy 4 (some (.object "DotRunsLaw$Page")) 7 231 [((54, .ref x0) : TV)] (gX9_copy x0) :=
  Cw_A (Or.inl ⟨_, rfl⟩) (j := 3) (by decide +kernel) rfl rfl (Nat.le_of_ble_eq_true rfl) (fun κ fin mc ms hc he => qX9_copy hc he x0)
set_option maxRecDepth 100000 in
set_option maxHeartbeats 8000000 in
theorem qL_pick_L16 {κ : Cx} {fin : Int32 → Mm → Prop} {mc ms : Nat} (hc : Jc κ RL cL_pick 2 1 mc ms 100) (he : EdW κ cL_pick tI .ireturn (fun _ => True) fin) (s0 : Int32) : Jw κ (wM κ) 2 fin 16 [none, none] [((0, .int s0) : TV)] (gL_pick_L16 s0) := by
  unfold gL_pick_L16
  refine N_ldcI (pc := 16) (v := 2147483647) hc dL_pick_16 tw971 ?_
  refine N_iand (pc := 18) hc dL_pick_18 ?_
  exact N_ret (pc := 19) he dL_pick_19 trivial rfl
set_option maxRecDepth 100000 in
set_option maxHeartbeats 8000000 in
theorem qL_pick {κ : Cx} {fin : Int32 → Mm → Prop} {mc ms : Nat} (hc : Jc κ RL cL_pick 2 1 mc ms 100) (he : EdW κ cL_pick tI .ireturn (fun _ => True) fin) (x0 : Nat) (x1 : Int32) : Jw κ (wM κ) 2 fin 0 [some ((23, .ref x0) : TV), some ((0, .int x1) : TV)] [] (gL_pick x0 x1) := by
  unfold gL_pick
  refine N_iload_n (pc := 0) hc dL_pick_0 rfl rfl ?_
  refine N_aload_n (pc := 1) hc dL_pick_1 rfl rfl ?_
  refine N_slen (pc := 2) hc dL_pick_2 (fun v1 => ?_)
  refine N_icmp_ge (pc := 3) (tgt := 12) hc dL_pick_3 (by decide) ?_ ?_
  · refine N_bipush (pc := 12) (v := 97) hc dL_pick_12 (by decide) ?_
    refine N_iload_n (pc := 14) hc dL_pick_14 rfl rfl ?_
    refine N_imul (pc := 15) hc dL_pick_15 ?_
    refine N_sub (l' := [none, none]) (show subL _ _ from trivial) ?_
    exact qL_pick_L16 hc he (97 * x1)
  · refine N_aload_n (pc := 6) hc dL_pick_6 rfl rfl ?_
    refine N_iload_n (pc := 7) hc dL_pick_7 rfl rfl ?_
    refine N_sald (pc := 8) hc dL_pick_8 (fun v2 => ?_)
    refine N_goto (pc := 9) (tgt := 16) hc dL_pick_9 (by decide) ?_
    refine N_sub (l' := [none, none]) (show subL _ _ from trivial) ?_
    exact qL_pick_L16 hc he v2
theorem mzL_pick : MOk yL_pick 2 := ⟨by decide +kernel, by decide +kernel, by decide +kernel⟩
set_option maxRecDepth 100000 in
set_option maxHeartbeats 8000000 in
theorem ZL_pick (x0 : Nat) (x1 : Int32) : Cw tI yL_pick cL_pick 2 (some .int) 1 100 [((23, .ref x0) : TV), ((0, .int x1) : TV)] (gL_pick x0 x1) :=
  Cw_I (j := 0) (by decide +kernel) rfl rfl (Nat.le_of_ble_eq_true rfl) (fun κ fin mc ms hc he => qL_pick hc he x0 x1)
set_option maxRecDepth 100000 in
set_option maxHeartbeats 8000000 in
theorem qX10_next {κ : Cx} {fin : Int32 → Mm → Prop} {mc ms : Nat} (hc : Jc κ RX10 cX10_next 2 2 mc ms 121) (he : EdW κ cX10_next tI .ireturn (fun _ => True) fin) (x0 : Nat) (x1 : Int32) : Jw κ (wM κ) 2 fin 0 [some ((55, .ref x0) : TV), some ((0, .int x1) : TV)] [] (gX10_next x0 x1) := by
  unfold gX10_next
  refine N_aload_n (pc := 0) hc dX10_next_0 rfl rfl ?_
  refine N_dup (pc := 1) hc dX10_next_1 rfl ?_
  refine N_getI (pc := 2) hc clX10 (k := 1) (Nat.le_of_ble_eq_true rfl) rfl tw958 (Or.inl rfl) dX10_next_2 (fun v1 => ?_)
  refine N_iconst (pc := 5) (v := 1) hc dX10_next_5 (by decide) ?_
  refine N_iadd (pc := 6) hc dX10_next_6 ?_
  refine N_putI (pc := 7) hc clX10 (k := 1) (Nat.le_of_ble_eq_true rfl) rfl rfl tw958 (Or.inl rfl) rfl dX10_next_7 ?_
  refine N_aload_n (pc := 10) hc dX10_next_10 rfl rfl ?_
  refine N_getA (pc := 11) hc clX10 (k := 0) (kd := 23) (Nat.le_of_ble_eq_true rfl) rfl (Nat.le_of_ble_eq_true rfl) tw957 (Or.inl rfl) dX10_next_11 (fun v2 => ?_)
  refine N_aload_n (pc := 14) hc dX10_next_14 rfl rfl ?_
  refine N_getI (pc := 15) hc clX10 (k := 1) (Nat.le_of_ble_eq_true rfl) rfl tw958 (Or.inl rfl) dX10_next_15 (fun v3 => ?_)
  refine N_callSN (pc := 18) hc (As := [((23, .ref v2) : TV), ((0, .int v3) : TV)]) (hst1 := "DotRunsLaw") (ZL_pick v2 v3) dX10_next_18 mzL_pick (by decide +kernel) tw969 tw0 tw970 rfl (Nat.le_of_ble_eq_true rfl) (Nat.le_of_ble_eq_true rfl) (Nat.le_of_ble_eq_true rfl) rfl (fun v4 => ?_)
  show Jw κ (wM κ) 2 fin 21 [some ((55, .ref x0) : TV), some ((0, .int x1) : TV)] [((0, .int v4) : TV)] _
  refine N_iload_n (pc := 21) hc dX10_next_21 rfl rfl ?_
  refine N_irem (pc := 22) hc dX10_next_22 ?_
  exact N_ret (pc := 23) he dX10_next_23 trivial rfl
theorem mzX10_next : MOk yX10_next 1 := ⟨by decide +kernel, by decide +kernel, by decide +kernel⟩
set_option maxRecDepth 100000 in
set_option maxHeartbeats 8000000 in
theorem ZX10_next (x0 : Nat) (x1 : Int32) : Cw tI yX10_next cX10_next 2 (some .int) 2 121 [((55, .ref x0) : TV), ((0, .int x1) : TV)] (gX10_next x0 x1) :=
  Cw_I (j := 0) (by decide +kernel) rfl rfl (Nat.le_of_ble_eq_true rfl) (fun κ fin mc ms hc he => qX10_next hc he x0 x1)
set_option maxRecDepth 100000 in
set_option maxHeartbeats 8000000 in
theorem qL_told_L41 {κ : Cx} {fin : Nat → Mm → Prop} {mc ms : Nat} (hc : Jc κ RL cL_told 6 7 mc ms 232) (he : EdW κ cL_told (tA 40) .areturn (fun _ => True) fin) {k16 : Nat → Nat → Int32 → Int32 → Mm → Option (Nat × Mm × Nat × Nat)} (hk16 : ∀ (x1 : Nat) (x2 : Nat) (x3 : Int32) (x4 : Int32), Jw κ (wM κ) 6 fin 16 [none, some ((41, .ref x1) : TV), some ((13, .ref x2) : TV), some ((0, .int x3) : TV), some ((0, .int x4) : TV), none] [] (k16 x1 x2 x3 x4)) (x1 : Nat) (x2 : Nat) (x3 : Int32) (x4 : Int32) (s0 : Int32) (s1 : Nat) : Jw κ (wM κ) 6 fin 41 [none, some ((41, .ref x1) : TV), some ((13, .ref x2) : TV), some ((0, .int x3) : TV), some ((0, .int x4) : TV), none] [((0, .int s0) : TV), ((41, .ref s1) : TV)] (gL_told_L41 k16 x1 x2 x3 x4 s0 s1) := by
  unfold gL_told_L41
  refine N_callV (pc := 41) hc clJ4 (As := [((0, .int s0) : TV)]) (ZJ4_append_cf468 s1 s0) dL_told_41 mzJ4_append_cf468 rfl tw1389 tw1390 tw1391 tw15 tw1392 rfl (Nat.le_of_ble_eq_true rfl) (Nat.le_of_ble_eq_true rfl) (Nat.le_of_ble_eq_true rfl) rfl (fun h1 => ?_)
  show Jw κ (wM κ) 6 fin 44 [none, some ((41, .ref x1) : TV), some ((13, .ref x2) : TV), some ((0, .int x3) : TV), some ((0, .int x4) : TV), none] [((41, .ref h1) : TV)] _
  refine N_pop (pc := 44) hc dL_told_44 rfl ?_
  refine N_iinc (pc := 45) (v := x4 + 1) (l' := [none, some ((41, .ref x1) : TV), some ((13, .ref x2) : TV), some ((0, .int x3) : TV), some ((0, .int (x4 + 1)) : TV), none]) hc dL_told_45 rfl rfl (by decide) rfl rfl ?_
  refine N_goto (pc := 48) (tgt := 16) hc dL_told_48 (by decide) ?_
  refine N_sub (l' := [none, some ((41, .ref x1) : TV), some ((13, .ref x2) : TV), some ((0, .int x3) : TV), some ((0, .int (x4 + 1)) : TV), none]) ⟨rfl, ⟨rfl, ⟨rfl, ⟨rfl, trivial⟩⟩⟩⟩ ?_
  exact hk16 x1 x2 x3 (x4 + 1)
set_option maxRecDepth 100000 in
set_option maxHeartbeats 8000000 in
theorem qL_told_L16 {κ : Cx} {fin : Nat → Mm → Prop} {mc ms : Nat} (hc : Jc κ RL cL_told 6 7 mc ms 232) (he : EdW κ cL_told (tA 40) .areturn (fun _ => True) fin) : ∀ (n : Nat) (x1 : Nat) (x2 : Nat) (x3 : Int32) (x4 : Int32), Jw κ (wM κ) 6 fin 16 [none, some ((41, .ref x1) : TV), some ((13, .ref x2) : TV), some ((0, .int x3) : TV), some ((0, .int x4) : TV), none] [] (gL_told_L16 n x1 x2 x3 x4) := by
  intro n
  induction n with
  | zero => intro x1 x2 x3 x4; exact N_fail
  | succ n ih =>
    intro x1 x2 x3 x4
    unfold gL_told_L16
    refine N_iload (pc := 16) hc dL_told_16 rfl ?_
    refine N_iload_n (pc := 18) hc dL_told_18 rfl rfl ?_
    refine N_icmp_ge (pc := 19) (tgt := 51) hc dL_told_19 (by decide) ?_ ?_
    · refine N_aload_n (pc := 51) hc dL_told_51 rfl rfl ?_
      refine N_callV (pc := 52) hc clJ4 (As := []) (ZJ4_toString_0e30d x1) dL_told_52 mzJ4_toString_0e30d rfl tw1447 tw1448 tw1449 tw15 tw1450 rfl (Nat.le_of_ble_eq_true rfl) (Nat.le_of_ble_eq_true rfl) (Nat.le_of_ble_eq_true rfl) rfl (fun h2 => ?_)
      show Jw κ (wM κ) 6 fin 55 [none, some ((41, .ref x1) : TV), some ((13, .ref x2) : TV), some ((0, .int x3) : TV), some ((0, .int x4) : TV), none] [((40, .ref h2) : TV)] _
      exact N_ret (pc := 55) he dL_told_55 trivial rfl
    · refine N_aload_n (pc := 22) hc dL_told_22 rfl rfl ?_
      refine N_iload (pc := 23) hc dL_told_23 rfl ?_
      refine N_zald (pc := 25) hc dL_told_25 (fun v3 => ?_)
      refine N_istore (pc := 26) (l' := [none, some ((41, .ref x1) : TV), some ((13, .ref x2) : TV), some ((0, .int x3) : TV), some ((0, .int x4) : TV), some ((0, .int v3) : TV)]) hc dL_told_26 (by decide) rfl rfl ?_
      refine N_aload_n (pc := 28) hc dL_told_28 rfl rfl ?_
      refine N_iload (pc := 29) hc dL_told_29 rfl ?_
      refine N_if_eq (pc := 31) (tgt := 39) hc dL_told_31 (by decide) ?_ ?_
      · refine N_bipush (pc := 39) (v := 46) hc dL_told_39 (by decide) ?_
        refine N_sub (l' := [none, some ((41, .ref x1) : TV), some ((13, .ref x2) : TV), some ((0, .int x3) : TV), some ((0, .int x4) : TV), none]) ⟨rfl, ⟨rfl, ⟨rfl, ⟨rfl, trivial⟩⟩⟩⟩ ?_
        exact qL_told_L41 hc he ih x1 x2 x3 x4 46 x1
      · refine N_bipush (pc := 34) (v := 35) hc dL_told_34 (by decide) ?_
        refine N_goto (pc := 36) (tgt := 41) hc dL_told_36 (by decide) ?_
        refine N_sub (l' := [none, some ((41, .ref x1) : TV), some ((13, .ref x2) : TV), some ((0, .int x3) : TV), some ((0, .int x4) : TV), none]) ⟨rfl, ⟨rfl, ⟨rfl, ⟨rfl, trivial⟩⟩⟩⟩ ?_
        exact qL_told_L41 hc he ih x1 x2 x3 x4 35 x1
set_option maxRecDepth 100000 in
set_option maxHeartbeats 8000000 in
theorem qL_told {κ : Cx} {fin : Nat → Mm → Prop} {mc ms : Nat} (hc : Jc κ RL cL_told 6 7 mc ms 232) (he : EdW κ cL_told (tA 40) .areturn (fun _ => True) fin) (x0 : Nat) : Jw κ (wM κ) 6 fin 0 [some ((13, .ref x0) : TV), none, none, none, none, none] [] (gL_told x0) := by
  unfold gL_told
  refine N_new (pc := 0) hc clJ4 dvJ4 tw1359 tw1360 tw15 dL_told_0 (fun h4 => ?_)
  refine N_dup (pc := 3) hc dL_told_3 rfl ?_
  refine N_callI (pc := 4) hc (ci := 41) (As := []) (ZJ4_init_da8c8 h4) dL_told_4 mzJ4_init_da8c8 rfl tw1361 tw1362 tw15 tw1363 rfl (Nat.le_of_ble_eq_true rfl) (Nat.le_of_ble_eq_true rfl) (Nat.le_of_ble_eq_true rfl) rfl (fun _ => ?_)
  show Jw κ (wM κ) 6 fin 7 [some ((13, .ref x0) : TV), none, none, none, none, none] [((41, .ref h4) : TV)] _
  refine N_astore_n (pc := 7) (l' := [some ((13, .ref x0) : TV), some ((41, .ref h4) : TV), none, none, none, none]) hc dL_told_7 rfl (by decide) rfl rfl ?_
  refine N_aload_n (pc := 8) hc dL_told_8 rfl rfl ?_
  refine N_astore_n (pc := 9) (l' := [some ((13, .ref x0) : TV), some ((41, .ref h4) : TV), some ((13, .ref x0) : TV), none, none, none]) hc dL_told_9 rfl (by decide) rfl rfl ?_
  refine N_aload_n (pc := 10) hc dL_told_10 rfl rfl ?_
  refine N_zlen (pc := 11) hc dL_told_11 (fun v5 => ?_)
  refine N_istore_n (pc := 12) (l' := [some ((13, .ref x0) : TV), some ((41, .ref h4) : TV), some ((13, .ref x0) : TV), some ((0, .int v5) : TV), none, none]) hc dL_told_12 rfl (by decide) rfl rfl ?_
  refine N_iconst (pc := 13) (v := 0) hc dL_told_13 (by decide) ?_
  refine N_istore (pc := 14) (l' := [some ((13, .ref x0) : TV), some ((41, .ref h4) : TV), some ((13, .ref x0) : TV), some ((0, .int v5) : TV), some ((0, .int 0) : TV), none]) hc dL_told_14 (by decide) rfl rfl ?_
  refine N_sub (l' := [none, some ((41, .ref h4) : TV), some ((13, .ref x0) : TV), some ((0, .int v5) : TV), some ((0, .int 0) : TV), none]) ⟨rfl, ⟨rfl, ⟨rfl, ⟨rfl, trivial⟩⟩⟩⟩ ?_
  exact qL_told_L16 hc he fu h4 x0 v5 0
theorem mzL_told : MOk yL_told 1 := ⟨by decide +kernel, by decide +kernel, by decide +kernel⟩
set_option maxRecDepth 100000 in
set_option maxHeartbeats 8000000 in
theorem ZL_told (x0 : Nat) : Cw (tA 40) yL_told cL_told 6 (some (.object "java/lang/String")) 7 232 [((13, .ref x0) : TV)] (gL_told x0) :=
  Cw_A (Or.inl ⟨_, rfl⟩) (j := 5) (by decide +kernel) rfl rfl (Nat.le_of_ble_eq_true rfl) (fun κ fin mc ms hc he => qL_told hc he x0)
set_option maxRecDepth 100000 in
set_option maxHeartbeats 8000000 in
theorem qL_feed_L55 {κ : Cx} {fin : Unit → Mm → Prop} {mc ms : Nat} (hc : Jc κ RL cL_feed 6 7 mc ms 185) (he : EdW κ cL_feed tV .return_ (fun _ => True) fin) {k22 : Nat → Nat → Int32 → Int32 → Int32 → Mm → Option (Unit × Mm × Nat × Nat)} (hk22 : ∀ (x0 : Nat) (x1 : Nat) (x3 : Int32) (x4 : Int32) (x5 : Int32), Jw κ (wM κ) 6 fin 22 [some ((7, .ref x0) : TV), some ((40, .ref x1) : TV), none, some ((0, .int x3) : TV), some ((0, .int x4) : TV), some ((0, .int x5) : TV)] [] (k22 x0 x1 x3 x4 x5)) (x0 : Nat) (x1 : Nat) (x3 : Int32) (x5 : Int32) (s0 : Int32) (s1 : Int32) : Jw κ (wM κ) 6 fin 55 [some ((7, .ref x0) : TV), some ((40, .ref x1) : TV), none, some ((0, .int x3) : TV), none, some ((0, .int x5) : TV)] [((0, .int s0) : TV), ((0, .int s1) : TV)] (gL_feed_L55 k22 x0 x1 x3 x5 s0 s1) := by
  unfold gL_feed_L55
  refine N_ior (pc := 55) hc dL_feed_55 ?_
  refine N_nmi (fun v1 => ?_)
  refine N_istore (pc := 56) (l' := [some ((7, .ref x0) : TV), some ((40, .ref x1) : TV), none, some ((0, .int x3) : TV), some ((0, .int v1) : TV), some ((0, .int x5) : TV)]) hc dL_feed_56 (by decide) rfl rfl ?_
  refine N_iinc (pc := 58) (v := x5 + 1) (l' := [some ((7, .ref x0) : TV), some ((40, .ref x1) : TV), none, some ((0, .int x3) : TV), some ((0, .int v1) : TV), some ((0, .int (x5 + 1)) : TV)]) hc dL_feed_58 rfl rfl (by decide) rfl rfl ?_
  refine N_goto (pc := 61) (tgt := 22) hc dL_feed_61 (by decide) ?_
  refine N_sub (l' := [some ((7, .ref x0) : TV), some ((40, .ref x1) : TV), none, some ((0, .int x3) : TV), some ((0, .int v1) : TV), some ((0, .int (x5 + 1)) : TV)]) ⟨rfl, ⟨rfl, ⟨rfl, ⟨rfl, ⟨rfl, trivial⟩⟩⟩⟩⟩ ?_
  exact hk22 x0 x1 x3 v1 (x5 + 1)
set_option maxRecDepth 100000 in
set_option maxHeartbeats 8000000 in
theorem qL_feed_L22 {κ : Cx} {fin : Unit → Mm → Prop} {mc ms : Nat} (hc : Jc κ RL cL_feed 6 7 mc ms 185) (he : EdW κ cL_feed tV .return_ (fun _ => True) fin) {k8 : Nat → Nat → Int32 → Mm → Option (Unit × Mm × Nat × Nat)} (hk8 : ∀ (x0 : Nat) (x1 : Nat) (x3 : Int32), Jw κ (wM κ) 6 fin 8 [some ((7, .ref x0) : TV), some ((40, .ref x1) : TV), none, some ((0, .int x3) : TV), none, none] [] (k8 x0 x1 x3)) : ∀ (n : Nat) (x0 : Nat) (x1 : Nat) (x3 : Int32) (x4 : Int32) (x5 : Int32), Jw κ (wM κ) 6 fin 22 [some ((7, .ref x0) : TV), some ((40, .ref x1) : TV), none, some ((0, .int x3) : TV), some ((0, .int x4) : TV), some ((0, .int x5) : TV)] [] (gL_feed_L22 k8 n x0 x1 x3 x4 x5) := by
  intro n
  induction n with
  | zero => intro x0 x1 x3 x4 x5; exact N_fail
  | succ n ih =>
    intro x0 x1 x3 x4 x5
    unfold gL_feed_L22
    refine N_iload (pc := 22) hc dL_feed_22 rfl ?_
    refine N_iload_n (pc := 24) hc dL_feed_24 rfl rfl ?_
    refine N_iconst (pc := 25) (v := 4) hc dL_feed_25 (by decide) ?_
    refine N_iadd (pc := 26) hc dL_feed_26 ?_
    refine N_icmp_ge (pc := 27) (tgt := 64) hc dL_feed_27 (by decide) ?_ ?_
    · refine N_aload_n (pc := 64) hc dL_feed_64 rfl rfl ?_
      refine N_iload (pc := 65) hc dL_feed_65 rfl ?_
      refine N_callCX (pc := 67) hc clX7 (As := [((0, .int x4) : TV)]) (KX7_appendText x0 x4) dL_feed_67 moX7_appendText rfl tw1514 tw1515 tw1516 tw2 tw1517 rfl (Nat.le_of_ble_eq_true rfl) (Nat.le_of_ble_eq_true rfl) (Nat.le_of_ble_eq_true rfl) rfl (fun _ _ h => by cases h) (fun v2 => ?_)
      show Jw κ (wM κ) 6 fin 70 [some ((7, .ref x0) : TV), some ((40, .ref x1) : TV), none, some ((0, .int x3) : TV), some ((0, .int x4) : TV), some ((0, .int x5) : TV)] [((0, .int v2) : TV)] _
      refine N_istore_n (pc := 70) (l' := [some ((7, .ref x0) : TV), some ((40, .ref x1) : TV), some ((0, .int v2) : TV), some ((0, .int x3) : TV), some ((0, .int x4) : TV), some ((0, .int x5) : TV)]) hc dL_feed_70 rfl (by decide) rfl rfl ?_
      refine N_iinc (pc := 71) (v := x3 + 4) (l' := [some ((7, .ref x0) : TV), some ((40, .ref x1) : TV), some ((0, .int v2) : TV), some ((0, .int (x3 + 4)) : TV), some ((0, .int x4) : TV), some ((0, .int x5) : TV)]) hc dL_feed_71 rfl rfl (by decide) rfl rfl ?_
      refine N_goto (pc := 74) (tgt := 8) hc dL_feed_74 (by decide) ?_
      refine N_sub (l' := [some ((7, .ref x0) : TV), some ((40, .ref x1) : TV), none, some ((0, .int (x3 + 4)) : TV), none, none]) ⟨rfl, ⟨rfl, ⟨rfl, trivial⟩⟩⟩ ?_
      exact hk8 x0 x1 (x3 + 4)
    · refine N_iload (pc := 30) hc dL_feed_30 rfl ?_
      refine N_bipush (pc := 32) (v := 8) hc dL_feed_32 (by decide) ?_
      refine N_ishl (pc := 34) hc dL_feed_34 ?_
      refine N_iload (pc := 35) hc dL_feed_35 rfl ?_
      refine N_aload_n (pc := 37) hc dL_feed_37 rfl rfl ?_
      refine N_callV (pc := 38) hc clJ0 (As := []) (ZJ0_length_8abf5 x1) dL_feed_38 mzJ0_length_8abf5 rfl tw1512 tw356 tw357 tw16 tw358 rfl (Nat.le_of_ble_eq_true rfl) (Nat.le_of_ble_eq_true rfl) (Nat.le_of_ble_eq_true rfl) rfl (fun v3 => ?_)
      show Jw κ (wM κ) 6 fin 41 [some ((7, .ref x0) : TV), some ((40, .ref x1) : TV), none, some ((0, .int x3) : TV), some ((0, .int x4) : TV), some ((0, .int x5) : TV)] [((0, .int v3) : TV), ((0, .int x5) : TV), ((0, .int (x4 <<< (8 &&& 31))) : TV)] _
      refine N_icmp_ge (pc := 41) (tgt := 53) hc dL_feed_41 (by decide) ?_ ?_
      · refine N_bipush (pc := 53) (v := 32) hc dL_feed_53 (by decide) ?_
        refine N_sub (l' := [some ((7, .ref x0) : TV), some ((40, .ref x1) : TV), none, some ((0, .int x3) : TV), none, some ((0, .int x5) : TV)]) ⟨rfl, ⟨rfl, ⟨rfl, ⟨rfl, trivial⟩⟩⟩⟩ ?_
        exact qL_feed_L55 hc he ih x0 x1 x3 x5 32 (x4 <<< (8 &&& 31))
      · refine N_aload_n (pc := 44) hc dL_feed_44 rfl rfl ?_
        refine N_iload (pc := 45) hc dL_feed_45 rfl ?_
        refine N_callV (pc := 47) hc clJ0 (As := [((0, .int x5) : TV)]) (ZJ0_charAt_5068e x1 x5) dL_feed_47 mzJ0_charAt_5068e rfl tw1513 tw366 tw367 tw16 tw368 rfl (Nat.le_of_ble_eq_true rfl) (Nat.le_of_ble_eq_true rfl) (Nat.le_of_ble_eq_true rfl) rfl (fun v4 => ?_)
        show Jw κ (wM κ) 6 fin 50 [some ((7, .ref x0) : TV), some ((40, .ref x1) : TV), none, some ((0, .int x3) : TV), some ((0, .int x4) : TV), some ((0, .int x5) : TV)] [((0, .int v4) : TV), ((0, .int (x4 <<< (8 &&& 31))) : TV)] _
        refine N_goto (pc := 50) (tgt := 55) hc dL_feed_50 (by decide) ?_
        refine N_sub (l' := [some ((7, .ref x0) : TV), some ((40, .ref x1) : TV), none, some ((0, .int x3) : TV), none, some ((0, .int x5) : TV)]) ⟨rfl, ⟨rfl, ⟨rfl, ⟨rfl, trivial⟩⟩⟩⟩ ?_
        exact qL_feed_L55 hc he ih x0 x1 x3 x5 v4 (x4 <<< (8 &&& 31))
set_option maxRecDepth 100000 in
set_option maxHeartbeats 8000000 in
theorem qL_feed_L8 {κ : Cx} {fin : Unit → Mm → Prop} {mc ms : Nat} (hc : Jc κ RL cL_feed 6 7 mc ms 185) (he : EdW κ cL_feed tV .return_ (fun _ => True) fin) : ∀ (n : Nat) (x0 : Nat) (x1 : Nat) (x3 : Int32), Jw κ (wM κ) 6 fin 8 [some ((7, .ref x0) : TV), some ((40, .ref x1) : TV), none, some ((0, .int x3) : TV), none, none] [] (gL_feed_L8 n x0 x1 x3) := by
  intro n
  induction n with
  | zero => intro x0 x1 x3; exact N_fail
  | succ n ih =>
    intro x0 x1 x3
    unfold gL_feed_L8
    refine N_iload_n (pc := 8) hc dL_feed_8 rfl rfl ?_
    refine N_aload_n (pc := 9) hc dL_feed_9 rfl rfl ?_
    refine N_callV (pc := 10) hc clJ0 (As := []) (ZJ0_length_8abf5 x1) dL_feed_10 mzJ0_length_8abf5 rfl tw1512 tw356 tw357 tw16 tw358 rfl (Nat.le_of_ble_eq_true rfl) (Nat.le_of_ble_eq_true rfl) (Nat.le_of_ble_eq_true rfl) rfl (fun v5 => ?_)
    show Jw κ (wM κ) 6 fin 13 [some ((7, .ref x0) : TV), some ((40, .ref x1) : TV), none, some ((0, .int x3) : TV), none, none] [((0, .int v5) : TV), ((0, .int x3) : TV)] _
    refine N_icmp_ge (pc := 13) (tgt := 77) hc dL_feed_13 (by decide) ?_ ?_
    · refine N_aload_n (pc := 77) hc dL_feed_77 rfl rfl ?_
      refine N_aload_n (pc := 78) hc dL_feed_78 rfl rfl ?_
      refine N_callV (pc := 79) hc clJ0 (As := []) (ZJ0_length_8abf5 x1) dL_feed_79 mzJ0_length_8abf5 rfl tw1512 tw356 tw357 tw16 tw358 rfl (Nat.le_of_ble_eq_true rfl) (Nat.le_of_ble_eq_true rfl) (Nat.le_of_ble_eq_true rfl) rfl (fun v6 => ?_)
      show Jw κ (wM κ) 6 fin 82 [some ((7, .ref x0) : TV), some ((40, .ref x1) : TV), none, some ((0, .int x3) : TV), none, none] [((0, .int v6) : TV), ((7, .ref x0) : TV)] _
      refine N_callCX (pc := 82) hc clX7 (As := [((0, .int v6) : TV)]) (KX7_truncateText x0 v6) dL_feed_82 moX7_truncateText rfl tw1507 tw1508 tw1509 tw2 tw1510 rfl (Nat.le_of_ble_eq_true rfl) (Nat.le_of_ble_eq_true rfl) (Nat.le_of_ble_eq_true rfl) rfl (fun _ _ h => by cases h) (fun v7 => ?_)
      show Jw κ (wM κ) 6 fin 85 [some ((7, .ref x0) : TV), some ((40, .ref x1) : TV), none, some ((0, .int x3) : TV), none, none] [((0, .int v7) : TV)] _
      refine N_istore_n (pc := 85) (l' := [some ((7, .ref x0) : TV), some ((40, .ref x1) : TV), some ((0, .int v7) : TV), some ((0, .int x3) : TV), none, none]) hc dL_feed_85 rfl (by decide) rfl rfl ?_
      exact N_ret (pc := 86) he dL_feed_86 trivial rfl
    · refine N_iconst (pc := 16) (v := 0) hc dL_feed_16 (by decide) ?_
      refine N_istore (pc := 17) (l' := [some ((7, .ref x0) : TV), some ((40, .ref x1) : TV), none, some ((0, .int x3) : TV), some ((0, .int 0) : TV), none]) hc dL_feed_17 (by decide) rfl rfl ?_
      refine N_iload_n (pc := 19) hc dL_feed_19 rfl rfl ?_
      refine N_istore (pc := 20) (l' := [some ((7, .ref x0) : TV), some ((40, .ref x1) : TV), none, some ((0, .int x3) : TV), some ((0, .int 0) : TV), some ((0, .int x3) : TV)]) hc dL_feed_20 (by decide) rfl rfl ?_
      refine N_sub (l' := [some ((7, .ref x0) : TV), some ((40, .ref x1) : TV), none, some ((0, .int x3) : TV), some ((0, .int 0) : TV), some ((0, .int x3) : TV)]) ⟨rfl, ⟨rfl, ⟨rfl, ⟨rfl, ⟨rfl, trivial⟩⟩⟩⟩⟩ ?_
      exact qL_feed_L22 hc he ih fu x0 x1 x3 0 x3
set_option maxRecDepth 100000 in
set_option maxHeartbeats 8000000 in
theorem qL_feed {κ : Cx} {fin : Unit → Mm → Prop} {mc ms : Nat} (hc : Jc κ RL cL_feed 6 7 mc ms 185) (he : EdW κ cL_feed tV .return_ (fun _ => True) fin) (x0 : Nat) (x1 : Nat) : Jw κ (wM κ) 6 fin 0 [some ((7, .ref x0) : TV), some ((40, .ref x1) : TV), none, none, none, none] [] (gL_feed x0 x1) := by
  unfold gL_feed
  refine N_aload_n (pc := 0) hc dL_feed_0 rfl rfl ?_
  refine N_iconst (pc := 1) (v := 0) hc dL_feed_1 (by decide) ?_
  refine N_callCX (pc := 2) hc clX7 (As := [((0, .int 0) : TV)]) (KX7_truncateText x0 0) dL_feed_2 moX7_truncateText rfl tw1507 tw1508 tw1509 tw2 tw1510 rfl (Nat.le_of_ble_eq_true rfl) (Nat.le_of_ble_eq_true rfl) (Nat.le_of_ble_eq_true rfl) rfl (fun _ _ h => by cases h) (fun v8 => ?_)
  show Jw κ (wM κ) 6 fin 5 [some ((7, .ref x0) : TV), some ((40, .ref x1) : TV), none, none, none, none] [((0, .int v8) : TV)] _
  refine N_istore_n (pc := 5) (l' := [some ((7, .ref x0) : TV), some ((40, .ref x1) : TV), some ((0, .int v8) : TV), none, none, none]) hc dL_feed_5 rfl (by decide) rfl rfl ?_
  refine N_iconst (pc := 6) (v := 0) hc dL_feed_6 (by decide) ?_
  refine N_istore_n (pc := 7) (l' := [some ((7, .ref x0) : TV), some ((40, .ref x1) : TV), some ((0, .int v8) : TV), some ((0, .int 0) : TV), none, none]) hc dL_feed_7 rfl (by decide) rfl rfl ?_
  refine N_sub (l' := [some ((7, .ref x0) : TV), some ((40, .ref x1) : TV), none, some ((0, .int 0) : TV), none, none]) ⟨rfl, ⟨rfl, ⟨rfl, trivial⟩⟩⟩ ?_
  exact qL_feed_L8 hc he fu x0 x1 0
theorem mzL_feed : MOk yL_feed 2 := ⟨by decide +kernel, by decide +kernel, by decide +kernel⟩
set_option maxRecDepth 100000 in
set_option maxHeartbeats 8000000 in
theorem ZL_feed (x0 : Nat) (x1 : Nat) : Cw tV yL_feed cL_feed 6 none 7 185 [((7, .ref x0) : TV), ((40, .ref x1) : TV)] (gL_feed x0 x1) :=
  Cw_V (j := 4) (by decide +kernel) rfl rfl (Nat.le_of_ble_eq_true rfl) (fun κ fin mc ms hc he hin => qL_feed hc he x0 x1)
set_option maxRecDepth 100000 in
set_option maxHeartbeats 8000000 in
theorem qL_drawnRow_L102 {κ : Cx} {fin : Nat → Mm → Prop} {mc ms : Nat} (hc : Jc κ RL cL_drawnRow 8 3 mc ms 142) (he : EdW κ cL_drawnRow (tA 13) .areturn (fun _ => True) fin) {k70 : Nat → Nat → Int32 → Mm → Option (Nat × Mm × Nat × Nat)} (hk70 : ∀ (x0 : Nat) (x2 : Nat) (x4 : Int32), Jw κ (wM κ) 8 fin 70 [some ((55, .ref x0) : TV), none, some ((13, .ref x2) : TV), none, some ((0, .int x4) : TV), none, none, none] [] (k70 x0 x2 x4)) : ∀ (n : Nat) (x0 : Nat) (x2 : Nat) (x4 : Int32) (x5 : Int32) (x6 : Int32) (x7 : Int32), Jw κ (wM κ) 8 fin 102 [some ((55, .ref x0) : TV), none, some ((13, .ref x2) : TV), none, some ((0, .int x4) : TV), some ((0, .int x5) : TV), some ((0, .int x6) : TV), some ((0, .int x7) : TV)] [] (gL_drawnRow_L102 k70 n x0 x2 x4 x5 x6 x7) := by
  intro n
  induction n with
  | zero => intro x0 x2 x4 x5 x6 x7; exact N_fail
  | succ n ih =>
    intro x0 x2 x4 x5 x6 x7
    unfold gL_drawnRow_L102
    refine N_iload (pc := 102) hc dL_drawnRow_102 rfl ?_
    refine N_aload_n (pc := 104) hc dL_drawnRow_104 rfl rfl ?_
    refine N_zlen (pc := 105) hc dL_drawnRow_105 (fun v1 => ?_)
    refine N_iload (pc := 106) hc dL_drawnRow_106 rfl ?_
    refine N_iconst (pc := 108) (v := 1) hc dL_drawnRow_108 (by decide) ?_
    refine N_iadd (pc := 109) hc dL_drawnRow_109 ?_
    refine N_aload_n (pc := 110) hc dL_drawnRow_110 rfl rfl ?_
    refine N_bipush (pc := 111) (v := 9) hc dL_drawnRow_111 (by decide) ?_
    refine N_callV (pc := 113) hc clX10 (As := [((0, .int 9) : TV)]) (ZX10_next x0 9) dL_drawnRow_113 mzX10_next rfl tw964 tw965 tw966 tw1 tw967 rfl (Nat.le_of_ble_eq_true rfl) (Nat.le_of_ble_eq_true rfl) (Nat.le_of_ble_eq_true rfl) rfl (fun v2 => ?_)
    show Jw κ (wM κ) 8 fin 116 [some ((55, .ref x0) : TV), none, some ((13, .ref x2) : TV), none, some ((0, .int x4) : TV), some ((0, .int x5) : TV), some ((0, .int x6) : TV), some ((0, .int x7) : TV)] [((0, .int v2) : TV), ((0, .int (x5 + 1)) : TV), ((0, .int v1) : TV), ((0, .int x7) : TV)] _
    refine N_iadd (pc := 116) hc dL_drawnRow_116 ?_
    refine N_mmin (pc := 117) hc dL_drawnRow_117 tw1526 tw421 tw19 tw422 (Nat.le_of_ble_eq_true rfl) (Nat.le_of_ble_eq_true rfl) (Nat.le_of_ble_eq_true rfl) ?_
    refine N_icmp_ge (pc := 120) (tgt := 135) hc dL_drawnRow_120 (by decide) ?_ ?_
    · refine N_iinc (pc := 135) (v := x4 + (-1)) (l' := [some ((55, .ref x0) : TV), none, some ((13, .ref x2) : TV), none, some ((0, .int (x4 + (-1))) : TV), some ((0, .int x5) : TV), some ((0, .int x6) : TV), some ((0, .int x7) : TV)]) hc dL_drawnRow_135 rfl rfl (by decide) rfl rfl ?_
      refine N_goto (pc := 138) (tgt := 70) hc dL_drawnRow_138 (by decide) ?_
      refine N_sub (l' := [some ((55, .ref x0) : TV), none, some ((13, .ref x2) : TV), none, some ((0, .int (x4 + (-1))) : TV), none, none, none]) ⟨rfl, ⟨rfl, ⟨rfl, trivial⟩⟩⟩ ?_
      exact hk70 x0 x2 (x4 + (-1))
    · refine N_aload_n (pc := 123) hc dL_drawnRow_123 rfl rfl ?_
      refine N_iload (pc := 124) hc dL_drawnRow_124 rfl ?_
      refine N_iload (pc := 126) hc dL_drawnRow_126 rfl ?_
      refine N_zast (pc := 128) hc dL_drawnRow_128 ?_
      refine N_iinc (pc := 129) (v := x7 + 1) (l' := [some ((55, .ref x0) : TV), none, some ((13, .ref x2) : TV), none, some ((0, .int x4) : TV), some ((0, .int x5) : TV), some ((0, .int x6) : TV), some ((0, .int (x7 + 1)) : TV)]) hc dL_drawnRow_129 rfl rfl (by decide) rfl rfl ?_
      refine N_goto (pc := 132) (tgt := 102) hc dL_drawnRow_132 (by decide) ?_
      refine N_sub (l' := [some ((55, .ref x0) : TV), none, some ((13, .ref x2) : TV), none, some ((0, .int x4) : TV), some ((0, .int x5) : TV), some ((0, .int x6) : TV), some ((0, .int (x7 + 1)) : TV)]) ⟨rfl, ⟨rfl, ⟨rfl, ⟨rfl, ⟨rfl, ⟨rfl, trivial⟩⟩⟩⟩⟩⟩ ?_
      exact ih x0 x2 x4 x5 x6 (x7 + 1)
set_option maxRecDepth 100000 in
set_option maxHeartbeats 8000000 in
theorem qL_drawnRow_L96 {κ : Cx} {fin : Nat → Mm → Prop} {mc ms : Nat} (hc : Jc κ RL cL_drawnRow 8 3 mc ms 142) (he : EdW κ cL_drawnRow (tA 13) .areturn (fun _ => True) fin) {k70 : Nat → Nat → Int32 → Mm → Option (Nat × Mm × Nat × Nat)} (hk70 : ∀ (x0 : Nat) (x2 : Nat) (x4 : Int32), Jw κ (wM κ) 8 fin 70 [some ((55, .ref x0) : TV), none, some ((13, .ref x2) : TV), none, some ((0, .int x4) : TV), none, none, none] [] (k70 x0 x2 x4)) (x0 : Nat) (x2 : Nat) (x4 : Int32) (x5 : Int32) (s0 : Int32) : Jw κ (wM κ) 8 fin 96 [some ((55, .ref x0) : TV), none, some ((13, .ref x2) : TV), none, some ((0, .int x4) : TV), some ((0, .int x5) : TV), none, none] [((0, .int s0) : TV)] (gL_drawnRow_L96 k70 x0 x2 x4 x5 s0) := by
  unfold gL_drawnRow_L96
  refine N_istore (pc := 96) (l' := [some ((55, .ref x0) : TV), none, some ((13, .ref x2) : TV), none, some ((0, .int x4) : TV), some ((0, .int x5) : TV), some ((0, .int s0) : TV), none]) hc dL_drawnRow_96 (by decide) rfl rfl ?_
  refine N_iload (pc := 98) hc dL_drawnRow_98 rfl ?_
  refine N_istore (pc := 100) (l' := [some ((55, .ref x0) : TV), none, some ((13, .ref x2) : TV), none, some ((0, .int x4) : TV), some ((0, .int x5) : TV), some ((0, .int s0) : TV), some ((0, .int x5) : TV)]) hc dL_drawnRow_100 (by decide) rfl rfl ?_
  refine N_sub (l' := [some ((55, .ref x0) : TV), none, some ((13, .ref x2) : TV), none, some ((0, .int x4) : TV), some ((0, .int x5) : TV), some ((0, .int s0) : TV), some ((0, .int x5) : TV)]) ⟨rfl, ⟨rfl, ⟨rfl, ⟨rfl, ⟨rfl, ⟨rfl, trivial⟩⟩⟩⟩⟩⟩ ?_
  exact qL_drawnRow_L102 hc he hk70 fu x0 x2 x4 x5 s0 x5
set_option maxRecDepth 100000 in
set_option maxHeartbeats 8000000 in
theorem qL_drawnRow_L70 {κ : Cx} {fin : Nat → Mm → Prop} {mc ms : Nat} (hc : Jc κ RL cL_drawnRow 8 3 mc ms 142) (he : EdW κ cL_drawnRow (tA 13) .areturn (fun _ => True) fin) : ∀ (n : Nat) (x0 : Nat) (x2 : Nat) (x4 : Int32), Jw κ (wM κ) 8 fin 70 [some ((55, .ref x0) : TV), none, some ((13, .ref x2) : TV), none, some ((0, .int x4) : TV), none, none, none] [] (gL_drawnRow_L70 n x0 x2 x4) := by
  intro n
  induction n with
  | zero => intro x0 x2 x4; exact N_fail
  | succ n ih =>
    intro x0 x2 x4
    unfold gL_drawnRow_L70
    refine N_iload (pc := 70) hc dL_drawnRow_70 rfl ?_
    refine N_if_lt (pc := 72) (tgt := 141) hc dL_drawnRow_72 (by decide) ?_ ?_
    · refine N_aload_n (pc := 141) hc dL_drawnRow_141 rfl rfl ?_
      exact N_ret (pc := 142) he dL_drawnRow_142 trivial rfl
    · refine N_aload_n (pc := 75) hc dL_drawnRow_75 rfl rfl ?_
      refine N_aload_n (pc := 76) hc dL_drawnRow_76 rfl rfl ?_
      refine N_zlen (pc := 77) hc dL_drawnRow_77 (fun v3 => ?_)
      refine N_callV (pc := 78) hc clX10 (As := [((0, .int v3) : TV)]) (ZX10_next x0 v3) dL_drawnRow_78 mzX10_next rfl tw964 tw965 tw966 tw1 tw967 rfl (Nat.le_of_ble_eq_true rfl) (Nat.le_of_ble_eq_true rfl) (Nat.le_of_ble_eq_true rfl) rfl (fun v4 => ?_)
      show Jw κ (wM κ) 8 fin 81 [some ((55, .ref x0) : TV), none, some ((13, .ref x2) : TV), none, some ((0, .int x4) : TV), none, none, none] [((0, .int v4) : TV)] _
      refine N_istore (pc := 81) (l' := [some ((55, .ref x0) : TV), none, some ((13, .ref x2) : TV), none, some ((0, .int x4) : TV), some ((0, .int v4) : TV), none, none]) hc dL_drawnRow_81 (by decide) rfl rfl ?_
      refine N_aload_n (pc := 83) hc dL_drawnRow_83 rfl rfl ?_
      refine N_iconst (pc := 84) (v := 2) hc dL_drawnRow_84 (by decide) ?_
      refine N_callV (pc := 85) hc clX10 (As := [((0, .int 2) : TV)]) (ZX10_next x0 2) dL_drawnRow_85 mzX10_next rfl tw964 tw965 tw966 tw1 tw967 rfl (Nat.le_of_ble_eq_true rfl) (Nat.le_of_ble_eq_true rfl) (Nat.le_of_ble_eq_true rfl) rfl (fun v5 => ?_)
      show Jw κ (wM κ) 8 fin 88 [some ((55, .ref x0) : TV), none, some ((13, .ref x2) : TV), none, some ((0, .int x4) : TV), some ((0, .int v4) : TV), none, none] [((0, .int v5) : TV)] _
      refine N_if_ne (pc := 88) (tgt := 95) hc dL_drawnRow_88 (by decide) ?_ ?_
      · refine N_iconst (pc := 95) (v := 0) hc dL_drawnRow_95 (by decide) ?_
        refine N_sub (l' := [some ((55, .ref x0) : TV), none, some ((13, .ref x2) : TV), none, some ((0, .int x4) : TV), some ((0, .int v4) : TV), none, none]) ⟨rfl, ⟨rfl, ⟨rfl, ⟨rfl, trivial⟩⟩⟩⟩ ?_
        exact qL_drawnRow_L96 hc he ih x0 x2 x4 v4 0
      · refine N_iconst (pc := 91) (v := 1) hc dL_drawnRow_91 (by decide) ?_
        refine N_goto (pc := 92) (tgt := 96) hc dL_drawnRow_92 (by decide) ?_
        refine N_sub (l' := [some ((55, .ref x0) : TV), none, some ((13, .ref x2) : TV), none, some ((0, .int x4) : TV), some ((0, .int v4) : TV), none, none]) ⟨rfl, ⟨rfl, ⟨rfl, ⟨rfl, trivial⟩⟩⟩⟩ ?_
        exact qL_drawnRow_L96 hc he ih x0 x2 x4 v4 1
set_option maxRecDepth 100000 in
set_option maxHeartbeats 8000000 in
theorem qL_drawnRow_L56 {κ : Cx} {fin : Nat → Mm → Prop} {mc ms : Nat} (hc : Jc κ RL cL_drawnRow 8 3 mc ms 142) (he : EdW κ cL_drawnRow (tA 13) .areturn (fun _ => True) fin) {k16 : Nat → Nat → Nat → Int32 → Int32 → Mm → Option (Nat × Mm × Nat × Nat)} (hk16 : ∀ (x0 : Nat) (x1 : Nat) (x2 : Nat) (x3 : Int32) (x4 : Int32), Jw κ (wM κ) 8 fin 16 [some ((55, .ref x0) : TV), some ((13, .ref x1) : TV), some ((13, .ref x2) : TV), some ((0, .int x3) : TV), some ((0, .int x4) : TV), none, none, none] [] (k16 x0 x1 x2 x3 x4)) (x0 : Nat) (x1 : Nat) (x2 : Nat) (x3 : Int32) (x4 : Int32) (s0 : Int32) (s1 : Int32) (s2 : Nat) : Jw κ (wM κ) 8 fin 56 [some ((55, .ref x0) : TV), some ((13, .ref x1) : TV), some ((13, .ref x2) : TV), some ((0, .int x3) : TV), some ((0, .int x4) : TV), none, none, none] [((0, .int s0) : TV), ((0, .int s1) : TV), ((13, .ref s2) : TV)] (gL_drawnRow_L56 k16 x0 x1 x2 x3 x4 s0 s1 s2) := by
  unfold gL_drawnRow_L56
  refine N_zast (pc := 56) hc dL_drawnRow_56 ?_
  refine N_iinc (pc := 57) (v := x4 + 1) (l' := [some ((55, .ref x0) : TV), some ((13, .ref x1) : TV), some ((13, .ref x2) : TV), some ((0, .int x3) : TV), some ((0, .int (x4 + 1)) : TV), none, none, none]) hc dL_drawnRow_57 rfl rfl (by decide) rfl rfl ?_
  refine N_goto (pc := 60) (tgt := 16) hc dL_drawnRow_60 (by decide) ?_
  refine N_sub (l' := [some ((55, .ref x0) : TV), some ((13, .ref x1) : TV), some ((13, .ref x2) : TV), some ((0, .int x3) : TV), some ((0, .int (x4 + 1)) : TV), none, none, none]) ⟨rfl, ⟨rfl, ⟨rfl, ⟨rfl, ⟨rfl, trivial⟩⟩⟩⟩⟩ ?_
  exact hk16 x0 x1 x2 x3 (x4 + 1)
set_option maxRecDepth 100000 in
set_option maxHeartbeats 8000000 in
theorem qL_drawnRow_L55 {κ : Cx} {fin : Nat → Mm → Prop} {mc ms : Nat} (hc : Jc κ RL cL_drawnRow 8 3 mc ms 142) (he : EdW κ cL_drawnRow (tA 13) .areturn (fun _ => True) fin) {k16 : Nat → Nat → Nat → Int32 → Int32 → Mm → Option (Nat × Mm × Nat × Nat)} (hk16 : ∀ (x0 : Nat) (x1 : Nat) (x2 : Nat) (x3 : Int32) (x4 : Int32), Jw κ (wM κ) 8 fin 16 [some ((55, .ref x0) : TV), some ((13, .ref x1) : TV), some ((13, .ref x2) : TV), some ((0, .int x3) : TV), some ((0, .int x4) : TV), none, none, none] [] (k16 x0 x1 x2 x3 x4)) (x0 : Nat) (x1 : Nat) (x2 : Nat) (x3 : Int32) (x4 : Int32) (s0 : Int32) (s1 : Nat) : Jw κ (wM κ) 8 fin 55 [some ((55, .ref x0) : TV), some ((13, .ref x1) : TV), some ((13, .ref x2) : TV), some ((0, .int x3) : TV), some ((0, .int x4) : TV), none, none, none] [((0, .int s0) : TV), ((13, .ref s1) : TV)] (gL_drawnRow_L55 k16 x0 x1 x2 x3 x4 s0 s1) := by
  unfold gL_drawnRow_L55
  refine N_iconst (pc := 55) (v := 0) hc dL_drawnRow_55 (by decide) ?_
  refine N_sub (l' := [some ((55, .ref x0) : TV), some ((13, .ref x1) : TV), some ((13, .ref x2) : TV), some ((0, .int x3) : TV), some ((0, .int x4) : TV), none, none, none]) ⟨rfl, ⟨rfl, ⟨rfl, ⟨rfl, ⟨rfl, trivial⟩⟩⟩⟩⟩ ?_
  exact qL_drawnRow_L56 hc he hk16 x0 x1 x2 x3 x4 0 s0 s1
set_option maxRecDepth 100000 in
set_option maxHeartbeats 8000000 in
theorem qL_drawnRow_L16 {κ : Cx} {fin : Nat → Mm → Prop} {mc ms : Nat} (hc : Jc κ RL cL_drawnRow 8 3 mc ms 142) (he : EdW κ cL_drawnRow (tA 13) .areturn (fun _ => True) fin) : ∀ (n : Nat) (x0 : Nat) (x1 : Nat) (x2 : Nat) (x3 : Int32) (x4 : Int32), Jw κ (wM κ) 8 fin 16 [some ((55, .ref x0) : TV), some ((13, .ref x1) : TV), some ((13, .ref x2) : TV), some ((0, .int x3) : TV), some ((0, .int x4) : TV), none, none, none] [] (gL_drawnRow_L16 n x0 x1 x2 x3 x4) := by
  intro n
  induction n with
  | zero => intro x0 x1 x2 x3 x4; exact N_fail
  | succ n ih =>
    intro x0 x1 x2 x3 x4
    unfold gL_drawnRow_L16
    refine N_iload (pc := 16) hc dL_drawnRow_16 rfl ?_
    refine N_aload_n (pc := 18) hc dL_drawnRow_18 rfl rfl ?_
    refine N_zlen (pc := 19) hc dL_drawnRow_19 (fun v6 => ?_)
    refine N_icmp_ge (pc := 20) (tgt := 63) hc dL_drawnRow_20 (by decide) ?_ ?_
    · refine N_aload_n (pc := 63) hc dL_drawnRow_63 rfl rfl ?_
      refine N_iconst (pc := 64) (v := 3) hc dL_drawnRow_64 (by decide) ?_
      refine N_callV (pc := 65) hc clX10 (As := [((0, .int 3) : TV)]) (ZX10_next x0 3) dL_drawnRow_65 mzX10_next rfl tw964 tw965 tw966 tw1 tw967 rfl (Nat.le_of_ble_eq_true rfl) (Nat.le_of_ble_eq_true rfl) (Nat.le_of_ble_eq_true rfl) rfl (fun v7 => ?_)
      show Jw κ (wM κ) 8 fin 68 [some ((55, .ref x0) : TV), some ((13, .ref x1) : TV), some ((13, .ref x2) : TV), some ((0, .int x3) : TV), some ((0, .int x4) : TV), none, none, none] [((0, .int v7) : TV)] _
      refine N_istore (pc := 68) (l' := [some ((55, .ref x0) : TV), some ((13, .ref x1) : TV), some ((13, .ref x2) : TV), some ((0, .int x3) : TV), some ((0, .int v7) : TV), none, none, none]) hc dL_drawnRow_68 (by decide) rfl rfl ?_
      refine N_sub (l' := [some ((55, .ref x0) : TV), none, some ((13, .ref x2) : TV), none, some ((0, .int v7) : TV), none, none, none]) ⟨rfl, ⟨rfl, ⟨rfl, trivial⟩⟩⟩ ?_
      exact qL_drawnRow_L70 hc he fu x0 x2 v7
    · refine N_aload_n (pc := 23) hc dL_drawnRow_23 rfl rfl ?_
      refine N_iload (pc := 24) hc dL_drawnRow_24 rfl ?_
      refine N_iload (pc := 26) hc dL_drawnRow_26 rfl ?_
      refine N_iload_n (pc := 28) hc dL_drawnRow_28 rfl rfl ?_
      refine N_isub (pc := 29) hc dL_drawnRow_29 ?_
      refine N_if_lt (pc := 30) (tgt := 55) hc dL_drawnRow_30 (by decide) ?_ ?_
      · refine N_sub (l' := [some ((55, .ref x0) : TV), some ((13, .ref x1) : TV), some ((13, .ref x2) : TV), some ((0, .int x3) : TV), some ((0, .int x4) : TV), none, none, none]) ⟨rfl, ⟨rfl, ⟨rfl, ⟨rfl, ⟨rfl, trivial⟩⟩⟩⟩⟩ ?_
        exact qL_drawnRow_L55 hc he ih x0 x1 x2 x3 x4 x4 x2
      · refine N_iload (pc := 33) hc dL_drawnRow_33 rfl ?_
        refine N_iload_n (pc := 35) hc dL_drawnRow_35 rfl rfl ?_
        refine N_isub (pc := 36) hc dL_drawnRow_36 ?_
        refine N_aload_n (pc := 37) hc dL_drawnRow_37 rfl rfl ?_
        refine N_zlen (pc := 38) hc dL_drawnRow_38 (fun v8 => ?_)
        refine N_icmp_ge (pc := 39) (tgt := 55) hc dL_drawnRow_39 (by decide) ?_ ?_
        · refine N_sub (l' := [some ((55, .ref x0) : TV), some ((13, .ref x1) : TV), some ((13, .ref x2) : TV), some ((0, .int x3) : TV), some ((0, .int x4) : TV), none, none, none]) ⟨rfl, ⟨rfl, ⟨rfl, ⟨rfl, ⟨rfl, trivial⟩⟩⟩⟩⟩ ?_
          exact qL_drawnRow_L55 hc he ih x0 x1 x2 x3 x4 x4 x2
        · refine N_aload_n (pc := 42) hc dL_drawnRow_42 rfl rfl ?_
          refine N_iload (pc := 43) hc dL_drawnRow_43 rfl ?_
          refine N_iload_n (pc := 45) hc dL_drawnRow_45 rfl rfl ?_
          refine N_isub (pc := 46) hc dL_drawnRow_46 ?_
          refine N_zald (pc := 47) hc dL_drawnRow_47 (fun v9 => ?_)
          refine N_if_eq (pc := 48) (tgt := 55) hc dL_drawnRow_48 (by decide) ?_ ?_
          · refine N_sub (l' := [some ((55, .ref x0) : TV), some ((13, .ref x1) : TV), some ((13, .ref x2) : TV), some ((0, .int x3) : TV), some ((0, .int x4) : TV), none, none, none]) ⟨rfl, ⟨rfl, ⟨rfl, ⟨rfl, ⟨rfl, trivial⟩⟩⟩⟩⟩ ?_
            exact qL_drawnRow_L55 hc he ih x0 x1 x2 x3 x4 x4 x2
          · refine N_iconst (pc := 51) (v := 1) hc dL_drawnRow_51 (by decide) ?_
            refine N_goto (pc := 52) (tgt := 56) hc dL_drawnRow_52 (by decide) ?_
            refine N_sub (l' := [some ((55, .ref x0) : TV), some ((13, .ref x1) : TV), some ((13, .ref x2) : TV), some ((0, .int x3) : TV), some ((0, .int x4) : TV), none, none, none]) ⟨rfl, ⟨rfl, ⟨rfl, ⟨rfl, ⟨rfl, trivial⟩⟩⟩⟩⟩ ?_
            exact qL_drawnRow_L56 hc he ih x0 x1 x2 x3 x4 1 x4 x2
set_option maxRecDepth 100000 in
set_option maxHeartbeats 8000000 in
theorem qL_drawnRow {κ : Cx} {fin : Nat → Mm → Prop} {mc ms : Nat} (hc : Jc κ RL cL_drawnRow 8 3 mc ms 142) (he : EdW κ cL_drawnRow (tA 13) .areturn (fun _ => True) fin) (x0 : Nat) (x1 : Nat) : Jw κ (wM κ) 8 fin 0 [some ((55, .ref x0) : TV), some ((13, .ref x1) : TV), none, none, none, none, none, none] [] (gL_drawnRow x0 x1) := by
  unfold gL_drawnRow
  refine N_aload_n (pc := 0) hc dL_drawnRow_0 rfl rfl ?_
  refine N_zlen (pc := 1) hc dL_drawnRow_1 (fun v10 => ?_)
  refine N_newa13 (pc := 2) hc tw950 dL_drawnRow_2 (fun h11 => ?_)
  refine N_astore_n (pc := 4) (l' := [some ((55, .ref x0) : TV), some ((13, .ref x1) : TV), some ((13, .ref h11) : TV), none, none, none, none, none]) hc dL_drawnRow_4 rfl (by decide) rfl rfl ?_
  refine N_aload_n (pc := 5) hc dL_drawnRow_5 rfl rfl ?_
  refine N_iconst (pc := 6) (v := 5) hc dL_drawnRow_6 (by decide) ?_
  refine N_callV (pc := 7) hc clX10 (As := [((0, .int 5) : TV)]) (ZX10_next x0 5) dL_drawnRow_7 mzX10_next rfl tw964 tw965 tw966 tw1 tw967 rfl (Nat.le_of_ble_eq_true rfl) (Nat.le_of_ble_eq_true rfl) (Nat.le_of_ble_eq_true rfl) rfl (fun v12 => ?_)
  show Jw κ (wM κ) 8 fin 10 [some ((55, .ref x0) : TV), some ((13, .ref x1) : TV), some ((13, .ref h11) : TV), none, none, none, none, none] [((0, .int v12) : TV)] _
  refine N_iconst (pc := 10) (v := 2) hc dL_drawnRow_10 (by decide) ?_
  refine N_isub (pc := 11) hc dL_drawnRow_11 ?_
  refine N_nmi (fun v13 => ?_)
  refine N_istore_n (pc := 12) (l' := [some ((55, .ref x0) : TV), some ((13, .ref x1) : TV), some ((13, .ref h11) : TV), some ((0, .int v13) : TV), none, none, none, none]) hc dL_drawnRow_12 rfl (by decide) rfl rfl ?_
  refine N_iconst (pc := 13) (v := 0) hc dL_drawnRow_13 (by decide) ?_
  refine N_istore (pc := 14) (l' := [some ((55, .ref x0) : TV), some ((13, .ref x1) : TV), some ((13, .ref h11) : TV), some ((0, .int v13) : TV), some ((0, .int 0) : TV), none, none, none]) hc dL_drawnRow_14 (by decide) rfl rfl ?_
  refine N_sub (l' := [some ((55, .ref x0) : TV), some ((13, .ref x1) : TV), some ((13, .ref h11) : TV), some ((0, .int v13) : TV), some ((0, .int 0) : TV), none, none, none]) ⟨rfl, ⟨rfl, ⟨rfl, ⟨rfl, ⟨rfl, trivial⟩⟩⟩⟩⟩ ?_
  exact qL_drawnRow_L16 hc he fu x0 x1 h11 v13 0
theorem mzL_drawnRow : MOk yL_drawnRow 2 := ⟨by decide +kernel, by decide +kernel, by decide +kernel⟩
set_option maxRecDepth 100000 in
set_option maxHeartbeats 8000000 in
theorem ZL_drawnRow (x0 : Nat) (x1 : Nat) : Cw (tA 13) yL_drawnRow cL_drawnRow 8 (some (.array .boolean)) 3 142 [((55, .ref x0) : TV), ((13, .ref x1) : TV)] (gL_drawnRow x0 x1) :=
  Cw_A (Or.inr ⟨_, rfl⟩) (j := 6) (by decide +kernel) rfl rfl (Nat.le_of_ble_eq_true rfl) (fun κ fin mc ms hc he => qL_drawnRow hc he x0 x1)
set_option maxRecDepth 100000 in
set_option maxHeartbeats 8000000 in
theorem qX10_init {κ : Cx} {fin : Unit → Mm → Prop} {mc ms : Nat} (hc : Jc κ RX10 cX10_init 2 1 mc ms 100) (he : EdW κ cX10_init tV .return_ (fun _ => True) fin) (hin : Mh κ = "<init>") (x0 : Nat) (x1 : Nat) : Jw κ (wM κ) 2 fin 0 [some ((55, .ref x0) : TV), some ((23, .ref x1) : TV)] [] (gX10_init x0 x1) := by
  unfold gX10_init
  refine N_aload_n (pc := 0) hc dX10_init_0 rfl rfl ?_
  refine N_objInit (pc := 1) hc tw956 tw43 tw44 (Nat.le_of_ble_eq_true rfl) (Nat.le_of_ble_eq_true rfl) (Nat.le_of_ble_eq_true rfl) dX10_init_1 ?_
  refine N_aload_n (pc := 4) hc dX10_init_4 rfl rfl ?_
  refine N_aload_n (pc := 5) hc dX10_init_5 rfl rfl ?_
  refine N_putAF (pc := 6) hc hin clX10 (k := 0) (kd := 23) (Nat.le_of_ble_eq_true rfl) rfl (Nat.le_of_ble_eq_true rfl) (fun _ => rfl) (fun _ => rfl) tw957 rfl rfl rfl dX10_init_6 ?_
  exact N_ret (pc := 9) he dX10_init_9 trivial rfl
theorem mzX10_init : MOk yX10_init 1 := ⟨by decide +kernel, by decide +kernel, by decide +kernel⟩
set_option maxRecDepth 100000 in
set_option maxHeartbeats 8000000 in
theorem ZX10_init (x0 : Nat) (x1 : Nat) : Cw tV yX10_init cX10_init 2 none 1 100 [((55, .ref x0) : TV), ((23, .ref x1) : TV)] (gX10_init x0 x1) :=
  Cw_V (j := 0) (by decide +kernel) rfl rfl (Nat.le_of_ble_eq_true rfl) (fun κ fin mc ms hc he hin => qX10_init hc he hin x0 x1)
