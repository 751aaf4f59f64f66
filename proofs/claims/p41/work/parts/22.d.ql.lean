set_option maxRecDepth 100000 in
set_option maxHeartbeats 8000000 in
theorem qL_law_L1056 {κ : Cx} {fin : Int32 → Mm → Prop} {mc ms : Nat} (hc : Jc κ RL cL_law 15 17 mc ms 702) (he : EdW κ cL_law tI .ireturn (fun a => a = 0 ∨ a = 1) fin) (x2 : Nat) (x3 : Nat) (x7 : Nat) : Jw κ (wM κ) 15 fin 1056 [none, none, some ((7, .ref x2) : TV), some ((54, .ref x3) : TV), none, none, none, some ((54, .ref x7) : TV), none, none, none, none, none, none, none] [] (gL_law_L1056 x2 x3 x7) := by
  unfold gL_law_L1056
  refine N_aload_n (pc := 1056) hc dL_law_1056 rfl rfl ?_
  refine N_aload_n (pc := 1057) hc dL_law_1057 rfl rfl ?_
  refine N_callS (pc := 1058) hc (As := [((7, .ref x2) : TV), ((54, .ref x3) : TV)]) (ZL_isLike x2 x3) dL_law_1058 mzL_isLike tw972 tw973 tw0 tw974 rfl (Nat.le_of_ble_eq_true rfl) (Nat.le_of_ble_eq_true rfl) (Nat.le_of_ble_eq_true rfl) rfl (fun v1 => ?_)
  show Jw κ (wM κ) 15 fin 1061 [none, none, some ((7, .ref x2) : TV), some ((54, .ref x3) : TV), none, none, none, some ((54, .ref x7) : TV), none, none, none, none, none, none, none] [((0, .int v1) : TV)] _
  refine N_if_eq (pc := 1061) (tgt := 1072) hc dL_law_1061 (by decide) ?_ ?_
  · refine N_iconst (pc := 1072) (v := 0) hc dL_law_1072 (by decide) ?_
    exact N_zret (pc := 1073) he dL_law_1073
  · refine N_aload_n (pc := 1064) hc dL_law_1064 rfl rfl ?_
    refine N_aload_n (pc := 1065) hc dL_law_1065 rfl rfl ?_
    refine N_callS (pc := 1066) hc (As := [((7, .ref x2) : TV), ((54, .ref x3) : TV)]) (ZL_isSent x2 x3) dL_law_1066 mzL_isSent tw1231 tw1232 tw0 tw1233 rfl (Nat.le_of_ble_eq_true rfl) (Nat.le_of_ble_eq_true rfl) (Nat.le_of_ble_eq_true rfl) rfl (fun v2 => ?_)
    show Jw κ (wM κ) 15 fin 1069 [none, none, some ((7, .ref x2) : TV), some ((54, .ref x3) : TV), none, none, none, some ((54, .ref x7) : TV), none, none, none, none, none, none, none] [((0, .int v2) : TV)] _
    refine N_if_ne (pc := 1069) (tgt := 1074) hc dL_law_1069 (by decide) ?_ ?_
    · refine N_aload_n (pc := 1074) hc dL_law_1074 rfl rfl ?_
      refine N_callCV (pc := 1075) hc clX7 (As := []) (KX7_undo x2) dL_law_1075 moX7_undo rfl tw726 tw727 tw728 tw2 tw729 rfl (Nat.le_of_ble_eq_true rfl) (Nat.le_of_ble_eq_true rfl) (Nat.le_of_ble_eq_true rfl) rfl (fun _ _ h => by cases h) (fun v3 => ?_)
      show Jw κ (wM κ) 15 fin 1078 [none, none, some ((7, .ref x2) : TV), some ((54, .ref x3) : TV), none, none, none, some ((54, .ref x7) : TV), none, none, none, none, none, none, none] [((0, .int v3) : TV)] _
      refine N_if_ne (pc := 1078) (tgt := 1103) hc dL_law_1078 (by decide) ?_ ?_
      · refine N_iconst (pc := 1103) (v := 0) hc dL_law_1103 (by decide) ?_
        exact N_zret (pc := 1104) he dL_law_1104
      · refine N_aload_n (pc := 1081) hc dL_law_1081 rfl rfl ?_
        refine N_aload (pc := 1082) hc dL_law_1082 rfl ?_
        refine N_callS (pc := 1084) hc (As := [((7, .ref x2) : TV), ((54, .ref x7) : TV)]) (ZL_isLike x2 x7) dL_law_1084 mzL_isLike tw972 tw973 tw0 tw974 rfl (Nat.le_of_ble_eq_true rfl) (Nat.le_of_ble_eq_true rfl) (Nat.le_of_ble_eq_true rfl) rfl (fun v4 => ?_)
        show Jw κ (wM κ) 15 fin 1087 [none, none, some ((7, .ref x2) : TV), some ((54, .ref x3) : TV), none, none, none, some ((54, .ref x7) : TV), none, none, none, none, none, none, none] [((0, .int v4) : TV)] _
        refine N_if_eq (pc := 1087) (tgt := 1103) hc dL_law_1087 (by decide) ?_ ?_
        · refine N_iconst (pc := 1103) (v := 0) hc dL_law_1103 (by decide) ?_
          exact N_zret (pc := 1104) he dL_law_1104
        · refine N_aload_n (pc := 1090) hc dL_law_1090 rfl rfl ?_
          refine N_aload (pc := 1091) hc dL_law_1091 rfl ?_
          refine N_callS (pc := 1093) hc (As := [((7, .ref x2) : TV), ((54, .ref x7) : TV)]) (ZL_isSent x2 x7) dL_law_1093 mzL_isSent tw1231 tw1232 tw0 tw1233 rfl (Nat.le_of_ble_eq_true rfl) (Nat.le_of_ble_eq_true rfl) (Nat.le_of_ble_eq_true rfl) rfl (fun v5 => ?_)
          show Jw κ (wM κ) 15 fin 1096 [none, none, some ((7, .ref x2) : TV), some ((54, .ref x3) : TV), none, none, none, some ((54, .ref x7) : TV), none, none, none, none, none, none, none] [((0, .int v5) : TV)] _
          refine N_if_eq (pc := 1096) (tgt := 1103) hc dL_law_1096 (by decide) ?_ ?_
          · refine N_iconst (pc := 1103) (v := 0) hc dL_law_1103 (by decide) ?_
            exact N_zret (pc := 1104) he dL_law_1104
          · refine N_iconst (pc := 1099) (v := 1) hc dL_law_1099 (by decide) ?_
            refine N_goto (pc := 1100) (tgt := 1104) hc dL_law_1100 (by decide) ?_
            exact N_zret (pc := 1104) he dL_law_1104
    · refine N_iconst (pc := 1072) (v := 0) hc dL_law_1072 (by decide) ?_
      exact N_zret (pc := 1073) he dL_law_1073
set_option maxRecDepth 100000 in
set_option maxHeartbeats 8000000 in
theorem qL_law_L998 {κ : Cx} {fin : Int32 → Mm → Prop} {mc ms : Nat} (hc : Jc κ RL cL_law 15 17 mc ms 702) (he : EdW κ cL_law tI .ireturn (fun a => a = 0 ∨ a = 1) fin) {k959 : Nat → Nat → Nat → Int32 → Int32 → Nat → Int32 → Int32 → Mm → Option (Int32 × Mm × Nat × Nat)} (hk959 : ∀ (x2 : Nat) (x3 : Nat) (x7 : Nat) (x8 : Int32) (x10 : Int32) (x11 : Nat) (x12 : Int32) (x13 : Int32), Jw κ (wM κ) 15 fin 959 [none, none, some ((7, .ref x2) : TV), some ((54, .ref x3) : TV), none, none, none, some ((54, .ref x7) : TV), some ((0, .int x8) : TV), none, some ((0, .int x10) : TV), some ((13, .ref x11) : TV), some ((0, .int x12) : TV), some ((0, .int x13) : TV), none] [] (k959 x2 x3 x7 x8 x10 x11 x12 x13)) (x2 : Nat) (x3 : Nat) (x7 : Nat) (x8 : Int32) (x10 : Int32) (x11 : Nat) (x13 : Int32) (s0 : Int32) (s1 : Int32) : Jw κ (wM κ) 15 fin 998 [none, none, some ((7, .ref x2) : TV), some ((54, .ref x3) : TV), none, none, none, some ((54, .ref x7) : TV), some ((0, .int x8) : TV), none, some ((0, .int x10) : TV), some ((13, .ref x11) : TV), none, some ((0, .int x13) : TV), none] [((0, .int s0) : TV), ((0, .int s1) : TV)] (gL_law_L998 k959 x2 x3 x7 x8 x10 x11 x13 s0 s1) := by
  unfold gL_law_L998
  refine N_iadd (pc := 998) hc dL_law_998 ?_
  refine N_nmi (fun v6 => ?_)
  refine N_istore (pc := 999) (l' := [none, none, some ((7, .ref x2) : TV), some ((54, .ref x3) : TV), none, none, none, some ((54, .ref x7) : TV), some ((0, .int x8) : TV), none, some ((0, .int x10) : TV), some ((13, .ref x11) : TV), some ((0, .int v6) : TV), some ((0, .int x13) : TV), none]) hc dL_law_999 (by decide) rfl rfl ?_
  refine N_iinc (pc := 1001) (v := x13 + 1) (l' := [none, none, some ((7, .ref x2) : TV), some ((54, .ref x3) : TV), none, none, none, some ((54, .ref x7) : TV), some ((0, .int x8) : TV), none, some ((0, .int x10) : TV), some ((13, .ref x11) : TV), some ((0, .int v6) : TV), some ((0, .int (x13 + 1)) : TV), none]) hc dL_law_1001 rfl rfl (by decide) rfl rfl ?_
  refine N_goto (pc := 1004) (tgt := 959) hc dL_law_1004 (by decide) ?_
  refine N_sub (l' := [none, none, some ((7, .ref x2) : TV), some ((54, .ref x3) : TV), none, none, none, some ((54, .ref x7) : TV), some ((0, .int x8) : TV), none, some ((0, .int x10) : TV), some ((13, .ref x11) : TV), some ((0, .int v6) : TV), some ((0, .int (x13 + 1)) : TV), none]) ⟨rfl, ⟨rfl, ⟨rfl, ⟨rfl, ⟨rfl, ⟨rfl, ⟨rfl, ⟨rfl, trivial⟩⟩⟩⟩⟩⟩⟩⟩ ?_
  exact hk959 x2 x3 x7 x8 x10 x11 v6 (x13 + 1)
set_option maxRecDepth 100000 in
set_option maxHeartbeats 8000000 in
theorem qL_law_L959 {κ : Cx} {fin : Int32 → Mm → Prop} {mc ms : Nat} (hc : Jc κ RL cL_law 15 17 mc ms 702) (he : EdW κ cL_law tI .ireturn (fun a => a = 0 ∨ a = 1) fin) : ∀ (n : Nat) (x2 : Nat) (x3 : Nat) (x7 : Nat) (x8 : Int32) (x10 : Int32) (x11 : Nat) (x12 : Int32) (x13 : Int32), Jw κ (wM κ) 15 fin 959 [none, none, some ((7, .ref x2) : TV), some ((54, .ref x3) : TV), none, none, none, some ((54, .ref x7) : TV), some ((0, .int x8) : TV), none, some ((0, .int x10) : TV), some ((13, .ref x11) : TV), some ((0, .int x12) : TV), some ((0, .int x13) : TV), none] [] (gL_law_L959 n x2 x3 x7 x8 x10 x11 x12 x13) := by
  intro n
  induction n with
  | zero => intro x2 x3 x7 x8 x10 x11 x12 x13; exact N_fail
  | succ n ih =>
    intro x2 x3 x7 x8 x10 x11 x12 x13
    unfold gL_law_L959
    refine N_iload (pc := 959) hc dL_law_959 rfl ?_
    refine N_aload_n (pc := 961) hc dL_law_961 rfl rfl ?_
    refine N_getNI (pc := 962) hc clX9 (k := 0) (Nat.le_of_ble_eq_true rfl) rfl (hst0 := "DotRunsLaw") (by decide +kernel) dL_law_962 (fun v7 => ?_)
    refine N_icmp_ge (pc := 965) (tgt := 1007) hc dL_law_965 (by decide) ?_ ?_
    · refine N_aload_n (pc := 1007) hc dL_law_1007 rfl rfl ?_
      refine N_getNA (pc := 1008) hc clX9 (k := 3) (kd := 44) (Nat.le_of_ble_eq_true rfl) rfl (Nat.le_of_ble_eq_true rfl) (hst0 := "DotRunsLaw") (by decide +kernel) dL_law_1008 (fun v8 => ?_)
      refine N_iload (pc := 1011) hc dL_law_1011 rfl ?_
      refine N_aload_n (pc := 1013) hc dL_law_1013 rfl rfl ?_
      refine N_getNA (pc := 1014) hc clX9 (k := 3) (kd := 44) (Nat.le_of_ble_eq_true rfl) rfl (Nat.le_of_ble_eq_true rfl) (hst0 := "DotRunsLaw") (by decide +kernel) dL_law_1014 (fun v9 => ?_)
      refine N_iload (pc := 1017) hc dL_law_1017 rfl ?_
      refine N_callV (pc := 1019) hc clJx4a65c (As := [((0, .int x10) : TV)]) (ZJx4a65c_get_915e3 v9 x10) dL_law_1019 mzJx4a65c_get_915e3 rfl tw1058 tw1059 tw1060 tw13 tw1061 rfl (Nat.le_of_ble_eq_true rfl) (Nat.le_of_ble_eq_true rfl) (Nat.le_of_ble_eq_true rfl) rfl (fun h10 => ?_)
      show Jw κ (wM κ) 15 fin 1022 [none, none, some ((7, .ref x2) : TV), some ((54, .ref x3) : TV), none, none, none, some ((54, .ref x7) : TV), some ((0, .int x8) : TV), none, some ((0, .int x10) : TV), some ((13, .ref x11) : TV), some ((0, .int x12) : TV), some ((0, .int x13) : TV), none] [((16, .ref h10) : TV), ((0, .int x8) : TV), ((44, .ref v8) : TV)] _
      refine N_castZ (pc := 1022) hc tw1070 dL_law_1022 ?_
      refine N_to16 (h := h10) [] (Or.inl rfl) ?_
      refine N_callV (pc := 1025) hc clJx4a65c (As := [((0, .int x8) : TV), ((16, .ref h10) : TV)]) (ZJx4a65c_set_bcc79 v8 x8 h10) dL_law_1025 mzJx4a65c_set_bcc79 rfl tw1604 tw1242 tw1243 tw13 tw1244 rfl (Nat.le_of_ble_eq_true rfl) (Nat.le_of_ble_eq_true rfl) (Nat.le_of_ble_eq_true rfl) rfl (fun h11 => ?_)
      show Jw κ (wM κ) 15 fin 1028 [none, none, some ((7, .ref x2) : TV), some ((54, .ref x3) : TV), none, none, none, some ((54, .ref x7) : TV), some ((0, .int x8) : TV), none, some ((0, .int x10) : TV), some ((13, .ref x11) : TV), some ((0, .int x12) : TV), some ((0, .int x13) : TV), none] [((16, .ref h11) : TV)] _
      refine N_pop (pc := 1028) hc dL_law_1028 rfl ?_
      refine N_aload_n (pc := 1029) hc dL_law_1029 rfl rfl ?_
      refine N_getNA (pc := 1030) hc clX9 (k := 3) (kd := 44) (Nat.le_of_ble_eq_true rfl) rfl (Nat.le_of_ble_eq_true rfl) (hst0 := "DotRunsLaw") (by decide +kernel) dL_law_1030 (fun v12 => ?_)
      refine N_iload (pc := 1033) hc dL_law_1033 rfl ?_
      refine N_aload (pc := 1035) hc dL_law_1035 rfl ?_
      refine N_to16 (h := x11) [] (Or.inl rfl) ?_
      refine N_callV (pc := 1037) hc clJx4a65c (As := [((0, .int x10) : TV), ((16, .ref x11) : TV)]) (ZJx4a65c_set_bcc79 v12 x10 x11) dL_law_1037 mzJx4a65c_set_bcc79 rfl tw1604 tw1242 tw1243 tw13 tw1244 rfl (Nat.le_of_ble_eq_true rfl) (Nat.le_of_ble_eq_true rfl) (Nat.le_of_ble_eq_true rfl) rfl (fun h13 => ?_)
      show Jw κ (wM κ) 15 fin 1040 [none, none, some ((7, .ref x2) : TV), some ((54, .ref x3) : TV), none, none, none, some ((54, .ref x7) : TV), some ((0, .int x8) : TV), none, some ((0, .int x10) : TV), some ((13, .ref x11) : TV), some ((0, .int x12) : TV), some ((0, .int x13) : TV), none] [((16, .ref h13) : TV)] _
      refine N_pop (pc := 1040) hc dL_law_1040 rfl ?_
      refine N_aload_n (pc := 1041) hc dL_law_1041 rfl rfl ?_
      refine N_iload (pc := 1042) hc dL_law_1042 rfl ?_
      refine N_iload (pc := 1044) hc dL_law_1044 rfl ?_
      refine N_callCX (pc := 1046) hc clX7 (As := [((0, .int x8) : TV), ((0, .int x10) : TV)]) (KX7_swap x2 x8 x10) dL_law_1046 moX7_swap rfl tw722 tw723 tw724 tw2 tw725 rfl (Nat.le_of_ble_eq_true rfl) (Nat.le_of_ble_eq_true rfl) (Nat.le_of_ble_eq_true rfl) rfl (fun _ _ h => by cases h) (fun v14 => ?_)
      show Jw κ (wM κ) 15 fin 1049 [none, none, some ((7, .ref x2) : TV), some ((54, .ref x3) : TV), none, none, none, some ((54, .ref x7) : TV), some ((0, .int x8) : TV), none, some ((0, .int x10) : TV), some ((13, .ref x11) : TV), some ((0, .int x12) : TV), some ((0, .int x13) : TV), none] [((0, .int v14) : TV)] _
      refine N_iload (pc := 1049) hc dL_law_1049 rfl ?_
      refine N_icmp_eq (pc := 1051) (tgt := 1056) hc dL_law_1051 (by decide) ?_ ?_
      · refine N_sub (l' := [none, none, some ((7, .ref x2) : TV), some ((54, .ref x3) : TV), none, none, none, some ((54, .ref x7) : TV), none, none, none, none, none, none, none]) ⟨rfl, ⟨rfl, ⟨rfl, trivial⟩⟩⟩ ?_
        exact qL_law_L1056 hc he x2 x3 x7
      · refine N_iconst (pc := 1054) (v := 0) hc dL_law_1054 (by decide) ?_
        exact N_zret (pc := 1055) he dL_law_1055
    · refine N_iload (pc := 968) hc dL_law_968 rfl ?_
      refine N_aload (pc := 970) hc dL_law_970 rfl ?_
      refine N_iload (pc := 972) hc dL_law_972 rfl ?_
      refine N_zald (pc := 974) hc dL_law_974 (fun v15 => ?_)
      refine N_aload_n (pc := 975) hc dL_law_975 rfl rfl ?_
      refine N_getNA (pc := 976) hc clX9 (k := 3) (kd := 44) (Nat.le_of_ble_eq_true rfl) rfl (Nat.le_of_ble_eq_true rfl) (hst0 := "DotRunsLaw") (by decide +kernel) dL_law_976 (fun v16 => ?_)
      refine N_iload (pc := 979) hc dL_law_979 rfl ?_
      refine N_callV (pc := 981) hc clJx4a65c (As := [((0, .int x10) : TV)]) (ZJx4a65c_get_915e3 v16 x10) dL_law_981 mzJx4a65c_get_915e3 rfl tw1058 tw1059 tw1060 tw13 tw1061 rfl (Nat.le_of_ble_eq_true rfl) (Nat.le_of_ble_eq_true rfl) (Nat.le_of_ble_eq_true rfl) rfl (fun h17 => ?_)
      show Jw κ (wM κ) 15 fin 984 [none, none, some ((7, .ref x2) : TV), some ((54, .ref x3) : TV), none, none, none, some ((54, .ref x7) : TV), some ((0, .int x8) : TV), none, some ((0, .int x10) : TV), some ((13, .ref x11) : TV), some ((0, .int x12) : TV), some ((0, .int x13) : TV), none] [((16, .ref h17) : TV), ((0, .int v15) : TV), ((0, .int x12) : TV)] _
      refine N_castZ (pc := 984) hc tw1070 dL_law_984 ?_
      refine N_iload (pc := 987) hc dL_law_987 rfl ?_
      refine N_zald (pc := 989) hc dL_law_989 (fun v18 => ?_)
      refine N_icmp_ne (pc := 990) (tgt := 997) hc dL_law_990 (by decide) ?_ ?_
      · refine N_iconst (pc := 997) (v := 1) hc dL_law_997 (by decide) ?_
        refine N_sub (l' := [none, none, some ((7, .ref x2) : TV), some ((54, .ref x3) : TV), none, none, none, some ((54, .ref x7) : TV), some ((0, .int x8) : TV), none, some ((0, .int x10) : TV), some ((13, .ref x11) : TV), none, some ((0, .int x13) : TV), none]) ⟨rfl, ⟨rfl, ⟨rfl, ⟨rfl, ⟨rfl, ⟨rfl, ⟨rfl, trivial⟩⟩⟩⟩⟩⟩⟩ ?_
        exact qL_law_L998 hc he ih x2 x3 x7 x8 x10 x11 x13 1 x12
      · refine N_iconst (pc := 993) (v := 0) hc dL_law_993 (by decide) ?_
        refine N_goto (pc := 994) (tgt := 998) hc dL_law_994 (by decide) ?_
        refine N_sub (l' := [none, none, some ((7, .ref x2) : TV), some ((54, .ref x3) : TV), none, none, none, some ((54, .ref x7) : TV), some ((0, .int x8) : TV), none, some ((0, .int x10) : TV), some ((13, .ref x11) : TV), none, some ((0, .int x13) : TV), none]) ⟨rfl, ⟨rfl, ⟨rfl, ⟨rfl, ⟨rfl, ⟨rfl, ⟨rfl, trivial⟩⟩⟩⟩⟩⟩⟩ ?_
        exact qL_law_L998 hc he ih x2 x3 x7 x8 x10 x11 x13 0 x12
set_option maxRecDepth 100000 in
set_option maxHeartbeats 8000000 in
theorem qL_law_L901 {κ : Cx} {fin : Int32 → Mm → Prop} {mc ms : Nat} (hc : Jc κ RL cL_law 15 17 mc ms 702) (he : EdW κ cL_law tI .ireturn (fun a => a = 0 ∨ a = 1) fin) {k829 : Nat → Nat → Nat → Int32 → Int32 → Int32 → Mm → Option (Int32 × Mm × Nat × Nat)} (hk829 : ∀ (x2 : Nat) (x3 : Nat) (x7 : Nat) (x8 : Int32) (x10 : Int32) (x11 : Int32), Jw κ (wM κ) 15 fin 829 [none, none, some ((7, .ref x2) : TV), some ((54, .ref x3) : TV), none, none, none, some ((54, .ref x7) : TV), some ((0, .int x8) : TV), none, some ((0, .int x10) : TV), some ((0, .int x11) : TV), none, none, none] [] (k829 x2 x3 x7 x8 x10 x11)) (x2 : Nat) (x3 : Nat) (x7 : Nat) (x8 : Int32) (x11 : Int32) (s0 : Int32) (s1 : Int32) : Jw κ (wM κ) 15 fin 901 [none, none, some ((7, .ref x2) : TV), some ((54, .ref x3) : TV), none, none, none, some ((54, .ref x7) : TV), some ((0, .int x8) : TV), none, none, some ((0, .int x11) : TV), none, none, none] [((0, .int s0) : TV), ((0, .int s1) : TV)] (gL_law_L901 k829 x2 x3 x7 x8 x11 s0 s1) := by
  unfold gL_law_L901
  refine N_iadd (pc := 901) hc dL_law_901 ?_
  refine N_nmi (fun v19 => ?_)
  refine N_istore (pc := 902) (l' := [none, none, some ((7, .ref x2) : TV), some ((54, .ref x3) : TV), none, none, none, some ((54, .ref x7) : TV), some ((0, .int x8) : TV), none, some ((0, .int v19) : TV), some ((0, .int x11) : TV), none, none, none]) hc dL_law_902 (by decide) rfl rfl ?_
  refine N_iinc (pc := 904) (v := x11 + 1) (l' := [none, none, some ((7, .ref x2) : TV), some ((54, .ref x3) : TV), none, none, none, some ((54, .ref x7) : TV), some ((0, .int x8) : TV), none, some ((0, .int v19) : TV), some ((0, .int (x11 + 1)) : TV), none, none, none]) hc dL_law_904 rfl rfl (by decide) rfl rfl ?_
  refine N_goto (pc := 907) (tgt := 829) hc dL_law_907 (by decide) ?_
  refine N_sub (l' := [none, none, some ((7, .ref x2) : TV), some ((54, .ref x3) : TV), none, none, none, some ((54, .ref x7) : TV), some ((0, .int x8) : TV), none, some ((0, .int v19) : TV), some ((0, .int (x11 + 1)) : TV), none, none, none]) ⟨rfl, ⟨rfl, ⟨rfl, ⟨rfl, ⟨rfl, ⟨rfl, trivial⟩⟩⟩⟩⟩⟩ ?_
  exact hk829 x2 x3 x7 x8 v19 (x11 + 1)
set_option maxRecDepth 100000 in
set_option maxHeartbeats 8000000 in
theorem qL_law_L875 {κ : Cx} {fin : Int32 → Mm → Prop} {mc ms : Nat} (hc : Jc κ RL cL_law 15 17 mc ms 702) (he : EdW κ cL_law tI .ireturn (fun a => a = 0 ∨ a = 1) fin) {k829 : Nat → Nat → Nat → Int32 → Int32 → Int32 → Mm → Option (Int32 × Mm × Nat × Nat)} (hk829 : ∀ (x2 : Nat) (x3 : Nat) (x7 : Nat) (x8 : Int32) (x10 : Int32) (x11 : Int32), Jw κ (wM κ) 15 fin 829 [none, none, some ((7, .ref x2) : TV), some ((54, .ref x3) : TV), none, none, none, some ((54, .ref x7) : TV), some ((0, .int x8) : TV), none, some ((0, .int x10) : TV), some ((0, .int x11) : TV), none, none, none] [] (k829 x2 x3 x7 x8 x10 x11)) (x2 : Nat) (x3 : Nat) (x7 : Nat) (x8 : Int32) (x10 : Int32) (x11 : Int32) (s0 : Int32) (s1 : Int32) (s2 : Nat) : Jw κ (wM κ) 15 fin 875 [none, none, some ((7, .ref x2) : TV), some ((54, .ref x3) : TV), none, none, none, some ((54, .ref x7) : TV), some ((0, .int x8) : TV), none, some ((0, .int x10) : TV), some ((0, .int x11) : TV), none, none, none] [((0, .int s0) : TV), ((0, .int s1) : TV), ((13, .ref s2) : TV)] (gL_law_L875 k829 x2 x3 x7 x8 x10 x11 s0 s1 s2) := by
  unfold gL_law_L875
  refine N_zast (pc := 875) hc dL_law_875 ?_
  refine N_iload (pc := 876) hc dL_law_876 rfl ?_
  refine N_aload_n (pc := 878) hc dL_law_878 rfl rfl ?_
  refine N_getNA (pc := 879) hc clX9 (k := 3) (kd := 44) (Nat.le_of_ble_eq_true rfl) rfl (Nat.le_of_ble_eq_true rfl) (hst0 := "DotRunsLaw") (by decide +kernel) dL_law_879 (fun v20 => ?_)
  refine N_iload (pc := 882) hc dL_law_882 rfl ?_
  refine N_callV (pc := 884) hc clJx4a65c (As := [((0, .int x8) : TV)]) (ZJx4a65c_get_915e3 v20 x8) dL_law_884 mzJx4a65c_get_915e3 rfl tw1058 tw1059 tw1060 tw13 tw1061 rfl (Nat.le_of_ble_eq_true rfl) (Nat.le_of_ble_eq_true rfl) (Nat.le_of_ble_eq_true rfl) rfl (fun h21 => ?_)
  show Jw κ (wM κ) 15 fin 887 [none, none, some ((7, .ref x2) : TV), some ((54, .ref x3) : TV), none, none, none, some ((54, .ref x7) : TV), some ((0, .int x8) : TV), none, some ((0, .int x10) : TV), some ((0, .int x11) : TV), none, none, none] [((16, .ref h21) : TV), ((0, .int x10) : TV)] _
  refine N_castZ (pc := 887) hc tw1070 dL_law_887 ?_
  refine N_iload (pc := 890) hc dL_law_890 rfl ?_
  refine N_zald (pc := 892) hc dL_law_892 (fun v22 => ?_)
  refine N_if_eq (pc := 893) (tgt := 900) hc dL_law_893 (by decide) ?_ ?_
  · refine N_iconst (pc := 900) (v := 0) hc dL_law_900 (by decide) ?_
    refine N_sub (l' := [none, none, some ((7, .ref x2) : TV), some ((54, .ref x3) : TV), none, none, none, some ((54, .ref x7) : TV), some ((0, .int x8) : TV), none, none, some ((0, .int x11) : TV), none, none, none]) ⟨rfl, ⟨rfl, ⟨rfl, ⟨rfl, ⟨rfl, trivial⟩⟩⟩⟩⟩ ?_
    exact qL_law_L901 hc he hk829 x2 x3 x7 x8 x11 0 x10
  · refine N_iconst (pc := 896) (v := 1) hc dL_law_896 (by decide) ?_
    refine N_goto (pc := 897) (tgt := 901) hc dL_law_897 (by decide) ?_
    refine N_sub (l' := [none, none, some ((7, .ref x2) : TV), some ((54, .ref x3) : TV), none, none, none, some ((54, .ref x7) : TV), some ((0, .int x8) : TV), none, none, some ((0, .int x11) : TV), none, none, none]) ⟨rfl, ⟨rfl, ⟨rfl, ⟨rfl, ⟨rfl, trivial⟩⟩⟩⟩⟩ ?_
    exact qL_law_L901 hc he hk829 x2 x3 x7 x8 x11 1 x10
set_option maxRecDepth 100000 in
set_option maxHeartbeats 8000000 in
theorem qL_law_L829 {κ : Cx} {fin : Int32 → Mm → Prop} {mc ms : Nat} (hc : Jc κ RL cL_law 15 17 mc ms 702) (he : EdW κ cL_law tI .ireturn (fun a => a = 0 ∨ a = 1) fin) : ∀ (n : Nat) (x2 : Nat) (x3 : Nat) (x7 : Nat) (x8 : Int32) (x10 : Int32) (x11 : Int32), Jw κ (wM κ) 15 fin 829 [none, none, some ((7, .ref x2) : TV), some ((54, .ref x3) : TV), none, none, none, some ((54, .ref x7) : TV), some ((0, .int x8) : TV), none, some ((0, .int x10) : TV), some ((0, .int x11) : TV), none, none, none] [] (gL_law_L829 n x2 x3 x7 x8 x10 x11) := by
  intro n
  induction n with
  | zero => intro x2 x3 x7 x8 x10 x11; exact N_fail
  | succ n ih =>
    intro x2 x3 x7 x8 x10 x11
    unfold gL_law_L829
    refine N_iload (pc := 829) hc dL_law_829 rfl ?_
    refine N_aload_n (pc := 831) hc dL_law_831 rfl rfl ?_
    refine N_getNI (pc := 832) hc clX9 (k := 0) (Nat.le_of_ble_eq_true rfl) rfl (hst0 := "DotRunsLaw") (by decide +kernel) dL_law_832 (fun v23 => ?_)
    refine N_icmp_ge (pc := 835) (tgt := 910) hc dL_law_835 (by decide) ?_ ?_
    · refine N_aload_n (pc := 910) hc dL_law_910 rfl rfl ?_
      refine N_iload (pc := 911) hc dL_law_911 rfl ?_
      refine N_callCX (pc := 913) hc clX7 (As := [((0, .int x8) : TV)]) (KX7_invert x2 x8) dL_law_913 moX7_invert rfl tw718 tw719 tw720 tw2 tw721 rfl (Nat.le_of_ble_eq_true rfl) (Nat.le_of_ble_eq_true rfl) (Nat.le_of_ble_eq_true rfl) rfl (fun _ _ h => by cases h) (fun v24 => ?_)
      show Jw κ (wM κ) 15 fin 916 [none, none, some ((7, .ref x2) : TV), some ((54, .ref x3) : TV), none, none, none, some ((54, .ref x7) : TV), some ((0, .int x8) : TV), none, some ((0, .int x10) : TV), some ((0, .int x11) : TV), none, none, none] [((0, .int v24) : TV)] _
      refine N_iload (pc := 916) hc dL_law_916 rfl ?_
      refine N_icmp_eq (pc := 918) (tgt := 923) hc dL_law_918 (by decide) ?_ ?_
      · refine N_goto (pc := 923) (tgt := 1056) hc dL_law_923 (by decide) ?_
        refine N_sub (l' := [none, none, some ((7, .ref x2) : TV), some ((54, .ref x3) : TV), none, none, none, some ((54, .ref x7) : TV), none, none, none, none, none, none, none]) ⟨rfl, ⟨rfl, ⟨rfl, trivial⟩⟩⟩ ?_
        exact qL_law_L1056 hc he x2 x3 x7
      · refine N_iconst (pc := 921) (v := 0) hc dL_law_921 (by decide) ?_
        exact N_zret (pc := 922) he dL_law_922
    · refine N_aload_n (pc := 838) hc dL_law_838 rfl rfl ?_
      refine N_getNA (pc := 839) hc clX9 (k := 3) (kd := 44) (Nat.le_of_ble_eq_true rfl) rfl (Nat.le_of_ble_eq_true rfl) (hst0 := "DotRunsLaw") (by decide +kernel) dL_law_839 (fun v25 => ?_)
      refine N_iload (pc := 842) hc dL_law_842 rfl ?_
      refine N_callV (pc := 844) hc clJx4a65c (As := [((0, .int x8) : TV)]) (ZJx4a65c_get_915e3 v25 x8) dL_law_844 mzJx4a65c_get_915e3 rfl tw1058 tw1059 tw1060 tw13 tw1061 rfl (Nat.le_of_ble_eq_true rfl) (Nat.le_of_ble_eq_true rfl) (Nat.le_of_ble_eq_true rfl) rfl (fun h26 => ?_)
      show Jw κ (wM κ) 15 fin 847 [none, none, some ((7, .ref x2) : TV), some ((54, .ref x3) : TV), none, none, none, some ((54, .ref x7) : TV), some ((0, .int x8) : TV), none, some ((0, .int x10) : TV), some ((0, .int x11) : TV), none, none, none] [((16, .ref h26) : TV)] _
      refine N_castZ (pc := 847) hc tw1070 dL_law_847 ?_
      refine N_iload (pc := 850) hc dL_law_850 rfl ?_
      refine N_aload_n (pc := 852) hc dL_law_852 rfl rfl ?_
      refine N_getNA (pc := 853) hc clX9 (k := 3) (kd := 44) (Nat.le_of_ble_eq_true rfl) rfl (Nat.le_of_ble_eq_true rfl) (hst0 := "DotRunsLaw") (by decide +kernel) dL_law_853 (fun v27 => ?_)
      refine N_iload (pc := 856) hc dL_law_856 rfl ?_
      refine N_callV (pc := 858) hc clJx4a65c (As := [((0, .int x8) : TV)]) (ZJx4a65c_get_915e3 v27 x8) dL_law_858 mzJx4a65c_get_915e3 rfl tw1058 tw1059 tw1060 tw13 tw1061 rfl (Nat.le_of_ble_eq_true rfl) (Nat.le_of_ble_eq_true rfl) (Nat.le_of_ble_eq_true rfl) rfl (fun h28 => ?_)
      show Jw κ (wM κ) 15 fin 861 [none, none, some ((7, .ref x2) : TV), some ((54, .ref x3) : TV), none, none, none, some ((54, .ref x7) : TV), some ((0, .int x8) : TV), none, some ((0, .int x10) : TV), some ((0, .int x11) : TV), none, none, none] [((16, .ref h28) : TV), ((0, .int x11) : TV), ((13, .ref h26) : TV)] _
      refine N_castZ (pc := 861) hc tw1070 dL_law_861 ?_
      refine N_iload (pc := 864) hc dL_law_864 rfl ?_
      refine N_zald (pc := 866) hc dL_law_866 (fun v29 => ?_)
      refine N_if_ne (pc := 867) (tgt := 874) hc dL_law_867 (by decide) ?_ ?_
      · refine N_iconst (pc := 874) (v := 0) hc dL_law_874 (by decide) ?_
        refine N_sub (l' := [none, none, some ((7, .ref x2) : TV), some ((54, .ref x3) : TV), none, none, none, some ((54, .ref x7) : TV), some ((0, .int x8) : TV), none, some ((0, .int x10) : TV), some ((0, .int x11) : TV), none, none, none]) ⟨rfl, ⟨rfl, ⟨rfl, ⟨rfl, ⟨rfl, ⟨rfl, trivial⟩⟩⟩⟩⟩⟩ ?_
        exact qL_law_L875 hc he ih x2 x3 x7 x8 x10 x11 0 x11 h26
      · refine N_iconst (pc := 870) (v := 1) hc dL_law_870 (by decide) ?_
        refine N_goto (pc := 871) (tgt := 875) hc dL_law_871 (by decide) ?_
        refine N_sub (l' := [none, none, some ((7, .ref x2) : TV), some ((54, .ref x3) : TV), none, none, none, some ((54, .ref x7) : TV), some ((0, .int x8) : TV), none, some ((0, .int x10) : TV), some ((0, .int x11) : TV), none, none, none]) ⟨rfl, ⟨rfl, ⟨rfl, ⟨rfl, ⟨rfl, ⟨rfl, trivial⟩⟩⟩⟩⟩⟩ ?_
        exact qL_law_L875 hc he ih x2 x3 x7 x8 x10 x11 1 x11 h26
set_option maxRecDepth 100000 in
set_option maxHeartbeats 8000000 in
theorem qL_law_L692 {κ : Cx} {fin : Int32 → Mm → Prop} {mc ms : Nat} (hc : Jc κ RL cL_law 15 17 mc ms 702) (he : EdW κ cL_law tI .ireturn (fun a => a = 0 ∨ a = 1) fin) (x2 : Nat) (x3 : Nat) (x7 : Nat) (x13 : Int32) (s0 : Int32) (s1 : Int32) (s2 : Int32) (s3 : Int32) (s4 : Nat) : Jw κ (wM κ) 15 fin 692 [none, none, some ((7, .ref x2) : TV), some ((54, .ref x3) : TV), none, none, none, some ((54, .ref x7) : TV), none, none, none, none, none, some ((0, .int x13) : TV), none] [((0, .int s0) : TV), ((0, .int s1) : TV), ((0, .int s2) : TV), ((0, .int s3) : TV), ((7, .ref s4) : TV)] (gL_law_L692 x2 x3 x7 x13 s0 s1 s2 s3 s4) := by
  unfold gL_law_L692
  refine N_callCX (pc := 692) hc clX7 (As := [((0, .int s3) : TV), ((0, .int s2) : TV), ((0, .int s1) : TV), ((0, .int s0) : TV)]) (KX7_paint s4 s3 s2 s1 s0) dL_law_692 moX7_paint rfl tw569 tw570 tw571 tw2 tw572 rfl (Nat.le_of_ble_eq_true rfl) (Nat.le_of_ble_eq_true rfl) (Nat.le_of_ble_eq_true rfl) rfl (fun _ _ h => by cases h) (fun v30 => ?_)
  show Jw κ (wM κ) 15 fin 695 [none, none, some ((7, .ref x2) : TV), some ((54, .ref x3) : TV), none, none, none, some ((54, .ref x7) : TV), none, none, none, none, none, some ((0, .int x13) : TV), none] [((0, .int v30) : TV)] _
  refine N_iload (pc := 695) hc dL_law_695 rfl ?_
  refine N_icmp_eq (pc := 697) (tgt := 702) hc dL_law_697 (by decide) ?_ ?_
  · refine N_goto (pc := 702) (tgt := 1056) hc dL_law_702 (by decide) ?_
    refine N_sub (l' := [none, none, some ((7, .ref x2) : TV), some ((54, .ref x3) : TV), none, none, none, some ((54, .ref x7) : TV), none, none, none, none, none, none, none]) ⟨rfl, ⟨rfl, ⟨rfl, trivial⟩⟩⟩ ?_
    exact qL_law_L1056 hc he x2 x3 x7
  · refine N_iconst (pc := 700) (v := 0) hc dL_law_700 (by decide) ?_
    exact N_zret (pc := 701) he dL_law_701
set_option maxRecDepth 100000 in
set_option maxHeartbeats 8000000 in
theorem qL_law_L649 {κ : Cx} {fin : Int32 → Mm → Prop} {mc ms : Nat} (hc : Jc κ RL cL_law 15 17 mc ms 702) (he : EdW κ cL_law tI .ireturn (fun a => a = 0 ∨ a = 1) fin) {k615 : Nat → Nat → Nat → Int32 → Int32 → Int32 → Int32 → Int32 → Int32 → Mm → Option (Int32 × Mm × Nat × Nat)} (hk615 : ∀ (x2 : Nat) (x3 : Nat) (x7 : Nat) (x8 : Int32) (x10 : Int32) (x11 : Int32) (x12 : Int32) (x13 : Int32) (x14 : Int32), Jw κ (wM κ) 15 fin 615 [none, none, some ((7, .ref x2) : TV), some ((54, .ref x3) : TV), none, none, none, some ((54, .ref x7) : TV), some ((0, .int x8) : TV), none, some ((0, .int x10) : TV), some ((0, .int x11) : TV), some ((0, .int x12) : TV), some ((0, .int x13) : TV), some ((0, .int x14) : TV)] [] (k615 x2 x3 x7 x8 x10 x11 x12 x13 x14)) (x2 : Nat) (x3 : Nat) (x7 : Nat) (x8 : Int32) (x10 : Int32) (x11 : Int32) (x12 : Int32) (x14 : Int32) (s0 : Int32) (s1 : Int32) : Jw κ (wM κ) 15 fin 649 [none, none, some ((7, .ref x2) : TV), some ((54, .ref x3) : TV), none, none, none, some ((54, .ref x7) : TV), some ((0, .int x8) : TV), none, some ((0, .int x10) : TV), some ((0, .int x11) : TV), some ((0, .int x12) : TV), none, some ((0, .int x14) : TV)] [((0, .int s0) : TV), ((0, .int s1) : TV)] (gL_law_L649 k615 x2 x3 x7 x8 x10 x11 x12 x14 s0 s1) := by
  unfold gL_law_L649
  refine N_iadd (pc := 649) hc dL_law_649 ?_
  refine N_nmi (fun v31 => ?_)
  refine N_istore (pc := 650) (l' := [none, none, some ((7, .ref x2) : TV), some ((54, .ref x3) : TV), none, none, none, some ((54, .ref x7) : TV), some ((0, .int x8) : TV), none, some ((0, .int x10) : TV), some ((0, .int x11) : TV), some ((0, .int x12) : TV), some ((0, .int v31) : TV), some ((0, .int x14) : TV)]) hc dL_law_650 (by decide) rfl rfl ?_
  refine N_aload_n (pc := 652) hc dL_law_652 rfl rfl ?_
  refine N_getNA (pc := 653) hc clX9 (k := 3) (kd := 44) (Nat.le_of_ble_eq_true rfl) rfl (Nat.le_of_ble_eq_true rfl) (hst0 := "DotRunsLaw") (by decide +kernel) dL_law_653 (fun v32 => ?_)
  refine N_iload (pc := 656) hc dL_law_656 rfl ?_
  refine N_callV (pc := 658) hc clJx4a65c (As := [((0, .int x8) : TV)]) (ZJx4a65c_get_915e3 v32 x8) dL_law_658 mzJx4a65c_get_915e3 rfl tw1058 tw1059 tw1060 tw13 tw1061 rfl (Nat.le_of_ble_eq_true rfl) (Nat.le_of_ble_eq_true rfl) (Nat.le_of_ble_eq_true rfl) rfl (fun h33 => ?_)
  show Jw κ (wM κ) 15 fin 661 [none, none, some ((7, .ref x2) : TV), some ((54, .ref x3) : TV), none, none, none, some ((54, .ref x7) : TV), some ((0, .int x8) : TV), none, some ((0, .int x10) : TV), some ((0, .int x11) : TV), some ((0, .int x12) : TV), some ((0, .int v31) : TV), some ((0, .int x14) : TV)] [((16, .ref h33) : TV)] _
  refine N_castZ (pc := 661) hc tw1070 dL_law_661 ?_
  refine N_iload (pc := 664) hc dL_law_664 rfl ?_
  refine N_iload (pc := 666) hc dL_law_666 rfl ?_
  refine N_zast (pc := 668) hc dL_law_668 ?_
  refine N_iinc (pc := 669) (v := x14 + 1) (l' := [none, none, some ((7, .ref x2) : TV), some ((54, .ref x3) : TV), none, none, none, some ((54, .ref x7) : TV), some ((0, .int x8) : TV), none, some ((0, .int x10) : TV), some ((0, .int x11) : TV), some ((0, .int x12) : TV), some ((0, .int v31) : TV), some ((0, .int (x14 + 1)) : TV)]) hc dL_law_669 rfl rfl (by decide) rfl rfl ?_
  refine N_goto (pc := 672) (tgt := 615) hc dL_law_672 (by decide) ?_
  refine N_sub (l' := [none, none, some ((7, .ref x2) : TV), some ((54, .ref x3) : TV), none, none, none, some ((54, .ref x7) : TV), some ((0, .int x8) : TV), none, some ((0, .int x10) : TV), some ((0, .int x11) : TV), some ((0, .int x12) : TV), some ((0, .int v31) : TV), some ((0, .int (x14 + 1)) : TV)]) ⟨rfl, ⟨rfl, ⟨rfl, ⟨rfl, ⟨rfl, ⟨rfl, ⟨rfl, ⟨rfl, ⟨rfl, trivial⟩⟩⟩⟩⟩⟩⟩⟩⟩ ?_
  exact hk615 x2 x3 x7 x8 x10 x11 x12 v31 (x14 + 1)
set_option maxRecDepth 100000 in
set_option maxHeartbeats 8000000 in
theorem qL_law_L615 {κ : Cx} {fin : Int32 → Mm → Prop} {mc ms : Nat} (hc : Jc κ RL cL_law 15 17 mc ms 702) (he : EdW κ cL_law tI .ireturn (fun a => a = 0 ∨ a = 1) fin) : ∀ (n : Nat) (x2 : Nat) (x3 : Nat) (x7 : Nat) (x8 : Int32) (x10 : Int32) (x11 : Int32) (x12 : Int32) (x13 : Int32) (x14 : Int32), Jw κ (wM κ) 15 fin 615 [none, none, some ((7, .ref x2) : TV), some ((54, .ref x3) : TV), none, none, none, some ((54, .ref x7) : TV), some ((0, .int x8) : TV), none, some ((0, .int x10) : TV), some ((0, .int x11) : TV), some ((0, .int x12) : TV), some ((0, .int x13) : TV), some ((0, .int x14) : TV)] [] (gL_law_L615 n x2 x3 x7 x8 x10 x11 x12 x13 x14) := by
  intro n
  induction n with
  | zero => intro x2 x3 x7 x8 x10 x11 x12 x13 x14; exact N_fail
  | succ n ih =>
    intro x2 x3 x7 x8 x10 x11 x12 x13 x14
    unfold gL_law_L615
    refine N_iload (pc := 615) hc dL_law_615 rfl ?_
    refine N_iload (pc := 617) hc dL_law_617 rfl ?_
    refine N_icmp_ge (pc := 619) (tgt := 675) hc dL_law_619 (by decide) ?_ ?_
    · refine N_aload_n (pc := 675) hc dL_law_675 rfl rfl ?_
      refine N_iload (pc := 676) hc dL_law_676 rfl ?_
      refine N_iload (pc := 678) hc dL_law_678 rfl ?_
      refine N_iload (pc := 680) hc dL_law_680 rfl ?_
      refine N_iload (pc := 682) hc dL_law_682 rfl ?_
      refine N_if_eq (pc := 684) (tgt := 691) hc dL_law_684 (by decide) ?_ ?_
      · refine N_iconst (pc := 691) (v := 0) hc dL_law_691 (by decide) ?_
        refine N_sub (l' := [none, none, some ((7, .ref x2) : TV), some ((54, .ref x3) : TV), none, none, none, some ((54, .ref x7) : TV), none, none, none, none, none, some ((0, .int x13) : TV), none]) ⟨rfl, ⟨rfl, ⟨rfl, ⟨rfl, trivial⟩⟩⟩⟩ ?_
        exact qL_law_L692 hc he x2 x3 x7 x13 0 x11 x10 x8 x2
      · refine N_iconst (pc := 687) (v := 1) hc dL_law_687 (by decide) ?_
        refine N_goto (pc := 688) (tgt := 692) hc dL_law_688 (by decide) ?_
        refine N_sub (l' := [none, none, some ((7, .ref x2) : TV), some ((54, .ref x3) : TV), none, none, none, some ((54, .ref x7) : TV), none, none, none, none, none, some ((0, .int x13) : TV), none]) ⟨rfl, ⟨rfl, ⟨rfl, ⟨rfl, trivial⟩⟩⟩⟩ ?_
        exact qL_law_L692 hc he x2 x3 x7 x13 1 x11 x10 x8 x2
    · refine N_iload (pc := 622) hc dL_law_622 rfl ?_
      refine N_aload_n (pc := 624) hc dL_law_624 rfl rfl ?_
      refine N_getNA (pc := 625) hc clX9 (k := 3) (kd := 44) (Nat.le_of_ble_eq_true rfl) rfl (Nat.le_of_ble_eq_true rfl) (hst0 := "DotRunsLaw") (by decide +kernel) dL_law_625 (fun v34 => ?_)
      refine N_iload (pc := 628) hc dL_law_628 rfl ?_
      refine N_callV (pc := 630) hc clJx4a65c (As := [((0, .int x8) : TV)]) (ZJx4a65c_get_915e3 v34 x8) dL_law_630 mzJx4a65c_get_915e3 rfl tw1058 tw1059 tw1060 tw13 tw1061 rfl (Nat.le_of_ble_eq_true rfl) (Nat.le_of_ble_eq_true rfl) (Nat.le_of_ble_eq_true rfl) rfl (fun h35 => ?_)
      show Jw κ (wM κ) 15 fin 633 [none, none, some ((7, .ref x2) : TV), some ((54, .ref x3) : TV), none, none, none, some ((54, .ref x7) : TV), some ((0, .int x8) : TV), none, some ((0, .int x10) : TV), some ((0, .int x11) : TV), some ((0, .int x12) : TV), some ((0, .int x13) : TV), some ((0, .int x14) : TV)] [((16, .ref h35) : TV), ((0, .int x13) : TV)] _
      refine N_castZ (pc := 633) hc tw1070 dL_law_633 ?_
      refine N_iload (pc := 636) hc dL_law_636 rfl ?_
      refine N_zald (pc := 638) hc dL_law_638 (fun v36 => ?_)
      refine N_iload (pc := 639) hc dL_law_639 rfl ?_
      refine N_icmp_ne (pc := 641) (tgt := 648) hc dL_law_641 (by decide) ?_ ?_
      · refine N_iconst (pc := 648) (v := 1) hc dL_law_648 (by decide) ?_
        refine N_sub (l' := [none, none, some ((7, .ref x2) : TV), some ((54, .ref x3) : TV), none, none, none, some ((54, .ref x7) : TV), some ((0, .int x8) : TV), none, some ((0, .int x10) : TV), some ((0, .int x11) : TV), some ((0, .int x12) : TV), none, some ((0, .int x14) : TV)]) ⟨rfl, ⟨rfl, ⟨rfl, ⟨rfl, ⟨rfl, ⟨rfl, ⟨rfl, ⟨rfl, trivial⟩⟩⟩⟩⟩⟩⟩⟩ ?_
        exact qL_law_L649 hc he ih x2 x3 x7 x8 x10 x11 x12 x14 1 x13
      · refine N_iconst (pc := 644) (v := 0) hc dL_law_644 (by decide) ?_
        refine N_goto (pc := 645) (tgt := 649) hc dL_law_645 (by decide) ?_
        refine N_sub (l' := [none, none, some ((7, .ref x2) : TV), some ((54, .ref x3) : TV), none, none, none, some ((54, .ref x7) : TV), some ((0, .int x8) : TV), none, some ((0, .int x10) : TV), some ((0, .int x11) : TV), some ((0, .int x12) : TV), none, some ((0, .int x14) : TV)]) ⟨rfl, ⟨rfl, ⟨rfl, ⟨rfl, ⟨rfl, ⟨rfl, ⟨rfl, ⟨rfl, trivial⟩⟩⟩⟩⟩⟩⟩⟩ ?_
        exact qL_law_L649 hc he ih x2 x3 x7 x8 x10 x11 x12 x14 0 x13
set_option maxRecDepth 100000 in
set_option maxHeartbeats 8000000 in
theorem qL_law_L606 {κ : Cx} {fin : Int32 → Mm → Prop} {mc ms : Nat} (hc : Jc κ RL cL_law 15 17 mc ms 702) (he : EdW κ cL_law tI .ireturn (fun a => a = 0 ∨ a = 1) fin) (x2 : Nat) (x3 : Nat) (x7 : Nat) (x8 : Int32) (x10 : Int32) (x11 : Int32) (s0 : Int32) : Jw κ (wM κ) 15 fin 606 [none, none, some ((7, .ref x2) : TV), some ((54, .ref x3) : TV), none, none, none, some ((54, .ref x7) : TV), some ((0, .int x8) : TV), none, some ((0, .int x10) : TV), some ((0, .int x11) : TV), none, none, none] [((0, .int s0) : TV)] (gL_law_L606 x2 x3 x7 x8 x10 x11 s0) := by
  unfold gL_law_L606
  refine N_istore (pc := 606) (l' := [none, none, some ((7, .ref x2) : TV), some ((54, .ref x3) : TV), none, none, none, some ((54, .ref x7) : TV), some ((0, .int x8) : TV), none, some ((0, .int x10) : TV), some ((0, .int x11) : TV), some ((0, .int s0) : TV), none, none]) hc dL_law_606 (by decide) rfl rfl ?_
  refine N_iconst (pc := 608) (v := 0) hc dL_law_608 (by decide) ?_
  refine N_istore (pc := 609) (l' := [none, none, some ((7, .ref x2) : TV), some ((54, .ref x3) : TV), none, none, none, some ((54, .ref x7) : TV), some ((0, .int x8) : TV), none, some ((0, .int x10) : TV), some ((0, .int x11) : TV), some ((0, .int s0) : TV), some ((0, .int 0) : TV), none]) hc dL_law_609 (by decide) rfl rfl ?_
  refine N_iload (pc := 611) hc dL_law_611 rfl ?_
  refine N_istore (pc := 613) (l' := [none, none, some ((7, .ref x2) : TV), some ((54, .ref x3) : TV), none, none, none, some ((54, .ref x7) : TV), some ((0, .int x8) : TV), none, some ((0, .int x10) : TV), some ((0, .int x11) : TV), some ((0, .int s0) : TV), some ((0, .int 0) : TV), some ((0, .int x10) : TV)]) hc dL_law_613 (by decide) rfl rfl ?_
  refine N_sub (l' := [none, none, some ((7, .ref x2) : TV), some ((54, .ref x3) : TV), none, none, none, some ((54, .ref x7) : TV), some ((0, .int x8) : TV), none, some ((0, .int x10) : TV), some ((0, .int x11) : TV), some ((0, .int s0) : TV), some ((0, .int 0) : TV), some ((0, .int x10) : TV)]) ⟨rfl, ⟨rfl, ⟨rfl, ⟨rfl, ⟨rfl, ⟨rfl, ⟨rfl, ⟨rfl, ⟨rfl, trivial⟩⟩⟩⟩⟩⟩⟩⟩⟩ ?_
  exact qL_law_L615 hc he fu x2 x3 x7 x8 x10 x11 s0 0 x10
set_option maxRecDepth 100000 in
set_option maxHeartbeats 8000000 in
theorem qL_law_L517 {κ : Cx} {fin : Int32 → Mm → Prop} {mc ms : Nat} (hc : Jc κ RL cL_law 15 17 mc ms 702) (he : EdW κ cL_law tI .ireturn (fun a => a = 0 ∨ a = 1) fin) {k442 : Nat → Nat → Nat → Int32 → Int32 → Nat → Int32 → Int32 → Mm → Option (Int32 × Mm × Nat × Nat)} (hk442 : ∀ (x2 : Nat) (x3 : Nat) (x7 : Nat) (x8 : Int32) (x10 : Int32) (x11 : Nat) (x12 : Int32) (x13 : Int32), Jw κ (wM κ) 15 fin 442 [none, none, some ((7, .ref x2) : TV), some ((54, .ref x3) : TV), none, none, none, some ((54, .ref x7) : TV), some ((0, .int x8) : TV), none, some ((0, .int x10) : TV), some ((13, .ref x11) : TV), some ((0, .int x12) : TV), some ((0, .int x13) : TV), none] [] (k442 x2 x3 x7 x8 x10 x11 x12 x13)) (x2 : Nat) (x3 : Nat) (x7 : Nat) (x8 : Int32) (x10 : Int32) (x11 : Nat) (x13 : Int32) (s0 : Int32) (s1 : Int32) : Jw κ (wM κ) 15 fin 517 [none, none, some ((7, .ref x2) : TV), some ((54, .ref x3) : TV), none, none, none, some ((54, .ref x7) : TV), some ((0, .int x8) : TV), none, some ((0, .int x10) : TV), some ((13, .ref x11) : TV), none, some ((0, .int x13) : TV), none] [((0, .int s0) : TV), ((0, .int s1) : TV)] (gL_law_L517 k442 x2 x3 x7 x8 x10 x11 x13 s0 s1) := by
  unfold gL_law_L517
  refine N_iadd (pc := 517) hc dL_law_517 ?_
  refine N_nmi (fun v37 => ?_)
  refine N_istore (pc := 518) (l' := [none, none, some ((7, .ref x2) : TV), some ((54, .ref x3) : TV), none, none, none, some ((54, .ref x7) : TV), some ((0, .int x8) : TV), none, some ((0, .int x10) : TV), some ((13, .ref x11) : TV), some ((0, .int v37) : TV), some ((0, .int x13) : TV), none]) hc dL_law_518 (by decide) rfl rfl ?_
  refine N_iinc (pc := 520) (v := x13 + 1) (l' := [none, none, some ((7, .ref x2) : TV), some ((54, .ref x3) : TV), none, none, none, some ((54, .ref x7) : TV), some ((0, .int x8) : TV), none, some ((0, .int x10) : TV), some ((13, .ref x11) : TV), some ((0, .int v37) : TV), some ((0, .int (x13 + 1)) : TV), none]) hc dL_law_520 rfl rfl (by decide) rfl rfl ?_
  refine N_goto (pc := 523) (tgt := 442) hc dL_law_523 (by decide) ?_
  refine N_sub (l' := [none, none, some ((7, .ref x2) : TV), some ((54, .ref x3) : TV), none, none, none, some ((54, .ref x7) : TV), some ((0, .int x8) : TV), none, some ((0, .int x10) : TV), some ((13, .ref x11) : TV), some ((0, .int v37) : TV), some ((0, .int (x13 + 1)) : TV), none]) ⟨rfl, ⟨rfl, ⟨rfl, ⟨rfl, ⟨rfl, ⟨rfl, ⟨rfl, ⟨rfl, trivial⟩⟩⟩⟩⟩⟩⟩⟩ ?_
  exact hk442 x2 x3 x7 x8 x10 x11 v37 (x13 + 1)
set_option maxRecDepth 100000 in
set_option maxHeartbeats 8000000 in
theorem qL_law_L501 {κ : Cx} {fin : Int32 → Mm → Prop} {mc ms : Nat} (hc : Jc κ RL cL_law 15 17 mc ms 702) (he : EdW κ cL_law tI .ireturn (fun a => a = 0 ∨ a = 1) fin) {k442 : Nat → Nat → Nat → Int32 → Int32 → Nat → Int32 → Int32 → Mm → Option (Int32 × Mm × Nat × Nat)} (hk442 : ∀ (x2 : Nat) (x3 : Nat) (x7 : Nat) (x8 : Int32) (x10 : Int32) (x11 : Nat) (x12 : Int32) (x13 : Int32), Jw κ (wM κ) 15 fin 442 [none, none, some ((7, .ref x2) : TV), some ((54, .ref x3) : TV), none, none, none, some ((54, .ref x7) : TV), some ((0, .int x8) : TV), none, some ((0, .int x10) : TV), some ((13, .ref x11) : TV), some ((0, .int x12) : TV), some ((0, .int x13) : TV), none] [] (k442 x2 x3 x7 x8 x10 x11 x12 x13)) (x2 : Nat) (x3 : Nat) (x7 : Nat) (x8 : Int32) (x10 : Int32) (x11 : Nat) (x12 : Int32) (x13 : Int32) (s0 : Int32) (s1 : Int32) (s2 : Nat) : Jw κ (wM κ) 15 fin 501 [none, none, some ((7, .ref x2) : TV), some ((54, .ref x3) : TV), none, none, none, some ((54, .ref x7) : TV), some ((0, .int x8) : TV), none, some ((0, .int x10) : TV), some ((13, .ref x11) : TV), some ((0, .int x12) : TV), some ((0, .int x13) : TV), none] [((0, .int s0) : TV), ((0, .int s1) : TV), ((13, .ref s2) : TV)] (gL_law_L501 k442 x2 x3 x7 x8 x10 x11 x12 x13 s0 s1 s2) := by
  unfold gL_law_L501
  refine N_zast (pc := 501) hc dL_law_501 ?_
  refine N_iload (pc := 502) hc dL_law_502 rfl ?_
  refine N_aload (pc := 504) hc dL_law_504 rfl ?_
  refine N_iload (pc := 506) hc dL_law_506 rfl ?_
  refine N_zald (pc := 508) hc dL_law_508 (fun v38 => ?_)
  refine N_if_eq (pc := 509) (tgt := 516) hc dL_law_509 (by decide) ?_ ?_
  · refine N_iconst (pc := 516) (v := 0) hc dL_law_516 (by decide) ?_
    refine N_sub (l' := [none, none, some ((7, .ref x2) : TV), some ((54, .ref x3) : TV), none, none, none, some ((54, .ref x7) : TV), some ((0, .int x8) : TV), none, some ((0, .int x10) : TV), some ((13, .ref x11) : TV), none, some ((0, .int x13) : TV), none]) ⟨rfl, ⟨rfl, ⟨rfl, ⟨rfl, ⟨rfl, ⟨rfl, ⟨rfl, trivial⟩⟩⟩⟩⟩⟩⟩ ?_
    exact qL_law_L517 hc he hk442 x2 x3 x7 x8 x10 x11 x13 0 x12
  · refine N_iconst (pc := 512) (v := 1) hc dL_law_512 (by decide) ?_
    refine N_goto (pc := 513) (tgt := 517) hc dL_law_513 (by decide) ?_
    refine N_sub (l' := [none, none, some ((7, .ref x2) : TV), some ((54, .ref x3) : TV), none, none, none, some ((54, .ref x7) : TV), some ((0, .int x8) : TV), none, some ((0, .int x10) : TV), some ((13, .ref x11) : TV), none, some ((0, .int x13) : TV), none]) ⟨rfl, ⟨rfl, ⟨rfl, ⟨rfl, ⟨rfl, ⟨rfl, ⟨rfl, trivial⟩⟩⟩⟩⟩⟩⟩ ?_
    exact qL_law_L517 hc he hk442 x2 x3 x7 x8 x10 x11 x13 1 x12
set_option maxRecDepth 100000 in
set_option maxHeartbeats 8000000 in
theorem qL_law_L500 {κ : Cx} {fin : Int32 → Mm → Prop} {mc ms : Nat} (hc : Jc κ RL cL_law 15 17 mc ms 702) (he : EdW κ cL_law tI .ireturn (fun a => a = 0 ∨ a = 1) fin) {k442 : Nat → Nat → Nat → Int32 → Int32 → Nat → Int32 → Int32 → Mm → Option (Int32 × Mm × Nat × Nat)} (hk442 : ∀ (x2 : Nat) (x3 : Nat) (x7 : Nat) (x8 : Int32) (x10 : Int32) (x11 : Nat) (x12 : Int32) (x13 : Int32), Jw κ (wM κ) 15 fin 442 [none, none, some ((7, .ref x2) : TV), some ((54, .ref x3) : TV), none, none, none, some ((54, .ref x7) : TV), some ((0, .int x8) : TV), none, some ((0, .int x10) : TV), some ((13, .ref x11) : TV), some ((0, .int x12) : TV), some ((0, .int x13) : TV), none] [] (k442 x2 x3 x7 x8 x10 x11 x12 x13)) (x2 : Nat) (x3 : Nat) (x7 : Nat) (x8 : Int32) (x10 : Int32) (x11 : Nat) (x12 : Int32) (x13 : Int32) (s0 : Int32) (s1 : Nat) : Jw κ (wM κ) 15 fin 500 [none, none, some ((7, .ref x2) : TV), some ((54, .ref x3) : TV), none, none, none, some ((54, .ref x7) : TV), some ((0, .int x8) : TV), none, some ((0, .int x10) : TV), some ((13, .ref x11) : TV), some ((0, .int x12) : TV), some ((0, .int x13) : TV), none] [((0, .int s0) : TV), ((13, .ref s1) : TV)] (gL_law_L500 k442 x2 x3 x7 x8 x10 x11 x12 x13 s0 s1) := by
  unfold gL_law_L500
  refine N_iconst (pc := 500) (v := 0) hc dL_law_500 (by decide) ?_
  refine N_sub (l' := [none, none, some ((7, .ref x2) : TV), some ((54, .ref x3) : TV), none, none, none, some ((54, .ref x7) : TV), some ((0, .int x8) : TV), none, some ((0, .int x10) : TV), some ((13, .ref x11) : TV), some ((0, .int x12) : TV), some ((0, .int x13) : TV), none]) ⟨rfl, ⟨rfl, ⟨rfl, ⟨rfl, ⟨rfl, ⟨rfl, ⟨rfl, ⟨rfl, trivial⟩⟩⟩⟩⟩⟩⟩⟩ ?_
  exact qL_law_L501 hc he hk442 x2 x3 x7 x8 x10 x11 x12 x13 0 s0 s1
set_option maxRecDepth 100000 in
set_option maxHeartbeats 8000000 in
theorem qL_law_L442 {κ : Cx} {fin : Int32 → Mm → Prop} {mc ms : Nat} (hc : Jc κ RL cL_law 15 17 mc ms 702) (he : EdW κ cL_law tI .ireturn (fun a => a = 0 ∨ a = 1) fin) : ∀ (n : Nat) (x2 : Nat) (x3 : Nat) (x7 : Nat) (x8 : Int32) (x10 : Int32) (x11 : Nat) (x12 : Int32) (x13 : Int32), Jw κ (wM κ) 15 fin 442 [none, none, some ((7, .ref x2) : TV), some ((54, .ref x3) : TV), none, none, none, some ((54, .ref x7) : TV), some ((0, .int x8) : TV), none, some ((0, .int x10) : TV), some ((13, .ref x11) : TV), some ((0, .int x12) : TV), some ((0, .int x13) : TV), none] [] (gL_law_L442 n x2 x3 x7 x8 x10 x11 x12 x13) := by
  intro n
  induction n with
  | zero => intro x2 x3 x7 x8 x10 x11 x12 x13; exact N_fail
  | succ n ih =>
    intro x2 x3 x7 x8 x10 x11 x12 x13
    unfold gL_law_L442
    refine N_iload (pc := 442) hc dL_law_442 rfl ?_
    refine N_aload_n (pc := 444) hc dL_law_444 rfl rfl ?_
    refine N_getNI (pc := 445) hc clX9 (k := 0) (Nat.le_of_ble_eq_true rfl) rfl (hst0 := "DotRunsLaw") (by decide +kernel) dL_law_445 (fun v39 => ?_)
    refine N_icmp_ge (pc := 448) (tgt := 526) hc dL_law_448 (by decide) ?_ ?_
    · refine N_aload_n (pc := 526) hc dL_law_526 rfl rfl ?_
      refine N_iload (pc := 527) hc dL_law_527 rfl ?_
      refine N_iload (pc := 529) hc dL_law_529 rfl ?_
      refine N_callCX (pc := 531) hc clX7 (As := [((0, .int x8) : TV), ((0, .int x10) : TV)]) (KX7_shift x2 x8 x10) dL_law_531 moX7_shift rfl tw679 tw680 tw681 tw2 tw682 rfl (Nat.le_of_ble_eq_true rfl) (Nat.le_of_ble_eq_true rfl) (Nat.le_of_ble_eq_true rfl) rfl (fun _ _ h => by cases h) (fun v40 => ?_)
      show Jw κ (wM κ) 15 fin 534 [none, none, some ((7, .ref x2) : TV), some ((54, .ref x3) : TV), none, none, none, some ((54, .ref x7) : TV), some ((0, .int x8) : TV), none, some ((0, .int x10) : TV), some ((13, .ref x11) : TV), some ((0, .int x12) : TV), some ((0, .int x13) : TV), none] [((0, .int v40) : TV)] _
      refine N_iload (pc := 534) hc dL_law_534 rfl ?_
      refine N_icmp_eq (pc := 536) (tgt := 541) hc dL_law_536 (by decide) ?_ ?_
      · refine N_aload_n (pc := 541) hc dL_law_541 rfl rfl ?_
        refine N_getNA (pc := 542) hc clX9 (k := 3) (kd := 44) (Nat.le_of_ble_eq_true rfl) rfl (Nat.le_of_ble_eq_true rfl) (hst0 := "DotRunsLaw") (by decide +kernel) dL_law_542 (fun v41 => ?_)
        refine N_iload (pc := 545) hc dL_law_545 rfl ?_
        refine N_aload (pc := 547) hc dL_law_547 rfl ?_
        refine N_to16 (h := x11) [] (Or.inl rfl) ?_
        refine N_callV (pc := 549) hc clJx4a65c (As := [((0, .int x8) : TV), ((16, .ref x11) : TV)]) (ZJx4a65c_set_bcc79 v41 x8 x11) dL_law_549 mzJx4a65c_set_bcc79 rfl tw1604 tw1242 tw1243 tw13 tw1244 rfl (Nat.le_of_ble_eq_true rfl) (Nat.le_of_ble_eq_true rfl) (Nat.le_of_ble_eq_true rfl) rfl (fun h42 => ?_)
        show Jw κ (wM κ) 15 fin 552 [none, none, some ((7, .ref x2) : TV), some ((54, .ref x3) : TV), none, none, none, some ((54, .ref x7) : TV), some ((0, .int x8) : TV), none, some ((0, .int x10) : TV), some ((13, .ref x11) : TV), some ((0, .int x12) : TV), some ((0, .int x13) : TV), none] [((16, .ref h42) : TV)] _
        refine N_pop (pc := 552) hc dL_law_552 rfl ?_
        refine N_goto (pc := 553) (tgt := 1056) hc dL_law_553 (by decide) ?_
        refine N_sub (l' := [none, none, some ((7, .ref x2) : TV), some ((54, .ref x3) : TV), none, none, none, some ((54, .ref x7) : TV), none, none, none, none, none, none, none]) ⟨rfl, ⟨rfl, ⟨rfl, trivial⟩⟩⟩ ?_
        exact qL_law_L1056 hc he x2 x3 x7
      · refine N_iconst (pc := 539) (v := 0) hc dL_law_539 (by decide) ?_
        exact N_zret (pc := 540) he dL_law_540
    · refine N_aload (pc := 451) hc dL_law_451 rfl ?_
      refine N_iload (pc := 453) hc dL_law_453 rfl ?_
      refine N_iload (pc := 455) hc dL_law_455 rfl ?_
      refine N_iload (pc := 457) hc dL_law_457 rfl ?_
      refine N_isub (pc := 459) hc dL_law_459 ?_
      refine N_if_lt (pc := 460) (tgt := 500) hc dL_law_460 (by decide) ?_ ?_
      · refine N_sub (l' := [none, none, some ((7, .ref x2) : TV), some ((54, .ref x3) : TV), none, none, none, some ((54, .ref x7) : TV), some ((0, .int x8) : TV), none, some ((0, .int x10) : TV), some ((13, .ref x11) : TV), some ((0, .int x12) : TV), some ((0, .int x13) : TV), none]) ⟨rfl, ⟨rfl, ⟨rfl, ⟨rfl, ⟨rfl, ⟨rfl, ⟨rfl, ⟨rfl, trivial⟩⟩⟩⟩⟩⟩⟩⟩ ?_
        exact qL_law_L500 hc he ih x2 x3 x7 x8 x10 x11 x12 x13 x13 x11
      · refine N_iload (pc := 463) hc dL_law_463 rfl ?_
        refine N_iload (pc := 465) hc dL_law_465 rfl ?_
        refine N_isub (pc := 467) hc dL_law_467 ?_
        refine N_aload_n (pc := 468) hc dL_law_468 rfl rfl ?_
        refine N_getNI (pc := 469) hc clX9 (k := 0) (Nat.le_of_ble_eq_true rfl) rfl (hst0 := "DotRunsLaw") (by decide +kernel) dL_law_469 (fun v43 => ?_)
        refine N_icmp_ge (pc := 472) (tgt := 500) hc dL_law_472 (by decide) ?_ ?_
        · refine N_sub (l' := [none, none, some ((7, .ref x2) : TV), some ((54, .ref x3) : TV), none, none, none, some ((54, .ref x7) : TV), some ((0, .int x8) : TV), none, some ((0, .int x10) : TV), some ((13, .ref x11) : TV), some ((0, .int x12) : TV), some ((0, .int x13) : TV), none]) ⟨rfl, ⟨rfl, ⟨rfl, ⟨rfl, ⟨rfl, ⟨rfl, ⟨rfl, ⟨rfl, trivial⟩⟩⟩⟩⟩⟩⟩⟩ ?_
          exact qL_law_L500 hc he ih x2 x3 x7 x8 x10 x11 x12 x13 x13 x11
        · refine N_aload_n (pc := 475) hc dL_law_475 rfl rfl ?_
          refine N_getNA (pc := 476) hc clX9 (k := 3) (kd := 44) (Nat.le_of_ble_eq_true rfl) rfl (Nat.le_of_ble_eq_true rfl) (hst0 := "DotRunsLaw") (by decide +kernel) dL_law_476 (fun v44 => ?_)
          refine N_iload (pc := 479) hc dL_law_479 rfl ?_
          refine N_callV (pc := 481) hc clJx4a65c (As := [((0, .int x8) : TV)]) (ZJx4a65c_get_915e3 v44 x8) dL_law_481 mzJx4a65c_get_915e3 rfl tw1058 tw1059 tw1060 tw13 tw1061 rfl (Nat.le_of_ble_eq_true rfl) (Nat.le_of_ble_eq_true rfl) (Nat.le_of_ble_eq_true rfl) rfl (fun h45 => ?_)
          show Jw κ (wM κ) 15 fin 484 [none, none, some ((7, .ref x2) : TV), some ((54, .ref x3) : TV), none, none, none, some ((54, .ref x7) : TV), some ((0, .int x8) : TV), none, some ((0, .int x10) : TV), some ((13, .ref x11) : TV), some ((0, .int x12) : TV), some ((0, .int x13) : TV), none] [((16, .ref h45) : TV), ((0, .int x13) : TV), ((13, .ref x11) : TV)] _
          refine N_castZ (pc := 484) hc tw1070 dL_law_484 ?_
          refine N_iload (pc := 487) hc dL_law_487 rfl ?_
          refine N_iload (pc := 489) hc dL_law_489 rfl ?_
          refine N_isub (pc := 491) hc dL_law_491 ?_
          refine N_zald (pc := 492) hc dL_law_492 (fun v46 => ?_)
          refine N_if_eq (pc := 493) (tgt := 500) hc dL_law_493 (by decide) ?_ ?_
          · refine N_sub (l' := [none, none, some ((7, .ref x2) : TV), some ((54, .ref x3) : TV), none, none, none, some ((54, .ref x7) : TV), some ((0, .int x8) : TV), none, some ((0, .int x10) : TV), some ((13, .ref x11) : TV), some ((0, .int x12) : TV), some ((0, .int x13) : TV), none]) ⟨rfl, ⟨rfl, ⟨rfl, ⟨rfl, ⟨rfl, ⟨rfl, ⟨rfl, ⟨rfl, trivial⟩⟩⟩⟩⟩⟩⟩⟩ ?_
            exact qL_law_L500 hc he ih x2 x3 x7 x8 x10 x11 x12 x13 x13 x11
          · refine N_iconst (pc := 496) (v := 1) hc dL_law_496 (by decide) ?_
            refine N_goto (pc := 497) (tgt := 501) hc dL_law_497 (by decide) ?_
            refine N_sub (l' := [none, none, some ((7, .ref x2) : TV), some ((54, .ref x3) : TV), none, none, none, some ((54, .ref x7) : TV), some ((0, .int x8) : TV), none, some ((0, .int x10) : TV), some ((13, .ref x11) : TV), some ((0, .int x12) : TV), some ((0, .int x13) : TV), none]) ⟨rfl, ⟨rfl, ⟨rfl, ⟨rfl, ⟨rfl, ⟨rfl, ⟨rfl, ⟨rfl, trivial⟩⟩⟩⟩⟩⟩⟩⟩ ?_
            exact qL_law_L501 hc he ih x2 x3 x7 x8 x10 x11 x12 x13 1 x13 x11
set_option maxRecDepth 100000 in
set_option maxHeartbeats 8000000 in
theorem qL_law_L258 {κ : Cx} {fin : Int32 → Mm → Prop} {mc ms : Nat} (hc : Jc κ RL cL_law 15 17 mc ms 702) (he : EdW κ cL_law tI .ireturn (fun a => a = 0 ∨ a = 1) fin) : ∀ (n : Nat) (x1 : Nat) (x2 : Nat) (x3 : Nat) (x4 : Nat) (x7 : Int32), Jw κ (wM κ) 15 fin 258 [none, some ((55, .ref x1) : TV), some ((7, .ref x2) : TV), some ((54, .ref x3) : TV), some ((41, .ref x4) : TV), none, none, some ((0, .int x7) : TV), none, none, none, none, none, none, none] [] (gL_law_L258 n x1 x2 x3 x4 x7) := by
  intro n
  induction n with
  | zero => intro x1 x2 x3 x4 x7; exact N_fail
  | succ n ih =>
    intro x1 x2 x3 x4 x7
    unfold gL_law_L258
    refine N_iload (pc := 258) hc dL_law_258 rfl ?_
    refine N_aload_n (pc := 260) hc dL_law_260 rfl rfl ?_
    refine N_getNA (pc := 261) hc clX9 (k := 3) (kd := 44) (Nat.le_of_ble_eq_true rfl) rfl (Nat.le_of_ble_eq_true rfl) (hst0 := "DotRunsLaw") (by decide +kernel) dL_law_261 (fun v47 => ?_)
    refine N_callV (pc := 264) hc clJx4a65c (As := []) (ZJx4a65c_size_8abf5 v47) dL_law_264 mzJx4a65c_size_8abf5 rfl tw975 tw976 tw977 tw13 tw978 rfl (Nat.le_of_ble_eq_true rfl) (Nat.le_of_ble_eq_true rfl) (Nat.le_of_ble_eq_true rfl) rfl (fun v48 => ?_)
    show Jw κ (wM κ) 15 fin 267 [none, some ((55, .ref x1) : TV), some ((7, .ref x2) : TV), some ((54, .ref x3) : TV), some ((41, .ref x4) : TV), none, none, some ((0, .int x7) : TV), none, none, none, none, none, none, none] [((0, .int v48) : TV), ((0, .int x7) : TV)] _
    refine N_icmp_ge (pc := 267) (tgt := 329) hc dL_law_267 (by decide) ?_ ?_
    · refine N_aload_n (pc := 329) hc dL_law_329 rfl rfl ?_
      refine N_aload (pc := 330) hc dL_law_330 rfl ?_
      refine N_callV (pc := 332) hc clJ4 (As := []) (ZJ4_toString_0e30d x4) dL_law_332 mzJ4_toString_0e30d rfl tw1447 tw1448 tw1449 tw15 tw1450 rfl (Nat.le_of_ble_eq_true rfl) (Nat.le_of_ble_eq_true rfl) (Nat.le_of_ble_eq_true rfl) rfl (fun h49 => ?_)
      show Jw κ (wM κ) 15 fin 335 [none, some ((55, .ref x1) : TV), some ((7, .ref x2) : TV), some ((54, .ref x3) : TV), some ((41, .ref x4) : TV), none, none, some ((0, .int x7) : TV), none, none, none, none, none, none, none] [((40, .ref h49) : TV), ((7, .ref x2) : TV)] _
      refine N_callS (pc := 335) hc (As := [((7, .ref x2) : TV), ((40, .ref h49) : TV)]) (ZL_feed x2 h49) dL_law_335 mzL_feed tw1504 tw1505 tw0 tw1506 rfl (Nat.le_of_ble_eq_true rfl) (Nat.le_of_ble_eq_true rfl) (Nat.le_of_ble_eq_true rfl) rfl (fun _ => ?_)
      show Jw κ (wM κ) 15 fin 338 [none, some ((55, .ref x1) : TV), some ((7, .ref x2) : TV), some ((54, .ref x3) : TV), some ((41, .ref x4) : TV), none, none, some ((0, .int x7) : TV), none, none, none, none, none, none, none] [] _
      refine N_aload_n (pc := 338) hc dL_law_338 rfl rfl ?_
      refine N_callCV (pc := 339) hc clX7 (As := []) (KX7_load x2) dL_law_339 moX7_load rfl tw320 tw321 tw322 tw2 tw323 rfl (Nat.le_of_ble_eq_true rfl) (Nat.le_of_ble_eq_true rfl) (Nat.le_of_ble_eq_true rfl) rfl (fun _ _ h => by cases h) (fun v50 => ?_)
      show Jw κ (wM κ) 15 fin 342 [none, some ((55, .ref x1) : TV), some ((7, .ref x2) : TV), some ((54, .ref x3) : TV), some ((41, .ref x4) : TV), none, none, some ((0, .int x7) : TV), none, none, none, none, none, none, none] [((0, .int v50) : TV)] _
      refine N_aload_n (pc := 342) hc dL_law_342 rfl rfl ?_
      refine N_getNA (pc := 343) hc clX9 (k := 3) (kd := 44) (Nat.le_of_ble_eq_true rfl) rfl (Nat.le_of_ble_eq_true rfl) (hst0 := "DotRunsLaw") (by decide +kernel) dL_law_343 (fun v51 => ?_)
      refine N_callV (pc := 346) hc clJx4a65c (As := []) (ZJx4a65c_size_8abf5 v51) dL_law_346 mzJx4a65c_size_8abf5 rfl tw975 tw976 tw977 tw13 tw978 rfl (Nat.le_of_ble_eq_true rfl) (Nat.le_of_ble_eq_true rfl) (Nat.le_of_ble_eq_true rfl) rfl (fun v52 => ?_)
      show Jw κ (wM κ) 15 fin 349 [none, some ((55, .ref x1) : TV), some ((7, .ref x2) : TV), some ((54, .ref x3) : TV), some ((41, .ref x4) : TV), none, none, some ((0, .int x7) : TV), none, none, none, none, none, none, none] [((0, .int v52) : TV), ((0, .int v50) : TV)] _
      refine N_icmp_ne (pc := 349) (tgt := 384) hc dL_law_349 (by decide) ?_ ?_
      · refine N_iconst (pc := 384) (v := 0) hc dL_law_384 (by decide) ?_
        exact N_zret (pc := 385) he dL_law_385
      · refine N_aload_n (pc := 352) hc dL_law_352 rfl rfl ?_
        refine N_callCV (pc := 353) hc clX7 (As := []) (KX7_errorCode x2) dL_law_353 moX7_errorCode rfl tw565 tw566 tw567 tw2 tw568 rfl (Nat.le_of_ble_eq_true rfl) (Nat.le_of_ble_eq_true rfl) (Nat.le_of_ble_eq_true rfl) rfl (fun _ _ h => by cases h) (fun v53 => ?_)
        show Jw κ (wM κ) 15 fin 356 [none, some ((55, .ref x1) : TV), some ((7, .ref x2) : TV), some ((54, .ref x3) : TV), some ((41, .ref x4) : TV), none, none, some ((0, .int x7) : TV), none, none, none, none, none, none, none] [((0, .int v53) : TV)] _
        refine N_if_ne (pc := 356) (tgt := 384) hc dL_law_356 (by decide) ?_ ?_
        · refine N_iconst (pc := 384) (v := 0) hc dL_law_384 (by decide) ?_
          exact N_zret (pc := 385) he dL_law_385
        · refine N_aload_n (pc := 359) hc dL_law_359 rfl rfl ?_
          refine N_aload_n (pc := 360) hc dL_law_360 rfl rfl ?_
          refine N_callS (pc := 361) hc (As := [((7, .ref x2) : TV), ((54, .ref x3) : TV)]) (ZL_isLike x2 x3) dL_law_361 mzL_isLike tw972 tw973 tw0 tw974 rfl (Nat.le_of_ble_eq_true rfl) (Nat.le_of_ble_eq_true rfl) (Nat.le_of_ble_eq_true rfl) rfl (fun v54 => ?_)
          show Jw κ (wM κ) 15 fin 364 [none, some ((55, .ref x1) : TV), some ((7, .ref x2) : TV), some ((54, .ref x3) : TV), some ((41, .ref x4) : TV), none, none, some ((0, .int x7) : TV), none, none, none, none, none, none, none] [((0, .int v54) : TV)] _
          refine N_if_eq (pc := 364) (tgt := 384) hc dL_law_364 (by decide) ?_ ?_
          · refine N_iconst (pc := 384) (v := 0) hc dL_law_384 (by decide) ?_
            exact N_zret (pc := 385) he dL_law_385
          · refine N_aload_n (pc := 367) hc dL_law_367 rfl rfl ?_
            refine N_aload_n (pc := 368) hc dL_law_368 rfl rfl ?_
            refine N_callS (pc := 369) hc (As := [((7, .ref x2) : TV), ((54, .ref x3) : TV)]) (ZL_isSent x2 x3) dL_law_369 mzL_isSent tw1231 tw1232 tw0 tw1233 rfl (Nat.le_of_ble_eq_true rfl) (Nat.le_of_ble_eq_true rfl) (Nat.le_of_ble_eq_true rfl) rfl (fun v55 => ?_)
            show Jw κ (wM κ) 15 fin 372 [none, some ((55, .ref x1) : TV), some ((7, .ref x2) : TV), some ((54, .ref x3) : TV), some ((41, .ref x4) : TV), none, none, some ((0, .int x7) : TV), none, none, none, none, none, none, none] [((0, .int v55) : TV)] _
            refine N_if_eq (pc := 372) (tgt := 384) hc dL_law_372 (by decide) ?_ ?_
            · refine N_iconst (pc := 384) (v := 0) hc dL_law_384 (by decide) ?_
              exact N_zret (pc := 385) he dL_law_385
            · refine N_aload_n (pc := 375) hc dL_law_375 rfl rfl ?_
              refine N_aload_n (pc := 376) hc dL_law_376 rfl rfl ?_
              refine N_aload_n (pc := 377) hc dL_law_377 rfl rfl ?_
              refine N_callS (pc := 378) hc (As := [((7, .ref x2) : TV), ((54, .ref x3) : TV), ((55, .ref x1) : TV)]) (ZL_isTold x2 x3 x1) dL_law_378 mzL_isTold tw1323 tw1324 tw0 tw1325 rfl (Nat.le_of_ble_eq_true rfl) (Nat.le_of_ble_eq_true rfl) (Nat.le_of_ble_eq_true rfl) rfl (fun v56 => ?_)
              show Jw κ (wM κ) 15 fin 381 [none, some ((55, .ref x1) : TV), some ((7, .ref x2) : TV), some ((54, .ref x3) : TV), some ((41, .ref x4) : TV), none, none, some ((0, .int x7) : TV), none, none, none, none, none, none, none] [((0, .int v56) : TV)] _
              refine N_if_ne (pc := 381) (tgt := 386) hc dL_law_381 (by decide) ?_ ?_
              · refine N_aload_n (pc := 386) hc dL_law_386 rfl rfl ?_
                refine N_callV (pc := 387) hc clX9 (As := []) (ZX9_copy x3) dL_law_387 mzX9_copy rfl tw822 tw823 tw824 tw10 tw825 rfl (Nat.le_of_ble_eq_true rfl) (Nat.le_of_ble_eq_true rfl) (Nat.le_of_ble_eq_true rfl) rfl (fun h57 => ?_)
                show Jw κ (wM κ) 15 fin 390 [none, some ((55, .ref x1) : TV), some ((7, .ref x2) : TV), some ((54, .ref x3) : TV), some ((41, .ref x4) : TV), none, none, some ((0, .int x7) : TV), none, none, none, none, none, none, none] [((54, .ref h57) : TV)] _
                refine N_astore (pc := 390) (l' := [none, some ((55, .ref x1) : TV), some ((7, .ref x2) : TV), some ((54, .ref x3) : TV), some ((41, .ref x4) : TV), none, none, some ((54, .ref h57) : TV), none, none, none, none, none, none, none]) hc dL_law_390 (by decide) rfl rfl ?_
                refine N_aload_n (pc := 392) hc dL_law_392 rfl rfl ?_
                refine N_aload_n (pc := 393) hc dL_law_393 rfl rfl ?_
                refine N_getNA (pc := 394) hc clX9 (k := 3) (kd := 44) (Nat.le_of_ble_eq_true rfl) rfl (Nat.le_of_ble_eq_true rfl) (hst0 := "DotRunsLaw") (by decide +kernel) dL_law_394 (fun v58 => ?_)
                refine N_callV (pc := 397) hc clJx4a65c (As := []) (ZJx4a65c_size_8abf5 v58) dL_law_397 mzJx4a65c_size_8abf5 rfl tw975 tw976 tw977 tw13 tw978 rfl (Nat.le_of_ble_eq_true rfl) (Nat.le_of_ble_eq_true rfl) (Nat.le_of_ble_eq_true rfl) rfl (fun v59 => ?_)
                show Jw κ (wM κ) 15 fin 400 [none, some ((55, .ref x1) : TV), some ((7, .ref x2) : TV), some ((54, .ref x3) : TV), some ((41, .ref x4) : TV), none, none, some ((54, .ref h57) : TV), none, none, none, none, none, none, none] [((0, .int v59) : TV), ((55, .ref x1) : TV)] _
                refine N_callV (pc := 400) hc clX10 (As := [((0, .int v59) : TV)]) (ZX10_next x1 v59) dL_law_400 mzX10_next rfl tw964 tw965 tw966 tw1 tw967 rfl (Nat.le_of_ble_eq_true rfl) (Nat.le_of_ble_eq_true rfl) (Nat.le_of_ble_eq_true rfl) rfl (fun v60 => ?_)
                show Jw κ (wM κ) 15 fin 403 [none, some ((55, .ref x1) : TV), some ((7, .ref x2) : TV), some ((54, .ref x3) : TV), some ((41, .ref x4) : TV), none, none, some ((54, .ref h57) : TV), none, none, none, none, none, none, none] [((0, .int v60) : TV)] _
                refine N_istore (pc := 403) (l' := [none, some ((55, .ref x1) : TV), some ((7, .ref x2) : TV), some ((54, .ref x3) : TV), some ((41, .ref x4) : TV), none, none, some ((54, .ref h57) : TV), some ((0, .int v60) : TV), none, none, none, none, none, none]) hc dL_law_403 (by decide) rfl rfl ?_
                refine N_aload_n (pc := 405) hc dL_law_405 rfl rfl ?_
                refine N_bipush (pc := 406) (v := 6) hc dL_law_406 (by decide) ?_
                refine N_callV (pc := 408) hc clX10 (As := [((0, .int 6) : TV)]) (ZX10_next x1 6) dL_law_408 mzX10_next rfl tw964 tw965 tw966 tw1 tw967 rfl (Nat.le_of_ble_eq_true rfl) (Nat.le_of_ble_eq_true rfl) (Nat.le_of_ble_eq_true rfl) rfl (fun v61 => ?_)
                show Jw κ (wM κ) 15 fin 411 [none, some ((55, .ref x1) : TV), some ((7, .ref x2) : TV), some ((54, .ref x3) : TV), some ((41, .ref x4) : TV), none, none, some ((54, .ref h57) : TV), some ((0, .int v60) : TV), none, none, none, none, none, none] [((0, .int v61) : TV)] _
                refine N_istore (pc := 411) (l' := [none, some ((55, .ref x1) : TV), some ((7, .ref x2) : TV), some ((54, .ref x3) : TV), some ((41, .ref x4) : TV), none, none, some ((54, .ref h57) : TV), some ((0, .int v60) : TV), some ((0, .int v61) : TV), none, none, none, none, none]) hc dL_law_411 (by decide) rfl rfl ?_
                refine N_iload (pc := 413) hc dL_law_413 rfl ?_
                refine N_if_ne (pc := 415) (tgt := 556) hc dL_law_415 (by decide) ?_ ?_
                · refine N_iload (pc := 556) hc dL_law_556 rfl ?_
                  refine N_iconst (pc := 558) (v := 1) hc dL_law_558 (by decide) ?_
                  refine N_icmp_ne (pc := 559) (tgt := 705) hc dL_law_559 (by decide) ?_ ?_
                  · refine N_iload (pc := 705) hc dL_law_705 rfl ?_
                    refine N_iconst (pc := 707) (v := 2) hc dL_law_707 (by decide) ?_
                    refine N_icmp_ne (pc := 708) (tgt := 776) hc dL_law_708 (by decide) ?_ ?_
                    · refine N_iload (pc := 776) hc dL_law_776 rfl ?_
                      refine N_iconst (pc := 778) (v := 3) hc dL_law_778 (by decide) ?_
                      refine N_icmp_ne (pc := 779) (tgt := 817) hc dL_law_779 (by decide) ?_ ?_
                      · refine N_iload (pc := 817) hc dL_law_817 rfl ?_
                        refine N_iconst (pc := 819) (v := 4) hc dL_law_819 (by decide) ?_
                        refine N_icmp_ne (pc := 820) (tgt := 926) hc dL_law_820 (by decide) ?_ ?_
                        · refine N_aload_n (pc := 926) hc dL_law_926 rfl rfl ?_
                          refine N_aload_n (pc := 927) hc dL_law_927 rfl rfl ?_
                          refine N_getNA (pc := 928) hc clX9 (k := 3) (kd := 44) (Nat.le_of_ble_eq_true rfl) rfl (Nat.le_of_ble_eq_true rfl) (hst0 := "DotRunsLaw") (by decide +kernel) dL_law_928 (fun v62 => ?_)
                          refine N_callV (pc := 931) hc clJx4a65c (As := []) (ZJx4a65c_size_8abf5 v62) dL_law_931 mzJx4a65c_size_8abf5 rfl tw975 tw976 tw977 tw13 tw978 rfl (Nat.le_of_ble_eq_true rfl) (Nat.le_of_ble_eq_true rfl) (Nat.le_of_ble_eq_true rfl) rfl (fun v63 => ?_)
                          show Jw κ (wM κ) 15 fin 934 [none, some ((55, .ref x1) : TV), some ((7, .ref x2) : TV), some ((54, .ref x3) : TV), some ((41, .ref x4) : TV), none, none, some ((54, .ref h57) : TV), some ((0, .int v60) : TV), some ((0, .int v61) : TV), none, none, none, none, none] [((0, .int v63) : TV), ((55, .ref x1) : TV)] _
                          refine N_callV (pc := 934) hc clX10 (As := [((0, .int v63) : TV)]) (ZX10_next x1 v63) dL_law_934 mzX10_next rfl tw964 tw965 tw966 tw1 tw967 rfl (Nat.le_of_ble_eq_true rfl) (Nat.le_of_ble_eq_true rfl) (Nat.le_of_ble_eq_true rfl) rfl (fun v64 => ?_)
                          show Jw κ (wM κ) 15 fin 937 [none, some ((55, .ref x1) : TV), some ((7, .ref x2) : TV), some ((54, .ref x3) : TV), some ((41, .ref x4) : TV), none, none, some ((54, .ref h57) : TV), some ((0, .int v60) : TV), some ((0, .int v61) : TV), none, none, none, none, none] [((0, .int v64) : TV)] _
                          refine N_istore (pc := 937) (l' := [none, some ((55, .ref x1) : TV), some ((7, .ref x2) : TV), some ((54, .ref x3) : TV), some ((41, .ref x4) : TV), none, none, some ((54, .ref h57) : TV), some ((0, .int v60) : TV), some ((0, .int v61) : TV), some ((0, .int v64) : TV), none, none, none, none]) hc dL_law_937 (by decide) rfl rfl ?_
                          refine N_aload_n (pc := 939) hc dL_law_939 rfl rfl ?_
                          refine N_getNA (pc := 940) hc clX9 (k := 3) (kd := 44) (Nat.le_of_ble_eq_true rfl) rfl (Nat.le_of_ble_eq_true rfl) (hst0 := "DotRunsLaw") (by decide +kernel) dL_law_940 (fun v65 => ?_)
                          refine N_iload (pc := 943) hc dL_law_943 rfl ?_
                          refine N_callV (pc := 945) hc clJx4a65c (As := [((0, .int v60) : TV)]) (ZJx4a65c_get_915e3 v65 v60) dL_law_945 mzJx4a65c_get_915e3 rfl tw1058 tw1059 tw1060 tw13 tw1061 rfl (Nat.le_of_ble_eq_true rfl) (Nat.le_of_ble_eq_true rfl) (Nat.le_of_ble_eq_true rfl) rfl (fun h66 => ?_)
                          show Jw κ (wM κ) 15 fin 948 [none, some ((55, .ref x1) : TV), some ((7, .ref x2) : TV), some ((54, .ref x3) : TV), some ((41, .ref x4) : TV), none, none, some ((54, .ref h57) : TV), some ((0, .int v60) : TV), some ((0, .int v61) : TV), some ((0, .int v64) : TV), none, none, none, none] [((16, .ref h66) : TV)] _
                          refine N_castZ (pc := 948) hc tw1070 dL_law_948 ?_
                          refine N_astore (pc := 951) (l' := [none, some ((55, .ref x1) : TV), some ((7, .ref x2) : TV), some ((54, .ref x3) : TV), some ((41, .ref x4) : TV), none, none, some ((54, .ref h57) : TV), some ((0, .int v60) : TV), some ((0, .int v61) : TV), some ((0, .int v64) : TV), some ((13, .ref h66) : TV), none, none, none]) hc dL_law_951 (by decide) rfl rfl ?_
                          refine N_iconst (pc := 953) (v := 0) hc dL_law_953 (by decide) ?_
                          refine N_istore (pc := 954) (l' := [none, some ((55, .ref x1) : TV), some ((7, .ref x2) : TV), some ((54, .ref x3) : TV), some ((41, .ref x4) : TV), none, none, some ((54, .ref h57) : TV), some ((0, .int v60) : TV), some ((0, .int v61) : TV), some ((0, .int v64) : TV), some ((13, .ref h66) : TV), some ((0, .int 0) : TV), none, none]) hc dL_law_954 (by decide) rfl rfl ?_
                          refine N_iconst (pc := 956) (v := 0) hc dL_law_956 (by decide) ?_
                          refine N_istore (pc := 957) (l' := [none, some ((55, .ref x1) : TV), some ((7, .ref x2) : TV), some ((54, .ref x3) : TV), some ((41, .ref x4) : TV), none, none, some ((54, .ref h57) : TV), some ((0, .int v60) : TV), some ((0, .int v61) : TV), some ((0, .int v64) : TV), some ((13, .ref h66) : TV), some ((0, .int 0) : TV), some ((0, .int 0) : TV), none]) hc dL_law_957 (by decide) rfl rfl ?_
                          refine N_sub (l' := [none, none, some ((7, .ref x2) : TV), some ((54, .ref x3) : TV), none, none, none, some ((54, .ref h57) : TV), some ((0, .int v60) : TV), none, some ((0, .int v64) : TV), some ((13, .ref h66) : TV), some ((0, .int 0) : TV), some ((0, .int 0) : TV), none]) ⟨rfl, ⟨rfl, ⟨rfl, ⟨rfl, ⟨rfl, ⟨rfl, ⟨rfl, ⟨rfl, trivial⟩⟩⟩⟩⟩⟩⟩⟩ ?_
                          exact qL_law_L959 hc he fu x2 x3 h57 v60 v64 h66 0 0
                        · refine N_iconst (pc := 823) (v := 0) hc dL_law_823 (by decide) ?_
                          refine N_istore (pc := 824) (l' := [none, some ((55, .ref x1) : TV), some ((7, .ref x2) : TV), some ((54, .ref x3) : TV), some ((41, .ref x4) : TV), none, none, some ((54, .ref h57) : TV), some ((0, .int v60) : TV), some ((0, .int v61) : TV), some ((0, .int 0) : TV), none, none, none, none]) hc dL_law_824 (by decide) rfl rfl ?_
                          refine N_iconst (pc := 826) (v := 0) hc dL_law_826 (by decide) ?_
                          refine N_istore (pc := 827) (l' := [none, some ((55, .ref x1) : TV), some ((7, .ref x2) : TV), some ((54, .ref x3) : TV), some ((41, .ref x4) : TV), none, none, some ((54, .ref h57) : TV), some ((0, .int v60) : TV), some ((0, .int v61) : TV), some ((0, .int 0) : TV), some ((0, .int 0) : TV), none, none, none]) hc dL_law_827 (by decide) rfl rfl ?_
                          refine N_sub (l' := [none, none, some ((7, .ref x2) : TV), some ((54, .ref x3) : TV), none, none, none, some ((54, .ref h57) : TV), some ((0, .int v60) : TV), none, some ((0, .int 0) : TV), some ((0, .int 0) : TV), none, none, none]) ⟨rfl, ⟨rfl, ⟨rfl, ⟨rfl, ⟨rfl, ⟨rfl, trivial⟩⟩⟩⟩⟩⟩ ?_
                          exact qL_law_L829 hc he fu x2 x3 h57 v60 0 0
                      · refine N_aload_n (pc := 782) hc dL_law_782 rfl rfl ?_
                        refine N_getNA (pc := 783) hc clX9 (k := 3) (kd := 44) (Nat.le_of_ble_eq_true rfl) rfl (Nat.le_of_ble_eq_true rfl) (hst0 := "DotRunsLaw") (by decide +kernel) dL_law_783 (fun v67 => ?_)
                        refine N_iload (pc := 786) hc dL_law_786 rfl ?_
                        refine N_callV (pc := 788) hc clJx4a65c (As := [((0, .int v60) : TV)]) (ZJx4a65c_remove_915e3 v67 v60) dL_law_788 mzJx4a65c_remove_915e3 rfl tw1614 tw1615 tw1616 tw13 tw1617 rfl (Nat.le_of_ble_eq_true rfl) (Nat.le_of_ble_eq_true rfl) (Nat.le_of_ble_eq_true rfl) rfl (fun h68 => ?_)
                        show Jw κ (wM κ) 15 fin 791 [none, some ((55, .ref x1) : TV), some ((7, .ref x2) : TV), some ((54, .ref x3) : TV), some ((41, .ref x4) : TV), none, none, some ((54, .ref h57) : TV), some ((0, .int v60) : TV), some ((0, .int v61) : TV), none, none, none, none, none] [((16, .ref h68) : TV)] _
                        refine N_castZ (pc := 791) hc tw1070 dL_law_791 ?_
                        refine N_astore (pc := 794) (l' := [none, some ((55, .ref x1) : TV), some ((7, .ref x2) : TV), some ((54, .ref x3) : TV), some ((41, .ref x4) : TV), none, none, some ((54, .ref h57) : TV), some ((0, .int v60) : TV), some ((0, .int v61) : TV), some ((13, .ref h68) : TV), none, none, none, none]) hc dL_law_794 (by decide) rfl rfl ?_
                        refine N_aload_n (pc := 796) hc dL_law_796 rfl rfl ?_
                        refine N_iload (pc := 797) hc dL_law_797 rfl ?_
                        refine N_callCX (pc := 799) hc clX7 (As := [((0, .int v60) : TV)]) (KX7_removeLine x2 v60) dL_law_799 moX7_removeLine rfl tw710 tw711 tw712 tw2 tw713 rfl (Nat.le_of_ble_eq_true rfl) (Nat.le_of_ble_eq_true rfl) (Nat.le_of_ble_eq_true rfl) rfl (fun _ _ h => by cases h) (fun v69 => ?_)
                        show Jw κ (wM κ) 15 fin 802 [none, some ((55, .ref x1) : TV), some ((7, .ref x2) : TV), some ((54, .ref x3) : TV), some ((41, .ref x4) : TV), none, none, some ((54, .ref h57) : TV), some ((0, .int v60) : TV), some ((0, .int v61) : TV), some ((13, .ref h68) : TV), none, none, none, none] [((0, .int v69) : TV)] _
                        refine N_aload_n (pc := 802) hc dL_law_802 rfl rfl ?_
                        refine N_getNA (pc := 803) hc clX9 (k := 3) (kd := 44) (Nat.le_of_ble_eq_true rfl) rfl (Nat.le_of_ble_eq_true rfl) (hst0 := "DotRunsLaw") (by decide +kernel) dL_law_803 (fun v70 => ?_)
                        refine N_callV (pc := 806) hc clJx4a65c (As := []) (ZJx4a65c_size_8abf5 v70) dL_law_806 mzJx4a65c_size_8abf5 rfl tw975 tw976 tw977 tw13 tw978 rfl (Nat.le_of_ble_eq_true rfl) (Nat.le_of_ble_eq_true rfl) (Nat.le_of_ble_eq_true rfl) rfl (fun v71 => ?_)
                        show Jw κ (wM κ) 15 fin 809 [none, some ((55, .ref x1) : TV), some ((7, .ref x2) : TV), some ((54, .ref x3) : TV), some ((41, .ref x4) : TV), none, none, some ((54, .ref h57) : TV), some ((0, .int v60) : TV), some ((0, .int v61) : TV), some ((13, .ref h68) : TV), none, none, none, none] [((0, .int v71) : TV), ((0, .int v69) : TV)] _
                        refine N_icmp_eq (pc := 809) (tgt := 814) hc dL_law_809 (by decide) ?_ ?_
                        · refine N_goto (pc := 814) (tgt := 1056) hc dL_law_814 (by decide) ?_
                          refine N_sub (l' := [none, none, some ((7, .ref x2) : TV), some ((54, .ref x3) : TV), none, none, none, some ((54, .ref h57) : TV), none, none, none, none, none, none, none]) ⟨rfl, ⟨rfl, ⟨rfl, trivial⟩⟩⟩ ?_
                          exact qL_law_L1056 hc he x2 x3 h57
                        · refine N_iconst (pc := 812) (v := 0) hc dL_law_812 (by decide) ?_
                          exact N_zret (pc := 813) he dL_law_813
                    · refine N_aload_n (pc := 711) hc dL_law_711 rfl rfl ?_
                      refine N_aload_n (pc := 712) hc dL_law_712 rfl rfl ?_
                      refine N_getNA (pc := 713) hc clX9 (k := 3) (kd := 44) (Nat.le_of_ble_eq_true rfl) rfl (Nat.le_of_ble_eq_true rfl) (hst0 := "DotRunsLaw") (by decide +kernel) dL_law_713 (fun v72 => ?_)
                      refine N_callV (pc := 716) hc clJx4a65c (As := []) (ZJx4a65c_size_8abf5 v72) dL_law_716 mzJx4a65c_size_8abf5 rfl tw975 tw976 tw977 tw13 tw978 rfl (Nat.le_of_ble_eq_true rfl) (Nat.le_of_ble_eq_true rfl) (Nat.le_of_ble_eq_true rfl) rfl (fun v73 => ?_)
                      show Jw κ (wM κ) 15 fin 719 [none, some ((55, .ref x1) : TV), some ((7, .ref x2) : TV), some ((54, .ref x3) : TV), some ((41, .ref x4) : TV), none, none, some ((54, .ref h57) : TV), some ((0, .int v60) : TV), some ((0, .int v61) : TV), none, none, none, none, none] [((0, .int v73) : TV), ((55, .ref x1) : TV)] _
                      refine N_iconst (pc := 719) (v := 1) hc dL_law_719 (by decide) ?_
                      refine N_iadd (pc := 720) hc dL_law_720 ?_
                      refine N_callV (pc := 721) hc clX10 (As := [((0, .int (v73 + 1)) : TV)]) (ZX10_next x1 (v73 + 1)) dL_law_721 mzX10_next rfl tw964 tw965 tw966 tw1 tw967 rfl (Nat.le_of_ble_eq_true rfl) (Nat.le_of_ble_eq_true rfl) (Nat.le_of_ble_eq_true rfl) rfl (fun v74 => ?_)
                      show Jw κ (wM κ) 15 fin 724 [none, some ((55, .ref x1) : TV), some ((7, .ref x2) : TV), some ((54, .ref x3) : TV), some ((41, .ref x4) : TV), none, none, some ((54, .ref h57) : TV), some ((0, .int v60) : TV), some ((0, .int v61) : TV), none, none, none, none, none] [((0, .int v74) : TV)] _
                      refine N_istore (pc := 724) (l' := [none, some ((55, .ref x1) : TV), some ((7, .ref x2) : TV), some ((54, .ref x3) : TV), some ((41, .ref x4) : TV), none, none, some ((54, .ref h57) : TV), some ((0, .int v60) : TV), some ((0, .int v61) : TV), some ((0, .int v74) : TV), none, none, none, none]) hc dL_law_724 (by decide) rfl rfl ?_
                      refine N_aload_n (pc := 726) hc dL_law_726 rfl rfl ?_
                      refine N_getNA (pc := 727) hc clX9 (k := 3) (kd := 44) (Nat.le_of_ble_eq_true rfl) rfl (Nat.le_of_ble_eq_true rfl) (hst0 := "DotRunsLaw") (by decide +kernel) dL_law_727 (fun v75 => ?_)
                      refine N_iload (pc := 730) hc dL_law_730 rfl ?_
                      refine N_aload_n (pc := 732) hc dL_law_732 rfl rfl ?_
                      refine N_getNA (pc := 733) hc clX9 (k := 3) (kd := 44) (Nat.le_of_ble_eq_true rfl) rfl (Nat.le_of_ble_eq_true rfl) (hst0 := "DotRunsLaw") (by decide +kernel) dL_law_733 (fun v76 => ?_)
                      refine N_iload (pc := 736) hc dL_law_736 rfl ?_
                      refine N_callV (pc := 738) hc clJx4a65c (As := [((0, .int v60) : TV)]) (ZJx4a65c_get_915e3 v76 v60) dL_law_738 mzJx4a65c_get_915e3 rfl tw1058 tw1059 tw1060 tw13 tw1061 rfl (Nat.le_of_ble_eq_true rfl) (Nat.le_of_ble_eq_true rfl) (Nat.le_of_ble_eq_true rfl) rfl (fun h77 => ?_)
                      show Jw κ (wM κ) 15 fin 741 [none, some ((55, .ref x1) : TV), some ((7, .ref x2) : TV), some ((54, .ref x3) : TV), some ((41, .ref x4) : TV), none, none, some ((54, .ref h57) : TV), some ((0, .int v60) : TV), some ((0, .int v61) : TV), some ((0, .int v74) : TV), none, none, none, none] [((16, .ref h77) : TV), ((0, .int v74) : TV), ((44, .ref v75) : TV)] _
                      refine N_castZ (pc := 741) hc tw1070 dL_law_741 ?_
                      refine N_clone13 (pc := 744) hc tw1622 tw883 tw830 tw831 tw884 (Nat.le_of_ble_eq_true rfl) (Nat.le_of_ble_eq_true rfl) (Nat.le_of_ble_eq_true rfl) dL_law_744 (fun h78 => ?_)
                      refine N_castZt (pc := 747) hc tw1070 dL_law_747 ?_
                      refine N_to16 (h := h78) [] (Or.inl rfl) ?_
                      refine N_callV (pc := 750) hc clJx4a65c (As := [((0, .int v74) : TV), ((16, .ref h78) : TV)]) (ZJx4a65c_add_7a177 v75 v74 h78) dL_law_750 mzJx4a65c_add_7a177 rfl tw1605 tw1606 tw1607 tw13 tw1608 rfl (Nat.le_of_ble_eq_true rfl) (Nat.le_of_ble_eq_true rfl) (Nat.le_of_ble_eq_true rfl) rfl (fun _ => ?_)
                      show Jw κ (wM κ) 15 fin 753 [none, some ((55, .ref x1) : TV), some ((7, .ref x2) : TV), some ((54, .ref x3) : TV), some ((41, .ref x4) : TV), none, none, some ((54, .ref h57) : TV), some ((0, .int v60) : TV), some ((0, .int v61) : TV), some ((0, .int v74) : TV), none, none, none, none] [] _
                      refine N_aload_n (pc := 753) hc dL_law_753 rfl rfl ?_
                      refine N_iload (pc := 754) hc dL_law_754 rfl ?_
                      refine N_iload (pc := 756) hc dL_law_756 rfl ?_
                      refine N_callCX (pc := 758) hc clX7 (As := [((0, .int v60) : TV), ((0, .int v74) : TV)]) (KX7_copyLine x2 v60 v74) dL_law_758 moX7_copyLine rfl tw684 tw685 tw686 tw2 tw687 rfl (Nat.le_of_ble_eq_true rfl) (Nat.le_of_ble_eq_true rfl) (Nat.le_of_ble_eq_true rfl) rfl (fun _ _ h => by cases h) (fun v79 => ?_)
                      show Jw κ (wM κ) 15 fin 761 [none, some ((55, .ref x1) : TV), some ((7, .ref x2) : TV), some ((54, .ref x3) : TV), some ((41, .ref x4) : TV), none, none, some ((54, .ref h57) : TV), some ((0, .int v60) : TV), some ((0, .int v61) : TV), some ((0, .int v74) : TV), none, none, none, none] [((0, .int v79) : TV)] _
                      refine N_aload_n (pc := 761) hc dL_law_761 rfl rfl ?_
                      refine N_getNA (pc := 762) hc clX9 (k := 3) (kd := 44) (Nat.le_of_ble_eq_true rfl) rfl (Nat.le_of_ble_eq_true rfl) (hst0 := "DotRunsLaw") (by decide +kernel) dL_law_762 (fun v80 => ?_)
                      refine N_callV (pc := 765) hc clJx4a65c (As := []) (ZJx4a65c_size_8abf5 v80) dL_law_765 mzJx4a65c_size_8abf5 rfl tw975 tw976 tw977 tw13 tw978 rfl (Nat.le_of_ble_eq_true rfl) (Nat.le_of_ble_eq_true rfl) (Nat.le_of_ble_eq_true rfl) rfl (fun v81 => ?_)
                      show Jw κ (wM κ) 15 fin 768 [none, some ((55, .ref x1) : TV), some ((7, .ref x2) : TV), some ((54, .ref x3) : TV), some ((41, .ref x4) : TV), none, none, some ((54, .ref h57) : TV), some ((0, .int v60) : TV), some ((0, .int v61) : TV), some ((0, .int v74) : TV), none, none, none, none] [((0, .int v81) : TV), ((0, .int v79) : TV)] _
                      refine N_icmp_eq (pc := 768) (tgt := 773) hc dL_law_768 (by decide) ?_ ?_
                      · refine N_goto (pc := 773) (tgt := 1056) hc dL_law_773 (by decide) ?_
                        refine N_sub (l' := [none, none, some ((7, .ref x2) : TV), some ((54, .ref x3) : TV), none, none, none, some ((54, .ref h57) : TV), none, none, none, none, none, none, none]) ⟨rfl, ⟨rfl, ⟨rfl, trivial⟩⟩⟩ ?_
                        exact qL_law_L1056 hc he x2 x3 h57
                      · refine N_iconst (pc := 771) (v := 0) hc dL_law_771 (by decide) ?_
                        exact N_zret (pc := 772) he dL_law_772
                  · refine N_aload_n (pc := 562) hc dL_law_562 rfl rfl ?_
                    refine N_aload_n (pc := 563) hc dL_law_563 rfl rfl ?_
                    refine N_getNI (pc := 564) hc clX9 (k := 0) (Nat.le_of_ble_eq_true rfl) rfl (hst0 := "DotRunsLaw") (by decide +kernel) dL_law_564 (fun v82 => ?_)
                    refine N_iconst (pc := 567) (v := 1) hc dL_law_567 (by decide) ?_
                    refine N_iadd (pc := 568) hc dL_law_568 ?_
                    refine N_callV (pc := 569) hc clX10 (As := [((0, .int (v82 + 1)) : TV)]) (ZX10_next x1 (v82 + 1)) dL_law_569 mzX10_next rfl tw964 tw965 tw966 tw1 tw967 rfl (Nat.le_of_ble_eq_true rfl) (Nat.le_of_ble_eq_true rfl) (Nat.le_of_ble_eq_true rfl) rfl (fun v83 => ?_)
                    show Jw κ (wM κ) 15 fin 572 [none, some ((55, .ref x1) : TV), some ((7, .ref x2) : TV), some ((54, .ref x3) : TV), some ((41, .ref x4) : TV), none, none, some ((54, .ref h57) : TV), some ((0, .int v60) : TV), some ((0, .int v61) : TV), none, none, none, none, none] [((0, .int v83) : TV)] _
                    refine N_istore (pc := 572) (l' := [none, some ((55, .ref x1) : TV), some ((7, .ref x2) : TV), some ((54, .ref x3) : TV), some ((41, .ref x4) : TV), none, none, some ((54, .ref h57) : TV), some ((0, .int v60) : TV), some ((0, .int v61) : TV), some ((0, .int v83) : TV), none, none, none, none]) hc dL_law_572 (by decide) rfl rfl ?_
                    refine N_iload (pc := 574) hc dL_law_574 rfl ?_
                    refine N_aload_n (pc := 576) hc dL_law_576 rfl rfl ?_
                    refine N_aload_n (pc := 577) hc dL_law_577 rfl rfl ?_
                    refine N_getNI (pc := 578) hc clX9 (k := 0) (Nat.le_of_ble_eq_true rfl) rfl (hst0 := "DotRunsLaw") (by decide +kernel) dL_law_578 (fun v84 => ?_)
                    refine N_iconst (pc := 581) (v := 1) hc dL_law_581 (by decide) ?_
                    refine N_iadd (pc := 582) hc dL_law_582 ?_
                    refine N_iload (pc := 583) hc dL_law_583 rfl ?_
                    refine N_isub (pc := 585) hc dL_law_585 ?_
                    refine N_callV (pc := 586) hc clX10 (As := [((0, .int ((v84 + 1) - v83)) : TV)]) (ZX10_next x1 ((v84 + 1) - v83)) dL_law_586 mzX10_next rfl tw964 tw965 tw966 tw1 tw967 rfl (Nat.le_of_ble_eq_true rfl) (Nat.le_of_ble_eq_true rfl) (Nat.le_of_ble_eq_true rfl) rfl (fun v85 => ?_)
                    show Jw κ (wM κ) 15 fin 589 [none, some ((55, .ref x1) : TV), some ((7, .ref x2) : TV), some ((54, .ref x3) : TV), some ((41, .ref x4) : TV), none, none, some ((54, .ref h57) : TV), some ((0, .int v60) : TV), some ((0, .int v61) : TV), some ((0, .int v83) : TV), none, none, none, none] [((0, .int v85) : TV), ((0, .int v83) : TV)] _
                    refine N_iadd (pc := 589) hc dL_law_589 ?_
                    refine N_nmi (fun v86 => ?_)
                    refine N_istore (pc := 590) (l' := [none, some ((55, .ref x1) : TV), some ((7, .ref x2) : TV), some ((54, .ref x3) : TV), some ((41, .ref x4) : TV), none, none, some ((54, .ref h57) : TV), some ((0, .int v60) : TV), some ((0, .int v61) : TV), some ((0, .int v83) : TV), some ((0, .int v86) : TV), none, none, none]) hc dL_law_590 (by decide) rfl rfl ?_
                    refine N_aload_n (pc := 592) hc dL_law_592 rfl rfl ?_
                    refine N_iconst (pc := 593) (v := 2) hc dL_law_593 (by decide) ?_
                    refine N_callV (pc := 594) hc clX10 (As := [((0, .int 2) : TV)]) (ZX10_next x1 2) dL_law_594 mzX10_next rfl tw964 tw965 tw966 tw1 tw967 rfl (Nat.le_of_ble_eq_true rfl) (Nat.le_of_ble_eq_true rfl) (Nat.le_of_ble_eq_true rfl) rfl (fun v87 => ?_)
                    show Jw κ (wM κ) 15 fin 597 [none, some ((55, .ref x1) : TV), some ((7, .ref x2) : TV), some ((54, .ref x3) : TV), some ((41, .ref x4) : TV), none, none, some ((54, .ref h57) : TV), some ((0, .int v60) : TV), some ((0, .int v61) : TV), some ((0, .int v83) : TV), some ((0, .int v86) : TV), none, none, none] [((0, .int v87) : TV)] _
                    refine N_iconst (pc := 597) (v := 1) hc dL_law_597 (by decide) ?_
                    refine N_icmp_ne (pc := 598) (tgt := 605) hc dL_law_598 (by decide) ?_ ?_
                    · refine N_iconst (pc := 605) (v := 0) hc dL_law_605 (by decide) ?_
                      refine N_sub (l' := [none, none, some ((7, .ref x2) : TV), some ((54, .ref x3) : TV), none, none, none, some ((54, .ref h57) : TV), some ((0, .int v60) : TV), none, some ((0, .int v83) : TV), some ((0, .int v86) : TV), none, none, none]) ⟨rfl, ⟨rfl, ⟨rfl, ⟨rfl, ⟨rfl, ⟨rfl, trivial⟩⟩⟩⟩⟩⟩ ?_
                      exact qL_law_L606 hc he x2 x3 h57 v60 v83 v86 0
                    · refine N_iconst (pc := 601) (v := 1) hc dL_law_601 (by decide) ?_
                      refine N_goto (pc := 602) (tgt := 606) hc dL_law_602 (by decide) ?_
                      refine N_sub (l' := [none, none, some ((7, .ref x2) : TV), some ((54, .ref x3) : TV), none, none, none, some ((54, .ref h57) : TV), some ((0, .int v60) : TV), none, some ((0, .int v83) : TV), some ((0, .int v86) : TV), none, none, none]) ⟨rfl, ⟨rfl, ⟨rfl, ⟨rfl, ⟨rfl, ⟨rfl, trivial⟩⟩⟩⟩⟩⟩ ?_
                      exact qL_law_L606 hc he x2 x3 h57 v60 v83 v86 1
                · refine N_aload_n (pc := 418) hc dL_law_418 rfl rfl ?_
                  refine N_bipush (pc := 419) (v := 9) hc dL_law_419 (by decide) ?_
                  refine N_callV (pc := 421) hc clX10 (As := [((0, .int 9) : TV)]) (ZX10_next x1 9) dL_law_421 mzX10_next rfl tw964 tw965 tw966 tw1 tw967 rfl (Nat.le_of_ble_eq_true rfl) (Nat.le_of_ble_eq_true rfl) (Nat.le_of_ble_eq_true rfl) rfl (fun v88 => ?_)
                  show Jw κ (wM κ) 15 fin 424 [none, some ((55, .ref x1) : TV), some ((7, .ref x2) : TV), some ((54, .ref x3) : TV), some ((41, .ref x4) : TV), none, none, some ((54, .ref h57) : TV), some ((0, .int v60) : TV), some ((0, .int v61) : TV), none, none, none, none, none] [((0, .int v88) : TV)] _
                  refine N_iconst (pc := 424) (v := 4) hc dL_law_424 (by decide) ?_
                  refine N_isub (pc := 425) hc dL_law_425 ?_
                  refine N_nmi (fun v89 => ?_)
                  refine N_istore (pc := 426) (l' := [none, some ((55, .ref x1) : TV), some ((7, .ref x2) : TV), some ((54, .ref x3) : TV), some ((41, .ref x4) : TV), none, none, some ((54, .ref h57) : TV), some ((0, .int v60) : TV), some ((0, .int v61) : TV), some ((0, .int v89) : TV), none, none, none, none]) hc dL_law_426 (by decide) rfl rfl ?_
                  refine N_aload_n (pc := 428) hc dL_law_428 rfl rfl ?_
                  refine N_getNI (pc := 429) hc clX9 (k := 0) (Nat.le_of_ble_eq_true rfl) rfl (hst0 := "DotRunsLaw") (by decide +kernel) dL_law_429 (fun v90 => ?_)
                  refine N_newa13 (pc := 432) hc tw950 dL_law_432 (fun h91 => ?_)
                  refine N_astore (pc := 434) (l' := [none, some ((55, .ref x1) : TV), some ((7, .ref x2) : TV), some ((54, .ref x3) : TV), some ((41, .ref x4) : TV), none, none, some ((54, .ref h57) : TV), some ((0, .int v60) : TV), some ((0, .int v61) : TV), some ((0, .int v89) : TV), some ((13, .ref h91) : TV), none, none, none]) hc dL_law_434 (by decide) rfl rfl ?_
                  refine N_iconst (pc := 436) (v := 0) hc dL_law_436 (by decide) ?_
                  refine N_istore (pc := 437) (l' := [none, some ((55, .ref x1) : TV), some ((7, .ref x2) : TV), some ((54, .ref x3) : TV), some ((41, .ref x4) : TV), none, none, some ((54, .ref h57) : TV), some ((0, .int v60) : TV), some ((0, .int v61) : TV), some ((0, .int v89) : TV), some ((13, .ref h91) : TV), some ((0, .int 0) : TV), none, none]) hc dL_law_437 (by decide) rfl rfl ?_
                  refine N_iconst (pc := 439) (v := 0) hc dL_law_439 (by decide) ?_
                  refine N_istore (pc := 440) (l' := [none, some ((55, .ref x1) : TV), some ((7, .ref x2) : TV), some ((54, .ref x3) : TV), some ((41, .ref x4) : TV), none, none, some ((54, .ref h57) : TV), some ((0, .int v60) : TV), some ((0, .int v61) : TV), some ((0, .int v89) : TV), some ((13, .ref h91) : TV), some ((0, .int 0) : TV), some ((0, .int 0) : TV), none]) hc dL_law_440 (by decide) rfl rfl ?_
                  refine N_sub (l' := [none, none, some ((7, .ref x2) : TV), some ((54, .ref x3) : TV), none, none, none, some ((54, .ref h57) : TV), some ((0, .int v60) : TV), none, some ((0, .int v89) : TV), some ((13, .ref h91) : TV), some ((0, .int 0) : TV), some ((0, .int 0) : TV), none]) ⟨rfl, ⟨rfl, ⟨rfl, ⟨rfl, ⟨rfl, ⟨rfl, ⟨rfl, ⟨rfl, trivial⟩⟩⟩⟩⟩⟩⟩⟩ ?_
                  exact qL_law_L442 hc he fu x2 x3 h57 v60 v89 h91 0 0
              · refine N_iconst (pc := 384) (v := 0) hc dL_law_384 (by decide) ?_
                exact N_zret (pc := 385) he dL_law_385
    · refine N_aload_n (pc := 270) hc dL_law_270 rfl rfl ?_
      refine N_getNA (pc := 271) hc clX9 (k := 2) (kd := 11) (Nat.le_of_ble_eq_true rfl) rfl (Nat.le_of_ble_eq_true rfl) (hst0 := "DotRunsLaw") (by decide +kernel) dL_law_271 (fun v92 => ?_)
      refine N_iload (pc := 274) hc dL_law_274 rfl ?_
      refine N_iconst (pc := 276) (v := 0) hc dL_law_276 (by decide) ?_
      refine N_aload_n (pc := 277) hc dL_law_277 rfl rfl ?_
      refine N_bipush (pc := 278) (v := 6) hc dL_law_278 (by decide) ?_
      refine N_callV (pc := 280) hc clX10 (As := [((0, .int 6) : TV)]) (ZX10_next x1 6) dL_law_280 mzX10_next rfl tw964 tw965 tw966 tw1 tw967 rfl (Nat.le_of_ble_eq_true rfl) (Nat.le_of_ble_eq_true rfl) (Nat.le_of_ble_eq_true rfl) rfl (fun v93 => ?_)
      show Jw κ (wM κ) 15 fin 283 [none, some ((55, .ref x1) : TV), some ((7, .ref x2) : TV), some ((54, .ref x3) : TV), some ((41, .ref x4) : TV), none, none, some ((0, .int x7) : TV), none, none, none, none, none, none, none] [((0, .int v93) : TV), ((0, .int 0) : TV), ((0, .int x7) : TV), ((11, .ref v92) : TV)] _
      refine N_iconst (pc := 283) (v := 2) hc dL_law_283 (by decide) ?_
      refine N_isub (pc := 284) hc dL_law_284 ?_
      refine N_mmax (pc := 285) hc dL_law_285 tw1149 tw906 tw19 tw907 (Nat.le_of_ble_eq_true rfl) (Nat.le_of_ble_eq_true rfl) (Nat.le_of_ble_eq_true rfl) ?_
      refine N_iast (pc := 288) hc dL_law_288 ?_
      refine N_aload (pc := 289) hc dL_law_289 rfl ?_
      refine N_ldcSW (pc := 291) (i := 13) hc rfl dL_law_291 ?_
      refine N_callV (pc := 294) hc clJ4 (As := [((20, .ref (SB + 13)) : TV)]) (ZJ4_append_15ec4_k x4 (SB + 13)) dL_law_294 mzJ4_append_15ec4_k rfl tw1578 tw1543 tw1544 tw15 tw1545 rfl (Nat.le_of_ble_eq_true rfl) (Nat.le_of_ble_eq_true rfl) (Nat.le_of_ble_eq_true rfl) rfl (fun h94 => ?_)
      show Jw κ (wM κ) 15 fin 297 [none, some ((55, .ref x1) : TV), some ((7, .ref x2) : TV), some ((54, .ref x3) : TV), some ((41, .ref x4) : TV), none, none, some ((0, .int x7) : TV), none, none, none, none, none, none, none] [((41, .ref h94) : TV)] _
      refine N_iload (pc := 297) hc dL_law_297 rfl ?_
      refine N_callV (pc := 299) hc clJ4 (As := [((0, .int x7) : TV)]) (ZJ4_append_bf812 h94 x7) dL_law_299 mzJ4_append_bf812 rfl tw1579 tw1580 tw1581 tw15 tw1582 rfl (Nat.le_of_ble_eq_true rfl) (Nat.le_of_ble_eq_true rfl) (Nat.le_of_ble_eq_true rfl) rfl (fun h95 => ?_)
      show Jw κ (wM κ) 15 fin 302 [none, some ((55, .ref x1) : TV), some ((7, .ref x2) : TV), some ((54, .ref x3) : TV), some ((41, .ref x4) : TV), none, none, some ((0, .int x7) : TV), none, none, none, none, none, none, none] [((41, .ref h95) : TV)] _
      refine N_bipush (pc := 302) (v := 32) hc dL_law_302 (by decide) ?_
      refine N_callV (pc := 304) hc clJ4 (As := [((0, .int 32) : TV)]) (ZJ4_append_cf468 h95 32) dL_law_304 mzJ4_append_cf468 rfl tw1389 tw1390 tw1391 tw15 tw1392 rfl (Nat.le_of_ble_eq_true rfl) (Nat.le_of_ble_eq_true rfl) (Nat.le_of_ble_eq_true rfl) rfl (fun h96 => ?_)
      show Jw κ (wM κ) 15 fin 307 [none, some ((55, .ref x1) : TV), some ((7, .ref x2) : TV), some ((54, .ref x3) : TV), some ((41, .ref x4) : TV), none, none, some ((0, .int x7) : TV), none, none, none, none, none, none, none] [((41, .ref h96) : TV)] _
      refine N_aload_n (pc := 307) hc dL_law_307 rfl rfl ?_
      refine N_getNA (pc := 308) hc clX9 (k := 2) (kd := 11) (Nat.le_of_ble_eq_true rfl) rfl (Nat.le_of_ble_eq_true rfl) (hst0 := "DotRunsLaw") (by decide +kernel) dL_law_308 (fun v97 => ?_)
      refine N_iload (pc := 311) hc dL_law_311 rfl ?_
      refine N_iald (pc := 313) hc dL_law_313 (fun v98 => ?_)
      refine N_callV (pc := 314) hc clJ4 (As := [((0, .int v98) : TV)]) (ZJ4_append_bf812 h96 v98) dL_law_314 mzJ4_append_bf812 rfl tw1579 tw1580 tw1581 tw15 tw1582 rfl (Nat.le_of_ble_eq_true rfl) (Nat.le_of_ble_eq_true rfl) (Nat.le_of_ble_eq_true rfl) rfl (fun h99 => ?_)
      show Jw κ (wM κ) 15 fin 317 [none, some ((55, .ref x1) : TV), some ((7, .ref x2) : TV), some ((54, .ref x3) : TV), some ((41, .ref x4) : TV), none, none, some ((0, .int x7) : TV), none, none, none, none, none, none, none] [((41, .ref h99) : TV)] _
      refine N_bipush (pc := 317) (v := 59) hc dL_law_317 (by decide) ?_
      refine N_callV (pc := 319) hc clJ4 (As := [((0, .int 59) : TV)]) (ZJ4_append_cf468 h99 59) dL_law_319 mzJ4_append_cf468 rfl tw1389 tw1390 tw1391 tw15 tw1392 rfl (Nat.le_of_ble_eq_true rfl) (Nat.le_of_ble_eq_true rfl) (Nat.le_of_ble_eq_true rfl) rfl (fun h100 => ?_)
      show Jw κ (wM κ) 15 fin 322 [none, some ((55, .ref x1) : TV), some ((7, .ref x2) : TV), some ((54, .ref x3) : TV), some ((41, .ref x4) : TV), none, none, some ((0, .int x7) : TV), none, none, none, none, none, none, none] [((41, .ref h100) : TV)] _
      refine N_pop (pc := 322) hc dL_law_322 rfl ?_
      refine N_iinc (pc := 323) (v := x7 + 1) (l' := [none, some ((55, .ref x1) : TV), some ((7, .ref x2) : TV), some ((54, .ref x3) : TV), some ((41, .ref x4) : TV), none, none, some ((0, .int (x7 + 1)) : TV), none, none, none, none, none, none, none]) hc dL_law_323 rfl rfl (by decide) rfl rfl ?_
      refine N_goto (pc := 326) (tgt := 258) hc dL_law_326 (by decide) ?_
      refine N_sub (l' := [none, some ((55, .ref x1) : TV), some ((7, .ref x2) : TV), some ((54, .ref x3) : TV), some ((41, .ref x4) : TV), none, none, some ((0, .int (x7 + 1)) : TV), none, none, none, none, none, none, none]) ⟨rfl, ⟨rfl, ⟨rfl, ⟨rfl, ⟨rfl, trivial⟩⟩⟩⟩⟩ ?_
      exact ih x1 x2 x3 x4 (x7 + 1)
set_option maxRecDepth 100000 in
set_option maxHeartbeats 8000000 in
theorem qL_law_L213 {κ : Cx} {fin : Int32 → Mm → Prop} {mc ms : Nat} (hc : Jc κ RL cL_law 15 17 mc ms 702) (he : EdW κ cL_law tI .ireturn (fun a => a = 0 ∨ a = 1) fin) {k181 : Nat → Nat → Nat → Nat → Nat → Int32 → Mm → Option (Int32 × Mm × Nat × Nat)} (hk181 : ∀ (x1 : Nat) (x2 : Nat) (x3 : Nat) (x4 : Nat) (x6 : Nat) (x7 : Int32), Jw κ (wM κ) 15 fin 181 [none, some ((55, .ref x1) : TV), some ((7, .ref x2) : TV), some ((54, .ref x3) : TV), some ((41, .ref x4) : TV), none, some ((11, .ref x6) : TV), some ((0, .int x7) : TV), none, none, none, none, none, none, none] [] (k181 x1 x2 x3 x4 x6 x7)) (x1 : Nat) (x2 : Nat) (x3 : Nat) (x4 : Nat) (x6 : Nat) (x7 : Int32) (s0 : Int32) (s1 : Int32) (s2 : Int32) (s3 : Nat) : Jw κ (wM κ) 15 fin 213 [none, some ((55, .ref x1) : TV), some ((7, .ref x2) : TV), some ((54, .ref x3) : TV), some ((41, .ref x4) : TV), none, some ((11, .ref x6) : TV), some ((0, .int x7) : TV), none, none, none, none, none, none, none] [((0, .int s0) : TV), ((0, .int s1) : TV), ((0, .int s2) : TV), ((11, .ref s3) : TV)] (gL_law_L213 k181 x1 x2 x3 x4 x6 x7 s0 s1 s2 s3) := by
  unfold gL_law_L213
  refine N_iadd (pc := 213) hc dL_law_213 ?_
  refine N_iast (pc := 214) hc dL_law_214 ?_
  refine N_aload (pc := 215) hc dL_law_215 rfl ?_
  refine N_ldcSW (pc := 217) (i := 12) hc rfl dL_law_217 ?_
  refine N_callV (pc := 220) hc clJ4 (As := [((20, .ref (SB + 12)) : TV)]) (ZJ4_append_15ec4_k x4 (SB + 12)) dL_law_220 mzJ4_append_15ec4_k rfl tw1578 tw1543 tw1544 tw15 tw1545 rfl (Nat.le_of_ble_eq_true rfl) (Nat.le_of_ble_eq_true rfl) (Nat.le_of_ble_eq_true rfl) rfl (fun h101 => ?_)
  show Jw κ (wM κ) 15 fin 223 [none, some ((55, .ref x1) : TV), some ((7, .ref x2) : TV), some ((54, .ref x3) : TV), some ((41, .ref x4) : TV), none, some ((11, .ref x6) : TV), some ((0, .int x7) : TV), none, none, none, none, none, none, none] [((41, .ref h101) : TV)] _
  refine N_iload (pc := 223) hc dL_law_223 rfl ?_
  refine N_callV (pc := 225) hc clJ4 (As := [((0, .int x7) : TV)]) (ZJ4_append_bf812 h101 x7) dL_law_225 mzJ4_append_bf812 rfl tw1579 tw1580 tw1581 tw15 tw1582 rfl (Nat.le_of_ble_eq_true rfl) (Nat.le_of_ble_eq_true rfl) (Nat.le_of_ble_eq_true rfl) rfl (fun h102 => ?_)
  show Jw κ (wM κ) 15 fin 228 [none, some ((55, .ref x1) : TV), some ((7, .ref x2) : TV), some ((54, .ref x3) : TV), some ((41, .ref x4) : TV), none, some ((11, .ref x6) : TV), some ((0, .int x7) : TV), none, none, none, none, none, none, none] [((41, .ref h102) : TV)] _
  refine N_bipush (pc := 228) (v := 32) hc dL_law_228 (by decide) ?_
  refine N_callV (pc := 230) hc clJ4 (As := [((0, .int 32) : TV)]) (ZJ4_append_cf468 h102 32) dL_law_230 mzJ4_append_cf468 rfl tw1389 tw1390 tw1391 tw15 tw1392 rfl (Nat.le_of_ble_eq_true rfl) (Nat.le_of_ble_eq_true rfl) (Nat.le_of_ble_eq_true rfl) rfl (fun h103 => ?_)
  show Jw κ (wM κ) 15 fin 233 [none, some ((55, .ref x1) : TV), some ((7, .ref x2) : TV), some ((54, .ref x3) : TV), some ((41, .ref x4) : TV), none, some ((11, .ref x6) : TV), some ((0, .int x7) : TV), none, none, none, none, none, none, none] [((41, .ref h103) : TV)] _
  refine N_aload_n (pc := 233) hc dL_law_233 rfl rfl ?_
  refine N_getNA (pc := 234) hc clX9 (k := 1) (kd := 11) (Nat.le_of_ble_eq_true rfl) rfl (Nat.le_of_ble_eq_true rfl) (hst0 := "DotRunsLaw") (by decide +kernel) dL_law_234 (fun v104 => ?_)
  refine N_iload (pc := 237) hc dL_law_237 rfl ?_
  refine N_iald (pc := 239) hc dL_law_239 (fun v105 => ?_)
  refine N_callV (pc := 240) hc clJ4 (As := [((0, .int v105) : TV)]) (ZJ4_append_bf812 h103 v105) dL_law_240 mzJ4_append_bf812 rfl tw1579 tw1580 tw1581 tw15 tw1582 rfl (Nat.le_of_ble_eq_true rfl) (Nat.le_of_ble_eq_true rfl) (Nat.le_of_ble_eq_true rfl) rfl (fun h106 => ?_)
  show Jw κ (wM κ) 15 fin 243 [none, some ((55, .ref x1) : TV), some ((7, .ref x2) : TV), some ((54, .ref x3) : TV), some ((41, .ref x4) : TV), none, some ((11, .ref x6) : TV), some ((0, .int x7) : TV), none, none, none, none, none, none, none] [((41, .ref h106) : TV)] _
  refine N_bipush (pc := 243) (v := 59) hc dL_law_243 (by decide) ?_
  refine N_callV (pc := 245) hc clJ4 (As := [((0, .int 59) : TV)]) (ZJ4_append_cf468 h106 59) dL_law_245 mzJ4_append_cf468 rfl tw1389 tw1390 tw1391 tw15 tw1392 rfl (Nat.le_of_ble_eq_true rfl) (Nat.le_of_ble_eq_true rfl) (Nat.le_of_ble_eq_true rfl) rfl (fun h107 => ?_)
  show Jw κ (wM κ) 15 fin 248 [none, some ((55, .ref x1) : TV), some ((7, .ref x2) : TV), some ((54, .ref x3) : TV), some ((41, .ref x4) : TV), none, some ((11, .ref x6) : TV), some ((0, .int x7) : TV), none, none, none, none, none, none, none] [((41, .ref h107) : TV)] _
  refine N_pop (pc := 248) hc dL_law_248 rfl ?_
  refine N_iinc (pc := 249) (v := x7 + 1) (l' := [none, some ((55, .ref x1) : TV), some ((7, .ref x2) : TV), some ((54, .ref x3) : TV), some ((41, .ref x4) : TV), none, some ((11, .ref x6) : TV), some ((0, .int (x7 + 1)) : TV), none, none, none, none, none, none, none]) hc dL_law_249 rfl rfl (by decide) rfl rfl ?_
  refine N_goto (pc := 252) (tgt := 181) hc dL_law_252 (by decide) ?_
  refine N_sub (l' := [none, some ((55, .ref x1) : TV), some ((7, .ref x2) : TV), some ((54, .ref x3) : TV), some ((41, .ref x4) : TV), none, some ((11, .ref x6) : TV), some ((0, .int (x7 + 1)) : TV), none, none, none, none, none, none, none]) ⟨rfl, ⟨rfl, ⟨rfl, ⟨rfl, ⟨rfl, ⟨rfl, trivial⟩⟩⟩⟩⟩⟩ ?_
  exact hk181 x1 x2 x3 x4 x6 (x7 + 1)
set_option maxRecDepth 100000 in
set_option maxHeartbeats 8000000 in
theorem qL_law_L181 {κ : Cx} {fin : Int32 → Mm → Prop} {mc ms : Nat} (hc : Jc κ RL cL_law 15 17 mc ms 702) (he : EdW κ cL_law tI .ireturn (fun a => a = 0 ∨ a = 1) fin) : ∀ (n : Nat) (x1 : Nat) (x2 : Nat) (x3 : Nat) (x4 : Nat) (x6 : Nat) (x7 : Int32), Jw κ (wM κ) 15 fin 181 [none, some ((55, .ref x1) : TV), some ((7, .ref x2) : TV), some ((54, .ref x3) : TV), some ((41, .ref x4) : TV), none, some ((11, .ref x6) : TV), some ((0, .int x7) : TV), none, none, none, none, none, none, none] [] (gL_law_L181 n x1 x2 x3 x4 x6 x7) := by
  intro n
  induction n with
  | zero => intro x1 x2 x3 x4 x6 x7; exact N_fail
  | succ n ih =>
    intro x1 x2 x3 x4 x6 x7
    unfold gL_law_L181
    refine N_iload (pc := 181) hc dL_law_181 rfl ?_
    refine N_bipush (pc := 183) (v := 6) hc dL_law_183 (by decide) ?_
    refine N_icmp_ge (pc := 185) (tgt := 255) hc dL_law_185 (by decide) ?_ ?_
    · refine N_iconst (pc := 255) (v := 0) hc dL_law_255 (by decide) ?_
      refine N_istore (pc := 256) (l' := [none, some ((55, .ref x1) : TV), some ((7, .ref x2) : TV), some ((54, .ref x3) : TV), some ((41, .ref x4) : TV), none, some ((11, .ref x6) : TV), some ((0, .int 0) : TV), none, none, none, none, none, none, none]) hc dL_law_256 (by decide) rfl rfl ?_
      refine N_sub (l' := [none, some ((55, .ref x1) : TV), some ((7, .ref x2) : TV), some ((54, .ref x3) : TV), some ((41, .ref x4) : TV), none, none, some ((0, .int 0) : TV), none, none, none, none, none, none, none]) ⟨rfl, ⟨rfl, ⟨rfl, ⟨rfl, ⟨rfl, trivial⟩⟩⟩⟩⟩ ?_
      exact qL_law_L258 hc he fu x1 x2 x3 x4 0
    · refine N_aload_n (pc := 188) hc dL_law_188 rfl rfl ?_
      refine N_getNA (pc := 189) hc clX9 (k := 1) (kd := 11) (Nat.le_of_ble_eq_true rfl) rfl (Nat.le_of_ble_eq_true rfl) (hst0 := "DotRunsLaw") (by decide +kernel) dL_law_189 (fun v108 => ?_)
      refine N_iload (pc := 192) hc dL_law_192 rfl ?_
      refine N_aload_n (pc := 194) hc dL_law_194 rfl rfl ?_
      refine N_aload (pc := 195) hc dL_law_195 rfl ?_
      refine N_iload (pc := 197) hc dL_law_197 rfl ?_
      refine N_iald (pc := 199) hc dL_law_199 (fun v109 => ?_)
      refine N_callV (pc := 200) hc clX10 (As := [((0, .int v109) : TV)]) (ZX10_next x1 v109) dL_law_200 mzX10_next rfl tw964 tw965 tw966 tw1 tw967 rfl (Nat.le_of_ble_eq_true rfl) (Nat.le_of_ble_eq_true rfl) (Nat.le_of_ble_eq_true rfl) rfl (fun v110 => ?_)
      show Jw κ (wM κ) 15 fin 203 [none, some ((55, .ref x1) : TV), some ((7, .ref x2) : TV), some ((54, .ref x3) : TV), some ((41, .ref x4) : TV), none, some ((11, .ref x6) : TV), some ((0, .int x7) : TV), none, none, none, none, none, none, none] [((0, .int v110) : TV), ((0, .int x7) : TV), ((11, .ref v108) : TV)] _
      refine N_iload (pc := 203) hc dL_law_203 rfl ?_
      refine N_if_ne (pc := 205) (tgt := 212) hc dL_law_205 (by decide) ?_ ?_
      · refine N_iconst (pc := 212) (v := 0) hc dL_law_212 (by decide) ?_
        refine N_sub (l' := [none, some ((55, .ref x1) : TV), some ((7, .ref x2) : TV), some ((54, .ref x3) : TV), some ((41, .ref x4) : TV), none, some ((11, .ref x6) : TV), some ((0, .int x7) : TV), none, none, none, none, none, none, none]) ⟨rfl, ⟨rfl, ⟨rfl, ⟨rfl, ⟨rfl, ⟨rfl, trivial⟩⟩⟩⟩⟩⟩ ?_
        exact qL_law_L213 hc he ih x1 x2 x3 x4 x6 x7 0 v110 x7 v108
      · refine N_iconst (pc := 208) (v := 1) hc dL_law_208 (by decide) ?_
        refine N_goto (pc := 209) (tgt := 213) hc dL_law_209 (by decide) ?_
        refine N_sub (l' := [none, some ((55, .ref x1) : TV), some ((7, .ref x2) : TV), some ((54, .ref x3) : TV), some ((41, .ref x4) : TV), none, some ((11, .ref x6) : TV), some ((0, .int x7) : TV), none, none, none, none, none, none, none]) ⟨rfl, ⟨rfl, ⟨rfl, ⟨rfl, ⟨rfl, ⟨rfl, trivial⟩⟩⟩⟩⟩⟩ ?_
        exact qL_law_L213 hc he ih x1 x2 x3 x4 x6 x7 1 v110 x7 v108
set_option maxRecDepth 100000 in
set_option maxHeartbeats 8000000 in
theorem qL_law_L94 {κ : Cx} {fin : Int32 → Mm → Prop} {mc ms : Nat} (hc : Jc κ RL cL_law 15 17 mc ms 702) (he : EdW κ cL_law tI .ireturn (fun a => a = 0 ∨ a = 1) fin) : ∀ (n : Nat) (x1 : Nat) (x2 : Nat) (x3 : Nat) (x4 : Nat) (x5 : Nat) (x6 : Int32), Jw κ (wM κ) 15 fin 94 [none, some ((55, .ref x1) : TV), some ((7, .ref x2) : TV), some ((54, .ref x3) : TV), some ((41, .ref x4) : TV), some ((13, .ref x5) : TV), some ((0, .int x6) : TV), none, none, none, none, none, none, none, none] [] (gL_law_L94 n x1 x2 x3 x4 x5 x6) := by
  intro n
  induction n with
  | zero => intro x1 x2 x3 x4 x5 x6; exact N_fail
  | succ n ih =>
    intro x1 x2 x3 x4 x5 x6
    unfold gL_law_L94
    refine N_iload (pc := 94) hc dL_law_94 rfl ?_
    refine N_if_le (pc := 96) (tgt := 145) hc dL_law_96 (by decide) ?_ ?_
    · refine N_bipush (pc := 145) (v := 6) hc dL_law_145 (by decide) ?_
      refine N_newa11 (pc := 147) hc tw82 dL_law_147 (fun h111 => ?_)
      refine N_dup (pc := 149) hc dL_law_149 rfl ?_
      refine N_iconst (pc := 150) (v := 0) hc dL_law_150 (by decide) ?_
      refine N_bipush (pc := 151) (v := 8) hc dL_law_151 (by decide) ?_
      refine N_iast (pc := 153) hc dL_law_153 ?_
      refine N_dup (pc := 154) hc dL_law_154 rfl ?_
      refine N_iconst (pc := 155) (v := 1) hc dL_law_155 (by decide) ?_
      refine N_iconst (pc := 156) (v := 2) hc dL_law_156 (by decide) ?_
      refine N_iast (pc := 157) hc dL_law_157 ?_
      refine N_dup (pc := 158) hc dL_law_158 rfl ?_
      refine N_iconst (pc := 159) (v := 2) hc dL_law_159 (by decide) ?_
      refine N_iconst (pc := 160) (v := 2) hc dL_law_160 (by decide) ?_
      refine N_iast (pc := 161) hc dL_law_161 ?_
      refine N_dup (pc := 162) hc dL_law_162 rfl ?_
      refine N_iconst (pc := 163) (v := 3) hc dL_law_163 (by decide) ?_
      refine N_iconst (pc := 164) (v := 5) hc dL_law_164 (by decide) ?_
      refine N_iast (pc := 165) hc dL_law_165 ?_
      refine N_dup (pc := 166) hc dL_law_166 rfl ?_
      refine N_iconst (pc := 167) (v := 4) hc dL_law_167 (by decide) ?_
      refine N_bipush (pc := 168) (v := 100) hc dL_law_168 (by decide) ?_
      refine N_iast (pc := 170) hc dL_law_170 ?_
      refine N_dup (pc := 171) hc dL_law_171 rfl ?_
      refine N_iconst (pc := 172) (v := 5) hc dL_law_172 (by decide) ?_
      refine N_bipush (pc := 173) (v := 100) hc dL_law_173 (by decide) ?_
      refine N_iast (pc := 175) hc dL_law_175 ?_
      refine N_astore (pc := 176) (l' := [none, some ((55, .ref x1) : TV), some ((7, .ref x2) : TV), some ((54, .ref x3) : TV), some ((41, .ref x4) : TV), some ((13, .ref x5) : TV), some ((11, .ref h111) : TV), none, none, none, none, none, none, none, none]) hc dL_law_176 (by decide) rfl rfl ?_
      refine N_iconst (pc := 178) (v := 0) hc dL_law_178 (by decide) ?_
      refine N_istore (pc := 179) (l' := [none, some ((55, .ref x1) : TV), some ((7, .ref x2) : TV), some ((54, .ref x3) : TV), some ((41, .ref x4) : TV), some ((13, .ref x5) : TV), some ((11, .ref h111) : TV), some ((0, .int 0) : TV), none, none, none, none, none, none, none]) hc dL_law_179 (by decide) rfl rfl ?_
      refine N_sub (l' := [none, some ((55, .ref x1) : TV), some ((7, .ref x2) : TV), some ((54, .ref x3) : TV), some ((41, .ref x4) : TV), none, some ((11, .ref h111) : TV), some ((0, .int 0) : TV), none, none, none, none, none, none, none]) ⟨rfl, ⟨rfl, ⟨rfl, ⟨rfl, ⟨rfl, ⟨rfl, trivial⟩⟩⟩⟩⟩⟩ ?_
      exact qL_law_L181 hc he fu x1 x2 x3 x4 h111 0
    · refine N_aload_n (pc := 99) hc dL_law_99 rfl rfl ?_
      refine N_aload (pc := 100) hc dL_law_100 rfl ?_
      refine N_callS (pc := 102) hc (As := [((55, .ref x1) : TV), ((13, .ref x5) : TV)]) (ZL_drawnRow x1 x5) dL_law_102 mzL_drawnRow tw1523 tw1524 tw0 tw1525 rfl (Nat.le_of_ble_eq_true rfl) (Nat.le_of_ble_eq_true rfl) (Nat.le_of_ble_eq_true rfl) rfl (fun h112 => ?_)
      show Jw κ (wM κ) 15 fin 105 [none, some ((55, .ref x1) : TV), some ((7, .ref x2) : TV), some ((54, .ref x3) : TV), some ((41, .ref x4) : TV), some ((13, .ref x5) : TV), some ((0, .int x6) : TV), none, none, none, none, none, none, none, none] [((13, .ref h112) : TV)] _
      refine N_astore (pc := 105) (l' := [none, some ((55, .ref x1) : TV), some ((7, .ref x2) : TV), some ((54, .ref x3) : TV), some ((41, .ref x4) : TV), some ((13, .ref h112) : TV), some ((0, .int x6) : TV), none, none, none, none, none, none, none, none]) hc dL_law_105 (by decide) rfl rfl ?_
      refine N_aload_n (pc := 107) hc dL_law_107 rfl rfl ?_
      refine N_getNA (pc := 108) hc clX9 (k := 3) (kd := 44) (Nat.le_of_ble_eq_true rfl) rfl (Nat.le_of_ble_eq_true rfl) (hst0 := "DotRunsLaw") (by decide +kernel) dL_law_108 (fun v113 => ?_)
      refine N_aload (pc := 111) hc dL_law_111 rfl ?_
      refine N_to16 (h := h112) [] (Or.inl rfl) ?_
      refine N_callV (pc := 113) hc clJx4a65c (As := [((16, .ref h112) : TV)]) (ZJx4a65c_add_9ea2d v113 h112) dL_law_113 mzJx4a65c_add_9ea2d rfl tw1114 tw887 tw888 tw13 tw889 rfl (Nat.le_of_ble_eq_true rfl) (Nat.le_of_ble_eq_true rfl) (Nat.le_of_ble_eq_true rfl) rfl (fun v114 => ?_)
      show Jw κ (wM κ) 15 fin 116 [none, some ((55, .ref x1) : TV), some ((7, .ref x2) : TV), some ((54, .ref x3) : TV), some ((41, .ref x4) : TV), some ((13, .ref h112) : TV), some ((0, .int x6) : TV), none, none, none, none, none, none, none, none] [((0, .int v114) : TV)] _
      refine N_pop (pc := 116) hc dL_law_116 rfl ?_
      refine N_aload (pc := 117) hc dL_law_117 rfl ?_
      refine N_ldcSW (pc := 119) (i := 11) hc rfl dL_law_119 ?_
      refine N_callV (pc := 122) hc clJ4 (As := [((20, .ref (SB + 11)) : TV)]) (ZJ4_append_15ec4_k x4 (SB + 11)) dL_law_122 mzJ4_append_15ec4_k rfl tw1578 tw1543 tw1544 tw15 tw1545 rfl (Nat.le_of_ble_eq_true rfl) (Nat.le_of_ble_eq_true rfl) (Nat.le_of_ble_eq_true rfl) rfl (fun h115 => ?_)
      show Jw κ (wM κ) 15 fin 125 [none, some ((55, .ref x1) : TV), some ((7, .ref x2) : TV), some ((54, .ref x3) : TV), some ((41, .ref x4) : TV), some ((13, .ref h112) : TV), some ((0, .int x6) : TV), none, none, none, none, none, none, none, none] [((41, .ref h115) : TV)] _
      refine N_aload (pc := 125) hc dL_law_125 rfl ?_
      refine N_callS (pc := 127) hc (As := [((13, .ref h112) : TV)]) (ZL_told h112) dL_law_127 mzL_told tw1356 tw1357 tw0 tw1358 rfl (Nat.le_of_ble_eq_true rfl) (Nat.le_of_ble_eq_true rfl) (Nat.le_of_ble_eq_true rfl) rfl (fun h116 => ?_)
      show Jw κ (wM κ) 15 fin 130 [none, some ((55, .ref x1) : TV), some ((7, .ref x2) : TV), some ((54, .ref x3) : TV), some ((41, .ref x4) : TV), some ((13, .ref h112) : TV), some ((0, .int x6) : TV), none, none, none, none, none, none, none, none] [((40, .ref h116) : TV), ((41, .ref h115) : TV)] _
      refine N_callV (pc := 130) hc clJ4 (As := [((40, .ref h116) : TV)]) (ZJ4_append_15ec4 h115 h116) dL_law_130 mzJ4_append_15ec4 rfl tw1578 tw1543 tw1544 tw15 tw1545 rfl (Nat.le_of_ble_eq_true rfl) (Nat.le_of_ble_eq_true rfl) (Nat.le_of_ble_eq_true rfl) rfl (fun h117 => ?_)
      show Jw κ (wM κ) 15 fin 133 [none, some ((55, .ref x1) : TV), some ((7, .ref x2) : TV), some ((54, .ref x3) : TV), some ((41, .ref x4) : TV), some ((13, .ref h112) : TV), some ((0, .int x6) : TV), none, none, none, none, none, none, none, none] [((41, .ref h117) : TV)] _
      refine N_bipush (pc := 133) (v := 59) hc dL_law_133 (by decide) ?_
      refine N_callV (pc := 135) hc clJ4 (As := [((0, .int 59) : TV)]) (ZJ4_append_cf468 h117 59) dL_law_135 mzJ4_append_cf468 rfl tw1389 tw1390 tw1391 tw15 tw1392 rfl (Nat.le_of_ble_eq_true rfl) (Nat.le_of_ble_eq_true rfl) (Nat.le_of_ble_eq_true rfl) rfl (fun h118 => ?_)
      show Jw κ (wM κ) 15 fin 138 [none, some ((55, .ref x1) : TV), some ((7, .ref x2) : TV), some ((54, .ref x3) : TV), some ((41, .ref x4) : TV), some ((13, .ref h112) : TV), some ((0, .int x6) : TV), none, none, none, none, none, none, none, none] [((41, .ref h118) : TV)] _
      refine N_pop (pc := 138) hc dL_law_138 rfl ?_
      refine N_iinc (pc := 139) (v := x6 + (-1)) (l' := [none, some ((55, .ref x1) : TV), some ((7, .ref x2) : TV), some ((54, .ref x3) : TV), some ((41, .ref x4) : TV), some ((13, .ref h112) : TV), some ((0, .int (x6 + (-1))) : TV), none, none, none, none, none, none, none, none]) hc dL_law_139 rfl rfl (by decide) rfl rfl ?_
      refine N_goto (pc := 142) (tgt := 94) hc dL_law_142 (by decide) ?_
      refine N_sub (l' := [none, some ((55, .ref x1) : TV), some ((7, .ref x2) : TV), some ((54, .ref x3) : TV), some ((41, .ref x4) : TV), some ((13, .ref h112) : TV), some ((0, .int (x6 + (-1))) : TV), none, none, none, none, none, none, none, none]) ⟨rfl, ⟨rfl, ⟨rfl, ⟨rfl, ⟨rfl, ⟨rfl, trivial⟩⟩⟩⟩⟩⟩ ?_
      exact ih x1 x2 x3 x4 h112 (x6 + (-1))
set_option maxRecDepth 100000 in
set_option maxHeartbeats 8000000 in
theorem qL_law_L17 {κ : Cx} {fin : Int32 → Mm → Prop} {mc ms : Nat} (hc : Jc κ RL cL_law 15 17 mc ms 702) (he : EdW κ cL_law tI .ireturn (fun a => a = 0 ∨ a = 1) fin) (x1 : Nat) (x2 : Nat) : Jw κ (wM κ) 15 fin 17 [none, some ((55, .ref x1) : TV), some ((7, .ref x2) : TV), none, none, none, none, none, none, none, none, none, none, none, none] [] (gL_law_L17 x1 x2) := by
  unfold gL_law_L17
  refine N_new (pc := 17) hc clX9 dvX9 tw734 tw735 tw10 dL_law_17 (fun h119 => ?_)
  refine N_dup (pc := 20) hc dL_law_20 rfl ?_
  refine N_callIN (pc := 21) hc (ci := 54) (As := []) (hst1 := "DotRunsLaw") (ZX9_init h119) dL_law_21 mzX9_init rfl (by decide +kernel) tw737 tw10 tw738 rfl (Nat.le_of_ble_eq_true rfl) (Nat.le_of_ble_eq_true rfl) (Nat.le_of_ble_eq_true rfl) rfl (fun _ => ?_)
  show Jw κ (wM κ) 15 fin 24 [none, some ((55, .ref x1) : TV), some ((7, .ref x2) : TV), none, none, none, none, none, none, none, none, none, none, none, none] [((54, .ref h119) : TV)] _
  refine N_astore_n (pc := 24) (l' := [none, some ((55, .ref x1) : TV), some ((7, .ref x2) : TV), some ((54, .ref h119) : TV), none, none, none, none, none, none, none, none, none, none, none]) hc dL_law_24 rfl (by decide) rfl rfl ?_
  refine N_aload_n (pc := 25) hc dL_law_25 rfl rfl ?_
  refine N_bipush (pc := 26) (v := 8) hc dL_law_26 (by decide) ?_
  refine N_aload_n (pc := 28) hc dL_law_28 rfl rfl ?_
  refine N_bipush (pc := 29) (v := 20) hc dL_law_29 (by decide) ?_
  refine N_callV (pc := 31) hc clX10 (As := [((0, .int 20) : TV)]) (ZX10_next x1 20) dL_law_31 mzX10_next rfl tw964 tw965 tw966 tw1 tw967 rfl (Nat.le_of_ble_eq_true rfl) (Nat.le_of_ble_eq_true rfl) (Nat.le_of_ble_eq_true rfl) rfl (fun v120 => ?_)
  show Jw κ (wM κ) 15 fin 34 [none, some ((55, .ref x1) : TV), some ((7, .ref x2) : TV), some ((54, .ref h119) : TV), none, none, none, none, none, none, none, none, none, none, none] [((0, .int v120) : TV), ((0, .int 8) : TV), ((54, .ref h119) : TV)] _
  refine N_iadd (pc := 34) hc dL_law_34 ?_
  refine N_putNI (pc := 35) hc clX9 (k := 0) (Nat.le_of_ble_eq_true rfl) rfl rfl (hst0 := "DotRunsLaw") (by decide +kernel) rfl dL_law_35 ?_
  refine N_new (pc := 38) hc clJ4 dvJ4 tw1359 tw1360 tw15 dL_law_38 (fun h121 => ?_)
  refine N_dup (pc := 41) hc dL_law_41 rfl ?_
  refine N_new (pc := 42) hc clJ4 dvJ4 tw1359 tw1360 tw15 dL_law_42 (fun h122 => ?_)
  refine N_dup (pc := 45) hc dL_law_45 rfl ?_
  refine N_callI (pc := 46) hc (ci := 41) (As := []) (ZJ4_init_da8c8 h122) dL_law_46 mzJ4_init_da8c8 rfl tw1361 tw1362 tw15 tw1363 rfl (Nat.le_of_ble_eq_true rfl) (Nat.le_of_ble_eq_true rfl) (Nat.le_of_ble_eq_true rfl) rfl (fun _ => ?_)
  show Jw κ (wM κ) 15 fin 49 [none, some ((55, .ref x1) : TV), some ((7, .ref x2) : TV), some ((54, .ref h119) : TV), none, none, none, none, none, none, none, none, none, none, none] [((41, .ref h122) : TV), ((41, .ref h121) : TV), ((41, .ref h121) : TV)] _
  refine N_ldcSW (pc := 49) (i := 9) hc rfl dL_law_49 ?_
  refine N_callV (pc := 52) hc clJ4 (As := [((20, .ref (SB + 9)) : TV)]) (ZJ4_append_15ec4_k h122 (SB + 9)) dL_law_52 mzJ4_append_15ec4_k rfl tw1578 tw1543 tw1544 tw15 tw1545 rfl (Nat.le_of_ble_eq_true rfl) (Nat.le_of_ble_eq_true rfl) (Nat.le_of_ble_eq_true rfl) rfl (fun h123 => ?_)
  show Jw κ (wM κ) 15 fin 55 [none, some ((55, .ref x1) : TV), some ((7, .ref x2) : TV), some ((54, .ref h119) : TV), none, none, none, none, none, none, none, none, none, none, none] [((41, .ref h123) : TV), ((41, .ref h121) : TV), ((41, .ref h121) : TV)] _
  refine N_aload_n (pc := 55) hc dL_law_55 rfl rfl ?_
  refine N_getNI (pc := 56) hc clX9 (k := 0) (Nat.le_of_ble_eq_true rfl) rfl (hst0 := "DotRunsLaw") (by decide +kernel) dL_law_56 (fun v124 => ?_)
  refine N_callV (pc := 59) hc clJ4 (As := [((0, .int v124) : TV)]) (ZJ4_append_bf812 h123 v124) dL_law_59 mzJ4_append_bf812 rfl tw1579 tw1580 tw1581 tw15 tw1582 rfl (Nat.le_of_ble_eq_true rfl) (Nat.le_of_ble_eq_true rfl) (Nat.le_of_ble_eq_true rfl) rfl (fun h125 => ?_)
  show Jw κ (wM κ) 15 fin 62 [none, some ((55, .ref x1) : TV), some ((7, .ref x2) : TV), some ((54, .ref h119) : TV), none, none, none, none, none, none, none, none, none, none, none] [((41, .ref h125) : TV), ((41, .ref h121) : TV), ((41, .ref h121) : TV)] _
  refine N_ldcSW (pc := 62) (i := 10) hc rfl dL_law_62 ?_
  refine N_callV (pc := 65) hc clJ4 (As := [((20, .ref (SB + 10)) : TV)]) (ZJ4_append_15ec4_k h125 (SB + 10)) dL_law_65 mzJ4_append_15ec4_k rfl tw1578 tw1543 tw1544 tw15 tw1545 rfl (Nat.le_of_ble_eq_true rfl) (Nat.le_of_ble_eq_true rfl) (Nat.le_of_ble_eq_true rfl) rfl (fun h126 => ?_)
  show Jw κ (wM κ) 15 fin 68 [none, some ((55, .ref x1) : TV), some ((7, .ref x2) : TV), some ((54, .ref h119) : TV), none, none, none, none, none, none, none, none, none, none, none] [((41, .ref h126) : TV), ((41, .ref h121) : TV), ((41, .ref h121) : TV)] _
  refine N_callV (pc := 68) hc clJ4 (As := []) (ZJ4_toString_0e30d h126) dL_law_68 mzJ4_toString_0e30d rfl tw1447 tw1448 tw1449 tw15 tw1450 rfl (Nat.le_of_ble_eq_true rfl) (Nat.le_of_ble_eq_true rfl) (Nat.le_of_ble_eq_true rfl) rfl (fun h127 => ?_)
  show Jw κ (wM κ) 15 fin 71 [none, some ((55, .ref x1) : TV), some ((7, .ref x2) : TV), some ((54, .ref h119) : TV), none, none, none, none, none, none, none, none, none, none, none] [((40, .ref h127) : TV), ((41, .ref h121) : TV), ((41, .ref h121) : TV)] _
  refine N_callI (pc := 71) hc (ci := 41) (As := [((40, .ref h127) : TV)]) (ZJ4_init_a7421 h121 h127) dL_law_71 mzJ4_init_a7421 rfl tw1527 tw1528 tw15 tw1529 rfl (Nat.le_of_ble_eq_true rfl) (Nat.le_of_ble_eq_true rfl) (Nat.le_of_ble_eq_true rfl) rfl (fun _ => ?_)
  show Jw κ (wM κ) 15 fin 74 [none, some ((55, .ref x1) : TV), some ((7, .ref x2) : TV), some ((54, .ref h119) : TV), none, none, none, none, none, none, none, none, none, none, none] [((41, .ref h121) : TV)] _
  refine N_astore (pc := 74) (l' := [none, some ((55, .ref x1) : TV), some ((7, .ref x2) : TV), some ((54, .ref h119) : TV), some ((41, .ref h121) : TV), none, none, none, none, none, none, none, none, none, none]) hc dL_law_74 (by decide) rfl rfl ?_
  refine N_aload_n (pc := 76) hc dL_law_76 rfl rfl ?_
  refine N_getNI (pc := 77) hc clX9 (k := 0) (Nat.le_of_ble_eq_true rfl) rfl (hst0 := "DotRunsLaw") (by decide +kernel) dL_law_77 (fun v128 => ?_)
  refine N_newa13 (pc := 80) hc tw950 dL_law_80 (fun h129 => ?_)
  refine N_astore (pc := 82) (l' := [none, some ((55, .ref x1) : TV), some ((7, .ref x2) : TV), some ((54, .ref h119) : TV), some ((41, .ref h121) : TV), some ((13, .ref h129) : TV), none, none, none, none, none, none, none, none, none]) hc dL_law_82 (by decide) rfl rfl ?_
  refine N_iconst (pc := 84) (v := 1) hc dL_law_84 (by decide) ?_
  refine N_aload_n (pc := 85) hc dL_law_85 rfl rfl ?_
  refine N_bipush (pc := 86) (v := 6) hc dL_law_86 (by decide) ?_
  refine N_callV (pc := 88) hc clX10 (As := [((0, .int 6) : TV)]) (ZX10_next x1 6) dL_law_88 mzX10_next rfl tw964 tw965 tw966 tw1 tw967 rfl (Nat.le_of_ble_eq_true rfl) (Nat.le_of_ble_eq_true rfl) (Nat.le_of_ble_eq_true rfl) rfl (fun v130 => ?_)
  show Jw κ (wM κ) 15 fin 91 [none, some ((55, .ref x1) : TV), some ((7, .ref x2) : TV), some ((54, .ref h119) : TV), some ((41, .ref h121) : TV), some ((13, .ref h129) : TV), none, none, none, none, none, none, none, none, none] [((0, .int v130) : TV), ((0, .int 1) : TV)] _
  refine N_iadd (pc := 91) hc dL_law_91 ?_
  refine N_nmi (fun v131 => ?_)
  refine N_istore (pc := 92) (l' := [none, some ((55, .ref x1) : TV), some ((7, .ref x2) : TV), some ((54, .ref h119) : TV), some ((41, .ref h121) : TV), some ((13, .ref h129) : TV), some ((0, .int v131) : TV), none, none, none, none, none, none, none, none]) hc dL_law_92 (by decide) rfl rfl ?_
  refine N_sub (l' := [none, some ((55, .ref x1) : TV), some ((7, .ref x2) : TV), some ((54, .ref h119) : TV), some ((41, .ref h121) : TV), some ((13, .ref h129) : TV), some ((0, .int v131) : TV), none, none, none, none, none, none, none, none]) ⟨rfl, ⟨rfl, ⟨rfl, ⟨rfl, ⟨rfl, ⟨rfl, trivial⟩⟩⟩⟩⟩⟩ ?_
  exact qL_law_L94 hc he fu x1 x2 h119 h121 h129 v131
set_option maxRecDepth 100000 in
set_option maxHeartbeats 8000000 in
theorem qL_law {κ : Cx} {fin : Int32 → Mm → Prop} {mc ms : Nat} (h0 : Mn κ.2.2.1 = 0) (hc : Jc κ RL cL_law 15 17 mc ms 702) (he : EdW κ cL_law tI .ireturn (fun a => a = 0 ∨ a = 1) fin) (x0 : Nat) : Jw κ (wM κ) 15 fin 0 [some ((23, .ref x0) : TV), none, none, none, none, none, none, none, none, none, none, none, none, none, none] [] (gL_law x0) := by
  unfold gL_law
  refine N_new (pc := 0) hc clX10 dvX10 tw951 tw952 tw1 dL_law_0 (fun h132 => ?_)
  refine N_dup (pc := 3) hc dL_law_3 rfl ?_
  refine N_aload_n (pc := 4) hc dL_law_4 rfl rfl ?_
  refine N_callI (pc := 5) hc (ci := 55) (As := [((23, .ref x0) : TV)]) (ZX10_init h132 x0) dL_law_5 mzX10_init rfl tw953 tw954 tw1 tw955 rfl (Nat.le_of_ble_eq_true rfl) (Nat.le_of_ble_eq_true rfl) (Nat.le_of_ble_eq_true rfl) rfl (fun _ => ?_)
  show Jw κ (wM κ) 15 fin 8 [some ((23, .ref x0) : TV), none, none, none, none, none, none, none, none, none, none, none, none, none, none] [((55, .ref h132) : TV)] _
  refine N_astore_n (pc := 8) (l' := [some ((23, .ref x0) : TV), some ((55, .ref h132) : TV), none, none, none, none, none, none, none, none, none, none, none, none, none]) hc dL_law_8 rfl (by decide) rfl rfl ?_
  refine N_new (pc := 9) hc clX7 dvX7 tw37 tw38 tw2 dL_law_9 (fun h133 => ?_)
  refine N_dup (pc := 12) hc dL_law_12 rfl ?_
  refine N_callCI (pc := 13) hc (ci := 7) (Or.inl (Nat.le_of_ble_eq_true rfl)) (As := []) (KX7_init h133) dL_law_13 moX7_init rfl tw39 tw40 tw2 tw41 rfl (Nat.le_of_ble_eq_true rfl) (Nat.le_of_ble_eq_true rfl) (Nat.le_of_ble_eq_true rfl) rfl (fun _ _ h => by cases h) (fun _ => ?_)
  show Jw κ (wM κ) 15 fin 16 [some ((23, .ref x0) : TV), some ((55, .ref h132) : TV), none, none, none, none, none, none, none, none, none, none, none, none, none] [((7, .ref h133) : TV)] _
  refine N_astore_n (pc := 16) (l' := [some ((23, .ref x0) : TV), some ((55, .ref h132) : TV), some ((7, .ref h133) : TV), none, none, none, none, none, none, none, none, none, none, none, none]) hc dL_law_16 rfl (by decide) rfl rfl ?_
  refine N_sub (l' := [none, some ((55, .ref h132) : TV), some ((7, .ref h133) : TV), none, none, none, none, none, none, none, none, none, none, none, none]) ⟨rfl, ⟨rfl, trivial⟩⟩ ?_
  exact N_perm h0 rfl rfl (qL_law_L17 hc he 38 0)
