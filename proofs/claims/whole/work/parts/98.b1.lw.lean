/-! THE LAW: its cases -/
set_option maxRecDepth 100000 in
set_option maxHeartbeats 8000000 in
theorem jL_c13 {κ : Cx} {fin : Int32 → Mm → Prop} {L : Nat} {xs : Nat → Int32} (hc : Jc κ RL cL_law 9 12 601024 7293034 452) (he : EdZ κ cL_law 601024 7293034 id fin) (hsx : JX κ L xs) (hN : NcK κ) {cs ss : Nat} (h1 : cs + 8 ≤ 601024) (h2 : ss + 80 ≤ 7293034) {k : Mm → Option (Int32 × Mm)} (x1 x2 x3 : Nat) (x4 : Int32) (hk : Jg κ (wM κ) 9 fin (cs + 8) (ss + 80) 2172 [some ((23, .ref (SB + 400)) : TV), some ((7, .ref x1) : TV), some ((8, .ref x2) : TV), some ((12, .ref x3) : TV), some ((0, .int x4) : TV), none, none, none, none] [] k) : Jg κ (wM κ) 9 fin cs ss 887 [some ((23, .ref (SB + 400)) : TV), some ((7, .ref x1) : TV), some ((8, .ref x2) : TV), some ((12, .ref x3) : TV), some ((0, .int x4) : TV), none, none, none, none] [] (fL_c13 L xs k x1 x2 x3 x4) := by
  unfold fL_c13
  refine J_aload_n (pc := 887) hc dL_law_887 rfl rfl ?_
  refine J_aload_n (pc := 888) hc dL_law_888 rfl rfl ?_
  refine J_iload (pc := 889) hc dL_law_889 rfl ?_
  refine J_iconst (pc := 891) (v := 1) hc dL_law_891 (by decide) ?_
  refine J_iadd (pc := 892) hc dL_law_892 ?_
  refine J_sald (pc := 893) hc hsx dL_law_893 ?_
  refine J_aload_n (pc := 894) hc dL_law_894 rfl rfl ?_
  refine J_iload (pc := 895) hc dL_law_895 rfl ?_
  refine J_iconst (pc := 897) (v := 2) hc dL_law_897 (by decide) ?_
  refine J_iadd (pc := 898) hc dL_law_898 ?_
  refine J_sald (pc := 899) hc hsx dL_law_899 ?_
  refine J_aload_n (pc := 900) hc dL_law_900 rfl rfl ?_
  refine J_callSW (pc := 901) hc hN (As := [((7, .ref x1) : TV), ((0, .int (xs ((x4 + 1)).toNatClampNeg)) : TV), ((0, .int (xs ((x4 + 2)).toNatClampNeg)) : TV), ((12, .ref x3) : TV)]) (KL_readBelow x1 (xs ((x4 + 1)).toNatClampNeg) (xs ((x4 + 2)).toNatClampNeg) x3) dL_law_901 moL_readBelow tw944 tw945 tw0 tw946 rfl (Nat.le_of_ble_eq_true rfl) (Nat.le_of_ble_eq_true rfl) (by omega) (by omega) (Nat.le_of_ble_eq_true rfl) rfl (fun v1 => ?_)
  refine J_istore (pc := 904) (l' := [some ((23, .ref (SB + 400)) : TV), some ((7, .ref x1) : TV), some ((8, .ref x2) : TV), some ((12, .ref x3) : TV), some ((0, .int x4) : TV), some ((0, .int v1) : TV), none, none, none]) hc dL_law_904 (by decide) rfl rfl ?_
  refine J_aload_n (pc := 906) hc dL_law_906 rfl rfl ?_
  refine J_aload_n (pc := 907) hc dL_law_907 rfl rfl ?_
  refine J_iload (pc := 908) hc dL_law_908 rfl ?_
  refine J_iconst (pc := 910) (v := 1) hc dL_law_910 (by decide) ?_
  refine J_iadd (pc := 911) hc dL_law_911 ?_
  refine J_sald (pc := 912) hc hsx dL_law_912 ?_
  refine J_aload_n (pc := 913) hc dL_law_913 rfl rfl ?_
  refine J_iload (pc := 914) hc dL_law_914 rfl ?_
  refine J_iconst (pc := 916) (v := 2) hc dL_law_916 (by decide) ?_
  refine J_iadd (pc := 917) hc dL_law_917 ?_
  refine J_sald (pc := 918) hc hsx dL_law_918 ?_
  refine J_callVi (pc := 919) hc clX8 (As := [((0, .int (xs ((x4 + 1)).toNatClampNeg)) : TV), ((0, .int (xs ((x4 + 2)).toNatClampNeg)) : TV)]) (KX8_readBelow x2 (xs ((x4 + 1)).toNatClampNeg) (xs ((x4 + 2)).toNatClampNeg)) dL_law_919 moX8_readBelow rfl tw1438 tw1439 tw1440 tw9 tw1441 rfl (Nat.le_of_ble_eq_true rfl) (Nat.le_of_ble_eq_true rfl) (by omega) (by omega) (Nat.le_of_ble_eq_true rfl) rfl (fun v2 => ?_)
  refine J_istore (pc := 922) (l' := [some ((23, .ref (SB + 400)) : TV), some ((7, .ref x1) : TV), some ((8, .ref x2) : TV), some ((12, .ref x3) : TV), some ((0, .int x4) : TV), some ((0, .int v1) : TV), some ((0, .int v2) : TV), none, none]) hc dL_law_922 (by decide) rfl rfl ?_
  refine J_aload_n (pc := 924) hc dL_law_924 rfl rfl ?_
  refine J_callVi (pc := 925) hc clX8 (As := []) (KX8_thrown x2) dL_law_925 moX8_thrown rfl tw1290 tw1291 tw1292 tw9 tw1293 rfl (Nat.le_of_ble_eq_true rfl) (Nat.le_of_ble_eq_true rfl) (by omega) (by omega) (Nat.le_of_ble_eq_true rfl) rfl (fun v3 => ?_)
  refine J_iload (pc := 928) hc dL_law_928 rfl ?_
  refine J_icmp_eq (pc := 930) (tgt := 935) hc dL_law_930 (by decide) ?_ ?_
  · refine J_iload (pc := 935) hc dL_law_935 rfl ?_
    refine J_if_ne (pc := 937) (tgt := 952) hc dL_law_937 (by decide) ?_ ?_
    · refine J_goto (pc := 952) (tgt := 2172) hc dL_law_952 (by decide) ?_
      refine J_widen (k := cs + 8) (n := ss + 80) (by omega) (by omega) ?_
      refine J_sub (l' := [some ((23, .ref (SB + 400)) : TV), some ((7, .ref x1) : TV), some ((8, .ref x2) : TV), some ((12, .ref x3) : TV), some ((0, .int x4) : TV), none, none, none, none]) ⟨rfl, ⟨rfl, ⟨rfl, ⟨rfl, ⟨rfl, trivial⟩⟩⟩⟩⟩ ?_
      exact hk
    · refine J_aload_n (pc := 940) hc dL_law_940 rfl rfl ?_
      refine J_iconst (pc := 941) (v := 0) hc dL_law_941 (by decide) ?_
      refine J_lald (pc := 942) hc dL_law_942 (fun v4 => ?_)
      refine J_iload (pc := 943) hc dL_law_943 rfl ?_
      refine J_i2l (pc := 945) hc dL_law_945 ?_
      refine J_lcmp (pc := 946) hc dL_law_946 ?_
      refine J_if_eq (pc := 947) (tgt := 952) hc dL_law_947 (by decide) ?_ ?_
      · refine J_goto (pc := 952) (tgt := 2172) hc dL_law_952 (by decide) ?_
        refine J_widen (k := cs + 8) (n := ss + 80) (by omega) (by omega) ?_
        refine J_sub (l' := [some ((23, .ref (SB + 400)) : TV), some ((7, .ref x1) : TV), some ((8, .ref x2) : TV), some ((12, .ref x3) : TV), some ((0, .int x4) : TV), none, none, none, none]) ⟨rfl, ⟨rfl, ⟨rfl, ⟨rfl, ⟨rfl, trivial⟩⟩⟩⟩⟩ ?_
        exact hk
      · refine J_iconst (pc := 950) (v := 0) hc dL_law_950 (by decide) ?_
        refine J_widen (k := 601024) (n := 7293034) (by omega) (by omega) ?_
        exact J_zret (pc := 951) he dL_law_951
  · refine J_iconst (pc := 933) (v := 0) hc dL_law_933 (by decide) ?_
    refine J_widen (k := 601024) (n := 7293034) (by omega) (by omega) ?_
    exact J_zret (pc := 934) he dL_law_934
set_option maxRecDepth 100000 in
set_option maxHeartbeats 8000000 in
theorem jL_c14 {κ : Cx} {fin : Int32 → Mm → Prop} {L : Nat} {xs : Nat → Int32} (hc : Jc κ RL cL_law 9 12 601024 7293034 452) (he : EdZ κ cL_law 601024 7293034 id fin) (hsx : JX κ L xs) (hN : NcK κ) {cs ss : Nat} (h1 : cs + 8 ≤ 601024) (h2 : ss + 80 ≤ 7293034) {k : Mm → Option (Int32 × Mm)} (x1 x2 x3 : Nat) (x4 : Int32) (hk : Jg κ (wM κ) 9 fin (cs + 8) (ss + 80) 2172 [some ((23, .ref (SB + 400)) : TV), some ((7, .ref x1) : TV), some ((8, .ref x2) : TV), some ((12, .ref x3) : TV), some ((0, .int x4) : TV), none, none, none, none] [] k) : Jg κ (wM κ) 9 fin cs ss 955 [some ((23, .ref (SB + 400)) : TV), some ((7, .ref x1) : TV), some ((8, .ref x2) : TV), some ((12, .ref x3) : TV), some ((0, .int x4) : TV), none, none, none, none] [] (fL_c14 L xs k x1 x2 x3 x4) := by
  unfold fL_c14
  refine J_aload_n (pc := 955) hc dL_law_955 rfl rfl ?_
  refine J_aload_n (pc := 956) hc dL_law_956 rfl rfl ?_
  refine J_iload (pc := 957) hc dL_law_957 rfl ?_
  refine J_iconst (pc := 959) (v := 1) hc dL_law_959 (by decide) ?_
  refine J_iadd (pc := 960) hc dL_law_960 ?_
  refine J_sald (pc := 961) hc hsx dL_law_961 ?_
  refine J_aload_n (pc := 962) hc dL_law_962 rfl rfl ?_
  refine J_iload (pc := 963) hc dL_law_963 rfl ?_
  refine J_iconst (pc := 965) (v := 2) hc dL_law_965 (by decide) ?_
  refine J_iadd (pc := 966) hc dL_law_966 ?_
  refine J_sald (pc := 967) hc hsx dL_law_967 ?_
  refine J_aload_n (pc := 968) hc dL_law_968 rfl rfl ?_
  refine J_callSW (pc := 969) hc hN (As := [((7, .ref x1) : TV), ((0, .int (xs ((x4 + 1)).toNatClampNeg)) : TV), ((0, .int (xs ((x4 + 2)).toNatClampNeg)) : TV), ((12, .ref x3) : TV)]) (KL_set x1 (xs ((x4 + 1)).toNatClampNeg) (xs ((x4 + 2)).toNatClampNeg) x3) dL_law_969 moL_set tw952 tw953 tw0 tw954 rfl (Nat.le_of_ble_eq_true rfl) (Nat.le_of_ble_eq_true rfl) (by omega) (by omega) (Nat.le_of_ble_eq_true rfl) rfl (fun v1 => ?_)
  refine J_istore (pc := 972) (l' := [some ((23, .ref (SB + 400)) : TV), some ((7, .ref x1) : TV), some ((8, .ref x2) : TV), some ((12, .ref x3) : TV), some ((0, .int x4) : TV), some ((0, .int v1) : TV), none, none, none]) hc dL_law_972 (by decide) rfl rfl ?_
  refine J_aload_n (pc := 974) hc dL_law_974 rfl rfl ?_
  refine J_aload_n (pc := 975) hc dL_law_975 rfl rfl ?_
  refine J_iload (pc := 976) hc dL_law_976 rfl ?_
  refine J_iconst (pc := 978) (v := 1) hc dL_law_978 (by decide) ?_
  refine J_iadd (pc := 979) hc dL_law_979 ?_
  refine J_sald (pc := 980) hc hsx dL_law_980 ?_
  refine J_aload_n (pc := 981) hc dL_law_981 rfl rfl ?_
  refine J_iload (pc := 982) hc dL_law_982 rfl ?_
  refine J_iconst (pc := 984) (v := 2) hc dL_law_984 (by decide) ?_
  refine J_iadd (pc := 985) hc dL_law_985 ?_
  refine J_sald (pc := 986) hc hsx dL_law_986 ?_
  refine J_callVi (pc := 987) hc clX8 (As := [((0, .int (xs ((x4 + 1)).toNatClampNeg)) : TV), ((0, .int (xs ((x4 + 2)).toNatClampNeg)) : TV)]) (KX8_set x2 (xs ((x4 + 1)).toNatClampNeg) (xs ((x4 + 2)).toNatClampNeg)) dL_law_987 moX8_set rfl tw1458 tw1459 tw1460 tw9 tw1461 rfl (Nat.le_of_ble_eq_true rfl) (Nat.le_of_ble_eq_true rfl) (by omega) (by omega) (Nat.le_of_ble_eq_true rfl) rfl (fun v2 => ?_)
  refine J_istore (pc := 990) (l' := [some ((23, .ref (SB + 400)) : TV), some ((7, .ref x1) : TV), some ((8, .ref x2) : TV), some ((12, .ref x3) : TV), some ((0, .int x4) : TV), some ((0, .int v1) : TV), some ((0, .int v2) : TV), none, none]) hc dL_law_990 (by decide) rfl rfl ?_
  refine J_aload_n (pc := 992) hc dL_law_992 rfl rfl ?_
  refine J_callVi (pc := 993) hc clX8 (As := []) (KX8_thrown x2) dL_law_993 moX8_thrown rfl tw1290 tw1291 tw1292 tw9 tw1293 rfl (Nat.le_of_ble_eq_true rfl) (Nat.le_of_ble_eq_true rfl) (by omega) (by omega) (Nat.le_of_ble_eq_true rfl) rfl (fun v3 => ?_)
  refine J_iload (pc := 996) hc dL_law_996 rfl ?_
  refine J_icmp_eq (pc := 998) (tgt := 1003) hc dL_law_998 (by decide) ?_ ?_
  · refine J_iload (pc := 1003) hc dL_law_1003 rfl ?_
    refine J_if_ne (pc := 1005) (tgt := 1020) hc dL_law_1005 (by decide) ?_ ?_
    · refine J_goto (pc := 1020) (tgt := 2172) hc dL_law_1020 (by decide) ?_
      refine J_widen (k := cs + 8) (n := ss + 80) (by omega) (by omega) ?_
      refine J_sub (l' := [some ((23, .ref (SB + 400)) : TV), some ((7, .ref x1) : TV), some ((8, .ref x2) : TV), some ((12, .ref x3) : TV), some ((0, .int x4) : TV), none, none, none, none]) ⟨rfl, ⟨rfl, ⟨rfl, ⟨rfl, ⟨rfl, trivial⟩⟩⟩⟩⟩ ?_
      exact hk
    · refine J_aload_n (pc := 1008) hc dL_law_1008 rfl rfl ?_
      refine J_iconst (pc := 1009) (v := 0) hc dL_law_1009 (by decide) ?_
      refine J_lald (pc := 1010) hc dL_law_1010 (fun v4 => ?_)
      refine J_iload (pc := 1011) hc dL_law_1011 rfl ?_
      refine J_i2l (pc := 1013) hc dL_law_1013 ?_
      refine J_lcmp (pc := 1014) hc dL_law_1014 ?_
      refine J_if_eq (pc := 1015) (tgt := 1020) hc dL_law_1015 (by decide) ?_ ?_
      · refine J_goto (pc := 1020) (tgt := 2172) hc dL_law_1020 (by decide) ?_
        refine J_widen (k := cs + 8) (n := ss + 80) (by omega) (by omega) ?_
        refine J_sub (l' := [some ((23, .ref (SB + 400)) : TV), some ((7, .ref x1) : TV), some ((8, .ref x2) : TV), some ((12, .ref x3) : TV), some ((0, .int x4) : TV), none, none, none, none]) ⟨rfl, ⟨rfl, ⟨rfl, ⟨rfl, ⟨rfl, trivial⟩⟩⟩⟩⟩ ?_
        exact hk
      · refine J_iconst (pc := 1018) (v := 0) hc dL_law_1018 (by decide) ?_
        refine J_widen (k := 601024) (n := 7293034) (by omega) (by omega) ?_
        exact J_zret (pc := 1019) he dL_law_1019
  · refine J_iconst (pc := 1001) (v := 0) hc dL_law_1001 (by decide) ?_
    refine J_widen (k := 601024) (n := 7293034) (by omega) (by omega) ?_
    exact J_zret (pc := 1002) he dL_law_1002
set_option maxRecDepth 100000 in
set_option maxHeartbeats 8000000 in
theorem jL_c15 {κ : Cx} {fin : Int32 → Mm → Prop} {L : Nat} {xs : Nat → Int32} (hc : Jc κ RL cL_law 9 12 601024 7293034 452) (he : EdZ κ cL_law 601024 7293034 id fin) (hsx : JX κ L xs) (hN : NcK κ) {cs ss : Nat} (h1 : cs + 8 ≤ 601024) (h2 : ss + 80 ≤ 7293034) {k : Mm → Option (Int32 × Mm)} (x1 x2 x3 : Nat) (x4 : Int32) (hk : Jg κ (wM κ) 9 fin (cs + 8) (ss + 80) 2172 [some ((23, .ref (SB + 400)) : TV), some ((7, .ref x1) : TV), some ((8, .ref x2) : TV), some ((12, .ref x3) : TV), some ((0, .int x4) : TV), none, none, none, none] [] k) : Jg κ (wM κ) 9 fin cs ss 1023 [some ((23, .ref (SB + 400)) : TV), some ((7, .ref x1) : TV), some ((8, .ref x2) : TV), some ((12, .ref x3) : TV), some ((0, .int x4) : TV), none, none, none, none] [] (fL_c15 L xs k x1 x2 x3 x4) := by
  unfold fL_c15
  refine J_aload_n (pc := 1023) hc dL_law_1023 rfl rfl ?_
  refine J_aload_n (pc := 1024) hc dL_law_1024 rfl rfl ?_
  refine J_iload (pc := 1025) hc dL_law_1025 rfl ?_
  refine J_iconst (pc := 1027) (v := 1) hc dL_law_1027 (by decide) ?_
  refine J_iadd (pc := 1028) hc dL_law_1028 ?_
  refine J_sald (pc := 1029) hc hsx dL_law_1029 ?_
  refine J_aload_n (pc := 1030) hc dL_law_1030 rfl rfl ?_
  refine J_iload (pc := 1031) hc dL_law_1031 rfl ?_
  refine J_iconst (pc := 1033) (v := 2) hc dL_law_1033 (by decide) ?_
  refine J_iadd (pc := 1034) hc dL_law_1034 ?_
  refine J_sald (pc := 1035) hc hsx dL_law_1035 ?_
  refine J_aload_n (pc := 1036) hc dL_law_1036 rfl rfl ?_
  refine J_callSW (pc := 1037) hc hN (As := [((7, .ref x1) : TV), ((0, .int (xs ((x4 + 1)).toNatClampNeg)) : TV), ((0, .int (xs ((x4 + 2)).toNatClampNeg)) : TV), ((12, .ref x3) : TV)]) (KL_lose x1 (xs ((x4 + 1)).toNatClampNeg) (xs ((x4 + 2)).toNatClampNeg) x3) dL_law_1037 moL_lose tw969 tw970 tw0 tw971 rfl (Nat.le_of_ble_eq_true rfl) (Nat.le_of_ble_eq_true rfl) (by omega) (by omega) (Nat.le_of_ble_eq_true rfl) rfl (fun v1 => ?_)
  refine J_istore (pc := 1040) (l' := [some ((23, .ref (SB + 400)) : TV), some ((7, .ref x1) : TV), some ((8, .ref x2) : TV), some ((12, .ref x3) : TV), some ((0, .int x4) : TV), some ((0, .int v1) : TV), none, none, none]) hc dL_law_1040 (by decide) rfl rfl ?_
  refine J_aload_n (pc := 1042) hc dL_law_1042 rfl rfl ?_
  refine J_aload_n (pc := 1043) hc dL_law_1043 rfl rfl ?_
  refine J_iload (pc := 1044) hc dL_law_1044 rfl ?_
  refine J_iconst (pc := 1046) (v := 1) hc dL_law_1046 (by decide) ?_
  refine J_iadd (pc := 1047) hc dL_law_1047 ?_
  refine J_sald (pc := 1048) hc hsx dL_law_1048 ?_
  refine J_aload_n (pc := 1049) hc dL_law_1049 rfl rfl ?_
  refine J_iload (pc := 1050) hc dL_law_1050 rfl ?_
  refine J_iconst (pc := 1052) (v := 2) hc dL_law_1052 (by decide) ?_
  refine J_iadd (pc := 1053) hc dL_law_1053 ?_
  refine J_sald (pc := 1054) hc hsx dL_law_1054 ?_
  refine J_callVi (pc := 1055) hc clX8 (As := [((0, .int (xs ((x4 + 1)).toNatClampNeg)) : TV), ((0, .int (xs ((x4 + 2)).toNatClampNeg)) : TV)]) (KX8_lose x2 (xs ((x4 + 1)).toNatClampNeg) (xs ((x4 + 2)).toNatClampNeg)) dL_law_1055 moX8_lose rfl tw1472 tw1473 tw1474 tw9 tw1475 rfl (Nat.le_of_ble_eq_true rfl) (Nat.le_of_ble_eq_true rfl) (by omega) (by omega) (Nat.le_of_ble_eq_true rfl) rfl (fun v2 => ?_)
  refine J_istore (pc := 1058) (l' := [some ((23, .ref (SB + 400)) : TV), some ((7, .ref x1) : TV), some ((8, .ref x2) : TV), some ((12, .ref x3) : TV), some ((0, .int x4) : TV), some ((0, .int v1) : TV), some ((0, .int v2) : TV), none, none]) hc dL_law_1058 (by decide) rfl rfl ?_
  refine J_aload_n (pc := 1060) hc dL_law_1060 rfl rfl ?_
  refine J_callVi (pc := 1061) hc clX8 (As := []) (KX8_thrown x2) dL_law_1061 moX8_thrown rfl tw1290 tw1291 tw1292 tw9 tw1293 rfl (Nat.le_of_ble_eq_true rfl) (Nat.le_of_ble_eq_true rfl) (by omega) (by omega) (Nat.le_of_ble_eq_true rfl) rfl (fun v3 => ?_)
  refine J_iload (pc := 1064) hc dL_law_1064 rfl ?_
  refine J_icmp_eq (pc := 1066) (tgt := 1071) hc dL_law_1066 (by decide) ?_ ?_
  · refine J_iload (pc := 1071) hc dL_law_1071 rfl ?_
    refine J_if_ne (pc := 1073) (tgt := 1088) hc dL_law_1073 (by decide) ?_ ?_
    · refine J_goto (pc := 1088) (tgt := 2172) hc dL_law_1088 (by decide) ?_
      refine J_widen (k := cs + 8) (n := ss + 80) (by omega) (by omega) ?_
      refine J_sub (l' := [some ((23, .ref (SB + 400)) : TV), some ((7, .ref x1) : TV), some ((8, .ref x2) : TV), some ((12, .ref x3) : TV), some ((0, .int x4) : TV), none, none, none, none]) ⟨rfl, ⟨rfl, ⟨rfl, ⟨rfl, ⟨rfl, trivial⟩⟩⟩⟩⟩ ?_
      exact hk
    · refine J_aload_n (pc := 1076) hc dL_law_1076 rfl rfl ?_
      refine J_iconst (pc := 1077) (v := 0) hc dL_law_1077 (by decide) ?_
      refine J_lald (pc := 1078) hc dL_law_1078 (fun v4 => ?_)
      refine J_iload (pc := 1079) hc dL_law_1079 rfl ?_
      refine J_i2l (pc := 1081) hc dL_law_1081 ?_
      refine J_lcmp (pc := 1082) hc dL_law_1082 ?_
      refine J_if_eq (pc := 1083) (tgt := 1088) hc dL_law_1083 (by decide) ?_ ?_
      · refine J_goto (pc := 1088) (tgt := 2172) hc dL_law_1088 (by decide) ?_
        refine J_widen (k := cs + 8) (n := ss + 80) (by omega) (by omega) ?_
        refine J_sub (l' := [some ((23, .ref (SB + 400)) : TV), some ((7, .ref x1) : TV), some ((8, .ref x2) : TV), some ((12, .ref x3) : TV), some ((0, .int x4) : TV), none, none, none, none]) ⟨rfl, ⟨rfl, ⟨rfl, ⟨rfl, ⟨rfl, trivial⟩⟩⟩⟩⟩ ?_
        exact hk
      · refine J_iconst (pc := 1086) (v := 0) hc dL_law_1086 (by decide) ?_
        refine J_widen (k := 601024) (n := 7293034) (by omega) (by omega) ?_
        exact J_zret (pc := 1087) he dL_law_1087
  · refine J_iconst (pc := 1069) (v := 0) hc dL_law_1069 (by decide) ?_
    refine J_widen (k := 601024) (n := 7293034) (by omega) (by omega) ?_
    exact J_zret (pc := 1070) he dL_law_1070
set_option maxRecDepth 100000 in
set_option maxHeartbeats 8000000 in
theorem jL_c16 {κ : Cx} {fin : Int32 → Mm → Prop} {L : Nat} {xs : Nat → Int32} (hc : Jc κ RL cL_law 9 12 601024 7293034 452) (he : EdZ κ cL_law 601024 7293034 id fin) (hsx : JX κ L xs) (hN : NcK κ) {cs ss : Nat} (h1 : cs + 8 ≤ 601024) (h2 : ss + 80 ≤ 7293034) {k : Mm → Option (Int32 × Mm)} (x1 x2 x3 : Nat) (x4 : Int32) (hk : Jg κ (wM κ) 9 fin (cs + 8) (ss + 80) 2172 [some ((23, .ref (SB + 400)) : TV), some ((7, .ref x1) : TV), some ((8, .ref x2) : TV), some ((12, .ref x3) : TV), some ((0, .int x4) : TV), none, none, none, none] [] k) : Jg κ (wM κ) 9 fin cs ss 1091 [some ((23, .ref (SB + 400)) : TV), some ((7, .ref x1) : TV), some ((8, .ref x2) : TV), some ((12, .ref x3) : TV), some ((0, .int x4) : TV), none, none, none, none] [] (fL_c16 L xs k x1 x2 x3 x4) := by
  unfold fL_c16
  refine J_aload_n (pc := 1091) hc dL_law_1091 rfl rfl ?_
  refine J_aload_n (pc := 1092) hc dL_law_1092 rfl rfl ?_
  refine J_iload (pc := 1093) hc dL_law_1093 rfl ?_
  refine J_iconst (pc := 1095) (v := 1) hc dL_law_1095 (by decide) ?_
  refine J_iadd (pc := 1096) hc dL_law_1096 ?_
  refine J_sald (pc := 1097) hc hsx dL_law_1097 ?_
  refine J_aload_n (pc := 1098) hc dL_law_1098 rfl rfl ?_
  refine J_iload (pc := 1099) hc dL_law_1099 rfl ?_
  refine J_iconst (pc := 1101) (v := 2) hc dL_law_1101 (by decide) ?_
  refine J_iadd (pc := 1102) hc dL_law_1102 ?_
  refine J_sald (pc := 1103) hc hsx dL_law_1103 ?_
  refine J_aload_n (pc := 1104) hc dL_law_1104 rfl rfl ?_
  refine J_callSW (pc := 1105) hc hN (As := [((7, .ref x1) : TV), ((0, .int (xs ((x4 + 1)).toNatClampNeg)) : TV), ((0, .int (xs ((x4 + 2)).toNatClampNeg)) : TV), ((12, .ref x3) : TV)]) (KL_addLine x1 (xs ((x4 + 1)).toNatClampNeg) (xs ((x4 + 2)).toNatClampNeg) x3) dL_law_1105 moL_addLine tw978 tw979 tw0 tw980 rfl (Nat.le_of_ble_eq_true rfl) (Nat.le_of_ble_eq_true rfl) (by omega) (by omega) (Nat.le_of_ble_eq_true rfl) rfl (fun v1 => ?_)
  refine J_istore (pc := 1108) (l' := [some ((23, .ref (SB + 400)) : TV), some ((7, .ref x1) : TV), some ((8, .ref x2) : TV), some ((12, .ref x3) : TV), some ((0, .int x4) : TV), some ((0, .int v1) : TV), none, none, none]) hc dL_law_1108 (by decide) rfl rfl ?_
  refine J_aload_n (pc := 1110) hc dL_law_1110 rfl rfl ?_
  refine J_aload_n (pc := 1111) hc dL_law_1111 rfl rfl ?_
  refine J_iload (pc := 1112) hc dL_law_1112 rfl ?_
  refine J_iconst (pc := 1114) (v := 1) hc dL_law_1114 (by decide) ?_
  refine J_iadd (pc := 1115) hc dL_law_1115 ?_
  refine J_sald (pc := 1116) hc hsx dL_law_1116 ?_
  refine J_aload_n (pc := 1117) hc dL_law_1117 rfl rfl ?_
  refine J_iload (pc := 1118) hc dL_law_1118 rfl ?_
  refine J_iconst (pc := 1120) (v := 2) hc dL_law_1120 (by decide) ?_
  refine J_iadd (pc := 1121) hc dL_law_1121 ?_
  refine J_sald (pc := 1122) hc hsx dL_law_1122 ?_
  refine J_callVi (pc := 1123) hc clX8 (As := [((0, .int (xs ((x4 + 1)).toNatClampNeg)) : TV), ((0, .int (xs ((x4 + 2)).toNatClampNeg)) : TV)]) (KX8_addLine x2 (xs ((x4 + 1)).toNatClampNeg) (xs ((x4 + 2)).toNatClampNeg)) dL_law_1123 moX8_addLine rfl tw1476 tw1477 tw1478 tw9 tw1479 rfl (Nat.le_of_ble_eq_true rfl) (Nat.le_of_ble_eq_true rfl) (by omega) (by omega) (Nat.le_of_ble_eq_true rfl) rfl (fun v2 => ?_)
  refine J_istore (pc := 1126) (l' := [some ((23, .ref (SB + 400)) : TV), some ((7, .ref x1) : TV), some ((8, .ref x2) : TV), some ((12, .ref x3) : TV), some ((0, .int x4) : TV), some ((0, .int v1) : TV), some ((0, .int v2) : TV), none, none]) hc dL_law_1126 (by decide) rfl rfl ?_
  refine J_aload_n (pc := 1128) hc dL_law_1128 rfl rfl ?_
  refine J_callVi (pc := 1129) hc clX8 (As := []) (KX8_thrown x2) dL_law_1129 moX8_thrown rfl tw1290 tw1291 tw1292 tw9 tw1293 rfl (Nat.le_of_ble_eq_true rfl) (Nat.le_of_ble_eq_true rfl) (by omega) (by omega) (Nat.le_of_ble_eq_true rfl) rfl (fun v3 => ?_)
  refine J_iload (pc := 1132) hc dL_law_1132 rfl ?_
  refine J_icmp_eq (pc := 1134) (tgt := 1139) hc dL_law_1134 (by decide) ?_ ?_
  · refine J_iload (pc := 1139) hc dL_law_1139 rfl ?_
    refine J_if_ne (pc := 1141) (tgt := 1156) hc dL_law_1141 (by decide) ?_ ?_
    · refine J_goto (pc := 1156) (tgt := 2172) hc dL_law_1156 (by decide) ?_
      refine J_widen (k := cs + 8) (n := ss + 80) (by omega) (by omega) ?_
      refine J_sub (l' := [some ((23, .ref (SB + 400)) : TV), some ((7, .ref x1) : TV), some ((8, .ref x2) : TV), some ((12, .ref x3) : TV), some ((0, .int x4) : TV), none, none, none, none]) ⟨rfl, ⟨rfl, ⟨rfl, ⟨rfl, ⟨rfl, trivial⟩⟩⟩⟩⟩ ?_
      exact hk
    · refine J_aload_n (pc := 1144) hc dL_law_1144 rfl rfl ?_
      refine J_iconst (pc := 1145) (v := 0) hc dL_law_1145 (by decide) ?_
      refine J_lald (pc := 1146) hc dL_law_1146 (fun v4 => ?_)
      refine J_iload (pc := 1147) hc dL_law_1147 rfl ?_
      refine J_i2l (pc := 1149) hc dL_law_1149 ?_
      refine J_lcmp (pc := 1150) hc dL_law_1150 ?_
      refine J_if_eq (pc := 1151) (tgt := 1156) hc dL_law_1151 (by decide) ?_ ?_
      · refine J_goto (pc := 1156) (tgt := 2172) hc dL_law_1156 (by decide) ?_
        refine J_widen (k := cs + 8) (n := ss + 80) (by omega) (by omega) ?_
        refine J_sub (l' := [some ((23, .ref (SB + 400)) : TV), some ((7, .ref x1) : TV), some ((8, .ref x2) : TV), some ((12, .ref x3) : TV), some ((0, .int x4) : TV), none, none, none, none]) ⟨rfl, ⟨rfl, ⟨rfl, ⟨rfl, ⟨rfl, trivial⟩⟩⟩⟩⟩ ?_
        exact hk
      · refine J_iconst (pc := 1154) (v := 0) hc dL_law_1154 (by decide) ?_
        refine J_widen (k := 601024) (n := 7293034) (by omega) (by omega) ?_
        exact J_zret (pc := 1155) he dL_law_1155
  · refine J_iconst (pc := 1137) (v := 0) hc dL_law_1137 (by decide) ?_
    refine J_widen (k := 601024) (n := 7293034) (by omega) (by omega) ?_
    exact J_zret (pc := 1138) he dL_law_1138
set_option maxRecDepth 100000 in
set_option maxHeartbeats 8000000 in
theorem jL_c17 {κ : Cx} {fin : Int32 → Mm → Prop} {L : Nat} {xs : Nat → Int32} (hc : Jc κ RL cL_law 9 12 601024 7293034 452) (he : EdZ κ cL_law 601024 7293034 id fin) (hsx : JX κ L xs) (hN : NcK κ) {cs ss : Nat} (h1 : cs + 8 ≤ 601024) (h2 : ss + 80 ≤ 7293034) {k : Mm → Option (Int32 × Mm)} (x1 x2 x3 : Nat) (x4 : Int32) (hk : Jg κ (wM κ) 9 fin (cs + 8) (ss + 80) 2172 [some ((23, .ref (SB + 400)) : TV), some ((7, .ref x1) : TV), some ((8, .ref x2) : TV), some ((12, .ref x3) : TV), some ((0, .int x4) : TV), none, none, none, none] [] k) : Jg κ (wM κ) 9 fin cs ss 1159 [some ((23, .ref (SB + 400)) : TV), some ((7, .ref x1) : TV), some ((8, .ref x2) : TV), some ((12, .ref x3) : TV), some ((0, .int x4) : TV), none, none, none, none] [] (fL_c17 L xs k x1 x2 x3 x4) := by
  unfold fL_c17
  refine J_aload_n (pc := 1159) hc dL_law_1159 rfl rfl ?_
  refine J_aload_n (pc := 1160) hc dL_law_1160 rfl rfl ?_
  refine J_iload (pc := 1161) hc dL_law_1161 rfl ?_
  refine J_iconst (pc := 1163) (v := 1) hc dL_law_1163 (by decide) ?_
  refine J_iadd (pc := 1164) hc dL_law_1164 ?_
  refine J_sald (pc := 1165) hc hsx dL_law_1165 ?_
  refine J_aload_n (pc := 1166) hc dL_law_1166 rfl rfl ?_
  refine J_iload (pc := 1167) hc dL_law_1167 rfl ?_
  refine J_iconst (pc := 1169) (v := 2) hc dL_law_1169 (by decide) ?_
  refine J_iadd (pc := 1170) hc dL_law_1170 ?_
  refine J_sald (pc := 1171) hc hsx dL_law_1171 ?_
  refine J_aload_n (pc := 1172) hc dL_law_1172 rfl rfl ?_
  refine J_iload (pc := 1173) hc dL_law_1173 rfl ?_
  refine J_iconst (pc := 1175) (v := 3) hc dL_law_1175 (by decide) ?_
  refine J_iadd (pc := 1176) hc dL_law_1176 ?_
  refine J_sald (pc := 1177) hc hsx dL_law_1177 ?_
  refine J_aload_n (pc := 1178) hc dL_law_1178 rfl rfl ?_
  refine J_iload (pc := 1179) hc dL_law_1179 rfl ?_
  refine J_iconst (pc := 1181) (v := 4) hc dL_law_1181 (by decide) ?_
  refine J_iadd (pc := 1182) hc dL_law_1182 ?_
  refine J_sald (pc := 1183) hc hsx dL_law_1183 ?_
  refine J_aload_n (pc := 1184) hc dL_law_1184 rfl rfl ?_
  refine J_callSW (pc := 1185) hc hN (As := [((7, .ref x1) : TV), ((0, .int (xs ((x4 + 1)).toNatClampNeg)) : TV), ((0, .int (xs ((x4 + 2)).toNatClampNeg)) : TV), ((0, .int (xs ((x4 + 3)).toNatClampNeg)) : TV), ((0, .int (xs ((x4 + 4)).toNatClampNeg)) : TV), ((12, .ref x3) : TV)]) (KL_paint x1 (xs ((x4 + 1)).toNatClampNeg) (xs ((x4 + 2)).toNatClampNeg) (xs ((x4 + 3)).toNatClampNeg) (xs ((x4 + 4)).toNatClampNeg) x3) dL_law_1185 moL_paint tw997 tw998 tw0 tw999 rfl (Nat.le_of_ble_eq_true rfl) (Nat.le_of_ble_eq_true rfl) (by omega) (by omega) (Nat.le_of_ble_eq_true rfl) rfl (fun v1 => ?_)
  refine J_istore (pc := 1188) (l' := [some ((23, .ref (SB + 400)) : TV), some ((7, .ref x1) : TV), some ((8, .ref x2) : TV), some ((12, .ref x3) : TV), some ((0, .int x4) : TV), some ((0, .int v1) : TV), none, none, none]) hc dL_law_1188 (by decide) rfl rfl ?_
  refine J_aload_n (pc := 1190) hc dL_law_1190 rfl rfl ?_
  refine J_aload_n (pc := 1191) hc dL_law_1191 rfl rfl ?_
  refine J_iload (pc := 1192) hc dL_law_1192 rfl ?_
  refine J_iconst (pc := 1194) (v := 1) hc dL_law_1194 (by decide) ?_
  refine J_iadd (pc := 1195) hc dL_law_1195 ?_
  refine J_sald (pc := 1196) hc hsx dL_law_1196 ?_
  refine J_aload_n (pc := 1197) hc dL_law_1197 rfl rfl ?_
  refine J_iload (pc := 1198) hc dL_law_1198 rfl ?_
  refine J_iconst (pc := 1200) (v := 2) hc dL_law_1200 (by decide) ?_
  refine J_iadd (pc := 1201) hc dL_law_1201 ?_
  refine J_sald (pc := 1202) hc hsx dL_law_1202 ?_
  refine J_aload_n (pc := 1203) hc dL_law_1203 rfl rfl ?_
  refine J_iload (pc := 1204) hc dL_law_1204 rfl ?_
  refine J_iconst (pc := 1206) (v := 3) hc dL_law_1206 (by decide) ?_
  refine J_iadd (pc := 1207) hc dL_law_1207 ?_
  refine J_sald (pc := 1208) hc hsx dL_law_1208 ?_
  refine J_aload_n (pc := 1209) hc dL_law_1209 rfl rfl ?_
  refine J_iload (pc := 1210) hc dL_law_1210 rfl ?_
  refine J_iconst (pc := 1212) (v := 4) hc dL_law_1212 (by decide) ?_
  refine J_iadd (pc := 1213) hc dL_law_1213 ?_
  refine J_sald (pc := 1214) hc hsx dL_law_1214 ?_
  refine J_callVi (pc := 1215) hc clX8 (As := [((0, .int (xs ((x4 + 1)).toNatClampNeg)) : TV), ((0, .int (xs ((x4 + 2)).toNatClampNeg)) : TV), ((0, .int (xs ((x4 + 3)).toNatClampNeg)) : TV), ((0, .int (xs ((x4 + 4)).toNatClampNeg)) : TV)]) (KX8_paint x2 (xs ((x4 + 1)).toNatClampNeg) (xs ((x4 + 2)).toNatClampNeg) (xs ((x4 + 3)).toNatClampNeg) (xs ((x4 + 4)).toNatClampNeg)) dL_law_1215 moX8_paint rfl tw1492 tw1493 tw1494 tw9 tw1495 rfl (Nat.le_of_ble_eq_true rfl) (Nat.le_of_ble_eq_true rfl) (by omega) (by omega) (Nat.le_of_ble_eq_true rfl) rfl (fun v2 => ?_)
  refine J_istore (pc := 1218) (l' := [some ((23, .ref (SB + 400)) : TV), some ((7, .ref x1) : TV), some ((8, .ref x2) : TV), some ((12, .ref x3) : TV), some ((0, .int x4) : TV), some ((0, .int v1) : TV), some ((0, .int v2) : TV), none, none]) hc dL_law_1218 (by decide) rfl rfl ?_
  refine J_aload_n (pc := 1220) hc dL_law_1220 rfl rfl ?_
  refine J_callVi (pc := 1221) hc clX8 (As := []) (KX8_thrown x2) dL_law_1221 moX8_thrown rfl tw1290 tw1291 tw1292 tw9 tw1293 rfl (Nat.le_of_ble_eq_true rfl) (Nat.le_of_ble_eq_true rfl) (by omega) (by omega) (Nat.le_of_ble_eq_true rfl) rfl (fun v3 => ?_)
  refine J_iload (pc := 1224) hc dL_law_1224 rfl ?_
  refine J_icmp_eq (pc := 1226) (tgt := 1231) hc dL_law_1226 (by decide) ?_ ?_
  · refine J_iload (pc := 1231) hc dL_law_1231 rfl ?_
    refine J_if_ne (pc := 1233) (tgt := 1248) hc dL_law_1233 (by decide) ?_ ?_
    · refine J_goto (pc := 1248) (tgt := 2172) hc dL_law_1248 (by decide) ?_
      refine J_widen (k := cs + 8) (n := ss + 80) (by omega) (by omega) ?_
      refine J_sub (l' := [some ((23, .ref (SB + 400)) : TV), some ((7, .ref x1) : TV), some ((8, .ref x2) : TV), some ((12, .ref x3) : TV), some ((0, .int x4) : TV), none, none, none, none]) ⟨rfl, ⟨rfl, ⟨rfl, ⟨rfl, ⟨rfl, trivial⟩⟩⟩⟩⟩ ?_
      exact hk
    · refine J_aload_n (pc := 1236) hc dL_law_1236 rfl rfl ?_
      refine J_iconst (pc := 1237) (v := 0) hc dL_law_1237 (by decide) ?_
      refine J_lald (pc := 1238) hc dL_law_1238 (fun v4 => ?_)
      refine J_iload (pc := 1239) hc dL_law_1239 rfl ?_
      refine J_i2l (pc := 1241) hc dL_law_1241 ?_
      refine J_lcmp (pc := 1242) hc dL_law_1242 ?_
      refine J_if_eq (pc := 1243) (tgt := 1248) hc dL_law_1243 (by decide) ?_ ?_
      · refine J_goto (pc := 1248) (tgt := 2172) hc dL_law_1248 (by decide) ?_
        refine J_widen (k := cs + 8) (n := ss + 80) (by omega) (by omega) ?_
        refine J_sub (l' := [some ((23, .ref (SB + 400)) : TV), some ((7, .ref x1) : TV), some ((8, .ref x2) : TV), some ((12, .ref x3) : TV), some ((0, .int x4) : TV), none, none, none, none]) ⟨rfl, ⟨rfl, ⟨rfl, ⟨rfl, ⟨rfl, trivial⟩⟩⟩⟩⟩ ?_
        exact hk
      · refine J_iconst (pc := 1246) (v := 0) hc dL_law_1246 (by decide) ?_
        refine J_widen (k := 601024) (n := 7293034) (by omega) (by omega) ?_
        exact J_zret (pc := 1247) he dL_law_1247
  · refine J_iconst (pc := 1229) (v := 0) hc dL_law_1229 (by decide) ?_
    refine J_widen (k := 601024) (n := 7293034) (by omega) (by omega) ?_
    exact J_zret (pc := 1230) he dL_law_1230
set_option maxRecDepth 100000 in
set_option maxHeartbeats 8000000 in
theorem jL_c18 {κ : Cx} {fin : Int32 → Mm → Prop} {L : Nat} {xs : Nat → Int32} (hc : Jc κ RL cL_law 9 12 601024 7293034 452) (he : EdZ κ cL_law 601024 7293034 id fin) (hsx : JX κ L xs) (hN : NcK κ) {cs ss : Nat} (h1 : cs + 8 ≤ 601024) (h2 : ss + 80 ≤ 7293034) {k : Mm → Option (Int32 × Mm)} (x1 x2 x3 : Nat) (x4 : Int32) (hk : Jg κ (wM κ) 9 fin (cs + 8) (ss + 80) 2172 [some ((23, .ref (SB + 400)) : TV), some ((7, .ref x1) : TV), some ((8, .ref x2) : TV), some ((12, .ref x3) : TV), some ((0, .int x4) : TV), none, none, none, none] [] k) : Jg κ (wM κ) 9 fin cs ss 1251 [some ((23, .ref (SB + 400)) : TV), some ((7, .ref x1) : TV), some ((8, .ref x2) : TV), some ((12, .ref x3) : TV), some ((0, .int x4) : TV), none, none, none, none] [] (fL_c18 L xs k x1 x2 x3 x4) := by
  unfold fL_c18
  refine J_aload_n (pc := 1251) hc dL_law_1251 rfl rfl ?_
  refine J_aload_n (pc := 1252) hc dL_law_1252 rfl rfl ?_
  refine J_iload (pc := 1253) hc dL_law_1253 rfl ?_
  refine J_iconst (pc := 1255) (v := 1) hc dL_law_1255 (by decide) ?_
  refine J_iadd (pc := 1256) hc dL_law_1256 ?_
  refine J_sald (pc := 1257) hc hsx dL_law_1257 ?_
  refine J_aload_n (pc := 1258) hc dL_law_1258 rfl rfl ?_
  refine J_iload (pc := 1259) hc dL_law_1259 rfl ?_
  refine J_iconst (pc := 1261) (v := 2) hc dL_law_1261 (by decide) ?_
  refine J_iadd (pc := 1262) hc dL_law_1262 ?_
  refine J_sald (pc := 1263) hc hsx dL_law_1263 ?_
  refine J_aload_n (pc := 1264) hc dL_law_1264 rfl rfl ?_
  refine J_callSW (pc := 1265) hc hN (As := [((7, .ref x1) : TV), ((0, .int (xs ((x4 + 1)).toNatClampNeg)) : TV), ((0, .int (xs ((x4 + 2)).toNatClampNeg)) : TV), ((12, .ref x3) : TV)]) (KL_shift x1 (xs ((x4 + 1)).toNatClampNeg) (xs ((x4 + 2)).toNatClampNeg) x3) dL_law_1265 moL_shift tw1005 tw1006 tw0 tw1007 rfl (Nat.le_of_ble_eq_true rfl) (Nat.le_of_ble_eq_true rfl) (by omega) (by omega) (Nat.le_of_ble_eq_true rfl) rfl (fun v1 => ?_)
  refine J_istore (pc := 1268) (l' := [some ((23, .ref (SB + 400)) : TV), some ((7, .ref x1) : TV), some ((8, .ref x2) : TV), some ((12, .ref x3) : TV), some ((0, .int x4) : TV), some ((0, .int v1) : TV), none, none, none]) hc dL_law_1268 (by decide) rfl rfl ?_
  refine J_aload_n (pc := 1270) hc dL_law_1270 rfl rfl ?_
  refine J_aload_n (pc := 1271) hc dL_law_1271 rfl rfl ?_
  refine J_iload (pc := 1272) hc dL_law_1272 rfl ?_
  refine J_iconst (pc := 1274) (v := 1) hc dL_law_1274 (by decide) ?_
  refine J_iadd (pc := 1275) hc dL_law_1275 ?_
  refine J_sald (pc := 1276) hc hsx dL_law_1276 ?_
  refine J_aload_n (pc := 1277) hc dL_law_1277 rfl rfl ?_
  refine J_iload (pc := 1278) hc dL_law_1278 rfl ?_
  refine J_iconst (pc := 1280) (v := 2) hc dL_law_1280 (by decide) ?_
  refine J_iadd (pc := 1281) hc dL_law_1281 ?_
  refine J_sald (pc := 1282) hc hsx dL_law_1282 ?_
  refine J_callVi (pc := 1283) hc clX8 (As := [((0, .int (xs ((x4 + 1)).toNatClampNeg)) : TV), ((0, .int (xs ((x4 + 2)).toNatClampNeg)) : TV)]) (KX8_shift x2 (xs ((x4 + 1)).toNatClampNeg) (xs ((x4 + 2)).toNatClampNeg)) dL_law_1283 moX8_shift rfl tw1496 tw1497 tw1498 tw9 tw1499 rfl (Nat.le_of_ble_eq_true rfl) (Nat.le_of_ble_eq_true rfl) (by omega) (by omega) (Nat.le_of_ble_eq_true rfl) rfl (fun v2 => ?_)
  refine J_istore (pc := 1286) (l' := [some ((23, .ref (SB + 400)) : TV), some ((7, .ref x1) : TV), some ((8, .ref x2) : TV), some ((12, .ref x3) : TV), some ((0, .int x4) : TV), some ((0, .int v1) : TV), some ((0, .int v2) : TV), none, none]) hc dL_law_1286 (by decide) rfl rfl ?_
  refine J_aload_n (pc := 1288) hc dL_law_1288 rfl rfl ?_
  refine J_callVi (pc := 1289) hc clX8 (As := []) (KX8_thrown x2) dL_law_1289 moX8_thrown rfl tw1290 tw1291 tw1292 tw9 tw1293 rfl (Nat.le_of_ble_eq_true rfl) (Nat.le_of_ble_eq_true rfl) (by omega) (by omega) (Nat.le_of_ble_eq_true rfl) rfl (fun v3 => ?_)
  refine J_iload (pc := 1292) hc dL_law_1292 rfl ?_
  refine J_icmp_eq (pc := 1294) (tgt := 1299) hc dL_law_1294 (by decide) ?_ ?_
  · refine J_iload (pc := 1299) hc dL_law_1299 rfl ?_
    refine J_if_ne (pc := 1301) (tgt := 1316) hc dL_law_1301 (by decide) ?_ ?_
    · refine J_goto (pc := 1316) (tgt := 2172) hc dL_law_1316 (by decide) ?_
      refine J_widen (k := cs + 8) (n := ss + 80) (by omega) (by omega) ?_
      refine J_sub (l' := [some ((23, .ref (SB + 400)) : TV), some ((7, .ref x1) : TV), some ((8, .ref x2) : TV), some ((12, .ref x3) : TV), some ((0, .int x4) : TV), none, none, none, none]) ⟨rfl, ⟨rfl, ⟨rfl, ⟨rfl, ⟨rfl, trivial⟩⟩⟩⟩⟩ ?_
      exact hk
    · refine J_aload_n (pc := 1304) hc dL_law_1304 rfl rfl ?_
      refine J_iconst (pc := 1305) (v := 0) hc dL_law_1305 (by decide) ?_
      refine J_lald (pc := 1306) hc dL_law_1306 (fun v4 => ?_)
      refine J_iload (pc := 1307) hc dL_law_1307 rfl ?_
      refine J_i2l (pc := 1309) hc dL_law_1309 ?_
      refine J_lcmp (pc := 1310) hc dL_law_1310 ?_
      refine J_if_eq (pc := 1311) (tgt := 1316) hc dL_law_1311 (by decide) ?_ ?_
      · refine J_goto (pc := 1316) (tgt := 2172) hc dL_law_1316 (by decide) ?_
        refine J_widen (k := cs + 8) (n := ss + 80) (by omega) (by omega) ?_
        refine J_sub (l' := [some ((23, .ref (SB + 400)) : TV), some ((7, .ref x1) : TV), some ((8, .ref x2) : TV), some ((12, .ref x3) : TV), some ((0, .int x4) : TV), none, none, none, none]) ⟨rfl, ⟨rfl, ⟨rfl, ⟨rfl, ⟨rfl, trivial⟩⟩⟩⟩⟩ ?_
        exact hk
      · refine J_iconst (pc := 1314) (v := 0) hc dL_law_1314 (by decide) ?_
        refine J_widen (k := 601024) (n := 7293034) (by omega) (by omega) ?_
        exact J_zret (pc := 1315) he dL_law_1315
  · refine J_iconst (pc := 1297) (v := 0) hc dL_law_1297 (by decide) ?_
    refine J_widen (k := 601024) (n := 7293034) (by omega) (by omega) ?_
    exact J_zret (pc := 1298) he dL_law_1298
set_option maxRecDepth 100000 in
set_option maxHeartbeats 8000000 in
theorem jL_c19 {κ : Cx} {fin : Int32 → Mm → Prop} {L : Nat} {xs : Nat → Int32} (hc : Jc κ RL cL_law 9 12 601024 7293034 452) (he : EdZ κ cL_law 601024 7293034 id fin) (hsx : JX κ L xs) (hN : NcK κ) {cs ss : Nat} (h1 : cs + 8 ≤ 601024) (h2 : ss + 80 ≤ 7293034) {k : Mm → Option (Int32 × Mm)} (x1 x2 x3 : Nat) (x4 : Int32) (hk : Jg κ (wM κ) 9 fin (cs + 8) (ss + 80) 2172 [some ((23, .ref (SB + 400)) : TV), some ((7, .ref x1) : TV), some ((8, .ref x2) : TV), some ((12, .ref x3) : TV), some ((0, .int x4) : TV), none, none, none, none] [] k) : Jg κ (wM κ) 9 fin cs ss 1319 [some ((23, .ref (SB + 400)) : TV), some ((7, .ref x1) : TV), some ((8, .ref x2) : TV), some ((12, .ref x3) : TV), some ((0, .int x4) : TV), none, none, none, none] [] (fL_c19 L xs k x1 x2 x3 x4) := by
  unfold fL_c19
  refine J_aload_n (pc := 1319) hc dL_law_1319 rfl rfl ?_
  refine J_aload_n (pc := 1320) hc dL_law_1320 rfl rfl ?_
  refine J_iload (pc := 1321) hc dL_law_1321 rfl ?_
  refine J_iconst (pc := 1323) (v := 1) hc dL_law_1323 (by decide) ?_
  refine J_iadd (pc := 1324) hc dL_law_1324 ?_
  refine J_sald (pc := 1325) hc hsx dL_law_1325 ?_
  refine J_aload_n (pc := 1326) hc dL_law_1326 rfl rfl ?_
  refine J_iload (pc := 1327) hc dL_law_1327 rfl ?_
  refine J_iconst (pc := 1329) (v := 2) hc dL_law_1329 (by decide) ?_
  refine J_iadd (pc := 1330) hc dL_law_1330 ?_
  refine J_sald (pc := 1331) hc hsx dL_law_1331 ?_
  refine J_aload_n (pc := 1332) hc dL_law_1332 rfl rfl ?_
  refine J_callSW (pc := 1333) hc hN (As := [((7, .ref x1) : TV), ((0, .int (xs ((x4 + 1)).toNatClampNeg)) : TV), ((0, .int (xs ((x4 + 2)).toNatClampNeg)) : TV), ((12, .ref x3) : TV)]) (KL_copyLine x1 (xs ((x4 + 1)).toNatClampNeg) (xs ((x4 + 2)).toNatClampNeg) x3) dL_law_1333 moL_copyLine tw1013 tw1014 tw0 tw1015 rfl (Nat.le_of_ble_eq_true rfl) (Nat.le_of_ble_eq_true rfl) (by omega) (by omega) (Nat.le_of_ble_eq_true rfl) rfl (fun v1 => ?_)
  refine J_istore (pc := 1336) (l' := [some ((23, .ref (SB + 400)) : TV), some ((7, .ref x1) : TV), some ((8, .ref x2) : TV), some ((12, .ref x3) : TV), some ((0, .int x4) : TV), some ((0, .int v1) : TV), none, none, none]) hc dL_law_1336 (by decide) rfl rfl ?_
  refine J_aload_n (pc := 1338) hc dL_law_1338 rfl rfl ?_
  refine J_aload_n (pc := 1339) hc dL_law_1339 rfl rfl ?_
  refine J_iload (pc := 1340) hc dL_law_1340 rfl ?_
  refine J_iconst (pc := 1342) (v := 1) hc dL_law_1342 (by decide) ?_
  refine J_iadd (pc := 1343) hc dL_law_1343 ?_
  refine J_sald (pc := 1344) hc hsx dL_law_1344 ?_
  refine J_aload_n (pc := 1345) hc dL_law_1345 rfl rfl ?_
  refine J_iload (pc := 1346) hc dL_law_1346 rfl ?_
  refine J_iconst (pc := 1348) (v := 2) hc dL_law_1348 (by decide) ?_
  refine J_iadd (pc := 1349) hc dL_law_1349 ?_
  refine J_sald (pc := 1350) hc hsx dL_law_1350 ?_
  refine J_callVi (pc := 1351) hc clX8 (As := [((0, .int (xs ((x4 + 1)).toNatClampNeg)) : TV), ((0, .int (xs ((x4 + 2)).toNatClampNeg)) : TV)]) (KX8_copyLine x2 (xs ((x4 + 1)).toNatClampNeg) (xs ((x4 + 2)).toNatClampNeg)) dL_law_1351 moX8_copyLine rfl tw1500 tw1501 tw1502 tw9 tw1503 rfl (Nat.le_of_ble_eq_true rfl) (Nat.le_of_ble_eq_true rfl) (by omega) (by omega) (Nat.le_of_ble_eq_true rfl) rfl (fun v2 => ?_)
  refine J_istore (pc := 1354) (l' := [some ((23, .ref (SB + 400)) : TV), some ((7, .ref x1) : TV), some ((8, .ref x2) : TV), some ((12, .ref x3) : TV), some ((0, .int x4) : TV), some ((0, .int v1) : TV), some ((0, .int v2) : TV), none, none]) hc dL_law_1354 (by decide) rfl rfl ?_
  refine J_aload_n (pc := 1356) hc dL_law_1356 rfl rfl ?_
  refine J_callVi (pc := 1357) hc clX8 (As := []) (KX8_thrown x2) dL_law_1357 moX8_thrown rfl tw1290 tw1291 tw1292 tw9 tw1293 rfl (Nat.le_of_ble_eq_true rfl) (Nat.le_of_ble_eq_true rfl) (by omega) (by omega) (Nat.le_of_ble_eq_true rfl) rfl (fun v3 => ?_)
  refine J_iload (pc := 1360) hc dL_law_1360 rfl ?_
  refine J_icmp_eq (pc := 1362) (tgt := 1367) hc dL_law_1362 (by decide) ?_ ?_
  · refine J_iload (pc := 1367) hc dL_law_1367 rfl ?_
    refine J_if_ne (pc := 1369) (tgt := 1384) hc dL_law_1369 (by decide) ?_ ?_
    · refine J_goto (pc := 1384) (tgt := 2172) hc dL_law_1384 (by decide) ?_
      refine J_widen (k := cs + 8) (n := ss + 80) (by omega) (by omega) ?_
      refine J_sub (l' := [some ((23, .ref (SB + 400)) : TV), some ((7, .ref x1) : TV), some ((8, .ref x2) : TV), some ((12, .ref x3) : TV), some ((0, .int x4) : TV), none, none, none, none]) ⟨rfl, ⟨rfl, ⟨rfl, ⟨rfl, ⟨rfl, trivial⟩⟩⟩⟩⟩ ?_
      exact hk
    · refine J_aload_n (pc := 1372) hc dL_law_1372 rfl rfl ?_
      refine J_iconst (pc := 1373) (v := 0) hc dL_law_1373 (by decide) ?_
      refine J_lald (pc := 1374) hc dL_law_1374 (fun v4 => ?_)
      refine J_iload (pc := 1375) hc dL_law_1375 rfl ?_
      refine J_i2l (pc := 1377) hc dL_law_1377 ?_
      refine J_lcmp (pc := 1378) hc dL_law_1378 ?_
      refine J_if_eq (pc := 1379) (tgt := 1384) hc dL_law_1379 (by decide) ?_ ?_
      · refine J_goto (pc := 1384) (tgt := 2172) hc dL_law_1384 (by decide) ?_
        refine J_widen (k := cs + 8) (n := ss + 80) (by omega) (by omega) ?_
        refine J_sub (l' := [some ((23, .ref (SB + 400)) : TV), some ((7, .ref x1) : TV), some ((8, .ref x2) : TV), some ((12, .ref x3) : TV), some ((0, .int x4) : TV), none, none, none, none]) ⟨rfl, ⟨rfl, ⟨rfl, ⟨rfl, ⟨rfl, trivial⟩⟩⟩⟩⟩ ?_
        exact hk
      · refine J_iconst (pc := 1382) (v := 0) hc dL_law_1382 (by decide) ?_
        refine J_widen (k := 601024) (n := 7293034) (by omega) (by omega) ?_
        exact J_zret (pc := 1383) he dL_law_1383
  · refine J_iconst (pc := 1365) (v := 0) hc dL_law_1365 (by decide) ?_
    refine J_widen (k := 601024) (n := 7293034) (by omega) (by omega) ?_
    exact J_zret (pc := 1366) he dL_law_1366
set_option maxRecDepth 100000 in
set_option maxHeartbeats 8000000 in
theorem jL_c20 {κ : Cx} {fin : Int32 → Mm → Prop} {L : Nat} {xs : Nat → Int32} (hc : Jc κ RL cL_law 9 12 601024 7293034 452) (he : EdZ κ cL_law 601024 7293034 id fin) (hsx : JX κ L xs) (hN : NcK κ) {cs ss : Nat} (h1 : cs + 8 ≤ 601024) (h2 : ss + 80 ≤ 7293034) {k : Mm → Option (Int32 × Mm)} (x1 x2 x3 : Nat) (x4 : Int32) (hk : Jg κ (wM κ) 9 fin (cs + 8) (ss + 80) 2172 [some ((23, .ref (SB + 400)) : TV), some ((7, .ref x1) : TV), some ((8, .ref x2) : TV), some ((12, .ref x3) : TV), some ((0, .int x4) : TV), none, none, none, none] [] k) : Jg κ (wM κ) 9 fin cs ss 1387 [some ((23, .ref (SB + 400)) : TV), some ((7, .ref x1) : TV), some ((8, .ref x2) : TV), some ((12, .ref x3) : TV), some ((0, .int x4) : TV), none, none, none, none] [] (fL_c20 L xs k x1 x2 x3 x4) := by
  unfold fL_c20
  refine J_aload_n (pc := 1387) hc dL_law_1387 rfl rfl ?_
  refine J_aload_n (pc := 1388) hc dL_law_1388 rfl rfl ?_
  refine J_iload (pc := 1389) hc dL_law_1389 rfl ?_
  refine J_iconst (pc := 1391) (v := 1) hc dL_law_1391 (by decide) ?_
  refine J_iadd (pc := 1392) hc dL_law_1392 ?_
  refine J_sald (pc := 1393) hc hsx dL_law_1393 ?_
  refine J_aload_n (pc := 1394) hc dL_law_1394 rfl rfl ?_
  refine J_callSW (pc := 1395) hc hN (As := [((7, .ref x1) : TV), ((0, .int (xs ((x4 + 1)).toNatClampNeg)) : TV), ((12, .ref x3) : TV)]) (KL_removeLine x1 (xs ((x4 + 1)).toNatClampNeg) x3) dL_law_1395 moL_removeLine tw1021 tw1022 tw0 tw1023 rfl (Nat.le_of_ble_eq_true rfl) (Nat.le_of_ble_eq_true rfl) (by omega) (by omega) (Nat.le_of_ble_eq_true rfl) rfl (fun v1 => ?_)
  refine J_istore (pc := 1398) (l' := [some ((23, .ref (SB + 400)) : TV), some ((7, .ref x1) : TV), some ((8, .ref x2) : TV), some ((12, .ref x3) : TV), some ((0, .int x4) : TV), some ((0, .int v1) : TV), none, none, none]) hc dL_law_1398 (by decide) rfl rfl ?_
  refine J_aload_n (pc := 1400) hc dL_law_1400 rfl rfl ?_
  refine J_aload_n (pc := 1401) hc dL_law_1401 rfl rfl ?_
  refine J_iload (pc := 1402) hc dL_law_1402 rfl ?_
  refine J_iconst (pc := 1404) (v := 1) hc dL_law_1404 (by decide) ?_
  refine J_iadd (pc := 1405) hc dL_law_1405 ?_
  refine J_sald (pc := 1406) hc hsx dL_law_1406 ?_
  refine J_callVi (pc := 1407) hc clX8 (As := [((0, .int (xs ((x4 + 1)).toNatClampNeg)) : TV)]) (KX8_removeLine x2 (xs ((x4 + 1)).toNatClampNeg)) dL_law_1407 moX8_removeLine rfl tw1508 tw1509 tw1510 tw9 tw1511 rfl (Nat.le_of_ble_eq_true rfl) (Nat.le_of_ble_eq_true rfl) (by omega) (by omega) (Nat.le_of_ble_eq_true rfl) rfl (fun v2 => ?_)
  refine J_istore (pc := 1410) (l' := [some ((23, .ref (SB + 400)) : TV), some ((7, .ref x1) : TV), some ((8, .ref x2) : TV), some ((12, .ref x3) : TV), some ((0, .int x4) : TV), some ((0, .int v1) : TV), some ((0, .int v2) : TV), none, none]) hc dL_law_1410 (by decide) rfl rfl ?_
  refine J_aload_n (pc := 1412) hc dL_law_1412 rfl rfl ?_
  refine J_callVi (pc := 1413) hc clX8 (As := []) (KX8_thrown x2) dL_law_1413 moX8_thrown rfl tw1290 tw1291 tw1292 tw9 tw1293 rfl (Nat.le_of_ble_eq_true rfl) (Nat.le_of_ble_eq_true rfl) (by omega) (by omega) (Nat.le_of_ble_eq_true rfl) rfl (fun v3 => ?_)
  refine J_iload (pc := 1416) hc dL_law_1416 rfl ?_
  refine J_icmp_eq (pc := 1418) (tgt := 1423) hc dL_law_1418 (by decide) ?_ ?_
  · refine J_iload (pc := 1423) hc dL_law_1423 rfl ?_
    refine J_if_ne (pc := 1425) (tgt := 1440) hc dL_law_1425 (by decide) ?_ ?_
    · refine J_goto (pc := 1440) (tgt := 2172) hc dL_law_1440 (by decide) ?_
      refine J_widen (k := cs + 8) (n := ss + 80) (by omega) (by omega) ?_
      refine J_sub (l' := [some ((23, .ref (SB + 400)) : TV), some ((7, .ref x1) : TV), some ((8, .ref x2) : TV), some ((12, .ref x3) : TV), some ((0, .int x4) : TV), none, none, none, none]) ⟨rfl, ⟨rfl, ⟨rfl, ⟨rfl, ⟨rfl, trivial⟩⟩⟩⟩⟩ ?_
      exact hk
    · refine J_aload_n (pc := 1428) hc dL_law_1428 rfl rfl ?_
      refine J_iconst (pc := 1429) (v := 0) hc dL_law_1429 (by decide) ?_
      refine J_lald (pc := 1430) hc dL_law_1430 (fun v4 => ?_)
      refine J_iload (pc := 1431) hc dL_law_1431 rfl ?_
      refine J_i2l (pc := 1433) hc dL_law_1433 ?_
      refine J_lcmp (pc := 1434) hc dL_law_1434 ?_
      refine J_if_eq (pc := 1435) (tgt := 1440) hc dL_law_1435 (by decide) ?_ ?_
      · refine J_goto (pc := 1440) (tgt := 2172) hc dL_law_1440 (by decide) ?_
        refine J_widen (k := cs + 8) (n := ss + 80) (by omega) (by omega) ?_
        refine J_sub (l' := [some ((23, .ref (SB + 400)) : TV), some ((7, .ref x1) : TV), some ((8, .ref x2) : TV), some ((12, .ref x3) : TV), some ((0, .int x4) : TV), none, none, none, none]) ⟨rfl, ⟨rfl, ⟨rfl, ⟨rfl, ⟨rfl, trivial⟩⟩⟩⟩⟩ ?_
        exact hk
      · refine J_iconst (pc := 1438) (v := 0) hc dL_law_1438 (by decide) ?_
        refine J_widen (k := 601024) (n := 7293034) (by omega) (by omega) ?_
        exact J_zret (pc := 1439) he dL_law_1439
  · refine J_iconst (pc := 1421) (v := 0) hc dL_law_1421 (by decide) ?_
    refine J_widen (k := 601024) (n := 7293034) (by omega) (by omega) ?_
    exact J_zret (pc := 1422) he dL_law_1422
set_option maxRecDepth 100000 in
set_option maxHeartbeats 8000000 in
theorem jL_c21 {κ : Cx} {fin : Int32 → Mm → Prop} {L : Nat} {xs : Nat → Int32} (hc : Jc κ RL cL_law 9 12 601024 7293034 452) (he : EdZ κ cL_law 601024 7293034 id fin) (hsx : JX κ L xs) (hN : NcK κ) {cs ss : Nat} (h1 : cs + 8 ≤ 601024) (h2 : ss + 80 ≤ 7293034) {k : Mm → Option (Int32 × Mm)} (x1 x2 x3 : Nat) (x4 : Int32) (hk : Jg κ (wM κ) 9 fin (cs + 8) (ss + 80) 2172 [some ((23, .ref (SB + 400)) : TV), some ((7, .ref x1) : TV), some ((8, .ref x2) : TV), some ((12, .ref x3) : TV), some ((0, .int x4) : TV), none, none, none, none] [] k) : Jg κ (wM κ) 9 fin cs ss 1443 [some ((23, .ref (SB + 400)) : TV), some ((7, .ref x1) : TV), some ((8, .ref x2) : TV), some ((12, .ref x3) : TV), some ((0, .int x4) : TV), none, none, none, none] [] (fL_c21 L xs k x1 x2 x3 x4) := by
  unfold fL_c21
  refine J_aload_n (pc := 1443) hc dL_law_1443 rfl rfl ?_
  refine J_aload_n (pc := 1444) hc dL_law_1444 rfl rfl ?_
  refine J_iload (pc := 1445) hc dL_law_1445 rfl ?_
  refine J_iconst (pc := 1447) (v := 1) hc dL_law_1447 (by decide) ?_
  refine J_iadd (pc := 1448) hc dL_law_1448 ?_
  refine J_sald (pc := 1449) hc hsx dL_law_1449 ?_
  refine J_aload_n (pc := 1450) hc dL_law_1450 rfl rfl ?_
  refine J_callSW (pc := 1451) hc hN (As := [((7, .ref x1) : TV), ((0, .int (xs ((x4 + 1)).toNatClampNeg)) : TV), ((12, .ref x3) : TV)]) (KL_invert x1 (xs ((x4 + 1)).toNatClampNeg) x3) dL_law_1451 moL_invert tw1032 tw1033 tw0 tw1034 rfl (Nat.le_of_ble_eq_true rfl) (Nat.le_of_ble_eq_true rfl) (by omega) (by omega) (Nat.le_of_ble_eq_true rfl) rfl (fun v1 => ?_)
  refine J_istore (pc := 1454) (l' := [some ((23, .ref (SB + 400)) : TV), some ((7, .ref x1) : TV), some ((8, .ref x2) : TV), some ((12, .ref x3) : TV), some ((0, .int x4) : TV), some ((0, .int v1) : TV), none, none, none]) hc dL_law_1454 (by decide) rfl rfl ?_
  refine J_aload_n (pc := 1456) hc dL_law_1456 rfl rfl ?_
  refine J_aload_n (pc := 1457) hc dL_law_1457 rfl rfl ?_
  refine J_iload (pc := 1458) hc dL_law_1458 rfl ?_
  refine J_iconst (pc := 1460) (v := 1) hc dL_law_1460 (by decide) ?_
  refine J_iadd (pc := 1461) hc dL_law_1461 ?_
  refine J_sald (pc := 1462) hc hsx dL_law_1462 ?_
  refine J_callVi (pc := 1463) hc clX8 (As := [((0, .int (xs ((x4 + 1)).toNatClampNeg)) : TV)]) (KX8_invert x2 (xs ((x4 + 1)).toNatClampNeg)) dL_law_1463 moX8_invert rfl tw1512 tw1513 tw1514 tw9 tw1515 rfl (Nat.le_of_ble_eq_true rfl) (Nat.le_of_ble_eq_true rfl) (by omega) (by omega) (Nat.le_of_ble_eq_true rfl) rfl (fun v2 => ?_)
  refine J_istore (pc := 1466) (l' := [some ((23, .ref (SB + 400)) : TV), some ((7, .ref x1) : TV), some ((8, .ref x2) : TV), some ((12, .ref x3) : TV), some ((0, .int x4) : TV), some ((0, .int v1) : TV), some ((0, .int v2) : TV), none, none]) hc dL_law_1466 (by decide) rfl rfl ?_
  refine J_aload_n (pc := 1468) hc dL_law_1468 rfl rfl ?_
  refine J_callVi (pc := 1469) hc clX8 (As := []) (KX8_thrown x2) dL_law_1469 moX8_thrown rfl tw1290 tw1291 tw1292 tw9 tw1293 rfl (Nat.le_of_ble_eq_true rfl) (Nat.le_of_ble_eq_true rfl) (by omega) (by omega) (Nat.le_of_ble_eq_true rfl) rfl (fun v3 => ?_)
  refine J_iload (pc := 1472) hc dL_law_1472 rfl ?_
  refine J_icmp_eq (pc := 1474) (tgt := 1479) hc dL_law_1474 (by decide) ?_ ?_
  · refine J_iload (pc := 1479) hc dL_law_1479 rfl ?_
    refine J_if_ne (pc := 1481) (tgt := 1496) hc dL_law_1481 (by decide) ?_ ?_
    · refine J_goto (pc := 1496) (tgt := 2172) hc dL_law_1496 (by decide) ?_
      refine J_widen (k := cs + 8) (n := ss + 80) (by omega) (by omega) ?_
      refine J_sub (l' := [some ((23, .ref (SB + 400)) : TV), some ((7, .ref x1) : TV), some ((8, .ref x2) : TV), some ((12, .ref x3) : TV), some ((0, .int x4) : TV), none, none, none, none]) ⟨rfl, ⟨rfl, ⟨rfl, ⟨rfl, ⟨rfl, trivial⟩⟩⟩⟩⟩ ?_
      exact hk
    · refine J_aload_n (pc := 1484) hc dL_law_1484 rfl rfl ?_
      refine J_iconst (pc := 1485) (v := 0) hc dL_law_1485 (by decide) ?_
      refine J_lald (pc := 1486) hc dL_law_1486 (fun v4 => ?_)
      refine J_iload (pc := 1487) hc dL_law_1487 rfl ?_
      refine J_i2l (pc := 1489) hc dL_law_1489 ?_
      refine J_lcmp (pc := 1490) hc dL_law_1490 ?_
      refine J_if_eq (pc := 1491) (tgt := 1496) hc dL_law_1491 (by decide) ?_ ?_
      · refine J_goto (pc := 1496) (tgt := 2172) hc dL_law_1496 (by decide) ?_
        refine J_widen (k := cs + 8) (n := ss + 80) (by omega) (by omega) ?_
        refine J_sub (l' := [some ((23, .ref (SB + 400)) : TV), some ((7, .ref x1) : TV), some ((8, .ref x2) : TV), some ((12, .ref x3) : TV), some ((0, .int x4) : TV), none, none, none, none]) ⟨rfl, ⟨rfl, ⟨rfl, ⟨rfl, ⟨rfl, trivial⟩⟩⟩⟩⟩ ?_
        exact hk
      · refine J_iconst (pc := 1494) (v := 0) hc dL_law_1494 (by decide) ?_
        refine J_widen (k := 601024) (n := 7293034) (by omega) (by omega) ?_
        exact J_zret (pc := 1495) he dL_law_1495
  · refine J_iconst (pc := 1477) (v := 0) hc dL_law_1477 (by decide) ?_
    refine J_widen (k := 601024) (n := 7293034) (by omega) (by omega) ?_
    exact J_zret (pc := 1478) he dL_law_1478
set_option maxRecDepth 100000 in
set_option maxHeartbeats 8000000 in
theorem jL_c22 {κ : Cx} {fin : Int32 → Mm → Prop} {L : Nat} {xs : Nat → Int32} (hc : Jc κ RL cL_law 9 12 601024 7293034 452) (he : EdZ κ cL_law 601024 7293034 id fin) (hsx : JX κ L xs) (hN : NcK κ) {cs ss : Nat} (h1 : cs + 8 ≤ 601024) (h2 : ss + 80 ≤ 7293034) {k : Mm → Option (Int32 × Mm)} (x1 x2 x3 : Nat) (x4 : Int32) (hk : Jg κ (wM κ) 9 fin (cs + 8) (ss + 80) 2172 [some ((23, .ref (SB + 400)) : TV), some ((7, .ref x1) : TV), some ((8, .ref x2) : TV), some ((12, .ref x3) : TV), some ((0, .int x4) : TV), none, none, none, none] [] k) : Jg κ (wM κ) 9 fin cs ss 1499 [some ((23, .ref (SB + 400)) : TV), some ((7, .ref x1) : TV), some ((8, .ref x2) : TV), some ((12, .ref x3) : TV), some ((0, .int x4) : TV), none, none, none, none] [] (fL_c22 L xs k x1 x2 x3 x4) := by
  unfold fL_c22
  refine J_aload_n (pc := 1499) hc dL_law_1499 rfl rfl ?_
  refine J_aload_n (pc := 1500) hc dL_law_1500 rfl rfl ?_
  refine J_iload (pc := 1501) hc dL_law_1501 rfl ?_
  refine J_iconst (pc := 1503) (v := 1) hc dL_law_1503 (by decide) ?_
  refine J_iadd (pc := 1504) hc dL_law_1504 ?_
  refine J_sald (pc := 1505) hc hsx dL_law_1505 ?_
  refine J_aload_n (pc := 1506) hc dL_law_1506 rfl rfl ?_
  refine J_iload (pc := 1507) hc dL_law_1507 rfl ?_
  refine J_iconst (pc := 1509) (v := 2) hc dL_law_1509 (by decide) ?_
  refine J_iadd (pc := 1510) hc dL_law_1510 ?_
  refine J_sald (pc := 1511) hc hsx dL_law_1511 ?_
  refine J_aload_n (pc := 1512) hc dL_law_1512 rfl rfl ?_
  refine J_callSW (pc := 1513) hc hN (As := [((7, .ref x1) : TV), ((0, .int (xs ((x4 + 1)).toNatClampNeg)) : TV), ((0, .int (xs ((x4 + 2)).toNatClampNeg)) : TV), ((12, .ref x3) : TV)]) (KL_swap x1 (xs ((x4 + 1)).toNatClampNeg) (xs ((x4 + 2)).toNatClampNeg) x3) dL_law_1513 moL_swap tw1039 tw1040 tw0 tw1041 rfl (Nat.le_of_ble_eq_true rfl) (Nat.le_of_ble_eq_true rfl) (by omega) (by omega) (Nat.le_of_ble_eq_true rfl) rfl (fun v1 => ?_)
  refine J_istore (pc := 1516) (l' := [some ((23, .ref (SB + 400)) : TV), some ((7, .ref x1) : TV), some ((8, .ref x2) : TV), some ((12, .ref x3) : TV), some ((0, .int x4) : TV), some ((0, .int v1) : TV), none, none, none]) hc dL_law_1516 (by decide) rfl rfl ?_
  refine J_aload_n (pc := 1518) hc dL_law_1518 rfl rfl ?_
  refine J_aload_n (pc := 1519) hc dL_law_1519 rfl rfl ?_
  refine J_iload (pc := 1520) hc dL_law_1520 rfl ?_
  refine J_iconst (pc := 1522) (v := 1) hc dL_law_1522 (by decide) ?_
  refine J_iadd (pc := 1523) hc dL_law_1523 ?_
  refine J_sald (pc := 1524) hc hsx dL_law_1524 ?_
  refine J_aload_n (pc := 1525) hc dL_law_1525 rfl rfl ?_
  refine J_iload (pc := 1526) hc dL_law_1526 rfl ?_
  refine J_iconst (pc := 1528) (v := 2) hc dL_law_1528 (by decide) ?_
  refine J_iadd (pc := 1529) hc dL_law_1529 ?_
  refine J_sald (pc := 1530) hc hsx dL_law_1530 ?_
  refine J_callVi (pc := 1531) hc clX8 (As := [((0, .int (xs ((x4 + 1)).toNatClampNeg)) : TV), ((0, .int (xs ((x4 + 2)).toNatClampNeg)) : TV)]) (KX8_swap x2 (xs ((x4 + 1)).toNatClampNeg) (xs ((x4 + 2)).toNatClampNeg)) dL_law_1531 moX8_swap rfl tw1516 tw1517 tw1518 tw9 tw1519 rfl (Nat.le_of_ble_eq_true rfl) (Nat.le_of_ble_eq_true rfl) (by omega) (by omega) (Nat.le_of_ble_eq_true rfl) rfl (fun v2 => ?_)
  refine J_istore (pc := 1534) (l' := [some ((23, .ref (SB + 400)) : TV), some ((7, .ref x1) : TV), some ((8, .ref x2) : TV), some ((12, .ref x3) : TV), some ((0, .int x4) : TV), some ((0, .int v1) : TV), some ((0, .int v2) : TV), none, none]) hc dL_law_1534 (by decide) rfl rfl ?_
  refine J_aload_n (pc := 1536) hc dL_law_1536 rfl rfl ?_
  refine J_callVi (pc := 1537) hc clX8 (As := []) (KX8_thrown x2) dL_law_1537 moX8_thrown rfl tw1290 tw1291 tw1292 tw9 tw1293 rfl (Nat.le_of_ble_eq_true rfl) (Nat.le_of_ble_eq_true rfl) (by omega) (by omega) (Nat.le_of_ble_eq_true rfl) rfl (fun v3 => ?_)
  refine J_iload (pc := 1540) hc dL_law_1540 rfl ?_
  refine J_icmp_eq (pc := 1542) (tgt := 1547) hc dL_law_1542 (by decide) ?_ ?_
  · refine J_iload (pc := 1547) hc dL_law_1547 rfl ?_
    refine J_if_ne (pc := 1549) (tgt := 1564) hc dL_law_1549 (by decide) ?_ ?_
    · refine J_goto (pc := 1564) (tgt := 2172) hc dL_law_1564 (by decide) ?_
      refine J_widen (k := cs + 8) (n := ss + 80) (by omega) (by omega) ?_
      refine J_sub (l' := [some ((23, .ref (SB + 400)) : TV), some ((7, .ref x1) : TV), some ((8, .ref x2) : TV), some ((12, .ref x3) : TV), some ((0, .int x4) : TV), none, none, none, none]) ⟨rfl, ⟨rfl, ⟨rfl, ⟨rfl, ⟨rfl, trivial⟩⟩⟩⟩⟩ ?_
      exact hk
    · refine J_aload_n (pc := 1552) hc dL_law_1552 rfl rfl ?_
      refine J_iconst (pc := 1553) (v := 0) hc dL_law_1553 (by decide) ?_
      refine J_lald (pc := 1554) hc dL_law_1554 (fun v4 => ?_)
      refine J_iload (pc := 1555) hc dL_law_1555 rfl ?_
      refine J_i2l (pc := 1557) hc dL_law_1557 ?_
      refine J_lcmp (pc := 1558) hc dL_law_1558 ?_
      refine J_if_eq (pc := 1559) (tgt := 1564) hc dL_law_1559 (by decide) ?_ ?_
      · refine J_goto (pc := 1564) (tgt := 2172) hc dL_law_1564 (by decide) ?_
        refine J_widen (k := cs + 8) (n := ss + 80) (by omega) (by omega) ?_
        refine J_sub (l' := [some ((23, .ref (SB + 400)) : TV), some ((7, .ref x1) : TV), some ((8, .ref x2) : TV), some ((12, .ref x3) : TV), some ((0, .int x4) : TV), none, none, none, none]) ⟨rfl, ⟨rfl, ⟨rfl, ⟨rfl, ⟨rfl, trivial⟩⟩⟩⟩⟩ ?_
        exact hk
      · refine J_iconst (pc := 1562) (v := 0) hc dL_law_1562 (by decide) ?_
        refine J_widen (k := 601024) (n := 7293034) (by omega) (by omega) ?_
        exact J_zret (pc := 1563) he dL_law_1563
  · refine J_iconst (pc := 1545) (v := 0) hc dL_law_1545 (by decide) ?_
    refine J_widen (k := 601024) (n := 7293034) (by omega) (by omega) ?_
    exact J_zret (pc := 1546) he dL_law_1546
set_option maxRecDepth 100000 in
set_option maxHeartbeats 8000000 in
theorem jL_c23 {κ : Cx} {fin : Int32 → Mm → Prop} {L : Nat} {xs : Nat → Int32} (hc : Jc κ RL cL_law 9 12 601024 7293034 452) (he : EdZ κ cL_law 601024 7293034 id fin) (hsx : JX κ L xs) (hN : NcK κ) {cs ss : Nat} (h1 : cs + 8 ≤ 601024) (h2 : ss + 80 ≤ 7293034) {k : Mm → Option (Int32 × Mm)} (x1 x2 x3 : Nat) (x4 : Int32) (hk : Jg κ (wM κ) 9 fin (cs + 8) (ss + 80) 2172 [some ((23, .ref (SB + 400)) : TV), some ((7, .ref x1) : TV), some ((8, .ref x2) : TV), some ((12, .ref x3) : TV), some ((0, .int x4) : TV), none, none, none, none] [] k) : Jg κ (wM κ) 9 fin cs ss 1567 [some ((23, .ref (SB + 400)) : TV), some ((7, .ref x1) : TV), some ((8, .ref x2) : TV), some ((12, .ref x3) : TV), some ((0, .int x4) : TV), none, none, none, none] [] (fL_c23 L xs k x1 x2 x3 x4) := by
  unfold fL_c23
  refine J_aload_n (pc := 1567) hc dL_law_1567 rfl rfl ?_
  refine J_aload_n (pc := 1568) hc dL_law_1568 rfl rfl ?_
  refine J_iload (pc := 1569) hc dL_law_1569 rfl ?_
  refine J_iconst (pc := 1571) (v := 1) hc dL_law_1571 (by decide) ?_
  refine J_iadd (pc := 1572) hc dL_law_1572 ?_
  refine J_sald (pc := 1573) hc hsx dL_law_1573 ?_
  refine J_aload_n (pc := 1574) hc dL_law_1574 rfl rfl ?_
  refine J_callSW (pc := 1575) hc hN (As := [((7, .ref x1) : TV), ((0, .int (xs ((x4 + 1)).toNatClampNeg)) : TV), ((12, .ref x3) : TV)]) (KL_sent x1 (xs ((x4 + 1)).toNatClampNeg) x3) dL_law_1575 moL_sent tw1046 tw1047 tw0 tw1048 rfl (Nat.le_of_ble_eq_true rfl) (Nat.le_of_ble_eq_true rfl) (by omega) (by omega) (Nat.le_of_ble_eq_true rfl) rfl (fun v1 => ?_)
  refine J_istore (pc := 1578) (l' := [some ((23, .ref (SB + 400)) : TV), some ((7, .ref x1) : TV), some ((8, .ref x2) : TV), some ((12, .ref x3) : TV), some ((0, .int x4) : TV), some ((0, .int v1) : TV), none, none, none]) hc dL_law_1578 (by decide) rfl rfl ?_
  refine J_aload_n (pc := 1580) hc dL_law_1580 rfl rfl ?_
  refine J_aload_n (pc := 1581) hc dL_law_1581 rfl rfl ?_
  refine J_iload (pc := 1582) hc dL_law_1582 rfl ?_
  refine J_iconst (pc := 1584) (v := 1) hc dL_law_1584 (by decide) ?_
  refine J_iadd (pc := 1585) hc dL_law_1585 ?_
  refine J_sald (pc := 1586) hc hsx dL_law_1586 ?_
  refine J_callVi (pc := 1587) hc clX8 (As := [((0, .int (xs ((x4 + 1)).toNatClampNeg)) : TV)]) (KX8_sent x2 (xs ((x4 + 1)).toNatClampNeg)) dL_law_1587 moX8_sent rfl tw1520 tw1521 tw1522 tw9 tw1523 rfl (Nat.le_of_ble_eq_true rfl) (Nat.le_of_ble_eq_true rfl) (by omega) (by omega) (Nat.le_of_ble_eq_true rfl) rfl (fun v2 => ?_)
  refine J_istore (pc := 1590) (l' := [some ((23, .ref (SB + 400)) : TV), some ((7, .ref x1) : TV), some ((8, .ref x2) : TV), some ((12, .ref x3) : TV), some ((0, .int x4) : TV), some ((0, .int v1) : TV), some ((0, .int v2) : TV), none, none]) hc dL_law_1590 (by decide) rfl rfl ?_
  refine J_aload_n (pc := 1592) hc dL_law_1592 rfl rfl ?_
  refine J_callVi (pc := 1593) hc clX8 (As := []) (KX8_thrown x2) dL_law_1593 moX8_thrown rfl tw1290 tw1291 tw1292 tw9 tw1293 rfl (Nat.le_of_ble_eq_true rfl) (Nat.le_of_ble_eq_true rfl) (by omega) (by omega) (Nat.le_of_ble_eq_true rfl) rfl (fun v3 => ?_)
  refine J_iload (pc := 1596) hc dL_law_1596 rfl ?_
  refine J_icmp_eq (pc := 1598) (tgt := 1603) hc dL_law_1598 (by decide) ?_ ?_
  · refine J_iload (pc := 1603) hc dL_law_1603 rfl ?_
    refine J_if_ne (pc := 1605) (tgt := 1620) hc dL_law_1605 (by decide) ?_ ?_
    · refine J_goto (pc := 1620) (tgt := 2172) hc dL_law_1620 (by decide) ?_
      refine J_widen (k := cs + 8) (n := ss + 80) (by omega) (by omega) ?_
      refine J_sub (l' := [some ((23, .ref (SB + 400)) : TV), some ((7, .ref x1) : TV), some ((8, .ref x2) : TV), some ((12, .ref x3) : TV), some ((0, .int x4) : TV), none, none, none, none]) ⟨rfl, ⟨rfl, ⟨rfl, ⟨rfl, ⟨rfl, trivial⟩⟩⟩⟩⟩ ?_
      exact hk
    · refine J_aload_n (pc := 1608) hc dL_law_1608 rfl rfl ?_
      refine J_iconst (pc := 1609) (v := 0) hc dL_law_1609 (by decide) ?_
      refine J_lald (pc := 1610) hc dL_law_1610 (fun v4 => ?_)
      refine J_iload (pc := 1611) hc dL_law_1611 rfl ?_
      refine J_i2l (pc := 1613) hc dL_law_1613 ?_
      refine J_lcmp (pc := 1614) hc dL_law_1614 ?_
      refine J_if_eq (pc := 1615) (tgt := 1620) hc dL_law_1615 (by decide) ?_ ?_
      · refine J_goto (pc := 1620) (tgt := 2172) hc dL_law_1620 (by decide) ?_
        refine J_widen (k := cs + 8) (n := ss + 80) (by omega) (by omega) ?_
        refine J_sub (l' := [some ((23, .ref (SB + 400)) : TV), some ((7, .ref x1) : TV), some ((8, .ref x2) : TV), some ((12, .ref x3) : TV), some ((0, .int x4) : TV), none, none, none, none]) ⟨rfl, ⟨rfl, ⟨rfl, ⟨rfl, ⟨rfl, trivial⟩⟩⟩⟩⟩ ?_
        exact hk
      · refine J_iconst (pc := 1618) (v := 0) hc dL_law_1618 (by decide) ?_
        refine J_widen (k := 601024) (n := 7293034) (by omega) (by omega) ?_
        exact J_zret (pc := 1619) he dL_law_1619
  · refine J_iconst (pc := 1601) (v := 0) hc dL_law_1601 (by decide) ?_
    refine J_widen (k := 601024) (n := 7293034) (by omega) (by omega) ?_
    exact J_zret (pc := 1602) he dL_law_1602
set_option maxRecDepth 100000 in
set_option maxHeartbeats 8000000 in
theorem jL_c24 {κ : Cx} {fin : Int32 → Mm → Prop} {L : Nat} {xs : Nat → Int32} (hc : Jc κ RL cL_law 9 12 601024 7293034 452) (he : EdZ κ cL_law 601024 7293034 id fin) (hsx : JX κ L xs) (hN : NcK κ) {cs ss : Nat} (h1 : cs + 8 ≤ 601024) (h2 : ss + 80 ≤ 7293034) {k : Mm → Option (Int32 × Mm)} (x1 x2 x3 : Nat) (x4 : Int32) (hk : Jg κ (wM κ) 9 fin (cs + 8) (ss + 80) 2172 [some ((23, .ref (SB + 400)) : TV), some ((7, .ref x1) : TV), some ((8, .ref x2) : TV), some ((12, .ref x3) : TV), some ((0, .int x4) : TV), none, none, none, none] [] k) : Jg κ (wM κ) 9 fin cs ss 1623 [some ((23, .ref (SB + 400)) : TV), some ((7, .ref x1) : TV), some ((8, .ref x2) : TV), some ((12, .ref x3) : TV), some ((0, .int x4) : TV), none, none, none, none] [] (fL_c24 L xs k x1 x2 x3 x4) := by
  unfold fL_c24
  refine J_aload_n (pc := 1623) hc dL_law_1623 rfl rfl ?_
  refine J_aload_n (pc := 1624) hc dL_law_1624 rfl rfl ?_
  refine J_iload (pc := 1625) hc dL_law_1625 rfl ?_
  refine J_iconst (pc := 1627) (v := 1) hc dL_law_1627 (by decide) ?_
  refine J_iadd (pc := 1628) hc dL_law_1628 ?_
  refine J_sald (pc := 1629) hc hsx dL_law_1629 ?_
  refine J_aload_n (pc := 1630) hc dL_law_1630 rfl rfl ?_
  refine J_iload (pc := 1631) hc dL_law_1631 rfl ?_
  refine J_iconst (pc := 1633) (v := 2) hc dL_law_1633 (by decide) ?_
  refine J_iadd (pc := 1634) hc dL_law_1634 ?_
  refine J_sald (pc := 1635) hc hsx dL_law_1635 ?_
  refine J_aload_n (pc := 1636) hc dL_law_1636 rfl rfl ?_
  refine J_callSW (pc := 1637) hc hN (As := [((7, .ref x1) : TV), ((0, .int (xs ((x4 + 1)).toNatClampNeg)) : TV), ((0, .int (xs ((x4 + 2)).toNatClampNeg)) : TV), ((12, .ref x3) : TV)]) (KL_sentLine x1 (xs ((x4 + 1)).toNatClampNeg) (xs ((x4 + 2)).toNatClampNeg) x3) dL_law_1637 moL_sentLine tw1057 tw1058 tw0 tw1059 rfl (Nat.le_of_ble_eq_true rfl) (Nat.le_of_ble_eq_true rfl) (by omega) (by omega) (Nat.le_of_ble_eq_true rfl) rfl (fun v1 => ?_)
  refine J_istore (pc := 1640) (l' := [some ((23, .ref (SB + 400)) : TV), some ((7, .ref x1) : TV), some ((8, .ref x2) : TV), some ((12, .ref x3) : TV), some ((0, .int x4) : TV), some ((0, .int v1) : TV), none, none, none]) hc dL_law_1640 (by decide) rfl rfl ?_
  refine J_aload_n (pc := 1642) hc dL_law_1642 rfl rfl ?_
  refine J_aload_n (pc := 1643) hc dL_law_1643 rfl rfl ?_
  refine J_iload (pc := 1644) hc dL_law_1644 rfl ?_
  refine J_iconst (pc := 1646) (v := 1) hc dL_law_1646 (by decide) ?_
  refine J_iadd (pc := 1647) hc dL_law_1647 ?_
  refine J_sald (pc := 1648) hc hsx dL_law_1648 ?_
  refine J_aload_n (pc := 1649) hc dL_law_1649 rfl rfl ?_
  refine J_iload (pc := 1650) hc dL_law_1650 rfl ?_
  refine J_iconst (pc := 1652) (v := 2) hc dL_law_1652 (by decide) ?_
  refine J_iadd (pc := 1653) hc dL_law_1653 ?_
  refine J_sald (pc := 1654) hc hsx dL_law_1654 ?_
  refine J_callVi (pc := 1655) hc clX8 (As := [((0, .int (xs ((x4 + 1)).toNatClampNeg)) : TV), ((0, .int (xs ((x4 + 2)).toNatClampNeg)) : TV)]) (KX8_sentLine x2 (xs ((x4 + 1)).toNatClampNeg) (xs ((x4 + 2)).toNatClampNeg)) dL_law_1655 moX8_sentLine rfl tw1560 tw1561 tw1562 tw9 tw1563 rfl (Nat.le_of_ble_eq_true rfl) (Nat.le_of_ble_eq_true rfl) (by omega) (by omega) (Nat.le_of_ble_eq_true rfl) rfl (fun v2 => ?_)
  refine J_istore (pc := 1658) (l' := [some ((23, .ref (SB + 400)) : TV), some ((7, .ref x1) : TV), some ((8, .ref x2) : TV), some ((12, .ref x3) : TV), some ((0, .int x4) : TV), some ((0, .int v1) : TV), some ((0, .int v2) : TV), none, none]) hc dL_law_1658 (by decide) rfl rfl ?_
  refine J_aload_n (pc := 1660) hc dL_law_1660 rfl rfl ?_
  refine J_callVi (pc := 1661) hc clX8 (As := []) (KX8_thrown x2) dL_law_1661 moX8_thrown rfl tw1290 tw1291 tw1292 tw9 tw1293 rfl (Nat.le_of_ble_eq_true rfl) (Nat.le_of_ble_eq_true rfl) (by omega) (by omega) (Nat.le_of_ble_eq_true rfl) rfl (fun v3 => ?_)
  refine J_iload (pc := 1664) hc dL_law_1664 rfl ?_
  refine J_icmp_eq (pc := 1666) (tgt := 1671) hc dL_law_1666 (by decide) ?_ ?_
  · refine J_iload (pc := 1671) hc dL_law_1671 rfl ?_
    refine J_if_ne (pc := 1673) (tgt := 1688) hc dL_law_1673 (by decide) ?_ ?_
    · refine J_goto (pc := 1688) (tgt := 2172) hc dL_law_1688 (by decide) ?_
      refine J_widen (k := cs + 8) (n := ss + 80) (by omega) (by omega) ?_
      refine J_sub (l' := [some ((23, .ref (SB + 400)) : TV), some ((7, .ref x1) : TV), some ((8, .ref x2) : TV), some ((12, .ref x3) : TV), some ((0, .int x4) : TV), none, none, none, none]) ⟨rfl, ⟨rfl, ⟨rfl, ⟨rfl, ⟨rfl, trivial⟩⟩⟩⟩⟩ ?_
      exact hk
    · refine J_aload_n (pc := 1676) hc dL_law_1676 rfl rfl ?_
      refine J_iconst (pc := 1677) (v := 0) hc dL_law_1677 (by decide) ?_
      refine J_lald (pc := 1678) hc dL_law_1678 (fun v4 => ?_)
      refine J_iload (pc := 1679) hc dL_law_1679 rfl ?_
      refine J_i2l (pc := 1681) hc dL_law_1681 ?_
      refine J_lcmp (pc := 1682) hc dL_law_1682 ?_
      refine J_if_eq (pc := 1683) (tgt := 1688) hc dL_law_1683 (by decide) ?_ ?_
      · refine J_goto (pc := 1688) (tgt := 2172) hc dL_law_1688 (by decide) ?_
        refine J_widen (k := cs + 8) (n := ss + 80) (by omega) (by omega) ?_
        refine J_sub (l' := [some ((23, .ref (SB + 400)) : TV), some ((7, .ref x1) : TV), some ((8, .ref x2) : TV), some ((12, .ref x3) : TV), some ((0, .int x4) : TV), none, none, none, none]) ⟨rfl, ⟨rfl, ⟨rfl, ⟨rfl, ⟨rfl, trivial⟩⟩⟩⟩⟩ ?_
        exact hk
      · refine J_iconst (pc := 1686) (v := 0) hc dL_law_1686 (by decide) ?_
        refine J_widen (k := 601024) (n := 7293034) (by omega) (by omega) ?_
        exact J_zret (pc := 1687) he dL_law_1687
  · refine J_iconst (pc := 1669) (v := 0) hc dL_law_1669 (by decide) ?_
    refine J_widen (k := 601024) (n := 7293034) (by omega) (by omega) ?_
    exact J_zret (pc := 1670) he dL_law_1670
set_option maxRecDepth 100000 in
set_option maxHeartbeats 8000000 in
theorem jL_c25 {κ : Cx} {fin : Int32 → Mm → Prop} {L : Nat} {xs : Nat → Int32} (hc : Jc κ RL cL_law 9 12 601024 7293034 452) (he : EdZ κ cL_law 601024 7293034 id fin) (hsx : JX κ L xs) (hN : NcK κ) {cs ss : Nat} (h1 : cs + 8 ≤ 601024) (h2 : ss + 80 ≤ 7293034) {k : Mm → Option (Int32 × Mm)} (x1 x2 x3 : Nat) (x4 : Int32) (hk : Jg κ (wM κ) 9 fin (cs + 8) (ss + 80) 2172 [some ((23, .ref (SB + 400)) : TV), some ((7, .ref x1) : TV), some ((8, .ref x2) : TV), some ((12, .ref x3) : TV), some ((0, .int x4) : TV), none, none, none, none] [] k) : Jg κ (wM κ) 9 fin cs ss 1691 [some ((23, .ref (SB + 400)) : TV), some ((7, .ref x1) : TV), some ((8, .ref x2) : TV), some ((12, .ref x3) : TV), some ((0, .int x4) : TV), none, none, none, none] [] (fL_c25 L xs k x1 x2 x3 x4) := by
  unfold fL_c25
  refine J_aload_n (pc := 1691) hc dL_law_1691 rfl rfl ?_
  refine J_aload_n (pc := 1692) hc dL_law_1692 rfl rfl ?_
  refine J_iload (pc := 1693) hc dL_law_1693 rfl ?_
  refine J_iconst (pc := 1695) (v := 1) hc dL_law_1695 (by decide) ?_
  refine J_iadd (pc := 1696) hc dL_law_1696 ?_
  refine J_sald (pc := 1697) hc hsx dL_law_1697 ?_
  refine J_aload_n (pc := 1698) hc dL_law_1698 rfl rfl ?_
  refine J_iload (pc := 1699) hc dL_law_1699 rfl ?_
  refine J_iconst (pc := 1701) (v := 2) hc dL_law_1701 (by decide) ?_
  refine J_iadd (pc := 1702) hc dL_law_1702 ?_
  refine J_sald (pc := 1703) hc hsx dL_law_1703 ?_
  refine J_aload_n (pc := 1704) hc dL_law_1704 rfl rfl ?_
  refine J_callSW (pc := 1705) hc hN (As := [((7, .ref x1) : TV), ((0, .int (xs ((x4 + 1)).toNatClampNeg)) : TV), ((0, .int (xs ((x4 + 2)).toNatClampNeg)) : TV), ((12, .ref x3) : TV)]) (KL_received x1 (xs ((x4 + 1)).toNatClampNeg) (xs ((x4 + 2)).toNatClampNeg) x3) dL_law_1705 moL_received tw1065 tw1066 tw0 tw1067 rfl (Nat.le_of_ble_eq_true rfl) (Nat.le_of_ble_eq_true rfl) (by omega) (by omega) (Nat.le_of_ble_eq_true rfl) rfl (fun v1 => ?_)
  refine J_istore (pc := 1708) (l' := [some ((23, .ref (SB + 400)) : TV), some ((7, .ref x1) : TV), some ((8, .ref x2) : TV), some ((12, .ref x3) : TV), some ((0, .int x4) : TV), some ((0, .int v1) : TV), none, none, none]) hc dL_law_1708 (by decide) rfl rfl ?_
  refine J_aload_n (pc := 1710) hc dL_law_1710 rfl rfl ?_
  refine J_aload_n (pc := 1711) hc dL_law_1711 rfl rfl ?_
  refine J_iload (pc := 1712) hc dL_law_1712 rfl ?_
  refine J_iconst (pc := 1714) (v := 1) hc dL_law_1714 (by decide) ?_
  refine J_iadd (pc := 1715) hc dL_law_1715 ?_
  refine J_sald (pc := 1716) hc hsx dL_law_1716 ?_
  refine J_aload_n (pc := 1717) hc dL_law_1717 rfl rfl ?_
  refine J_iload (pc := 1718) hc dL_law_1718 rfl ?_
  refine J_iconst (pc := 1720) (v := 2) hc dL_law_1720 (by decide) ?_
  refine J_iadd (pc := 1721) hc dL_law_1721 ?_
  refine J_sald (pc := 1722) hc hsx dL_law_1722 ?_
  refine J_callVi (pc := 1723) hc clX8 (As := [((0, .int (xs ((x4 + 1)).toNatClampNeg)) : TV), ((0, .int (xs ((x4 + 2)).toNatClampNeg)) : TV)]) (KX8_received x2 (xs ((x4 + 1)).toNatClampNeg) (xs ((x4 + 2)).toNatClampNeg)) dL_law_1723 moX8_received rfl tw1564 tw1565 tw1566 tw9 tw1567 rfl (Nat.le_of_ble_eq_true rfl) (Nat.le_of_ble_eq_true rfl) (by omega) (by omega) (Nat.le_of_ble_eq_true rfl) rfl (fun v2 => ?_)
  refine J_istore (pc := 1726) (l' := [some ((23, .ref (SB + 400)) : TV), some ((7, .ref x1) : TV), some ((8, .ref x2) : TV), some ((12, .ref x3) : TV), some ((0, .int x4) : TV), some ((0, .int v1) : TV), some ((0, .int v2) : TV), none, none]) hc dL_law_1726 (by decide) rfl rfl ?_
  refine J_aload_n (pc := 1728) hc dL_law_1728 rfl rfl ?_
  refine J_callVi (pc := 1729) hc clX8 (As := []) (KX8_thrown x2) dL_law_1729 moX8_thrown rfl tw1290 tw1291 tw1292 tw9 tw1293 rfl (Nat.le_of_ble_eq_true rfl) (Nat.le_of_ble_eq_true rfl) (by omega) (by omega) (Nat.le_of_ble_eq_true rfl) rfl (fun v3 => ?_)
  refine J_iload (pc := 1732) hc dL_law_1732 rfl ?_
  refine J_icmp_eq (pc := 1734) (tgt := 1739) hc dL_law_1734 (by decide) ?_ ?_
  · refine J_iload (pc := 1739) hc dL_law_1739 rfl ?_
    refine J_if_ne (pc := 1741) (tgt := 1756) hc dL_law_1741 (by decide) ?_ ?_
    · refine J_goto (pc := 1756) (tgt := 2172) hc dL_law_1756 (by decide) ?_
      refine J_widen (k := cs + 8) (n := ss + 80) (by omega) (by omega) ?_
      refine J_sub (l' := [some ((23, .ref (SB + 400)) : TV), some ((7, .ref x1) : TV), some ((8, .ref x2) : TV), some ((12, .ref x3) : TV), some ((0, .int x4) : TV), none, none, none, none]) ⟨rfl, ⟨rfl, ⟨rfl, ⟨rfl, ⟨rfl, trivial⟩⟩⟩⟩⟩ ?_
      exact hk
    · refine J_aload_n (pc := 1744) hc dL_law_1744 rfl rfl ?_
      refine J_iconst (pc := 1745) (v := 0) hc dL_law_1745 (by decide) ?_
      refine J_lald (pc := 1746) hc dL_law_1746 (fun v4 => ?_)
      refine J_iload (pc := 1747) hc dL_law_1747 rfl ?_
      refine J_i2l (pc := 1749) hc dL_law_1749 ?_
      refine J_lcmp (pc := 1750) hc dL_law_1750 ?_
      refine J_if_eq (pc := 1751) (tgt := 1756) hc dL_law_1751 (by decide) ?_ ?_
      · refine J_goto (pc := 1756) (tgt := 2172) hc dL_law_1756 (by decide) ?_
        refine J_widen (k := cs + 8) (n := ss + 80) (by omega) (by omega) ?_
        refine J_sub (l' := [some ((23, .ref (SB + 400)) : TV), some ((7, .ref x1) : TV), some ((8, .ref x2) : TV), some ((12, .ref x3) : TV), some ((0, .int x4) : TV), none, none, none, none]) ⟨rfl, ⟨rfl, ⟨rfl, ⟨rfl, ⟨rfl, trivial⟩⟩⟩⟩⟩ ?_
        exact hk
      · refine J_iconst (pc := 1754) (v := 0) hc dL_law_1754 (by decide) ?_
        refine J_widen (k := 601024) (n := 7293034) (by omega) (by omega) ?_
        exact J_zret (pc := 1755) he dL_law_1755
  · refine J_iconst (pc := 1737) (v := 0) hc dL_law_1737 (by decide) ?_
    refine J_widen (k := 601024) (n := 7293034) (by omega) (by omega) ?_
    exact J_zret (pc := 1738) he dL_law_1738
