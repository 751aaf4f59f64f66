/-! THE LAW: its loop, its entry -/
set_option maxRecDepth 100000 in
set_option maxHeartbeats 8000000 in
theorem jL_L23 {κ : Cx} {fin : Int32 → Mm → Prop} {L : Nat} {xs : Nat → Int32} (hc : Jc κ RL cL_law 9 12 601024 7293034 452) (he : EdZ κ cL_law 601024 7293034 id fin) (hsx : JX κ L xs) (hN : NcK κ) : ∀ (n k : Nat) (_ : k + n ≤ 513) (x1 x2 x3 : Nat) (x4 : Int32), Jg κ (wM κ) 9 fin (62 + 8 * k) (16307 + 80 * k) 23 [some ((23, .ref (SB + 400)) : TV), some ((7, .ref x1) : TV), some ((8, .ref x2) : TV), some ((12, .ref x3) : TV), some ((0, .int x4) : TV), none, none, none, none] [] (fL_L23 L xs n x1 x2 x3 x4) := by
  intro n
  induction n with
  | zero => intro k h x1 x2 x3 x4; exact J_fail
  | succ n ih =>
    intro k h x1 x2 x3 x4
    unfold fL_L23
    refine J_iload (pc := 23) hc dL_law_23 rfl ?_
    refine J_aload_n (pc := 25) hc dL_law_25 rfl rfl ?_
    refine J_slen (pc := 26) hc hsx dL_law_26 ?_
    refine J_iconst (pc := 27) (v := 5) hc dL_law_27 (by decide) ?_
    refine J_isub (pc := 28) hc dL_law_28 ?_
    refine J_icmp_gt (pc := 29) (tgt := 2178) hc dL_law_29 (by decide) ?_ ?_
    · refine J_iconst (pc := 2178) (v := 1) hc dL_law_2178 (by decide) ?_
      refine J_widen (k := 601024) (n := 7293034) (by omega) (by omega) ?_
      exact J_zret (pc := 2179) he dL_law_2179
    refine J_aload_n (pc := 32) hc dL_law_32 rfl rfl ?_
    refine J_iload (pc := 33) hc dL_law_33 rfl ?_
    refine J_sald (pc := 35) hc hsx dL_law_35 ?_
    refine J_bipush (pc := 36) (v := 63) hc dL_law_36 (by decide) ?_
    refine J_iand (pc := 38) hc dL_law_38 ?_
    have hk : Jg κ (wM κ) 9 fin (62 + 8 * k + 8) (16307 + 80 * k + 80) 2172 [some ((23, .ref (SB + 400)) : TV), some ((7, .ref x1) : TV), some ((8, .ref x2) : TV), some ((12, .ref x3) : TV), some ((0, .int x4) : TV), none, none, none, none] [] (fL_L23 L xs n x1 x2 x3 (x4 + 5)) := by
      refine J_iinc (pc := 2172) (v := x4 + 5) (l' := [some ((23, .ref (SB + 400)) : TV), some ((7, .ref x1) : TV), some ((8, .ref x2) : TV), some ((12, .ref x3) : TV), some ((0, .int (x4 + 5)) : TV), none, none, none, none]) hc dL_law_2172 rfl rfl (by decide) rfl rfl ?_
      refine J_goto (pc := 2175) (tgt := 23) hc dL_law_2175 (by decide) ?_
      refine J_widen (k := 62 + 8 * (k + 1)) (n := 16307 + 80 * (k + 1)) (by omega) (by omega) ?_
      exact ih (k + 1) (by omega) x1 x2 x3 (x4 + 5)
    refine J_swc (pc := 39) (v := 0) (tgt := 204) hc dL_law_39 (by decide) (by decide) rfl (by decide) (by decide) ?_ (fun h39_0 => ?_)
    · exact jL_c0 hc he hsx hN (by omega) (by omega) x1 x2 x3 x4 hk
    refine J_swc (pc := 39) (v := 1) (tgt := 260) hc dL_law_39 (by decide) (by decide) rfl (by decide) (by decide) ?_ (fun h39_1 => ?_)
    · exact jL_c1 hc he hsx hN (by omega) (by omega) x1 x2 x3 x4 hk
    refine J_swc (pc := 39) (v := 2) (tgt := 316) hc dL_law_39 (by decide) (by decide) rfl (by decide) (by decide) ?_ (fun h39_2 => ?_)
    · exact jL_c2 hc he hsx hN (by omega) (by omega) x1 x2 x3 x4 hk
    refine J_swc (pc := 39) (v := 3) (tgt := 329) hc dL_law_39 (by decide) (by decide) rfl (by decide) (by decide) ?_ (fun h39_3 => ?_)
    · exact jL_c3 hc he hsx hN (by omega) (by omega) x1 x2 x3 x4 hk
    refine J_swc (pc := 39) (v := 4) (tgt := 342) hc dL_law_39 (by decide) (by decide) rfl (by decide) (by decide) ?_ (fun h39_4 => ?_)
    · exact jL_c4 hc he hsx hN (by omega) (by omega) x1 x2 x3 x4 hk
    refine J_swc (pc := 39) (v := 5) (tgt := 355) hc dL_law_39 (by decide) (by decide) rfl (by decide) (by decide) ?_ (fun h39_5 => ?_)
    · exact jL_c5 hc he hsx hN (by omega) (by omega) x1 x2 x3 x4 hk
    refine J_swc (pc := 39) (v := 6) (tgt := 411) hc dL_law_39 (by decide) (by decide) rfl (by decide) (by decide) ?_ (fun h39_6 => ?_)
    · exact jL_c6 hc he hsx hN (by omega) (by omega) x1 x2 x3 x4 hk
    refine J_swc (pc := 39) (v := 7) (tgt := 479) hc dL_law_39 (by decide) (by decide) rfl (by decide) (by decide) ?_ (fun h39_7 => ?_)
    · exact jL_c7 hc he hsx hN (by omega) (by omega) x1 x2 x3 x4 hk
    refine J_swc (pc := 39) (v := 8) (tgt := 547) hc dL_law_39 (by decide) (by decide) rfl (by decide) (by decide) ?_ (fun h39_8 => ?_)
    · exact jL_c8 hc he hsx hN (by omega) (by omega) x1 x2 x3 x4 hk
    refine J_swc (pc := 39) (v := 9) (tgt := 615) hc dL_law_39 (by decide) (by decide) rfl (by decide) (by decide) ?_ (fun h39_9 => ?_)
    · exact jL_c9 hc he hsx hN (by omega) (by omega) x1 x2 x3 x4 hk
    refine J_swc (pc := 39) (v := 10) (tgt := 695) hc dL_law_39 (by decide) (by decide) rfl (by decide) (by decide) ?_ (fun h39_10 => ?_)
    · exact jL_c10 hc he hsx hN (by omega) (by omega) x1 x2 x3 x4 hk
    refine J_swc (pc := 39) (v := 11) (tgt := 763) hc dL_law_39 (by decide) (by decide) rfl (by decide) (by decide) ?_ (fun h39_11 => ?_)
    · exact jL_c11 hc he hsx hN (by omega) (by omega) x1 x2 x3 x4 hk
    refine J_swc (pc := 39) (v := 12) (tgt := 819) hc dL_law_39 (by decide) (by decide) rfl (by decide) (by decide) ?_ (fun h39_12 => ?_)
    · exact jL_c12 hc he hsx hN (by omega) (by omega) x1 x2 x3 x4 hk
    refine J_swc (pc := 39) (v := 13) (tgt := 887) hc dL_law_39 (by decide) (by decide) rfl (by decide) (by decide) ?_ (fun h39_13 => ?_)
    · exact jL_c13 hc he hsx hN (by omega) (by omega) x1 x2 x3 x4 hk
    refine J_swc (pc := 39) (v := 14) (tgt := 955) hc dL_law_39 (by decide) (by decide) rfl (by decide) (by decide) ?_ (fun h39_14 => ?_)
    · exact jL_c14 hc he hsx hN (by omega) (by omega) x1 x2 x3 x4 hk
    refine J_swc (pc := 39) (v := 15) (tgt := 1023) hc dL_law_39 (by decide) (by decide) rfl (by decide) (by decide) ?_ (fun h39_15 => ?_)
    · exact jL_c15 hc he hsx hN (by omega) (by omega) x1 x2 x3 x4 hk
    refine J_swc (pc := 39) (v := 16) (tgt := 1091) hc dL_law_39 (by decide) (by decide) rfl (by decide) (by decide) ?_ (fun h39_16 => ?_)
    · exact jL_c16 hc he hsx hN (by omega) (by omega) x1 x2 x3 x4 hk
    refine J_swc (pc := 39) (v := 17) (tgt := 1159) hc dL_law_39 (by decide) (by decide) rfl (by decide) (by decide) ?_ (fun h39_17 => ?_)
    · exact jL_c17 hc he hsx hN (by omega) (by omega) x1 x2 x3 x4 hk
    refine J_swc (pc := 39) (v := 18) (tgt := 1251) hc dL_law_39 (by decide) (by decide) rfl (by decide) (by decide) ?_ (fun h39_18 => ?_)
    · exact jL_c18 hc he hsx hN (by omega) (by omega) x1 x2 x3 x4 hk
    refine J_swc (pc := 39) (v := 19) (tgt := 1319) hc dL_law_39 (by decide) (by decide) rfl (by decide) (by decide) ?_ (fun h39_19 => ?_)
    · exact jL_c19 hc he hsx hN (by omega) (by omega) x1 x2 x3 x4 hk
    refine J_swc (pc := 39) (v := 20) (tgt := 1387) hc dL_law_39 (by decide) (by decide) rfl (by decide) (by decide) ?_ (fun h39_20 => ?_)
    · exact jL_c20 hc he hsx hN (by omega) (by omega) x1 x2 x3 x4 hk
    refine J_swc (pc := 39) (v := 21) (tgt := 1443) hc dL_law_39 (by decide) (by decide) rfl (by decide) (by decide) ?_ (fun h39_21 => ?_)
    · exact jL_c21 hc he hsx hN (by omega) (by omega) x1 x2 x3 x4 hk
    refine J_swc (pc := 39) (v := 22) (tgt := 1499) hc dL_law_39 (by decide) (by decide) rfl (by decide) (by decide) ?_ (fun h39_22 => ?_)
    · exact jL_c22 hc he hsx hN (by omega) (by omega) x1 x2 x3 x4 hk
    refine J_swc (pc := 39) (v := 23) (tgt := 1567) hc dL_law_39 (by decide) (by decide) rfl (by decide) (by decide) ?_ (fun h39_23 => ?_)
    · exact jL_c23 hc he hsx hN (by omega) (by omega) x1 x2 x3 x4 hk
    refine J_swc (pc := 39) (v := 24) (tgt := 1623) hc dL_law_39 (by decide) (by decide) rfl (by decide) (by decide) ?_ (fun h39_24 => ?_)
    · exact jL_c24 hc he hsx hN (by omega) (by omega) x1 x2 x3 x4 hk
    refine J_swc (pc := 39) (v := 25) (tgt := 1691) hc dL_law_39 (by decide) (by decide) rfl (by decide) (by decide) ?_ (fun h39_25 => ?_)
    · exact jL_c25 hc he hsx hN (by omega) (by omega) x1 x2 x3 x4 hk
    refine J_swc (pc := 39) (v := 26) (tgt := 1759) hc dL_law_39 (by decide) (by decide) rfl (by decide) (by decide) ?_ (fun h39_26 => ?_)
    · exact jL_c26 hc he hsx hN (by omega) (by omega) x1 x2 x3 x4 hk
    refine J_swc (pc := 39) (v := 27) (tgt := 1827) hc dL_law_39 (by decide) (by decide) rfl (by decide) (by decide) ?_ (fun h39_27 => ?_)
    · exact jL_c27 hc he hsx hN (by omega) (by omega) x1 x2 x3 x4 hk
    refine J_swc (pc := 39) (v := 28) (tgt := 1840) hc dL_law_39 (by decide) (by decide) rfl (by decide) (by decide) ?_ (fun h39_28 => ?_)
    · exact jL_c28 hc he hsx hN (by omega) (by omega) x1 x2 x3 x4 hk
    refine J_swc (pc := 39) (v := 29) (tgt := 1853) hc dL_law_39 (by decide) (by decide) rfl (by decide) (by decide) ?_ (fun h39_29 => ?_)
    · exact jL_c29 hc he hsx hN (by omega) (by omega) x1 x2 x3 x4 hk
    refine J_swc (pc := 39) (v := 30) (tgt := 1866) hc dL_law_39 (by decide) (by decide) rfl (by decide) (by decide) ?_ (fun h39_30 => ?_)
    · exact jL_c30 hc he hsx hN (by omega) (by omega) x1 x2 x3 x4 hk
    refine J_swc (pc := 39) (v := 31) (tgt := 1907) hc dL_law_39 (by decide) (by decide) rfl (by decide) (by decide) ?_ (fun h39_31 => ?_)
    · exact jL_c31 hc he hsx hN (by omega) (by omega) x1 x2 x3 x4 hk
    refine J_swc (pc := 39) (v := 32) (tgt := 1950) hc dL_law_39 (by decide) (by decide) rfl (by decide) (by decide) ?_ (fun h39_32 => ?_)
    · exact jL_c32 hc he hsx hN (by omega) (by omega) x1 x2 x3 x4 hk
    refine J_swc (pc := 39) (v := 33) (tgt := 2006) hc dL_law_39 (by decide) (by decide) rfl (by decide) (by decide) ?_ (fun h39_33 => ?_)
    · exact jL_c33 hc he hsx hN (by omega) (by omega) x1 x2 x3 x4 hk
    refine J_swc (pc := 39) (v := 34) (tgt := 2062) hc dL_law_39 (by decide) (by decide) rfl (by decide) (by decide) ?_ (fun h39_34 => ?_)
    · exact jL_c34 hc he hsx hN (by omega) (by omega) x1 x2 x3 x4 hk
    refine J_swc (pc := 39) (v := 35) (tgt := 2087) hc dL_law_39 (by decide) (by decide) rfl (by decide) (by decide) ?_ (fun h39_35 => ?_)
    · exact jL_c35 hc he hsx hN (by omega) (by omega) x1 x2 x3 x4 hk
    refine J_swc (pc := 39) (v := 36) (tgt := 2100) hc dL_law_39 (by decide) (by decide) rfl (by decide) (by decide) ?_ (fun h39_36 => ?_)
    · exact jL_c36 hc he hsx hN (by omega) (by omega) x1 x2 x3 x4 hk
    refine J_swc (pc := 39) (v := 37) (tgt := 2136) hc dL_law_39 (by decide) (by decide) rfl (by decide) (by decide) ?_ (fun h39_37 => ?_)
    · exact jL_c37 hc he hsx hN (by omega) (by omega) x1 x2 x3 x4 hk
    refine J_swd (pc := 39) (tgt := 2172) hc dL_law_39 (by omega) (by decide) ?_
    refine J_widen (k := 62 + 8 * k + 8) (n := 16307 + 80 * k + 80) (by omega) (by omega) ?_
    exact hk
set_option maxRecDepth 100000 in
set_option maxHeartbeats 8000000 in
theorem jL_law {κ : Cx} {fin : Int32 → Mm → Prop} {L : Nat} {xs : Nat → Int32} (hc : Jc κ RL cL_law 9 12 601024 7293034 452) (he : EdZ κ cL_law 601024 7293034 id fin) (hsx : JX κ L xs) (hN : NcK κ) : Jg κ (wM κ) 9 fin 0 0 0 [some ((23, .ref (SB + 400)) : TV), none, none, none, none, none, none, none, none] [] (fL_law L xs) := by
  unfold fL_law
  refine J_new (pc := 0) hc clX7 dvX7 tw22 tw23 tw1 (Nat.le_of_ble_eq_true rfl) (Nat.le_of_ble_eq_true rfl) dL_law_0 (fun h1 => ?_)
  refine J_dup (pc := 3) hc dL_law_3 rfl ?_
  refine J_callIv (pc := 4) hc (ci := 7) (Nat.le_of_ble_eq_true rfl) (As := []) (KX7_init h1) dL_law_4 moX7_init rfl tw24 tw25 tw1 tw26 rfl (Nat.le_of_ble_eq_true rfl) (Nat.le_of_ble_eq_true rfl) (by omega) (by omega) (Nat.le_of_ble_eq_true rfl) rfl (fun _ => ?_)
  refine J_astore_n (pc := 7) (l' := [some ((23, .ref (SB + 400)) : TV), some ((7, .ref h1) : TV), none, none, none, none, none, none, none]) hc dL_law_7 rfl (by decide) rfl rfl ?_
  refine J_new (pc := 8) hc clX8 dvX8 tw1149 tw1150 tw9 (Nat.le_of_ble_eq_true rfl) (Nat.le_of_ble_eq_true rfl) dL_law_8 (fun h2 => ?_)
  refine J_dup (pc := 11) hc dL_law_11 rfl ?_
  refine J_callIv (pc := 12) hc (ci := 8) (Nat.le_of_ble_eq_true rfl) (As := []) (KX8_init h2) dL_law_12 moX8_init rfl tw1151 tw1152 tw9 tw1153 rfl (Nat.le_of_ble_eq_true rfl) (Nat.le_of_ble_eq_true rfl) (by omega) (by omega) (Nat.le_of_ble_eq_true rfl) rfl (fun _ => ?_)
  refine J_astore_n (pc := 15) (l' := [some ((23, .ref (SB + 400)) : TV), some ((7, .ref h1) : TV), some ((8, .ref h2) : TV), none, none, none, none, none, none]) hc dL_law_15 rfl (by decide) rfl rfl ?_
  refine J_iconst (pc := 16) (v := 1) hc dL_law_16 (by decide) ?_
  refine J_newa12 (pc := 17) (N9 := 1) hc tw66 (by decide) (by decide) (Nat.le_of_ble_eq_true rfl) (Nat.le_of_ble_eq_true rfl) (Nat.le_of_ble_eq_true rfl) dL_law_17 (fun h3 => ?_)
  refine J_astore_n (pc := 19) (l' := [some ((23, .ref (SB + 400)) : TV), some ((7, .ref h1) : TV), some ((8, .ref h2) : TV), some ((12, .ref h3) : TV), none, none, none, none, none]) hc dL_law_19 rfl (by decide) rfl rfl ?_
  refine J_iconst (pc := 20) (v := 0) hc dL_law_20 (by decide) ?_
  refine J_istore (pc := 21) (l' := [some ((23, .ref (SB + 400)) : TV), some ((7, .ref h1) : TV), some ((8, .ref h2) : TV), some ((12, .ref h3) : TV), some ((0, .int 0) : TV), none, none, none, none]) hc dL_law_21 (by decide) rfl rfl ?_
  refine J_widen (k := 62 + 8 * 0) (n := 16307 + 80 * 0) (by omega) (by omega) ?_
  refine J_sub (l' := [some ((23, .ref (SB + 400)) : TV), some ((7, .ref h1) : TV), some ((8, .ref h2) : TV), some ((12, .ref h3) : TV), some ((0, .int 0) : TV), none, none, none, none]) ⟨rfl, ⟨rfl, ⟨rfl, ⟨rfl, ⟨rfl, trivial⟩⟩⟩⟩⟩ ?_
  exact jL_L23 hc he hsx hN 513 0 (by omega) h1 h2 h3 0
