set_option maxRecDepth 100000 in
set_option maxHeartbeats 8000000 in
theorem qL_isLike_L454 {κ : Cx} {fin : Int32 → Mm → Prop} {mc ms : Nat} (hc : Jc κ RL cL_isLike 8 13 mc ms 369) (he : EdW κ cL_isLike tI .ireturn (fun a => a = 0 ∨ a = 1) fin) {k65 : Nat → Nat → Int32 → Int32 → Mm → Option (Int32 × Mm × Nat × Nat)} (hk65 : ∀ (x0 : Nat) (x1 : Nat) (x2 : Int32) (x3 : Int32), Jw κ (wM κ) 8 fin 65 [some ((7, .ref x0) : TV), some ((54, .ref x1) : TV), some ((0, .int x2) : TV), some ((0, .int x3) : TV), none, none, none, none] [] (k65 x0 x1 x2 x3)) : ∀ (n : Nat) (x0 : Nat) (x1 : Nat) (x2 : Int32) (x3 : Int32) (x6 : Option Nat) (x7 : Int32), Jw κ (wM κ) 8 fin 454 [some ((7, .ref x0) : TV), some ((54, .ref x1) : TV), some ((0, .int x2) : TV), some ((0, .int x3) : TV), none, none, some ((13, va_rf x6) : TV), some ((0, .int x7) : TV)] [] (gL_isLike_L454 k65 n x0 x1 x2 x3 x6 x7) := by
  intro n
  induction n with
  | zero => intro x0 x1 x2 x3 x6 x7; exact N_fail
  | succ n ih =>
    intro x0 x1 x2 x3 x6 x7
    unfold gL_isLike_L454
    refine N_iload (pc := 454) hc dL_isLike_454 rfl ?_
    refine N_aload_n (pc := 456) hc dL_isLike_456 rfl rfl ?_
    refine N_getNI (pc := 457) hc clX9 (k := 0) (Nat.le_of_ble_eq_true rfl) rfl (hst0 := "DotRunsLaw") (by decide +kernel) dL_isLike_457 (fun v1 => ?_)
    refine N_icmp_ge (pc := 460) (tgt := 493) hc dL_isLike_460 (by decide) ?_ ?_
    · refine N_aload_n (pc := 493) hc dL_isLike_493 rfl rfl ?_
      refine N_iload_n (pc := 494) hc dL_isLike_494 rfl rfl ?_
      refine N_iload_n (pc := 495) hc dL_isLike_495 rfl rfl ?_
      refine N_iconst (pc := 496) (v := 1) hc dL_isLike_496 (by decide) ?_
      refine N_isub (pc := 497) hc dL_isLike_497 ?_
      refine N_callCX (pc := 498) hc clX7 (As := [((0, .int x3) : TV), ((0, .int (x3 - 1)) : TV)]) (KX7_readBelow x0 x3 (x3 - 1)) dL_isLike_498 moX7_readBelow rfl tw1220 tw1221 tw1222 tw2 tw1223 rfl (Nat.le_of_ble_eq_true rfl) (Nat.le_of_ble_eq_true rfl) (Nat.le_of_ble_eq_true rfl) rfl (fun _ _ h => by cases h) (fun v2 => ?_)
      show Jw κ (wM κ) 8 fin 501 [some ((7, .ref x0) : TV), some ((54, .ref x1) : TV), some ((0, .int x2) : TV), some ((0, .int x3) : TV), none, none, some ((13, va_rf x6) : TV), some ((0, .int x7) : TV)] [((0, .int v2) : TV)] _
      refine N_if_eq (pc := 501) (tgt := 506) hc dL_isLike_501 (by decide) ?_ ?_
      · refine N_iinc (pc := 506) (v := x3 + 1) (l' := [some ((7, .ref x0) : TV), some ((54, .ref x1) : TV), some ((0, .int x2) : TV), some ((0, .int (x3 + 1)) : TV), none, none, some ((13, va_rf x6) : TV), some ((0, .int x7) : TV)]) hc dL_isLike_506 rfl rfl (by decide) rfl rfl ?_
        refine N_goto (pc := 509) (tgt := 65) hc dL_isLike_509 (by decide) ?_
        refine N_sub (l' := [some ((7, .ref x0) : TV), some ((54, .ref x1) : TV), some ((0, .int x2) : TV), some ((0, .int (x3 + 1)) : TV), none, none, none, none]) ⟨rfl, ⟨rfl, ⟨rfl, ⟨rfl, trivial⟩⟩⟩⟩ ?_
        exact hk65 x0 x1 x2 (x3 + 1)
      · refine N_iconst (pc := 504) (v := 0) hc dL_isLike_504 (by decide) ?_
        exact N_zret (pc := 505) he dL_isLike_505
    · refine N_aloadO (pc := 463) hc dL_isLike_463 rfl ?_
      refine N_iload (pc := 465) hc dL_isLike_465 rfl ?_
      refine N_nn1 (r := x6) (fun p4 => ?_)
      refine N_zald (pc := 467) hc dL_isLike_467 (fun v3 => ?_)
      refine N_aload_n (pc := 468) hc dL_isLike_468 rfl rfl ?_
      refine N_getNA (pc := 469) hc clX9 (k := 3) (kd := 44) (Nat.le_of_ble_eq_true rfl) rfl (Nat.le_of_ble_eq_true rfl) (hst0 := "DotRunsLaw") (by decide +kernel) dL_isLike_469 (fun v5 => ?_)
      refine N_iload_n (pc := 472) hc dL_isLike_472 rfl rfl ?_
      refine N_callV (pc := 473) hc clJx4a65c (As := [((0, .int x3) : TV)]) (ZJx4a65c_get_915e3 v5 x3) dL_isLike_473 mzJx4a65c_get_915e3 rfl tw1058 tw1059 tw1060 tw13 tw1061 rfl (Nat.le_of_ble_eq_true rfl) (Nat.le_of_ble_eq_true rfl) (Nat.le_of_ble_eq_true rfl) rfl (fun h6 => ?_)
      show Jw κ (wM κ) 8 fin 476 [some ((7, .ref x0) : TV), some ((54, .ref x1) : TV), some ((0, .int x2) : TV), some ((0, .int x3) : TV), none, none, some ((13, va_rf x6) : TV), some ((0, .int x7) : TV)] [((16, .ref h6) : TV), ((0, .int v3) : TV)] _
      refine N_castZ (pc := 476) hc tw1070 dL_isLike_476 ?_
      refine N_iload (pc := 479) hc dL_isLike_479 rfl ?_
      refine N_zald (pc := 481) hc dL_isLike_481 (fun v7 => ?_)
      refine N_icmp_eq (pc := 482) (tgt := 487) hc dL_isLike_482 (by decide) ?_ ?_
      · refine N_iinc (pc := 487) (v := x7 + 1) (l' := [some ((7, .ref x0) : TV), some ((54, .ref x1) : TV), some ((0, .int x2) : TV), some ((0, .int x3) : TV), none, none, some ((13, va_rf x6) : TV), some ((0, .int (x7 + 1)) : TV)]) hc dL_isLike_487 rfl rfl (by decide) (by cases x6 <;> rfl) rfl ?_
        refine N_goto (pc := 490) (tgt := 454) hc dL_isLike_490 (by decide) ?_
        refine N_sub (l' := [some ((7, .ref x0) : TV), some ((54, .ref x1) : TV), some ((0, .int x2) : TV), some ((0, .int x3) : TV), none, none, some ((13, va_rf x6) : TV), some ((0, .int (x7 + 1)) : TV)]) ⟨rfl, ⟨rfl, ⟨rfl, ⟨rfl, ⟨rfl, ⟨rfl, trivial⟩⟩⟩⟩⟩⟩ ?_
        exact ih x0 x1 x2 x3 x6 (x7 + 1)
      · refine N_iconst (pc := 485) (v := 0) hc dL_isLike_485 (by decide) ?_
        exact N_zret (pc := 486) he dL_isLike_486
set_option maxRecDepth 100000 in
set_option maxHeartbeats 8000000 in
theorem qL_isLike_L302 {κ : Cx} {fin : Int32 → Mm → Prop} {mc ms : Nat} (hc : Jc κ RL cL_isLike 8 13 mc ms 369) (he : EdW κ cL_isLike tI .ireturn (fun a => a = 0 ∨ a = 1) fin) {k65 : Nat → Nat → Int32 → Int32 → Mm → Option (Int32 × Mm × Nat × Nat)} (hk65 : ∀ (x0 : Nat) (x1 : Nat) (x2 : Int32) (x3 : Int32), Jw κ (wM κ) 8 fin 65 [some ((7, .ref x0) : TV), some ((54, .ref x1) : TV), some ((0, .int x2) : TV), some ((0, .int x3) : TV), none, none, none, none] [] (k65 x0 x1 x2 x3)) : ∀ (n : Nat) (x0 : Nat) (x1 : Nat) (x2 : Int32) (x3 : Int32) (x4 : Nat) (x5 : Nat) (x6 : Int32), Jw κ (wM κ) 8 fin 302 [some ((7, .ref x0) : TV), some ((54, .ref x1) : TV), some ((0, .int x2) : TV), some ((0, .int x3) : TV), some ((44, .ref x4) : TV), some ((44, .ref x5) : TV), some ((0, .int x6) : TV), none] [] (gL_isLike_L302 k65 n x0 x1 x2 x3 x4 x5 x6) := by
  intro n
  induction n with
  | zero => intro x0 x1 x2 x3 x4 x5 x6; exact N_fail
  | succ n ih =>
    intro x0 x1 x2 x3 x4 x5 x6
    unfold gL_isLike_L302
    refine N_iload (pc := 302) hc dL_isLike_302 rfl ?_
    refine N_aload (pc := 304) hc dL_isLike_304 rfl ?_
    refine N_callV (pc := 306) hc clJx4a65c (As := []) (ZJx4a65c_size_8abf5 x4) dL_isLike_306 mzJx4a65c_size_8abf5 rfl tw975 tw976 tw977 tw13 tw978 rfl (Nat.le_of_ble_eq_true rfl) (Nat.le_of_ble_eq_true rfl) (Nat.le_of_ble_eq_true rfl) rfl (fun v8 => ?_)
    show Jw κ (wM κ) 8 fin 309 [some ((7, .ref x0) : TV), some ((54, .ref x1) : TV), some ((0, .int x2) : TV), some ((0, .int x3) : TV), some ((44, .ref x4) : TV), some ((44, .ref x5) : TV), some ((0, .int x6) : TV), none] [((0, .int v8) : TV), ((0, .int x6) : TV)] _
    refine N_icmp_ge (pc := 309) (tgt := 396) hc dL_isLike_309 (by decide) ?_ ?_
    · refine N_aload_n (pc := 396) hc dL_isLike_396 rfl rfl ?_
      refine N_iload_n (pc := 397) hc dL_isLike_397 rfl rfl ?_
      refine N_aload (pc := 398) hc dL_isLike_398 rfl ?_
      refine N_callV (pc := 400) hc clJx4a65c (As := []) (ZJx4a65c_size_8abf5 x5) dL_isLike_400 mzJx4a65c_size_8abf5 rfl tw975 tw976 tw977 tw13 tw978 rfl (Nat.le_of_ble_eq_true rfl) (Nat.le_of_ble_eq_true rfl) (Nat.le_of_ble_eq_true rfl) rfl (fun v9 => ?_)
      show Jw κ (wM κ) 8 fin 403 [some ((7, .ref x0) : TV), some ((54, .ref x1) : TV), some ((0, .int x2) : TV), some ((0, .int x3) : TV), some ((44, .ref x4) : TV), some ((44, .ref x5) : TV), some ((0, .int x6) : TV), none] [((0, .int v9) : TV), ((0, .int x3) : TV), ((7, .ref x0) : TV)] _
      refine N_callCX (pc := 403) hc clX7 (As := [((0, .int x3) : TV), ((0, .int v9) : TV)]) (KX7_run x0 x3 v9) dL_isLike_403 moX7_run rfl tw1193 tw1194 tw1195 tw2 tw1196 rfl (Nat.le_of_ble_eq_true rfl) (Nat.le_of_ble_eq_true rfl) (Nat.le_of_ble_eq_true rfl) rfl (fun _ _ h => by cases h) (fun v10 => ?_)
      show Jw κ (wM κ) 8 fin 406 [some ((7, .ref x0) : TV), some ((54, .ref x1) : TV), some ((0, .int x2) : TV), some ((0, .int x3) : TV), some ((44, .ref x4) : TV), some ((44, .ref x5) : TV), some ((0, .int x6) : TV), none] [((0, .int v10) : TV)] _
      refine N_iconst (pc := 406) (v := (-1)) hc dL_isLike_406 (by decide) ?_
      refine N_icmp_ne (pc := 407) (tgt := 426) hc dL_isLike_407 (by decide) ?_ ?_
      · refine N_iconst (pc := 426) (v := 0) hc dL_isLike_426 (by decide) ?_
        exact N_zret (pc := 427) he dL_isLike_427
      · refine N_aload_n (pc := 410) hc dL_isLike_410 rfl rfl ?_
        refine N_iload_n (pc := 411) hc dL_isLike_411 rfl rfl ?_
        refine N_aload (pc := 412) hc dL_isLike_412 rfl ?_
        refine N_callV (pc := 414) hc clJx4a65c (As := []) (ZJx4a65c_size_8abf5 x4) dL_isLike_414 mzJx4a65c_size_8abf5 rfl tw975 tw976 tw977 tw13 tw978 rfl (Nat.le_of_ble_eq_true rfl) (Nat.le_of_ble_eq_true rfl) (Nat.le_of_ble_eq_true rfl) rfl (fun v11 => ?_)
        show Jw κ (wM κ) 8 fin 417 [some ((7, .ref x0) : TV), some ((54, .ref x1) : TV), some ((0, .int x2) : TV), some ((0, .int x3) : TV), some ((44, .ref x4) : TV), some ((44, .ref x5) : TV), some ((0, .int x6) : TV), none] [((0, .int v11) : TV), ((0, .int x3) : TV), ((7, .ref x0) : TV)] _
        refine N_iconst (pc := 417) (v := 0) hc dL_isLike_417 (by decide) ?_
        refine N_callCX (pc := 418) hc clX7 (As := [((0, .int x3) : TV), ((0, .int v11) : TV), ((0, .int 0) : TV)]) (KX7_mode x0 x3 v11 0) dL_isLike_418 moX7_mode rfl tw1208 tw1209 tw1210 tw2 tw1211 rfl (Nat.le_of_ble_eq_true rfl) (Nat.le_of_ble_eq_true rfl) (Nat.le_of_ble_eq_true rfl) rfl (fun _ _ h => by cases h) (fun v12 => ?_)
        show Jw κ (wM κ) 8 fin 421 [some ((7, .ref x0) : TV), some ((54, .ref x1) : TV), some ((0, .int x2) : TV), some ((0, .int x3) : TV), some ((44, .ref x4) : TV), some ((44, .ref x5) : TV), some ((0, .int x6) : TV), none] [((0, .int v12) : TV)] _
        refine N_bipush (pc := 421) (v := (-9)) hc dL_isLike_421 (by decide) ?_
        refine N_icmp_eq (pc := 423) (tgt := 428) hc dL_isLike_423 (by decide) ?_ ?_
        · refine N_aload (pc := 428) hc dL_isLike_428 rfl ?_
          refine N_aload_n (pc := 430) hc dL_isLike_430 rfl rfl ?_
          refine N_aload_n (pc := 431) hc dL_isLike_431 rfl rfl ?_
          refine N_getNA (pc := 432) hc clX9 (k := 3) (kd := 44) (Nat.le_of_ble_eq_true rfl) rfl (Nat.le_of_ble_eq_true rfl) (hst0 := "DotRunsLaw") (by decide +kernel) dL_isLike_432 (fun v13 => ?_)
          refine N_iload_n (pc := 435) hc dL_isLike_435 rfl rfl ?_
          refine N_callV (pc := 436) hc clX9 (As := [((44, .ref v13) : TV), ((0, .int x3) : TV)]) (ZX9_above x1 v13 x3) dL_isLike_436 mzX9_above rfl tw1216 tw1076 tw1077 tw10 tw1078 rfl (Nat.le_of_ble_eq_true rfl) (Nat.le_of_ble_eq_true rfl) (Nat.le_of_ble_eq_true rfl) rfl (fun h14 => ?_)
          show Jw κ (wM κ) 8 fin 439 [some ((7, .ref x0) : TV), some ((54, .ref x1) : TV), some ((0, .int x2) : TV), some ((0, .int x3) : TV), some ((44, .ref x4) : TV), some ((44, .ref x5) : TV), some ((0, .int x6) : TV), none] [((13, .ref h14) : TV), ((44, .ref x4) : TV)] _
          refine N_callS (pc := 439) hc (As := [((44, .ref x4) : TV), ((13, .ref h14) : TV)]) (ZL_read x4 h14) dL_isLike_439 mzL_read tw1217 tw1218 tw0 tw1219 rfl (Nat.le_of_ble_eq_true rfl) (Nat.le_of_ble_eq_true rfl) (Nat.le_of_ble_eq_true rfl) rfl (fun h15 => ?_)
          show Jw κ (wM κ) 8 fin 442 [some ((7, .ref x0) : TV), some ((54, .ref x1) : TV), some ((0, .int x2) : TV), some ((0, .int x3) : TV), some ((44, .ref x4) : TV), some ((44, .ref x5) : TV), some ((0, .int x6) : TV), none] [((13, va_rf h15) : TV)] _
          refine N_astoreO (pc := 442) (l' := [some ((7, .ref x0) : TV), some ((54, .ref x1) : TV), some ((0, .int x2) : TV), some ((0, .int x3) : TV), some ((44, .ref x4) : TV), some ((44, .ref x5) : TV), some ((13, va_rf h15) : TV), none]) hc dL_isLike_442 (by decide) rfl rfl ?_
          refine N_aloadO (pc := 444) hc dL_isLike_444 rfl ?_
          refine N_ifnonnullD (pc := 446) (tgt := 451) hc dL_isLike_446 (by decide) ?_ ?_
          · refine N_iconst (pc := 449) (v := 0) hc dL_isLike_449 (by decide) ?_
            exact N_zret (pc := 450) he dL_isLike_450
          · intro p16 ep16
            subst ep16
            refine N_iconst (pc := 451) (v := 0) hc dL_isLike_451 (by decide) ?_
            refine N_istore (pc := 452) (l' := [some ((7, .ref x0) : TV), some ((54, .ref x1) : TV), some ((0, .int x2) : TV), some ((0, .int x3) : TV), some ((44, .ref x4) : TV), some ((44, .ref x5) : TV), some ((13, .ref p16) : TV), some ((0, .int 0) : TV)]) hc dL_isLike_452 (by decide) rfl rfl ?_
            refine N_sub (l' := [some ((7, .ref x0) : TV), some ((54, .ref x1) : TV), some ((0, .int x2) : TV), some ((0, .int x3) : TV), none, none, some ((13, va_rf (some p16)) : TV), some ((0, .int 0) : TV)]) ⟨rfl, ⟨rfl, ⟨rfl, ⟨rfl, ⟨rfl, ⟨rfl, trivial⟩⟩⟩⟩⟩⟩ ?_
            exact qL_isLike_L454 hc he hk65 fu x0 x1 x2 x3 (some p16) 0
        · refine N_iconst (pc := 426) (v := 0) hc dL_isLike_426 (by decide) ?_
          exact N_zret (pc := 427) he dL_isLike_427
    · refine N_aload (pc := 312) hc dL_isLike_312 rfl ?_
      refine N_iload (pc := 314) hc dL_isLike_314 rfl ?_
      refine N_callV (pc := 316) hc clJx4a65c (As := [((0, .int x6) : TV)]) (ZJx4a65c_get_915e3 x4 x6) dL_isLike_316 mzJx4a65c_get_915e3 rfl tw1058 tw1059 tw1060 tw13 tw1061 rfl (Nat.le_of_ble_eq_true rfl) (Nat.le_of_ble_eq_true rfl) (Nat.le_of_ble_eq_true rfl) rfl (fun h17 => ?_)
      show Jw κ (wM κ) 8 fin 319 [some ((7, .ref x0) : TV), some ((54, .ref x1) : TV), some ((0, .int x2) : TV), some ((0, .int x3) : TV), some ((44, .ref x4) : TV), some ((44, .ref x5) : TV), some ((0, .int x6) : TV), none] [((16, .ref h17) : TV)] _
      refine N_castM (pc := 319) hc tw1125 tw1126 dL_isLike_319 ?_
      refine N_astore (pc := 322) (l' := [some ((7, .ref x0) : TV), some ((54, .ref x1) : TV), some ((0, .int x2) : TV), some ((0, .int x3) : TV), some ((44, .ref x4) : TV), some ((44, .ref x5) : TV), some ((0, .int x6) : TV), some ((53, .ref h17) : TV)]) hc dL_isLike_322 (by decide) rfl rfl ?_
      refine N_aload_n (pc := 324) hc dL_isLike_324 rfl rfl ?_
      refine N_iload_n (pc := 325) hc dL_isLike_325 rfl rfl ?_
      refine N_iload (pc := 326) hc dL_isLike_326 rfl ?_
      refine N_iconst (pc := 328) (v := 0) hc dL_isLike_328 (by decide) ?_
      refine N_callCX (pc := 329) hc clX7 (As := [((0, .int x3) : TV), ((0, .int x6) : TV), ((0, .int 0) : TV)]) (KX7_mode x0 x3 x6 0) dL_isLike_329 moX7_mode rfl tw1208 tw1209 tw1210 tw2 tw1211 rfl (Nat.le_of_ble_eq_true rfl) (Nat.le_of_ble_eq_true rfl) (Nat.le_of_ble_eq_true rfl) rfl (fun _ _ h => by cases h) (fun v18 => ?_)
      show Jw κ (wM κ) 8 fin 332 [some ((7, .ref x0) : TV), some ((54, .ref x1) : TV), some ((0, .int x2) : TV), some ((0, .int x3) : TV), some ((44, .ref x4) : TV), some ((44, .ref x5) : TV), some ((0, .int x6) : TV), some ((53, .ref h17) : TV)] [((0, .int v18) : TV)] _
      refine N_aload (pc := 332) hc dL_isLike_332 rfl ?_
      refine N_getNI (pc := 334) hc clX8 (k := 0) (Nat.le_of_ble_eq_true rfl) rfl (hst0 := "DotRunsLaw") (by decide +kernel) dL_isLike_334 (fun v19 => ?_)
      refine N_icmp_ne (pc := 337) (tgt := 388) hc dL_isLike_337 (by decide) ?_ ?_
      · refine N_iconst (pc := 388) (v := 0) hc dL_isLike_388 (by decide) ?_
        exact N_zret (pc := 389) he dL_isLike_389
      · refine N_aload_n (pc := 340) hc dL_isLike_340 rfl rfl ?_
        refine N_iload_n (pc := 341) hc dL_isLike_341 rfl rfl ?_
        refine N_iload (pc := 342) hc dL_isLike_342 rfl ?_
        refine N_iconst (pc := 344) (v := 1) hc dL_isLike_344 (by decide) ?_
        refine N_callCX (pc := 345) hc clX7 (As := [((0, .int x3) : TV), ((0, .int x6) : TV), ((0, .int 1) : TV)]) (KX7_mode x0 x3 x6 1) dL_isLike_345 moX7_mode rfl tw1208 tw1209 tw1210 tw2 tw1211 rfl (Nat.le_of_ble_eq_true rfl) (Nat.le_of_ble_eq_true rfl) (Nat.le_of_ble_eq_true rfl) rfl (fun _ _ h => by cases h) (fun v20 => ?_)
        show Jw κ (wM κ) 8 fin 348 [some ((7, .ref x0) : TV), some ((54, .ref x1) : TV), some ((0, .int x2) : TV), some ((0, .int x3) : TV), some ((44, .ref x4) : TV), some ((44, .ref x5) : TV), some ((0, .int x6) : TV), some ((53, .ref h17) : TV)] [((0, .int v20) : TV)] _
        refine N_aload (pc := 348) hc dL_isLike_348 rfl ?_
        refine N_getNI (pc := 350) hc clX8 (k := 1) (Nat.le_of_ble_eq_true rfl) rfl (hst0 := "DotRunsLaw") (by decide +kernel) dL_isLike_350 (fun v21 => ?_)
        refine N_icmp_ne (pc := 353) (tgt := 388) hc dL_isLike_353 (by decide) ?_ ?_
        · refine N_iconst (pc := 388) (v := 0) hc dL_isLike_388 (by decide) ?_
          exact N_zret (pc := 389) he dL_isLike_389
        · refine N_aload_n (pc := 356) hc dL_isLike_356 rfl rfl ?_
          refine N_iload_n (pc := 357) hc dL_isLike_357 rfl rfl ?_
          refine N_iload (pc := 358) hc dL_isLike_358 rfl ?_
          refine N_iconst (pc := 360) (v := 2) hc dL_isLike_360 (by decide) ?_
          refine N_callCX (pc := 361) hc clX7 (As := [((0, .int x3) : TV), ((0, .int x6) : TV), ((0, .int 2) : TV)]) (KX7_mode x0 x3 x6 2) dL_isLike_361 moX7_mode rfl tw1208 tw1209 tw1210 tw2 tw1211 rfl (Nat.le_of_ble_eq_true rfl) (Nat.le_of_ble_eq_true rfl) (Nat.le_of_ble_eq_true rfl) rfl (fun _ _ h => by cases h) (fun v22 => ?_)
          show Jw κ (wM κ) 8 fin 364 [some ((7, .ref x0) : TV), some ((54, .ref x1) : TV), some ((0, .int x2) : TV), some ((0, .int x3) : TV), some ((44, .ref x4) : TV), some ((44, .ref x5) : TV), some ((0, .int x6) : TV), some ((53, .ref h17) : TV)] [((0, .int v22) : TV)] _
          refine N_aload (pc := 364) hc dL_isLike_364 rfl ?_
          refine N_getNI (pc := 366) hc clX8 (k := 2) (Nat.le_of_ble_eq_true rfl) rfl (hst0 := "DotRunsLaw") (by decide +kernel) dL_isLike_366 (fun v23 => ?_)
          refine N_icmp_ne (pc := 369) (tgt := 388) hc dL_isLike_369 (by decide) ?_ ?_
          · refine N_iconst (pc := 388) (v := 0) hc dL_isLike_388 (by decide) ?_
            exact N_zret (pc := 389) he dL_isLike_389
          · refine N_aload_n (pc := 372) hc dL_isLike_372 rfl rfl ?_
            refine N_iload_n (pc := 373) hc dL_isLike_373 rfl rfl ?_
            refine N_iload (pc := 374) hc dL_isLike_374 rfl ?_
            refine N_iconst (pc := 376) (v := 3) hc dL_isLike_376 (by decide) ?_
            refine N_callCX (pc := 377) hc clX7 (As := [((0, .int x3) : TV), ((0, .int x6) : TV), ((0, .int 3) : TV)]) (KX7_mode x0 x3 x6 3) dL_isLike_377 moX7_mode rfl tw1208 tw1209 tw1210 tw2 tw1211 rfl (Nat.le_of_ble_eq_true rfl) (Nat.le_of_ble_eq_true rfl) (Nat.le_of_ble_eq_true rfl) rfl (fun _ _ h => by cases h) (fun v24 => ?_)
            show Jw κ (wM κ) 8 fin 380 [some ((7, .ref x0) : TV), some ((54, .ref x1) : TV), some ((0, .int x2) : TV), some ((0, .int x3) : TV), some ((44, .ref x4) : TV), some ((44, .ref x5) : TV), some ((0, .int x6) : TV), some ((53, .ref h17) : TV)] [((0, .int v24) : TV)] _
            refine N_aload (pc := 380) hc dL_isLike_380 rfl ?_
            refine N_getNI (pc := 382) hc clX8 (k := 3) (Nat.le_of_ble_eq_true rfl) rfl (hst0 := "DotRunsLaw") (by decide +kernel) dL_isLike_382 (fun v25 => ?_)
            refine N_icmp_eq (pc := 385) (tgt := 390) hc dL_isLike_385 (by decide) ?_ ?_
            · refine N_iinc (pc := 390) (v := x6 + 1) (l' := [some ((7, .ref x0) : TV), some ((54, .ref x1) : TV), some ((0, .int x2) : TV), some ((0, .int x3) : TV), some ((44, .ref x4) : TV), some ((44, .ref x5) : TV), some ((0, .int (x6 + 1)) : TV), some ((53, .ref h17) : TV)]) hc dL_isLike_390 rfl rfl (by decide) rfl rfl ?_
              refine N_goto (pc := 393) (tgt := 302) hc dL_isLike_393 (by decide) ?_
              refine N_sub (l' := [some ((7, .ref x0) : TV), some ((54, .ref x1) : TV), some ((0, .int x2) : TV), some ((0, .int x3) : TV), some ((44, .ref x4) : TV), some ((44, .ref x5) : TV), some ((0, .int (x6 + 1)) : TV), none]) ⟨rfl, ⟨rfl, ⟨rfl, ⟨rfl, ⟨rfl, ⟨rfl, ⟨rfl, trivial⟩⟩⟩⟩⟩⟩⟩ ?_
              exact ih x0 x1 x2 x3 x4 x5 (x6 + 1)
            · refine N_iconst (pc := 388) (v := 0) hc dL_isLike_388 (by decide) ?_
              exact N_zret (pc := 389) he dL_isLike_389
set_option maxRecDepth 100000 in
set_option maxHeartbeats 8000000 in
theorem qL_isLike_L258 {κ : Cx} {fin : Int32 → Mm → Prop} {mc ms : Nat} (hc : Jc κ RL cL_isLike 8 13 mc ms 369) (he : EdW κ cL_isLike tI .ireturn (fun a => a = 0 ∨ a = 1) fin) {k65 : Nat → Nat → Int32 → Int32 → Mm → Option (Int32 × Mm × Nat × Nat)} (hk65 : ∀ (x0 : Nat) (x1 : Nat) (x2 : Int32) (x3 : Int32), Jw κ (wM κ) 8 fin 65 [some ((7, .ref x0) : TV), some ((54, .ref x1) : TV), some ((0, .int x2) : TV), some ((0, .int x3) : TV), none, none, none, none] [] (k65 x0 x1 x2 x3)) : ∀ (n : Nat) (x0 : Nat) (x1 : Nat) (x2 : Int32) (x3 : Int32) (x4 : Nat) (x5 : Nat) (x6 : Int32), Jw κ (wM κ) 8 fin 258 [some ((7, .ref x0) : TV), some ((54, .ref x1) : TV), some ((0, .int x2) : TV), some ((0, .int x3) : TV), some ((44, .ref x4) : TV), some ((44, .ref x5) : TV), some ((0, .int x6) : TV), none] [] (gL_isLike_L258 k65 n x0 x1 x2 x3 x4 x5 x6) := by
  intro n
  induction n with
  | zero => intro x0 x1 x2 x3 x4 x5 x6; exact N_fail
  | succ n ih =>
    intro x0 x1 x2 x3 x4 x5 x6
    unfold gL_isLike_L258
    refine N_iload (pc := 258) hc dL_isLike_258 rfl ?_
    refine N_aload (pc := 260) hc dL_isLike_260 rfl ?_
    refine N_callV (pc := 262) hc clJx4a65c (As := []) (ZJx4a65c_size_8abf5 x5) dL_isLike_262 mzJx4a65c_size_8abf5 rfl tw975 tw976 tw977 tw13 tw978 rfl (Nat.le_of_ble_eq_true rfl) (Nat.le_of_ble_eq_true rfl) (Nat.le_of_ble_eq_true rfl) rfl (fun v26 => ?_)
    show Jw κ (wM κ) 8 fin 265 [some ((7, .ref x0) : TV), some ((54, .ref x1) : TV), some ((0, .int x2) : TV), some ((0, .int x3) : TV), some ((44, .ref x4) : TV), some ((44, .ref x5) : TV), some ((0, .int x6) : TV), none] [((0, .int v26) : TV), ((0, .int x6) : TV)] _
    refine N_icmp_ge (pc := 265) (tgt := 299) hc dL_isLike_265 (by decide) ?_ ?_
    · refine N_iconst (pc := 299) (v := 0) hc dL_isLike_299 (by decide) ?_
      refine N_istore (pc := 300) (l' := [some ((7, .ref x0) : TV), some ((54, .ref x1) : TV), some ((0, .int x2) : TV), some ((0, .int x3) : TV), some ((44, .ref x4) : TV), some ((44, .ref x5) : TV), some ((0, .int 0) : TV), none]) hc dL_isLike_300 (by decide) rfl rfl ?_
      refine N_sub (l' := [some ((7, .ref x0) : TV), some ((54, .ref x1) : TV), some ((0, .int x2) : TV), some ((0, .int x3) : TV), some ((44, .ref x4) : TV), some ((44, .ref x5) : TV), some ((0, .int 0) : TV), none]) ⟨rfl, ⟨rfl, ⟨rfl, ⟨rfl, ⟨rfl, ⟨rfl, ⟨rfl, trivial⟩⟩⟩⟩⟩⟩⟩ ?_
      exact qL_isLike_L302 hc he hk65 fu x0 x1 x2 x3 x4 x5 0
    · refine N_aload_n (pc := 268) hc dL_isLike_268 rfl rfl ?_
      refine N_iload_n (pc := 269) hc dL_isLike_269 rfl rfl ?_
      refine N_iload (pc := 270) hc dL_isLike_270 rfl ?_
      refine N_callCX (pc := 272) hc clX7 (As := [((0, .int x3) : TV), ((0, .int x6) : TV)]) (KX7_run x0 x3 x6) dL_isLike_272 moX7_run rfl tw1193 tw1194 tw1195 tw2 tw1196 rfl (Nat.le_of_ble_eq_true rfl) (Nat.le_of_ble_eq_true rfl) (Nat.le_of_ble_eq_true rfl) rfl (fun _ _ h => by cases h) (fun v27 => ?_)
      show Jw κ (wM κ) 8 fin 275 [some ((7, .ref x0) : TV), some ((54, .ref x1) : TV), some ((0, .int x2) : TV), some ((0, .int x3) : TV), some ((44, .ref x4) : TV), some ((44, .ref x5) : TV), some ((0, .int x6) : TV), none] [((0, .int v27) : TV)] _
      refine N_aload (pc := 275) hc dL_isLike_275 rfl ?_
      refine N_iload (pc := 277) hc dL_isLike_277 rfl ?_
      refine N_callV (pc := 279) hc clJx4a65c (As := [((0, .int x6) : TV)]) (ZJx4a65c_get_915e3 x5 x6) dL_isLike_279 mzJx4a65c_get_915e3 rfl tw1058 tw1059 tw1060 tw13 tw1061 rfl (Nat.le_of_ble_eq_true rfl) (Nat.le_of_ble_eq_true rfl) (Nat.le_of_ble_eq_true rfl) rfl (fun h28 => ?_)
      show Jw κ (wM κ) 8 fin 282 [some ((7, .ref x0) : TV), some ((54, .ref x1) : TV), some ((0, .int x2) : TV), some ((0, .int x3) : TV), some ((44, .ref x4) : TV), some ((44, .ref x5) : TV), some ((0, .int x6) : TV), none] [((16, .ref h28) : TV), ((0, .int v27) : TV)] _
      refine N_castI (pc := 282) hc tw1120 tw1102 dL_isLike_282 ?_
      refine N_callBV (pc := 285) hc (As := []) (ZJ6_intValue_8abf5 h28) dL_isLike_285 mzJ6_intValue_8abf5 rfl tw1121 tw1122 tw1123 tw25 tw1124 rfl (Nat.le_of_ble_eq_true rfl) (Nat.le_of_ble_eq_true rfl) (Nat.le_of_ble_eq_true rfl) rfl (fun v29 => ?_)
      show Jw κ (wM κ) 8 fin 288 [some ((7, .ref x0) : TV), some ((54, .ref x1) : TV), some ((0, .int x2) : TV), some ((0, .int x3) : TV), some ((44, .ref x4) : TV), some ((44, .ref x5) : TV), some ((0, .int x6) : TV), none] [((0, .int v29) : TV), ((0, .int v27) : TV)] _
      refine N_icmp_eq (pc := 288) (tgt := 293) hc dL_isLike_288 (by decide) ?_ ?_
      · refine N_iinc (pc := 293) (v := x6 + 1) (l' := [some ((7, .ref x0) : TV), some ((54, .ref x1) : TV), some ((0, .int x2) : TV), some ((0, .int x3) : TV), some ((44, .ref x4) : TV), some ((44, .ref x5) : TV), some ((0, .int (x6 + 1)) : TV), none]) hc dL_isLike_293 rfl rfl (by decide) rfl rfl ?_
        refine N_goto (pc := 296) (tgt := 258) hc dL_isLike_296 (by decide) ?_
        refine N_sub (l' := [some ((7, .ref x0) : TV), some ((54, .ref x1) : TV), some ((0, .int x2) : TV), some ((0, .int x3) : TV), some ((44, .ref x4) : TV), some ((44, .ref x5) : TV), some ((0, .int (x6 + 1)) : TV), none]) ⟨rfl, ⟨rfl, ⟨rfl, ⟨rfl, ⟨rfl, ⟨rfl, ⟨rfl, trivial⟩⟩⟩⟩⟩⟩⟩ ?_
        exact ih x0 x1 x2 x3 x4 x5 (x6 + 1)
      · refine N_iconst (pc := 291) (v := 0) hc dL_isLike_291 (by decide) ?_
        exact N_zret (pc := 292) he dL_isLike_292
set_option maxRecDepth 100000 in
set_option maxHeartbeats 8000000 in
theorem qL_isLike_L164 {κ : Cx} {fin : Int32 → Mm → Prop} {mc ms : Nat} (hc : Jc κ RL cL_isLike 8 13 mc ms 369) (he : EdW κ cL_isLike tI .ireturn (fun a => a = 0 ∨ a = 1) fin) {k65 : Nat → Nat → Int32 → Int32 → Mm → Option (Int32 × Mm × Nat × Nat)} (hk65 : ∀ (x0 : Nat) (x1 : Nat) (x2 : Int32) (x3 : Int32), Jw κ (wM κ) 8 fin 65 [some ((7, .ref x0) : TV), some ((54, .ref x1) : TV), some ((0, .int x2) : TV), some ((0, .int x3) : TV), none, none, none, none] [] (k65 x0 x1 x2 x3)) (x0 : Nat) (x1 : Nat) (x2 : Int32) (x3 : Int32) (x4 : Nat) (x5 : Nat) (s0 : Int32) (s1 : Int32) : Jw κ (wM κ) 8 fin 164 [some ((7, .ref x0) : TV), some ((54, .ref x1) : TV), some ((0, .int x2) : TV), some ((0, .int x3) : TV), some ((44, .ref x4) : TV), some ((44, .ref x5) : TV), none, none] [((0, .int s0) : TV), ((0, .int s1) : TV)] (gL_isLike_L164 k65 x0 x1 x2 x3 x4 x5 s0 s1) := by
  unfold gL_isLike_L164
  refine N_icmp_ne (pc := 164) (tgt := 253) hc dL_isLike_164 (by decide) ?_ ?_
  · refine N_iconst (pc := 253) (v := 0) hc dL_isLike_253 (by decide) ?_
    exact N_zret (pc := 254) he dL_isLike_254
  · refine N_aload_n (pc := 167) hc dL_isLike_167 rfl rfl ?_
    refine N_iload_n (pc := 168) hc dL_isLike_168 rfl rfl ?_
    refine N_iconst (pc := 169) (v := 1) hc dL_isLike_169 (by decide) ?_
    refine N_callCX (pc := 170) hc clX7 (As := [((0, .int x3) : TV), ((0, .int 1) : TV)]) (KX7_line x0 x3 1) dL_isLike_170 moX7_line rfl tw1153 tw1154 tw1155 tw2 tw1156 rfl (Nat.le_of_ble_eq_true rfl) (Nat.le_of_ble_eq_true rfl) (Nat.le_of_ble_eq_true rfl) rfl (fun _ _ h => by cases h) (fun v30 => ?_)
    show Jw κ (wM κ) 8 fin 173 [some ((7, .ref x0) : TV), some ((54, .ref x1) : TV), some ((0, .int x2) : TV), some ((0, .int x3) : TV), some ((44, .ref x4) : TV), some ((44, .ref x5) : TV), none, none] [((0, .int v30) : TV)] _
    refine N_aload (pc := 173) hc dL_isLike_173 rfl ?_
    refine N_callS (pc := 175) hc (As := [((44, .ref x5) : TV)]) (ZL_bits x5) dL_isLike_175 mzL_bits tw1186 tw1171 tw0 tw1172 rfl (Nat.le_of_ble_eq_true rfl) (Nat.le_of_ble_eq_true rfl) (Nat.le_of_ble_eq_true rfl) rfl (fun v31 => ?_)
    show Jw κ (wM κ) 8 fin 178 [some ((7, .ref x0) : TV), some ((54, .ref x1) : TV), some ((0, .int x2) : TV), some ((0, .int x3) : TV), some ((44, .ref x4) : TV), some ((44, .ref x5) : TV), none, none] [((0, .int v31) : TV), ((0, .int v30) : TV)] _
    refine N_icmp_ne (pc := 178) (tgt := 253) hc dL_isLike_178 (by decide) ?_ ?_
    · refine N_iconst (pc := 253) (v := 0) hc dL_isLike_253 (by decide) ?_
      exact N_zret (pc := 254) he dL_isLike_254
    · refine N_aload_n (pc := 181) hc dL_isLike_181 rfl rfl ?_
      refine N_iload_n (pc := 182) hc dL_isLike_182 rfl rfl ?_
      refine N_iconst (pc := 183) (v := 2) hc dL_isLike_183 (by decide) ?_
      refine N_callCX (pc := 184) hc clX7 (As := [((0, .int x3) : TV), ((0, .int 2) : TV)]) (KX7_line x0 x3 2) dL_isLike_184 moX7_line rfl tw1153 tw1154 tw1155 tw2 tw1156 rfl (Nat.le_of_ble_eq_true rfl) (Nat.le_of_ble_eq_true rfl) (Nat.le_of_ble_eq_true rfl) rfl (fun _ _ h => by cases h) (fun v32 => ?_)
      show Jw κ (wM κ) 8 fin 187 [some ((7, .ref x0) : TV), some ((54, .ref x1) : TV), some ((0, .int x2) : TV), some ((0, .int x3) : TV), some ((44, .ref x4) : TV), some ((44, .ref x5) : TV), none, none] [((0, .int v32) : TV)] _
      refine N_aload (pc := 187) hc dL_isLike_187 rfl ?_
      refine N_callS (pc := 189) hc (As := [((44, .ref x4) : TV)]) (ZL_modeBits x4) dL_isLike_189 mzL_modeBits tw1187 tw1178 tw0 tw1179 rfl (Nat.le_of_ble_eq_true rfl) (Nat.le_of_ble_eq_true rfl) (Nat.le_of_ble_eq_true rfl) rfl (fun v33 => ?_)
      show Jw κ (wM κ) 8 fin 192 [some ((7, .ref x0) : TV), some ((54, .ref x1) : TV), some ((0, .int x2) : TV), some ((0, .int x3) : TV), some ((44, .ref x4) : TV), some ((44, .ref x5) : TV), none, none] [((0, .int v33) : TV), ((0, .int v32) : TV)] _
      refine N_icmp_ne (pc := 192) (tgt := 253) hc dL_isLike_192 (by decide) ?_ ?_
      · refine N_iconst (pc := 253) (v := 0) hc dL_isLike_253 (by decide) ?_
        exact N_zret (pc := 254) he dL_isLike_254
      · refine N_aload_n (pc := 195) hc dL_isLike_195 rfl rfl ?_
        refine N_iload_n (pc := 196) hc dL_isLike_196 rfl rfl ?_
        refine N_iconst (pc := 197) (v := 3) hc dL_isLike_197 (by decide) ?_
        refine N_callCX (pc := 198) hc clX7 (As := [((0, .int x3) : TV), ((0, .int 3) : TV)]) (KX7_line x0 x3 3) dL_isLike_198 moX7_line rfl tw1153 tw1154 tw1155 tw2 tw1156 rfl (Nat.le_of_ble_eq_true rfl) (Nat.le_of_ble_eq_true rfl) (Nat.le_of_ble_eq_true rfl) rfl (fun _ _ h => by cases h) (fun v34 => ?_)
        show Jw κ (wM κ) 8 fin 201 [some ((7, .ref x0) : TV), some ((54, .ref x1) : TV), some ((0, .int x2) : TV), some ((0, .int x3) : TV), some ((44, .ref x4) : TV), some ((44, .ref x5) : TV), none, none] [((0, .int v34) : TV)] _
        refine N_aload_n (pc := 201) hc dL_isLike_201 rfl rfl ?_
        refine N_iload_n (pc := 202) hc dL_isLike_202 rfl rfl ?_
        refine N_callV (pc := 203) hc clX9 (As := [((0, .int x3) : TV)]) (ZX9_bitsOf x1 x3) dL_isLike_203 mzX9_bitsOf rfl tw1188 tw1189 tw1190 tw10 tw1191 rfl (Nat.le_of_ble_eq_true rfl) (Nat.le_of_ble_eq_true rfl) (Nat.le_of_ble_eq_true rfl) rfl (fun v35 => ?_)
        show Jw κ (wM κ) 8 fin 206 [some ((7, .ref x0) : TV), some ((54, .ref x1) : TV), some ((0, .int x2) : TV), some ((0, .int x3) : TV), some ((44, .ref x4) : TV), some ((44, .ref x5) : TV), none, none] [((0, .int v35) : TV), ((0, .int v34) : TV)] _
        refine N_icmp_ne (pc := 206) (tgt := 253) hc dL_isLike_206 (by decide) ?_ ?_
        · refine N_iconst (pc := 253) (v := 0) hc dL_isLike_253 (by decide) ?_
          exact N_zret (pc := 254) he dL_isLike_254
        · refine N_aload_n (pc := 209) hc dL_isLike_209 rfl rfl ?_
          refine N_iload_n (pc := 210) hc dL_isLike_210 rfl rfl ?_
          refine N_iconst (pc := 211) (v := 4) hc dL_isLike_211 (by decide) ?_
          refine N_callCX (pc := 212) hc clX7 (As := [((0, .int x3) : TV), ((0, .int 4) : TV)]) (KX7_line x0 x3 4) dL_isLike_212 moX7_line rfl tw1153 tw1154 tw1155 tw2 tw1156 rfl (Nat.le_of_ble_eq_true rfl) (Nat.le_of_ble_eq_true rfl) (Nat.le_of_ble_eq_true rfl) rfl (fun _ _ h => by cases h) (fun v36 => ?_)
          show Jw κ (wM κ) 8 fin 215 [some ((7, .ref x0) : TV), some ((54, .ref x1) : TV), some ((0, .int x2) : TV), some ((0, .int x3) : TV), some ((44, .ref x4) : TV), some ((44, .ref x5) : TV), none, none] [((0, .int v36) : TV)] _
          refine N_aload (pc := 215) hc dL_isLike_215 rfl ?_
          refine N_callV (pc := 217) hc clJx4a65c (As := []) (ZJx4a65c_size_8abf5 x5) dL_isLike_217 mzJx4a65c_size_8abf5 rfl tw975 tw976 tw977 tw13 tw978 rfl (Nat.le_of_ble_eq_true rfl) (Nat.le_of_ble_eq_true rfl) (Nat.le_of_ble_eq_true rfl) rfl (fun v37 => ?_)
          show Jw κ (wM κ) 8 fin 220 [some ((7, .ref x0) : TV), some ((54, .ref x1) : TV), some ((0, .int x2) : TV), some ((0, .int x3) : TV), some ((44, .ref x4) : TV), some ((44, .ref x5) : TV), none, none] [((0, .int v37) : TV), ((0, .int v36) : TV)] _
          refine N_icmp_ne (pc := 220) (tgt := 253) hc dL_isLike_220 (by decide) ?_ ?_
          · refine N_iconst (pc := 253) (v := 0) hc dL_isLike_253 (by decide) ?_
            exact N_zret (pc := 254) he dL_isLike_254
          · refine N_aload_n (pc := 223) hc dL_isLike_223 rfl rfl ?_
            refine N_iload_n (pc := 224) hc dL_isLike_224 rfl rfl ?_
            refine N_iconst (pc := 225) (v := 5) hc dL_isLike_225 (by decide) ?_
            refine N_callCX (pc := 226) hc clX7 (As := [((0, .int x3) : TV), ((0, .int 5) : TV)]) (KX7_line x0 x3 5) dL_isLike_226 moX7_line rfl tw1153 tw1154 tw1155 tw2 tw1156 rfl (Nat.le_of_ble_eq_true rfl) (Nat.le_of_ble_eq_true rfl) (Nat.le_of_ble_eq_true rfl) rfl (fun _ _ h => by cases h) (fun v38 => ?_)
            show Jw κ (wM κ) 8 fin 229 [some ((7, .ref x0) : TV), some ((54, .ref x1) : TV), some ((0, .int x2) : TV), some ((0, .int x3) : TV), some ((44, .ref x4) : TV), some ((44, .ref x5) : TV), none, none] [((0, .int v38) : TV)] _
            refine N_aload (pc := 229) hc dL_isLike_229 rfl ?_
            refine N_callV (pc := 231) hc clJx4a65c (As := []) (ZJx4a65c_size_8abf5 x4) dL_isLike_231 mzJx4a65c_size_8abf5 rfl tw975 tw976 tw977 tw13 tw978 rfl (Nat.le_of_ble_eq_true rfl) (Nat.le_of_ble_eq_true rfl) (Nat.le_of_ble_eq_true rfl) rfl (fun v39 => ?_)
            show Jw κ (wM κ) 8 fin 234 [some ((7, .ref x0) : TV), some ((54, .ref x1) : TV), some ((0, .int x2) : TV), some ((0, .int x3) : TV), some ((44, .ref x4) : TV), some ((44, .ref x5) : TV), none, none] [((0, .int v39) : TV), ((0, .int v38) : TV)] _
            refine N_icmp_ne (pc := 234) (tgt := 253) hc dL_isLike_234 (by decide) ?_ ?_
            · refine N_iconst (pc := 253) (v := 0) hc dL_isLike_253 (by decide) ?_
              exact N_zret (pc := 254) he dL_isLike_254
            · refine N_aload_n (pc := 237) hc dL_isLike_237 rfl rfl ?_
              refine N_iload_n (pc := 238) hc dL_isLike_238 rfl rfl ?_
              refine N_bipush (pc := 239) (v := 9) hc dL_isLike_239 (by decide) ?_
              refine N_callCX (pc := 241) hc clX7 (As := [((0, .int x3) : TV), ((0, .int 9) : TV)]) (KX7_line x0 x3 9) dL_isLike_241 moX7_line rfl tw1153 tw1154 tw1155 tw2 tw1156 rfl (Nat.le_of_ble_eq_true rfl) (Nat.le_of_ble_eq_true rfl) (Nat.le_of_ble_eq_true rfl) rfl (fun _ _ h => by cases h) (fun v40 => ?_)
              show Jw κ (wM κ) 8 fin 244 [some ((7, .ref x0) : TV), some ((54, .ref x1) : TV), some ((0, .int x2) : TV), some ((0, .int x3) : TV), some ((44, .ref x4) : TV), some ((44, .ref x5) : TV), none, none] [((0, .int v40) : TV)] _
              refine N_aload_n (pc := 244) hc dL_isLike_244 rfl rfl ?_
              refine N_getNA (pc := 245) hc clX9 (k := 2) (kd := 11) (Nat.le_of_ble_eq_true rfl) rfl (Nat.le_of_ble_eq_true rfl) (hst0 := "DotRunsLaw") (by decide +kernel) dL_isLike_245 (fun v41 => ?_)
              refine N_iload_n (pc := 248) hc dL_isLike_248 rfl rfl ?_
              refine N_iald (pc := 249) hc dL_isLike_249 (fun v42 => ?_)
              refine N_icmp_eq (pc := 250) (tgt := 255) hc dL_isLike_250 (by decide) ?_ ?_
              · refine N_iconst (pc := 255) (v := 0) hc dL_isLike_255 (by decide) ?_
                refine N_istore (pc := 256) (l' := [some ((7, .ref x0) : TV), some ((54, .ref x1) : TV), some ((0, .int x2) : TV), some ((0, .int x3) : TV), some ((44, .ref x4) : TV), some ((44, .ref x5) : TV), some ((0, .int 0) : TV), none]) hc dL_isLike_256 (by decide) rfl rfl ?_
                refine N_sub (l' := [some ((7, .ref x0) : TV), some ((54, .ref x1) : TV), some ((0, .int x2) : TV), some ((0, .int x3) : TV), some ((44, .ref x4) : TV), some ((44, .ref x5) : TV), some ((0, .int 0) : TV), none]) ⟨rfl, ⟨rfl, ⟨rfl, ⟨rfl, ⟨rfl, ⟨rfl, ⟨rfl, trivial⟩⟩⟩⟩⟩⟩⟩ ?_
                exact qL_isLike_L258 hc he hk65 fu x0 x1 x2 x3 x4 x5 0
              · refine N_iconst (pc := 253) (v := 0) hc dL_isLike_253 (by decide) ?_
                exact N_zret (pc := 254) he dL_isLike_254
set_option maxRecDepth 100000 in
set_option maxHeartbeats 8000000 in
theorem qL_isLike_L111 {κ : Cx} {fin : Int32 → Mm → Prop} {mc ms : Nat} (hc : Jc κ RL cL_isLike 8 13 mc ms 369) (he : EdW κ cL_isLike tI .ireturn (fun a => a = 0 ∨ a = 1) fin) {k73 : Nat → Nat → Int32 → Int32 → Int32 → Mm → Option (Int32 × Mm × Nat × Nat)} (hk73 : ∀ (x0 : Nat) (x1 : Nat) (x2 : Int32) (x3 : Int32) (x4 : Int32), Jw κ (wM κ) 8 fin 73 [some ((7, .ref x0) : TV), some ((54, .ref x1) : TV), some ((0, .int x2) : TV), some ((0, .int x3) : TV), some ((0, .int x4) : TV), none, none, none] [] (k73 x0 x1 x2 x3 x4)) (x0 : Nat) (x1 : Nat) (x2 : Int32) (x3 : Int32) (x4 : Int32) (s0 : Int32) (s1 : Int32) : Jw κ (wM κ) 8 fin 111 [some ((7, .ref x0) : TV), some ((54, .ref x1) : TV), some ((0, .int x2) : TV), some ((0, .int x3) : TV), some ((0, .int x4) : TV), none, none, none] [((0, .int s0) : TV), ((0, .int s1) : TV)] (gL_isLike_L111 k73 x0 x1 x2 x3 x4 s0 s1) := by
  unfold gL_isLike_L111
  refine N_icmp_eq (pc := 111) (tgt := 116) hc dL_isLike_111 (by decide) ?_ ?_
  · refine N_iinc (pc := 116) (v := x4 + 1) (l' := [some ((7, .ref x0) : TV), some ((54, .ref x1) : TV), some ((0, .int x2) : TV), some ((0, .int x3) : TV), some ((0, .int (x4 + 1)) : TV), none, none, none]) hc dL_isLike_116 rfl rfl (by decide) rfl rfl ?_
    refine N_goto (pc := 119) (tgt := 73) hc dL_isLike_119 (by decide) ?_
    refine N_sub (l' := [some ((7, .ref x0) : TV), some ((54, .ref x1) : TV), some ((0, .int x2) : TV), some ((0, .int x3) : TV), some ((0, .int (x4 + 1)) : TV), none, none, none]) ⟨rfl, ⟨rfl, ⟨rfl, ⟨rfl, ⟨rfl, trivial⟩⟩⟩⟩⟩ ?_
    exact hk73 x0 x1 x2 x3 (x4 + 1)
  · refine N_iconst (pc := 114) (v := 0) hc dL_isLike_114 (by decide) ?_
    exact N_zret (pc := 115) he dL_isLike_115
set_option maxRecDepth 100000 in
set_option maxHeartbeats 8000000 in
theorem qL_isLike_L73 {κ : Cx} {fin : Int32 → Mm → Prop} {mc ms : Nat} (hc : Jc κ RL cL_isLike 8 13 mc ms 369) (he : EdW κ cL_isLike tI .ireturn (fun a => a = 0 ∨ a = 1) fin) {k65 : Nat → Nat → Int32 → Int32 → Mm → Option (Int32 × Mm × Nat × Nat)} (hk65 : ∀ (x0 : Nat) (x1 : Nat) (x2 : Int32) (x3 : Int32), Jw κ (wM κ) 8 fin 65 [some ((7, .ref x0) : TV), some ((54, .ref x1) : TV), some ((0, .int x2) : TV), some ((0, .int x3) : TV), none, none, none, none] [] (k65 x0 x1 x2 x3)) : ∀ (n : Nat) (x0 : Nat) (x1 : Nat) (x2 : Int32) (x3 : Int32) (x4 : Int32), Jw κ (wM κ) 8 fin 73 [some ((7, .ref x0) : TV), some ((54, .ref x1) : TV), some ((0, .int x2) : TV), some ((0, .int x3) : TV), some ((0, .int x4) : TV), none, none, none] [] (gL_isLike_L73 k65 n x0 x1 x2 x3 x4) := by
  intro n
  induction n with
  | zero => intro x0 x1 x2 x3 x4; exact N_fail
  | succ n ih =>
    intro x0 x1 x2 x3 x4
    unfold gL_isLike_L73
    refine N_iload (pc := 73) hc dL_isLike_73 rfl ?_
    refine N_aload_n (pc := 75) hc dL_isLike_75 rfl rfl ?_
    refine N_getNI (pc := 76) hc clX9 (k := 0) (Nat.le_of_ble_eq_true rfl) rfl (hst0 := "DotRunsLaw") (by decide +kernel) dL_isLike_76 (fun v43 => ?_)
    refine N_icmp_ge (pc := 79) (tgt := 122) hc dL_isLike_79 (by decide) ?_ ?_
    · refine N_aload_n (pc := 122) hc dL_isLike_122 rfl rfl ?_
      refine N_iload_n (pc := 123) hc dL_isLike_123 rfl rfl ?_
      refine N_callV (pc := 124) hc clX9 (As := [((0, .int x3) : TV)]) (ZX9_codeOf x1 x3) dL_isLike_124 mzX9_codeOf rfl tw1071 tw1072 tw1073 tw10 tw1074 rfl (Nat.le_of_ble_eq_true rfl) (Nat.le_of_ble_eq_true rfl) (Nat.le_of_ble_eq_true rfl) rfl (fun h44 => ?_)
      show Jw κ (wM κ) 8 fin 127 [some ((7, .ref x0) : TV), some ((54, .ref x1) : TV), some ((0, .int x2) : TV), some ((0, .int x3) : TV), some ((0, .int x4) : TV), none, none, none] [((44, .ref h44) : TV)] _
      refine N_astore (pc := 127) (l' := [some ((7, .ref x0) : TV), some ((54, .ref x1) : TV), some ((0, .int x2) : TV), some ((0, .int x3) : TV), some ((44, .ref h44) : TV), none, none, none]) hc dL_isLike_127 (by decide) rfl rfl ?_
      refine N_aload_n (pc := 129) hc dL_isLike_129 rfl rfl ?_
      refine N_getNA (pc := 130) hc clX9 (k := 3) (kd := 44) (Nat.le_of_ble_eq_true rfl) rfl (Nat.le_of_ble_eq_true rfl) (hst0 := "DotRunsLaw") (by decide +kernel) dL_isLike_130 (fun v45 => ?_)
      refine N_iload_n (pc := 133) hc dL_isLike_133 rfl rfl ?_
      refine N_callV (pc := 134) hc clJx4a65c (As := [((0, .int x3) : TV)]) (ZJx4a65c_get_915e3 v45 x3) dL_isLike_134 mzJx4a65c_get_915e3 rfl tw1058 tw1059 tw1060 tw13 tw1061 rfl (Nat.le_of_ble_eq_true rfl) (Nat.le_of_ble_eq_true rfl) (Nat.le_of_ble_eq_true rfl) rfl (fun h46 => ?_)
      show Jw κ (wM κ) 8 fin 137 [some ((7, .ref x0) : TV), some ((54, .ref x1) : TV), some ((0, .int x2) : TV), some ((0, .int x3) : TV), some ((44, .ref h44) : TV), none, none, none] [((16, .ref h46) : TV)] _
      refine N_castZ (pc := 137) hc tw1070 dL_isLike_137 ?_
      refine N_callS (pc := 140) hc (As := [((13, .ref h46) : TV)]) (ZL_alone h46) dL_isLike_140 mzL_alone tw1150 tw1151 tw0 tw1152 rfl (Nat.le_of_ble_eq_true rfl) (Nat.le_of_ble_eq_true rfl) (Nat.le_of_ble_eq_true rfl) rfl (fun h47 => ?_)
      show Jw κ (wM κ) 8 fin 143 [some ((7, .ref x0) : TV), some ((54, .ref x1) : TV), some ((0, .int x2) : TV), some ((0, .int x3) : TV), some ((44, .ref h44) : TV), none, none, none] [((44, .ref h47) : TV)] _
      refine N_astore (pc := 143) (l' := [some ((7, .ref x0) : TV), some ((54, .ref x1) : TV), some ((0, .int x2) : TV), some ((0, .int x3) : TV), some ((44, .ref h44) : TV), some ((44, .ref h47) : TV), none, none]) hc dL_isLike_143 (by decide) rfl rfl ?_
      refine N_aload_n (pc := 145) hc dL_isLike_145 rfl rfl ?_
      refine N_iload_n (pc := 146) hc dL_isLike_146 rfl rfl ?_
      refine N_iconst (pc := 147) (v := 0) hc dL_isLike_147 (by decide) ?_
      refine N_callCX (pc := 148) hc clX7 (As := [((0, .int x3) : TV), ((0, .int 0) : TV)]) (KX7_line x0 x3 0) dL_isLike_148 moX7_line rfl tw1153 tw1154 tw1155 tw2 tw1156 rfl (Nat.le_of_ble_eq_true rfl) (Nat.le_of_ble_eq_true rfl) (Nat.le_of_ble_eq_true rfl) rfl (fun _ _ h => by cases h) (fun v48 => ?_)
      show Jw κ (wM κ) 8 fin 151 [some ((7, .ref x0) : TV), some ((54, .ref x1) : TV), some ((0, .int x2) : TV), some ((0, .int x3) : TV), some ((44, .ref h44) : TV), some ((44, .ref h47) : TV), none, none] [((0, .int v48) : TV)] _
      refine N_aload_n (pc := 151) hc dL_isLike_151 rfl rfl ?_
      refine N_iload_n (pc := 152) hc dL_isLike_152 rfl rfl ?_
      refine N_callV (pc := 153) hc clX9 (As := [((0, .int x3) : TV)]) (ZX9_isMark x1 x3) dL_isLike_153 mzX9_isMark rfl tw1165 tw1166 tw1167 tw10 tw1168 rfl (Nat.le_of_ble_eq_true rfl) (Nat.le_of_ble_eq_true rfl) (Nat.le_of_ble_eq_true rfl) rfl (fun v49 => ?_)
      show Jw κ (wM κ) 8 fin 156 [some ((7, .ref x0) : TV), some ((54, .ref x1) : TV), some ((0, .int x2) : TV), some ((0, .int x3) : TV), some ((44, .ref h44) : TV), some ((44, .ref h47) : TV), none, none] [((0, .int v49) : TV), ((0, .int v48) : TV)] _
      refine N_if_eq (pc := 156) (tgt := 163) hc dL_isLike_156 (by decide) ?_ ?_
      · refine N_iconst (pc := 163) (v := 0) hc dL_isLike_163 (by decide) ?_
        refine N_sub (l' := [some ((7, .ref x0) : TV), some ((54, .ref x1) : TV), some ((0, .int x2) : TV), some ((0, .int x3) : TV), some ((44, .ref h44) : TV), some ((44, .ref h47) : TV), none, none]) ⟨rfl, ⟨rfl, ⟨rfl, ⟨rfl, ⟨rfl, ⟨rfl, trivial⟩⟩⟩⟩⟩⟩ ?_
        exact qL_isLike_L164 hc he hk65 x0 x1 x2 x3 h44 h47 0 v48
      · refine N_iconst (pc := 159) (v := 1) hc dL_isLike_159 (by decide) ?_
        refine N_goto (pc := 160) (tgt := 164) hc dL_isLike_160 (by decide) ?_
        refine N_sub (l' := [some ((7, .ref x0) : TV), some ((54, .ref x1) : TV), some ((0, .int x2) : TV), some ((0, .int x3) : TV), some ((44, .ref h44) : TV), some ((44, .ref h47) : TV), none, none]) ⟨rfl, ⟨rfl, ⟨rfl, ⟨rfl, ⟨rfl, ⟨rfl, trivial⟩⟩⟩⟩⟩⟩ ?_
        exact qL_isLike_L164 hc he hk65 x0 x1 x2 x3 h44 h47 1 v48
    · refine N_aload_n (pc := 82) hc dL_isLike_82 rfl rfl ?_
      refine N_iload_n (pc := 83) hc dL_isLike_83 rfl rfl ?_
      refine N_iload (pc := 84) hc dL_isLike_84 rfl ?_
      refine N_callCX (pc := 86) hc clX7 (As := [((0, .int x3) : TV), ((0, .int x4) : TV)]) (KX7_dot x0 x3 x4) dL_isLike_86 moX7_dot rfl tw1046 tw1047 tw1048 tw2 tw1049 rfl (Nat.le_of_ble_eq_true rfl) (Nat.le_of_ble_eq_true rfl) (Nat.le_of_ble_eq_true rfl) rfl (fun _ _ h => by cases h) (fun v50 => ?_)
      show Jw κ (wM κ) 8 fin 89 [some ((7, .ref x0) : TV), some ((54, .ref x1) : TV), some ((0, .int x2) : TV), some ((0, .int x3) : TV), some ((0, .int x4) : TV), none, none, none] [((0, .int v50) : TV)] _
      refine N_aload_n (pc := 89) hc dL_isLike_89 rfl rfl ?_
      refine N_getNA (pc := 90) hc clX9 (k := 3) (kd := 44) (Nat.le_of_ble_eq_true rfl) rfl (Nat.le_of_ble_eq_true rfl) (hst0 := "DotRunsLaw") (by decide +kernel) dL_isLike_90 (fun v51 => ?_)
      refine N_iload_n (pc := 93) hc dL_isLike_93 rfl rfl ?_
      refine N_callV (pc := 94) hc clJx4a65c (As := [((0, .int x3) : TV)]) (ZJx4a65c_get_915e3 v51 x3) dL_isLike_94 mzJx4a65c_get_915e3 rfl tw1058 tw1059 tw1060 tw13 tw1061 rfl (Nat.le_of_ble_eq_true rfl) (Nat.le_of_ble_eq_true rfl) (Nat.le_of_ble_eq_true rfl) rfl (fun h52 => ?_)
      show Jw κ (wM κ) 8 fin 97 [some ((7, .ref x0) : TV), some ((54, .ref x1) : TV), some ((0, .int x2) : TV), some ((0, .int x3) : TV), some ((0, .int x4) : TV), none, none, none] [((16, .ref h52) : TV), ((0, .int v50) : TV)] _
      refine N_castZ (pc := 97) hc tw1070 dL_isLike_97 ?_
      refine N_iload (pc := 100) hc dL_isLike_100 rfl ?_
      refine N_zald (pc := 102) hc dL_isLike_102 (fun v53 => ?_)
      refine N_if_eq (pc := 103) (tgt := 110) hc dL_isLike_103 (by decide) ?_ ?_
      · refine N_iconst (pc := 110) (v := 0) hc dL_isLike_110 (by decide) ?_
        refine N_sub (l' := [some ((7, .ref x0) : TV), some ((54, .ref x1) : TV), some ((0, .int x2) : TV), some ((0, .int x3) : TV), some ((0, .int x4) : TV), none, none, none]) ⟨rfl, ⟨rfl, ⟨rfl, ⟨rfl, ⟨rfl, trivial⟩⟩⟩⟩⟩ ?_
        exact qL_isLike_L111 hc he ih x0 x1 x2 x3 x4 0 v50
      · refine N_iconst (pc := 106) (v := 1) hc dL_isLike_106 (by decide) ?_
        refine N_goto (pc := 107) (tgt := 111) hc dL_isLike_107 (by decide) ?_
        refine N_sub (l' := [some ((7, .ref x0) : TV), some ((54, .ref x1) : TV), some ((0, .int x2) : TV), some ((0, .int x3) : TV), some ((0, .int x4) : TV), none, none, none]) ⟨rfl, ⟨rfl, ⟨rfl, ⟨rfl, ⟨rfl, trivial⟩⟩⟩⟩⟩ ?_
        exact qL_isLike_L111 hc he ih x0 x1 x2 x3 x4 1 v50
set_option maxRecDepth 100000 in
set_option maxHeartbeats 8000000 in
theorem qL_isLike_L65 {κ : Cx} {fin : Int32 → Mm → Prop} {mc ms : Nat} (hc : Jc κ RL cL_isLike 8 13 mc ms 369) (he : EdW κ cL_isLike tI .ireturn (fun a => a = 0 ∨ a = 1) fin) : ∀ (n : Nat) (x0 : Nat) (x1 : Nat) (x2 : Int32) (x3 : Int32), Jw κ (wM κ) 8 fin 65 [some ((7, .ref x0) : TV), some ((54, .ref x1) : TV), some ((0, .int x2) : TV), some ((0, .int x3) : TV), none, none, none, none] [] (gL_isLike_L65 n x0 x1 x2 x3) := by
  intro n
  induction n with
  | zero => intro x0 x1 x2 x3; exact N_fail
  | succ n ih =>
    intro x0 x1 x2 x3
    unfold gL_isLike_L65
    refine N_iload_n (pc := 65) hc dL_isLike_65 rfl rfl ?_
    refine N_iload_n (pc := 66) hc dL_isLike_66 rfl rfl ?_
    refine N_icmp_ge (pc := 67) (tgt := 512) hc dL_isLike_67 (by decide) ?_ ?_
    · refine N_iconst (pc := 512) (v := 1) hc dL_isLike_512 (by decide) ?_
      exact N_zret (pc := 513) he dL_isLike_513
    · refine N_iconst (pc := 70) (v := 0) hc dL_isLike_70 (by decide) ?_
      refine N_istore (pc := 71) (l' := [some ((7, .ref x0) : TV), some ((54, .ref x1) : TV), some ((0, .int x2) : TV), some ((0, .int x3) : TV), some ((0, .int 0) : TV), none, none, none]) hc dL_isLike_71 (by decide) rfl rfl ?_
      refine N_sub (l' := [some ((7, .ref x0) : TV), some ((54, .ref x1) : TV), some ((0, .int x2) : TV), some ((0, .int x3) : TV), some ((0, .int 0) : TV), none, none, none]) ⟨rfl, ⟨rfl, ⟨rfl, ⟨rfl, ⟨rfl, trivial⟩⟩⟩⟩⟩ ?_
      exact qL_isLike_L73 hc he ih fu x0 x1 x2 x3 0
set_option maxRecDepth 100000 in
set_option maxHeartbeats 8000000 in
theorem qL_isLike_L35 {κ : Cx} {fin : Int32 → Mm → Prop} {mc ms : Nat} (hc : Jc κ RL cL_isLike 8 13 mc ms 369) (he : EdW κ cL_isLike tI .ireturn (fun a => a = 0 ∨ a = 1) fin) : ∀ (n : Nat) (x0 : Nat) (x1 : Nat) (x2 : Int32) (x3 : Int32), Jw κ (wM κ) 8 fin 35 [some ((7, .ref x0) : TV), some ((54, .ref x1) : TV), some ((0, .int x2) : TV), some ((0, .int x3) : TV), none, none, none, none] [] (gL_isLike_L35 n x0 x1 x2 x3) := by
  intro n
  induction n with
  | zero => intro x0 x1 x2 x3; exact N_fail
  | succ n ih =>
    intro x0 x1 x2 x3
    unfold gL_isLike_L35
    refine N_iload_n (pc := 35) hc dL_isLike_35 rfl rfl ?_
    refine N_bipush (pc := 36) (v := 6) hc dL_isLike_36 (by decide) ?_
    refine N_icmp_ge (pc := 38) (tgt := 63) hc dL_isLike_38 (by decide) ?_ ?_
    · refine N_iconst (pc := 63) (v := 0) hc dL_isLike_63 (by decide) ?_
      refine N_istore_n (pc := 64) (l' := [some ((7, .ref x0) : TV), some ((54, .ref x1) : TV), some ((0, .int x2) : TV), some ((0, .int 0) : TV), none, none, none, none]) hc dL_isLike_64 rfl (by decide) rfl rfl ?_
      refine N_sub (l' := [some ((7, .ref x0) : TV), some ((54, .ref x1) : TV), some ((0, .int x2) : TV), some ((0, .int 0) : TV), none, none, none, none]) ⟨rfl, ⟨rfl, ⟨rfl, ⟨rfl, trivial⟩⟩⟩⟩ ?_
      exact qL_isLike_L65 hc he fu x0 x1 x2 0
    · refine N_aload_n (pc := 41) hc dL_isLike_41 rfl rfl ?_
      refine N_iload_n (pc := 42) hc dL_isLike_42 rfl rfl ?_
      refine N_callCX (pc := 43) hc clX7 (As := [((0, .int x3) : TV)]) (KX7_count x0 x3) dL_isLike_43 moX7_count rfl tw979 tw980 tw981 tw2 tw982 rfl (Nat.le_of_ble_eq_true rfl) (Nat.le_of_ble_eq_true rfl) (Nat.le_of_ble_eq_true rfl) rfl (fun _ _ h => by cases h) (fun v54 => ?_)
      show Jw κ (wM κ) 8 fin 46 [some ((7, .ref x0) : TV), some ((54, .ref x1) : TV), some ((0, .int x2) : TV), some ((0, .int x3) : TV), none, none, none, none] [((0, .int v54) : TV)] _
      refine N_aload_n (pc := 46) hc dL_isLike_46 rfl rfl ?_
      refine N_getNA (pc := 47) hc clX9 (k := 1) (kd := 11) (Nat.le_of_ble_eq_true rfl) rfl (Nat.le_of_ble_eq_true rfl) (hst0 := "DotRunsLaw") (by decide +kernel) dL_isLike_47 (fun v55 => ?_)
      refine N_iload_n (pc := 50) hc dL_isLike_50 rfl rfl ?_
      refine N_iald (pc := 51) hc dL_isLike_51 (fun v56 => ?_)
      refine N_icmp_eq (pc := 52) (tgt := 57) hc dL_isLike_52 (by decide) ?_ ?_
      · refine N_iinc (pc := 57) (v := x3 + 1) (l' := [some ((7, .ref x0) : TV), some ((54, .ref x1) : TV), some ((0, .int x2) : TV), some ((0, .int (x3 + 1)) : TV), none, none, none, none]) hc dL_isLike_57 rfl rfl (by decide) rfl rfl ?_
        refine N_goto (pc := 60) (tgt := 35) hc dL_isLike_60 (by decide) ?_
        refine N_sub (l' := [some ((7, .ref x0) : TV), some ((54, .ref x1) : TV), some ((0, .int x2) : TV), some ((0, .int (x3 + 1)) : TV), none, none, none, none]) ⟨rfl, ⟨rfl, ⟨rfl, ⟨rfl, trivial⟩⟩⟩⟩ ?_
        exact ih x0 x1 x2 (x3 + 1)
      · refine N_iconst (pc := 55) (v := 0) hc dL_isLike_55 (by decide) ?_
        exact N_zret (pc := 56) he dL_isLike_56
set_option maxRecDepth 100000 in
set_option maxHeartbeats 8000000 in
theorem qL_isLike {κ : Cx} {fin : Int32 → Mm → Prop} {mc ms : Nat} (hc : Jc κ RL cL_isLike 8 13 mc ms 369) (he : EdW κ cL_isLike tI .ireturn (fun a => a = 0 ∨ a = 1) fin) (x0 : Nat) (x1 : Nat) : Jw κ (wM κ) 8 fin 0 [some ((7, .ref x0) : TV), some ((54, .ref x1) : TV), none, none, none, none, none, none] [] (gL_isLike x0 x1) := by
  unfold gL_isLike
  refine N_aload_n (pc := 0) hc dL_isLike_0 rfl rfl ?_
  refine N_getNA (pc := 1) hc clX9 (k := 3) (kd := 44) (Nat.le_of_ble_eq_true rfl) rfl (Nat.le_of_ble_eq_true rfl) (hst0 := "DotRunsLaw") (by decide +kernel) dL_isLike_1 (fun v57 => ?_)
  refine N_callV (pc := 4) hc clJx4a65c (As := []) (ZJx4a65c_size_8abf5 v57) dL_isLike_4 mzJx4a65c_size_8abf5 rfl tw975 tw976 tw977 tw13 tw978 rfl (Nat.le_of_ble_eq_true rfl) (Nat.le_of_ble_eq_true rfl) (Nat.le_of_ble_eq_true rfl) rfl (fun v58 => ?_)
  show Jw κ (wM κ) 8 fin 7 [some ((7, .ref x0) : TV), some ((54, .ref x1) : TV), none, none, none, none, none, none] [((0, .int v58) : TV)] _
  refine N_istore_n (pc := 7) (l' := [some ((7, .ref x0) : TV), some ((54, .ref x1) : TV), some ((0, .int v58) : TV), none, none, none, none, none]) hc dL_isLike_7 rfl (by decide) rfl rfl ?_
  refine N_aload_n (pc := 8) hc dL_isLike_8 rfl rfl ?_
  refine N_bipush (pc := 9) (v := 6) hc dL_isLike_9 (by decide) ?_
  refine N_callCX (pc := 11) hc clX7 (As := [((0, .int 6) : TV)]) (KX7_count x0 6) dL_isLike_11 moX7_count rfl tw979 tw980 tw981 tw2 tw982 rfl (Nat.le_of_ble_eq_true rfl) (Nat.le_of_ble_eq_true rfl) (Nat.le_of_ble_eq_true rfl) rfl (fun _ _ h => by cases h) (fun v59 => ?_)
  show Jw κ (wM κ) 8 fin 14 [some ((7, .ref x0) : TV), some ((54, .ref x1) : TV), some ((0, .int v58) : TV), none, none, none, none, none] [((0, .int v59) : TV)] _
  refine N_aload_n (pc := 14) hc dL_isLike_14 rfl rfl ?_
  refine N_getNI (pc := 15) hc clX9 (k := 0) (Nat.le_of_ble_eq_true rfl) rfl (hst0 := "DotRunsLaw") (by decide +kernel) dL_isLike_15 (fun v60 => ?_)
  refine N_icmp_ne (pc := 18) (tgt := 31) hc dL_isLike_18 (by decide) ?_ ?_
  · refine N_iconst (pc := 31) (v := 0) hc dL_isLike_31 (by decide) ?_
    exact N_zret (pc := 32) he dL_isLike_32
  · refine N_aload_n (pc := 21) hc dL_isLike_21 rfl rfl ?_
    refine N_bipush (pc := 22) (v := 7) hc dL_isLike_22 (by decide) ?_
    refine N_callCX (pc := 24) hc clX7 (As := [((0, .int 7) : TV)]) (KX7_count x0 7) dL_isLike_24 moX7_count rfl tw979 tw980 tw981 tw2 tw982 rfl (Nat.le_of_ble_eq_true rfl) (Nat.le_of_ble_eq_true rfl) (Nat.le_of_ble_eq_true rfl) rfl (fun _ _ h => by cases h) (fun v61 => ?_)
    show Jw κ (wM κ) 8 fin 27 [some ((7, .ref x0) : TV), some ((54, .ref x1) : TV), some ((0, .int v58) : TV), none, none, none, none, none] [((0, .int v61) : TV)] _
    refine N_iload_n (pc := 27) hc dL_isLike_27 rfl rfl ?_
    refine N_icmp_eq (pc := 28) (tgt := 33) hc dL_isLike_28 (by decide) ?_ ?_
    · refine N_iconst (pc := 33) (v := 0) hc dL_isLike_33 (by decide) ?_
      refine N_istore_n (pc := 34) (l' := [some ((7, .ref x0) : TV), some ((54, .ref x1) : TV), some ((0, .int v58) : TV), some ((0, .int 0) : TV), none, none, none, none]) hc dL_isLike_34 rfl (by decide) rfl rfl ?_
      refine N_sub (l' := [some ((7, .ref x0) : TV), some ((54, .ref x1) : TV), some ((0, .int v58) : TV), some ((0, .int 0) : TV), none, none, none, none]) ⟨rfl, ⟨rfl, ⟨rfl, ⟨rfl, trivial⟩⟩⟩⟩ ?_
      exact qL_isLike_L35 hc he fu x0 x1 v58 0
    · refine N_iconst (pc := 31) (v := 0) hc dL_isLike_31 (by decide) ?_
      exact N_zret (pc := 32) he dL_isLike_32
theorem mzL_isLike : MOk yL_isLike 2 := ⟨by decide +kernel, by decide +kernel, by decide +kernel⟩
set_option maxRecDepth 100000 in
set_option maxHeartbeats 8000000 in
theorem ZL_isLike (x0 : Nat) (x1 : Nat) : Cw tI yL_isLike cL_isLike 8 (some .boolean) 13 369 [((7, .ref x0) : TV), ((54, .ref x1) : TV)] (gL_isLike x0 x1) :=
  Cw_Z ⟨rfl, rfl⟩ (j := 6) (by decide +kernel) rfl rfl (Nat.le_of_ble_eq_true rfl) (fun κ fin mc ms hc he => qL_isLike hc he x0 x1)
set_option maxRecDepth 100000 in
set_option maxHeartbeats 8000000 in
theorem qX9_send_L430 {κ : Cx} {fin : Unit → Mm → Prop} {mc ms : Nat} (hc : Jc κ RX9 cX9_send 6 13 mc ms 369) (he : EdW κ cX9_send tV .return_ (fun _ => True) fin) {k96 : Nat → Int32 → Int32 → Mm → Option (Unit × Mm × Nat × Nat)} (hk96 : ∀ (x0 : Nat) (x1 : Int32) (x2 : Int32), Jw κ (wM κ) 6 fin 96 [some ((54, .ref x0) : TV), some ((0, .int x1) : TV), some ((0, .int x2) : TV), none, none, none] [] (k96 x0 x1 x2)) (x0 : Nat) (x1 : Int32) (x2 : Int32) : Jw κ (wM κ) 6 fin 430 [some ((54, .ref x0) : TV), some ((0, .int x1) : TV), some ((0, .int x2) : TV), none, none, none] [] (gX9_send_L430 k96 x0 x1 x2) := by
  unfold gX9_send_L430
  refine N_iinc (pc := 430) (v := x2 + 1) (l' := [some ((54, .ref x0) : TV), some ((0, .int x1) : TV), some ((0, .int (x2 + 1)) : TV), none, none, none]) hc dX9_send_430 rfl rfl (by decide) rfl rfl ?_
  refine N_goto (pc := 433) (tgt := 96) hc dX9_send_433 (by decide) ?_
  refine N_sub (l' := [some ((54, .ref x0) : TV), some ((0, .int x1) : TV), some ((0, .int (x2 + 1)) : TV), none, none, none]) ⟨rfl, ⟨rfl, ⟨rfl, trivial⟩⟩⟩ ?_
  exact hk96 x0 x1 (x2 + 1)
set_option maxRecDepth 100000 in
set_option maxHeartbeats 8000000 in
theorem qX9_send_L429 {κ : Cx} {fin : Unit → Mm → Prop} {mc ms : Nat} (hc : Jc κ RX9 cX9_send 6 13 mc ms 369) (he : EdW κ cX9_send tV .return_ (fun _ => True) fin) {k96 : Nat → Int32 → Int32 → Mm → Option (Unit × Mm × Nat × Nat)} (hk96 : ∀ (x0 : Nat) (x1 : Int32) (x2 : Int32), Jw κ (wM κ) 6 fin 96 [some ((54, .ref x0) : TV), some ((0, .int x1) : TV), some ((0, .int x2) : TV), none, none, none] [] (k96 x0 x1 x2)) (x0 : Nat) (x1 : Int32) (x2 : Int32) (s0 : Int32) (s1 : Int32) (s2 : Nat) : Jw κ (wM κ) 6 fin 429 [some ((54, .ref x0) : TV), some ((0, .int x1) : TV), some ((0, .int x2) : TV), none, none, none] [((0, .int s0) : TV), ((0, .int s1) : TV), ((11, .ref s2) : TV)] (gX9_send_L429 k96 x0 x1 x2 s0 s1 s2) := by
  unfold gX9_send_L429
  refine N_iast (pc := 429) hc dX9_send_429 ?_
  refine N_sub (l' := [some ((54, .ref x0) : TV), some ((0, .int x1) : TV), some ((0, .int x2) : TV), none, none, none]) ⟨rfl, ⟨rfl, ⟨rfl, trivial⟩⟩⟩ ?_
  exact qX9_send_L430 hc he hk96 x0 x1 x2
set_option maxRecDepth 100000 in
set_option maxHeartbeats 8000000 in
theorem qX9_send_L410 {κ : Cx} {fin : Unit → Mm → Prop} {mc ms : Nat} (hc : Jc κ RX9 cX9_send 6 13 mc ms 369) (he : EdW κ cX9_send tV .return_ (fun _ => True) fin) {k96 : Nat → Int32 → Int32 → Mm → Option (Unit × Mm × Nat × Nat)} (hk96 : ∀ (x0 : Nat) (x1 : Int32) (x2 : Int32), Jw κ (wM κ) 6 fin 96 [some ((54, .ref x0) : TV), some ((0, .int x1) : TV), some ((0, .int x2) : TV), none, none, none] [] (k96 x0 x1 x2)) (x0 : Nat) (x1 : Int32) (x2 : Int32) (x4 : Int32) (s0 : Nat) (s1 : Int32) (s2 : Nat) : Jw κ (wM κ) 6 fin 410 [some ((54, .ref x0) : TV), some ((0, .int x1) : TV), some ((0, .int x2) : TV), none, some ((0, .int x4) : TV), none] [((13, .ref s0) : TV), ((0, .int s1) : TV), ((44, .ref s2) : TV)] (gX9_send_L410 k96 x0 x1 x2 x4 s0 s1 s2) := by
  unfold gX9_send_L410
  refine N_to16 (h := s0) [] (Or.inl rfl) ?_
  refine N_callV (pc := 410) hc clJx4a65c (As := [((0, .int s1) : TV), ((16, .ref s0) : TV)]) (ZJx4a65c_set_bcc79 s2 s1 s0) dX9_send_410 mzJx4a65c_set_bcc79 rfl tw1241 tw1242 tw1243 tw13 tw1244 rfl (Nat.le_of_ble_eq_true rfl) (Nat.le_of_ble_eq_true rfl) (Nat.le_of_ble_eq_true rfl) rfl (fun h1 => ?_)
  show Jw κ (wM κ) 6 fin 413 [some ((54, .ref x0) : TV), some ((0, .int x1) : TV), some ((0, .int x2) : TV), none, some ((0, .int x4) : TV), none] [((16, .ref h1) : TV)] _
  refine N_pop (pc := 413) hc dX9_send_413 rfl ?_
  refine N_aload_n (pc := 414) hc dX9_send_414 rfl rfl ?_
  refine N_getA (pc := 415) hc clX9 (k := 5) (kd := 11) (Nat.le_of_ble_eq_true rfl) rfl (Nat.le_of_ble_eq_true rfl) tw779 (Or.inl rfl) dX9_send_415 (fun v2 => ?_)
  refine N_iload_n (pc := 418) hc dX9_send_418 rfl rfl ?_
  refine N_iload (pc := 419) hc dX9_send_419 rfl ?_
  refine N_if_eq (pc := 421) (tgt := 428) hc dX9_send_421 (by decide) ?_ ?_
  · refine N_iconst (pc := 428) (v := 2) hc dX9_send_428 (by decide) ?_
    refine N_sub (l' := [some ((54, .ref x0) : TV), some ((0, .int x1) : TV), some ((0, .int x2) : TV), none, none, none]) ⟨rfl, ⟨rfl, ⟨rfl, trivial⟩⟩⟩ ?_
    exact qX9_send_L429 hc he hk96 x0 x1 x2 2 x2 v2
  · refine N_iconst (pc := 424) (v := 1) hc dX9_send_424 (by decide) ?_
    refine N_goto (pc := 425) (tgt := 429) hc dX9_send_425 (by decide) ?_
    refine N_sub (l' := [some ((54, .ref x0) : TV), some ((0, .int x1) : TV), some ((0, .int x2) : TV), none, none, none]) ⟨rfl, ⟨rfl, ⟨rfl, trivial⟩⟩⟩ ?_
    exact qX9_send_L429 hc he hk96 x0 x1 x2 1 x2 v2
set_option maxRecDepth 100000 in
set_option maxHeartbeats 8000000 in
theorem qX9_send_L351 {κ : Cx} {fin : Unit → Mm → Prop} {mc ms : Nat} (hc : Jc κ RX9 cX9_send 6 13 mc ms 369) (he : EdW κ cX9_send tV .return_ (fun _ => True) fin) {k96 : Nat → Int32 → Int32 → Mm → Option (Unit × Mm × Nat × Nat)} (hk96 : ∀ (x0 : Nat) (x1 : Int32) (x2 : Int32), Jw κ (wM κ) 6 fin 96 [some ((54, .ref x0) : TV), some ((0, .int x1) : TV), some ((0, .int x2) : TV), none, none, none] [] (k96 x0 x1 x2)) : ∀ (n : Nat) (x0 : Nat) (x1 : Int32) (x2 : Int32), Jw κ (wM κ) 6 fin 351 [some ((54, .ref x0) : TV), some ((0, .int x1) : TV), some ((0, .int x2) : TV), none, none, none] [] (gX9_send_L351 k96 n x0 x1 x2) := by
  intro n
  induction n with
  | zero => intro x0 x1 x2; exact N_fail
  | succ n ih =>
    intro x0 x1 x2
    unfold gX9_send_L351
    refine N_aload_n (pc := 351) hc dX9_send_351 rfl rfl ?_
    refine N_iload_n (pc := 352) hc dX9_send_352 rfl rfl ?_
    refine N_callV (pc := 353) hc clX9 (As := [((0, .int x2) : TV)]) (ZX9_isMark x0 x2) dX9_send_353 mzX9_isMark rfl tw1192 tw1166 tw1167 tw10 tw1168 rfl (Nat.le_of_ble_eq_true rfl) (Nat.le_of_ble_eq_true rfl) (Nat.le_of_ble_eq_true rfl) rfl (fun v3 => ?_)
    show Jw κ (wM κ) 6 fin 356 [some ((54, .ref x0) : TV), some ((0, .int x1) : TV), some ((0, .int x2) : TV), none, none, none] [((0, .int v3) : TV)] _
    refine N_if_ne (pc := 356) (tgt := 365) hc dX9_send_356 (by decide) ?_ ?_
    · refine N_iinc (pc := 365) (v := x2 + (-1)) (l' := [some ((54, .ref x0) : TV), some ((0, .int x1) : TV), some ((0, .int (x2 + (-1))) : TV), none, none, none]) hc dX9_send_365 rfl rfl (by decide) rfl rfl ?_
      refine N_goto (pc := 368) (tgt := 430) hc dX9_send_368 (by decide) ?_
      refine N_sub (l' := [some ((54, .ref x0) : TV), some ((0, .int x1) : TV), some ((0, .int (x2 + (-1))) : TV), none, none, none]) ⟨rfl, ⟨rfl, ⟨rfl, trivial⟩⟩⟩ ?_
      exact qX9_send_L430 hc he hk96 x0 x1 (x2 + (-1))
    · refine N_iinc (pc := 359) (v := x2 + (-1)) (l' := [some ((54, .ref x0) : TV), some ((0, .int x1) : TV), some ((0, .int (x2 + (-1))) : TV), none, none, none]) hc dX9_send_359 rfl rfl (by decide) rfl rfl ?_
      refine N_goto (pc := 362) (tgt := 351) hc dX9_send_362 (by decide) ?_
      refine N_sub (l' := [some ((54, .ref x0) : TV), some ((0, .int x1) : TV), some ((0, .int (x2 + (-1))) : TV), none, none, none]) ⟨rfl, ⟨rfl, ⟨rfl, trivial⟩⟩⟩ ?_
      exact ih x0 x1 (x2 + (-1))
set_option maxRecDepth 100000 in
set_option maxHeartbeats 8000000 in
theorem qX9_send_L299 {κ : Cx} {fin : Unit → Mm → Prop} {mc ms : Nat} (hc : Jc κ RX9 cX9_send 6 13 mc ms 369) (he : EdW κ cX9_send tV .return_ (fun _ => True) fin) {k96 : Nat → Int32 → Int32 → Mm → Option (Unit × Mm × Nat × Nat)} (hk96 : ∀ (x0 : Nat) (x1 : Int32) (x2 : Int32), Jw κ (wM κ) 6 fin 96 [some ((54, .ref x0) : TV), some ((0, .int x1) : TV), some ((0, .int x2) : TV), none, none, none] [] (k96 x0 x1 x2)) (x0 : Nat) (x1 : Int32) (x2 : Int32) (s0 : Int32) (s1 : Int32) (s2 : Nat) : Jw κ (wM κ) 6 fin 299 [some ((54, .ref x0) : TV), some ((0, .int x1) : TV), some ((0, .int x2) : TV), none, none, none] [((0, .int s0) : TV), ((0, .int s1) : TV), ((11, .ref s2) : TV)] (gX9_send_L299 k96 x0 x1 x2 s0 s1 s2) := by
  unfold gX9_send_L299
  refine N_iast (pc := 299) hc dX9_send_299 ?_
  refine N_goto (pc := 300) (tgt := 430) hc dX9_send_300 (by decide) ?_
  refine N_sub (l' := [some ((54, .ref x0) : TV), some ((0, .int x1) : TV), some ((0, .int x2) : TV), none, none, none]) ⟨rfl, ⟨rfl, ⟨rfl, trivial⟩⟩⟩ ?_
  exact qX9_send_L430 hc he hk96 x0 x1 x2
set_option maxRecDepth 100000 in
set_option maxHeartbeats 8000000 in
theorem qX9_send_L261 {κ : Cx} {fin : Unit → Mm → Prop} {mc ms : Nat} (hc : Jc κ RX9 cX9_send 6 13 mc ms 369) (he : EdW κ cX9_send tV .return_ (fun _ => True) fin) {k96 : Nat → Int32 → Int32 → Mm → Option (Unit × Mm × Nat × Nat)} (hk96 : ∀ (x0 : Nat) (x1 : Int32) (x2 : Int32), Jw κ (wM κ) 6 fin 96 [some ((54, .ref x0) : TV), some ((0, .int x1) : TV), some ((0, .int x2) : TV), none, none, none] [] (k96 x0 x1 x2)) (x0 : Nat) (x1 : Int32) (x2 : Int32) (x4 : Int32) (x5 : Option Nat) (s0 : Int32) (s1 : Int32) (s2 : Nat) : Jw κ (wM κ) 6 fin 261 [some ((54, .ref x0) : TV), some ((0, .int x1) : TV), some ((0, .int x2) : TV), none, some ((0, .int x4) : TV), some ((13, va_rf x5) : TV)] [((0, .int s0) : TV), ((0, .int s1) : TV), ((54, .ref s2) : TV)] (gX9_send_L261 k96 x0 x1 x2 x4 x5 s0 s1 s2) := by
  unfold gX9_send_L261
  refine N_iadd (pc := 261) hc dX9_send_261 ?_
  refine N_putI (pc := 262) hc clX9 (k := 12) (Nat.le_of_ble_eq_true rfl) rfl rfl tw793 (Or.inl rfl) rfl dX9_send_262 ?_
  refine N_aloadO (pc := 265) hc dX9_send_265 rfl ?_
  refine N_ifnullD (pc := 267) (tgt := 303) hc dX9_send_267 (by decide) ?_ ?_
  · refine N_aload_n (pc := 303) hc dX9_send_303 rfl rfl ?_
    refine N_getI (pc := 304) hc clX9 (k := 10) (Nat.le_of_ble_eq_true rfl) rfl tw789 (Or.inl rfl) dX9_send_304 (fun v5 => ?_)
    refine N_aload_n (pc := 307) hc dX9_send_307 rfl rfl ?_
    refine N_getA (pc := 308) hc clX9 (k := 1) (kd := 11) (Nat.le_of_ble_eq_true rfl) rfl (Nat.le_of_ble_eq_true rfl) tw771 (Or.inl rfl) dX9_send_308 (fun v6 => ?_)
    refine N_iconst (pc := 311) (v := 3) hc dX9_send_311 (by decide) ?_
    refine N_iald (pc := 312) hc dX9_send_312 (fun v7 => ?_)
    refine N_icmp_ge (pc := 313) (tgt := 371) hc dX9_send_313 (by decide) ?_ ?_
    · refine N_aload_n (pc := 371) hc dX9_send_371 rfl rfl ?_
      refine N_getA (pc := 372) hc clX9 (k := 4) (kd := 44) (Nat.le_of_ble_eq_true rfl) rfl (Nat.le_of_ble_eq_true rfl) tw777 (Or.inl rfl) dX9_send_372 (fun v8 => ?_)
      refine N_iload_n (pc := 375) hc dX9_send_375 rfl rfl ?_
      refine N_aload_n (pc := 376) hc dX9_send_376 rfl rfl ?_
      refine N_getA (pc := 377) hc clX9 (k := 1) (kd := 11) (Nat.le_of_ble_eq_true rfl) rfl (Nat.le_of_ble_eq_true rfl) tw771 (Or.inl rfl) dX9_send_377 (fun v9 => ?_)
      refine N_iconst (pc := 380) (v := 2) hc dX9_send_380 (by decide) ?_
      refine N_iald (pc := 381) hc dX9_send_381 (fun v10 => ?_)
      refine N_iconst (pc := 382) (v := 1) hc dX9_send_382 (by decide) ?_
      refine N_icmp_ne (pc := 383) (tgt := 395) hc dX9_send_383 (by decide) ?_ ?_
      · refine N_aload_n (pc := 395) hc dX9_send_395 rfl rfl ?_
        refine N_aload_n (pc := 396) hc dX9_send_396 rfl rfl ?_
        refine N_getA (pc := 397) hc clX9 (k := 4) (kd := 44) (Nat.le_of_ble_eq_true rfl) rfl (Nat.le_of_ble_eq_true rfl) tw777 (Or.inl rfl) dX9_send_397 (fun v11 => ?_)
        refine N_iload_n (pc := 400) hc dX9_send_400 rfl rfl ?_
        refine N_callV (pc := 401) hc clX9 (As := [((44, .ref v11) : TV), ((0, .int x2) : TV)]) (ZX9_above x0 v11 x2) dX9_send_401 mzX9_above rfl tw1075 tw1076 tw1077 tw10 tw1078 rfl (Nat.le_of_ble_eq_true rfl) (Nat.le_of_ble_eq_true rfl) (Nat.le_of_ble_eq_true rfl) rfl (fun h12 => ?_)
        show Jw κ (wM κ) 6 fin 404 [some ((54, .ref x0) : TV), some ((0, .int x1) : TV), some ((0, .int x2) : TV), none, some ((0, .int x4) : TV), some ((13, va_rf x5) : TV)] [((13, .ref h12) : TV), ((0, .int x2) : TV), ((44, .ref v8) : TV)] _
        refine N_clone13 (pc := 404) hc tw882 tw883 tw830 tw831 tw884 (Nat.le_of_ble_eq_true rfl) (Nat.le_of_ble_eq_true rfl) (Nat.le_of_ble_eq_true rfl) dX9_send_404 (fun h13 => ?_)
        refine N_castZt (pc := 407) hc tw881 dX9_send_407 ?_
        refine N_sub (l' := [some ((54, .ref x0) : TV), some ((0, .int x1) : TV), some ((0, .int x2) : TV), none, some ((0, .int x4) : TV), none]) ⟨rfl, ⟨rfl, ⟨rfl, ⟨rfl, trivial⟩⟩⟩⟩ ?_
        exact qX9_send_L410 hc he hk96 x0 x1 x2 x4 h13 x2 v8
      · refine N_aload_n (pc := 386) hc dX9_send_386 rfl rfl ?_
        refine N_getI (pc := 387) hc clX9 (k := 0) (Nat.le_of_ble_eq_true rfl) rfl tw769 (Or.inl rfl) dX9_send_387 (fun v14 => ?_)
        refine N_newa13 (pc := 390) hc tw950 dX9_send_390 (fun h15 => ?_)
        refine N_goto (pc := 392) (tgt := 410) hc dX9_send_392 (by decide) ?_
        refine N_sub (l' := [some ((54, .ref x0) : TV), some ((0, .int x1) : TV), some ((0, .int x2) : TV), none, some ((0, .int x4) : TV), none]) ⟨rfl, ⟨rfl, ⟨rfl, ⟨rfl, trivial⟩⟩⟩⟩ ?_
        exact qX9_send_L410 hc he hk96 x0 x1 x2 x4 h15 x2 v8
    · refine N_aload_n (pc := 316) hc dX9_send_316 rfl rfl ?_
      refine N_dup (pc := 317) hc dX9_send_317 rfl ?_
      refine N_getI (pc := 318) hc clX9 (k := 10) (Nat.le_of_ble_eq_true rfl) rfl tw789 (Or.inl rfl) dX9_send_318 (fun v16 => ?_)
      refine N_iconst (pc := 321) (v := 1) hc dX9_send_321 (by decide) ?_
      refine N_iadd (pc := 322) hc dX9_send_322 ?_
      refine N_putI (pc := 323) hc clX9 (k := 10) (Nat.le_of_ble_eq_true rfl) rfl rfl tw789 (Or.inl rfl) rfl dX9_send_323 ?_
      refine N_aload_n (pc := 326) hc dX9_send_326 rfl rfl ?_
      refine N_getA (pc := 327) hc clX9 (k := 8) (kd := 11) (Nat.le_of_ble_eq_true rfl) rfl (Nat.le_of_ble_eq_true rfl) tw785 (Or.inl rfl) dX9_send_327 (fun v17 => ?_)
      refine N_iload_n (pc := 330) hc dX9_send_330 rfl rfl ?_
      refine N_dup2 (pc := 331) hc dX9_send_331 rfl rfl ?_
      refine N_iald (pc := 332) hc dX9_send_332 (fun v18 => ?_)
      refine N_iconst (pc := 333) (v := 1) hc dX9_send_333 (by decide) ?_
      refine N_iadd (pc := 334) hc dX9_send_334 ?_
      refine N_iast (pc := 335) hc dX9_send_335 ?_
      refine N_aload_n (pc := 336) hc dX9_send_336 rfl rfl ?_
      refine N_dup (pc := 337) hc dX9_send_337 rfl ?_
      refine N_getI (pc := 338) hc clX9 (k := 9) (Nat.le_of_ble_eq_true rfl) rfl tw787 (Or.inl rfl) dX9_send_338 (fun v19 => ?_)
      refine N_aload_n (pc := 341) hc dX9_send_341 rfl rfl ?_
      refine N_getA (pc := 342) hc clX9 (k := 1) (kd := 11) (Nat.le_of_ble_eq_true rfl) rfl (Nat.le_of_ble_eq_true rfl) tw771 (Or.inl rfl) dX9_send_342 (fun v20 => ?_)
      refine N_iconst (pc := 345) (v := 5) hc dX9_send_345 (by decide) ?_
      refine N_iald (pc := 346) hc dX9_send_346 (fun v21 => ?_)
      refine N_iadd (pc := 347) hc dX9_send_347 ?_
      refine N_putI (pc := 348) hc clX9 (k := 9) (Nat.le_of_ble_eq_true rfl) rfl rfl tw787 (Or.inl rfl) rfl dX9_send_348 ?_
      refine N_sub (l' := [some ((54, .ref x0) : TV), some ((0, .int x1) : TV), some ((0, .int x2) : TV), none, none, none]) ⟨rfl, ⟨rfl, ⟨rfl, trivial⟩⟩⟩ ?_
      exact qX9_send_L351 hc he hk96 fu x0 x1 x2
  · intro p4 ep4
    subst ep4
    refine N_aload_n (pc := 270) hc dX9_send_270 rfl rfl ?_
    refine N_getA (pc := 271) hc clX9 (k := 4) (kd := 44) (Nat.le_of_ble_eq_true rfl) rfl (Nat.le_of_ble_eq_true rfl) tw777 (Or.inl rfl) dX9_send_271 (fun v22 => ?_)
    refine N_iload_n (pc := 274) hc dX9_send_274 rfl rfl ?_
    refine N_aload (pc := 275) hc dX9_send_275 rfl ?_
    refine N_to16 (h := p4) [] (Or.inl rfl) ?_
    refine N_callV (pc := 277) hc clJx4a65c (As := [((0, .int x2) : TV), ((16, .ref p4) : TV)]) (ZJx4a65c_set_bcc79 v22 x2 p4) dX9_send_277 mzJx4a65c_set_bcc79 rfl tw1241 tw1242 tw1243 tw13 tw1244 rfl (Nat.le_of_ble_eq_true rfl) (Nat.le_of_ble_eq_true rfl) (Nat.le_of_ble_eq_true rfl) rfl (fun h23 => ?_)
    show Jw κ (wM κ) 6 fin 280 [some ((54, .ref x0) : TV), some ((0, .int x1) : TV), some ((0, .int x2) : TV), none, some ((0, .int x4) : TV), some ((13, .ref p4) : TV)] [((16, .ref h23) : TV)] _
    refine N_pop (pc := 280) hc dX9_send_280 rfl ?_
    refine N_aload_n (pc := 281) hc dX9_send_281 rfl rfl ?_
    refine N_getA (pc := 282) hc clX9 (k := 5) (kd := 11) (Nat.le_of_ble_eq_true rfl) rfl (Nat.le_of_ble_eq_true rfl) tw779 (Or.inl rfl) dX9_send_282 (fun v24 => ?_)
    refine N_iload_n (pc := 285) hc dX9_send_285 rfl rfl ?_
    refine N_aload_n (pc := 286) hc dX9_send_286 rfl rfl ?_
    refine N_iload_n (pc := 287) hc dX9_send_287 rfl rfl ?_
    refine N_callV (pc := 288) hc clX9 (As := [((0, .int x2) : TV)]) (ZX9_wrong x0 x2) dX9_send_288 mzX9_wrong rfl tw1245 tw1246 tw1247 tw10 tw1248 rfl (Nat.le_of_ble_eq_true rfl) (Nat.le_of_ble_eq_true rfl) (Nat.le_of_ble_eq_true rfl) rfl (fun v25 => ?_)
    show Jw κ (wM κ) 6 fin 291 [some ((54, .ref x0) : TV), some ((0, .int x1) : TV), some ((0, .int x2) : TV), none, some ((0, .int x4) : TV), some ((13, .ref p4) : TV)] [((0, .int v25) : TV), ((0, .int x2) : TV), ((11, .ref v24) : TV)] _
    refine N_if_ne (pc := 291) (tgt := 298) hc dX9_send_291 (by decide) ?_ ?_
    · refine N_iconst (pc := 298) (v := 3) hc dX9_send_298 (by decide) ?_
      refine N_sub (l' := [some ((54, .ref x0) : TV), some ((0, .int x1) : TV), some ((0, .int x2) : TV), none, none, none]) ⟨rfl, ⟨rfl, ⟨rfl, trivial⟩⟩⟩ ?_
      exact qX9_send_L299 hc he hk96 x0 x1 x2 3 x2 v24
    · refine N_iconst (pc := 294) (v := 0) hc dX9_send_294 (by decide) ?_
      refine N_goto (pc := 295) (tgt := 299) hc dX9_send_295 (by decide) ?_
      refine N_sub (l' := [some ((54, .ref x0) : TV), some ((0, .int x1) : TV), some ((0, .int x2) : TV), none, none, none]) ⟨rfl, ⟨rfl, ⟨rfl, trivial⟩⟩⟩ ?_
      exact qX9_send_L299 hc he hk96 x0 x1 x2 0 x2 v24
set_option maxRecDepth 100000 in
set_option maxHeartbeats 8000000 in
theorem qX9_send_L260 {κ : Cx} {fin : Unit → Mm → Prop} {mc ms : Nat} (hc : Jc κ RX9 cX9_send 6 13 mc ms 369) (he : EdW κ cX9_send tV .return_ (fun _ => True) fin) {k96 : Nat → Int32 → Int32 → Mm → Option (Unit × Mm × Nat × Nat)} (hk96 : ∀ (x0 : Nat) (x1 : Int32) (x2 : Int32), Jw κ (wM κ) 6 fin 96 [some ((54, .ref x0) : TV), some ((0, .int x1) : TV), some ((0, .int x2) : TV), none, none, none] [] (k96 x0 x1 x2)) (x0 : Nat) (x1 : Int32) (x2 : Int32) (x4 : Int32) (x5 : Option Nat) (s0 : Int32) (s1 : Nat) : Jw κ (wM κ) 6 fin 260 [some ((54, .ref x0) : TV), some ((0, .int x1) : TV), some ((0, .int x2) : TV), none, some ((0, .int x4) : TV), some ((13, va_rf x5) : TV)] [((0, .int s0) : TV), ((54, .ref s1) : TV)] (gX9_send_L260 k96 x0 x1 x2 x4 x5 s0 s1) := by
  unfold gX9_send_L260
  refine N_iconst (pc := 260) (v := 0) hc dX9_send_260 (by decide) ?_
  refine N_sub (l' := [some ((54, .ref x0) : TV), some ((0, .int x1) : TV), some ((0, .int x2) : TV), none, some ((0, .int x4) : TV), some ((13, va_rf x5) : TV)]) ⟨rfl, ⟨rfl, ⟨rfl, ⟨rfl, ⟨rfl, trivial⟩⟩⟩⟩⟩ ?_
  exact qX9_send_L261 hc he hk96 x0 x1 x2 x4 x5 0 s0 s1
set_option maxRecDepth 100000 in
set_option maxHeartbeats 8000000 in
theorem qX9_send_L237 {κ : Cx} {fin : Unit → Mm → Prop} {mc ms : Nat} (hc : Jc κ RX9 cX9_send 6 13 mc ms 369) (he : EdW κ cX9_send tV .return_ (fun _ => True) fin) {k96 : Nat → Int32 → Int32 → Mm → Option (Unit × Mm × Nat × Nat)} (hk96 : ∀ (x0 : Nat) (x1 : Int32) (x2 : Int32), Jw κ (wM κ) 6 fin 96 [some ((54, .ref x0) : TV), some ((0, .int x1) : TV), some ((0, .int x2) : TV), none, none, none] [] (k96 x0 x1 x2)) (x0 : Nat) (x1 : Int32) (x2 : Int32) (x4 : Int32) (x5 : Option Nat) (s0 : Int32) (s1 : Int32) (s2 : Nat) : Jw κ (wM κ) 6 fin 237 [some ((54, .ref x0) : TV), some ((0, .int x1) : TV), some ((0, .int x2) : TV), none, some ((0, .int x4) : TV), some ((13, va_rf x5) : TV)] [((0, .int s0) : TV), ((0, .int s1) : TV), ((54, .ref s2) : TV)] (gX9_send_L237 k96 x0 x1 x2 x4 x5 s0 s1 s2) := by
  unfold gX9_send_L237
  refine N_iadd (pc := 237) hc dX9_send_237 ?_
  refine N_putI (pc := 238) hc clX9 (k := 11) (Nat.le_of_ble_eq_true rfl) rfl rfl tw791 (Or.inl rfl) rfl dX9_send_238 ?_
  refine N_aload_n (pc := 241) hc dX9_send_241 rfl rfl ?_
  refine N_dup (pc := 242) hc dX9_send_242 rfl ?_
  refine N_getI (pc := 243) hc clX9 (k := 12) (Nat.le_of_ble_eq_true rfl) rfl tw793 (Or.inl rfl) dX9_send_243 (fun v26 => ?_)
  refine N_iload (pc := 246) hc dX9_send_246 rfl ?_
  refine N_if_ne (pc := 248) (tgt := 260) hc dX9_send_248 (by decide) ?_ ?_
  · refine N_sub (l' := [some ((54, .ref x0) : TV), some ((0, .int x1) : TV), some ((0, .int x2) : TV), none, some ((0, .int x4) : TV), some ((13, va_rf x5) : TV)]) ⟨rfl, ⟨rfl, ⟨rfl, ⟨rfl, ⟨rfl, trivial⟩⟩⟩⟩⟩ ?_
    exact qX9_send_L260 hc he hk96 x0 x1 x2 x4 x5 v26 x0
  · refine N_aloadO (pc := 251) hc dX9_send_251 rfl ?_
    refine N_ifnonnullD (pc := 253) (tgt := 260) hc dX9_send_253 (by decide) ?_ ?_
    · refine N_iconst (pc := 256) (v := 1) hc dX9_send_256 (by decide) ?_
      refine N_goto (pc := 257) (tgt := 261) hc dX9_send_257 (by decide) ?_
      refine N_sub (l' := [some ((54, .ref x0) : TV), some ((0, .int x1) : TV), some ((0, .int x2) : TV), none, some ((0, .int x4) : TV), some ((13, va_rf x5) : TV)]) ⟨rfl, ⟨rfl, ⟨rfl, ⟨rfl, ⟨rfl, trivial⟩⟩⟩⟩⟩ ?_
      exact qX9_send_L261 hc he hk96 x0 x1 x2 x4 x5 1 v26 x0
    · intro p27 ep27
      subst ep27
      refine N_sub (l' := [some ((54, .ref x0) : TV), some ((0, .int x1) : TV), some ((0, .int x2) : TV), none, some ((0, .int x4) : TV), some ((13, va_rf (some p27)) : TV)]) ⟨rfl, ⟨rfl, ⟨rfl, ⟨rfl, ⟨rfl, trivial⟩⟩⟩⟩⟩ ?_
      exact qX9_send_L260 hc he hk96 x0 x1 x2 x4 (some p27) v26 x0
set_option maxRecDepth 100000 in
set_option maxHeartbeats 8000000 in
theorem qX9_send_L220 {κ : Cx} {fin : Unit → Mm → Prop} {mc ms : Nat} (hc : Jc κ RX9 cX9_send 6 13 mc ms 369) (he : EdW κ cX9_send tV .return_ (fun _ => True) fin) {k96 : Nat → Int32 → Int32 → Mm → Option (Unit × Mm × Nat × Nat)} (hk96 : ∀ (x0 : Nat) (x1 : Int32) (x2 : Int32), Jw κ (wM κ) 6 fin 96 [some ((54, .ref x0) : TV), some ((0, .int x1) : TV), some ((0, .int x2) : TV), none, none, none] [] (k96 x0 x1 x2)) (x0 : Nat) (x1 : Int32) (x2 : Int32) (x4 : Int32) (s0 : Option Nat) : Jw κ (wM κ) 6 fin 220 [some ((54, .ref x0) : TV), some ((0, .int x1) : TV), some ((0, .int x2) : TV), none, some ((0, .int x4) : TV), none] [((13, va_rf s0) : TV)] (gX9_send_L220 k96 x0 x1 x2 x4 s0) := by
  unfold gX9_send_L220
  refine N_astoreO (pc := 220) (l' := [some ((54, .ref x0) : TV), some ((0, .int x1) : TV), some ((0, .int x2) : TV), none, some ((0, .int x4) : TV), some ((13, va_rf s0) : TV)]) hc dX9_send_220 (by decide) rfl rfl ?_
  refine N_aload_n (pc := 222) hc dX9_send_222 rfl rfl ?_
  refine N_dup (pc := 223) hc dX9_send_223 rfl ?_
  refine N_getI (pc := 224) hc clX9 (k := 11) (Nat.le_of_ble_eq_true rfl) rfl tw791 (Or.inl rfl) dX9_send_224 (fun v28 => ?_)
  refine N_iload (pc := 227) hc dX9_send_227 rfl ?_
  refine N_if_eq (pc := 229) (tgt := 236) hc dX9_send_229 (by decide) ?_ ?_
  · refine N_iconst (pc := 236) (v := 0) hc dX9_send_236 (by decide) ?_
    refine N_sub (l' := [some ((54, .ref x0) : TV), some ((0, .int x1) : TV), some ((0, .int x2) : TV), none, some ((0, .int x4) : TV), some ((13, va_rf s0) : TV)]) ⟨rfl, ⟨rfl, ⟨rfl, ⟨rfl, ⟨rfl, trivial⟩⟩⟩⟩⟩ ?_
    exact qX9_send_L237 hc he hk96 x0 x1 x2 x4 s0 0 v28 x0
  · refine N_iconst (pc := 232) (v := 1) hc dX9_send_232 (by decide) ?_
    refine N_goto (pc := 233) (tgt := 237) hc dX9_send_233 (by decide) ?_
    refine N_sub (l' := [some ((54, .ref x0) : TV), some ((0, .int x1) : TV), some ((0, .int x2) : TV), none, some ((0, .int x4) : TV), some ((13, va_rf s0) : TV)]) ⟨rfl, ⟨rfl, ⟨rfl, ⟨rfl, ⟨rfl, trivial⟩⟩⟩⟩⟩ ?_
    exact qX9_send_L237 hc he hk96 x0 x1 x2 x4 s0 1 v28 x0
set_option maxRecDepth 100000 in
set_option maxHeartbeats 8000000 in
theorem qX9_send_L164 {κ : Cx} {fin : Unit → Mm → Prop} {mc ms : Nat} (hc : Jc κ RX9 cX9_send 6 13 mc ms 369) (he : EdW κ cX9_send tV .return_ (fun _ => True) fin) {k96 : Nat → Int32 → Int32 → Mm → Option (Unit × Mm × Nat × Nat)} (hk96 : ∀ (x0 : Nat) (x1 : Int32) (x2 : Int32), Jw κ (wM κ) 6 fin 96 [some ((54, .ref x0) : TV), some ((0, .int x1) : TV), some ((0, .int x2) : TV), none, none, none] [] (k96 x0 x1 x2)) (x0 : Nat) (x1 : Int32) (x2 : Int32) (s0 : Int32) : Jw κ (wM κ) 6 fin 164 [some ((54, .ref x0) : TV), some ((0, .int x1) : TV), some ((0, .int x2) : TV), none, none, none] [((0, .int s0) : TV)] (gX9_send_L164 k96 x0 x1 x2 s0) := by
  unfold gX9_send_L164
  refine N_istore (pc := 164) (l' := [some ((54, .ref x0) : TV), some ((0, .int x1) : TV), some ((0, .int x2) : TV), none, some ((0, .int s0) : TV), none]) hc dX9_send_164 (by decide) rfl rfl ?_
  refine N_iload (pc := 166) hc dX9_send_166 rfl ?_
  refine N_if_eq (pc := 168) (tgt := 175) hc dX9_send_168 (by decide) ?_ ?_
  · refine N_aload_n (pc := 175) hc dX9_send_175 rfl rfl ?_
    refine N_iload_n (pc := 176) hc dX9_send_176 rfl rfl ?_
    refine N_callV (pc := 177) hc clX9 (As := [((0, .int x2) : TV)]) (ZX9_isMark x0 x2) dX9_send_177 mzX9_isMark rfl tw1192 tw1166 tw1167 tw10 tw1168 rfl (Nat.le_of_ble_eq_true rfl) (Nat.le_of_ble_eq_true rfl) (Nat.le_of_ble_eq_true rfl) rfl (fun v29 => ?_)
    show Jw κ (wM κ) 6 fin 180 [some ((54, .ref x0) : TV), some ((0, .int x1) : TV), some ((0, .int x2) : TV), none, some ((0, .int s0) : TV), none] [((0, .int v29) : TV)] _
    refine N_if_eq (pc := 180) (tgt := 203) hc dX9_send_180 (by decide) ?_ ?_
    · refine N_aload_n (pc := 203) hc dX9_send_203 rfl rfl ?_
      refine N_iload_n (pc := 204) hc dX9_send_204 rfl rfl ?_
      refine N_callV (pc := 205) hc clX9 (As := [((0, .int x2) : TV)]) (ZX9_codeOf x0 x2) dX9_send_205 mzX9_codeOf rfl tw1176 tw1072 tw1073 tw10 tw1074 rfl (Nat.le_of_ble_eq_true rfl) (Nat.le_of_ble_eq_true rfl) (Nat.le_of_ble_eq_true rfl) rfl (fun h30 => ?_)
      show Jw κ (wM κ) 6 fin 208 [some ((54, .ref x0) : TV), some ((0, .int x1) : TV), some ((0, .int x2) : TV), none, some ((0, .int s0) : TV), none] [((44, .ref h30) : TV)] _
      refine N_aload_n (pc := 208) hc dX9_send_208 rfl rfl ?_
      refine N_aload_n (pc := 209) hc dX9_send_209 rfl rfl ?_
      refine N_getA (pc := 210) hc clX9 (k := 4) (kd := 44) (Nat.le_of_ble_eq_true rfl) rfl (Nat.le_of_ble_eq_true rfl) tw777 (Or.inl rfl) dX9_send_210 (fun v31 => ?_)
      refine N_iload_n (pc := 213) hc dX9_send_213 rfl rfl ?_
      refine N_callV (pc := 214) hc clX9 (As := [((44, .ref v31) : TV), ((0, .int x2) : TV)]) (ZX9_above x0 v31 x2) dX9_send_214 mzX9_above rfl tw1075 tw1076 tw1077 tw10 tw1078 rfl (Nat.le_of_ble_eq_true rfl) (Nat.le_of_ble_eq_true rfl) (Nat.le_of_ble_eq_true rfl) rfl (fun h32 => ?_)
      show Jw κ (wM κ) 6 fin 217 [some ((54, .ref x0) : TV), some ((0, .int x1) : TV), some ((0, .int x2) : TV), none, some ((0, .int s0) : TV), none] [((13, .ref h32) : TV), ((44, .ref h30) : TV)] _
      refine N_callSN (pc := 217) hc (As := [((44, .ref h30) : TV), ((13, .ref h32) : TV)]) (hst1 := "DotRunsLaw") (ZL_read h30 h32) dX9_send_217 mzL_read (by decide +kernel) tw1218 tw0 tw1219 rfl (Nat.le_of_ble_eq_true rfl) (Nat.le_of_ble_eq_true rfl) (Nat.le_of_ble_eq_true rfl) rfl (fun h33 => ?_)
      show Jw κ (wM κ) 6 fin 220 [some ((54, .ref x0) : TV), some ((0, .int x1) : TV), some ((0, .int x2) : TV), none, some ((0, .int s0) : TV), none] [((13, va_rf h33) : TV)] _
      refine N_sub (l' := [some ((54, .ref x0) : TV), some ((0, .int x1) : TV), some ((0, .int x2) : TV), none, some ((0, .int s0) : TV), none]) ⟨rfl, ⟨rfl, ⟨rfl, ⟨rfl, trivial⟩⟩⟩⟩ ?_
      exact qX9_send_L220 hc he hk96 x0 x1 x2 s0 h33
    · refine N_aload_n (pc := 183) hc dX9_send_183 rfl rfl ?_
      refine N_getA (pc := 184) hc clX9 (k := 3) (kd := 44) (Nat.le_of_ble_eq_true rfl) rfl (Nat.le_of_ble_eq_true rfl) tw775 (Or.inl rfl) dX9_send_184 (fun v34 => ?_)
      refine N_iload_n (pc := 187) hc dX9_send_187 rfl rfl ?_
      refine N_callV (pc := 188) hc clJx4a65c (As := [((0, .int x2) : TV)]) (ZJx4a65c_get_915e3 v34 x2) dX9_send_188 mzJx4a65c_get_915e3 rfl tw1079 tw1059 tw1060 tw13 tw1061 rfl (Nat.le_of_ble_eq_true rfl) (Nat.le_of_ble_eq_true rfl) (Nat.le_of_ble_eq_true rfl) rfl (fun h35 => ?_)
      show Jw κ (wM κ) 6 fin 191 [some ((54, .ref x0) : TV), some ((0, .int x1) : TV), some ((0, .int x2) : TV), none, some ((0, .int s0) : TV), none] [((16, .ref h35) : TV)] _
      refine N_castZ (pc := 191) hc tw881 dX9_send_191 ?_
      refine N_clone13 (pc := 194) hc tw882 tw883 tw830 tw831 tw884 (Nat.le_of_ble_eq_true rfl) (Nat.le_of_ble_eq_true rfl) (Nat.le_of_ble_eq_true rfl) dX9_send_194 (fun h36 => ?_)
      refine N_castZt (pc := 197) hc tw881 dX9_send_197 ?_
      refine N_goto (pc := 200) (tgt := 220) hc dX9_send_200 (by decide) ?_
      refine N_sub (l' := [some ((54, .ref x0) : TV), some ((0, .int x1) : TV), some ((0, .int x2) : TV), none, some ((0, .int s0) : TV), none]) ⟨rfl, ⟨rfl, ⟨rfl, ⟨rfl, trivial⟩⟩⟩⟩ ?_
      exact qX9_send_L220 hc he hk96 x0 x1 x2 s0 (some h36)
  · refine N_null (pc := 171) (k := 13) hc dX9_send_171 ?_
    refine N_goto (pc := 172) (tgt := 220) hc dX9_send_172 (by decide) ?_
    refine N_sub (l' := [some ((54, .ref x0) : TV), some ((0, .int x1) : TV), some ((0, .int x2) : TV), none, some ((0, .int s0) : TV), none]) ⟨rfl, ⟨rfl, ⟨rfl, ⟨rfl, trivial⟩⟩⟩⟩ ?_
    exact qX9_send_L220 hc he hk96 x0 x1 x2 s0 none
set_option maxRecDepth 100000 in
set_option maxHeartbeats 8000000 in
theorem qX9_send_L96 {κ : Cx} {fin : Unit → Mm → Prop} {mc ms : Nat} (hc : Jc κ RX9 cX9_send 6 13 mc ms 369) (he : EdW κ cX9_send tV .return_ (fun _ => True) fin) : ∀ (n : Nat) (x0 : Nat) (x1 : Int32) (x2 : Int32), Jw κ (wM κ) 6 fin 96 [some ((54, .ref x0) : TV), some ((0, .int x1) : TV), some ((0, .int x2) : TV), none, none, none] [] (gX9_send_L96 n x0 x1 x2) := by
  intro n
  induction n with
  | zero => intro x0 x1 x2; exact N_fail
  | succ n ih =>
    intro x0 x1 x2
    unfold gX9_send_L96
    refine N_iload_n (pc := 96) hc dX9_send_96 rfl rfl ?_
    refine N_iload_n (pc := 97) hc dX9_send_97 rfl rfl ?_
    refine N_icmp_ge (pc := 98) (tgt := 436) hc dX9_send_98 (by decide) ?_ ?_
    · exact N_ret (pc := 436) he dX9_send_436 trivial rfl
    · refine N_aload_n (pc := 101) hc dX9_send_101 rfl rfl ?_
      refine N_getA (pc := 102) hc clX9 (k := 1) (kd := 11) (Nat.le_of_ble_eq_true rfl) rfl (Nat.le_of_ble_eq_true rfl) tw771 (Or.inl rfl) dX9_send_102 (fun v37 => ?_)
      refine N_iconst (pc := 105) (v := 4) hc dX9_send_105 (by decide) ?_
      refine N_iald (pc := 106) hc dX9_send_106 (fun v38 => ?_)
      refine N_aload_n (pc := 107) hc dX9_send_107 rfl rfl ?_
      refine N_iload_n (pc := 108) hc dX9_send_108 rfl rfl ?_
      refine N_callV (pc := 109) hc clX9 (As := [((0, .int x2) : TV)]) (ZX9_bitsOf x0 x2) dX9_send_109 mzX9_bitsOf rfl tw1239 tw1189 tw1190 tw10 tw1191 rfl (Nat.le_of_ble_eq_true rfl) (Nat.le_of_ble_eq_true rfl) (Nat.le_of_ble_eq_true rfl) rfl (fun v39 => ?_)
      show Jw κ (wM κ) 6 fin 112 [some ((54, .ref x0) : TV), some ((0, .int x1) : TV), some ((0, .int x2) : TV), none, none, none] [((0, .int v39) : TV), ((0, .int v38) : TV)] _
      refine N_iadd (pc := 112) hc dX9_send_112 ?_
      refine N_nmi (fun v40 => ?_)
      refine N_istore_n (pc := 113) (l' := [some ((54, .ref x0) : TV), some ((0, .int x1) : TV), some ((0, .int x2) : TV), some ((0, .int v40) : TV), none, none]) hc dX9_send_113 rfl (by decide) rfl rfl ?_
      refine N_aload_n (pc := 114) hc dX9_send_114 rfl rfl ?_
      refine N_dup (pc := 115) hc dX9_send_115 rfl ?_
      refine N_getI (pc := 116) hc clX9 (k := 9) (Nat.le_of_ble_eq_true rfl) rfl tw787 (Or.inl rfl) dX9_send_116 (fun v41 => ?_)
      refine N_iload_n (pc := 119) hc dX9_send_119 rfl rfl ?_
      refine N_iadd (pc := 120) hc dX9_send_120 ?_
      refine N_putI (pc := 121) hc clX9 (k := 9) (Nat.le_of_ble_eq_true rfl) rfl rfl tw787 (Or.inl rfl) rfl dX9_send_121 ?_
      refine N_aload_n (pc := 124) hc dX9_send_124 rfl rfl ?_
      refine N_getA (pc := 125) hc clX9 (k := 7) (kd := 11) (Nat.le_of_ble_eq_true rfl) rfl (Nat.le_of_ble_eq_true rfl) tw783 (Or.inl rfl) dX9_send_125 (fun v42 => ?_)
      refine N_iload_n (pc := 128) hc dX9_send_128 rfl rfl ?_
      refine N_dup2 (pc := 129) hc dX9_send_129 rfl rfl ?_
      refine N_iald (pc := 130) hc dX9_send_130 (fun v43 => ?_)
      refine N_iload_n (pc := 131) hc dX9_send_131 rfl rfl ?_
      refine N_iadd (pc := 132) hc dX9_send_132 ?_
      refine N_iast (pc := 133) hc dX9_send_133 ?_
      refine N_aload_n (pc := 134) hc dX9_send_134 rfl rfl ?_
      refine N_getA (pc := 135) hc clX9 (k := 6) (kd := 11) (Nat.le_of_ble_eq_true rfl) rfl (Nat.le_of_ble_eq_true rfl) tw781 (Or.inl rfl) dX9_send_135 (fun v44 => ?_)
      refine N_iload_n (pc := 138) hc dX9_send_138 rfl rfl ?_
      refine N_dup2 (pc := 139) hc dX9_send_139 rfl rfl ?_
      refine N_iald (pc := 140) hc dX9_send_140 (fun v45 => ?_)
      refine N_iconst (pc := 141) (v := 1) hc dX9_send_141 (by decide) ?_
      refine N_iadd (pc := 142) hc dX9_send_142 ?_
      refine N_iast (pc := 143) hc dX9_send_143 ?_
      refine N_aload_n (pc := 144) hc dX9_send_144 rfl rfl ?_
      refine N_getA (pc := 145) hc clX9 (k := 6) (kd := 11) (Nat.le_of_ble_eq_true rfl) rfl (Nat.le_of_ble_eq_true rfl) tw781 (Or.inl rfl) dX9_send_145 (fun v46 => ?_)
      refine N_iload_n (pc := 148) hc dX9_send_148 rfl rfl ?_
      refine N_iald (pc := 149) hc dX9_send_149 (fun v47 => ?_)
      refine N_aload_n (pc := 150) hc dX9_send_150 rfl rfl ?_
      refine N_getA (pc := 151) hc clX9 (k := 2) (kd := 11) (Nat.le_of_ble_eq_true rfl) rfl (Nat.le_of_ble_eq_true rfl) tw773 (Or.inl rfl) dX9_send_151 (fun v48 => ?_)
      refine N_iload_n (pc := 154) hc dX9_send_154 rfl rfl ?_
      refine N_iald (pc := 155) hc dX9_send_155 (fun v49 => ?_)
      refine N_icmp_gt (pc := 156) (tgt := 163) hc dX9_send_156 (by decide) ?_ ?_
      · refine N_iconst (pc := 163) (v := 0) hc dX9_send_163 (by decide) ?_
        refine N_sub (l' := [some ((54, .ref x0) : TV), some ((0, .int x1) : TV), some ((0, .int x2) : TV), none, none, none]) ⟨rfl, ⟨rfl, ⟨rfl, trivial⟩⟩⟩ ?_
        exact qX9_send_L164 hc he ih x0 x1 x2 0
      · refine N_iconst (pc := 159) (v := 1) hc dX9_send_159 (by decide) ?_
        refine N_goto (pc := 160) (tgt := 164) hc dX9_send_160 (by decide) ?_
        refine N_sub (l' := [some ((54, .ref x0) : TV), some ((0, .int x1) : TV), some ((0, .int x2) : TV), none, none, none]) ⟨rfl, ⟨rfl, ⟨rfl, trivial⟩⟩⟩ ?_
        exact qX9_send_L164 hc he ih x0 x1 x2 1
set_option maxRecDepth 100000 in
set_option maxHeartbeats 8000000 in
theorem qX9_send_L21 {κ : Cx} {fin : Unit → Mm → Prop} {mc ms : Nat} (hc : Jc κ RX9 cX9_send 6 13 mc ms 369) (he : EdW κ cX9_send tV .return_ (fun _ => True) fin) : ∀ (n : Nat) (x0 : Nat) (x1 : Int32) (x2 : Int32), Jw κ (wM κ) 6 fin 21 [some ((54, .ref x0) : TV), some ((0, .int x1) : TV), some ((0, .int x2) : TV), none, none, none] [] (gX9_send_L21 n x0 x1 x2) := by
  intro n
  induction n with
  | zero => intro x0 x1 x2; exact N_fail
  | succ n ih =>
    intro x0 x1 x2
    unfold gX9_send_L21
    refine N_iload_n (pc := 21) hc dX9_send_21 rfl rfl ?_
    refine N_iload_n (pc := 22) hc dX9_send_22 rfl rfl ?_
    refine N_icmp_ge (pc := 23) (tgt := 46) hc dX9_send_23 (by decide) ?_ ?_
    · refine N_aload_n (pc := 46) hc dX9_send_46 rfl rfl ?_
      refine N_iload_n (pc := 47) hc dX9_send_47 rfl rfl ?_
      refine N_newa11 (pc := 48) hc tw82 dX9_send_48 (fun h50 => ?_)
      refine N_putA (pc := 50) hc clX9 (k := 5) (kd := 11) (Nat.le_of_ble_eq_true rfl) rfl (Nat.le_of_ble_eq_true rfl) (fun _ => rfl) (fun _ => rfl) tw779 (Or.inl rfl) rfl dX9_send_50 ?_
      refine N_aload_n (pc := 53) hc dX9_send_53 rfl rfl ?_
      refine N_iload_n (pc := 54) hc dX9_send_54 rfl rfl ?_
      refine N_newa11 (pc := 55) hc tw82 dX9_send_55 (fun h51 => ?_)
      refine N_putA (pc := 57) hc clX9 (k := 6) (kd := 11) (Nat.le_of_ble_eq_true rfl) rfl (Nat.le_of_ble_eq_true rfl) (fun _ => rfl) (fun _ => rfl) tw781 (Or.inl rfl) rfl dX9_send_57 ?_
      refine N_aload_n (pc := 60) hc dX9_send_60 rfl rfl ?_
      refine N_iload_n (pc := 61) hc dX9_send_61 rfl rfl ?_
      refine N_newa11 (pc := 62) hc tw82 dX9_send_62 (fun h52 => ?_)
      refine N_putA (pc := 64) hc clX9 (k := 7) (kd := 11) (Nat.le_of_ble_eq_true rfl) rfl (Nat.le_of_ble_eq_true rfl) (fun _ => rfl) (fun _ => rfl) tw783 (Or.inl rfl) rfl dX9_send_64 ?_
      refine N_aload_n (pc := 67) hc dX9_send_67 rfl rfl ?_
      refine N_iload_n (pc := 68) hc dX9_send_68 rfl rfl ?_
      refine N_newa11 (pc := 69) hc tw82 dX9_send_69 (fun h53 => ?_)
      refine N_putA (pc := 71) hc clX9 (k := 8) (kd := 11) (Nat.le_of_ble_eq_true rfl) rfl (Nat.le_of_ble_eq_true rfl) (fun _ => rfl) (fun _ => rfl) tw785 (Or.inl rfl) rfl dX9_send_71 ?_
      refine N_aload_n (pc := 74) hc dX9_send_74 rfl rfl ?_
      refine N_iconst (pc := 75) (v := 0) hc dX9_send_75 (by decide) ?_
      refine N_putI (pc := 76) hc clX9 (k := 9) (Nat.le_of_ble_eq_true rfl) rfl rfl tw787 (Or.inl rfl) rfl dX9_send_76 ?_
      refine N_aload_n (pc := 79) hc dX9_send_79 rfl rfl ?_
      refine N_iconst (pc := 80) (v := 0) hc dX9_send_80 (by decide) ?_
      refine N_putI (pc := 81) hc clX9 (k := 10) (Nat.le_of_ble_eq_true rfl) rfl rfl tw789 (Or.inl rfl) rfl dX9_send_81 ?_
      refine N_aload_n (pc := 84) hc dX9_send_84 rfl rfl ?_
      refine N_iconst (pc := 85) (v := 0) hc dX9_send_85 (by decide) ?_
      refine N_putI (pc := 86) hc clX9 (k := 11) (Nat.le_of_ble_eq_true rfl) rfl rfl tw791 (Or.inl rfl) rfl dX9_send_86 ?_
      refine N_aload_n (pc := 89) hc dX9_send_89 rfl rfl ?_
      refine N_iconst (pc := 90) (v := 0) hc dX9_send_90 (by decide) ?_
      refine N_putI (pc := 91) hc clX9 (k := 12) (Nat.le_of_ble_eq_true rfl) rfl rfl tw793 (Or.inl rfl) rfl dX9_send_91 ?_
      refine N_iconst (pc := 94) (v := 0) hc dX9_send_94 (by decide) ?_
      refine N_istore_n (pc := 95) (l' := [some ((54, .ref x0) : TV), some ((0, .int x1) : TV), some ((0, .int 0) : TV), none, none, none]) hc dX9_send_95 rfl (by decide) rfl rfl ?_
      refine N_sub (l' := [some ((54, .ref x0) : TV), some ((0, .int x1) : TV), some ((0, .int 0) : TV), none, none, none]) ⟨rfl, ⟨rfl, ⟨rfl, trivial⟩⟩⟩ ?_
      exact qX9_send_L96 hc he fu x0 x1 0
    · refine N_aload_n (pc := 26) hc dX9_send_26 rfl rfl ?_
      refine N_getA (pc := 27) hc clX9 (k := 4) (kd := 44) (Nat.le_of_ble_eq_true rfl) rfl (Nat.le_of_ble_eq_true rfl) tw777 (Or.inl rfl) dX9_send_27 (fun v54 => ?_)
      refine N_aload_n (pc := 30) hc dX9_send_30 rfl rfl ?_
      refine N_getI (pc := 31) hc clX9 (k := 0) (Nat.le_of_ble_eq_true rfl) rfl tw769 (Or.inl rfl) dX9_send_31 (fun v55 => ?_)
      refine N_newa13 (pc := 34) hc tw950 dX9_send_34 (fun h56 => ?_)
      refine N_to16 (h := h56) [] (Or.inl rfl) ?_
      refine N_callV (pc := 36) hc clJx4a65c (As := [((16, .ref h56) : TV)]) (ZJx4a65c_add_9ea2d v54 h56) dX9_send_36 mzJx4a65c_add_9ea2d rfl tw886 tw887 tw888 tw13 tw889 rfl (Nat.le_of_ble_eq_true rfl) (Nat.le_of_ble_eq_true rfl) (Nat.le_of_ble_eq_true rfl) rfl (fun v57 => ?_)
      show Jw κ (wM κ) 6 fin 39 [some ((54, .ref x0) : TV), some ((0, .int x1) : TV), some ((0, .int x2) : TV), none, none, none] [((0, .int v57) : TV)] _
      refine N_pop (pc := 39) hc dX9_send_39 rfl ?_
      refine N_iinc (pc := 40) (v := x2 + 1) (l' := [some ((54, .ref x0) : TV), some ((0, .int x1) : TV), some ((0, .int (x2 + 1)) : TV), none, none, none]) hc dX9_send_40 rfl rfl (by decide) rfl rfl ?_
      refine N_goto (pc := 43) (tgt := 21) hc dX9_send_43 (by decide) ?_
      refine N_sub (l' := [some ((54, .ref x0) : TV), some ((0, .int x1) : TV), some ((0, .int (x2 + 1)) : TV), none, none, none]) ⟨rfl, ⟨rfl, ⟨rfl, trivial⟩⟩⟩ ?_
      exact ih x0 x1 (x2 + 1)
set_option maxRecDepth 100000 in
set_option maxHeartbeats 8000000 in
theorem qX9_send {κ : Cx} {fin : Unit → Mm → Prop} {mc ms : Nat} (hc : Jc κ RX9 cX9_send 6 13 mc ms 369) (he : EdW κ cX9_send tV .return_ (fun _ => True) fin) (x0 : Nat) : Jw κ (wM κ) 6 fin 0 [some ((54, .ref x0) : TV), none, none, none, none, none] [] (gX9_send x0) := by
  unfold gX9_send
  refine N_aload_n (pc := 0) hc dX9_send_0 rfl rfl ?_
  refine N_getA (pc := 1) hc clX9 (k := 3) (kd := 44) (Nat.le_of_ble_eq_true rfl) rfl (Nat.le_of_ble_eq_true rfl) tw775 (Or.inl rfl) dX9_send_1 (fun v58 => ?_)
  refine N_callV (pc := 4) hc clJx4a65c (As := []) (ZJx4a65c_size_8abf5 v58) dX9_send_4 mzJx4a65c_size_8abf5 rfl tw1238 tw976 tw977 tw13 tw978 rfl (Nat.le_of_ble_eq_true rfl) (Nat.le_of_ble_eq_true rfl) (Nat.le_of_ble_eq_true rfl) rfl (fun v59 => ?_)
  show Jw κ (wM κ) 6 fin 7 [some ((54, .ref x0) : TV), none, none, none, none, none] [((0, .int v59) : TV)] _
  refine N_istore_n (pc := 7) (l' := [some ((54, .ref x0) : TV), some ((0, .int v59) : TV), none, none, none, none]) hc dX9_send_7 rfl (by decide) rfl rfl ?_
  refine N_aload_n (pc := 8) hc dX9_send_8 rfl rfl ?_
  refine N_new (pc := 9) hc clJx4a65c dvJx4a65c tw740 tw741 tw13 dX9_send_9 (fun h60 => ?_)
  refine N_dup (pc := 12) hc dX9_send_12 rfl ?_
  refine N_callI (pc := 13) hc (ci := 44) (As := []) (ZJx4a65c_init_da8c8 h60) dX9_send_13 mzJx4a65c_init_da8c8 rfl tw742 tw743 tw13 tw744 rfl (Nat.le_of_ble_eq_true rfl) (Nat.le_of_ble_eq_true rfl) (Nat.le_of_ble_eq_true rfl) rfl (fun _ => ?_)
  show Jw κ (wM κ) 6 fin 16 [some ((54, .ref x0) : TV), some ((0, .int v59) : TV), none, none, none, none] [((44, .ref h60) : TV), ((54, .ref x0) : TV)] _
  refine N_putA (pc := 16) hc clX9 (k := 4) (kd := 44) (Nat.le_of_ble_eq_true rfl) rfl (Nat.le_of_ble_eq_true rfl) (fun _ => rfl) (fun _ => rfl) tw777 (Or.inl rfl) rfl dX9_send_16 ?_
  refine N_iconst (pc := 19) (v := 0) hc dX9_send_19 (by decide) ?_
  refine N_istore_n (pc := 20) (l' := [some ((54, .ref x0) : TV), some ((0, .int v59) : TV), some ((0, .int 0) : TV), none, none, none]) hc dX9_send_20 rfl (by decide) rfl rfl ?_
  refine N_sub (l' := [some ((54, .ref x0) : TV), some ((0, .int v59) : TV), some ((0, .int 0) : TV), none, none, none]) ⟨rfl, ⟨rfl, ⟨rfl, trivial⟩⟩⟩ ?_
  exact qX9_send_L21 hc he fu x0 v59 0
theorem mzX9_send : MOk yX9_send 0 := ⟨by decide +kernel, by decide +kernel, by decide +kernel⟩
set_option maxRecDepth 100000 in
set_option maxHeartbeats 8000000 in
theorem ZX9_send (x0 : Nat) : Cw tV yX9_send cX9_send 6 none 13 369 [((54, .ref x0) : TV)] (gX9_send x0) :=
  Cw_V (j := 5) (by decide +kernel) rfl rfl (Nat.le_of_ble_eq_true rfl) (fun κ fin mc ms hc he hin => qX9_send hc he x0)
set_option maxRecDepth 100000 in
set_option maxHeartbeats 8000000 in
theorem qL_isSent_L299 {κ : Cx} {fin : Int32 → Mm → Prop} {mc ms : Nat} (hc : Jc κ RL cL_isSent 8 14 mc ms 394) (he : EdW κ cL_isSent tI .ireturn (fun a => a = 0 ∨ a = 1) fin) {k259 : Nat → Nat → Int32 → Int32 → Int32 → Mm → Option (Int32 × Mm × Nat × Nat)} (hk259 : ∀ (x0 : Nat) (x1 : Nat) (x2 : Int32) (x4 : Int32) (x5 : Int32), Jw κ (wM κ) 8 fin 259 [some ((7, .ref x0) : TV), some ((54, .ref x1) : TV), some ((0, .int x2) : TV), none, some ((0, .int x4) : TV), some ((0, .int x5) : TV), none, none] [] (k259 x0 x1 x2 x4 x5)) (x0 : Nat) (x1 : Nat) (x2 : Int32) (x4 : Int32) (x5 : Int32) (s0 : Int32) (s1 : Int32) : Jw κ (wM κ) 8 fin 299 [some ((7, .ref x0) : TV), some ((54, .ref x1) : TV), some ((0, .int x2) : TV), none, some ((0, .int x4) : TV), some ((0, .int x5) : TV), none, none] [((0, .int s0) : TV), ((0, .int s1) : TV)] (gL_isSent_L299 k259 x0 x1 x2 x4 x5 s0 s1) := by
  unfold gL_isSent_L299
  refine N_icmp_eq (pc := 299) (tgt := 304) hc dL_isSent_299 (by decide) ?_ ?_
  · refine N_iinc (pc := 304) (v := x5 + 1) (l' := [some ((7, .ref x0) : TV), some ((54, .ref x1) : TV), some ((0, .int x2) : TV), none, some ((0, .int x4) : TV), some ((0, .int (x5 + 1)) : TV), none, none]) hc dL_isSent_304 rfl rfl (by decide) rfl rfl ?_
    refine N_goto (pc := 307) (tgt := 259) hc dL_isSent_307 (by decide) ?_
    refine N_sub (l' := [some ((7, .ref x0) : TV), some ((54, .ref x1) : TV), some ((0, .int x2) : TV), none, some ((0, .int x4) : TV), some ((0, .int (x5 + 1)) : TV), none, none]) ⟨rfl, ⟨rfl, ⟨rfl, ⟨rfl, ⟨rfl, trivial⟩⟩⟩⟩⟩ ?_
    exact hk259 x0 x1 x2 x4 (x5 + 1)
  · refine N_iconst (pc := 302) (v := 0) hc dL_isSent_302 (by decide) ?_
    exact N_zret (pc := 303) he dL_isSent_303
set_option maxRecDepth 100000 in
set_option maxHeartbeats 8000000 in
theorem qL_isSent_L259 {κ : Cx} {fin : Int32 → Mm → Prop} {mc ms : Nat} (hc : Jc κ RL cL_isSent 8 14 mc ms 394) (he : EdW κ cL_isSent tI .ireturn (fun a => a = 0 ∨ a = 1) fin) {k164 : Nat → Nat → Int32 → Int32 → Mm → Option (Int32 × Mm × Nat × Nat)} (hk164 : ∀ (x0 : Nat) (x1 : Nat) (x2 : Int32) (x4 : Int32), Jw κ (wM κ) 8 fin 164 [some ((7, .ref x0) : TV), some ((54, .ref x1) : TV), some ((0, .int x2) : TV), none, some ((0, .int x4) : TV), none, none, none] [] (k164 x0 x1 x2 x4)) : ∀ (n : Nat) (x0 : Nat) (x1 : Nat) (x2 : Int32) (x4 : Int32) (x5 : Int32), Jw κ (wM κ) 8 fin 259 [some ((7, .ref x0) : TV), some ((54, .ref x1) : TV), some ((0, .int x2) : TV), none, some ((0, .int x4) : TV), some ((0, .int x5) : TV), none, none] [] (gL_isSent_L259 k164 n x0 x1 x2 x4 x5) := by
  intro n
  induction n with
  | zero => intro x0 x1 x2 x4 x5; exact N_fail
  | succ n ih =>
    intro x0 x1 x2 x4 x5
    unfold gL_isSent_L259
    refine N_iload (pc := 259) hc dL_isSent_259 rfl ?_
    refine N_aload_n (pc := 261) hc dL_isSent_261 rfl rfl ?_
    refine N_getNI (pc := 262) hc clX9 (k := 0) (Nat.le_of_ble_eq_true rfl) rfl (hst0 := "DotRunsLaw") (by decide +kernel) dL_isSent_262 (fun v1 => ?_)
    refine N_icmp_ge (pc := 265) (tgt := 310) hc dL_isSent_265 (by decide) ?_ ?_
    · refine N_iinc (pc := 310) (v := x4 + 1) (l' := [some ((7, .ref x0) : TV), some ((54, .ref x1) : TV), some ((0, .int x2) : TV), none, some ((0, .int (x4 + 1)) : TV), some ((0, .int x5) : TV), none, none]) hc dL_isSent_310 rfl rfl (by decide) rfl rfl ?_
      refine N_goto (pc := 313) (tgt := 164) hc dL_isSent_313 (by decide) ?_
      refine N_sub (l' := [some ((7, .ref x0) : TV), some ((54, .ref x1) : TV), some ((0, .int x2) : TV), none, some ((0, .int (x4 + 1)) : TV), none, none, none]) ⟨rfl, ⟨rfl, ⟨rfl, ⟨rfl, trivial⟩⟩⟩⟩ ?_
      exact hk164 x0 x1 x2 (x4 + 1)
    · refine N_aload_n (pc := 268) hc dL_isSent_268 rfl rfl ?_
      refine N_iload (pc := 269) hc dL_isSent_269 rfl ?_
      refine N_iload (pc := 271) hc dL_isSent_271 rfl ?_
      refine N_callCX (pc := 273) hc clX7 (As := [((0, .int x4) : TV), ((0, .int x5) : TV)]) (KX7_received x0 x4 x5) dL_isSent_273 moX7_received rfl tw1319 tw1320 tw1321 tw2 tw1322 rfl (Nat.le_of_ble_eq_true rfl) (Nat.le_of_ble_eq_true rfl) (Nat.le_of_ble_eq_true rfl) rfl (fun _ _ h => by cases h) (fun v2 => ?_)
      show Jw κ (wM κ) 8 fin 276 [some ((7, .ref x0) : TV), some ((54, .ref x1) : TV), some ((0, .int x2) : TV), none, some ((0, .int x4) : TV), some ((0, .int x5) : TV), none, none] [((0, .int v2) : TV)] _
      refine N_aload_n (pc := 276) hc dL_isSent_276 rfl rfl ?_
      refine N_getNA (pc := 277) hc clX9 (k := 4) (kd := 44) (Nat.le_of_ble_eq_true rfl) rfl (Nat.le_of_ble_eq_true rfl) (hst0 := "DotRunsLaw") (by decide +kernel) dL_isSent_277 (fun v3 => ?_)
      refine N_iload (pc := 280) hc dL_isSent_280 rfl ?_
      refine N_callV (pc := 282) hc clJx4a65c (As := [((0, .int x4) : TV)]) (ZJx4a65c_get_915e3 v3 x4) dL_isSent_282 mzJx4a65c_get_915e3 rfl tw1058 tw1059 tw1060 tw13 tw1061 rfl (Nat.le_of_ble_eq_true rfl) (Nat.le_of_ble_eq_true rfl) (Nat.le_of_ble_eq_true rfl) rfl (fun h4 => ?_)
      show Jw κ (wM κ) 8 fin 285 [some ((7, .ref x0) : TV), some ((54, .ref x1) : TV), some ((0, .int x2) : TV), none, some ((0, .int x4) : TV), some ((0, .int x5) : TV), none, none] [((16, .ref h4) : TV), ((0, .int v2) : TV)] _
      refine N_castZ (pc := 285) hc tw1070 dL_isSent_285 ?_
      refine N_iload (pc := 288) hc dL_isSent_288 rfl ?_
      refine N_zald (pc := 290) hc dL_isSent_290 (fun v5 => ?_)
      refine N_if_eq (pc := 291) (tgt := 298) hc dL_isSent_291 (by decide) ?_ ?_
      · refine N_iconst (pc := 298) (v := 0) hc dL_isSent_298 (by decide) ?_
        refine N_sub (l' := [some ((7, .ref x0) : TV), some ((54, .ref x1) : TV), some ((0, .int x2) : TV), none, some ((0, .int x4) : TV), some ((0, .int x5) : TV), none, none]) ⟨rfl, ⟨rfl, ⟨rfl, ⟨rfl, ⟨rfl, trivial⟩⟩⟩⟩⟩ ?_
        exact qL_isSent_L299 hc he ih x0 x1 x2 x4 x5 0 v2
      · refine N_iconst (pc := 294) (v := 1) hc dL_isSent_294 (by decide) ?_
        refine N_goto (pc := 295) (tgt := 299) hc dL_isSent_295 (by decide) ?_
        refine N_sub (l' := [some ((7, .ref x0) : TV), some ((54, .ref x1) : TV), some ((0, .int x2) : TV), none, some ((0, .int x4) : TV), some ((0, .int x5) : TV), none, none]) ⟨rfl, ⟨rfl, ⟨rfl, ⟨rfl, ⟨rfl, trivial⟩⟩⟩⟩⟩ ?_
        exact qL_isSent_L299 hc he ih x0 x1 x2 x4 x5 1 v2
set_option maxRecDepth 100000 in
set_option maxHeartbeats 8000000 in
theorem qL_isSent_L164 {κ : Cx} {fin : Int32 → Mm → Prop} {mc ms : Nat} (hc : Jc κ RL cL_isSent 8 14 mc ms 394) (he : EdW κ cL_isSent tI .ireturn (fun a => a = 0 ∨ a = 1) fin) : ∀ (n : Nat) (x0 : Nat) (x1 : Nat) (x2 : Int32) (x4 : Int32), Jw κ (wM κ) 8 fin 164 [some ((7, .ref x0) : TV), some ((54, .ref x1) : TV), some ((0, .int x2) : TV), none, some ((0, .int x4) : TV), none, none, none] [] (gL_isSent_L164 n x0 x1 x2 x4) := by
  intro n
  induction n with
  | zero => intro x0 x1 x2 x4; exact N_fail
  | succ n ih =>
    intro x0 x1 x2 x4
    unfold gL_isSent_L164
    refine N_iload (pc := 164) hc dL_isSent_164 rfl ?_
    refine N_iload_n (pc := 166) hc dL_isSent_166 rfl rfl ?_
    refine N_icmp_ge (pc := 167) (tgt := 316) hc dL_isSent_167 (by decide) ?_ ?_
    · refine N_iconst (pc := 316) (v := 1) hc dL_isSent_316 (by decide) ?_
      exact N_zret (pc := 317) he dL_isSent_317
    · refine N_aload_n (pc := 170) hc dL_isSent_170 rfl rfl ?_
      refine N_iload (pc := 171) hc dL_isSent_171 rfl ?_
      refine N_iconst (pc := 173) (v := 0) hc dL_isSent_173 (by decide) ?_
      refine N_callCX (pc := 174) hc clX7 (As := [((0, .int x4) : TV), ((0, .int 0) : TV)]) (KX7_sentLine x0 x4 0) dL_isSent_174 moX7_sentLine rfl tw1313 tw1314 tw1315 tw2 tw1316 rfl (Nat.le_of_ble_eq_true rfl) (Nat.le_of_ble_eq_true rfl) (Nat.le_of_ble_eq_true rfl) rfl (fun _ _ h => by cases h) (fun v6 => ?_)
      show Jw κ (wM κ) 8 fin 177 [some ((7, .ref x0) : TV), some ((54, .ref x1) : TV), some ((0, .int x2) : TV), none, some ((0, .int x4) : TV), none, none, none] [((0, .int v6) : TV)] _
      refine N_aload_n (pc := 177) hc dL_isSent_177 rfl rfl ?_
      refine N_getNA (pc := 178) hc clX9 (k := 5) (kd := 11) (Nat.le_of_ble_eq_true rfl) rfl (Nat.le_of_ble_eq_true rfl) (hst0 := "DotRunsLaw") (by decide +kernel) dL_isSent_178 (fun v7 => ?_)
      refine N_iload (pc := 181) hc dL_isSent_181 rfl ?_
      refine N_iald (pc := 183) hc dL_isSent_183 (fun v8 => ?_)
      refine N_icmp_ne (pc := 184) (tgt := 254) hc dL_isSent_184 (by decide) ?_ ?_
      · refine N_iconst (pc := 254) (v := 0) hc dL_isSent_254 (by decide) ?_
        exact N_zret (pc := 255) he dL_isSent_255
      · refine N_aload_n (pc := 187) hc dL_isSent_187 rfl rfl ?_
        refine N_iload (pc := 188) hc dL_isSent_188 rfl ?_
        refine N_iconst (pc := 190) (v := 1) hc dL_isSent_190 (by decide) ?_
        refine N_callCX (pc := 191) hc clX7 (As := [((0, .int x4) : TV), ((0, .int 1) : TV)]) (KX7_sentLine x0 x4 1) dL_isSent_191 moX7_sentLine rfl tw1313 tw1314 tw1315 tw2 tw1316 rfl (Nat.le_of_ble_eq_true rfl) (Nat.le_of_ble_eq_true rfl) (Nat.le_of_ble_eq_true rfl) rfl (fun _ _ h => by cases h) (fun v9 => ?_)
        show Jw κ (wM κ) 8 fin 194 [some ((7, .ref x0) : TV), some ((54, .ref x1) : TV), some ((0, .int x2) : TV), none, some ((0, .int x4) : TV), none, none, none] [((0, .int v9) : TV)] _
        refine N_aload_n (pc := 194) hc dL_isSent_194 rfl rfl ?_
        refine N_getNA (pc := 195) hc clX9 (k := 6) (kd := 11) (Nat.le_of_ble_eq_true rfl) rfl (Nat.le_of_ble_eq_true rfl) (hst0 := "DotRunsLaw") (by decide +kernel) dL_isSent_195 (fun v10 => ?_)
        refine N_iload (pc := 198) hc dL_isSent_198 rfl ?_
        refine N_iald (pc := 200) hc dL_isSent_200 (fun v11 => ?_)
        refine N_icmp_ne (pc := 201) (tgt := 254) hc dL_isSent_201 (by decide) ?_ ?_
        · refine N_iconst (pc := 254) (v := 0) hc dL_isSent_254 (by decide) ?_
          exact N_zret (pc := 255) he dL_isSent_255
        · refine N_aload_n (pc := 204) hc dL_isSent_204 rfl rfl ?_
          refine N_iload (pc := 205) hc dL_isSent_205 rfl ?_
          refine N_iconst (pc := 207) (v := 2) hc dL_isSent_207 (by decide) ?_
          refine N_callCX (pc := 208) hc clX7 (As := [((0, .int x4) : TV), ((0, .int 2) : TV)]) (KX7_sentLine x0 x4 2) dL_isSent_208 moX7_sentLine rfl tw1313 tw1314 tw1315 tw2 tw1316 rfl (Nat.le_of_ble_eq_true rfl) (Nat.le_of_ble_eq_true rfl) (Nat.le_of_ble_eq_true rfl) rfl (fun _ _ h => by cases h) (fun v12 => ?_)
          show Jw κ (wM κ) 8 fin 211 [some ((7, .ref x0) : TV), some ((54, .ref x1) : TV), some ((0, .int x2) : TV), none, some ((0, .int x4) : TV), none, none, none] [((0, .int v12) : TV)] _
          refine N_aload_n (pc := 211) hc dL_isSent_211 rfl rfl ?_
          refine N_getNA (pc := 212) hc clX9 (k := 7) (kd := 11) (Nat.le_of_ble_eq_true rfl) rfl (Nat.le_of_ble_eq_true rfl) (hst0 := "DotRunsLaw") (by decide +kernel) dL_isSent_212 (fun v13 => ?_)
          refine N_iload (pc := 215) hc dL_isSent_215 rfl ?_
          refine N_iald (pc := 217) hc dL_isSent_217 (fun v14 => ?_)
          refine N_icmp_ne (pc := 218) (tgt := 254) hc dL_isSent_218 (by decide) ?_ ?_
          · refine N_iconst (pc := 254) (v := 0) hc dL_isSent_254 (by decide) ?_
            exact N_zret (pc := 255) he dL_isSent_255
          · refine N_aload_n (pc := 221) hc dL_isSent_221 rfl rfl ?_
            refine N_iload (pc := 222) hc dL_isSent_222 rfl ?_
            refine N_iconst (pc := 224) (v := 3) hc dL_isSent_224 (by decide) ?_
            refine N_callCX (pc := 225) hc clX7 (As := [((0, .int x4) : TV), ((0, .int 3) : TV)]) (KX7_sentLine x0 x4 3) dL_isSent_225 moX7_sentLine rfl tw1313 tw1314 tw1315 tw2 tw1316 rfl (Nat.le_of_ble_eq_true rfl) (Nat.le_of_ble_eq_true rfl) (Nat.le_of_ble_eq_true rfl) rfl (fun _ _ h => by cases h) (fun v15 => ?_)
            show Jw κ (wM κ) 8 fin 228 [some ((7, .ref x0) : TV), some ((54, .ref x1) : TV), some ((0, .int x2) : TV), none, some ((0, .int x4) : TV), none, none, none] [((0, .int v15) : TV)] _
            refine N_aload_n (pc := 228) hc dL_isSent_228 rfl rfl ?_
            refine N_iload (pc := 229) hc dL_isSent_229 rfl ?_
            refine N_callV (pc := 231) hc clX9 (As := [((0, .int x4) : TV)]) (ZX9_wrong x1 x4) dL_isSent_231 mzX9_wrong rfl tw1318 tw1246 tw1247 tw10 tw1248 rfl (Nat.le_of_ble_eq_true rfl) (Nat.le_of_ble_eq_true rfl) (Nat.le_of_ble_eq_true rfl) rfl (fun v16 => ?_)
            show Jw κ (wM κ) 8 fin 234 [some ((7, .ref x0) : TV), some ((54, .ref x1) : TV), some ((0, .int x2) : TV), none, some ((0, .int x4) : TV), none, none, none] [((0, .int v16) : TV), ((0, .int v15) : TV)] _
            refine N_icmp_ne (pc := 234) (tgt := 254) hc dL_isSent_234 (by decide) ?_ ?_
            · refine N_iconst (pc := 254) (v := 0) hc dL_isSent_254 (by decide) ?_
              exact N_zret (pc := 255) he dL_isSent_255
            · refine N_aload_n (pc := 237) hc dL_isSent_237 rfl rfl ?_
              refine N_iload (pc := 238) hc dL_isSent_238 rfl ?_
              refine N_iconst (pc := 240) (v := 4) hc dL_isSent_240 (by decide) ?_
              refine N_callCX (pc := 241) hc clX7 (As := [((0, .int x4) : TV), ((0, .int 4) : TV)]) (KX7_sentLine x0 x4 4) dL_isSent_241 moX7_sentLine rfl tw1313 tw1314 tw1315 tw2 tw1316 rfl (Nat.le_of_ble_eq_true rfl) (Nat.le_of_ble_eq_true rfl) (Nat.le_of_ble_eq_true rfl) rfl (fun _ _ h => by cases h) (fun v17 => ?_)
              show Jw κ (wM κ) 8 fin 244 [some ((7, .ref x0) : TV), some ((54, .ref x1) : TV), some ((0, .int x2) : TV), none, some ((0, .int x4) : TV), none, none, none] [((0, .int v17) : TV)] _
              refine N_aload_n (pc := 244) hc dL_isSent_244 rfl rfl ?_
              refine N_getNA (pc := 245) hc clX9 (k := 8) (kd := 11) (Nat.le_of_ble_eq_true rfl) rfl (Nat.le_of_ble_eq_true rfl) (hst0 := "DotRunsLaw") (by decide +kernel) dL_isSent_245 (fun v18 => ?_)
              refine N_iload (pc := 248) hc dL_isSent_248 rfl ?_
              refine N_iald (pc := 250) hc dL_isSent_250 (fun v19 => ?_)
              refine N_icmp_eq (pc := 251) (tgt := 256) hc dL_isSent_251 (by decide) ?_ ?_
              · refine N_iconst (pc := 256) (v := 0) hc dL_isSent_256 (by decide) ?_
                refine N_istore (pc := 257) (l' := [some ((7, .ref x0) : TV), some ((54, .ref x1) : TV), some ((0, .int x2) : TV), none, some ((0, .int x4) : TV), some ((0, .int 0) : TV), none, none]) hc dL_isSent_257 (by decide) rfl rfl ?_
                refine N_sub (l' := [some ((7, .ref x0) : TV), some ((54, .ref x1) : TV), some ((0, .int x2) : TV), none, some ((0, .int x4) : TV), some ((0, .int 0) : TV), none, none]) ⟨rfl, ⟨rfl, ⟨rfl, ⟨rfl, ⟨rfl, trivial⟩⟩⟩⟩⟩ ?_
                exact qL_isSent_L259 hc he ih fu x0 x1 x2 x4 0
              · refine N_iconst (pc := 254) (v := 0) hc dL_isSent_254 (by decide) ?_
                exact N_zret (pc := 255) he dL_isSent_255
set_option maxRecDepth 100000 in
set_option maxHeartbeats 8000000 in
theorem qL_isSent_L130 {κ : Cx} {fin : Int32 → Mm → Prop} {mc ms : Nat} (hc : Jc κ RL cL_isSent 8 14 mc ms 394) (he : EdW κ cL_isSent tI .ireturn (fun a => a = 0 ∨ a = 1) fin) : ∀ (n : Nat) (x0 : Nat) (x1 : Nat) (x2 : Int32) (x4 : Int32), Jw κ (wM κ) 8 fin 130 [some ((7, .ref x0) : TV), some ((54, .ref x1) : TV), some ((0, .int x2) : TV), none, some ((0, .int x4) : TV), none, none, none] [] (gL_isSent_L130 n x0 x1 x2 x4) := by
  intro n
  induction n with
  | zero => intro x0 x1 x2 x4; exact N_fail
  | succ n ih =>
    intro x0 x1 x2 x4
    unfold gL_isSent_L130
    refine N_iload (pc := 130) hc dL_isSent_130 rfl ?_
    refine N_iconst (pc := 132) (v := 4) hc dL_isSent_132 (by decide) ?_
    refine N_icmp_ge (pc := 133) (tgt := 161) hc dL_isSent_133 (by decide) ?_ ?_
    · refine N_iconst (pc := 161) (v := 0) hc dL_isSent_161 (by decide) ?_
      refine N_istore (pc := 162) (l' := [some ((7, .ref x0) : TV), some ((54, .ref x1) : TV), some ((0, .int x2) : TV), none, some ((0, .int 0) : TV), none, none, none]) hc dL_isSent_162 (by decide) rfl rfl ?_
      refine N_sub (l' := [some ((7, .ref x0) : TV), some ((54, .ref x1) : TV), some ((0, .int x2) : TV), none, some ((0, .int 0) : TV), none, none, none]) ⟨rfl, ⟨rfl, ⟨rfl, ⟨rfl, trivial⟩⟩⟩⟩ ?_
      exact qL_isSent_L164 hc he fu x0 x1 x2 0
    · refine N_aload_n (pc := 136) hc dL_isSent_136 rfl rfl ?_
      refine N_iconst (pc := 137) (v := 3) hc dL_isSent_137 (by decide) ?_
      refine N_iload (pc := 138) hc dL_isSent_138 rfl ?_
      refine N_iadd (pc := 140) hc dL_isSent_140 ?_
      refine N_callCX (pc := 141) hc clX7 (As := [((0, .int (3 + x4)) : TV)]) (KX7_sent x0 (3 + x4)) dL_isSent_141 moX7_sent rfl tw1249 tw1250 tw1251 tw2 tw1252 rfl (Nat.le_of_ble_eq_true rfl) (Nat.le_of_ble_eq_true rfl) (Nat.le_of_ble_eq_true rfl) rfl (fun _ _ h => by cases h) (fun v20 => ?_)
      show Jw κ (wM κ) 8 fin 144 [some ((7, .ref x0) : TV), some ((54, .ref x1) : TV), some ((0, .int x2) : TV), none, some ((0, .int x4) : TV), none, none, none] [((0, .int v20) : TV)] _
      refine N_aload_n (pc := 144) hc dL_isSent_144 rfl rfl ?_
      refine N_iload (pc := 145) hc dL_isSent_145 rfl ?_
      refine N_callV (pc := 147) hc clX9 (As := [((0, .int x4) : TV)]) (ZX9_count x1 x4) dL_isSent_147 mzX9_count rfl tw1309 tw1310 tw1311 tw10 tw1312 rfl (Nat.le_of_ble_eq_true rfl) (Nat.le_of_ble_eq_true rfl) (Nat.le_of_ble_eq_true rfl) rfl (fun v21 => ?_)
      show Jw κ (wM κ) 8 fin 150 [some ((7, .ref x0) : TV), some ((54, .ref x1) : TV), some ((0, .int x2) : TV), none, some ((0, .int x4) : TV), none, none, none] [((0, .int v21) : TV), ((0, .int v20) : TV)] _
      refine N_icmp_eq (pc := 150) (tgt := 155) hc dL_isSent_150 (by decide) ?_ ?_
      · refine N_iinc (pc := 155) (v := x4 + 1) (l' := [some ((7, .ref x0) : TV), some ((54, .ref x1) : TV), some ((0, .int x2) : TV), none, some ((0, .int (x4 + 1)) : TV), none, none, none]) hc dL_isSent_155 rfl rfl (by decide) rfl rfl ?_
        refine N_goto (pc := 158) (tgt := 130) hc dL_isSent_158 (by decide) ?_
        refine N_sub (l' := [some ((7, .ref x0) : TV), some ((54, .ref x1) : TV), some ((0, .int x2) : TV), none, some ((0, .int (x4 + 1)) : TV), none, none, none]) ⟨rfl, ⟨rfl, ⟨rfl, ⟨rfl, trivial⟩⟩⟩⟩ ?_
        exact ih x0 x1 x2 (x4 + 1)
      · refine N_iconst (pc := 153) (v := 0) hc dL_isSent_153 (by decide) ?_
        exact N_zret (pc := 154) he dL_isSent_154
set_option maxRecDepth 100000 in
set_option maxHeartbeats 8000000 in
theorem qL_isSent_L28 {κ : Cx} {fin : Int32 → Mm → Prop} {mc ms : Nat} (hc : Jc κ RL cL_isSent 8 14 mc ms 394) (he : EdW κ cL_isSent tI .ireturn (fun a => a = 0 ∨ a = 1) fin) : ∀ (n : Nat) (x0 : Nat) (x1 : Nat) (x2 : Int32) (x3 : Int32) (x4 : Nat) (x5 : Int32) (x6 : Int32), Jw κ (wM κ) 8 fin 28 [some ((7, .ref x0) : TV), some ((54, .ref x1) : TV), some ((0, .int x2) : TV), some ((0, .int x3) : TV), some ((11, .ref x4) : TV), some ((0, .int x5) : TV), some ((0, .int x6) : TV), none] [] (gL_isSent_L28 n x0 x1 x2 x3 x4 x5 x6) := by
  intro n
  induction n with
  | zero => intro x0 x1 x2 x3 x4 x5 x6; exact N_fail
  | succ n ih =>
    intro x0 x1 x2 x3 x4 x5 x6
    unfold gL_isSent_L28
    refine N_iload (pc := 28) hc dL_isSent_28 rfl ?_
    refine N_iload (pc := 30) hc dL_isSent_30 rfl ?_
    refine N_icmp_ge (pc := 32) (tgt := 53) hc dL_isSent_32 (by decide) ?_ ?_
    · refine N_aload_n (pc := 53) hc dL_isSent_53 rfl rfl ?_
      refine N_iconst (pc := 54) (v := 0) hc dL_isSent_54 (by decide) ?_
      refine N_callCX (pc := 55) hc clX7 (As := [((0, .int 0) : TV)]) (KX7_sent x0 0) dL_isSent_55 moX7_sent rfl tw1249 tw1250 tw1251 tw2 tw1252 rfl (Nat.le_of_ble_eq_true rfl) (Nat.le_of_ble_eq_true rfl) (Nat.le_of_ble_eq_true rfl) rfl (fun _ _ h => by cases h) (fun v22 => ?_)
      show Jw κ (wM κ) 8 fin 58 [some ((7, .ref x0) : TV), some ((54, .ref x1) : TV), some ((0, .int x2) : TV), some ((0, .int x3) : TV), some ((11, .ref x4) : TV), some ((0, .int x5) : TV), some ((0, .int x6) : TV), none] [((0, .int v22) : TV)] _
      refine N_aload_n (pc := 58) hc dL_isSent_58 rfl rfl ?_
      refine N_getNI (pc := 59) hc clX9 (k := 9) (Nat.le_of_ble_eq_true rfl) rfl (hst0 := "DotRunsLaw") (by decide +kernel) dL_isSent_59 (fun v23 => ?_)
      refine N_icmp_ne (pc := 62) (tgt := 125) hc dL_isSent_62 (by decide) ?_ ?_
      · refine N_iconst (pc := 125) (v := 0) hc dL_isSent_125 (by decide) ?_
        exact N_zret (pc := 126) he dL_isSent_126
      · refine N_aload_n (pc := 65) hc dL_isSent_65 rfl rfl ?_
        refine N_iconst (pc := 66) (v := 1) hc dL_isSent_66 (by decide) ?_
        refine N_callCX (pc := 67) hc clX7 (As := [((0, .int 1) : TV)]) (KX7_sent x0 1) dL_isSent_67 moX7_sent rfl tw1249 tw1250 tw1251 tw2 tw1252 rfl (Nat.le_of_ble_eq_true rfl) (Nat.le_of_ble_eq_true rfl) (Nat.le_of_ble_eq_true rfl) rfl (fun _ _ h => by cases h) (fun v24 => ?_)
        show Jw κ (wM κ) 8 fin 70 [some ((7, .ref x0) : TV), some ((54, .ref x1) : TV), some ((0, .int x2) : TV), some ((0, .int x3) : TV), some ((11, .ref x4) : TV), some ((0, .int x5) : TV), some ((0, .int x6) : TV), none] [((0, .int v24) : TV)] _
        refine N_iload_n (pc := 70) hc dL_isSent_70 rfl rfl ?_
        refine N_icmp_ne (pc := 71) (tgt := 125) hc dL_isSent_71 (by decide) ?_ ?_
        · refine N_iconst (pc := 125) (v := 0) hc dL_isSent_125 (by decide) ?_
          exact N_zret (pc := 126) he dL_isSent_126
        · refine N_aload_n (pc := 74) hc dL_isSent_74 rfl rfl ?_
          refine N_iconst (pc := 75) (v := 2) hc dL_isSent_75 (by decide) ?_
          refine N_callCX (pc := 76) hc clX7 (As := [((0, .int 2) : TV)]) (KX7_sent x0 2) dL_isSent_76 moX7_sent rfl tw1249 tw1250 tw1251 tw2 tw1252 rfl (Nat.le_of_ble_eq_true rfl) (Nat.le_of_ble_eq_true rfl) (Nat.le_of_ble_eq_true rfl) rfl (fun _ _ h => by cases h) (fun v25 => ?_)
          show Jw κ (wM κ) 8 fin 79 [some ((7, .ref x0) : TV), some ((54, .ref x1) : TV), some ((0, .int x2) : TV), some ((0, .int x3) : TV), some ((11, .ref x4) : TV), some ((0, .int x5) : TV), some ((0, .int x6) : TV), none] [((0, .int v25) : TV)] _
          refine N_aload_n (pc := 79) hc dL_isSent_79 rfl rfl ?_
          refine N_getNI (pc := 80) hc clX9 (k := 10) (Nat.le_of_ble_eq_true rfl) rfl (hst0 := "DotRunsLaw") (by decide +kernel) dL_isSent_80 (fun v26 => ?_)
          refine N_icmp_ne (pc := 83) (tgt := 125) hc dL_isSent_83 (by decide) ?_ ?_
          · refine N_iconst (pc := 125) (v := 0) hc dL_isSent_125 (by decide) ?_
            exact N_zret (pc := 126) he dL_isSent_126
          · refine N_aload_n (pc := 86) hc dL_isSent_86 rfl rfl ?_
            refine N_bipush (pc := 87) (v := 7) hc dL_isSent_87 (by decide) ?_
            refine N_callCX (pc := 89) hc clX7 (As := [((0, .int 7) : TV)]) (KX7_sent x0 7) dL_isSent_89 moX7_sent rfl tw1249 tw1250 tw1251 tw2 tw1252 rfl (Nat.le_of_ble_eq_true rfl) (Nat.le_of_ble_eq_true rfl) (Nat.le_of_ble_eq_true rfl) rfl (fun _ _ h => by cases h) (fun v27 => ?_)
            show Jw κ (wM κ) 8 fin 92 [some ((7, .ref x0) : TV), some ((54, .ref x1) : TV), some ((0, .int x2) : TV), some ((0, .int x3) : TV), some ((11, .ref x4) : TV), some ((0, .int x5) : TV), some ((0, .int x6) : TV), none] [((0, .int v27) : TV)] _
            refine N_aload_n (pc := 92) hc dL_isSent_92 rfl rfl ?_
            refine N_callV (pc := 93) hc clX9 (As := []) (ZX9_allWrong x1) dL_isSent_93 mzX9_allWrong rfl tw1305 tw1306 tw1307 tw10 tw1308 rfl (Nat.le_of_ble_eq_true rfl) (Nat.le_of_ble_eq_true rfl) (Nat.le_of_ble_eq_true rfl) rfl (fun v28 => ?_)
            show Jw κ (wM κ) 8 fin 96 [some ((7, .ref x0) : TV), some ((54, .ref x1) : TV), some ((0, .int x2) : TV), some ((0, .int x3) : TV), some ((11, .ref x4) : TV), some ((0, .int x5) : TV), some ((0, .int x6) : TV), none] [((0, .int v28) : TV), ((0, .int v27) : TV)] _
            refine N_icmp_ne (pc := 96) (tgt := 125) hc dL_isSent_96 (by decide) ?_ ?_
            · refine N_iconst (pc := 125) (v := 0) hc dL_isSent_125 (by decide) ?_
              exact N_zret (pc := 126) he dL_isSent_126
            · refine N_aload_n (pc := 99) hc dL_isSent_99 rfl rfl ?_
              refine N_bipush (pc := 100) (v := 8) hc dL_isSent_100 (by decide) ?_
              refine N_callCX (pc := 102) hc clX7 (As := [((0, .int 8) : TV)]) (KX7_sent x0 8) dL_isSent_102 moX7_sent rfl tw1249 tw1250 tw1251 tw2 tw1252 rfl (Nat.le_of_ble_eq_true rfl) (Nat.le_of_ble_eq_true rfl) (Nat.le_of_ble_eq_true rfl) rfl (fun _ _ h => by cases h) (fun v29 => ?_)
              show Jw κ (wM κ) 8 fin 105 [some ((7, .ref x0) : TV), some ((54, .ref x1) : TV), some ((0, .int x2) : TV), some ((0, .int x3) : TV), some ((11, .ref x4) : TV), some ((0, .int x5) : TV), some ((0, .int x6) : TV), none] [((0, .int v29) : TV)] _
              refine N_aload_n (pc := 105) hc dL_isSent_105 rfl rfl ?_
              refine N_getNI (pc := 106) hc clX9 (k := 11) (Nat.le_of_ble_eq_true rfl) rfl (hst0 := "DotRunsLaw") (by decide +kernel) dL_isSent_106 (fun v30 => ?_)
              refine N_icmp_ne (pc := 109) (tgt := 125) hc dL_isSent_109 (by decide) ?_ ?_
              · refine N_iconst (pc := 125) (v := 0) hc dL_isSent_125 (by decide) ?_
                exact N_zret (pc := 126) he dL_isSent_126
              · refine N_aload_n (pc := 112) hc dL_isSent_112 rfl rfl ?_
                refine N_bipush (pc := 113) (v := 9) hc dL_isSent_113 (by decide) ?_
                refine N_callCX (pc := 115) hc clX7 (As := [((0, .int 9) : TV)]) (KX7_sent x0 9) dL_isSent_115 moX7_sent rfl tw1249 tw1250 tw1251 tw2 tw1252 rfl (Nat.le_of_ble_eq_true rfl) (Nat.le_of_ble_eq_true rfl) (Nat.le_of_ble_eq_true rfl) rfl (fun _ _ h => by cases h) (fun v31 => ?_)
                show Jw κ (wM κ) 8 fin 118 [some ((7, .ref x0) : TV), some ((54, .ref x1) : TV), some ((0, .int x2) : TV), some ((0, .int x3) : TV), some ((11, .ref x4) : TV), some ((0, .int x5) : TV), some ((0, .int x6) : TV), none] [((0, .int v31) : TV)] _
                refine N_aload_n (pc := 118) hc dL_isSent_118 rfl rfl ?_
                refine N_getNI (pc := 119) hc clX9 (k := 12) (Nat.le_of_ble_eq_true rfl) rfl (hst0 := "DotRunsLaw") (by decide +kernel) dL_isSent_119 (fun v32 => ?_)
                refine N_icmp_eq (pc := 122) (tgt := 127) hc dL_isSent_122 (by decide) ?_ ?_
                · refine N_iconst (pc := 127) (v := 0) hc dL_isSent_127 (by decide) ?_
                  refine N_istore (pc := 128) (l' := [some ((7, .ref x0) : TV), some ((54, .ref x1) : TV), some ((0, .int x2) : TV), some ((0, .int x3) : TV), some ((0, .int 0) : TV), some ((0, .int x5) : TV), some ((0, .int x6) : TV), none]) hc dL_isSent_128 (by decide) rfl rfl ?_
                  refine N_sub (l' := [some ((7, .ref x0) : TV), some ((54, .ref x1) : TV), some ((0, .int x2) : TV), none, some ((0, .int 0) : TV), none, none, none]) ⟨rfl, ⟨rfl, ⟨rfl, ⟨rfl, trivial⟩⟩⟩⟩ ?_
                  exact qL_isSent_L130 hc he fu x0 x1 x2 0
                · refine N_iconst (pc := 125) (v := 0) hc dL_isSent_125 (by decide) ?_
                  exact N_zret (pc := 126) he dL_isSent_126
    · refine N_aload (pc := 35) hc dL_isSent_35 rfl ?_
      refine N_iload (pc := 37) hc dL_isSent_37 rfl ?_
      refine N_iald (pc := 39) hc dL_isSent_39 (fun v33 => ?_)
      refine N_istore (pc := 40) (l' := [some ((7, .ref x0) : TV), some ((54, .ref x1) : TV), some ((0, .int x2) : TV), some ((0, .int x3) : TV), some ((11, .ref x4) : TV), some ((0, .int x5) : TV), some ((0, .int x6) : TV), some ((0, .int v33) : TV)]) hc dL_isSent_40 (by decide) rfl rfl ?_
      refine N_iload_n (pc := 42) hc dL_isSent_42 rfl rfl ?_
      refine N_iload (pc := 43) hc dL_isSent_43 rfl ?_
      refine N_iadd (pc := 45) hc dL_isSent_45 ?_
      refine N_nmi (fun v34 => ?_)
      refine N_istore_n (pc := 46) (l' := [some ((7, .ref x0) : TV), some ((54, .ref x1) : TV), some ((0, .int x2) : TV), some ((0, .int v34) : TV), some ((11, .ref x4) : TV), some ((0, .int x5) : TV), some ((0, .int x6) : TV), some ((0, .int v33) : TV)]) hc dL_isSent_46 rfl (by decide) rfl rfl ?_
      refine N_iinc (pc := 47) (v := x6 + 1) (l' := [some ((7, .ref x0) : TV), some ((54, .ref x1) : TV), some ((0, .int x2) : TV), some ((0, .int v34) : TV), some ((11, .ref x4) : TV), some ((0, .int x5) : TV), some ((0, .int (x6 + 1)) : TV), some ((0, .int v33) : TV)]) hc dL_isSent_47 rfl rfl (by decide) rfl rfl ?_
      refine N_goto (pc := 50) (tgt := 28) hc dL_isSent_50 (by decide) ?_
      refine N_sub (l' := [some ((7, .ref x0) : TV), some ((54, .ref x1) : TV), some ((0, .int x2) : TV), some ((0, .int v34) : TV), some ((11, .ref x4) : TV), some ((0, .int x5) : TV), some ((0, .int (x6 + 1)) : TV), none]) ⟨rfl, ⟨rfl, ⟨rfl, ⟨rfl, ⟨rfl, ⟨rfl, ⟨rfl, trivial⟩⟩⟩⟩⟩⟩⟩ ?_
      exact ih x0 x1 x2 v34 x4 x5 (x6 + 1)
set_option maxRecDepth 100000 in
set_option maxHeartbeats 8000000 in
theorem qL_isSent {κ : Cx} {fin : Int32 → Mm → Prop} {mc ms : Nat} (hc : Jc κ RL cL_isSent 8 14 mc ms 394) (he : EdW κ cL_isSent tI .ireturn (fun a => a = 0 ∨ a = 1) fin) (x0 : Nat) (x1 : Nat) : Jw κ (wM κ) 8 fin 0 [some ((7, .ref x0) : TV), some ((54, .ref x1) : TV), none, none, none, none, none, none] [] (gL_isSent x0 x1) := by
  unfold gL_isSent
  refine N_aload_n (pc := 0) hc dL_isSent_0 rfl rfl ?_
  refine N_callV (pc := 1) hc clX9 (As := []) (ZX9_send x1) dL_isSent_1 mzX9_send rfl tw1234 tw1235 tw1236 tw10 tw1237 rfl (Nat.le_of_ble_eq_true rfl) (Nat.le_of_ble_eq_true rfl) (Nat.le_of_ble_eq_true rfl) rfl (fun _ => ?_)
  show Jw κ (wM κ) 8 fin 4 [some ((7, .ref x0) : TV), some ((54, .ref x1) : TV), none, none, none, none, none, none] [] _
  refine N_aload_n (pc := 4) hc dL_isSent_4 rfl rfl ?_
  refine N_getNA (pc := 5) hc clX9 (k := 3) (kd := 44) (Nat.le_of_ble_eq_true rfl) rfl (Nat.le_of_ble_eq_true rfl) (hst0 := "DotRunsLaw") (by decide +kernel) dL_isSent_5 (fun v35 => ?_)
  refine N_callV (pc := 8) hc clJx4a65c (As := []) (ZJx4a65c_size_8abf5 v35) dL_isSent_8 mzJx4a65c_size_8abf5 rfl tw975 tw976 tw977 tw13 tw978 rfl (Nat.le_of_ble_eq_true rfl) (Nat.le_of_ble_eq_true rfl) (Nat.le_of_ble_eq_true rfl) rfl (fun v36 => ?_)
  show Jw κ (wM κ) 8 fin 11 [some ((7, .ref x0) : TV), some ((54, .ref x1) : TV), none, none, none, none, none, none] [((0, .int v36) : TV)] _
  refine N_istore_n (pc := 11) (l' := [some ((7, .ref x0) : TV), some ((54, .ref x1) : TV), some ((0, .int v36) : TV), none, none, none, none, none]) hc dL_isSent_11 rfl (by decide) rfl rfl ?_
  refine N_iconst (pc := 12) (v := 0) hc dL_isSent_12 (by decide) ?_
  refine N_istore_n (pc := 13) (l' := [some ((7, .ref x0) : TV), some ((54, .ref x1) : TV), some ((0, .int v36) : TV), some ((0, .int 0) : TV), none, none, none, none]) hc dL_isSent_13 rfl (by decide) rfl rfl ?_
  refine N_aload_n (pc := 14) hc dL_isSent_14 rfl rfl ?_
  refine N_getNA (pc := 15) hc clX9 (k := 6) (kd := 11) (Nat.le_of_ble_eq_true rfl) rfl (Nat.le_of_ble_eq_true rfl) (hst0 := "DotRunsLaw") (by decide +kernel) dL_isSent_15 (fun v37 => ?_)
  refine N_astore (pc := 18) (l' := [some ((7, .ref x0) : TV), some ((54, .ref x1) : TV), some ((0, .int v36) : TV), some ((0, .int 0) : TV), some ((11, .ref v37) : TV), none, none, none]) hc dL_isSent_18 (by decide) rfl rfl ?_
  refine N_aload (pc := 20) hc dL_isSent_20 rfl ?_
  refine N_ilen (pc := 22) hc dL_isSent_22 (fun v38 => ?_)
  refine N_istore (pc := 23) (l' := [some ((7, .ref x0) : TV), some ((54, .ref x1) : TV), some ((0, .int v36) : TV), some ((0, .int 0) : TV), some ((11, .ref v37) : TV), some ((0, .int v38) : TV), none, none]) hc dL_isSent_23 (by decide) rfl rfl ?_
  refine N_iconst (pc := 25) (v := 0) hc dL_isSent_25 (by decide) ?_
  refine N_istore (pc := 26) (l' := [some ((7, .ref x0) : TV), some ((54, .ref x1) : TV), some ((0, .int v36) : TV), some ((0, .int 0) : TV), some ((11, .ref v37) : TV), some ((0, .int v38) : TV), some ((0, .int 0) : TV), none]) hc dL_isSent_26 (by decide) rfl rfl ?_
  refine N_sub (l' := [some ((7, .ref x0) : TV), some ((54, .ref x1) : TV), some ((0, .int v36) : TV), some ((0, .int 0) : TV), some ((11, .ref v37) : TV), some ((0, .int v38) : TV), some ((0, .int 0) : TV), none]) ⟨rfl, ⟨rfl, ⟨rfl, ⟨rfl, ⟨rfl, ⟨rfl, ⟨rfl, trivial⟩⟩⟩⟩⟩⟩⟩ ?_
  exact qL_isSent_L28 hc he fu x0 x1 v36 0 v37 v38 0
theorem mzL_isSent : MOk yL_isSent 2 := ⟨by decide +kernel, by decide +kernel, by decide +kernel⟩
set_option maxRecDepth 100000 in
set_option maxHeartbeats 8000000 in
theorem ZL_isSent (x0 : Nat) (x1 : Nat) : Cw tI yL_isSent cL_isSent 8 (some .boolean) 14 394 [((7, .ref x0) : TV), ((54, .ref x1) : TV)] (gL_isSent x0 x1) :=
  Cw_Z ⟨rfl, rfl⟩ (j := 6) (by decide +kernel) rfl rfl (Nat.le_of_ble_eq_true rfl) (fun κ fin mc ms hc he => qL_isSent hc he x0 x1)
set_option maxRecDepth 100000 in
set_option maxHeartbeats 8000000 in
theorem qL_isTold_L472 {κ : Cx} {fin : Int32 → Mm → Prop} {mc ms : Nat} (hc : Jc κ RL cL_isTold 14 14 mc ms 394) (he : EdW κ cL_isTold tI .ireturn (fun a => a = 0 ∨ a = 1) fin) {k432 : Nat → Nat → Int32 → Int32 → Int32 → Int32 → Mm → Option (Int32 × Mm × Nat × Nat)} (hk432 : ∀ (x0 : Nat) (x1 : Nat) (x4 : Int32) (x6 : Int32) (x9 : Int32) (x10 : Int32), Jw κ (wM κ) 14 fin 432 [some ((7, .ref x0) : TV), some ((54, .ref x1) : TV), none, none, some ((0, .int x4) : TV), none, some ((0, .int x6) : TV), none, none, some ((0, .int x9) : TV), some ((0, .int x10) : TV), none, none, none] [] (k432 x0 x1 x4 x6 x9 x10)) (x0 : Nat) (x1 : Nat) (x4 : Int32) (x6 : Int32) (x10 : Int32) (s0 : Int32) : Jw κ (wM κ) 14 fin 472 [some ((7, .ref x0) : TV), some ((54, .ref x1) : TV), none, none, some ((0, .int x4) : TV), none, some ((0, .int x6) : TV), none, none, none, some ((0, .int x10) : TV), none, none, none] [((0, .int s0) : TV)] (gL_isTold_L472 k432 x0 x1 x4 x6 x10 s0) := by
  unfold gL_isTold_L472
  refine N_istore (pc := 472) (l' := [some ((7, .ref x0) : TV), some ((54, .ref x1) : TV), none, none, some ((0, .int x4) : TV), none, some ((0, .int x6) : TV), none, none, some ((0, .int s0) : TV), some ((0, .int x10) : TV), none, none, none]) hc dL_isTold_472 (by decide) rfl rfl ?_
  refine N_iinc (pc := 474) (v := x10 + (-1)) (l' := [some ((7, .ref x0) : TV), some ((54, .ref x1) : TV), none, none, some ((0, .int x4) : TV), none, some ((0, .int x6) : TV), none, none, some ((0, .int s0) : TV), some ((0, .int (x10 + (-1))) : TV), none, none, none]) hc dL_isTold_474 rfl rfl (by decide) rfl rfl ?_
  refine N_goto (pc := 477) (tgt := 432) hc dL_isTold_477 (by decide) ?_
  refine N_sub (l' := [some ((7, .ref x0) : TV), some ((54, .ref x1) : TV), none, none, some ((0, .int x4) : TV), none, some ((0, .int x6) : TV), none, none, some ((0, .int s0) : TV), some ((0, .int (x10 + (-1))) : TV), none, none, none]) ⟨rfl, ⟨rfl, ⟨rfl, ⟨rfl, ⟨rfl, ⟨rfl, trivial⟩⟩⟩⟩⟩⟩ ?_
  exact hk432 x0 x1 x4 x6 s0 (x10 + (-1))
set_option maxRecDepth 100000 in
set_option maxHeartbeats 8000000 in
theorem qL_isTold_L432 {κ : Cx} {fin : Int32 → Mm → Prop} {mc ms : Nat} (hc : Jc κ RL cL_isTold 14 14 mc ms 394) (he : EdW κ cL_isTold tI .ireturn (fun a => a = 0 ∨ a = 1) fin) : ∀ (n : Nat) (x0 : Nat) (x1 : Nat) (x4 : Int32) (x6 : Int32) (x9 : Int32) (x10 : Int32), Jw κ (wM κ) 14 fin 432 [some ((7, .ref x0) : TV), some ((54, .ref x1) : TV), none, none, some ((0, .int x4) : TV), none, some ((0, .int x6) : TV), none, none, some ((0, .int x9) : TV), some ((0, .int x10) : TV), none, none, none] [] (gL_isTold_L432 n x0 x1 x4 x6 x9 x10) := by
  intro n
  induction n with
  | zero => intro x0 x1 x4 x6 x9 x10; exact N_fail
  | succ n ih =>
    intro x0 x1 x4 x6 x9 x10
    unfold gL_isTold_L432
    refine N_iload (pc := 432) hc dL_isTold_432 rfl ?_
    refine N_if_lt (pc := 434) (tgt := 480) hc dL_isTold_434 (by decide) ?_ ?_
    · refine N_aload_n (pc := 480) hc dL_isTold_480 rfl rfl ?_
      refine N_callCV (pc := 481) hc clX7 (As := []) (KX7_worst x0) dL_isTold_481 moX7_worst rfl tw1342 tw1343 tw1344 tw2 tw1345 rfl (Nat.le_of_ble_eq_true rfl) (Nat.le_of_ble_eq_true rfl) (Nat.le_of_ble_eq_true rfl) rfl (fun _ _ h => by cases h) (fun v1 => ?_)
      show Jw κ (wM κ) 14 fin 484 [some ((7, .ref x0) : TV), some ((54, .ref x1) : TV), none, none, some ((0, .int x4) : TV), none, some ((0, .int x6) : TV), none, none, some ((0, .int x9) : TV), some ((0, .int x10) : TV), none, none, none] [((0, .int v1) : TV)] _
      refine N_iload (pc := 484) hc dL_isTold_484 rfl ?_
      refine N_icmp_ne (pc := 486) (tgt := 511) hc dL_isTold_486 (by decide) ?_ ?_
      · refine N_iconst (pc := 511) (v := 0) hc dL_isTold_511 (by decide) ?_
        exact N_zret (pc := 512) he dL_isTold_512
      · refine N_aload_n (pc := 489) hc dL_isTold_489 rfl rfl ?_
        refine N_callCV (pc := 490) hc clX7 (As := []) (KX7_bestEvery x0) dL_isTold_490 moX7_bestEvery rfl tw1346 tw1347 tw1348 tw2 tw1349 rfl (Nat.le_of_ble_eq_true rfl) (Nat.le_of_ble_eq_true rfl) (Nat.le_of_ble_eq_true rfl) rfl (fun _ _ h => by cases h) (fun v2 => ?_)
        show Jw κ (wM κ) 14 fin 493 [some ((7, .ref x0) : TV), some ((54, .ref x1) : TV), none, none, some ((0, .int x4) : TV), none, some ((0, .int x6) : TV), none, none, some ((0, .int x9) : TV), some ((0, .int x10) : TV), none, none, none] [((0, .int v2) : TV)] _
        refine N_iload (pc := 493) hc dL_isTold_493 rfl ?_
        refine N_icmp_ne (pc := 495) (tgt := 511) hc dL_isTold_495 (by decide) ?_ ?_
        · refine N_iconst (pc := 511) (v := 0) hc dL_isTold_511 (by decide) ?_
          exact N_zret (pc := 512) he dL_isTold_512
        · refine N_aload_n (pc := 498) hc dL_isTold_498 rfl rfl ?_
          refine N_callCV (pc := 499) hc clX7 (As := []) (KX7_needsSteps x0) dL_isTold_499 moX7_needsSteps rfl tw1352 tw1353 tw1354 tw2 tw1355 rfl (Nat.le_of_ble_eq_true rfl) (Nat.le_of_ble_eq_true rfl) (Nat.le_of_ble_eq_true rfl) rfl (fun _ _ h => by cases h) (fun v3 => ?_)
          show Jw κ (wM κ) 14 fin 502 [some ((7, .ref x0) : TV), some ((54, .ref x1) : TV), none, none, some ((0, .int x4) : TV), none, some ((0, .int x6) : TV), none, none, some ((0, .int x9) : TV), some ((0, .int x10) : TV), none, none, none] [((0, .int v3) : TV)] _
          refine N_iload (pc := 502) hc dL_isTold_502 rfl ?_
          refine N_icmp_ne (pc := 504) (tgt := 511) hc dL_isTold_504 (by decide) ?_ ?_
          · refine N_iconst (pc := 511) (v := 0) hc dL_isTold_511 (by decide) ?_
            exact N_zret (pc := 512) he dL_isTold_512
          · refine N_iconst (pc := 507) (v := 1) hc dL_isTold_507 (by decide) ?_
            refine N_goto (pc := 508) (tgt := 512) hc dL_isTold_508 (by decide) ?_
            exact N_zret (pc := 512) he dL_isTold_512
    · refine N_aload_n (pc := 437) hc dL_isTold_437 rfl rfl ?_
      refine N_callV (pc := 438) hc clX9 (As := []) (ZX9_copy x1) dL_isTold_438 mzX9_copy rfl tw822 tw823 tw824 tw10 tw825 rfl (Nat.le_of_ble_eq_true rfl) (Nat.le_of_ble_eq_true rfl) (Nat.le_of_ble_eq_true rfl) rfl (fun h4 => ?_)
      show Jw κ (wM κ) 14 fin 441 [some ((7, .ref x0) : TV), some ((54, .ref x1) : TV), none, none, some ((0, .int x4) : TV), none, some ((0, .int x6) : TV), none, none, some ((0, .int x9) : TV), some ((0, .int x10) : TV), none, none, none] [((54, .ref h4) : TV)] _
      refine N_astore (pc := 441) (l' := [some ((7, .ref x0) : TV), some ((54, .ref x1) : TV), none, none, some ((0, .int x4) : TV), none, some ((0, .int x6) : TV), none, none, some ((0, .int x9) : TV), some ((0, .int x10) : TV), some ((54, .ref h4) : TV), none, none]) hc dL_isTold_441 (by decide) rfl rfl ?_
      refine N_aload (pc := 443) hc dL_isTold_443 rfl ?_
      refine N_getNA (pc := 445) hc clX9 (k := 1) (kd := 11) (Nat.le_of_ble_eq_true rfl) rfl (Nat.le_of_ble_eq_true rfl) (hst0 := "DotRunsLaw") (by decide +kernel) dL_isTold_445 (fun v5 => ?_)
      refine N_iconst (pc := 448) (v := 3) hc dL_isTold_448 (by decide) ?_
      refine N_iload (pc := 449) hc dL_isTold_449 rfl ?_
      refine N_iast (pc := 451) hc dL_isTold_451 ?_
      refine N_aload (pc := 452) hc dL_isTold_452 rfl ?_
      refine N_callV (pc := 454) hc clX9 (As := []) (ZX9_send h4) dL_isTold_454 mzX9_send rfl tw1234 tw1235 tw1236 tw10 tw1237 rfl (Nat.le_of_ble_eq_true rfl) (Nat.le_of_ble_eq_true rfl) (Nat.le_of_ble_eq_true rfl) rfl (fun _ => ?_)
      show Jw κ (wM κ) 14 fin 457 [some ((7, .ref x0) : TV), some ((54, .ref x1) : TV), none, none, some ((0, .int x4) : TV), none, some ((0, .int x6) : TV), none, none, some ((0, .int x9) : TV), some ((0, .int x10) : TV), some ((54, .ref h4) : TV), none, none] [] _
      refine N_aload (pc := 457) hc dL_isTold_457 rfl ?_
      refine N_callV (pc := 459) hc clX9 (As := []) (ZX9_allWrong h4) dL_isTold_459 mzX9_allWrong rfl tw1305 tw1306 tw1307 tw10 tw1308 rfl (Nat.le_of_ble_eq_true rfl) (Nat.le_of_ble_eq_true rfl) (Nat.le_of_ble_eq_true rfl) rfl (fun v6 => ?_)
      show Jw κ (wM κ) 14 fin 462 [some ((7, .ref x0) : TV), some ((54, .ref x1) : TV), none, none, some ((0, .int x4) : TV), none, some ((0, .int x6) : TV), none, none, some ((0, .int x9) : TV), some ((0, .int x10) : TV), some ((54, .ref h4) : TV), none, none] [((0, .int v6) : TV)] _
      refine N_if_ne (pc := 462) (tgt := 470) hc dL_isTold_462 (by decide) ?_ ?_
      · refine N_iload (pc := 470) hc dL_isTold_470 rfl ?_
        refine N_sub (l' := [some ((7, .ref x0) : TV), some ((54, .ref x1) : TV), none, none, some ((0, .int x4) : TV), none, some ((0, .int x6) : TV), none, none, none, some ((0, .int x10) : TV), none, none, none]) ⟨rfl, ⟨rfl, ⟨rfl, ⟨rfl, ⟨rfl, trivial⟩⟩⟩⟩⟩ ?_
        exact qL_isTold_L472 hc he ih x0 x1 x4 x6 x10 x9
      · refine N_iload (pc := 465) hc dL_isTold_465 rfl ?_
        refine N_goto (pc := 467) (tgt := 472) hc dL_isTold_467 (by decide) ?_
        refine N_sub (l' := [some ((7, .ref x0) : TV), some ((54, .ref x1) : TV), none, none, some ((0, .int x4) : TV), none, some ((0, .int x6) : TV), none, none, none, some ((0, .int x10) : TV), none, none, none]) ⟨rfl, ⟨rfl, ⟨rfl, ⟨rfl, ⟨rfl, trivial⟩⟩⟩⟩⟩ ?_
        exact qL_isTold_L472 hc he ih x0 x1 x4 x6 x10 x10
set_option maxRecDepth 100000 in
set_option maxHeartbeats 8000000 in
theorem qL_isTold_L419 {κ : Cx} {fin : Int32 → Mm → Prop} {mc ms : Nat} (hc : Jc κ RL cL_isTold 14 14 mc ms 394) (he : EdW κ cL_isTold tI .ireturn (fun a => a = 0 ∨ a = 1) fin) {k336 : Nat → Nat → Int32 → Int32 → Int32 → Int32 → Int32 → Mm → Option (Int32 × Mm × Nat × Nat)} (hk336 : ∀ (x0 : Nat) (x1 : Nat) (x4 : Int32) (x6 : Int32) (x7 : Int32) (x8 : Int32) (x9 : Int32), Jw κ (wM κ) 14 fin 336 [some ((7, .ref x0) : TV), some ((54, .ref x1) : TV), none, none, some ((0, .int x4) : TV), none, some ((0, .int x6) : TV), some ((0, .int x7) : TV), some ((0, .int x8) : TV), some ((0, .int x9) : TV), none, none, none, none] [] (k336 x0 x1 x4 x6 x7 x8 x9)) (x0 : Nat) (x1 : Nat) (x4 : Int32) (x6 : Int32) (x7 : Int32) (x8 : Int32) (x9 : Int32) : Jw κ (wM κ) 14 fin 419 [some ((7, .ref x0) : TV), some ((54, .ref x1) : TV), none, none, some ((0, .int x4) : TV), none, some ((0, .int x6) : TV), some ((0, .int x7) : TV), some ((0, .int x8) : TV), some ((0, .int x9) : TV), none, none, none, none] [] (gL_isTold_L419 k336 x0 x1 x4 x6 x7 x8 x9) := by
  unfold gL_isTold_L419
  refine N_iinc (pc := 419) (v := x9 + 1) (l' := [some ((7, .ref x0) : TV), some ((54, .ref x1) : TV), none, none, some ((0, .int x4) : TV), none, some ((0, .int x6) : TV), some ((0, .int x7) : TV), some ((0, .int x8) : TV), some ((0, .int (x9 + 1)) : TV), none, none, none, none]) hc dL_isTold_419 rfl rfl (by decide) rfl rfl ?_
  refine N_goto (pc := 422) (tgt := 336) hc dL_isTold_422 (by decide) ?_
  refine N_sub (l' := [some ((7, .ref x0) : TV), some ((54, .ref x1) : TV), none, none, some ((0, .int x4) : TV), none, some ((0, .int x6) : TV), some ((0, .int x7) : TV), some ((0, .int x8) : TV), some ((0, .int (x9 + 1)) : TV), none, none, none, none]) ⟨rfl, ⟨rfl, ⟨rfl, ⟨rfl, ⟨rfl, ⟨rfl, ⟨rfl, trivial⟩⟩⟩⟩⟩⟩⟩ ?_
  exact hk336 x0 x1 x4 x6 x7 x8 (x9 + 1)
set_option maxRecDepth 100000 in
set_option maxHeartbeats 8000000 in
theorem qL_isTold_L401 {κ : Cx} {fin : Int32 → Mm → Prop} {mc ms : Nat} (hc : Jc κ RL cL_isTold 14 14 mc ms 394) (he : EdW κ cL_isTold tI .ireturn (fun a => a = 0 ∨ a = 1) fin) {k336 : Nat → Nat → Int32 → Int32 → Int32 → Int32 → Int32 → Mm → Option (Int32 × Mm × Nat × Nat)} (hk336 : ∀ (x0 : Nat) (x1 : Nat) (x4 : Int32) (x6 : Int32) (x7 : Int32) (x8 : Int32) (x9 : Int32), Jw κ (wM κ) 14 fin 336 [some ((7, .ref x0) : TV), some ((54, .ref x1) : TV), none, none, some ((0, .int x4) : TV), none, some ((0, .int x6) : TV), some ((0, .int x7) : TV), some ((0, .int x8) : TV), some ((0, .int x9) : TV), none, none, none, none] [] (k336 x0 x1 x4 x6 x7 x8 x9)) (x0 : Nat) (x1 : Nat) (x4 : Int32) (x9 : Int32) (x10 : Nat) : Jw κ (wM κ) 14 fin 401 [some ((7, .ref x0) : TV), some ((54, .ref x1) : TV), none, none, some ((0, .int x4) : TV), none, none, none, none, some ((0, .int x9) : TV), some ((54, .ref x10) : TV), none, none, none] [] (gL_isTold_L401 k336 x0 x1 x4 x9 x10) := by
  unfold gL_isTold_L401
  refine N_iload (pc := 401) hc dL_isTold_401 rfl ?_
  refine N_istore (pc := 403) (l' := [some ((7, .ref x0) : TV), some ((54, .ref x1) : TV), none, none, some ((0, .int x4) : TV), none, some ((0, .int x9) : TV), none, none, some ((0, .int x9) : TV), some ((54, .ref x10) : TV), none, none, none]) hc dL_isTold_403 (by decide) rfl rfl ?_
  refine N_aload (pc := 405) hc dL_isTold_405 rfl ?_
  refine N_callV (pc := 407) hc clX9 (As := []) (ZX9_allWrong x10) dL_isTold_407 mzX9_allWrong rfl tw1305 tw1306 tw1307 tw10 tw1308 rfl (Nat.le_of_ble_eq_true rfl) (Nat.le_of_ble_eq_true rfl) (Nat.le_of_ble_eq_true rfl) rfl (fun v7 => ?_)
  show Jw κ (wM κ) 14 fin 410 [some ((7, .ref x0) : TV), some ((54, .ref x1) : TV), none, none, some ((0, .int x4) : TV), none, some ((0, .int x9) : TV), none, none, some ((0, .int x9) : TV), some ((54, .ref x10) : TV), none, none, none] [((0, .int v7) : TV)] _
  refine N_istore (pc := 410) (l' := [some ((7, .ref x0) : TV), some ((54, .ref x1) : TV), none, none, some ((0, .int x4) : TV), none, some ((0, .int x9) : TV), some ((0, .int v7) : TV), none, some ((0, .int x9) : TV), some ((54, .ref x10) : TV), none, none, none]) hc dL_isTold_410 (by decide) rfl rfl ?_
  refine N_aload (pc := 412) hc dL_isTold_412 rfl ?_
  refine N_getNI (pc := 414) hc clX9 (k := 9) (Nat.le_of_ble_eq_true rfl) rfl (hst0 := "DotRunsLaw") (by decide +kernel) dL_isTold_414 (fun v8 => ?_)
  refine N_istore (pc := 417) (l' := [some ((7, .ref x0) : TV), some ((54, .ref x1) : TV), none, none, some ((0, .int x4) : TV), none, some ((0, .int x9) : TV), some ((0, .int v7) : TV), some ((0, .int v8) : TV), some ((0, .int x9) : TV), some ((54, .ref x10) : TV), none, none, none]) hc dL_isTold_417 (by decide) rfl rfl ?_
  refine N_sub (l' := [some ((7, .ref x0) : TV), some ((54, .ref x1) : TV), none, none, some ((0, .int x4) : TV), none, some ((0, .int x9) : TV), some ((0, .int v7) : TV), some ((0, .int v8) : TV), some ((0, .int x9) : TV), none, none, none, none]) ⟨rfl, ⟨rfl, ⟨rfl, ⟨rfl, ⟨rfl, ⟨rfl, ⟨rfl, trivial⟩⟩⟩⟩⟩⟩⟩ ?_
  exact qL_isTold_L419 hc he hk336 x0 x1 x4 x9 v7 v8 x9
set_option maxRecDepth 100000 in
set_option maxHeartbeats 8000000 in
theorem qL_isTold_L336 {κ : Cx} {fin : Int32 → Mm → Prop} {mc ms : Nat} (hc : Jc κ RL cL_isTold 14 14 mc ms 394) (he : EdW κ cL_isTold tI .ireturn (fun a => a = 0 ∨ a = 1) fin) : ∀ (n : Nat) (x0 : Nat) (x1 : Nat) (x4 : Int32) (x6 : Int32) (x7 : Int32) (x8 : Int32) (x9 : Int32), Jw κ (wM κ) 14 fin 336 [some ((7, .ref x0) : TV), some ((54, .ref x1) : TV), none, none, some ((0, .int x4) : TV), none, some ((0, .int x6) : TV), some ((0, .int x7) : TV), some ((0, .int x8) : TV), some ((0, .int x9) : TV), none, none, none, none] [] (gL_isTold_L336 n x0 x1 x4 x6 x7 x8 x9) := by
  intro n
  induction n with
  | zero => intro x0 x1 x4 x6 x7 x8 x9; exact N_fail
  | succ n ih =>
    intro x0 x1 x4 x6 x7 x8 x9
    unfold gL_isTold_L336
    refine N_iload (pc := 336) hc dL_isTold_336 rfl ?_
    refine N_bipush (pc := 338) (v := 8) hc dL_isTold_338 (by decide) ?_
    refine N_icmp_gt (pc := 340) (tgt := 425) hc dL_isTold_340 (by decide) ?_ ?_
    · refine N_iconst (pc := 425) (v := (-1)) hc dL_isTold_425 (by decide) ?_
      refine N_istore (pc := 426) (l' := [some ((7, .ref x0) : TV), some ((54, .ref x1) : TV), none, none, some ((0, .int x4) : TV), none, some ((0, .int x6) : TV), some ((0, .int x7) : TV), some ((0, .int x8) : TV), some ((0, .int (-1)) : TV), none, none, none, none]) hc dL_isTold_426 (by decide) rfl rfl ?_
      refine N_bipush (pc := 428) (v := 9) hc dL_isTold_428 (by decide) ?_
      refine N_istore (pc := 430) (l' := [some ((7, .ref x0) : TV), some ((54, .ref x1) : TV), none, none, some ((0, .int x4) : TV), none, some ((0, .int x6) : TV), some ((0, .int x7) : TV), some ((0, .int x8) : TV), some ((0, .int (-1)) : TV), some ((0, .int 9) : TV), none, none, none]) hc dL_isTold_430 (by decide) rfl rfl ?_
      refine N_sub (l' := [some ((7, .ref x0) : TV), some ((54, .ref x1) : TV), none, none, some ((0, .int x4) : TV), none, some ((0, .int x6) : TV), none, none, some ((0, .int (-1)) : TV), some ((0, .int 9) : TV), none, none, none]) ⟨rfl, ⟨rfl, ⟨rfl, ⟨rfl, ⟨rfl, ⟨rfl, trivial⟩⟩⟩⟩⟩⟩ ?_
      exact qL_isTold_L432 hc he fu x0 x1 x4 x6 (-1) 9
    · refine N_aload_n (pc := 343) hc dL_isTold_343 rfl rfl ?_
      refine N_callV (pc := 344) hc clX9 (As := []) (ZX9_copy x1) dL_isTold_344 mzX9_copy rfl tw822 tw823 tw824 tw10 tw825 rfl (Nat.le_of_ble_eq_true rfl) (Nat.le_of_ble_eq_true rfl) (Nat.le_of_ble_eq_true rfl) rfl (fun h9 => ?_)
      show Jw κ (wM κ) 14 fin 347 [some ((7, .ref x0) : TV), some ((54, .ref x1) : TV), none, none, some ((0, .int x4) : TV), none, some ((0, .int x6) : TV), some ((0, .int x7) : TV), some ((0, .int x8) : TV), some ((0, .int x9) : TV), none, none, none, none] [((54, .ref h9) : TV)] _
      refine N_astore (pc := 347) (l' := [some ((7, .ref x0) : TV), some ((54, .ref x1) : TV), none, none, some ((0, .int x4) : TV), none, some ((0, .int x6) : TV), some ((0, .int x7) : TV), some ((0, .int x8) : TV), some ((0, .int x9) : TV), some ((54, .ref h9) : TV), none, none, none]) hc dL_isTold_347 (by decide) rfl rfl ?_
      refine N_aload (pc := 349) hc dL_isTold_349 rfl ?_
      refine N_getNA (pc := 351) hc clX9 (k := 1) (kd := 11) (Nat.le_of_ble_eq_true rfl) rfl (Nat.le_of_ble_eq_true rfl) (hst0 := "DotRunsLaw") (by decide +kernel) dL_isTold_351 (fun v10 => ?_)
      refine N_iconst (pc := 354) (v := 0) hc dL_isTold_354 (by decide) ?_
      refine N_iload (pc := 355) hc dL_isTold_355 rfl ?_
      refine N_iast (pc := 357) hc dL_isTold_357 ?_
      refine N_aload (pc := 358) hc dL_isTold_358 rfl ?_
      refine N_callV (pc := 360) hc clX9 (As := []) (ZX9_send h9) dL_isTold_360 mzX9_send rfl tw1234 tw1235 tw1236 tw10 tw1237 rfl (Nat.le_of_ble_eq_true rfl) (Nat.le_of_ble_eq_true rfl) (Nat.le_of_ble_eq_true rfl) rfl (fun _ => ?_)
      show Jw κ (wM κ) 14 fin 363 [some ((7, .ref x0) : TV), some ((54, .ref x1) : TV), none, none, some ((0, .int x4) : TV), none, some ((0, .int x6) : TV), some ((0, .int x7) : TV), some ((0, .int x8) : TV), some ((0, .int x9) : TV), some ((54, .ref h9) : TV), none, none, none] [] _
      refine N_iload (pc := 363) hc dL_isTold_363 rfl ?_
      refine N_if_le (pc := 365) (tgt := 401) hc dL_isTold_365 (by decide) ?_ ?_
      · refine N_sub (l' := [some ((7, .ref x0) : TV), some ((54, .ref x1) : TV), none, none, some ((0, .int x4) : TV), none, none, none, none, some ((0, .int x9) : TV), some ((54, .ref h9) : TV), none, none, none]) ⟨rfl, ⟨rfl, ⟨rfl, ⟨rfl, ⟨rfl, trivial⟩⟩⟩⟩⟩ ?_
        exact qL_isTold_L401 hc he ih x0 x1 x4 x9 h9
      · refine N_aload (pc := 368) hc dL_isTold_368 rfl ?_
        refine N_callV (pc := 370) hc clX9 (As := []) (ZX9_allWrong h9) dL_isTold_370 mzX9_allWrong rfl tw1305 tw1306 tw1307 tw10 tw1308 rfl (Nat.le_of_ble_eq_true rfl) (Nat.le_of_ble_eq_true rfl) (Nat.le_of_ble_eq_true rfl) rfl (fun v11 => ?_)
        show Jw κ (wM κ) 14 fin 373 [some ((7, .ref x0) : TV), some ((54, .ref x1) : TV), none, none, some ((0, .int x4) : TV), none, some ((0, .int x6) : TV), some ((0, .int x7) : TV), some ((0, .int x8) : TV), some ((0, .int x9) : TV), some ((54, .ref h9) : TV), none, none, none] [((0, .int v11) : TV)] _
        refine N_iload (pc := 373) hc dL_isTold_373 rfl ?_
        refine N_icmp_gt (pc := 375) (tgt := 419) hc dL_isTold_375 (by decide) ?_ ?_
        · refine N_sub (l' := [some ((7, .ref x0) : TV), some ((54, .ref x1) : TV), none, none, some ((0, .int x4) : TV), none, some ((0, .int x6) : TV), some ((0, .int x7) : TV), some ((0, .int x8) : TV), some ((0, .int x9) : TV), none, none, none, none]) ⟨rfl, ⟨rfl, ⟨rfl, ⟨rfl, ⟨rfl, ⟨rfl, ⟨rfl, trivial⟩⟩⟩⟩⟩⟩⟩ ?_
          exact qL_isTold_L419 hc he ih x0 x1 x4 x6 x7 x8 x9
        · refine N_aload (pc := 378) hc dL_isTold_378 rfl ?_
          refine N_callV (pc := 380) hc clX9 (As := []) (ZX9_allWrong h9) dL_isTold_380 mzX9_allWrong rfl tw1305 tw1306 tw1307 tw10 tw1308 rfl (Nat.le_of_ble_eq_true rfl) (Nat.le_of_ble_eq_true rfl) (Nat.le_of_ble_eq_true rfl) rfl (fun v12 => ?_)
          show Jw κ (wM κ) 14 fin 383 [some ((7, .ref x0) : TV), some ((54, .ref x1) : TV), none, none, some ((0, .int x4) : TV), none, some ((0, .int x6) : TV), some ((0, .int x7) : TV), some ((0, .int x8) : TV), some ((0, .int x9) : TV), some ((54, .ref h9) : TV), none, none, none] [((0, .int v12) : TV)] _
          refine N_iload (pc := 383) hc dL_isTold_383 rfl ?_
          refine N_icmp_ne (pc := 385) (tgt := 401) hc dL_isTold_385 (by decide) ?_ ?_
          · refine N_sub (l' := [some ((7, .ref x0) : TV), some ((54, .ref x1) : TV), none, none, some ((0, .int x4) : TV), none, none, none, none, some ((0, .int x9) : TV), some ((54, .ref h9) : TV), none, none, none]) ⟨rfl, ⟨rfl, ⟨rfl, ⟨rfl, ⟨rfl, trivial⟩⟩⟩⟩⟩ ?_
            exact qL_isTold_L401 hc he ih x0 x1 x4 x9 h9
          · refine N_aload (pc := 388) hc dL_isTold_388 rfl ?_
            refine N_getNI (pc := 390) hc clX9 (k := 9) (Nat.le_of_ble_eq_true rfl) rfl (hst0 := "DotRunsLaw") (by decide +kernel) dL_isTold_390 (fun v13 => ?_)
            refine N_iload (pc := 393) hc dL_isTold_393 rfl ?_
            refine N_icmp_lt (pc := 395) (tgt := 401) hc dL_isTold_395 (by decide) ?_ ?_
            · refine N_sub (l' := [some ((7, .ref x0) : TV), some ((54, .ref x1) : TV), none, none, some ((0, .int x4) : TV), none, none, none, none, some ((0, .int x9) : TV), some ((54, .ref h9) : TV), none, none, none]) ⟨rfl, ⟨rfl, ⟨rfl, ⟨rfl, ⟨rfl, trivial⟩⟩⟩⟩⟩ ?_
              exact qL_isTold_L401 hc he ih x0 x1 x4 x9 h9
            · refine N_goto (pc := 398) (tgt := 419) hc dL_isTold_398 (by decide) ?_
              refine N_sub (l' := [some ((7, .ref x0) : TV), some ((54, .ref x1) : TV), none, none, some ((0, .int x4) : TV), none, some ((0, .int x6) : TV), some ((0, .int x7) : TV), some ((0, .int x8) : TV), some ((0, .int x9) : TV), none, none, none, none]) ⟨rfl, ⟨rfl, ⟨rfl, ⟨rfl, ⟨rfl, ⟨rfl, ⟨rfl, trivial⟩⟩⟩⟩⟩⟩⟩ ?_
              exact qL_isTold_L419 hc he ih x0 x1 x4 x6 x7 x8 x9
set_option maxRecDepth 100000 in
set_option maxHeartbeats 8000000 in
theorem qL_isTold_L303 {κ : Cx} {fin : Int32 → Mm → Prop} {mc ms : Nat} (hc : Jc κ RL cL_isTold 14 14 mc ms 394) (he : EdW κ cL_isTold tI .ireturn (fun a => a = 0 ∨ a = 1) fin) {k17 : Nat → Nat → Nat → Int32 → Int32 → Int32 → Int32 → Mm → Option (Int32 × Mm × Nat × Nat)} (hk17 : ∀ (x0 : Nat) (x1 : Nat) (x2 : Nat) (x3 : Int32) (x4 : Int32) (x5 : Int32) (x6 : Int32), Jw κ (wM κ) 14 fin 17 [some ((7, .ref x0) : TV), some ((54, .ref x1) : TV), some ((55, .ref x2) : TV), some ((0, .int x3) : TV), some ((0, .int x4) : TV), some ((0, .int x5) : TV), some ((0, .int x6) : TV), none, none, none, none, none, none, none] [] (k17 x0 x1 x2 x3 x4 x5 x6)) (x0 : Nat) (x1 : Nat) (x2 : Nat) (x3 : Int32) (x4 : Int32) (x5 : Int32) (x6 : Int32) (x10 : Int32) (x12 : Int32) : Jw κ (wM κ) 14 fin 303 [some ((7, .ref x0) : TV), some ((54, .ref x1) : TV), some ((55, .ref x2) : TV), some ((0, .int x3) : TV), some ((0, .int x4) : TV), some ((0, .int x5) : TV), some ((0, .int x6) : TV), none, none, none, some ((0, .int x10) : TV), none, some ((0, .int x12) : TV), none] [] (gL_isTold_L303 k17 x0 x1 x2 x3 x4 x5 x6 x10 x12) := by
  unfold gL_isTold_L303
  refine N_aload_n (pc := 303) hc dL_isTold_303 rfl rfl ?_
  refine N_iload (pc := 304) hc dL_isTold_304 rfl ?_
  refine N_iload (pc := 306) hc dL_isTold_306 rfl ?_
  refine N_callCX (pc := 308) hc clX7 (As := [((0, .int x6) : TV), ((0, .int x10) : TV)]) (KX7_readBelow x0 x6 x10) dL_isTold_308 moX7_readBelow rfl tw1220 tw1221 tw1222 tw2 tw1223 rfl (Nat.le_of_ble_eq_true rfl) (Nat.le_of_ble_eq_true rfl) (Nat.le_of_ble_eq_true rfl) rfl (fun _ _ h => by cases h) (fun v14 => ?_)
  show Jw κ (wM κ) 14 fin 311 [some ((7, .ref x0) : TV), some ((54, .ref x1) : TV), some ((55, .ref x2) : TV), some ((0, .int x3) : TV), some ((0, .int x4) : TV), some ((0, .int x5) : TV), some ((0, .int x6) : TV), none, none, none, some ((0, .int x10) : TV), none, some ((0, .int x12) : TV), none] [((0, .int v14) : TV)] _
  refine N_iload (pc := 311) hc dL_isTold_311 rfl ?_
  refine N_icmp_eq (pc := 313) (tgt := 318) hc dL_isTold_313 (by decide) ?_ ?_
  · refine N_iinc (pc := 318) (v := x6 + 1) (l' := [some ((7, .ref x0) : TV), some ((54, .ref x1) : TV), some ((55, .ref x2) : TV), some ((0, .int x3) : TV), some ((0, .int x4) : TV), some ((0, .int x5) : TV), some ((0, .int (x6 + 1)) : TV), none, none, none, some ((0, .int x10) : TV), none, some ((0, .int x12) : TV), none]) hc dL_isTold_318 rfl rfl (by decide) rfl rfl ?_
    refine N_goto (pc := 321) (tgt := 17) hc dL_isTold_321 (by decide) ?_
    refine N_sub (l' := [some ((7, .ref x0) : TV), some ((54, .ref x1) : TV), some ((55, .ref x2) : TV), some ((0, .int x3) : TV), some ((0, .int x4) : TV), some ((0, .int x5) : TV), some ((0, .int (x6 + 1)) : TV), none, none, none, none, none, none, none]) ⟨rfl, ⟨rfl, ⟨rfl, ⟨rfl, ⟨rfl, ⟨rfl, ⟨rfl, trivial⟩⟩⟩⟩⟩⟩⟩ ?_
    exact hk17 x0 x1 x2 x3 x4 x5 (x6 + 1)
  · refine N_iconst (pc := 316) (v := 0) hc dL_isTold_316 (by decide) ?_
    exact N_zret (pc := 317) he dL_isTold_317
set_option maxRecDepth 100000 in
set_option maxHeartbeats 8000000 in
theorem qL_isTold_L294 {κ : Cx} {fin : Int32 → Mm → Prop} {mc ms : Nat} (hc : Jc κ RL cL_isTold 14 14 mc ms 394) (he : EdW κ cL_isTold tI .ireturn (fun a => a = 0 ∨ a = 1) fin) {k250 : Nat → Nat → Nat → Int32 → Int32 → Int32 → Int32 → Int32 → Option Nat → Int32 → Int32 → Mm → Option (Int32 × Mm × Nat × Nat)} (hk250 : ∀ (x0 : Nat) (x1 : Nat) (x2 : Nat) (x3 : Int32) (x4 : Int32) (x5 : Int32) (x6 : Int32) (x10 : Int32) (x11 : Option Nat) (x12 : Int32) (x13 : Int32), Jw κ (wM κ) 14 fin 250 [some ((7, .ref x0) : TV), some ((54, .ref x1) : TV), some ((55, .ref x2) : TV), some ((0, .int x3) : TV), some ((0, .int x4) : TV), some ((0, .int x5) : TV), some ((0, .int x6) : TV), none, none, none, some ((0, .int x10) : TV), some ((13, va_rf x11) : TV), some ((0, .int x12) : TV), some ((0, .int x13) : TV)] [] (k250 x0 x1 x2 x3 x4 x5 x6 x10 x11 x12 x13)) (x0 : Nat) (x1 : Nat) (x2 : Nat) (x3 : Int32) (x4 : Int32) (x5 : Int32) (x6 : Int32) (x10 : Int32) (x11 : Option Nat) (x13 : Int32) (s0 : Int32) (s1 : Int32) : Jw κ (wM κ) 14 fin 294 [some ((7, .ref x0) : TV), some ((54, .ref x1) : TV), some ((55, .ref x2) : TV), some ((0, .int x3) : TV), some ((0, .int x4) : TV), some ((0, .int x5) : TV), some ((0, .int x6) : TV), none, none, none, some ((0, .int x10) : TV), some ((13, va_rf x11) : TV), none, some ((0, .int x13) : TV)] [((0, .int s0) : TV), ((0, .int s1) : TV)] (gL_isTold_L294 k250 x0 x1 x2 x3 x4 x5 x6 x10 x11 x13 s0 s1) := by
  unfold gL_isTold_L294
  refine N_iadd (pc := 294) hc dL_isTold_294 ?_
  refine N_nmi (fun v15 => ?_)
  refine N_istore (pc := 295) (l' := [some ((7, .ref x0) : TV), some ((54, .ref x1) : TV), some ((55, .ref x2) : TV), some ((0, .int x3) : TV), some ((0, .int x4) : TV), some ((0, .int x5) : TV), some ((0, .int x6) : TV), none, none, none, some ((0, .int x10) : TV), some ((13, va_rf x11) : TV), some ((0, .int v15) : TV), some ((0, .int x13) : TV)]) hc dL_isTold_295 (by decide) (by cases x11 <;> rfl) rfl ?_
  refine N_iinc (pc := 297) (v := x13 + 1) (l' := [some ((7, .ref x0) : TV), some ((54, .ref x1) : TV), some ((55, .ref x2) : TV), some ((0, .int x3) : TV), some ((0, .int x4) : TV), some ((0, .int x5) : TV), some ((0, .int x6) : TV), none, none, none, some ((0, .int x10) : TV), some ((13, va_rf x11) : TV), some ((0, .int v15) : TV), some ((0, .int (x13 + 1)) : TV)]) hc dL_isTold_297 rfl rfl (by decide) rfl rfl ?_
  refine N_goto (pc := 300) (tgt := 250) hc dL_isTold_300 (by decide) ?_
  refine N_sub (l' := [some ((7, .ref x0) : TV), some ((54, .ref x1) : TV), some ((55, .ref x2) : TV), some ((0, .int x3) : TV), some ((0, .int x4) : TV), some ((0, .int x5) : TV), some ((0, .int x6) : TV), none, none, none, some ((0, .int x10) : TV), some ((13, va_rf x11) : TV), some ((0, .int v15) : TV), some ((0, .int (x13 + 1)) : TV)]) ⟨rfl, ⟨rfl, ⟨rfl, ⟨rfl, ⟨rfl, ⟨rfl, ⟨rfl, ⟨rfl, ⟨rfl, ⟨rfl, ⟨rfl, trivial⟩⟩⟩⟩⟩⟩⟩⟩⟩⟩⟩ ?_
  exact hk250 x0 x1 x2 x3 x4 x5 x6 x10 x11 v15 (x13 + 1)
set_option maxRecDepth 100000 in
set_option maxHeartbeats 8000000 in
theorem qL_isTold_L250 {κ : Cx} {fin : Int32 → Mm → Prop} {mc ms : Nat} (hc : Jc κ RL cL_isTold 14 14 mc ms 394) (he : EdW κ cL_isTold tI .ireturn (fun a => a = 0 ∨ a = 1) fin) {k17 : Nat → Nat → Nat → Int32 → Int32 → Int32 → Int32 → Mm → Option (Int32 × Mm × Nat × Nat)} (hk17 : ∀ (x0 : Nat) (x1 : Nat) (x2 : Nat) (x3 : Int32) (x4 : Int32) (x5 : Int32) (x6 : Int32), Jw κ (wM κ) 14 fin 17 [some ((7, .ref x0) : TV), some ((54, .ref x1) : TV), some ((55, .ref x2) : TV), some ((0, .int x3) : TV), some ((0, .int x4) : TV), some ((0, .int x5) : TV), some ((0, .int x6) : TV), none, none, none, none, none, none, none] [] (k17 x0 x1 x2 x3 x4 x5 x6)) : ∀ (n : Nat) (x0 : Nat) (x1 : Nat) (x2 : Nat) (x3 : Int32) (x4 : Int32) (x5 : Int32) (x6 : Int32) (x10 : Int32) (x11 : Option Nat) (x12 : Int32) (x13 : Int32), Jw κ (wM κ) 14 fin 250 [some ((7, .ref x0) : TV), some ((54, .ref x1) : TV), some ((55, .ref x2) : TV), some ((0, .int x3) : TV), some ((0, .int x4) : TV), some ((0, .int x5) : TV), some ((0, .int x6) : TV), none, none, none, some ((0, .int x10) : TV), some ((13, va_rf x11) : TV), some ((0, .int x12) : TV), some ((0, .int x13) : TV)] [] (gL_isTold_L250 k17 n x0 x1 x2 x3 x4 x5 x6 x10 x11 x12 x13) := by
  intro n
  induction n with
  | zero => intro x0 x1 x2 x3 x4 x5 x6 x10 x11 x12 x13; exact N_fail
  | succ n ih =>
    intro x0 x1 x2 x3 x4 x5 x6 x10 x11 x12 x13
    unfold gL_isTold_L250
    refine N_iload (pc := 250) hc dL_isTold_250 rfl ?_
    refine N_aload_n (pc := 252) hc dL_isTold_252 rfl rfl ?_
    refine N_getNI (pc := 253) hc clX9 (k := 0) (Nat.le_of_ble_eq_true rfl) rfl (hst0 := "DotRunsLaw") (by decide +kernel) dL_isTold_253 (fun v16 => ?_)
    refine N_icmp_ge (pc := 256) (tgt := 303) hc dL_isTold_256 (by decide) ?_ ?_
    · refine N_sub (l' := [some ((7, .ref x0) : TV), some ((54, .ref x1) : TV), some ((55, .ref x2) : TV), some ((0, .int x3) : TV), some ((0, .int x4) : TV), some ((0, .int x5) : TV), some ((0, .int x6) : TV), none, none, none, some ((0, .int x10) : TV), none, some ((0, .int x12) : TV), none]) ⟨rfl, ⟨rfl, ⟨rfl, ⟨rfl, ⟨rfl, ⟨rfl, ⟨rfl, ⟨rfl, ⟨rfl, trivial⟩⟩⟩⟩⟩⟩⟩⟩⟩ ?_
      exact qL_isTold_L303 hc he hk17 x0 x1 x2 x3 x4 x5 x6 x10 x12
    · refine N_aloadO (pc := 259) hc dL_isTold_259 rfl ?_
      refine N_ifnullD (pc := 261) (tgt := 303) hc dL_isTold_261 (by decide) ?_ ?_
      · refine N_sub (l' := [some ((7, .ref x0) : TV), some ((54, .ref x1) : TV), some ((55, .ref x2) : TV), some ((0, .int x3) : TV), some ((0, .int x4) : TV), some ((0, .int x5) : TV), some ((0, .int x6) : TV), none, none, none, some ((0, .int x10) : TV), none, some ((0, .int x12) : TV), none]) ⟨rfl, ⟨rfl, ⟨rfl, ⟨rfl, ⟨rfl, ⟨rfl, ⟨rfl, ⟨rfl, ⟨rfl, trivial⟩⟩⟩⟩⟩⟩⟩⟩⟩ ?_
        exact qL_isTold_L303 hc he hk17 x0 x1 x2 x3 x4 x5 x6 x10 x12
      · intro p17 ep17
        subst ep17
        refine N_iload (pc := 264) hc dL_isTold_264 rfl ?_
        refine N_aload (pc := 266) hc dL_isTold_266 rfl ?_
        refine N_iload (pc := 268) hc dL_isTold_268 rfl ?_
        refine N_zald (pc := 270) hc dL_isTold_270 (fun v18 => ?_)
        refine N_aload_n (pc := 271) hc dL_isTold_271 rfl rfl ?_
        refine N_getNA (pc := 272) hc clX9 (k := 3) (kd := 44) (Nat.le_of_ble_eq_true rfl) rfl (Nat.le_of_ble_eq_true rfl) (hst0 := "DotRunsLaw") (by decide +kernel) dL_isTold_272 (fun v19 => ?_)
        refine N_iload (pc := 275) hc dL_isTold_275 rfl ?_
        refine N_callV (pc := 277) hc clJx4a65c (As := [((0, .int x6) : TV)]) (ZJx4a65c_get_915e3 v19 x6) dL_isTold_277 mzJx4a65c_get_915e3 rfl tw1058 tw1059 tw1060 tw13 tw1061 rfl (Nat.le_of_ble_eq_true rfl) (Nat.le_of_ble_eq_true rfl) (Nat.le_of_ble_eq_true rfl) rfl (fun h20 => ?_)
        show Jw κ (wM κ) 14 fin 280 [some ((7, .ref x0) : TV), some ((54, .ref x1) : TV), some ((55, .ref x2) : TV), some ((0, .int x3) : TV), some ((0, .int x4) : TV), some ((0, .int x5) : TV), some ((0, .int x6) : TV), none, none, none, some ((0, .int x10) : TV), some ((13, .ref p17) : TV), some ((0, .int x12) : TV), some ((0, .int x13) : TV)] [((16, .ref h20) : TV), ((0, .int v18) : TV), ((0, .int x12) : TV)] _
        refine N_castZ (pc := 280) hc tw1070 dL_isTold_280 ?_
        refine N_iload (pc := 283) hc dL_isTold_283 rfl ?_
        refine N_zald (pc := 285) hc dL_isTold_285 (fun v21 => ?_)
        refine N_icmp_ne (pc := 286) (tgt := 293) hc dL_isTold_286 (by decide) ?_ ?_
        · refine N_iconst (pc := 293) (v := 1) hc dL_isTold_293 (by decide) ?_
          refine N_sub (l' := [some ((7, .ref x0) : TV), some ((54, .ref x1) : TV), some ((55, .ref x2) : TV), some ((0, .int x3) : TV), some ((0, .int x4) : TV), some ((0, .int x5) : TV), some ((0, .int x6) : TV), none, none, none, some ((0, .int x10) : TV), some ((13, va_rf (some p17)) : TV), none, some ((0, .int x13) : TV)]) ⟨rfl, ⟨rfl, ⟨rfl, ⟨rfl, ⟨rfl, ⟨rfl, ⟨rfl, ⟨rfl, ⟨rfl, ⟨rfl, trivial⟩⟩⟩⟩⟩⟩⟩⟩⟩⟩ ?_
          exact qL_isTold_L294 hc he ih x0 x1 x2 x3 x4 x5 x6 x10 (some p17) x13 1 x12
        · refine N_iconst (pc := 289) (v := 0) hc dL_isTold_289 (by decide) ?_
          refine N_goto (pc := 290) (tgt := 294) hc dL_isTold_290 (by decide) ?_
          refine N_sub (l' := [some ((7, .ref x0) : TV), some ((54, .ref x1) : TV), some ((55, .ref x2) : TV), some ((0, .int x3) : TV), some ((0, .int x4) : TV), some ((0, .int x5) : TV), some ((0, .int x6) : TV), none, none, none, some ((0, .int x10) : TV), some ((13, va_rf (some p17)) : TV), none, some ((0, .int x13) : TV)]) ⟨rfl, ⟨rfl, ⟨rfl, ⟨rfl, ⟨rfl, ⟨rfl, ⟨rfl, ⟨rfl, ⟨rfl, ⟨rfl, trivial⟩⟩⟩⟩⟩⟩⟩⟩⟩⟩ ?_
          exact qL_isTold_L294 hc he ih x0 x1 x2 x3 x4 x5 x6 x10 (some p17) x13 0 x12
set_option maxRecDepth 100000 in
set_option maxHeartbeats 8000000 in
theorem qL_isTold_L245 {κ : Cx} {fin : Int32 → Mm → Prop} {mc ms : Nat} (hc : Jc κ RL cL_isTold 14 14 mc ms 394) (he : EdW κ cL_isTold tI .ireturn (fun a => a = 0 ∨ a = 1) fin) {k17 : Nat → Nat → Nat → Int32 → Int32 → Int32 → Int32 → Mm → Option (Int32 × Mm × Nat × Nat)} (hk17 : ∀ (x0 : Nat) (x1 : Nat) (x2 : Nat) (x3 : Int32) (x4 : Int32) (x5 : Int32) (x6 : Int32), Jw κ (wM κ) 14 fin 17 [some ((7, .ref x0) : TV), some ((54, .ref x1) : TV), some ((55, .ref x2) : TV), some ((0, .int x3) : TV), some ((0, .int x4) : TV), some ((0, .int x5) : TV), some ((0, .int x6) : TV), none, none, none, none, none, none, none] [] (k17 x0 x1 x2 x3 x4 x5 x6)) (x0 : Nat) (x1 : Nat) (x2 : Nat) (x3 : Int32) (x4 : Int32) (x5 : Int32) (x6 : Int32) (x10 : Int32) (x11 : Option Nat) (s0 : Int32) : Jw κ (wM κ) 14 fin 245 [some ((7, .ref x0) : TV), some ((54, .ref x1) : TV), some ((55, .ref x2) : TV), some ((0, .int x3) : TV), some ((0, .int x4) : TV), some ((0, .int x5) : TV), some ((0, .int x6) : TV), none, none, none, some ((0, .int x10) : TV), some ((13, va_rf x11) : TV), none, none] [((0, .int s0) : TV)] (gL_isTold_L245 k17 x0 x1 x2 x3 x4 x5 x6 x10 x11 s0) := by
  unfold gL_isTold_L245
  refine N_istore (pc := 245) (l' := [some ((7, .ref x0) : TV), some ((54, .ref x1) : TV), some ((55, .ref x2) : TV), some ((0, .int x3) : TV), some ((0, .int x4) : TV), some ((0, .int x5) : TV), some ((0, .int x6) : TV), none, none, none, some ((0, .int x10) : TV), some ((13, va_rf x11) : TV), some ((0, .int s0) : TV), none]) hc dL_isTold_245 (by decide) (by cases x11 <;> rfl) rfl ?_
  refine N_iconst (pc := 247) (v := 0) hc dL_isTold_247 (by decide) ?_
  refine N_istore (pc := 248) (l' := [some ((7, .ref x0) : TV), some ((54, .ref x1) : TV), some ((55, .ref x2) : TV), some ((0, .int x3) : TV), some ((0, .int x4) : TV), some ((0, .int x5) : TV), some ((0, .int x6) : TV), none, none, none, some ((0, .int x10) : TV), some ((13, va_rf x11) : TV), some ((0, .int s0) : TV), some ((0, .int 0) : TV)]) hc dL_isTold_248 (by decide) rfl rfl ?_
  refine N_sub (l' := [some ((7, .ref x0) : TV), some ((54, .ref x1) : TV), some ((55, .ref x2) : TV), some ((0, .int x3) : TV), some ((0, .int x4) : TV), some ((0, .int x5) : TV), some ((0, .int x6) : TV), none, none, none, some ((0, .int x10) : TV), some ((13, va_rf x11) : TV), some ((0, .int s0) : TV), some ((0, .int 0) : TV)]) ⟨rfl, ⟨rfl, ⟨rfl, ⟨rfl, ⟨rfl, ⟨rfl, ⟨rfl, ⟨rfl, ⟨rfl, ⟨rfl, ⟨rfl, trivial⟩⟩⟩⟩⟩⟩⟩⟩⟩⟩⟩ ?_
  exact qL_isTold_L250 hc he hk17 fu x0 x1 x2 x3 x4 x5 x6 x10 x11 s0 0
set_option maxRecDepth 100000 in
set_option maxHeartbeats 8000000 in
theorem qL_isTold_L230 {κ : Cx} {fin : Int32 → Mm → Prop} {mc ms : Nat} (hc : Jc κ RL cL_isTold 14 14 mc ms 394) (he : EdW κ cL_isTold tI .ireturn (fun a => a = 0 ∨ a = 1) fin) {k17 : Nat → Nat → Nat → Int32 → Int32 → Int32 → Int32 → Mm → Option (Int32 × Mm × Nat × Nat)} (hk17 : ∀ (x0 : Nat) (x1 : Nat) (x2 : Nat) (x3 : Int32) (x4 : Int32) (x5 : Int32) (x6 : Int32), Jw κ (wM κ) 14 fin 17 [some ((7, .ref x0) : TV), some ((54, .ref x1) : TV), some ((55, .ref x2) : TV), some ((0, .int x3) : TV), some ((0, .int x4) : TV), some ((0, .int x5) : TV), some ((0, .int x6) : TV), none, none, none, none, none, none, none] [] (k17 x0 x1 x2 x3 x4 x5 x6)) (x0 : Nat) (x1 : Nat) (x2 : Nat) (x3 : Int32) (x4 : Int32) (x5 : Int32) (x6 : Int32) (x10 : Int32) (s0 : Nat) (s1 : Nat) : Jw κ (wM κ) 14 fin 230 [some ((7, .ref x0) : TV), some ((54, .ref x1) : TV), some ((55, .ref x2) : TV), some ((0, .int x3) : TV), some ((0, .int x4) : TV), some ((0, .int x5) : TV), some ((0, .int x6) : TV), none, none, none, some ((0, .int x10) : TV), none, none, none] [((13, .ref s0) : TV), ((44, .ref s1) : TV)] (gL_isTold_L230 k17 x0 x1 x2 x3 x4 x5 x6 x10 s0 s1) := by
  unfold gL_isTold_L230
  refine N_callS (pc := 230) hc (As := [((44, .ref s1) : TV), ((13, .ref s0) : TV)]) (ZL_read s1 s0) dL_isTold_230 mzL_read tw1217 tw1218 tw0 tw1219 rfl (Nat.le_of_ble_eq_true rfl) (Nat.le_of_ble_eq_true rfl) (Nat.le_of_ble_eq_true rfl) rfl (fun h22 => ?_)
  show Jw κ (wM κ) 14 fin 233 [some ((7, .ref x0) : TV), some ((54, .ref x1) : TV), some ((55, .ref x2) : TV), some ((0, .int x3) : TV), some ((0, .int x4) : TV), some ((0, .int x5) : TV), some ((0, .int x6) : TV), none, none, none, some ((0, .int x10) : TV), none, none, none] [((13, va_rf h22) : TV)] _
  refine N_astoreO (pc := 233) (l' := [some ((7, .ref x0) : TV), some ((54, .ref x1) : TV), some ((55, .ref x2) : TV), some ((0, .int x3) : TV), some ((0, .int x4) : TV), some ((0, .int x5) : TV), some ((0, .int x6) : TV), none, none, none, some ((0, .int x10) : TV), some ((13, va_rf h22) : TV), none, none]) hc dL_isTold_233 (by decide) rfl rfl ?_
  refine N_aloadO (pc := 235) hc dL_isTold_235 rfl ?_
  refine N_ifnonnullD (pc := 237) (tgt := 244) hc dL_isTold_237 (by decide) ?_ ?_
  · refine N_iconst (pc := 240) (v := (-1)) hc dL_isTold_240 (by decide) ?_
    refine N_goto (pc := 241) (tgt := 245) hc dL_isTold_241 (by decide) ?_
    refine N_sub (l' := [some ((7, .ref x0) : TV), some ((54, .ref x1) : TV), some ((55, .ref x2) : TV), some ((0, .int x3) : TV), some ((0, .int x4) : TV), some ((0, .int x5) : TV), some ((0, .int x6) : TV), none, none, none, some ((0, .int x10) : TV), some ((13, va_rf h22) : TV), none, none]) ⟨rfl, ⟨rfl, ⟨rfl, ⟨rfl, ⟨rfl, ⟨rfl, ⟨rfl, ⟨rfl, ⟨rfl, trivial⟩⟩⟩⟩⟩⟩⟩⟩⟩ ?_
    exact qL_isTold_L245 hc he hk17 x0 x1 x2 x3 x4 x5 x6 x10 h22 (-1)
  · intro p23 ep23
    subst ep23
    refine N_iconst (pc := 244) (v := 0) hc dL_isTold_244 (by decide) ?_
    refine N_sub (l' := [some ((7, .ref x0) : TV), some ((54, .ref x1) : TV), some ((55, .ref x2) : TV), some ((0, .int x3) : TV), some ((0, .int x4) : TV), some ((0, .int x5) : TV), some ((0, .int x6) : TV), none, none, none, some ((0, .int x10) : TV), some ((13, va_rf (some p23)) : TV), none, none]) ⟨rfl, ⟨rfl, ⟨rfl, ⟨rfl, ⟨rfl, ⟨rfl, ⟨rfl, ⟨rfl, ⟨rfl, trivial⟩⟩⟩⟩⟩⟩⟩⟩⟩ ?_
    exact qL_isTold_L245 hc he hk17 x0 x1 x2 x3 x4 x5 x6 x10 (some p23) 0
set_option maxRecDepth 100000 in
set_option maxHeartbeats 8000000 in
theorem qL_isTold_L187 {κ : Cx} {fin : Int32 → Mm → Prop} {mc ms : Nat} (hc : Jc κ RL cL_isTold 14 14 mc ms 394) (he : EdW κ cL_isTold tI .ireturn (fun a => a = 0 ∨ a = 1) fin) {k17 : Nat → Nat → Nat → Int32 → Int32 → Int32 → Int32 → Mm → Option (Int32 × Mm × Nat × Nat)} (hk17 : ∀ (x0 : Nat) (x1 : Nat) (x2 : Nat) (x3 : Int32) (x4 : Int32) (x5 : Int32) (x6 : Int32), Jw κ (wM κ) 14 fin 17 [some ((7, .ref x0) : TV), some ((54, .ref x1) : TV), some ((55, .ref x2) : TV), some ((0, .int x3) : TV), some ((0, .int x4) : TV), some ((0, .int x5) : TV), some ((0, .int x6) : TV), none, none, none, none, none, none, none] [] (k17 x0 x1 x2 x3 x4 x5 x6)) (x0 : Nat) (x1 : Nat) (x2 : Nat) (x3 : Int32) (x4 : Int32) (x5 : Int32) (x6 : Int32) : Jw κ (wM κ) 14 fin 187 [some ((7, .ref x0) : TV), some ((54, .ref x1) : TV), some ((55, .ref x2) : TV), some ((0, .int x3) : TV), some ((0, .int x4) : TV), some ((0, .int x5) : TV), some ((0, .int x6) : TV), none, none, none, none, none, none, none] [] (gL_isTold_L187 k17 x0 x1 x2 x3 x4 x5 x6) := by
  unfold gL_isTold_L187
  refine N_aload_n (pc := 187) hc dL_isTold_187 rfl rfl ?_
  refine N_iload_n (pc := 188) hc dL_isTold_188 rfl rfl ?_
  refine N_iconst (pc := 189) (v := 1) hc dL_isTold_189 (by decide) ?_
  refine N_iadd (pc := 190) hc dL_isTold_190 ?_
  refine N_callV (pc := 191) hc clX10 (As := [((0, .int (x3 + 1)) : TV)]) (ZX10_next x2 (x3 + 1)) dL_isTold_191 mzX10_next rfl tw964 tw965 tw966 tw1 tw967 rfl (Nat.le_of_ble_eq_true rfl) (Nat.le_of_ble_eq_true rfl) (Nat.le_of_ble_eq_true rfl) rfl (fun v24 => ?_)
  show Jw κ (wM κ) 14 fin 194 [some ((7, .ref x0) : TV), some ((54, .ref x1) : TV), some ((55, .ref x2) : TV), some ((0, .int x3) : TV), some ((0, .int x4) : TV), some ((0, .int x5) : TV), some ((0, .int x6) : TV), none, none, none, none, none, none, none] [((0, .int v24) : TV)] _
  refine N_iconst (pc := 194) (v := 1) hc dL_isTold_194 (by decide) ?_
  refine N_isub (pc := 195) hc dL_isTold_195 ?_
  refine N_nmi (fun v25 => ?_)
  refine N_istore (pc := 196) (l' := [some ((7, .ref x0) : TV), some ((54, .ref x1) : TV), some ((55, .ref x2) : TV), some ((0, .int x3) : TV), some ((0, .int x4) : TV), some ((0, .int x5) : TV), some ((0, .int x6) : TV), none, none, none, some ((0, .int v25) : TV), none, none, none]) hc dL_isTold_196 (by decide) rfl rfl ?_
  refine N_aload_n (pc := 198) hc dL_isTold_198 rfl rfl ?_
  refine N_iload (pc := 199) hc dL_isTold_199 rfl ?_
  refine N_callV (pc := 201) hc clX9 (As := [((0, .int x6) : TV)]) (ZX9_codeOf x1 x6) dL_isTold_201 mzX9_codeOf rfl tw1071 tw1072 tw1073 tw10 tw1074 rfl (Nat.le_of_ble_eq_true rfl) (Nat.le_of_ble_eq_true rfl) (Nat.le_of_ble_eq_true rfl) rfl (fun h26 => ?_)
  show Jw κ (wM κ) 14 fin 204 [some ((7, .ref x0) : TV), some ((54, .ref x1) : TV), some ((55, .ref x2) : TV), some ((0, .int x3) : TV), some ((0, .int x4) : TV), some ((0, .int x5) : TV), some ((0, .int x6) : TV), none, none, none, some ((0, .int v25) : TV), none, none, none] [((44, .ref h26) : TV)] _
  refine N_iload (pc := 204) hc dL_isTold_204 rfl ?_
  refine N_if_ge (pc := 206) (tgt := 218) hc dL_isTold_206 (by decide) ?_ ?_
  · refine N_aload_n (pc := 218) hc dL_isTold_218 rfl rfl ?_
    refine N_getNA (pc := 219) hc clX9 (k := 3) (kd := 44) (Nat.le_of_ble_eq_true rfl) rfl (Nat.le_of_ble_eq_true rfl) (hst0 := "DotRunsLaw") (by decide +kernel) dL_isTold_219 (fun v27 => ?_)
    refine N_iload (pc := 222) hc dL_isTold_222 rfl ?_
    refine N_callV (pc := 224) hc clJx4a65c (As := [((0, .int v25) : TV)]) (ZJx4a65c_get_915e3 v27 v25) dL_isTold_224 mzJx4a65c_get_915e3 rfl tw1058 tw1059 tw1060 tw13 tw1061 rfl (Nat.le_of_ble_eq_true rfl) (Nat.le_of_ble_eq_true rfl) (Nat.le_of_ble_eq_true rfl) rfl (fun h28 => ?_)
    show Jw κ (wM κ) 14 fin 227 [some ((7, .ref x0) : TV), some ((54, .ref x1) : TV), some ((55, .ref x2) : TV), some ((0, .int x3) : TV), some ((0, .int x4) : TV), some ((0, .int x5) : TV), some ((0, .int x6) : TV), none, none, none, some ((0, .int v25) : TV), none, none, none] [((16, .ref h28) : TV), ((44, .ref h26) : TV)] _
    refine N_castZ (pc := 227) hc tw1070 dL_isTold_227 ?_
    refine N_sub (l' := [some ((7, .ref x0) : TV), some ((54, .ref x1) : TV), some ((55, .ref x2) : TV), some ((0, .int x3) : TV), some ((0, .int x4) : TV), some ((0, .int x5) : TV), some ((0, .int x6) : TV), none, none, none, some ((0, .int v25) : TV), none, none, none]) ⟨rfl, ⟨rfl, ⟨rfl, ⟨rfl, ⟨rfl, ⟨rfl, ⟨rfl, ⟨rfl, trivial⟩⟩⟩⟩⟩⟩⟩⟩ ?_
    exact qL_isTold_L230 hc he hk17 x0 x1 x2 x3 x4 x5 x6 v25 h28 h26
  · refine N_aload_n (pc := 209) hc dL_isTold_209 rfl rfl ?_
    refine N_getNI (pc := 210) hc clX9 (k := 0) (Nat.le_of_ble_eq_true rfl) rfl (hst0 := "DotRunsLaw") (by decide +kernel) dL_isTold_210 (fun v29 => ?_)
    refine N_newa13 (pc := 213) hc tw950 dL_isTold_213 (fun h30 => ?_)
    refine N_goto (pc := 215) (tgt := 230) hc dL_isTold_215 (by decide) ?_
    refine N_sub (l' := [some ((7, .ref x0) : TV), some ((54, .ref x1) : TV), some ((55, .ref x2) : TV), some ((0, .int x3) : TV), some ((0, .int x4) : TV), some ((0, .int x5) : TV), some ((0, .int x6) : TV), none, none, none, some ((0, .int v25) : TV), none, none, none]) ⟨rfl, ⟨rfl, ⟨rfl, ⟨rfl, ⟨rfl, ⟨rfl, ⟨rfl, ⟨rfl, trivial⟩⟩⟩⟩⟩⟩⟩⟩ ?_
    exact qL_isTold_L230 hc he hk17 x0 x1 x2 x3 x4 x5 x6 v25 h30 h26
set_option maxRecDepth 100000 in
set_option maxHeartbeats 8000000 in
theorem qL_isTold_L176 {κ : Cx} {fin : Int32 → Mm → Prop} {mc ms : Nat} (hc : Jc κ RL cL_isTold 14 14 mc ms 394) (he : EdW κ cL_isTold tI .ireturn (fun a => a = 0 ∨ a = 1) fin) {k17 : Nat → Nat → Nat → Int32 → Int32 → Int32 → Int32 → Mm → Option (Int32 × Mm × Nat × Nat)} (hk17 : ∀ (x0 : Nat) (x1 : Nat) (x2 : Nat) (x3 : Int32) (x4 : Int32) (x5 : Int32) (x6 : Int32), Jw κ (wM κ) 14 fin 17 [some ((7, .ref x0) : TV), some ((54, .ref x1) : TV), some ((55, .ref x2) : TV), some ((0, .int x3) : TV), some ((0, .int x4) : TV), some ((0, .int x5) : TV), some ((0, .int x6) : TV), none, none, none, none, none, none, none] [] (k17 x0 x1 x2 x3 x4 x5 x6)) (x0 : Nat) (x1 : Nat) (x2 : Nat) (x3 : Int32) (x6 : Int32) (x7 : Nat) : Jw κ (wM κ) 14 fin 176 [some ((7, .ref x0) : TV), some ((54, .ref x1) : TV), some ((55, .ref x2) : TV), some ((0, .int x3) : TV), none, none, some ((0, .int x6) : TV), some ((54, .ref x7) : TV), none, none, none, none, none, none] [] (gL_isTold_L176 k17 x0 x1 x2 x3 x6 x7) := by
  unfold gL_isTold_L176
  refine N_iload (pc := 176) hc dL_isTold_176 rfl ?_
  refine N_istore (pc := 178) (l' := [some ((7, .ref x0) : TV), some ((54, .ref x1) : TV), some ((55, .ref x2) : TV), some ((0, .int x3) : TV), some ((0, .int x6) : TV), none, some ((0, .int x6) : TV), some ((54, .ref x7) : TV), none, none, none, none, none, none]) hc dL_isTold_178 (by decide) rfl rfl ?_
  refine N_aload (pc := 180) hc dL_isTold_180 rfl ?_
  refine N_callV (pc := 182) hc clX9 (As := []) (ZX9_allWrong x7) dL_isTold_182 mzX9_allWrong rfl tw1305 tw1306 tw1307 tw10 tw1308 rfl (Nat.le_of_ble_eq_true rfl) (Nat.le_of_ble_eq_true rfl) (Nat.le_of_ble_eq_true rfl) rfl (fun v31 => ?_)
  show Jw κ (wM κ) 14 fin 185 [some ((7, .ref x0) : TV), some ((54, .ref x1) : TV), some ((55, .ref x2) : TV), some ((0, .int x3) : TV), some ((0, .int x6) : TV), none, some ((0, .int x6) : TV), some ((54, .ref x7) : TV), none, none, none, none, none, none] [((0, .int v31) : TV)] _
  refine N_istore (pc := 185) (l' := [some ((7, .ref x0) : TV), some ((54, .ref x1) : TV), some ((55, .ref x2) : TV), some ((0, .int x3) : TV), some ((0, .int x6) : TV), some ((0, .int v31) : TV), some ((0, .int x6) : TV), some ((54, .ref x7) : TV), none, none, none, none, none, none]) hc dL_isTold_185 (by decide) rfl rfl ?_
  refine N_sub (l' := [some ((7, .ref x0) : TV), some ((54, .ref x1) : TV), some ((55, .ref x2) : TV), some ((0, .int x3) : TV), some ((0, .int x6) : TV), some ((0, .int v31) : TV), some ((0, .int x6) : TV), none, none, none, none, none, none, none]) ⟨rfl, ⟨rfl, ⟨rfl, ⟨rfl, ⟨rfl, ⟨rfl, ⟨rfl, trivial⟩⟩⟩⟩⟩⟩⟩ ?_
  exact qL_isTold_L187 hc he hk17 x0 x1 x2 x3 x6 v31 x6
set_option maxRecDepth 100000 in
set_option maxHeartbeats 8000000 in
theorem qL_isTold_L112 {κ : Cx} {fin : Int32 → Mm → Prop} {mc ms : Nat} (hc : Jc κ RL cL_isTold 14 14 mc ms 394) (he : EdW κ cL_isTold tI .ireturn (fun a => a = 0 ∨ a = 1) fin) {k69 : Nat → Nat → Nat → Int32 → Int32 → Int32 → Int32 → Nat → Int32 → Int32 → Int32 → Mm → Option (Int32 × Mm × Nat × Nat)} (hk69 : ∀ (x0 : Nat) (x1 : Nat) (x2 : Nat) (x3 : Int32) (x4 : Int32) (x5 : Int32) (x6 : Int32) (x7 : Nat) (x8 : Int32) (x9 : Int32) (x10 : Int32), Jw κ (wM κ) 14 fin 69 [some ((7, .ref x0) : TV), some ((54, .ref x1) : TV), some ((55, .ref x2) : TV), some ((0, .int x3) : TV), some ((0, .int x4) : TV), some ((0, .int x5) : TV), some ((0, .int x6) : TV), some ((54, .ref x7) : TV), some ((0, .int x8) : TV), some ((0, .int x9) : TV), some ((0, .int x10) : TV), none, none, none] [] (k69 x0 x1 x2 x3 x4 x5 x6 x7 x8 x9 x10)) (x0 : Nat) (x1 : Nat) (x2 : Nat) (x3 : Int32) (x4 : Int32) (x5 : Int32) (x6 : Int32) (x7 : Nat) (x8 : Int32) (x10 : Int32) (s0 : Int32) : Jw κ (wM κ) 14 fin 112 [some ((7, .ref x0) : TV), some ((54, .ref x1) : TV), some ((55, .ref x2) : TV), some ((0, .int x3) : TV), some ((0, .int x4) : TV), some ((0, .int x5) : TV), some ((0, .int x6) : TV), some ((54, .ref x7) : TV), some ((0, .int x8) : TV), none, some ((0, .int x10) : TV), none, none, none] [((0, .int s0) : TV)] (gL_isTold_L112 k69 x0 x1 x2 x3 x4 x5 x6 x7 x8 x10 s0) := by
  unfold gL_isTold_L112
  refine N_istore (pc := 112) (l' := [some ((7, .ref x0) : TV), some ((54, .ref x1) : TV), some ((55, .ref x2) : TV), some ((0, .int x3) : TV), some ((0, .int x4) : TV), some ((0, .int x5) : TV), some ((0, .int x6) : TV), some ((54, .ref x7) : TV), some ((0, .int x8) : TV), some ((0, .int s0) : TV), some ((0, .int x10) : TV), none, none, none]) hc dL_isTold_112 (by decide) rfl rfl ?_
  refine N_iinc (pc := 114) (v := x10 + 1) (l' := [some ((7, .ref x0) : TV), some ((54, .ref x1) : TV), some ((55, .ref x2) : TV), some ((0, .int x3) : TV), some ((0, .int x4) : TV), some ((0, .int x5) : TV), some ((0, .int x6) : TV), some ((54, .ref x7) : TV), some ((0, .int x8) : TV), some ((0, .int s0) : TV), some ((0, .int (x10 + 1)) : TV), none, none, none]) hc dL_isTold_114 rfl rfl (by decide) rfl rfl ?_
  refine N_goto (pc := 117) (tgt := 69) hc dL_isTold_117 (by decide) ?_
  refine N_sub (l' := [some ((7, .ref x0) : TV), some ((54, .ref x1) : TV), some ((55, .ref x2) : TV), some ((0, .int x3) : TV), some ((0, .int x4) : TV), some ((0, .int x5) : TV), some ((0, .int x6) : TV), some ((54, .ref x7) : TV), some ((0, .int x8) : TV), some ((0, .int s0) : TV), some ((0, .int (x10 + 1)) : TV), none, none, none]) ⟨rfl, ⟨rfl, ⟨rfl, ⟨rfl, ⟨rfl, ⟨rfl, ⟨rfl, ⟨rfl, ⟨rfl, ⟨rfl, ⟨rfl, trivial⟩⟩⟩⟩⟩⟩⟩⟩⟩⟩⟩ ?_
  exact hk69 x0 x1 x2 x3 x4 x5 x6 x7 x8 s0 (x10 + 1)
set_option maxRecDepth 100000 in
set_option maxHeartbeats 8000000 in
theorem qL_isTold_L92 {κ : Cx} {fin : Int32 → Mm → Prop} {mc ms : Nat} (hc : Jc κ RL cL_isTold 14 14 mc ms 394) (he : EdW κ cL_isTold tI .ireturn (fun a => a = 0 ∨ a = 1) fin) {k69 : Nat → Nat → Nat → Int32 → Int32 → Int32 → Int32 → Nat → Int32 → Int32 → Int32 → Mm → Option (Int32 × Mm × Nat × Nat)} (hk69 : ∀ (x0 : Nat) (x1 : Nat) (x2 : Nat) (x3 : Int32) (x4 : Int32) (x5 : Int32) (x6 : Int32) (x7 : Nat) (x8 : Int32) (x9 : Int32) (x10 : Int32), Jw κ (wM κ) 14 fin 69 [some ((7, .ref x0) : TV), some ((54, .ref x1) : TV), some ((55, .ref x2) : TV), some ((0, .int x3) : TV), some ((0, .int x4) : TV), some ((0, .int x5) : TV), some ((0, .int x6) : TV), some ((54, .ref x7) : TV), some ((0, .int x8) : TV), some ((0, .int x9) : TV), some ((0, .int x10) : TV), none, none, none] [] (k69 x0 x1 x2 x3 x4 x5 x6 x7 x8 x9 x10)) (x0 : Nat) (x1 : Nat) (x2 : Nat) (x3 : Int32) (x4 : Int32) (x5 : Int32) (x6 : Int32) (x7 : Nat) (x9 : Int32) (x10 : Int32) (s0 : Int32) (s1 : Int32) : Jw κ (wM κ) 14 fin 92 [some ((7, .ref x0) : TV), some ((54, .ref x1) : TV), some ((55, .ref x2) : TV), some ((0, .int x3) : TV), some ((0, .int x4) : TV), some ((0, .int x5) : TV), some ((0, .int x6) : TV), some ((54, .ref x7) : TV), none, some ((0, .int x9) : TV), some ((0, .int x10) : TV), none, none, none] [((0, .int s0) : TV), ((0, .int s1) : TV)] (gL_isTold_L92 k69 x0 x1 x2 x3 x4 x5 x6 x7 x9 x10 s0 s1) := by
  unfold gL_isTold_L92
  refine N_iadd (pc := 92) hc dL_isTold_92 ?_
  refine N_nmi (fun v32 => ?_)
  refine N_istore (pc := 93) (l' := [some ((7, .ref x0) : TV), some ((54, .ref x1) : TV), some ((55, .ref x2) : TV), some ((0, .int x3) : TV), some ((0, .int x4) : TV), some ((0, .int x5) : TV), some ((0, .int x6) : TV), some ((54, .ref x7) : TV), some ((0, .int v32) : TV), some ((0, .int x9) : TV), some ((0, .int x10) : TV), none, none, none]) hc dL_isTold_93 (by decide) rfl rfl ?_
  refine N_aload (pc := 95) hc dL_isTold_95 rfl ?_
  refine N_iload (pc := 97) hc dL_isTold_97 rfl ?_
  refine N_callV (pc := 99) hc clX9 (As := [((0, .int x10) : TV)]) (ZX9_wrong x7 x10) dL_isTold_99 mzX9_wrong rfl tw1318 tw1246 tw1247 tw10 tw1248 rfl (Nat.le_of_ble_eq_true rfl) (Nat.le_of_ble_eq_true rfl) (Nat.le_of_ble_eq_true rfl) rfl (fun v33 => ?_)
  show Jw κ (wM κ) 14 fin 102 [some ((7, .ref x0) : TV), some ((54, .ref x1) : TV), some ((55, .ref x2) : TV), some ((0, .int x3) : TV), some ((0, .int x4) : TV), some ((0, .int x5) : TV), some ((0, .int x6) : TV), some ((54, .ref x7) : TV), some ((0, .int v32) : TV), some ((0, .int x9) : TV), some ((0, .int x10) : TV), none, none, none] [((0, .int v33) : TV)] _
  refine N_if_le (pc := 102) (tgt := 110) hc dL_isTold_102 (by decide) ?_ ?_
  · refine N_iload (pc := 110) hc dL_isTold_110 rfl ?_
    refine N_sub (l' := [some ((7, .ref x0) : TV), some ((54, .ref x1) : TV), some ((55, .ref x2) : TV), some ((0, .int x3) : TV), some ((0, .int x4) : TV), some ((0, .int x5) : TV), some ((0, .int x6) : TV), some ((54, .ref x7) : TV), some ((0, .int v32) : TV), none, some ((0, .int x10) : TV), none, none, none]) ⟨rfl, ⟨rfl, ⟨rfl, ⟨rfl, ⟨rfl, ⟨rfl, ⟨rfl, ⟨rfl, ⟨rfl, ⟨rfl, trivial⟩⟩⟩⟩⟩⟩⟩⟩⟩⟩ ?_
    exact qL_isTold_L112 hc he hk69 x0 x1 x2 x3 x4 x5 x6 x7 v32 x10 x9
  · refine N_iload (pc := 105) hc dL_isTold_105 rfl ?_
    refine N_goto (pc := 107) (tgt := 112) hc dL_isTold_107 (by decide) ?_
    refine N_sub (l' := [some ((7, .ref x0) : TV), some ((54, .ref x1) : TV), some ((55, .ref x2) : TV), some ((0, .int x3) : TV), some ((0, .int x4) : TV), some ((0, .int x5) : TV), some ((0, .int x6) : TV), some ((54, .ref x7) : TV), some ((0, .int v32) : TV), none, some ((0, .int x10) : TV), none, none, none]) ⟨rfl, ⟨rfl, ⟨rfl, ⟨rfl, ⟨rfl, ⟨rfl, ⟨rfl, ⟨rfl, ⟨rfl, ⟨rfl, trivial⟩⟩⟩⟩⟩⟩⟩⟩⟩⟩ ?_
    exact qL_isTold_L112 hc he hk69 x0 x1 x2 x3 x4 x5 x6 x7 v32 x10 x10
set_option maxRecDepth 100000 in
set_option maxHeartbeats 8000000 in
theorem qL_isTold_L69 {κ : Cx} {fin : Int32 → Mm → Prop} {mc ms : Nat} (hc : Jc κ RL cL_isTold 14 14 mc ms 394) (he : EdW κ cL_isTold tI .ireturn (fun a => a = 0 ∨ a = 1) fin) {k17 : Nat → Nat → Nat → Int32 → Int32 → Int32 → Int32 → Mm → Option (Int32 × Mm × Nat × Nat)} (hk17 : ∀ (x0 : Nat) (x1 : Nat) (x2 : Nat) (x3 : Int32) (x4 : Int32) (x5 : Int32) (x6 : Int32), Jw κ (wM κ) 14 fin 17 [some ((7, .ref x0) : TV), some ((54, .ref x1) : TV), some ((55, .ref x2) : TV), some ((0, .int x3) : TV), some ((0, .int x4) : TV), some ((0, .int x5) : TV), some ((0, .int x6) : TV), none, none, none, none, none, none, none] [] (k17 x0 x1 x2 x3 x4 x5 x6)) : ∀ (n : Nat) (x0 : Nat) (x1 : Nat) (x2 : Nat) (x3 : Int32) (x4 : Int32) (x5 : Int32) (x6 : Int32) (x7 : Nat) (x8 : Int32) (x9 : Int32) (x10 : Int32), Jw κ (wM κ) 14 fin 69 [some ((7, .ref x0) : TV), some ((54, .ref x1) : TV), some ((55, .ref x2) : TV), some ((0, .int x3) : TV), some ((0, .int x4) : TV), some ((0, .int x5) : TV), some ((0, .int x6) : TV), some ((54, .ref x7) : TV), some ((0, .int x8) : TV), some ((0, .int x9) : TV), some ((0, .int x10) : TV), none, none, none] [] (gL_isTold_L69 k17 n x0 x1 x2 x3 x4 x5 x6 x7 x8 x9 x10) := by
  intro n
  induction n with
  | zero => intro x0 x1 x2 x3 x4 x5 x6 x7 x8 x9 x10; exact N_fail
  | succ n ih =>
    intro x0 x1 x2 x3 x4 x5 x6 x7 x8 x9 x10
    unfold gL_isTold_L69
    refine N_iload (pc := 69) hc dL_isTold_69 rfl ?_
    refine N_iload_n (pc := 71) hc dL_isTold_71 rfl rfl ?_
    refine N_icmp_ge (pc := 72) (tgt := 120) hc dL_isTold_72 (by decide) ?_ ?_
    · refine N_aload_n (pc := 120) hc dL_isTold_120 rfl rfl ?_
      refine N_iload (pc := 121) hc dL_isTold_121 rfl ?_
      refine N_iconst (pc := 123) (v := 0) hc dL_isTold_123 (by decide) ?_
      refine N_callCX (pc := 124) hc clX7 (As := [((0, .int x6) : TV), ((0, .int 0) : TV)]) (KX7_harm x0 x6 0) dL_isTold_124 moX7_harm rfl tw1326 tw1327 tw1328 tw2 tw1329 rfl (Nat.le_of_ble_eq_true rfl) (Nat.le_of_ble_eq_true rfl) (Nat.le_of_ble_eq_true rfl) rfl (fun _ _ h => by cases h) (fun v34 => ?_)
      show Jw κ (wM κ) 14 fin 127 [some ((7, .ref x0) : TV), some ((54, .ref x1) : TV), some ((55, .ref x2) : TV), some ((0, .int x3) : TV), some ((0, .int x4) : TV), some ((0, .int x5) : TV), some ((0, .int x6) : TV), some ((54, .ref x7) : TV), some ((0, .int x8) : TV), some ((0, .int x9) : TV), some ((0, .int x10) : TV), none, none, none] [((0, .int v34) : TV)] _
      refine N_iload (pc := 127) hc dL_isTold_127 rfl ?_
      refine N_icmp_ne (pc := 129) (tgt := 159) hc dL_isTold_129 (by decide) ?_ ?_
      · refine N_iconst (pc := 159) (v := 0) hc dL_isTold_159 (by decide) ?_
        exact N_zret (pc := 160) he dL_isTold_160
      · refine N_aload_n (pc := 132) hc dL_isTold_132 rfl rfl ?_
        refine N_iload (pc := 133) hc dL_isTold_133 rfl ?_
        refine N_iconst (pc := 135) (v := 1) hc dL_isTold_135 (by decide) ?_
        refine N_callCX (pc := 136) hc clX7 (As := [((0, .int x6) : TV), ((0, .int 1) : TV)]) (KX7_harm x0 x6 1) dL_isTold_136 moX7_harm rfl tw1326 tw1327 tw1328 tw2 tw1329 rfl (Nat.le_of_ble_eq_true rfl) (Nat.le_of_ble_eq_true rfl) (Nat.le_of_ble_eq_true rfl) rfl (fun _ _ h => by cases h) (fun v35 => ?_)
        show Jw κ (wM κ) 14 fin 139 [some ((7, .ref x0) : TV), some ((54, .ref x1) : TV), some ((55, .ref x2) : TV), some ((0, .int x3) : TV), some ((0, .int x4) : TV), some ((0, .int x5) : TV), some ((0, .int x6) : TV), some ((54, .ref x7) : TV), some ((0, .int x8) : TV), some ((0, .int x9) : TV), some ((0, .int x10) : TV), none, none, none] [((0, .int v35) : TV)] _
        refine N_aload (pc := 139) hc dL_isTold_139 rfl ?_
        refine N_callV (pc := 141) hc clX9 (As := []) (ZX9_allWrong x7) dL_isTold_141 mzX9_allWrong rfl tw1305 tw1306 tw1307 tw10 tw1308 rfl (Nat.le_of_ble_eq_true rfl) (Nat.le_of_ble_eq_true rfl) (Nat.le_of_ble_eq_true rfl) rfl (fun v36 => ?_)
        show Jw κ (wM κ) 14 fin 144 [some ((7, .ref x0) : TV), some ((54, .ref x1) : TV), some ((55, .ref x2) : TV), some ((0, .int x3) : TV), some ((0, .int x4) : TV), some ((0, .int x5) : TV), some ((0, .int x6) : TV), some ((54, .ref x7) : TV), some ((0, .int x8) : TV), some ((0, .int x9) : TV), some ((0, .int x10) : TV), none, none, none] [((0, .int v36) : TV), ((0, .int v35) : TV)] _
        refine N_icmp_ne (pc := 144) (tgt := 159) hc dL_isTold_144 (by decide) ?_ ?_
        · refine N_iconst (pc := 159) (v := 0) hc dL_isTold_159 (by decide) ?_
          exact N_zret (pc := 160) he dL_isTold_160
        · refine N_aload_n (pc := 147) hc dL_isTold_147 rfl rfl ?_
          refine N_iload (pc := 148) hc dL_isTold_148 rfl ?_
          refine N_iconst (pc := 150) (v := 2) hc dL_isTold_150 (by decide) ?_
          refine N_callCX (pc := 151) hc clX7 (As := [((0, .int x6) : TV), ((0, .int 2) : TV)]) (KX7_harm x0 x6 2) dL_isTold_151 moX7_harm rfl tw1326 tw1327 tw1328 tw2 tw1329 rfl (Nat.le_of_ble_eq_true rfl) (Nat.le_of_ble_eq_true rfl) (Nat.le_of_ble_eq_true rfl) rfl (fun _ _ h => by cases h) (fun v37 => ?_)
          show Jw κ (wM κ) 14 fin 154 [some ((7, .ref x0) : TV), some ((54, .ref x1) : TV), some ((55, .ref x2) : TV), some ((0, .int x3) : TV), some ((0, .int x4) : TV), some ((0, .int x5) : TV), some ((0, .int x6) : TV), some ((54, .ref x7) : TV), some ((0, .int x8) : TV), some ((0, .int x9) : TV), some ((0, .int x10) : TV), none, none, none] [((0, .int v37) : TV)] _
          refine N_iload (pc := 154) hc dL_isTold_154 rfl ?_
          refine N_icmp_eq (pc := 156) (tgt := 161) hc dL_isTold_156 (by decide) ?_ ?_
          · refine N_iload (pc := 161) hc dL_isTold_161 rfl ?_
            refine N_if_lt (pc := 163) (tgt := 176) hc dL_isTold_163 (by decide) ?_ ?_
            · refine N_sub (l' := [some ((7, .ref x0) : TV), some ((54, .ref x1) : TV), some ((55, .ref x2) : TV), some ((0, .int x3) : TV), none, none, some ((0, .int x6) : TV), some ((54, .ref x7) : TV), none, none, none, none, none, none]) ⟨rfl, ⟨rfl, ⟨rfl, ⟨rfl, ⟨rfl, ⟨rfl, trivial⟩⟩⟩⟩⟩⟩ ?_
              exact qL_isTold_L176 hc he hk17 x0 x1 x2 x3 x6 x7
            · refine N_aload (pc := 166) hc dL_isTold_166 rfl ?_
              refine N_callV (pc := 168) hc clX9 (As := []) (ZX9_allWrong x7) dL_isTold_168 mzX9_allWrong rfl tw1305 tw1306 tw1307 tw10 tw1308 rfl (Nat.le_of_ble_eq_true rfl) (Nat.le_of_ble_eq_true rfl) (Nat.le_of_ble_eq_true rfl) rfl (fun v38 => ?_)
              show Jw κ (wM κ) 14 fin 171 [some ((7, .ref x0) : TV), some ((54, .ref x1) : TV), some ((55, .ref x2) : TV), some ((0, .int x3) : TV), some ((0, .int x4) : TV), some ((0, .int x5) : TV), some ((0, .int x6) : TV), some ((54, .ref x7) : TV), some ((0, .int x8) : TV), some ((0, .int x9) : TV), some ((0, .int x10) : TV), none, none, none] [((0, .int v38) : TV)] _
              refine N_iload (pc := 171) hc dL_isTold_171 rfl ?_
              refine N_icmp_le (pc := 173) (tgt := 187) hc dL_isTold_173 (by decide) ?_ ?_
              · refine N_sub (l' := [some ((7, .ref x0) : TV), some ((54, .ref x1) : TV), some ((55, .ref x2) : TV), some ((0, .int x3) : TV), some ((0, .int x4) : TV), some ((0, .int x5) : TV), some ((0, .int x6) : TV), none, none, none, none, none, none, none]) ⟨rfl, ⟨rfl, ⟨rfl, ⟨rfl, ⟨rfl, ⟨rfl, ⟨rfl, trivial⟩⟩⟩⟩⟩⟩⟩ ?_
                exact qL_isTold_L187 hc he hk17 x0 x1 x2 x3 x4 x5 x6
              · refine N_sub (l' := [some ((7, .ref x0) : TV), some ((54, .ref x1) : TV), some ((55, .ref x2) : TV), some ((0, .int x3) : TV), none, none, some ((0, .int x6) : TV), some ((54, .ref x7) : TV), none, none, none, none, none, none]) ⟨rfl, ⟨rfl, ⟨rfl, ⟨rfl, ⟨rfl, ⟨rfl, trivial⟩⟩⟩⟩⟩⟩ ?_
                exact qL_isTold_L176 hc he hk17 x0 x1 x2 x3 x6 x7
          · refine N_iconst (pc := 159) (v := 0) hc dL_isTold_159 (by decide) ?_
            exact N_zret (pc := 160) he dL_isTold_160
    · refine N_iload (pc := 75) hc dL_isTold_75 rfl ?_
      refine N_aload (pc := 77) hc dL_isTold_77 rfl ?_
      refine N_iload (pc := 79) hc dL_isTold_79 rfl ?_
      refine N_callV (pc := 81) hc clX9 (As := [((0, .int x10) : TV)]) (ZX9_wrong x7 x10) dL_isTold_81 mzX9_wrong rfl tw1318 tw1246 tw1247 tw10 tw1248 rfl (Nat.le_of_ble_eq_true rfl) (Nat.le_of_ble_eq_true rfl) (Nat.le_of_ble_eq_true rfl) rfl (fun v39 => ?_)
      show Jw κ (wM κ) 14 fin 84 [some ((7, .ref x0) : TV), some ((54, .ref x1) : TV), some ((55, .ref x2) : TV), some ((0, .int x3) : TV), some ((0, .int x4) : TV), some ((0, .int x5) : TV), some ((0, .int x6) : TV), some ((54, .ref x7) : TV), some ((0, .int x8) : TV), some ((0, .int x9) : TV), some ((0, .int x10) : TV), none, none, none] [((0, .int v39) : TV), ((0, .int x8) : TV)] _
      refine N_if_le (pc := 84) (tgt := 91) hc dL_isTold_84 (by decide) ?_ ?_
      · refine N_iconst (pc := 91) (v := 0) hc dL_isTold_91 (by decide) ?_
        refine N_sub (l' := [some ((7, .ref x0) : TV), some ((54, .ref x1) : TV), some ((55, .ref x2) : TV), some ((0, .int x3) : TV), some ((0, .int x4) : TV), some ((0, .int x5) : TV), some ((0, .int x6) : TV), some ((54, .ref x7) : TV), none, some ((0, .int x9) : TV), some ((0, .int x10) : TV), none, none, none]) ⟨rfl, ⟨rfl, ⟨rfl, ⟨rfl, ⟨rfl, ⟨rfl, ⟨rfl, ⟨rfl, ⟨rfl, ⟨rfl, trivial⟩⟩⟩⟩⟩⟩⟩⟩⟩⟩ ?_
        exact qL_isTold_L92 hc he ih x0 x1 x2 x3 x4 x5 x6 x7 x9 x10 0 x8
      · refine N_iconst (pc := 87) (v := 1) hc dL_isTold_87 (by decide) ?_
        refine N_goto (pc := 88) (tgt := 92) hc dL_isTold_88 (by decide) ?_
        refine N_sub (l' := [some ((7, .ref x0) : TV), some ((54, .ref x1) : TV), some ((55, .ref x2) : TV), some ((0, .int x3) : TV), some ((0, .int x4) : TV), some ((0, .int x5) : TV), some ((0, .int x6) : TV), some ((54, .ref x7) : TV), none, some ((0, .int x9) : TV), some ((0, .int x10) : TV), none, none, none]) ⟨rfl, ⟨rfl, ⟨rfl, ⟨rfl, ⟨rfl, ⟨rfl, ⟨rfl, ⟨rfl, ⟨rfl, ⟨rfl, trivial⟩⟩⟩⟩⟩⟩⟩⟩⟩⟩ ?_
        exact qL_isTold_L92 hc he ih x0 x1 x2 x3 x4 x5 x6 x7 x9 x10 1 x8
set_option maxRecDepth 100000 in
set_option maxHeartbeats 8000000 in
theorem qL_isTold_L17 {κ : Cx} {fin : Int32 → Mm → Prop} {mc ms : Nat} (hc : Jc κ RL cL_isTold 14 14 mc ms 394) (he : EdW κ cL_isTold tI .ireturn (fun a => a = 0 ∨ a = 1) fin) : ∀ (n : Nat) (x0 : Nat) (x1 : Nat) (x2 : Nat) (x3 : Int32) (x4 : Int32) (x5 : Int32) (x6 : Int32), Jw κ (wM κ) 14 fin 17 [some ((7, .ref x0) : TV), some ((54, .ref x1) : TV), some ((55, .ref x2) : TV), some ((0, .int x3) : TV), some ((0, .int x4) : TV), some ((0, .int x5) : TV), some ((0, .int x6) : TV), none, none, none, none, none, none, none] [] (gL_isTold_L17 n x0 x1 x2 x3 x4 x5 x6) := by
  intro n
  induction n with
  | zero => intro x0 x1 x2 x3 x4 x5 x6; exact N_fail
  | succ n ih =>
    intro x0 x1 x2 x3 x4 x5 x6
    unfold gL_isTold_L17
    refine N_iload (pc := 17) hc dL_isTold_17 rfl ?_
    refine N_iload_n (pc := 19) hc dL_isTold_19 rfl rfl ?_
    refine N_icmp_ge (pc := 20) (tgt := 324) hc dL_isTold_20 (by decide) ?_ ?_
    · refine N_iconst (pc := 324) (v := 0) hc dL_isTold_324 (by decide) ?_
      refine N_istore (pc := 325) (l' := [some ((7, .ref x0) : TV), some ((54, .ref x1) : TV), some ((55, .ref x2) : TV), some ((0, .int x3) : TV), some ((0, .int x4) : TV), some ((0, .int x5) : TV), some ((0, .int 0) : TV), none, none, none, none, none, none, none]) hc dL_isTold_325 (by decide) rfl rfl ?_
      refine N_iconst (pc := 327) (v := 0) hc dL_isTold_327 (by decide) ?_
      refine N_istore (pc := 328) (l' := [some ((7, .ref x0) : TV), some ((54, .ref x1) : TV), some ((55, .ref x2) : TV), some ((0, .int x3) : TV), some ((0, .int x4) : TV), some ((0, .int x5) : TV), some ((0, .int 0) : TV), some ((0, .int 0) : TV), none, none, none, none, none, none]) hc dL_isTold_328 (by decide) rfl rfl ?_
      refine N_iconst (pc := 330) (v := 0) hc dL_isTold_330 (by decide) ?_
      refine N_istore (pc := 331) (l' := [some ((7, .ref x0) : TV), some ((54, .ref x1) : TV), some ((55, .ref x2) : TV), some ((0, .int x3) : TV), some ((0, .int x4) : TV), some ((0, .int x5) : TV), some ((0, .int 0) : TV), some ((0, .int 0) : TV), some ((0, .int 0) : TV), none, none, none, none, none]) hc dL_isTold_331 (by decide) rfl rfl ?_
      refine N_iconst (pc := 333) (v := 1) hc dL_isTold_333 (by decide) ?_
      refine N_istore (pc := 334) (l' := [some ((7, .ref x0) : TV), some ((54, .ref x1) : TV), some ((55, .ref x2) : TV), some ((0, .int x3) : TV), some ((0, .int x4) : TV), some ((0, .int x5) : TV), some ((0, .int 0) : TV), some ((0, .int 0) : TV), some ((0, .int 0) : TV), some ((0, .int 1) : TV), none, none, none, none]) hc dL_isTold_334 (by decide) rfl rfl ?_
      refine N_sub (l' := [some ((7, .ref x0) : TV), some ((54, .ref x1) : TV), none, none, some ((0, .int x4) : TV), none, some ((0, .int 0) : TV), some ((0, .int 0) : TV), some ((0, .int 0) : TV), some ((0, .int 1) : TV), none, none, none, none]) ⟨rfl, ⟨rfl, ⟨rfl, ⟨rfl, ⟨rfl, ⟨rfl, ⟨rfl, trivial⟩⟩⟩⟩⟩⟩⟩ ?_
      exact qL_isTold_L336 hc he fu x0 x1 x4 0 0 0 1
    · refine N_aload_n (pc := 23) hc dL_isTold_23 rfl rfl ?_
      refine N_callV (pc := 24) hc clX9 (As := []) (ZX9_copy x1) dL_isTold_24 mzX9_copy rfl tw822 tw823 tw824 tw10 tw825 rfl (Nat.le_of_ble_eq_true rfl) (Nat.le_of_ble_eq_true rfl) (Nat.le_of_ble_eq_true rfl) rfl (fun h40 => ?_)
      show Jw κ (wM κ) 14 fin 27 [some ((7, .ref x0) : TV), some ((54, .ref x1) : TV), some ((55, .ref x2) : TV), some ((0, .int x3) : TV), some ((0, .int x4) : TV), some ((0, .int x5) : TV), some ((0, .int x6) : TV), none, none, none, none, none, none, none] [((54, .ref h40) : TV)] _
      refine N_astore (pc := 27) (l' := [some ((7, .ref x0) : TV), some ((54, .ref x1) : TV), some ((55, .ref x2) : TV), some ((0, .int x3) : TV), some ((0, .int x4) : TV), some ((0, .int x5) : TV), some ((0, .int x6) : TV), some ((54, .ref h40) : TV), none, none, none, none, none, none]) hc dL_isTold_27 (by decide) rfl rfl ?_
      refine N_aload (pc := 29) hc dL_isTold_29 rfl ?_
      refine N_bipush (pc := 31) (v := 20) hc dL_isTold_31 (by decide) ?_
      refine N_newa11 (pc := 33) hc tw82 dL_isTold_33 (fun h41 => ?_)
      refine N_putNA (pc := 35) hc clX9 (k := 2) (kd := 11) (Nat.le_of_ble_eq_true rfl) rfl (Nat.le_of_ble_eq_true rfl) (fun _ => rfl) (fun _ => rfl) (hst0 := "DotRunsLaw") (by decide +kernel) rfl dL_isTold_35 ?_
      refine N_aload (pc := 38) hc dL_isTold_38 rfl ?_
      refine N_getNA (pc := 40) hc clX9 (k := 2) (kd := 11) (Nat.le_of_ble_eq_true rfl) rfl (Nat.le_of_ble_eq_true rfl) (hst0 := "DotRunsLaw") (by decide +kernel) dL_isTold_40 (fun v42 => ?_)
      refine N_iload (pc := 43) hc dL_isTold_43 rfl ?_
      refine N_iconst (pc := 45) (v := 1) hc dL_isTold_45 (by decide) ?_
      refine N_iast (pc := 46) hc dL_isTold_46 ?_
      refine N_aload (pc := 47) hc dL_isTold_47 rfl ?_
      refine N_getNA (pc := 49) hc clX9 (k := 1) (kd := 11) (Nat.le_of_ble_eq_true rfl) rfl (Nat.le_of_ble_eq_true rfl) (hst0 := "DotRunsLaw") (by decide +kernel) dL_isTold_49 (fun v43 => ?_)
      refine N_iconst (pc := 52) (v := 3) hc dL_isTold_52 (by decide) ?_
      refine N_iconst (pc := 53) (v := 0) hc dL_isTold_53 (by decide) ?_
      refine N_iast (pc := 54) hc dL_isTold_54 ?_
      refine N_aload (pc := 55) hc dL_isTold_55 rfl ?_
      refine N_callV (pc := 57) hc clX9 (As := []) (ZX9_send h40) dL_isTold_57 mzX9_send rfl tw1234 tw1235 tw1236 tw10 tw1237 rfl (Nat.le_of_ble_eq_true rfl) (Nat.le_of_ble_eq_true rfl) (Nat.le_of_ble_eq_true rfl) rfl (fun _ => ?_)
      show Jw κ (wM κ) 14 fin 60 [some ((7, .ref x0) : TV), some ((54, .ref x1) : TV), some ((55, .ref x2) : TV), some ((0, .int x3) : TV), some ((0, .int x4) : TV), some ((0, .int x5) : TV), some ((0, .int x6) : TV), some ((54, .ref h40) : TV), none, none, none, none, none, none] [] _
      refine N_iconst (pc := 60) (v := 0) hc dL_isTold_60 (by decide) ?_
      refine N_istore (pc := 61) (l' := [some ((7, .ref x0) : TV), some ((54, .ref x1) : TV), some ((55, .ref x2) : TV), some ((0, .int x3) : TV), some ((0, .int x4) : TV), some ((0, .int x5) : TV), some ((0, .int x6) : TV), some ((54, .ref h40) : TV), some ((0, .int 0) : TV), none, none, none, none, none]) hc dL_isTold_61 (by decide) rfl rfl ?_
      refine N_iconst (pc := 63) (v := (-1)) hc dL_isTold_63 (by decide) ?_
      refine N_istore (pc := 64) (l' := [some ((7, .ref x0) : TV), some ((54, .ref x1) : TV), some ((55, .ref x2) : TV), some ((0, .int x3) : TV), some ((0, .int x4) : TV), some ((0, .int x5) : TV), some ((0, .int x6) : TV), some ((54, .ref h40) : TV), some ((0, .int 0) : TV), some ((0, .int (-1)) : TV), none, none, none, none]) hc dL_isTold_64 (by decide) rfl rfl ?_
      refine N_iconst (pc := 66) (v := 0) hc dL_isTold_66 (by decide) ?_
      refine N_istore (pc := 67) (l' := [some ((7, .ref x0) : TV), some ((54, .ref x1) : TV), some ((55, .ref x2) : TV), some ((0, .int x3) : TV), some ((0, .int x4) : TV), some ((0, .int x5) : TV), some ((0, .int x6) : TV), some ((54, .ref h40) : TV), some ((0, .int 0) : TV), some ((0, .int (-1)) : TV), some ((0, .int 0) : TV), none, none, none]) hc dL_isTold_67 (by decide) rfl rfl ?_
      refine N_sub (l' := [some ((7, .ref x0) : TV), some ((54, .ref x1) : TV), some ((55, .ref x2) : TV), some ((0, .int x3) : TV), some ((0, .int x4) : TV), some ((0, .int x5) : TV), some ((0, .int x6) : TV), some ((54, .ref h40) : TV), some ((0, .int 0) : TV), some ((0, .int (-1)) : TV), some ((0, .int 0) : TV), none, none, none]) ⟨rfl, ⟨rfl, ⟨rfl, ⟨rfl, ⟨rfl, ⟨rfl, ⟨rfl, ⟨rfl, ⟨rfl, ⟨rfl, ⟨rfl, trivial⟩⟩⟩⟩⟩⟩⟩⟩⟩⟩⟩ ?_
      exact qL_isTold_L69 hc he ih fu x0 x1 x2 x3 x4 x5 x6 h40 0 (-1) 0
set_option maxRecDepth 100000 in
set_option maxHeartbeats 8000000 in
theorem qL_isTold {κ : Cx} {fin : Int32 → Mm → Prop} {mc ms : Nat} (hc : Jc κ RL cL_isTold 14 14 mc ms 394) (he : EdW κ cL_isTold tI .ireturn (fun a => a = 0 ∨ a = 1) fin) (x0 : Nat) (x1 : Nat) (x2 : Nat) : Jw κ (wM κ) 14 fin 0 [some ((7, .ref x0) : TV), some ((54, .ref x1) : TV), some ((55, .ref x2) : TV), none, none, none, none, none, none, none, none, none, none, none] [] (gL_isTold x0 x1 x2) := by
  unfold gL_isTold
  refine N_aload_n (pc := 0) hc dL_isTold_0 rfl rfl ?_
  refine N_getNA (pc := 1) hc clX9 (k := 3) (kd := 44) (Nat.le_of_ble_eq_true rfl) rfl (Nat.le_of_ble_eq_true rfl) (hst0 := "DotRunsLaw") (by decide +kernel) dL_isTold_1 (fun v44 => ?_)
  refine N_callV (pc := 4) hc clJx4a65c (As := []) (ZJx4a65c_size_8abf5 v44) dL_isTold_4 mzJx4a65c_size_8abf5 rfl tw975 tw976 tw977 tw13 tw978 rfl (Nat.le_of_ble_eq_true rfl) (Nat.le_of_ble_eq_true rfl) (Nat.le_of_ble_eq_true rfl) rfl (fun v45 => ?_)
  show Jw κ (wM κ) 14 fin 7 [some ((7, .ref x0) : TV), some ((54, .ref x1) : TV), some ((55, .ref x2) : TV), none, none, none, none, none, none, none, none, none, none, none] [((0, .int v45) : TV)] _
  refine N_istore_n (pc := 7) (l' := [some ((7, .ref x0) : TV), some ((54, .ref x1) : TV), some ((55, .ref x2) : TV), some ((0, .int v45) : TV), none, none, none, none, none, none, none, none, none, none]) hc dL_isTold_7 rfl (by decide) rfl rfl ?_
  refine N_iconst (pc := 8) (v := (-1)) hc dL_isTold_8 (by decide) ?_
  refine N_istore (pc := 9) (l' := [some ((7, .ref x0) : TV), some ((54, .ref x1) : TV), some ((55, .ref x2) : TV), some ((0, .int v45) : TV), some ((0, .int (-1)) : TV), none, none, none, none, none, none, none, none, none]) hc dL_isTold_9 (by decide) rfl rfl ?_
  refine N_iconst (pc := 11) (v := 0) hc dL_isTold_11 (by decide) ?_
  refine N_istore (pc := 12) (l' := [some ((7, .ref x0) : TV), some ((54, .ref x1) : TV), some ((55, .ref x2) : TV), some ((0, .int v45) : TV), some ((0, .int (-1)) : TV), some ((0, .int 0) : TV), none, none, none, none, none, none, none, none]) hc dL_isTold_12 (by decide) rfl rfl ?_
  refine N_iconst (pc := 14) (v := 0) hc dL_isTold_14 (by decide) ?_
  refine N_istore (pc := 15) (l' := [some ((7, .ref x0) : TV), some ((54, .ref x1) : TV), some ((55, .ref x2) : TV), some ((0, .int v45) : TV), some ((0, .int (-1)) : TV), some ((0, .int 0) : TV), some ((0, .int 0) : TV), none, none, none, none, none, none, none]) hc dL_isTold_15 (by decide) rfl rfl ?_
  refine N_sub (l' := [some ((7, .ref x0) : TV), some ((54, .ref x1) : TV), some ((55, .ref x2) : TV), some ((0, .int v45) : TV), some ((0, .int (-1)) : TV), some ((0, .int 0) : TV), some ((0, .int 0) : TV), none, none, none, none, none, none, none]) ⟨rfl, ⟨rfl, ⟨rfl, ⟨rfl, ⟨rfl, ⟨rfl, ⟨rfl, trivial⟩⟩⟩⟩⟩⟩⟩ ?_
  exact qL_isTold_L17 hc he fu x0 x1 x2 v45 (-1) 0 0
theorem mzL_isTold : MOk yL_isTold 3 := ⟨by decide +kernel, by decide +kernel, by decide +kernel⟩
set_option maxRecDepth 100000 in
set_option maxHeartbeats 8000000 in
theorem ZL_isTold (x0 : Nat) (x1 : Nat) (x2 : Nat) : Cw tI yL_isTold cL_isTold 14 (some .boolean) 14 394 [((7, .ref x0) : TV), ((54, .ref x1) : TV), ((55, .ref x2) : TV)] (gL_isTold x0 x1 x2) :=
  Cw_Z ⟨rfl, rfl⟩ (j := 11) (by decide +kernel) rfl rfl (Nat.le_of_ble_eq_true rfl) (fun κ fin mc ms hc he => qL_isTold hc he x0 x1 x2)
