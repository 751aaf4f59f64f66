/-! THE LAW: its cases -/
set_option maxRecDepth 100000 in
set_option maxHeartbeats 8000000 in
theorem jL_c0 {κ : Cx} {fin : Int32 → Mm → Prop} {L : Nat} {xs : Nat → Int32} (hc : Jc κ RL cL_law 9 12 601024 7293034 452) (he : EdZ κ cL_law 601024 7293034 id fin) (hsx : JX κ L xs) (hN : NcK κ) {cs ss : Nat} (h1 : cs + 8 ≤ 601024) (h2 : ss + 80 ≤ 7293034) {k : Mm → Option (Int32 × Mm)} (x1 x2 x3 : Nat) (x4 : Int32) (hk : Jg κ (wM κ) 9 fin (cs + 8) (ss + 80) 2172 [some ((23, .ref (SB + 400)) : TV), some ((7, .ref x1) : TV), some ((8, .ref x2) : TV), some ((12, .ref x3) : TV), some ((0, .int x4) : TV), none, none, none, none] [] k) : Jg κ (wM κ) 9 fin cs ss 204 [some ((23, .ref (SB + 400)) : TV), some ((7, .ref x1) : TV), some ((8, .ref x2) : TV), some ((12, .ref x3) : TV), some ((0, .int x4) : TV), none, none, none, none] [] (fL_c0 L xs k x1 x2 x3 x4) := by
  unfold fL_c0
  refine J_aload_n (pc := 204) hc dL_law_204 rfl rfl ?_
  refine J_aload_n (pc := 205) hc dL_law_205 rfl rfl ?_
  refine J_iload (pc := 206) hc dL_law_206 rfl ?_
  refine J_iconst (pc := 208) (v := 1) hc dL_law_208 (by decide) ?_
  refine J_iadd (pc := 209) hc dL_law_209 ?_
  refine J_sald (pc := 210) hc hsx dL_law_210 ?_
  refine J_aload_n (pc := 211) hc dL_law_211 rfl rfl ?_
  refine J_callSW (pc := 212) hc hN (As := [((7, .ref x1) : TV), ((0, .int (xs ((x4 + 1)).toNatClampNeg)) : TV), ((12, .ref x3) : TV)]) (KL_appendText x1 (xs ((x4 + 1)).toNatClampNeg) x3) dL_law_212 moL_appendText tw703 tw704 tw0 tw705 rfl (Nat.le_of_ble_eq_true rfl) (Nat.le_of_ble_eq_true rfl) (by omega) (by omega) (Nat.le_of_ble_eq_true rfl) rfl (fun v1 => ?_)
  refine J_istore (pc := 215) (l' := [some ((23, .ref (SB + 400)) : TV), some ((7, .ref x1) : TV), some ((8, .ref x2) : TV), some ((12, .ref x3) : TV), some ((0, .int x4) : TV), some ((0, .int v1) : TV), none, none, none]) hc dL_law_215 (by decide) rfl rfl ?_
  refine J_aload_n (pc := 217) hc dL_law_217 rfl rfl ?_
  refine J_aload_n (pc := 218) hc dL_law_218 rfl rfl ?_
  refine J_iload (pc := 219) hc dL_law_219 rfl ?_
  refine J_iconst (pc := 221) (v := 1) hc dL_law_221 (by decide) ?_
  refine J_iadd (pc := 222) hc dL_law_222 ?_
  refine J_sald (pc := 223) hc hsx dL_law_223 ?_
  refine J_callVi (pc := 224) hc clX8 (As := [((0, .int (xs ((x4 + 1)).toNatClampNeg)) : TV)]) (KX8_appendText x2 (xs ((x4 + 1)).toNatClampNeg)) dL_law_224 moX8_appendText rfl tw1600 tw1601 tw1602 tw9 tw1603 rfl (Nat.le_of_ble_eq_true rfl) (Nat.le_of_ble_eq_true rfl) (by omega) (by omega) (Nat.le_of_ble_eq_true rfl) rfl (fun v2 => ?_)
  refine J_istore (pc := 227) (l' := [some ((23, .ref (SB + 400)) : TV), some ((7, .ref x1) : TV), some ((8, .ref x2) : TV), some ((12, .ref x3) : TV), some ((0, .int x4) : TV), some ((0, .int v1) : TV), some ((0, .int v2) : TV), none, none]) hc dL_law_227 (by decide) rfl rfl ?_
  refine J_aload_n (pc := 229) hc dL_law_229 rfl rfl ?_
  refine J_callVi (pc := 230) hc clX8 (As := []) (KX8_thrown x2) dL_law_230 moX8_thrown rfl tw1290 tw1291 tw1292 tw9 tw1293 rfl (Nat.le_of_ble_eq_true rfl) (Nat.le_of_ble_eq_true rfl) (by omega) (by omega) (Nat.le_of_ble_eq_true rfl) rfl (fun v3 => ?_)
  refine J_iload (pc := 233) hc dL_law_233 rfl ?_
  refine J_icmp_eq (pc := 235) (tgt := 240) hc dL_law_235 (by decide) ?_ ?_
  · refine J_iload (pc := 240) hc dL_law_240 rfl ?_
    refine J_if_ne (pc := 242) (tgt := 257) hc dL_law_242 (by decide) ?_ ?_
    · refine J_goto (pc := 257) (tgt := 2172) hc dL_law_257 (by decide) ?_
      refine J_widen (k := cs + 8) (n := ss + 80) (by omega) (by omega) ?_
      refine J_sub (l' := [some ((23, .ref (SB + 400)) : TV), some ((7, .ref x1) : TV), some ((8, .ref x2) : TV), some ((12, .ref x3) : TV), some ((0, .int x4) : TV), none, none, none, none]) ⟨rfl, ⟨rfl, ⟨rfl, ⟨rfl, ⟨rfl, trivial⟩⟩⟩⟩⟩ ?_
      exact hk
    · refine J_aload_n (pc := 245) hc dL_law_245 rfl rfl ?_
      refine J_iconst (pc := 246) (v := 0) hc dL_law_246 (by decide) ?_
      refine J_lald (pc := 247) hc dL_law_247 (fun v4 => ?_)
      refine J_iload (pc := 248) hc dL_law_248 rfl ?_
      refine J_i2l (pc := 250) hc dL_law_250 ?_
      refine J_lcmp (pc := 251) hc dL_law_251 ?_
      refine J_if_eq (pc := 252) (tgt := 257) hc dL_law_252 (by decide) ?_ ?_
      · refine J_goto (pc := 257) (tgt := 2172) hc dL_law_257 (by decide) ?_
        refine J_widen (k := cs + 8) (n := ss + 80) (by omega) (by omega) ?_
        refine J_sub (l' := [some ((23, .ref (SB + 400)) : TV), some ((7, .ref x1) : TV), some ((8, .ref x2) : TV), some ((12, .ref x3) : TV), some ((0, .int x4) : TV), none, none, none, none]) ⟨rfl, ⟨rfl, ⟨rfl, ⟨rfl, ⟨rfl, trivial⟩⟩⟩⟩⟩ ?_
        exact hk
      · refine J_iconst (pc := 255) (v := 0) hc dL_law_255 (by decide) ?_
        refine J_widen (k := 601024) (n := 7293034) (by omega) (by omega) ?_
        exact J_zret (pc := 256) he dL_law_256
  · refine J_iconst (pc := 238) (v := 0) hc dL_law_238 (by decide) ?_
    refine J_widen (k := 601024) (n := 7293034) (by omega) (by omega) ?_
    exact J_zret (pc := 239) he dL_law_239
set_option maxRecDepth 100000 in
set_option maxHeartbeats 8000000 in
theorem jL_c1 {κ : Cx} {fin : Int32 → Mm → Prop} {L : Nat} {xs : Nat → Int32} (hc : Jc κ RL cL_law 9 12 601024 7293034 452) (he : EdZ κ cL_law 601024 7293034 id fin) (hsx : JX κ L xs) (hN : NcK κ) {cs ss : Nat} (h1 : cs + 8 ≤ 601024) (h2 : ss + 80 ≤ 7293034) {k : Mm → Option (Int32 × Mm)} (x1 x2 x3 : Nat) (x4 : Int32) (hk : Jg κ (wM κ) 9 fin (cs + 8) (ss + 80) 2172 [some ((23, .ref (SB + 400)) : TV), some ((7, .ref x1) : TV), some ((8, .ref x2) : TV), some ((12, .ref x3) : TV), some ((0, .int x4) : TV), none, none, none, none] [] k) : Jg κ (wM κ) 9 fin cs ss 260 [some ((23, .ref (SB + 400)) : TV), some ((7, .ref x1) : TV), some ((8, .ref x2) : TV), some ((12, .ref x3) : TV), some ((0, .int x4) : TV), none, none, none, none] [] (fL_c1 L xs k x1 x2 x3 x4) := by
  unfold fL_c1
  refine J_aload_n (pc := 260) hc dL_law_260 rfl rfl ?_
  refine J_aload_n (pc := 261) hc dL_law_261 rfl rfl ?_
  refine J_iload (pc := 262) hc dL_law_262 rfl ?_
  refine J_iconst (pc := 264) (v := 1) hc dL_law_264 (by decide) ?_
  refine J_iadd (pc := 265) hc dL_law_265 ?_
  refine J_sald (pc := 266) hc hsx dL_law_266 ?_
  refine J_aload_n (pc := 267) hc dL_law_267 rfl rfl ?_
  refine J_callSW (pc := 268) hc hN (As := [((7, .ref x1) : TV), ((0, .int (xs ((x4 + 1)).toNatClampNeg)) : TV), ((12, .ref x3) : TV)]) (KL_truncateText x1 (xs ((x4 + 1)).toNatClampNeg) x3) dL_law_268 moL_truncateText tw782 tw783 tw0 tw784 rfl (Nat.le_of_ble_eq_true rfl) (Nat.le_of_ble_eq_true rfl) (by omega) (by omega) (Nat.le_of_ble_eq_true rfl) rfl (fun v1 => ?_)
  refine J_istore (pc := 271) (l' := [some ((23, .ref (SB + 400)) : TV), some ((7, .ref x1) : TV), some ((8, .ref x2) : TV), some ((12, .ref x3) : TV), some ((0, .int x4) : TV), some ((0, .int v1) : TV), none, none, none]) hc dL_law_271 (by decide) rfl rfl ?_
  refine J_aload_n (pc := 273) hc dL_law_273 rfl rfl ?_
  refine J_aload_n (pc := 274) hc dL_law_274 rfl rfl ?_
  refine J_iload (pc := 275) hc dL_law_275 rfl ?_
  refine J_iconst (pc := 277) (v := 1) hc dL_law_277 (by decide) ?_
  refine J_iadd (pc := 278) hc dL_law_278 ?_
  refine J_sald (pc := 279) hc hsx dL_law_279 ?_
  refine J_callVi (pc := 280) hc clX8 (As := [((0, .int (xs ((x4 + 1)).toNatClampNeg)) : TV)]) (KX8_truncateText x2 (xs ((x4 + 1)).toNatClampNeg)) dL_law_280 moX8_truncateText rfl tw1604 tw1605 tw1606 tw9 tw1607 rfl (Nat.le_of_ble_eq_true rfl) (Nat.le_of_ble_eq_true rfl) (by omega) (by omega) (Nat.le_of_ble_eq_true rfl) rfl (fun v2 => ?_)
  refine J_istore (pc := 283) (l' := [some ((23, .ref (SB + 400)) : TV), some ((7, .ref x1) : TV), some ((8, .ref x2) : TV), some ((12, .ref x3) : TV), some ((0, .int x4) : TV), some ((0, .int v1) : TV), some ((0, .int v2) : TV), none, none]) hc dL_law_283 (by decide) rfl rfl ?_
  refine J_aload_n (pc := 285) hc dL_law_285 rfl rfl ?_
  refine J_callVi (pc := 286) hc clX8 (As := []) (KX8_thrown x2) dL_law_286 moX8_thrown rfl tw1290 tw1291 tw1292 tw9 tw1293 rfl (Nat.le_of_ble_eq_true rfl) (Nat.le_of_ble_eq_true rfl) (by omega) (by omega) (Nat.le_of_ble_eq_true rfl) rfl (fun v3 => ?_)
  refine J_iload (pc := 289) hc dL_law_289 rfl ?_
  refine J_icmp_eq (pc := 291) (tgt := 296) hc dL_law_291 (by decide) ?_ ?_
  · refine J_iload (pc := 296) hc dL_law_296 rfl ?_
    refine J_if_ne (pc := 298) (tgt := 313) hc dL_law_298 (by decide) ?_ ?_
    · refine J_goto (pc := 313) (tgt := 2172) hc dL_law_313 (by decide) ?_
      refine J_widen (k := cs + 8) (n := ss + 80) (by omega) (by omega) ?_
      refine J_sub (l' := [some ((23, .ref (SB + 400)) : TV), some ((7, .ref x1) : TV), some ((8, .ref x2) : TV), some ((12, .ref x3) : TV), some ((0, .int x4) : TV), none, none, none, none]) ⟨rfl, ⟨rfl, ⟨rfl, ⟨rfl, ⟨rfl, trivial⟩⟩⟩⟩⟩ ?_
      exact hk
    · refine J_aload_n (pc := 301) hc dL_law_301 rfl rfl ?_
      refine J_iconst (pc := 302) (v := 0) hc dL_law_302 (by decide) ?_
      refine J_lald (pc := 303) hc dL_law_303 (fun v4 => ?_)
      refine J_iload (pc := 304) hc dL_law_304 rfl ?_
      refine J_i2l (pc := 306) hc dL_law_306 ?_
      refine J_lcmp (pc := 307) hc dL_law_307 ?_
      refine J_if_eq (pc := 308) (tgt := 313) hc dL_law_308 (by decide) ?_ ?_
      · refine J_goto (pc := 313) (tgt := 2172) hc dL_law_313 (by decide) ?_
        refine J_widen (k := cs + 8) (n := ss + 80) (by omega) (by omega) ?_
        refine J_sub (l' := [some ((23, .ref (SB + 400)) : TV), some ((7, .ref x1) : TV), some ((8, .ref x2) : TV), some ((12, .ref x3) : TV), some ((0, .int x4) : TV), none, none, none, none]) ⟨rfl, ⟨rfl, ⟨rfl, ⟨rfl, ⟨rfl, trivial⟩⟩⟩⟩⟩ ?_
        exact hk
      · refine J_iconst (pc := 311) (v := 0) hc dL_law_311 (by decide) ?_
        refine J_widen (k := 601024) (n := 7293034) (by omega) (by omega) ?_
        exact J_zret (pc := 312) he dL_law_312
  · refine J_iconst (pc := 294) (v := 0) hc dL_law_294 (by decide) ?_
    refine J_widen (k := 601024) (n := 7293034) (by omega) (by omega) ?_
    exact J_zret (pc := 295) he dL_law_295
set_option maxRecDepth 100000 in
set_option maxHeartbeats 8000000 in
theorem jL_c2 {κ : Cx} {fin : Int32 → Mm → Prop} {L : Nat} {xs : Nat → Int32} (hc : Jc κ RL cL_law 9 12 601024 7293034 452) (he : EdZ κ cL_law 601024 7293034 id fin) (hsx : JX κ L xs) (hN : NcK κ) {cs ss : Nat} (h1 : cs + 8 ≤ 601024) (h2 : ss + 80 ≤ 7293034) {k : Mm → Option (Int32 × Mm)} (x1 x2 x3 : Nat) (x4 : Int32) (hk : Jg κ (wM κ) 9 fin (cs + 8) (ss + 80) 2172 [some ((23, .ref (SB + 400)) : TV), some ((7, .ref x1) : TV), some ((8, .ref x2) : TV), some ((12, .ref x3) : TV), some ((0, .int x4) : TV), none, none, none, none] [] k) : Jg κ (wM κ) 9 fin cs ss 316 [some ((23, .ref (SB + 400)) : TV), some ((7, .ref x1) : TV), some ((8, .ref x2) : TV), some ((12, .ref x3) : TV), some ((0, .int x4) : TV), none, none, none, none] [] (fL_c2 L xs k x1 x2 x3 x4) := by
  unfold fL_c2
  refine J_aload_n (pc := 316) hc dL_law_316 rfl rfl ?_
  refine J_callVi (pc := 317) hc clX7 (As := []) (KX7_load x1) dL_law_317 moX7_load rfl tw306 tw307 tw308 tw1 tw309 rfl (Nat.le_of_ble_eq_true rfl) (Nat.le_of_ble_eq_true rfl) (by omega) (by omega) (Nat.le_of_ble_eq_true rfl) rfl (fun v1 => ?_)
  refine J_aload_n (pc := 320) hc dL_law_320 rfl rfl ?_
  refine J_callVi (pc := 321) hc clX8 (As := []) (KX8_load x2) dL_law_321 moX8_load rfl tw1608 tw1609 tw1610 tw9 tw1611 rfl (Nat.le_of_ble_eq_true rfl) (Nat.le_of_ble_eq_true rfl) (by omega) (by omega) (Nat.le_of_ble_eq_true rfl) rfl (fun v2 => ?_)
  refine J_icmp_eq (pc := 324) (tgt := 2172) hc dL_law_324 (by decide) ?_ ?_
  · refine J_widen (k := cs + 8) (n := ss + 80) (by omega) (by omega) ?_
    refine J_sub (l' := [some ((23, .ref (SB + 400)) : TV), some ((7, .ref x1) : TV), some ((8, .ref x2) : TV), some ((12, .ref x3) : TV), some ((0, .int x4) : TV), none, none, none, none]) ⟨rfl, ⟨rfl, ⟨rfl, ⟨rfl, ⟨rfl, trivial⟩⟩⟩⟩⟩ ?_
    exact hk
  · refine J_iconst (pc := 327) (v := 0) hc dL_law_327 (by decide) ?_
    refine J_widen (k := 601024) (n := 7293034) (by omega) (by omega) ?_
    exact J_zret (pc := 328) he dL_law_328
set_option maxRecDepth 100000 in
set_option maxHeartbeats 8000000 in
theorem jL_c3 {κ : Cx} {fin : Int32 → Mm → Prop} {L : Nat} {xs : Nat → Int32} (hc : Jc κ RL cL_law 9 12 601024 7293034 452) (he : EdZ κ cL_law 601024 7293034 id fin) (hsx : JX κ L xs) (hN : NcK κ) {cs ss : Nat} (h1 : cs + 8 ≤ 601024) (h2 : ss + 80 ≤ 7293034) {k : Mm → Option (Int32 × Mm)} (x1 x2 x3 : Nat) (x4 : Int32) (hk : Jg κ (wM κ) 9 fin (cs + 8) (ss + 80) 2172 [some ((23, .ref (SB + 400)) : TV), some ((7, .ref x1) : TV), some ((8, .ref x2) : TV), some ((12, .ref x3) : TV), some ((0, .int x4) : TV), none, none, none, none] [] k) : Jg κ (wM κ) 9 fin cs ss 329 [some ((23, .ref (SB + 400)) : TV), some ((7, .ref x1) : TV), some ((8, .ref x2) : TV), some ((12, .ref x3) : TV), some ((0, .int x4) : TV), none, none, none, none] [] (fL_c3 L xs k x1 x2 x3 x4) := by
  unfold fL_c3
  refine J_aload_n (pc := 329) hc dL_law_329 rfl rfl ?_
  refine J_callVi (pc := 330) hc clX7 (As := []) (KX7_errorCode x1) dL_law_330 moX7_errorCode rfl tw551 tw552 tw553 tw1 tw554 rfl (Nat.le_of_ble_eq_true rfl) (Nat.le_of_ble_eq_true rfl) (by omega) (by omega) (Nat.le_of_ble_eq_true rfl) rfl (fun v1 => ?_)
  refine J_aload_n (pc := 333) hc dL_law_333 rfl rfl ?_
  refine J_callVi (pc := 334) hc clX8 (As := []) (KX8_errorCode x2) dL_law_334 moX8_errorCode rfl tw1683 tw1684 tw1685 tw9 tw1686 rfl (Nat.le_of_ble_eq_true rfl) (Nat.le_of_ble_eq_true rfl) (by omega) (by omega) (Nat.le_of_ble_eq_true rfl) rfl (fun v2 => ?_)
  refine J_icmp_eq (pc := 337) (tgt := 2172) hc dL_law_337 (by decide) ?_ ?_
  · refine J_widen (k := cs + 8) (n := ss + 80) (by omega) (by omega) ?_
    refine J_sub (l' := [some ((23, .ref (SB + 400)) : TV), some ((7, .ref x1) : TV), some ((8, .ref x2) : TV), some ((12, .ref x3) : TV), some ((0, .int x4) : TV), none, none, none, none]) ⟨rfl, ⟨rfl, ⟨rfl, ⟨rfl, ⟨rfl, trivial⟩⟩⟩⟩⟩ ?_
    exact hk
  · refine J_iconst (pc := 340) (v := 0) hc dL_law_340 (by decide) ?_
    refine J_widen (k := 601024) (n := 7293034) (by omega) (by omega) ?_
    exact J_zret (pc := 341) he dL_law_341
set_option maxRecDepth 100000 in
set_option maxHeartbeats 8000000 in
theorem jL_c4 {κ : Cx} {fin : Int32 → Mm → Prop} {L : Nat} {xs : Nat → Int32} (hc : Jc κ RL cL_law 9 12 601024 7293034 452) (he : EdZ κ cL_law 601024 7293034 id fin) (hsx : JX κ L xs) (hN : NcK κ) {cs ss : Nat} (h1 : cs + 8 ≤ 601024) (h2 : ss + 80 ≤ 7293034) {k : Mm → Option (Int32 × Mm)} (x1 x2 x3 : Nat) (x4 : Int32) (hk : Jg κ (wM κ) 9 fin (cs + 8) (ss + 80) 2172 [some ((23, .ref (SB + 400)) : TV), some ((7, .ref x1) : TV), some ((8, .ref x2) : TV), some ((12, .ref x3) : TV), some ((0, .int x4) : TV), none, none, none, none] [] k) : Jg κ (wM κ) 9 fin cs ss 342 [some ((23, .ref (SB + 400)) : TV), some ((7, .ref x1) : TV), some ((8, .ref x2) : TV), some ((12, .ref x3) : TV), some ((0, .int x4) : TV), none, none, none, none] [] (fL_c4 L xs k x1 x2 x3 x4) := by
  unfold fL_c4
  refine J_aload_n (pc := 342) hc dL_law_342 rfl rfl ?_
  refine J_callVi (pc := 343) hc clX7 (As := []) (KX7_errorPosition x1) dL_law_343 moX7_errorPosition rfl tw555 tw556 tw557 tw1 tw558 rfl (Nat.le_of_ble_eq_true rfl) (Nat.le_of_ble_eq_true rfl) (by omega) (by omega) (Nat.le_of_ble_eq_true rfl) rfl (fun v1 => ?_)
  refine J_aload_n (pc := 346) hc dL_law_346 rfl rfl ?_
  refine J_callVi (pc := 347) hc clX8 (As := []) (KX8_errorPosition x2) dL_law_347 moX8_errorPosition rfl tw1687 tw1688 tw1689 tw9 tw1690 rfl (Nat.le_of_ble_eq_true rfl) (Nat.le_of_ble_eq_true rfl) (by omega) (by omega) (Nat.le_of_ble_eq_true rfl) rfl (fun v2 => ?_)
  refine J_icmp_eq (pc := 350) (tgt := 2172) hc dL_law_350 (by decide) ?_ ?_
  · refine J_widen (k := cs + 8) (n := ss + 80) (by omega) (by omega) ?_
    refine J_sub (l' := [some ((23, .ref (SB + 400)) : TV), some ((7, .ref x1) : TV), some ((8, .ref x2) : TV), some ((12, .ref x3) : TV), some ((0, .int x4) : TV), none, none, none, none]) ⟨rfl, ⟨rfl, ⟨rfl, ⟨rfl, ⟨rfl, trivial⟩⟩⟩⟩⟩ ?_
    exact hk
  · refine J_iconst (pc := 353) (v := 0) hc dL_law_353 (by decide) ?_
    refine J_widen (k := 601024) (n := 7293034) (by omega) (by omega) ?_
    exact J_zret (pc := 354) he dL_law_354
set_option maxRecDepth 100000 in
set_option maxHeartbeats 8000000 in
theorem jL_c5 {κ : Cx} {fin : Int32 → Mm → Prop} {L : Nat} {xs : Nat → Int32} (hc : Jc κ RL cL_law 9 12 601024 7293034 452) (he : EdZ κ cL_law 601024 7293034 id fin) (hsx : JX κ L xs) (hN : NcK κ) {cs ss : Nat} (h1 : cs + 8 ≤ 601024) (h2 : ss + 80 ≤ 7293034) {k : Mm → Option (Int32 × Mm)} (x1 x2 x3 : Nat) (x4 : Int32) (hk : Jg κ (wM κ) 9 fin (cs + 8) (ss + 80) 2172 [some ((23, .ref (SB + 400)) : TV), some ((7, .ref x1) : TV), some ((8, .ref x2) : TV), some ((12, .ref x3) : TV), some ((0, .int x4) : TV), none, none, none, none] [] k) : Jg κ (wM κ) 9 fin cs ss 355 [some ((23, .ref (SB + 400)) : TV), some ((7, .ref x1) : TV), some ((8, .ref x2) : TV), some ((12, .ref x3) : TV), some ((0, .int x4) : TV), none, none, none, none] [] (fL_c5 L xs k x1 x2 x3 x4) := by
  unfold fL_c5
  refine J_aload_n (pc := 355) hc dL_law_355 rfl rfl ?_
  refine J_aload_n (pc := 356) hc dL_law_356 rfl rfl ?_
  refine J_iload (pc := 357) hc dL_law_357 rfl ?_
  refine J_iconst (pc := 359) (v := 1) hc dL_law_359 (by decide) ?_
  refine J_iadd (pc := 360) hc dL_law_360 ?_
  refine J_sald (pc := 361) hc hsx dL_law_361 ?_
  refine J_aload_n (pc := 362) hc dL_law_362 rfl rfl ?_
  refine J_callSW (pc := 363) hc hN (As := [((7, .ref x1) : TV), ((0, .int (xs ((x4 + 1)).toNatClampNeg)) : TV), ((12, .ref x3) : TV)]) (KL_count x1 (xs ((x4 + 1)).toNatClampNeg) x3) dL_law_363 moL_count tw806 tw807 tw0 tw808 rfl (Nat.le_of_ble_eq_true rfl) (Nat.le_of_ble_eq_true rfl) (by omega) (by omega) (Nat.le_of_ble_eq_true rfl) rfl (fun v1 => ?_)
  refine J_istore (pc := 366) (l' := [some ((23, .ref (SB + 400)) : TV), some ((7, .ref x1) : TV), some ((8, .ref x2) : TV), some ((12, .ref x3) : TV), some ((0, .int x4) : TV), some ((0, .int v1) : TV), none, none, none]) hc dL_law_366 (by decide) rfl rfl ?_
  refine J_aload_n (pc := 368) hc dL_law_368 rfl rfl ?_
  refine J_aload_n (pc := 369) hc dL_law_369 rfl rfl ?_
  refine J_iload (pc := 370) hc dL_law_370 rfl ?_
  refine J_iconst (pc := 372) (v := 1) hc dL_law_372 (by decide) ?_
  refine J_iadd (pc := 373) hc dL_law_373 ?_
  refine J_sald (pc := 374) hc hsx dL_law_374 ?_
  refine J_callVi (pc := 375) hc clX8 (As := [((0, .int (xs ((x4 + 1)).toNatClampNeg)) : TV)]) (KX8_count x2 (xs ((x4 + 1)).toNatClampNeg)) dL_law_375 moX8_count rfl tw1294 tw1295 tw1296 tw9 tw1297 rfl (Nat.le_of_ble_eq_true rfl) (Nat.le_of_ble_eq_true rfl) (by omega) (by omega) (Nat.le_of_ble_eq_true rfl) rfl (fun v2 => ?_)
  refine J_istore (pc := 378) (l' := [some ((23, .ref (SB + 400)) : TV), some ((7, .ref x1) : TV), some ((8, .ref x2) : TV), some ((12, .ref x3) : TV), some ((0, .int x4) : TV), some ((0, .int v1) : TV), some ((0, .int v2) : TV), none, none]) hc dL_law_378 (by decide) rfl rfl ?_
  refine J_aload_n (pc := 380) hc dL_law_380 rfl rfl ?_
  refine J_callVi (pc := 381) hc clX8 (As := []) (KX8_thrown x2) dL_law_381 moX8_thrown rfl tw1290 tw1291 tw1292 tw9 tw1293 rfl (Nat.le_of_ble_eq_true rfl) (Nat.le_of_ble_eq_true rfl) (by omega) (by omega) (Nat.le_of_ble_eq_true rfl) rfl (fun v3 => ?_)
  refine J_iload (pc := 384) hc dL_law_384 rfl ?_
  refine J_icmp_eq (pc := 386) (tgt := 391) hc dL_law_386 (by decide) ?_ ?_
  · refine J_iload (pc := 391) hc dL_law_391 rfl ?_
    refine J_if_ne (pc := 393) (tgt := 408) hc dL_law_393 (by decide) ?_ ?_
    · refine J_goto (pc := 408) (tgt := 2172) hc dL_law_408 (by decide) ?_
      refine J_widen (k := cs + 8) (n := ss + 80) (by omega) (by omega) ?_
      refine J_sub (l' := [some ((23, .ref (SB + 400)) : TV), some ((7, .ref x1) : TV), some ((8, .ref x2) : TV), some ((12, .ref x3) : TV), some ((0, .int x4) : TV), none, none, none, none]) ⟨rfl, ⟨rfl, ⟨rfl, ⟨rfl, ⟨rfl, trivial⟩⟩⟩⟩⟩ ?_
      exact hk
    · refine J_aload_n (pc := 396) hc dL_law_396 rfl rfl ?_
      refine J_iconst (pc := 397) (v := 0) hc dL_law_397 (by decide) ?_
      refine J_lald (pc := 398) hc dL_law_398 (fun v4 => ?_)
      refine J_iload (pc := 399) hc dL_law_399 rfl ?_
      refine J_i2l (pc := 401) hc dL_law_401 ?_
      refine J_lcmp (pc := 402) hc dL_law_402 ?_
      refine J_if_eq (pc := 403) (tgt := 408) hc dL_law_403 (by decide) ?_ ?_
      · refine J_goto (pc := 408) (tgt := 2172) hc dL_law_408 (by decide) ?_
        refine J_widen (k := cs + 8) (n := ss + 80) (by omega) (by omega) ?_
        refine J_sub (l' := [some ((23, .ref (SB + 400)) : TV), some ((7, .ref x1) : TV), some ((8, .ref x2) : TV), some ((12, .ref x3) : TV), some ((0, .int x4) : TV), none, none, none, none]) ⟨rfl, ⟨rfl, ⟨rfl, ⟨rfl, ⟨rfl, trivial⟩⟩⟩⟩⟩ ?_
        exact hk
      · refine J_iconst (pc := 406) (v := 0) hc dL_law_406 (by decide) ?_
        refine J_widen (k := 601024) (n := 7293034) (by omega) (by omega) ?_
        exact J_zret (pc := 407) he dL_law_407
  · refine J_iconst (pc := 389) (v := 0) hc dL_law_389 (by decide) ?_
    refine J_widen (k := 601024) (n := 7293034) (by omega) (by omega) ?_
    exact J_zret (pc := 390) he dL_law_390
set_option maxRecDepth 100000 in
set_option maxHeartbeats 8000000 in
theorem jL_c6 {κ : Cx} {fin : Int32 → Mm → Prop} {L : Nat} {xs : Nat → Int32} (hc : Jc κ RL cL_law 9 12 601024 7293034 452) (he : EdZ κ cL_law 601024 7293034 id fin) (hsx : JX κ L xs) (hN : NcK κ) {cs ss : Nat} (h1 : cs + 8 ≤ 601024) (h2 : ss + 80 ≤ 7293034) {k : Mm → Option (Int32 × Mm)} (x1 x2 x3 : Nat) (x4 : Int32) (hk : Jg κ (wM κ) 9 fin (cs + 8) (ss + 80) 2172 [some ((23, .ref (SB + 400)) : TV), some ((7, .ref x1) : TV), some ((8, .ref x2) : TV), some ((12, .ref x3) : TV), some ((0, .int x4) : TV), none, none, none, none] [] k) : Jg κ (wM κ) 9 fin cs ss 411 [some ((23, .ref (SB + 400)) : TV), some ((7, .ref x1) : TV), some ((8, .ref x2) : TV), some ((12, .ref x3) : TV), some ((0, .int x4) : TV), none, none, none, none] [] (fL_c6 L xs k x1 x2 x3 x4) := by
  unfold fL_c6
  refine J_aload_n (pc := 411) hc dL_law_411 rfl rfl ?_
  refine J_aload_n (pc := 412) hc dL_law_412 rfl rfl ?_
  refine J_iload (pc := 413) hc dL_law_413 rfl ?_
  refine J_iconst (pc := 415) (v := 1) hc dL_law_415 (by decide) ?_
  refine J_iadd (pc := 416) hc dL_law_416 ?_
  refine J_sald (pc := 417) hc hsx dL_law_417 ?_
  refine J_aload_n (pc := 418) hc dL_law_418 rfl rfl ?_
  refine J_iload (pc := 419) hc dL_law_419 rfl ?_
  refine J_iconst (pc := 421) (v := 2) hc dL_law_421 (by decide) ?_
  refine J_iadd (pc := 422) hc dL_law_422 ?_
  refine J_sald (pc := 423) hc hsx dL_law_423 ?_
  refine J_aload_n (pc := 424) hc dL_law_424 rfl rfl ?_
  refine J_callSW (pc := 425) hc hN (As := [((7, .ref x1) : TV), ((0, .int (xs ((x4 + 1)).toNatClampNeg)) : TV), ((0, .int (xs ((x4 + 2)).toNatClampNeg)) : TV), ((12, .ref x3) : TV)]) (KL_dot x1 (xs ((x4 + 1)).toNatClampNeg) (xs ((x4 + 2)).toNatClampNeg) x3) dL_law_425 moL_dot tw826 tw827 tw0 tw828 rfl (Nat.le_of_ble_eq_true rfl) (Nat.le_of_ble_eq_true rfl) (by omega) (by omega) (Nat.le_of_ble_eq_true rfl) rfl (fun v1 => ?_)
  refine J_istore (pc := 428) (l' := [some ((23, .ref (SB + 400)) : TV), some ((7, .ref x1) : TV), some ((8, .ref x2) : TV), some ((12, .ref x3) : TV), some ((0, .int x4) : TV), some ((0, .int v1) : TV), none, none, none]) hc dL_law_428 (by decide) rfl rfl ?_
  refine J_aload_n (pc := 430) hc dL_law_430 rfl rfl ?_
  refine J_aload_n (pc := 431) hc dL_law_431 rfl rfl ?_
  refine J_iload (pc := 432) hc dL_law_432 rfl ?_
  refine J_iconst (pc := 434) (v := 1) hc dL_law_434 (by decide) ?_
  refine J_iadd (pc := 435) hc dL_law_435 ?_
  refine J_sald (pc := 436) hc hsx dL_law_436 ?_
  refine J_aload_n (pc := 437) hc dL_law_437 rfl rfl ?_
  refine J_iload (pc := 438) hc dL_law_438 rfl ?_
  refine J_iconst (pc := 440) (v := 2) hc dL_law_440 (by decide) ?_
  refine J_iadd (pc := 441) hc dL_law_441 ?_
  refine J_sald (pc := 442) hc hsx dL_law_442 ?_
  refine J_callVi (pc := 443) hc clX8 (As := [((0, .int (xs ((x4 + 1)).toNatClampNeg)) : TV), ((0, .int (xs ((x4 + 2)).toNatClampNeg)) : TV)]) (KX8_dot x2 (xs ((x4 + 1)).toNatClampNeg) (xs ((x4 + 2)).toNatClampNeg)) dL_law_443 moX8_dot rfl tw1382 tw1383 tw1384 tw9 tw1385 rfl (Nat.le_of_ble_eq_true rfl) (Nat.le_of_ble_eq_true rfl) (by omega) (by omega) (Nat.le_of_ble_eq_true rfl) rfl (fun v2 => ?_)
  refine J_istore (pc := 446) (l' := [some ((23, .ref (SB + 400)) : TV), some ((7, .ref x1) : TV), some ((8, .ref x2) : TV), some ((12, .ref x3) : TV), some ((0, .int x4) : TV), some ((0, .int v1) : TV), some ((0, .int v2) : TV), none, none]) hc dL_law_446 (by decide) rfl rfl ?_
  refine J_aload_n (pc := 448) hc dL_law_448 rfl rfl ?_
  refine J_callVi (pc := 449) hc clX8 (As := []) (KX8_thrown x2) dL_law_449 moX8_thrown rfl tw1290 tw1291 tw1292 tw9 tw1293 rfl (Nat.le_of_ble_eq_true rfl) (Nat.le_of_ble_eq_true rfl) (by omega) (by omega) (Nat.le_of_ble_eq_true rfl) rfl (fun v3 => ?_)
  refine J_iload (pc := 452) hc dL_law_452 rfl ?_
  refine J_icmp_eq (pc := 454) (tgt := 459) hc dL_law_454 (by decide) ?_ ?_
  · refine J_iload (pc := 459) hc dL_law_459 rfl ?_
    refine J_if_ne (pc := 461) (tgt := 476) hc dL_law_461 (by decide) ?_ ?_
    · refine J_goto (pc := 476) (tgt := 2172) hc dL_law_476 (by decide) ?_
      refine J_widen (k := cs + 8) (n := ss + 80) (by omega) (by omega) ?_
      refine J_sub (l' := [some ((23, .ref (SB + 400)) : TV), some ((7, .ref x1) : TV), some ((8, .ref x2) : TV), some ((12, .ref x3) : TV), some ((0, .int x4) : TV), none, none, none, none]) ⟨rfl, ⟨rfl, ⟨rfl, ⟨rfl, ⟨rfl, trivial⟩⟩⟩⟩⟩ ?_
      exact hk
    · refine J_aload_n (pc := 464) hc dL_law_464 rfl rfl ?_
      refine J_iconst (pc := 465) (v := 0) hc dL_law_465 (by decide) ?_
      refine J_lald (pc := 466) hc dL_law_466 (fun v4 => ?_)
      refine J_iload (pc := 467) hc dL_law_467 rfl ?_
      refine J_i2l (pc := 469) hc dL_law_469 ?_
      refine J_lcmp (pc := 470) hc dL_law_470 ?_
      refine J_if_eq (pc := 471) (tgt := 476) hc dL_law_471 (by decide) ?_ ?_
      · refine J_goto (pc := 476) (tgt := 2172) hc dL_law_476 (by decide) ?_
        refine J_widen (k := cs + 8) (n := ss + 80) (by omega) (by omega) ?_
        refine J_sub (l' := [some ((23, .ref (SB + 400)) : TV), some ((7, .ref x1) : TV), some ((8, .ref x2) : TV), some ((12, .ref x3) : TV), some ((0, .int x4) : TV), none, none, none, none]) ⟨rfl, ⟨rfl, ⟨rfl, ⟨rfl, ⟨rfl, trivial⟩⟩⟩⟩⟩ ?_
        exact hk
      · refine J_iconst (pc := 474) (v := 0) hc dL_law_474 (by decide) ?_
        refine J_widen (k := 601024) (n := 7293034) (by omega) (by omega) ?_
        exact J_zret (pc := 475) he dL_law_475
  · refine J_iconst (pc := 457) (v := 0) hc dL_law_457 (by decide) ?_
    refine J_widen (k := 601024) (n := 7293034) (by omega) (by omega) ?_
    exact J_zret (pc := 458) he dL_law_458
set_option maxRecDepth 100000 in
set_option maxHeartbeats 8000000 in
theorem jL_c7 {κ : Cx} {fin : Int32 → Mm → Prop} {L : Nat} {xs : Nat → Int32} (hc : Jc κ RL cL_law 9 12 601024 7293034 452) (he : EdZ κ cL_law 601024 7293034 id fin) (hsx : JX κ L xs) (hN : NcK κ) {cs ss : Nat} (h1 : cs + 8 ≤ 601024) (h2 : ss + 80 ≤ 7293034) {k : Mm → Option (Int32 × Mm)} (x1 x2 x3 : Nat) (x4 : Int32) (hk : Jg κ (wM κ) 9 fin (cs + 8) (ss + 80) 2172 [some ((23, .ref (SB + 400)) : TV), some ((7, .ref x1) : TV), some ((8, .ref x2) : TV), some ((12, .ref x3) : TV), some ((0, .int x4) : TV), none, none, none, none] [] k) : Jg κ (wM κ) 9 fin cs ss 479 [some ((23, .ref (SB + 400)) : TV), some ((7, .ref x1) : TV), some ((8, .ref x2) : TV), some ((12, .ref x3) : TV), some ((0, .int x4) : TV), none, none, none, none] [] (fL_c7 L xs k x1 x2 x3 x4) := by
  unfold fL_c7
  refine J_aload_n (pc := 479) hc dL_law_479 rfl rfl ?_
  refine J_aload_n (pc := 480) hc dL_law_480 rfl rfl ?_
  refine J_iload (pc := 481) hc dL_law_481 rfl ?_
  refine J_iconst (pc := 483) (v := 1) hc dL_law_483 (by decide) ?_
  refine J_iadd (pc := 484) hc dL_law_484 ?_
  refine J_sald (pc := 485) hc hsx dL_law_485 ?_
  refine J_aload_n (pc := 486) hc dL_law_486 rfl rfl ?_
  refine J_iload (pc := 487) hc dL_law_487 rfl ?_
  refine J_iconst (pc := 489) (v := 2) hc dL_law_489 (by decide) ?_
  refine J_iadd (pc := 490) hc dL_law_490 ?_
  refine J_sald (pc := 491) hc hsx dL_law_491 ?_
  refine J_aload_n (pc := 492) hc dL_law_492 rfl rfl ?_
  refine J_callSW (pc := 493) hc hN (As := [((7, .ref x1) : TV), ((0, .int (xs ((x4 + 1)).toNatClampNeg)) : TV), ((0, .int (xs ((x4 + 2)).toNatClampNeg)) : TV), ((12, .ref x3) : TV)]) (KL_line x1 (xs ((x4 + 1)).toNatClampNeg) (xs ((x4 + 2)).toNatClampNeg) x3) dL_law_493 moL_line tw858 tw859 tw0 tw860 rfl (Nat.le_of_ble_eq_true rfl) (Nat.le_of_ble_eq_true rfl) (by omega) (by omega) (Nat.le_of_ble_eq_true rfl) rfl (fun v1 => ?_)
  refine J_istore (pc := 496) (l' := [some ((23, .ref (SB + 400)) : TV), some ((7, .ref x1) : TV), some ((8, .ref x2) : TV), some ((12, .ref x3) : TV), some ((0, .int x4) : TV), some ((0, .int v1) : TV), none, none, none]) hc dL_law_496 (by decide) rfl rfl ?_
  refine J_aload_n (pc := 498) hc dL_law_498 rfl rfl ?_
  refine J_aload_n (pc := 499) hc dL_law_499 rfl rfl ?_
  refine J_iload (pc := 500) hc dL_law_500 rfl ?_
  refine J_iconst (pc := 502) (v := 1) hc dL_law_502 (by decide) ?_
  refine J_iadd (pc := 503) hc dL_law_503 ?_
  refine J_sald (pc := 504) hc hsx dL_law_504 ?_
  refine J_aload_n (pc := 505) hc dL_law_505 rfl rfl ?_
  refine J_iload (pc := 506) hc dL_law_506 rfl ?_
  refine J_iconst (pc := 508) (v := 2) hc dL_law_508 (by decide) ?_
  refine J_iadd (pc := 509) hc dL_law_509 ?_
  refine J_sald (pc := 510) hc hsx dL_law_510 ?_
  refine J_callVi (pc := 511) hc clX8 (As := [((0, .int (xs ((x4 + 1)).toNatClampNeg)) : TV), ((0, .int (xs ((x4 + 2)).toNatClampNeg)) : TV)]) (KX8_line x2 (xs ((x4 + 1)).toNatClampNeg) (xs ((x4 + 2)).toNatClampNeg)) dL_law_511 moX8_line rfl tw1394 tw1395 tw1396 tw9 tw1397 rfl (Nat.le_of_ble_eq_true rfl) (Nat.le_of_ble_eq_true rfl) (by omega) (by omega) (Nat.le_of_ble_eq_true rfl) rfl (fun v2 => ?_)
  refine J_istore (pc := 514) (l' := [some ((23, .ref (SB + 400)) : TV), some ((7, .ref x1) : TV), some ((8, .ref x2) : TV), some ((12, .ref x3) : TV), some ((0, .int x4) : TV), some ((0, .int v1) : TV), some ((0, .int v2) : TV), none, none]) hc dL_law_514 (by decide) rfl rfl ?_
  refine J_aload_n (pc := 516) hc dL_law_516 rfl rfl ?_
  refine J_callVi (pc := 517) hc clX8 (As := []) (KX8_thrown x2) dL_law_517 moX8_thrown rfl tw1290 tw1291 tw1292 tw9 tw1293 rfl (Nat.le_of_ble_eq_true rfl) (Nat.le_of_ble_eq_true rfl) (by omega) (by omega) (Nat.le_of_ble_eq_true rfl) rfl (fun v3 => ?_)
  refine J_iload (pc := 520) hc dL_law_520 rfl ?_
  refine J_icmp_eq (pc := 522) (tgt := 527) hc dL_law_522 (by decide) ?_ ?_
  · refine J_iload (pc := 527) hc dL_law_527 rfl ?_
    refine J_if_ne (pc := 529) (tgt := 544) hc dL_law_529 (by decide) ?_ ?_
    · refine J_goto (pc := 544) (tgt := 2172) hc dL_law_544 (by decide) ?_
      refine J_widen (k := cs + 8) (n := ss + 80) (by omega) (by omega) ?_
      refine J_sub (l' := [some ((23, .ref (SB + 400)) : TV), some ((7, .ref x1) : TV), some ((8, .ref x2) : TV), some ((12, .ref x3) : TV), some ((0, .int x4) : TV), none, none, none, none]) ⟨rfl, ⟨rfl, ⟨rfl, ⟨rfl, ⟨rfl, trivial⟩⟩⟩⟩⟩ ?_
      exact hk
    · refine J_aload_n (pc := 532) hc dL_law_532 rfl rfl ?_
      refine J_iconst (pc := 533) (v := 0) hc dL_law_533 (by decide) ?_
      refine J_lald (pc := 534) hc dL_law_534 (fun v4 => ?_)
      refine J_iload (pc := 535) hc dL_law_535 rfl ?_
      refine J_i2l (pc := 537) hc dL_law_537 ?_
      refine J_lcmp (pc := 538) hc dL_law_538 ?_
      refine J_if_eq (pc := 539) (tgt := 544) hc dL_law_539 (by decide) ?_ ?_
      · refine J_goto (pc := 544) (tgt := 2172) hc dL_law_544 (by decide) ?_
        refine J_widen (k := cs + 8) (n := ss + 80) (by omega) (by omega) ?_
        refine J_sub (l' := [some ((23, .ref (SB + 400)) : TV), some ((7, .ref x1) : TV), some ((8, .ref x2) : TV), some ((12, .ref x3) : TV), some ((0, .int x4) : TV), none, none, none, none]) ⟨rfl, ⟨rfl, ⟨rfl, ⟨rfl, ⟨rfl, trivial⟩⟩⟩⟩⟩ ?_
        exact hk
      · refine J_iconst (pc := 542) (v := 0) hc dL_law_542 (by decide) ?_
        refine J_widen (k := 601024) (n := 7293034) (by omega) (by omega) ?_
        exact J_zret (pc := 543) he dL_law_543
  · refine J_iconst (pc := 525) (v := 0) hc dL_law_525 (by decide) ?_
    refine J_widen (k := 601024) (n := 7293034) (by omega) (by omega) ?_
    exact J_zret (pc := 526) he dL_law_526
set_option maxRecDepth 100000 in
set_option maxHeartbeats 8000000 in
theorem jL_c8 {κ : Cx} {fin : Int32 → Mm → Prop} {L : Nat} {xs : Nat → Int32} (hc : Jc κ RL cL_law 9 12 601024 7293034 452) (he : EdZ κ cL_law 601024 7293034 id fin) (hsx : JX κ L xs) (hN : NcK κ) {cs ss : Nat} (h1 : cs + 8 ≤ 601024) (h2 : ss + 80 ≤ 7293034) {k : Mm → Option (Int32 × Mm)} (x1 x2 x3 : Nat) (x4 : Int32) (hk : Jg κ (wM κ) 9 fin (cs + 8) (ss + 80) 2172 [some ((23, .ref (SB + 400)) : TV), some ((7, .ref x1) : TV), some ((8, .ref x2) : TV), some ((12, .ref x3) : TV), some ((0, .int x4) : TV), none, none, none, none] [] k) : Jg κ (wM κ) 9 fin cs ss 547 [some ((23, .ref (SB + 400)) : TV), some ((7, .ref x1) : TV), some ((8, .ref x2) : TV), some ((12, .ref x3) : TV), some ((0, .int x4) : TV), none, none, none, none] [] (fL_c8 L xs k x1 x2 x3 x4) := by
  unfold fL_c8
  refine J_aload_n (pc := 547) hc dL_law_547 rfl rfl ?_
  refine J_aload_n (pc := 548) hc dL_law_548 rfl rfl ?_
  refine J_iload (pc := 549) hc dL_law_549 rfl ?_
  refine J_iconst (pc := 551) (v := 1) hc dL_law_551 (by decide) ?_
  refine J_iadd (pc := 552) hc dL_law_552 ?_
  refine J_sald (pc := 553) hc hsx dL_law_553 ?_
  refine J_aload_n (pc := 554) hc dL_law_554 rfl rfl ?_
  refine J_iload (pc := 555) hc dL_law_555 rfl ?_
  refine J_iconst (pc := 557) (v := 2) hc dL_law_557 (by decide) ?_
  refine J_iadd (pc := 558) hc dL_law_558 ?_
  refine J_sald (pc := 559) hc hsx dL_law_559 ?_
  refine J_aload_n (pc := 560) hc dL_law_560 rfl rfl ?_
  refine J_callSW (pc := 561) hc hN (As := [((7, .ref x1) : TV), ((0, .int (xs ((x4 + 1)).toNatClampNeg)) : TV), ((0, .int (xs ((x4 + 2)).toNatClampNeg)) : TV), ((12, .ref x3) : TV)]) (KL_run x1 (xs ((x4 + 1)).toNatClampNeg) (xs ((x4 + 2)).toNatClampNeg) x3) dL_law_561 moL_run tw878 tw879 tw0 tw880 rfl (Nat.le_of_ble_eq_true rfl) (Nat.le_of_ble_eq_true rfl) (by omega) (by omega) (Nat.le_of_ble_eq_true rfl) rfl (fun v1 => ?_)
  refine J_istore (pc := 564) (l' := [some ((23, .ref (SB + 400)) : TV), some ((7, .ref x1) : TV), some ((8, .ref x2) : TV), some ((12, .ref x3) : TV), some ((0, .int x4) : TV), some ((0, .int v1) : TV), none, none, none]) hc dL_law_564 (by decide) rfl rfl ?_
  refine J_aload_n (pc := 566) hc dL_law_566 rfl rfl ?_
  refine J_aload_n (pc := 567) hc dL_law_567 rfl rfl ?_
  refine J_iload (pc := 568) hc dL_law_568 rfl ?_
  refine J_iconst (pc := 570) (v := 1) hc dL_law_570 (by decide) ?_
  refine J_iadd (pc := 571) hc dL_law_571 ?_
  refine J_sald (pc := 572) hc hsx dL_law_572 ?_
  refine J_aload_n (pc := 573) hc dL_law_573 rfl rfl ?_
  refine J_iload (pc := 574) hc dL_law_574 rfl ?_
  refine J_iconst (pc := 576) (v := 2) hc dL_law_576 (by decide) ?_
  refine J_iadd (pc := 577) hc dL_law_577 ?_
  refine J_sald (pc := 578) hc hsx dL_law_578 ?_
  refine J_callVi (pc := 579) hc clX8 (As := [((0, .int (xs ((x4 + 1)).toNatClampNeg)) : TV), ((0, .int (xs ((x4 + 2)).toNatClampNeg)) : TV)]) (KX8_run x2 (xs ((x4 + 1)).toNatClampNeg) (xs ((x4 + 2)).toNatClampNeg)) dL_law_579 moX8_run rfl tw1410 tw1411 tw1412 tw9 tw1413 rfl (Nat.le_of_ble_eq_true rfl) (Nat.le_of_ble_eq_true rfl) (by omega) (by omega) (Nat.le_of_ble_eq_true rfl) rfl (fun v2 => ?_)
  refine J_istore (pc := 582) (l' := [some ((23, .ref (SB + 400)) : TV), some ((7, .ref x1) : TV), some ((8, .ref x2) : TV), some ((12, .ref x3) : TV), some ((0, .int x4) : TV), some ((0, .int v1) : TV), some ((0, .int v2) : TV), none, none]) hc dL_law_582 (by decide) rfl rfl ?_
  refine J_aload_n (pc := 584) hc dL_law_584 rfl rfl ?_
  refine J_callVi (pc := 585) hc clX8 (As := []) (KX8_thrown x2) dL_law_585 moX8_thrown rfl tw1290 tw1291 tw1292 tw9 tw1293 rfl (Nat.le_of_ble_eq_true rfl) (Nat.le_of_ble_eq_true rfl) (by omega) (by omega) (Nat.le_of_ble_eq_true rfl) rfl (fun v3 => ?_)
  refine J_iload (pc := 588) hc dL_law_588 rfl ?_
  refine J_icmp_eq (pc := 590) (tgt := 595) hc dL_law_590 (by decide) ?_ ?_
  · refine J_iload (pc := 595) hc dL_law_595 rfl ?_
    refine J_if_ne (pc := 597) (tgt := 612) hc dL_law_597 (by decide) ?_ ?_
    · refine J_goto (pc := 612) (tgt := 2172) hc dL_law_612 (by decide) ?_
      refine J_widen (k := cs + 8) (n := ss + 80) (by omega) (by omega) ?_
      refine J_sub (l' := [some ((23, .ref (SB + 400)) : TV), some ((7, .ref x1) : TV), some ((8, .ref x2) : TV), some ((12, .ref x3) : TV), some ((0, .int x4) : TV), none, none, none, none]) ⟨rfl, ⟨rfl, ⟨rfl, ⟨rfl, ⟨rfl, trivial⟩⟩⟩⟩⟩ ?_
      exact hk
    · refine J_aload_n (pc := 600) hc dL_law_600 rfl rfl ?_
      refine J_iconst (pc := 601) (v := 0) hc dL_law_601 (by decide) ?_
      refine J_lald (pc := 602) hc dL_law_602 (fun v4 => ?_)
      refine J_iload (pc := 603) hc dL_law_603 rfl ?_
      refine J_i2l (pc := 605) hc dL_law_605 ?_
      refine J_lcmp (pc := 606) hc dL_law_606 ?_
      refine J_if_eq (pc := 607) (tgt := 612) hc dL_law_607 (by decide) ?_ ?_
      · refine J_goto (pc := 612) (tgt := 2172) hc dL_law_612 (by decide) ?_
        refine J_widen (k := cs + 8) (n := ss + 80) (by omega) (by omega) ?_
        refine J_sub (l' := [some ((23, .ref (SB + 400)) : TV), some ((7, .ref x1) : TV), some ((8, .ref x2) : TV), some ((12, .ref x3) : TV), some ((0, .int x4) : TV), none, none, none, none]) ⟨rfl, ⟨rfl, ⟨rfl, ⟨rfl, ⟨rfl, trivial⟩⟩⟩⟩⟩ ?_
        exact hk
      · refine J_iconst (pc := 610) (v := 0) hc dL_law_610 (by decide) ?_
        refine J_widen (k := 601024) (n := 7293034) (by omega) (by omega) ?_
        exact J_zret (pc := 611) he dL_law_611
  · refine J_iconst (pc := 593) (v := 0) hc dL_law_593 (by decide) ?_
    refine J_widen (k := 601024) (n := 7293034) (by omega) (by omega) ?_
    exact J_zret (pc := 594) he dL_law_594
set_option maxRecDepth 100000 in
set_option maxHeartbeats 8000000 in
theorem jL_c9 {κ : Cx} {fin : Int32 → Mm → Prop} {L : Nat} {xs : Nat → Int32} (hc : Jc κ RL cL_law 9 12 601024 7293034 452) (he : EdZ κ cL_law 601024 7293034 id fin) (hsx : JX κ L xs) (hN : NcK κ) {cs ss : Nat} (h1 : cs + 8 ≤ 601024) (h2 : ss + 80 ≤ 7293034) {k : Mm → Option (Int32 × Mm)} (x1 x2 x3 : Nat) (x4 : Int32) (hk : Jg κ (wM κ) 9 fin (cs + 8) (ss + 80) 2172 [some ((23, .ref (SB + 400)) : TV), some ((7, .ref x1) : TV), some ((8, .ref x2) : TV), some ((12, .ref x3) : TV), some ((0, .int x4) : TV), none, none, none, none] [] k) : Jg κ (wM κ) 9 fin cs ss 615 [some ((23, .ref (SB + 400)) : TV), some ((7, .ref x1) : TV), some ((8, .ref x2) : TV), some ((12, .ref x3) : TV), some ((0, .int x4) : TV), none, none, none, none] [] (fL_c9 L xs k x1 x2 x3 x4) := by
  unfold fL_c9
  refine J_aload_n (pc := 615) hc dL_law_615 rfl rfl ?_
  refine J_aload_n (pc := 616) hc dL_law_616 rfl rfl ?_
  refine J_iload (pc := 617) hc dL_law_617 rfl ?_
  refine J_iconst (pc := 619) (v := 1) hc dL_law_619 (by decide) ?_
  refine J_iadd (pc := 620) hc dL_law_620 ?_
  refine J_sald (pc := 621) hc hsx dL_law_621 ?_
  refine J_aload_n (pc := 622) hc dL_law_622 rfl rfl ?_
  refine J_iload (pc := 623) hc dL_law_623 rfl ?_
  refine J_iconst (pc := 625) (v := 2) hc dL_law_625 (by decide) ?_
  refine J_iadd (pc := 626) hc dL_law_626 ?_
  refine J_sald (pc := 627) hc hsx dL_law_627 ?_
  refine J_aload_n (pc := 628) hc dL_law_628 rfl rfl ?_
  refine J_iload (pc := 629) hc dL_law_629 rfl ?_
  refine J_iconst (pc := 631) (v := 3) hc dL_law_631 (by decide) ?_
  refine J_iadd (pc := 632) hc dL_law_632 ?_
  refine J_sald (pc := 633) hc hsx dL_law_633 ?_
  refine J_aload_n (pc := 634) hc dL_law_634 rfl rfl ?_
  refine J_callSW (pc := 635) hc hN (As := [((7, .ref x1) : TV), ((0, .int (xs ((x4 + 1)).toNatClampNeg)) : TV), ((0, .int (xs ((x4 + 2)).toNatClampNeg)) : TV), ((0, .int (xs ((x4 + 3)).toNatClampNeg)) : TV), ((12, .ref x3) : TV)]) (KL_mode x1 (xs ((x4 + 1)).toNatClampNeg) (xs ((x4 + 2)).toNatClampNeg) (xs ((x4 + 3)).toNatClampNeg) x3) dL_law_635 moL_mode tw896 tw897 tw0 tw898 rfl (Nat.le_of_ble_eq_true rfl) (Nat.le_of_ble_eq_true rfl) (by omega) (by omega) (Nat.le_of_ble_eq_true rfl) rfl (fun v1 => ?_)
  refine J_istore (pc := 638) (l' := [some ((23, .ref (SB + 400)) : TV), some ((7, .ref x1) : TV), some ((8, .ref x2) : TV), some ((12, .ref x3) : TV), some ((0, .int x4) : TV), some ((0, .int v1) : TV), none, none, none]) hc dL_law_638 (by decide) rfl rfl ?_
  refine J_aload_n (pc := 640) hc dL_law_640 rfl rfl ?_
  refine J_aload_n (pc := 641) hc dL_law_641 rfl rfl ?_
  refine J_iload (pc := 642) hc dL_law_642 rfl ?_
  refine J_iconst (pc := 644) (v := 1) hc dL_law_644 (by decide) ?_
  refine J_iadd (pc := 645) hc dL_law_645 ?_
  refine J_sald (pc := 646) hc hsx dL_law_646 ?_
  refine J_aload_n (pc := 647) hc dL_law_647 rfl rfl ?_
  refine J_iload (pc := 648) hc dL_law_648 rfl ?_
  refine J_iconst (pc := 650) (v := 2) hc dL_law_650 (by decide) ?_
  refine J_iadd (pc := 651) hc dL_law_651 ?_
  refine J_sald (pc := 652) hc hsx dL_law_652 ?_
  refine J_aload_n (pc := 653) hc dL_law_653 rfl rfl ?_
  refine J_iload (pc := 654) hc dL_law_654 rfl ?_
  refine J_iconst (pc := 656) (v := 3) hc dL_law_656 (by decide) ?_
  refine J_iadd (pc := 657) hc dL_law_657 ?_
  refine J_sald (pc := 658) hc hsx dL_law_658 ?_
  refine J_callVi (pc := 659) hc clX8 (As := [((0, .int (xs ((x4 + 1)).toNatClampNeg)) : TV), ((0, .int (xs ((x4 + 2)).toNatClampNeg)) : TV), ((0, .int (xs ((x4 + 3)).toNatClampNeg)) : TV)]) (KX8_mode x2 (xs ((x4 + 1)).toNatClampNeg) (xs ((x4 + 2)).toNatClampNeg) (xs ((x4 + 3)).toNatClampNeg)) dL_law_659 moX8_mode rfl tw1414 tw1415 tw1416 tw9 tw1417 rfl (Nat.le_of_ble_eq_true rfl) (Nat.le_of_ble_eq_true rfl) (by omega) (by omega) (Nat.le_of_ble_eq_true rfl) rfl (fun v2 => ?_)
  refine J_istore (pc := 662) (l' := [some ((23, .ref (SB + 400)) : TV), some ((7, .ref x1) : TV), some ((8, .ref x2) : TV), some ((12, .ref x3) : TV), some ((0, .int x4) : TV), some ((0, .int v1) : TV), some ((0, .int v2) : TV), none, none]) hc dL_law_662 (by decide) rfl rfl ?_
  refine J_aload_n (pc := 664) hc dL_law_664 rfl rfl ?_
  refine J_callVi (pc := 665) hc clX8 (As := []) (KX8_thrown x2) dL_law_665 moX8_thrown rfl tw1290 tw1291 tw1292 tw9 tw1293 rfl (Nat.le_of_ble_eq_true rfl) (Nat.le_of_ble_eq_true rfl) (by omega) (by omega) (Nat.le_of_ble_eq_true rfl) rfl (fun v3 => ?_)
  refine J_iload (pc := 668) hc dL_law_668 rfl ?_
  refine J_icmp_eq (pc := 670) (tgt := 675) hc dL_law_670 (by decide) ?_ ?_
  · refine J_iload (pc := 675) hc dL_law_675 rfl ?_
    refine J_if_ne (pc := 677) (tgt := 692) hc dL_law_677 (by decide) ?_ ?_
    · refine J_goto (pc := 692) (tgt := 2172) hc dL_law_692 (by decide) ?_
      refine J_widen (k := cs + 8) (n := ss + 80) (by omega) (by omega) ?_
      refine J_sub (l' := [some ((23, .ref (SB + 400)) : TV), some ((7, .ref x1) : TV), some ((8, .ref x2) : TV), some ((12, .ref x3) : TV), some ((0, .int x4) : TV), none, none, none, none]) ⟨rfl, ⟨rfl, ⟨rfl, ⟨rfl, ⟨rfl, trivial⟩⟩⟩⟩⟩ ?_
      exact hk
    · refine J_aload_n (pc := 680) hc dL_law_680 rfl rfl ?_
      refine J_iconst (pc := 681) (v := 0) hc dL_law_681 (by decide) ?_
      refine J_lald (pc := 682) hc dL_law_682 (fun v4 => ?_)
      refine J_iload (pc := 683) hc dL_law_683 rfl ?_
      refine J_i2l (pc := 685) hc dL_law_685 ?_
      refine J_lcmp (pc := 686) hc dL_law_686 ?_
      refine J_if_eq (pc := 687) (tgt := 692) hc dL_law_687 (by decide) ?_ ?_
      · refine J_goto (pc := 692) (tgt := 2172) hc dL_law_692 (by decide) ?_
        refine J_widen (k := cs + 8) (n := ss + 80) (by omega) (by omega) ?_
        refine J_sub (l' := [some ((23, .ref (SB + 400)) : TV), some ((7, .ref x1) : TV), some ((8, .ref x2) : TV), some ((12, .ref x3) : TV), some ((0, .int x4) : TV), none, none, none, none]) ⟨rfl, ⟨rfl, ⟨rfl, ⟨rfl, ⟨rfl, trivial⟩⟩⟩⟩⟩ ?_
        exact hk
      · refine J_iconst (pc := 690) (v := 0) hc dL_law_690 (by decide) ?_
        refine J_widen (k := 601024) (n := 7293034) (by omega) (by omega) ?_
        exact J_zret (pc := 691) he dL_law_691
  · refine J_iconst (pc := 673) (v := 0) hc dL_law_673 (by decide) ?_
    refine J_widen (k := 601024) (n := 7293034) (by omega) (by omega) ?_
    exact J_zret (pc := 674) he dL_law_674
set_option maxRecDepth 100000 in
set_option maxHeartbeats 8000000 in
theorem jL_c10 {κ : Cx} {fin : Int32 → Mm → Prop} {L : Nat} {xs : Nat → Int32} (hc : Jc κ RL cL_law 9 12 601024 7293034 452) (he : EdZ κ cL_law 601024 7293034 id fin) (hsx : JX κ L xs) (hN : NcK κ) {cs ss : Nat} (h1 : cs + 8 ≤ 601024) (h2 : ss + 80 ≤ 7293034) {k : Mm → Option (Int32 × Mm)} (x1 x2 x3 : Nat) (x4 : Int32) (hk : Jg κ (wM κ) 9 fin (cs + 8) (ss + 80) 2172 [some ((23, .ref (SB + 400)) : TV), some ((7, .ref x1) : TV), some ((8, .ref x2) : TV), some ((12, .ref x3) : TV), some ((0, .int x4) : TV), none, none, none, none] [] k) : Jg κ (wM κ) 9 fin cs ss 695 [some ((23, .ref (SB + 400)) : TV), some ((7, .ref x1) : TV), some ((8, .ref x2) : TV), some ((12, .ref x3) : TV), some ((0, .int x4) : TV), none, none, none, none] [] (fL_c10 L xs k x1 x2 x3 x4) := by
  unfold fL_c10
  refine J_aload_n (pc := 695) hc dL_law_695 rfl rfl ?_
  refine J_aload_n (pc := 696) hc dL_law_696 rfl rfl ?_
  refine J_iload (pc := 697) hc dL_law_697 rfl ?_
  refine J_iconst (pc := 699) (v := 1) hc dL_law_699 (by decide) ?_
  refine J_iadd (pc := 700) hc dL_law_700 ?_
  refine J_sald (pc := 701) hc hsx dL_law_701 ?_
  refine J_aload_n (pc := 702) hc dL_law_702 rfl rfl ?_
  refine J_iload (pc := 703) hc dL_law_703 rfl ?_
  refine J_iconst (pc := 705) (v := 2) hc dL_law_705 (by decide) ?_
  refine J_iadd (pc := 706) hc dL_law_706 ?_
  refine J_sald (pc := 707) hc hsx dL_law_707 ?_
  refine J_aload_n (pc := 708) hc dL_law_708 rfl rfl ?_
  refine J_callSW (pc := 709) hc hN (As := [((7, .ref x1) : TV), ((0, .int (xs ((x4 + 1)).toNatClampNeg)) : TV), ((0, .int (xs ((x4 + 2)).toNatClampNeg)) : TV), ((12, .ref x3) : TV)]) (KL_change x1 (xs ((x4 + 1)).toNatClampNeg) (xs ((x4 + 2)).toNatClampNeg) x3) dL_law_709 moL_change tw907 tw908 tw0 tw909 rfl (Nat.le_of_ble_eq_true rfl) (Nat.le_of_ble_eq_true rfl) (by omega) (by omega) (Nat.le_of_ble_eq_true rfl) rfl (fun v1 => ?_)
  refine J_istore (pc := 712) (l' := [some ((23, .ref (SB + 400)) : TV), some ((7, .ref x1) : TV), some ((8, .ref x2) : TV), some ((12, .ref x3) : TV), some ((0, .int x4) : TV), some ((0, .int v1) : TV), none, none, none]) hc dL_law_712 (by decide) rfl rfl ?_
  refine J_aload_n (pc := 714) hc dL_law_714 rfl rfl ?_
  refine J_aload_n (pc := 715) hc dL_law_715 rfl rfl ?_
  refine J_iload (pc := 716) hc dL_law_716 rfl ?_
  refine J_iconst (pc := 718) (v := 1) hc dL_law_718 (by decide) ?_
  refine J_iadd (pc := 719) hc dL_law_719 ?_
  refine J_sald (pc := 720) hc hsx dL_law_720 ?_
  refine J_aload_n (pc := 721) hc dL_law_721 rfl rfl ?_
  refine J_iload (pc := 722) hc dL_law_722 rfl ?_
  refine J_iconst (pc := 724) (v := 2) hc dL_law_724 (by decide) ?_
  refine J_iadd (pc := 725) hc dL_law_725 ?_
  refine J_sald (pc := 726) hc hsx dL_law_726 ?_
  refine J_callVi (pc := 727) hc clX8 (As := [((0, .int (xs ((x4 + 1)).toNatClampNeg)) : TV), ((0, .int (xs ((x4 + 2)).toNatClampNeg)) : TV)]) (KX8_change x2 (xs ((x4 + 1)).toNatClampNeg) (xs ((x4 + 2)).toNatClampNeg)) dL_law_727 moX8_change rfl tw1418 tw1419 tw1420 tw9 tw1421 rfl (Nat.le_of_ble_eq_true rfl) (Nat.le_of_ble_eq_true rfl) (by omega) (by omega) (Nat.le_of_ble_eq_true rfl) rfl (fun v2 => ?_)
  refine J_istore (pc := 730) (l' := [some ((23, .ref (SB + 400)) : TV), some ((7, .ref x1) : TV), some ((8, .ref x2) : TV), some ((12, .ref x3) : TV), some ((0, .int x4) : TV), some ((0, .int v1) : TV), some ((0, .int v2) : TV), none, none]) hc dL_law_730 (by decide) rfl rfl ?_
  refine J_aload_n (pc := 732) hc dL_law_732 rfl rfl ?_
  refine J_callVi (pc := 733) hc clX8 (As := []) (KX8_thrown x2) dL_law_733 moX8_thrown rfl tw1290 tw1291 tw1292 tw9 tw1293 rfl (Nat.le_of_ble_eq_true rfl) (Nat.le_of_ble_eq_true rfl) (by omega) (by omega) (Nat.le_of_ble_eq_true rfl) rfl (fun v3 => ?_)
  refine J_iload (pc := 736) hc dL_law_736 rfl ?_
  refine J_icmp_eq (pc := 738) (tgt := 743) hc dL_law_738 (by decide) ?_ ?_
  · refine J_iload (pc := 743) hc dL_law_743 rfl ?_
    refine J_if_ne (pc := 745) (tgt := 760) hc dL_law_745 (by decide) ?_ ?_
    · refine J_goto (pc := 760) (tgt := 2172) hc dL_law_760 (by decide) ?_
      refine J_widen (k := cs + 8) (n := ss + 80) (by omega) (by omega) ?_
      refine J_sub (l' := [some ((23, .ref (SB + 400)) : TV), some ((7, .ref x1) : TV), some ((8, .ref x2) : TV), some ((12, .ref x3) : TV), some ((0, .int x4) : TV), none, none, none, none]) ⟨rfl, ⟨rfl, ⟨rfl, ⟨rfl, ⟨rfl, trivial⟩⟩⟩⟩⟩ ?_
      exact hk
    · refine J_aload_n (pc := 748) hc dL_law_748 rfl rfl ?_
      refine J_iconst (pc := 749) (v := 0) hc dL_law_749 (by decide) ?_
      refine J_lald (pc := 750) hc dL_law_750 (fun v4 => ?_)
      refine J_iload (pc := 751) hc dL_law_751 rfl ?_
      refine J_i2l (pc := 753) hc dL_law_753 ?_
      refine J_lcmp (pc := 754) hc dL_law_754 ?_
      refine J_if_eq (pc := 755) (tgt := 760) hc dL_law_755 (by decide) ?_ ?_
      · refine J_goto (pc := 760) (tgt := 2172) hc dL_law_760 (by decide) ?_
        refine J_widen (k := cs + 8) (n := ss + 80) (by omega) (by omega) ?_
        refine J_sub (l' := [some ((23, .ref (SB + 400)) : TV), some ((7, .ref x1) : TV), some ((8, .ref x2) : TV), some ((12, .ref x3) : TV), some ((0, .int x4) : TV), none, none, none, none]) ⟨rfl, ⟨rfl, ⟨rfl, ⟨rfl, ⟨rfl, trivial⟩⟩⟩⟩⟩ ?_
        exact hk
      · refine J_iconst (pc := 758) (v := 0) hc dL_law_758 (by decide) ?_
        refine J_widen (k := 601024) (n := 7293034) (by omega) (by omega) ?_
        exact J_zret (pc := 759) he dL_law_759
  · refine J_iconst (pc := 741) (v := 0) hc dL_law_741 (by decide) ?_
    refine J_widen (k := 601024) (n := 7293034) (by omega) (by omega) ?_
    exact J_zret (pc := 742) he dL_law_742
set_option maxRecDepth 100000 in
set_option maxHeartbeats 8000000 in
theorem jL_c11 {κ : Cx} {fin : Int32 → Mm → Prop} {L : Nat} {xs : Nat → Int32} (hc : Jc κ RL cL_law 9 12 601024 7293034 452) (he : EdZ κ cL_law 601024 7293034 id fin) (hsx : JX κ L xs) (hN : NcK κ) {cs ss : Nat} (h1 : cs + 8 ≤ 601024) (h2 : ss + 80 ≤ 7293034) {k : Mm → Option (Int32 × Mm)} (x1 x2 x3 : Nat) (x4 : Int32) (hk : Jg κ (wM κ) 9 fin (cs + 8) (ss + 80) 2172 [some ((23, .ref (SB + 400)) : TV), some ((7, .ref x1) : TV), some ((8, .ref x2) : TV), some ((12, .ref x3) : TV), some ((0, .int x4) : TV), none, none, none, none] [] k) : Jg κ (wM κ) 9 fin cs ss 763 [some ((23, .ref (SB + 400)) : TV), some ((7, .ref x1) : TV), some ((8, .ref x2) : TV), some ((12, .ref x3) : TV), some ((0, .int x4) : TV), none, none, none, none] [] (fL_c11 L xs k x1 x2 x3 x4) := by
  unfold fL_c11
  refine J_aload_n (pc := 763) hc dL_law_763 rfl rfl ?_
  refine J_aload_n (pc := 764) hc dL_law_764 rfl rfl ?_
  refine J_iload (pc := 765) hc dL_law_765 rfl ?_
  refine J_iconst (pc := 767) (v := 1) hc dL_law_767 (by decide) ?_
  refine J_iadd (pc := 768) hc dL_law_768 ?_
  refine J_sald (pc := 769) hc hsx dL_law_769 ?_
  refine J_aload_n (pc := 770) hc dL_law_770 rfl rfl ?_
  refine J_callSW (pc := 771) hc hN (As := [((7, .ref x1) : TV), ((0, .int (xs ((x4 + 1)).toNatClampNeg)) : TV), ((12, .ref x3) : TV)]) (KL_longest x1 (xs ((x4 + 1)).toNatClampNeg) x3) dL_law_771 moL_longest tw914 tw915 tw0 tw916 rfl (Nat.le_of_ble_eq_true rfl) (Nat.le_of_ble_eq_true rfl) (by omega) (by omega) (Nat.le_of_ble_eq_true rfl) rfl (fun v1 => ?_)
  refine J_istore (pc := 774) (l' := [some ((23, .ref (SB + 400)) : TV), some ((7, .ref x1) : TV), some ((8, .ref x2) : TV), some ((12, .ref x3) : TV), some ((0, .int x4) : TV), some ((0, .int v1) : TV), none, none, none]) hc dL_law_774 (by decide) rfl rfl ?_
  refine J_aload_n (pc := 776) hc dL_law_776 rfl rfl ?_
  refine J_aload_n (pc := 777) hc dL_law_777 rfl rfl ?_
  refine J_iload (pc := 778) hc dL_law_778 rfl ?_
  refine J_iconst (pc := 780) (v := 1) hc dL_law_780 (by decide) ?_
  refine J_iadd (pc := 781) hc dL_law_781 ?_
  refine J_sald (pc := 782) hc hsx dL_law_782 ?_
  refine J_callVi (pc := 783) hc clX8 (As := [((0, .int (xs ((x4 + 1)).toNatClampNeg)) : TV)]) (KX8_longest x2 (xs ((x4 + 1)).toNatClampNeg)) dL_law_783 moX8_longest rfl tw1422 tw1423 tw1424 tw9 tw1425 rfl (Nat.le_of_ble_eq_true rfl) (Nat.le_of_ble_eq_true rfl) (by omega) (by omega) (Nat.le_of_ble_eq_true rfl) rfl (fun v2 => ?_)
  refine J_istore (pc := 786) (l' := [some ((23, .ref (SB + 400)) : TV), some ((7, .ref x1) : TV), some ((8, .ref x2) : TV), some ((12, .ref x3) : TV), some ((0, .int x4) : TV), some ((0, .int v1) : TV), some ((0, .int v2) : TV), none, none]) hc dL_law_786 (by decide) rfl rfl ?_
  refine J_aload_n (pc := 788) hc dL_law_788 rfl rfl ?_
  refine J_callVi (pc := 789) hc clX8 (As := []) (KX8_thrown x2) dL_law_789 moX8_thrown rfl tw1290 tw1291 tw1292 tw9 tw1293 rfl (Nat.le_of_ble_eq_true rfl) (Nat.le_of_ble_eq_true rfl) (by omega) (by omega) (Nat.le_of_ble_eq_true rfl) rfl (fun v3 => ?_)
  refine J_iload (pc := 792) hc dL_law_792 rfl ?_
  refine J_icmp_eq (pc := 794) (tgt := 799) hc dL_law_794 (by decide) ?_ ?_
  · refine J_iload (pc := 799) hc dL_law_799 rfl ?_
    refine J_if_ne (pc := 801) (tgt := 816) hc dL_law_801 (by decide) ?_ ?_
    · refine J_goto (pc := 816) (tgt := 2172) hc dL_law_816 (by decide) ?_
      refine J_widen (k := cs + 8) (n := ss + 80) (by omega) (by omega) ?_
      refine J_sub (l' := [some ((23, .ref (SB + 400)) : TV), some ((7, .ref x1) : TV), some ((8, .ref x2) : TV), some ((12, .ref x3) : TV), some ((0, .int x4) : TV), none, none, none, none]) ⟨rfl, ⟨rfl, ⟨rfl, ⟨rfl, ⟨rfl, trivial⟩⟩⟩⟩⟩ ?_
      exact hk
    · refine J_aload_n (pc := 804) hc dL_law_804 rfl rfl ?_
      refine J_iconst (pc := 805) (v := 0) hc dL_law_805 (by decide) ?_
      refine J_lald (pc := 806) hc dL_law_806 (fun v4 => ?_)
      refine J_iload (pc := 807) hc dL_law_807 rfl ?_
      refine J_i2l (pc := 809) hc dL_law_809 ?_
      refine J_lcmp (pc := 810) hc dL_law_810 ?_
      refine J_if_eq (pc := 811) (tgt := 816) hc dL_law_811 (by decide) ?_ ?_
      · refine J_goto (pc := 816) (tgt := 2172) hc dL_law_816 (by decide) ?_
        refine J_widen (k := cs + 8) (n := ss + 80) (by omega) (by omega) ?_
        refine J_sub (l' := [some ((23, .ref (SB + 400)) : TV), some ((7, .ref x1) : TV), some ((8, .ref x2) : TV), some ((12, .ref x3) : TV), some ((0, .int x4) : TV), none, none, none, none]) ⟨rfl, ⟨rfl, ⟨rfl, ⟨rfl, ⟨rfl, trivial⟩⟩⟩⟩⟩ ?_
        exact hk
      · refine J_iconst (pc := 814) (v := 0) hc dL_law_814 (by decide) ?_
        refine J_widen (k := 601024) (n := 7293034) (by omega) (by omega) ?_
        exact J_zret (pc := 815) he dL_law_815
  · refine J_iconst (pc := 797) (v := 0) hc dL_law_797 (by decide) ?_
    refine J_widen (k := 601024) (n := 7293034) (by omega) (by omega) ?_
    exact J_zret (pc := 798) he dL_law_798
set_option maxRecDepth 100000 in
set_option maxHeartbeats 8000000 in
theorem jL_c12 {κ : Cx} {fin : Int32 → Mm → Prop} {L : Nat} {xs : Nat → Int32} (hc : Jc κ RL cL_law 9 12 601024 7293034 452) (he : EdZ κ cL_law 601024 7293034 id fin) (hsx : JX κ L xs) (hN : NcK κ) {cs ss : Nat} (h1 : cs + 8 ≤ 601024) (h2 : ss + 80 ≤ 7293034) {k : Mm → Option (Int32 × Mm)} (x1 x2 x3 : Nat) (x4 : Int32) (hk : Jg κ (wM κ) 9 fin (cs + 8) (ss + 80) 2172 [some ((23, .ref (SB + 400)) : TV), some ((7, .ref x1) : TV), some ((8, .ref x2) : TV), some ((12, .ref x3) : TV), some ((0, .int x4) : TV), none, none, none, none] [] k) : Jg κ (wM κ) 9 fin cs ss 819 [some ((23, .ref (SB + 400)) : TV), some ((7, .ref x1) : TV), some ((8, .ref x2) : TV), some ((12, .ref x3) : TV), some ((0, .int x4) : TV), none, none, none, none] [] (fL_c12 L xs k x1 x2 x3 x4) := by
  unfold fL_c12
  refine J_aload_n (pc := 819) hc dL_law_819 rfl rfl ?_
  refine J_aload_n (pc := 820) hc dL_law_820 rfl rfl ?_
  refine J_iload (pc := 821) hc dL_law_821 rfl ?_
  refine J_iconst (pc := 823) (v := 1) hc dL_law_823 (by decide) ?_
  refine J_iadd (pc := 824) hc dL_law_824 ?_
  refine J_sald (pc := 825) hc hsx dL_law_825 ?_
  refine J_aload_n (pc := 826) hc dL_law_826 rfl rfl ?_
  refine J_iload (pc := 827) hc dL_law_827 rfl ?_
  refine J_iconst (pc := 829) (v := 2) hc dL_law_829 (by decide) ?_
  refine J_iadd (pc := 830) hc dL_law_830 ?_
  refine J_sald (pc := 831) hc hsx dL_law_831 ?_
  refine J_aload_n (pc := 832) hc dL_law_832 rfl rfl ?_
  refine J_callSW (pc := 833) hc hN (As := [((7, .ref x1) : TV), ((0, .int (xs ((x4 + 1)).toNatClampNeg)) : TV), ((0, .int (xs ((x4 + 2)).toNatClampNeg)) : TV), ((12, .ref x3) : TV)]) (KL_runsOf x1 (xs ((x4 + 1)).toNatClampNeg) (xs ((x4 + 2)).toNatClampNeg) x3) dL_law_833 moL_runsOf tw932 tw933 tw0 tw934 rfl (Nat.le_of_ble_eq_true rfl) (Nat.le_of_ble_eq_true rfl) (by omega) (by omega) (Nat.le_of_ble_eq_true rfl) rfl (fun v1 => ?_)
  refine J_istore (pc := 836) (l' := [some ((23, .ref (SB + 400)) : TV), some ((7, .ref x1) : TV), some ((8, .ref x2) : TV), some ((12, .ref x3) : TV), some ((0, .int x4) : TV), some ((0, .int v1) : TV), none, none, none]) hc dL_law_836 (by decide) rfl rfl ?_
  refine J_aload_n (pc := 838) hc dL_law_838 rfl rfl ?_
  refine J_aload_n (pc := 839) hc dL_law_839 rfl rfl ?_
  refine J_iload (pc := 840) hc dL_law_840 rfl ?_
  refine J_iconst (pc := 842) (v := 1) hc dL_law_842 (by decide) ?_
  refine J_iadd (pc := 843) hc dL_law_843 ?_
  refine J_sald (pc := 844) hc hsx dL_law_844 ?_
  refine J_aload_n (pc := 845) hc dL_law_845 rfl rfl ?_
  refine J_iload (pc := 846) hc dL_law_846 rfl ?_
  refine J_iconst (pc := 848) (v := 2) hc dL_law_848 (by decide) ?_
  refine J_iadd (pc := 849) hc dL_law_849 ?_
  refine J_sald (pc := 850) hc hsx dL_law_850 ?_
  refine J_callVi (pc := 851) hc clX8 (As := [((0, .int (xs ((x4 + 1)).toNatClampNeg)) : TV), ((0, .int (xs ((x4 + 2)).toNatClampNeg)) : TV)]) (KX8_runsOf x2 (xs ((x4 + 1)).toNatClampNeg) (xs ((x4 + 2)).toNatClampNeg)) dL_law_851 moX8_runsOf rfl tw1430 tw1431 tw1432 tw9 tw1433 rfl (Nat.le_of_ble_eq_true rfl) (Nat.le_of_ble_eq_true rfl) (by omega) (by omega) (Nat.le_of_ble_eq_true rfl) rfl (fun v2 => ?_)
  refine J_istore (pc := 854) (l' := [some ((23, .ref (SB + 400)) : TV), some ((7, .ref x1) : TV), some ((8, .ref x2) : TV), some ((12, .ref x3) : TV), some ((0, .int x4) : TV), some ((0, .int v1) : TV), some ((0, .int v2) : TV), none, none]) hc dL_law_854 (by decide) rfl rfl ?_
  refine J_aload_n (pc := 856) hc dL_law_856 rfl rfl ?_
  refine J_callVi (pc := 857) hc clX8 (As := []) (KX8_thrown x2) dL_law_857 moX8_thrown rfl tw1290 tw1291 tw1292 tw9 tw1293 rfl (Nat.le_of_ble_eq_true rfl) (Nat.le_of_ble_eq_true rfl) (by omega) (by omega) (Nat.le_of_ble_eq_true rfl) rfl (fun v3 => ?_)
  refine J_iload (pc := 860) hc dL_law_860 rfl ?_
  refine J_icmp_eq (pc := 862) (tgt := 867) hc dL_law_862 (by decide) ?_ ?_
  · refine J_iload (pc := 867) hc dL_law_867 rfl ?_
    refine J_if_ne (pc := 869) (tgt := 884) hc dL_law_869 (by decide) ?_ ?_
    · refine J_goto (pc := 884) (tgt := 2172) hc dL_law_884 (by decide) ?_
      refine J_widen (k := cs + 8) (n := ss + 80) (by omega) (by omega) ?_
      refine J_sub (l' := [some ((23, .ref (SB + 400)) : TV), some ((7, .ref x1) : TV), some ((8, .ref x2) : TV), some ((12, .ref x3) : TV), some ((0, .int x4) : TV), none, none, none, none]) ⟨rfl, ⟨rfl, ⟨rfl, ⟨rfl, ⟨rfl, trivial⟩⟩⟩⟩⟩ ?_
      exact hk
    · refine J_aload_n (pc := 872) hc dL_law_872 rfl rfl ?_
      refine J_iconst (pc := 873) (v := 0) hc dL_law_873 (by decide) ?_
      refine J_lald (pc := 874) hc dL_law_874 (fun v4 => ?_)
      refine J_iload (pc := 875) hc dL_law_875 rfl ?_
      refine J_i2l (pc := 877) hc dL_law_877 ?_
      refine J_lcmp (pc := 878) hc dL_law_878 ?_
      refine J_if_eq (pc := 879) (tgt := 884) hc dL_law_879 (by decide) ?_ ?_
      · refine J_goto (pc := 884) (tgt := 2172) hc dL_law_884 (by decide) ?_
        refine J_widen (k := cs + 8) (n := ss + 80) (by omega) (by omega) ?_
        refine J_sub (l' := [some ((23, .ref (SB + 400)) : TV), some ((7, .ref x1) : TV), some ((8, .ref x2) : TV), some ((12, .ref x3) : TV), some ((0, .int x4) : TV), none, none, none, none]) ⟨rfl, ⟨rfl, ⟨rfl, ⟨rfl, ⟨rfl, trivial⟩⟩⟩⟩⟩ ?_
        exact hk
      · refine J_iconst (pc := 882) (v := 0) hc dL_law_882 (by decide) ?_
        refine J_widen (k := 601024) (n := 7293034) (by omega) (by omega) ?_
        exact J_zret (pc := 883) he dL_law_883
  · refine J_iconst (pc := 865) (v := 0) hc dL_law_865 (by decide) ?_
    refine J_widen (k := 601024) (n := 7293034) (by omega) (by omega) ?_
    exact J_zret (pc := 866) he dL_law_866
