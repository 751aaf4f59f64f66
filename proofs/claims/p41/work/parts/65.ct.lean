/-! THE CLASS: one sending, a page's sendings -/
section CSend2
variable {M : Mm} {P : Pg} {T lo : Nat → Nat} {s : Sn} {l : Nat}
theorem up_rowJ {M : Mm} {a j : Nat} {g : Nat → Nat} {v : Nat} (h : ∀ i, i < 20 → Mj M a i = lN (g i)) : ∀ i, i < 20 → Mj (sJ M a j (lN v)) a i = lN (updN g j v i) := by
  intro i hi
  rw [Mj_sJ]
  by_cases q : i = j
  · rw [if_pos ⟨rfl, q⟩, q, updN_s]
  · rw [if_neg (fun z => q z.2), updN_n q]; exact h i hi
/-- not read: a step back, or what is filled in -/
theorem cFail (hM : CO M) (hP : isPgC M 1 P) (hw : wfP (pT P T)) (hT : tOk P T) (pr : isPr M P T lo) (hs : cSn M s) (hl : l < PL P) (hp9 : zP s ≤ 9) (lost : Bool) : Rn (fX5_sendOne_L201 22 1 (nI l) (nI (bN lost))) M (fun a M' => XF xSw M M' ∧ a = nI (if zP s < T 3 then (zStep (pT P T) l s, mkU (pT P T) l) else (zFill (pT P T) l (if lost = true then 1 else 2) s, l + 1)).2 ∧ cSn M' (if zP s < T 3 then (zStep (pT P T) l s, mkU (pT P T) l) else (zFill (pT P T) l (if lost = true then 1 else 2) s, l + 1)).1) := by
  have h20 : PL P ≤ 20 := hw.2.2.1
  have t3 : T 3 ≤ 9 := hw.2.2.2.2.2.2.2.2.1
  have t2 : T 2 ≤ 1 := hw.2.2.2.2.2.2.2.1
  obtain ⟨s1, s2, s3, s4, s5, s6, s7, s8, s9, s10⟩ := id hs
  unfold fX5_sendOne_L201
  rw [Rn_bnd, Rn_gI, s8, Rn_bnd, Rn_gI, pr.2.1]
  refine Rn_cs (nle (by omega) (by omega)) (fun g => ?_) (fun g => ?_)
  · rw [if_neg (by omega), Rn_bnd, cA22_7 hM, Rn_bnd, cA1_4 hM, Rn_bnd, nL2, rn_lI (by omega), cL4 hM, hP.2.2.2.2 2 (by omega), ← hT.2.1]
    refine ⟨by omega, ?_⟩
    have key : ∀ v, v = (if T 2 = 1 then 0 else rowAb s l) → Rn (fX5_sendOne_L242 22 (nI l) (nI (bN lost)) (lN v) (nI l) 23) M (fun a M' => XF xSw M M' ∧ a = nI (l + 1) ∧ cSn M' (zFill (pT P T) l (if lost = true then 1 else 2) s)) := by
      rintro v rfl
      unfold fX5_sendOne_L242 fX5_sendOne_L258
      rw [Rn_bnd, rn_aJ (by omega), cL23 hM]
      refine ⟨by omega, ?_⟩
      have x1 : XF xSw M (sJ M 23 l (lN (if T 2 = 1 then 0 else rowAb s l))) := XF.rf.sJ rfl
      have b1 := up_rowJ (j := l) (v := if T 2 = 1 then 0 else rowAb s l) s1
      have mi : Mi (sJ M 23 l (lN (if T 2 = 1 then 0 else rowAb s l))) = Mi M := rfl
      generalize sJ M 23 l (lN (if T 2 = 1 then 0 else rowAb s l)) = M1 at x1 b1 mi
      have m1 := hM.xf x1
      rw [Rn_bnd, cA22_8 m1]
      have put : ∀ w, w = (if lost = true then 1 else 2) → Rn (bnd (aI 24 (nI l) (nI w)) fun _ => rtn (nI l + 1)) M1 (fun a M' => XF xSw M M' ∧ a = nI (l + 1) ∧ cSn M' (zFill (pT P T) l (if lost = true then 1 else 2) s)) := by
        rintro w rfl
        rw [Rn_bnd, rn_aI (by omega), cL24 m1, Rn_rtn, nL1, nI_add]
        refine ⟨by omega, x1.sI rfl, rfl, b1, up_row (fun i hi => by rw [mi]; exact s2 i hi), fun i hi => by rw [ne_row (by decide), mi]; exact s3 i hi, fun i hi => by rw [ne_row (by decide), mi]; exact s4 i hi, fun i hi => by rw [ne_row (by decide), mi]; exact s5 i hi, by rw [ne_row (by decide), mi]; exact s6, by rw [ne_row (by decide), mi]; exact s7, by rw [ne_row (by decide), mi]; exact s8, by rw [ne_row (by decide), mi]; exact s9, by rw [ne_row (by decide), mi]; exact s10⟩
      refine Rn_cs (bN_0 lost) (fun q => ?_) (fun q => ?_)
      · exact put 2 (by rw [q]; rfl)
      · exact put 1 (by rw [show lost = true by simpa using q]; rfl)
    refine Rn_cs (show nI (T 2) = 0 ↔ T 2 = 0 from neq (b := 0) (by omega) (by omega)) (fun q => ?_) (fun q => ?_)
    · rw [Rn_bnd, cRowAbove hM hs (by omega)]
      exact key _ (by rw [if_neg (by omega)])
    · exact key 0 (by rw [if_pos (by omega)])
  · rw [if_pos (by omega), Rn_bnd]
    refine (cStepBack hM hP hw hT pr hs hl).mono ?_
    rintro a M1 ⟨rfl, x1, c1⟩
    rw [Rn_rtn]; exact ⟨x1, rfl, c1⟩
theorem rdU_ne {w q : Nat} (h40 : w ≤ 40) (h : q < 2 ^ w) : ¬ lg_cmp (lN q) (-1) = 0 := by
  have : 2 ^ w ≤ 2 ^ 40 := pw_le h40
  rw [lg_cmp_eq, show (-1 : Int64) = lN (2 ^ 64 - 1) from by decide +kernel, lN_eq64 (by omega) (by decide)]
  omega
theorem cSendOne (hM : CO M) (hP : isPgC M 1 P) (hw : wfP (pT P T)) (hT : tOk P T) (hp : wfP P) (pr : isPr M P T lo) (hlo : ∀ i, i < 20 → lo i ≤ 5) (hs : cSn M s) (hk : zOk (pT P T) s l) (hl : l < PL P) : Rn (fX5_sendOne 22 1 (nI l)) M (fun a M' => XF xSw M M' ∧ a = nI (snd1 (pT P T) lo s l).2 ∧ cSn M' (snd1 (pT P T) lo s l).1) := by
  have h40 := hp.2.1
  have h20 := hp.2.2.1
  have p40 : 2 ^ Pw P ≤ 2 ^ 40 := pw_le h40
  have hr := hp.2.2.2.1 l hl
  have t3 : T 3 ≤ 9 := hw.2.2.2.2.2.2.2.2.1
  have zp9 : zP s ≤ 9 := Nat.le_trans hk.1 t3
  have zd : zD s ≤ 300 := by have := hk.2.2.1; omega
  have zt := hk.2.2.2.2.1
  have hll := hlo l (by omega)
  obtain ⟨s1, s2, s3, s4, s5, s6, s7, s8, s9, s10⟩ := id hs
  -- the counts
  have put : ∀ (al : Bool) (c : Nat), al = isMk (pT P T) l → c = sBt (pT P T) l → Rn (fX5_sendOne_L32 22 1 (nI l) (nI (bN al)) (nI c) (nI (T 4))) M (fun a M' => XF xSw M M' ∧ a = nI (snd1 (pT P T) lo s l).2 ∧ cSn M' (snd1 (pT P T) lo s l).1) := by
    intro al c hal hc
    have hz : T 4 + c = zCost (pT P T) l := by rw [hc]; rfl
    unfold fX5_sendOne_L32
    rw [Rn_bnd, Rn_rtn, nI_add, hz, Rn_bnd, Rn_gI, s7, Rn_bnd, Rn_pI, nL1, nI_add]
    have x1 : XF xSw M (sI M 22 3 (nI (zD s + 1))) := XF.rf.sI rfl
    have k1 : ∀ a b, ¬ (a = 22 ∧ b = 3) → Mi (sI M 22 3 (nI (zD s + 1))) a b = Mi M a b := fun a b z => by rw [Mi_sI, if_neg z]
    have v1 : Mi (sI M 22 3 (nI (zD s + 1))) 22 3 = nI (zD s + 1) := sI_self
    have j1 : Mj (sI M 22 3 (nI (zD s + 1))) = Mj M := rfl
    generalize sI M 22 3 (nI (zD s + 1)) = M1 at x1 k1 v1 j1
    have m1 := hM.xf x1
    rw [Rn_bnd, cA22_9 m1, Rn_bnd, rn_lI (by omega), cL25 m1, k1 _ _ (by omega), s3 l (by omega)]
    refine ⟨by omega, ?_⟩
    rw [Rn_bnd, rn_aI (by omega), cL25 m1, nI_add]
    refine ⟨by omega, ?_⟩
    have x2 : XF xSw M (sI M1 25 l (nI (zT s l + 1))) := x1.sI rfl
    have v2 := up_row (M := M1) (a := 25) (j := l) (v := zT s l + 1) (g := zT s) (fun i hi => by rw [k1 _ _ (by omega)]; exact s3 i hi)
    have k2 : ∀ a b, a ≠ 25 → Mi (sI M1 25 l (nI (zT s l + 1))) a b = Mi M1 a b := fun a b z => ne_row z b
    have j2 : Mj (sI M1 25 l (nI (zT s l + 1))) = Mj M := j1
    generalize sI M1 25 l (nI (zT s l + 1)) = M2 at x2 v2 k2 j2
    have m2 := hM.xf x2
    rw [Rn_bnd, cA22_10 m2, Rn_bnd, rn_lI (by omega), cL26 m2, k2 _ _ (by omega), k1 _ _ (by omega), s4 l (by omega)]
    refine ⟨by omega, ?_⟩
    rw [Rn_bnd, rn_aI (by omega), cL26 m2, nI_add]
    refine ⟨by omega, ?_⟩
    have x3 : XF xSw M (sI M2 26 l (nI (zC s l + zCost (pT P T) l))) := x2.sI rfl
    have v3 := up_row (M := M2) (a := 26) (j := l) (v := zC s l + zCost (pT P T) l) (g := zC s) (fun i hi => by rw [k2 _ _ (by omega), k1 _ _ (by omega)]; exact s4 i hi)
    have k3 : ∀ a b, a ≠ 26 → Mi (sI M2 26 l (nI (zC s l + zCost (pT P T) l))) a b = Mi M2 a b := fun a b z => ne_row z b
    have j3 : Mj (sI M2 26 l (nI (zC s l + zCost (pT P T) l))) = Mj M := j2
    generalize sI M2 26 l (nI (zC s l + zCost (pT P T) l)) = M3 at x3 v3 k3 j3
    rw [Rn_bnd, Rn_gI, k3 _ _ (by omega), k2 _ _ (by omega), k1 _ _ (by omega), s6, Rn_bnd, Rn_pI, nI_add]
    have x4 : XF xSw M (sI M3 22 2 (nI (zA s + zCost (pT P T) l))) := x3.sI rfl
    have e0 : ∀ a b, ¬ (a = 22 ∧ b = 2) → a ≠ 26 → a ≠ 25 → ¬ (a = 22 ∧ b = 3) → Mi (sI M3 22 2 (nI (zA s + zCost (pT P T) l))) a b = Mi M a b := fun a b z1 z2 z3 z4 => by rw [Mi_sI, if_neg z1, k3 _ _ z2, k2 _ _ z3, k1 _ _ z4]
    have c4 : cSn (sI M3 22 2 (nI (zA s + zCost (pT P T) l))) (zPut (pT P T) l s) := by
      refine ⟨fun i hi => by show Mj M3 23 i = _; rw [j3]; exact s1 i hi, fun i hi => by rw [e0 _ _ (by omega) (by omega) (by omega) (by omega)]; exact s2 i hi, fun i hi => by rw [ne_row (by decide), k3 _ _ (by omega)]; exact v2 i hi, fun i hi => by rw [ne_row (by decide)]; exact v3 i hi, fun i hi => by rw [e0 _ _ (by omega) (by omega) (by omega) (by omega)]; exact s5 i hi, sI_self, ?_, ?_, ?_, ?_⟩
      · rw [Mi_sI, if_neg (by omega), k3 _ _ (by omega), k2 _ _ (by omega)]; exact v1
      · rw [e0 _ _ (by omega) (by omega) (by omega) (by omega)]; exact s8
      · rw [e0 _ _ (by omega) (by omega) (by omega) (by omega)]; exact s9
      · rw [e0 _ _ (by omega) (by omega) (by omega) (by omega)]; exact s10
    generalize sI M3 22 2 (nI (zA s + zCost (pT P T) l)) = M4 at x4 c4
    have m4 := hM.xf x4
    have p4 := hP.xw x4
    have pr4 := pr.xw x4
    have tl : zT (zPut (pT P T) l s) l = zT s l + 1 := updN_s _ _ _
    have t25 : Mi M4 25 l = nI (zT s l + 1) := by rw [c4.2.2.1 l (by omega), tl]
    rw [Rn_bnd, cA22_9 m4, Rn_bnd, rn_lI (by omega), cL25 m4, t25]
    refine ⟨by omega, ?_⟩
    rw [Rn_bnd, cA22_12 m4, Rn_bnd, rn_lI (by omega), cL28 m4, pr4.2.2.1 l (by omega)]
    refine ⟨by omega, ?_⟩
    have ztl := zt l
    -- not read: counted, then a step back or a fill
    have failed : ∀ (lost : Bool), snd1 (pT P T) lo s l = zFail (pT P T) l (if lost = true then 1 else 2) (zPut (pT P T) l s) → ∀ M5, XF xSw M M5 → cSn M5 (zPut (pT P T) l s) → Rn (fX5_sendOne_L128 22 1 (nI l) (nI (bN lost)) (-1)) M5 (fun a M' => XF xSw M M' ∧ a = nI (snd1 (pT P T) lo s l).2 ∧ cSn M' (snd1 (pT P T) lo s l).1) := by
      intro lost hf M5 x5 c5
      have p5 := hP.xw x5
      have pr5 := pr.xw x5
      have m5 := hM.xf x5
      rw [hf]
      unfold zFail
      unfold fX5_sendOne_L128
      rw [if_pos (by decide)]
      obtain ⟨u1, u2, u3, u4, u5, u6, u7, u8, u9, u10⟩ := id c5
      have go : ∀ M6, XF xSw M M6 → cSn M6 (zMiss (if lost = true then 1 else 2) (zPut (pT P T) l s)) → Rn (fX5_sendOne_L201 22 1 (nI l) (nI (bN lost))) M6 (fun a M' => XF xSw M M' ∧ a = nI (if zP (zPut (pT P T) l s) < Pt (pT P T) 3 then (zStep (pT P T) l (zMiss (if lost = true then 1 else 2) (zPut (pT P T) l s)), mkU (pT P T) l) else (zFill (pT P T) l (if lost = true then 1 else 2) (zMiss (if lost = true then 1 else 2) (zPut (pT P T) l s)), l + 1)).2 ∧ cSn M' (if zP (zPut (pT P T) l s) < Pt (pT P T) 3 then (zStep (pT P T) l (zMiss (if lost = true then 1 else 2) (zPut (pT P T) l s)), mkU (pT P T) l) else (zFill (pT P T) l (if lost = true then 1 else 2) (zMiss (if lost = true then 1 else 2) (zPut (pT P T) l s)), l + 1)).1) := by
        intro M6 x6 c6
        refine (cFail (hM.xf x6) (hP.xw x6) hw hT (pr.xw x6) c6 hl (show zP s ≤ 9 from zp9) lost).mono ?_
        rintro a M7 ⟨x7, ha, c7⟩
        exact ⟨x6.tr x7, ha, c7⟩
      refine Rn_cs (bN_0 lost) (fun q => ?_) (fun q => ?_)
      · rw [Rn_bnd, Rn_gI, u10, Rn_bnd, Rn_pI, nL1, nI_add]
        refine go _ (x5.sI rfl) ?_
        rw [q]
        have o : ∀ a b, ¬ (a = 22 ∧ b = 6) → Mi (sI M5 22 6 (nI (zU (zPut (pT P T) l s) + 1))) a b = Mi M5 a b := fun a b z => by rw [Mi_sI, if_neg z]
        exact ⟨u1, fun i hi => by rw [o _ _ (by omega)]; exact u2 i hi, fun i hi => by rw [o _ _ (by omega)]; exact u3 i hi, fun i hi => by rw [o _ _ (by omega)]; exact u4 i hi, fun i hi => by rw [o _ _ (by omega)]; exact u5 i hi, by rw [o _ _ (by omega)]; exact u6, by rw [o _ _ (by omega)]; exact u7, by rw [o _ _ (by omega)]; exact u8, by rw [o _ _ (by omega)]; exact u9, sI_self⟩
      · have q : lost = true := by simpa using q
        rw [Rn_bnd, Rn_gI, u9, Rn_bnd, Rn_pI, nL1, nI_add]
        refine go _ (x5.sI rfl) ?_
        rw [q]
        have o : ∀ a b, ¬ (a = 22 ∧ b = 5) → Mi (sI M5 22 5 (nI (zL (zPut (pT P T) l s) + 1))) a b = Mi M5 a b := fun a b z => by rw [Mi_sI, if_neg z]
        exact ⟨u1, fun i hi => by rw [o _ _ (by omega)]; exact u2 i hi, fun i hi => by rw [o _ _ (by omega)]; exact u3 i hi, fun i hi => by rw [o _ _ (by omega)]; exact u4 i hi, fun i hi => by rw [o _ _ (by omega)]; exact u5 i hi, by rw [o _ _ (by omega)]; exact u6, by rw [o _ _ (by omega)]; exact u7, by rw [o _ _ (by omega)]; exact u8, sI_self, by rw [o _ _ (by omega)]; exact u10⟩
    -- read
    have got : ∀ (q : Nat), q < 2 ^ Pw P → snd1 (pT P T) lo s l = (zGot (pT P T) l q (zPut (pT P T) l s), l + 1) → ∀ M5, XF xSw M M5 → cSn M5 (zPut (pT P T) l s) → Rn (fX5_sendOne_L128 22 1 (nI l) (nI (bN false)) (lN q)) M5 (fun a M' => XF xSw M M' ∧ a = nI (snd1 (pT P T) lo s l).2 ∧ cSn M' (snd1 (pT P T) lo s l).1) := by
      intro q hq hf M5 x5 c5
      have m5 := hM.xf x5
      rw [hf]
      unfold fX5_sendOne_L128 fX5_sendOne_L168
      obtain ⟨u1, u2, u3, u4, u5, u6, u7, u8, u9, u10⟩ := c5
      rw [if_neg (rdU_ne h40 hq), Rn_bnd, cA22_7 m5, Rn_bnd, rn_aJ (by omega), cL23 m5]
      refine ⟨by omega, ?_⟩
      have x6 : XF xSw M (sJ M5 23 l (lN q)) := x5.sJ rfl
      have b6 := up_rowJ (j := l) (v := q) u1
      have mi : Mi (sJ M5 23 l (lN q)) = Mi M5 := rfl
      generalize sJ M5 23 l (lN q) = M6 at x6 b6 mi
      have m6 := hM.xf x6
      have p6 := hP.xw x6
      rw [Rn_bnd, cA22_8 m6, Rn_bnd, cRowL m6 p6 hp hl]
      have fin : ∀ v, v = (if q = Pr P l then 0 else 3) → Rn (bnd (aI 24 (nI l) (nI v)) fun _ => rtn (nI l + 1)) M6 (fun a M' => XF xSw M M' ∧ a = nI (l + 1) ∧ cSn M' (zGot (pT P T) l q (zPut (pT P T) l s))) := by
        rintro v rfl
        rw [Rn_bnd, rn_aI (by omega), cL24 m6, Rn_rtn, nL1, nI_add]
        exact ⟨by omega, x6.sI rfl, rfl, b6, up_row (fun i hi => by rw [mi]; exact u2 i hi), fun i hi => by rw [ne_row (by decide), mi]; exact u3 i hi, fun i hi => by rw [ne_row (by decide), mi]; exact u4 i hi, fun i hi => by rw [ne_row (by decide), mi]; exact u5 i hi, by rw [ne_row (by decide), mi]; exact u6, by rw [ne_row (by decide), mi]; exact u7, by rw [ne_row (by decide), mi]; exact u8, by rw [ne_row (by decide), mi]; exact u9, by rw [ne_row (by decide), mi]; exact u10⟩
      refine Rn_cs (d := q = Pr P l) (by rw [lg_cmp_eq, lN_eq64 (by omega) (by omega)]) (fun g => ?_) (fun g => ?_)
      · exact fin 0 (by rw [if_pos g])
      · exact fin 3 (by rw [if_neg g])
    refine Rn_cs (nlt (by omega) (by omega)) (fun g => ?_) (fun g => ?_)
    · have e1 : snd1 (pT P T) lo s l = match zRead (pT P T) l (zPut (pT P T) l s) with | some q => (zGot (pT P T) l q (zPut (pT P T) l s), l + 1) | none => zFail (pT P T) l 2 (zPut (pT P T) l s) := by
        show (if zT (zPut (pT P T) l s) l ≤ lo l then _ else _) = _
        rw [if_neg (by rw [tl]; omega)]
        cases zRead (pT P T) l (zPut (pT P T) l s) <;> rfl
      unfold fX5_sendOne_L97
      rw [if_pos (show (0 : Int32) = 0 from rfl)]
      refine Rn_cs (bN_0 al) (fun g1 => ?_) (fun g1 => ?_)
      · rw [hal] at g1
        have zr : zRead (pT P T) l (zPut (pT P T) l s) = rdC (Pw P) (rowAb s l) (cdl P l) := by
          show (if isMk (pT P T) l = true then _ else _) = _
          rw [if_neg (by rw [g1]; decide)]; rfl
        rw [zr] at e1
        rw [Rn_bnd]
        refine (cReadByAbove m4 p4 hp c4 (fun i hi => hk.2.2.2.2.2 i hi) hl).mono ?_
        rintro a M5 ⟨x5, rfl, hq⟩
        have x5' : XF xSw M M5 := x4.tr (x5.mono xCo_Sw)
        have er : rowAb (zPut (pT P T) l s) l = rowAb s l := rfl
        rw [er] at hq ⊢
        cases hrd : rdC (Pw P) (rowAb s l) (cdl P l) with
        | none =>
          rw [hrd] at e1
          exact failed false e1 M5 x5' (c4.co x5)
        | some q =>
          rw [hrd] at e1
          exact got q (hq q hrd) e1 M5 x5' (c4.co x5)
      · have g1 : isMk (pT P T) l = true := by rw [← hal]; simpa using g1
        have zr : zRead (pT P T) l (zPut (pT P T) l s) = some (Pr P l) := by
          show (if isMk (pT P T) l = true then _ else _) = _
          rw [if_pos g1]; rfl
        rw [zr] at e1
        rw [Rn_bnd, cRowL m4 p4 hp hl]
        exact got _ hr e1 M4 x4 c4
    · have e1 : snd1 (pT P T) lo s l = zFail (pT P T) l 1 (zPut (pT P T) l s) := by
        show (if zT (zPut (pT P T) l s) l ≤ lo l then _ else _) = _
        rw [if_pos (by rw [tl]; omega)]
      unfold fX5_sendOne_L97
      rw [if_neg (by decide)]
      exact failed true e1 M4 x4 c4
  unfold fX5_sendOne
  rw [Rn_bnd, cSentAlone hM hP hw hT pr hl, Rn_bnd, cA1_4 hM, Rn_bnd, nL4, rn_lI (by omega), cL4 hM, hP.2.2.2.2 4 (by omega), ← hT.2.2.1]
  refine ⟨by omega, Rn_cs (bN_0 _) (fun g => ?_) (fun g => ?_)⟩
  · rw [Rn_bnd, cA22_14 hM, Rn_bnd, rn_lI (by omega), cL30 hM, pr.2.2.2.2 l hl]
    refine ⟨by omega, put _ _ rfl ?_⟩
    show _ = if isMk (pT P T) l = true then aBt (pT P T) l else cBt (pT P T) l
    rw [if_neg (by rw [g]; decide)]; rfl
  · have g : isMk (pT P T) l = true := by simpa using g
    rw [Rn_bnd, cA22_13 hM, Rn_bnd, rn_lI (by omega), cL29 hM, pr.2.2.2.1 l hl]
    refine ⟨by omega, put _ _ rfl ?_⟩
    show _ = if isMk (pT P T) l = true then aBt (pT P T) l else cBt (pT P T) l
    rw [if_pos g]; rfl
end CSend2

