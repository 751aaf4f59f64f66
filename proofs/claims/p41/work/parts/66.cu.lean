/-! THE CLASS: prepare, clear, send a page -/
theorem zD_1 (P : Pg) (lo : Nat → Nat) (s : Sn) (l : Nat) : zD (snd1 P lo s l).1 = zD s + 1 := by
  have f : ∀ how, zD (zFail P l how (zPut P l s)).1 = zD s + 1 := fun how => by unfold zFail; split <;> rfl
  unfold snd1
  split
  · exact f 1
  · split
    · rfl
    · exact f 2
section CSend3
variable {M : Mm} {P : Pg} {T lo : Nat → Nat}
theorem cClear (hM : CO M) : Rn (fX5_clear 22) M (fun _ M' => XF xSw M M' ∧ cSn M' zO) := by
  unfold fX5_clear
  rw [Rn_bnd, Rn_pI, Rn_bnd, Rn_pI, Rn_bnd, Rn_pI, Rn_bnd, Rn_pI, Rn_bnd, Rn_pI]
  have x0 : XF xSw M (sI (sI (sI (sI (sI M 22 2 0) 22 3 0) 22 4 0) 22 5 0) 22 6 0) := ((((XF.rf.sI rfl).sI rfl).sI rfl).sI rfl).sI rfl
  have e : ∀ k, 2 ≤ k → k ≤ 6 → Mi (sI (sI (sI (sI (sI M 22 2 0) 22 3 0) 22 4 0) 22 5 0) 22 6 0) 22 k = nI 0 := fun k h1 h2 => by
    have : k = 2 ∨ k = 3 ∨ k = 4 ∨ k = 5 ∨ k = 6 := by omega
    rcases this with rfl | rfl | rfl | rfl | rfl <;> simp [Mi_sI] <;> rfl
  generalize sI (sI (sI (sI (sI M 22 2 0) 22 3 0) 22 4 0) 22 5 0) 22 6 0 = M0 at x0 e
  refine rn_loopv (F := fun n i => fX5_clear_L27 n 22 (nI i)) (fun i M' => XF xSw M M' ∧ (∀ k, Mi M' 22 k = Mi M0 22 k) ∧ i ≤ 20 ∧ (∀ k, k < i → Mj M' 23 k = lN 0) ∧ (∀ k, k < i → Mi M' 24 k = nI 0) ∧ (∀ k, k < i → Mi M' 25 k = nI 0) ∧ (∀ k, k < i → Mi M' 26 k = nI 0) ∧ ∀ k, k < i → Mi M' 27 k = nI 0) (fun i => 20 - i) ?_ fu 0 M0 (by unfold fu; omega) ⟨x0, fun _ => rfl, by omega, fun k hk => by omega, fun k hk => by omega, fun k hk => by omega, fun k hk => by omega, fun k hk => by omega⟩
  rintro n i M1 ⟨x1, f, hi, a1, a2, a3, a4, a5⟩ ih
  have m1 := hM.xf x1
  show Rn (fX5_clear_L27 (n + 1) 22 (nI i)) M1 _
  unfold fX5_clear_L27
  refine Rn_cs (show (20 : Int32) ≤ nI i ↔ 20 ≤ i from nle (a := 20) (by omega) (by omega)) (fun g => ?_) (fun g => ?_)
  · rw [Rn_rtn]
    exact ⟨x1, fun k hk => a1 k (by omega), fun k hk => a2 k (by omega), fun k hk => a3 k (by omega), fun k hk => a4 k (by omega), fun k hk => a5 k (by omega), by rw [f]; exact e 2 (by omega) (by omega), by rw [f]; exact e 3 (by omega) (by omega), by rw [f]; exact e 4 (by omega) (by omega), by rw [f]; exact e 5 (by omega) (by omega), by rw [f]; exact e 6 (by omega) (by omega)⟩
  · rw [Rn_bnd, cA22_7 m1, Rn_bnd, rn_aJ (by omega), cL23 m1]
    refine ⟨by omega, ?_⟩
    have y1 : XF xSw M (sJ M1 23 i 0) := x1.sJ rfl
    rw [Rn_bnd, cA22_8 (hM.xf y1), Rn_bnd, rn_aI (by omega), cL24 (hM.xf y1)]
    refine ⟨by omega, ?_⟩
    have y2 : XF xSw M (sI (sJ M1 23 i 0) 24 i 0) := y1.sI rfl
    rw [Rn_bnd, cA22_9 (hM.xf y2), Rn_bnd, rn_aI (by omega), cL25 (hM.xf y2)]
    refine ⟨by omega, ?_⟩
    have y3 : XF xSw M (sI (sI (sJ M1 23 i 0) 24 i 0) 25 i 0) := y2.sI rfl
    rw [Rn_bnd, cA22_10 (hM.xf y3), Rn_bnd, rn_aI (by omega), cL26 (hM.xf y3)]
    refine ⟨by omega, ?_⟩
    have y4 : XF xSw M (sI (sI (sI (sJ M1 23 i 0) 24 i 0) 25 i 0) 26 i 0) := y3.sI rfl
    rw [Rn_bnd, cA22_11 (hM.xf y4), Rn_bnd, rn_aI (by omega), cL27 (hM.xf y4)]
    refine ⟨by omega, ?_⟩
    have y5 : XF xSw M (sI (sI (sI (sI (sJ M1 23 i 0) 24 i 0) 25 i 0) 26 i 0) 27 i 0) := y4.sI rfl
    rw [nL1, nI_add]
    have z : ∀ {g : Nat → Nat → Int32} {a k : Nat}, (k < i + 1) → (∀ j, j < i → g a j = nI 0) → (if k = i then (0 : Int32) else g a k) = nI 0 := fun {g a k} hk hg => by
      by_cases q : k = i
      · rw [if_pos q]; rfl
      · rw [if_neg q]; exact hg k (by omega)
    refine ih (i + 1) _ ⟨y5, fun k => ?_, by omega, fun k hk => ?_, fun k hk => ?_, fun k hk => ?_, fun k hk => ?_, fun k hk => ?_⟩ (by omega)
    · rw [Mi_sI, if_neg (by omega), Mi_sI, if_neg (by omega), Mi_sI, if_neg (by omega), Mi_sI, if_neg (by omega), Mi_sJ]; exact f k
    · show Mj (sJ M1 23 i 0) 23 k = _
      rw [Mj_sJ]
      by_cases q : k = i
      · rw [if_pos ⟨rfl, q⟩]; rfl
      · rw [if_neg (fun z => q z.2)]; exact a1 k (by omega)
    · rw [Mi_sI, if_neg (by omega), Mi_sI, if_neg (by omega), Mi_sI, if_neg (by omega), Mi_sI, Mi_sJ]
      by_cases q : k = i
      · rw [if_pos ⟨rfl, q⟩]; rfl
      · rw [if_neg (fun z => q z.2)]; exact a2 k (by omega)
    · rw [Mi_sI, if_neg (by omega), Mi_sI, if_neg (by omega), Mi_sI]
      by_cases q : k = i
      · rw [if_pos ⟨rfl, q⟩]; rfl
      · rw [if_neg (fun z => q z.2), Mi_sI, if_neg (by omega), Mi_sJ]; exact a3 k (by omega)
    · rw [Mi_sI, if_neg (by omega), Mi_sI]
      by_cases q : k = i
      · rw [if_pos ⟨rfl, q⟩]; rfl
      · rw [if_neg (fun z => q z.2), Mi_sI, if_neg (by omega), Mi_sI, if_neg (by omega), Mi_sJ]; exact a4 k (by omega)
    · rw [Mi_sI]
      by_cases q : k = i
      · rw [if_pos ⟨rfl, q⟩]; rfl
      · rw [if_neg (fun z => q z.2), Mi_sI, if_neg (by omega), Mi_sI, if_neg (by omega), Mi_sI, if_neg (by omega), Mi_sJ]; exact a5 k (by omega)
theorem cSendPage (hM : CO M) (hP : isPgC M 1 P) (hw : wfP (pT P T)) (hT : tOk P T) (hp : wfP P) (pr : isPr M P T lo) (hlo : ∀ i, i < 20 → lo i ≤ 5) : Rn (fX5_sendPage 22 1) M (fun _ M' => XF xSw M M' ∧ cSn M' (sndA (pT P T) lo) ∧ ∀ i, i < PL P → zG (sndA (pT P T) lo) i < 2 ^ Pw P) := by
  have h20 := hp.2.2.1
  unfold fX5_sendPage
  rw [Rn_bnd]
  refine (cClear hM).mono ?_
  rintro - M0 ⟨x0, c0⟩
  refine rn_loopv (F := fun n (q : Sn × Nat) => fX5_sendPage_L10 n 22 1 (nI q.2) (nI (1000 - zD q.1))) (fun q M' => XF xSw M M' ∧ cSn M' q.1 ∧ zOk (pT P T) q.1 q.2 ∧ sndR (pT P T) lo q.1 q.2 = sndA (pT P T) lo) (fun q => zMu (pT P T) q.1 q.2) ?_ fu (zO, 0) M0 (by have := zMu_le (zOk_0 hw); show zMu (pT P T) zO 0 < fu; unfold fu; omega) ⟨x0, c0, zOk_0 hw, rfl⟩
  rintro n ⟨s, l⟩ M1 ⟨x1, c1, hk, he⟩ ih
  have hk : zOk (pT P T) s l := hk
  have he : sndR (pT P T) lo s l = sndA (pT P T) lo := he
  have c1 : cSn M1 s := c1
  have zd : zD s ≤ 300 := by have := hk.2.2.1; omega
  have ll : l ≤ PL P := hk.2.1
  have m1 := hM.xf x1
  have p1 := hP.xw x1
  show Rn (fX5_sendPage_L10 (n + 1) 22 1 (nI l) (nI (1000 - zD s))) M1 _
  unfold fX5_sendPage_L10
  rw [if_neg (by rw [nL0, nle (by omega) (by omega)]; omega), Rn_bnd, cHasLine p1 hp]
  refine Rn_cs (bN_0 _) (fun g => ?_) (fun g => ?_)
  · rw [Rn_rtn]
    have : ¬ l < PL (pT P T) := fun z => by rw [isLn_n (n := PL P) (by omega) z] at g; cases g
    have this' : ¬ l < PL P := this
    rw [← he, sndR_e lo this]
    exact ⟨x1, c1, fun i hi => hk.2.2.2.2.2 i (by omega)⟩
  · have g : isLn (PL P) (nI l) = true := by simpa using g
    have hl : l < PL P := by
      obtain ⟨j, hj, e⟩ := isLn_t (by omega) g
      have := (neq (by omega) (by omega)).mp e
      omega
    rw [Rn_bnd]
    refine (cSendOne m1 p1 hw hT hp (pr.xw x1) hlo c1 hk hl).mono ?_
    rintro a M2 ⟨x2, rfl, c2⟩
    have k2 := snd1_ok (lo := lo) hw (show l < PL (pT P T) from hl) hk
    have e : nI (1000 - zD s) + -1 = nI (1000 - zD (snd1 (pT P T) lo s l).1) := by
      rw [zD_1, add_m1, nL1, nsb (by omega)]; congr 1
    rw [e]
    exact ih ((snd1 (pT P T) lo s l).1, (snd1 (pT P T) lo s l).2) M2 ⟨x1.tr x2, c2, k2.1, by rw [← he, sndR_s hw lo hk hl]⟩ k2.2
theorem cPrepare (hM : CO M) (hP : isPgC M 1 P) (hp : wfP P) : Rn (fX5_prepare 22 1) M (fun _ M' => XF xSd M M' ∧ isPr M' P (Pt P) (Ps P)) := by
  have h20 := hp.2.2.1
  have h40 := hp.2.1
  unfold fX5_prepare
  rw [Rn_bnd, cA1_4 hM, Rn_bnd, nL0, rn_lI (by omega), cL4 hM, hP.2.2.2.2 0 (by omega)]
  refine ⟨by omega, ?_⟩
  rw [Rn_bnd, Rn_pI]
  have x1 : XF xSd M (sI M 22 0 (nI (Pt P 0))) := XF.rf.sI rfl
  have f1 : Mi (sI M 22 0 (nI (Pt P 0))) 22 0 = nI (Pt P 0) := sI_self
  generalize sI M 22 0 (nI (Pt P 0)) = M1 at x1 f1
  have m1 := hM.xf x1
  have p1 := hP.xf x1 xSd_Pg
  rw [Rn_bnd, cA1_4 m1, Rn_bnd, nL3, rn_lI (by omega), cL4 m1, p1.2.2.2.2 3 (by omega)]
  refine ⟨by omega, ?_⟩
  rw [Rn_bnd, Rn_pI]
  have x2 : XF xSd M (sI M1 22 1 (nI (Pt P 3))) := x1.sI rfl
  have g1 : Mi (sI M1 22 1 (nI (Pt P 3))) 22 0 = nI (Pt P 0) := by rw [Mi_sI, if_neg (by omega)]; exact f1
  have g2 : Mi (sI M1 22 1 (nI (Pt P 3))) 22 1 = nI (Pt P 3) := sI_self
  generalize sI M1 22 1 (nI (Pt P 3)) = M2 at x2 g1 g2
  refine rn_loopv (F := fun n i => fX5_prepare_L22 n 22 1 (nI i)) (fun i M' => XF xSd M M' ∧ Mi M' 22 0 = nI (Pt P 0) ∧ Mi M' 22 1 = nI (Pt P 3) ∧ i ≤ 20 ∧ ∀ k, k < i → Mi M' 28 k = nI (Ps P k)) (fun i => 20 - i) ?_ fu 0 M2 (by unfold fu; omega) ⟨x2, g1, g2, by omega, fun k hk => by omega⟩
  rintro n i M3 ⟨x3, e0, e1, hi, a1⟩ ih
  have m3 := hM.xf x3
  have p3 := hP.xf x3 xSd_Pg
  show Rn (fX5_prepare_L22 (n + 1) 22 1 (nI i)) M3 _
  unfold fX5_prepare_L22
  refine Rn_cs (show (20 : Int32) ≤ nI i ↔ 20 ≤ i from nle (a := 20) (by omega) (by omega)) (fun g => ?_) (fun g => ?_)
  · refine rn_loopv (F := fun n i => fX5_prepare_L48 n 22 1 (nI i)) (fun i M' => XF xSd M M' ∧ Mi M' 22 0 = nI (Pt P 0) ∧ Mi M' 22 1 = nI (Pt P 3) ∧ i ≤ PL P ∧ (∀ k, k < 20 → Mi M' 28 k = nI (Ps P k)) ∧ (∀ k, k < i → Mi M' 29 k = nI (aBt P k)) ∧ ∀ k, k < i → Mi M' 30 k = nI (cBt P k)) (fun i => PL P - i) ?_ fu 0 M3 (by unfold fu; omega) ⟨x3, e0, e1, Nat.zero_le _, fun k hk => a1 k (by omega), fun k hk => by omega, fun k hk => by omega⟩
    rintro n i M4 ⟨x4, e0, e1, hi, a1, a2, a3⟩ ih
    have m4 := hM.xf x4
    have p4 := hP.xf x4 xSd_Pg
    show Rn (fX5_prepare_L48 (n + 1) 22 1 (nI i)) M4 _
    unfold fX5_prepare_L48
    rw [Rn_bnd, cN p4]
    refine Rn_cs (nle (by omega) (by omega)) (fun q => ?_) (fun q => ?_)
    · rw [Rn_rtn]
      exact ⟨x4, e0, e1, a1, fun k hk => a2 k (by omega), fun k hk => a3 k (by omega)⟩
    · have hl : i < PL P := by omega
      rw [if_neg (by rw [nL20, nle (by omega) (by omega)]; omega), Rn_bnd, cA22_15 m4, Rn_bnd, cRowL m4 p4 hp hl, Rn_bnd, cRowU m4 p4 hp hl, Rn_bnd, cW p4, Rn_bnd]
      refine (cMake m4.c31 h40 (hp.2.2.2.1 i hl) (Pu_lt hp hl)).mono ?_
      rintro - M5 ⟨x5, c5⟩
      have x5' : XF xSd M M5 := x4.tr (x5.mono (fun a b z => xCo_Sw a b (xSw_Sd a b z)))
      have m5 := hM.xf x5'
      rw [Rn_bnd, cA22_14 m5, Rn_bnd, cA22_15 m5, Rn_bnd, Rn_gI, c5.2.1, Rn_bnd, rn_aI (by omega), cL30 m5]
      refine ⟨by omega, ?_⟩
      have cb : nI (mS (cod (Pw P) (Pr P i) (Pu P i))) = nI (cBt P i) := rfl
      rw [cb]
      have x6 : XF xSd M (sI M5 30 i (nI (cBt P i))) := x5'.sI rfl
      have m6 := hM.xf x6
      have p6 := hP.xf x6 xSd_Pg
      rw [Rn_bnd, cA22_13 m6, Rn_bnd, cRowL m6 p6 hp hl, Rn_bnd, cW p6, Rn_bnd, fAlone h40 (hp.2.2.2.1 i hl), Rn_bnd, rn_aI (by omega), cL29 m6, nL1, nI_add]
      refine ⟨by omega, ?_⟩
      have ab : nI (nS (runs (Pw P) (Pr P i))) = nI (aBt P i) := rfl
      rw [ab]
      have k5 : ∀ a b, ¬ (a = 29) → ¬ (a = 30) → xCo 31 a b = false → Mi (sI (sI M5 30 i (nI (cBt P i))) 29 i (nI (aBt P i))) a b = Mi M4 a b := fun a b z1 z2 z3 => by rw [ne_row z1, ne_row z2, x5.mi z3]
      refine ih (i + 1) _ ⟨x6.sI rfl, by rw [k5 _ _ (by omega) (by omega) rfl]; exact e0, by rw [k5 _ _ (by omega) (by omega) rfl]; exact e1, hl, fun k hk => by rw [k5 _ _ (by omega) (by omega) rfl]; exact a1 k hk, fun k hk => ?_, fun k hk => ?_⟩ (by omega)
      · rw [Mi_sI]
        by_cases q2 : k = i
        · rw [if_pos ⟨rfl, q2⟩, q2]
        · rw [if_neg (fun z => q2 z.2), ne_row (by omega), x5.mi rfl]; exact a2 k (by omega)
      · rw [ne_row (by omega), Mi_sI]
        by_cases q2 : k = i
        · rw [if_pos ⟨rfl, q2⟩, q2]
        · rw [if_neg (fun z => q2 z.2), x5.mi rfl]; exact a3 k (by omega)
  · rw [Rn_bnd, cA22_12 m3, Rn_bnd, cA1_3 m3, Rn_bnd, rn_lI (by omega), cL3 m3, p3.2.2.2.1 i (by omega)]
    refine ⟨by omega, ?_⟩
    rw [Rn_bnd, rn_aI (by omega), cL28 m3, nL1, nI_add]
    refine ⟨by omega, ?_⟩
    refine ih (i + 1) _ ⟨x3.sI rfl, by rw [ne_row (by omega)]; exact e0, by rw [ne_row (by omega)]; exact e1, by omega, fun k hk => ?_⟩ (by omega)
    rw [Mi_sI]
    by_cases q2 : k = i
    · rw [if_pos ⟨rfl, q2⟩, q2]
    · rw [if_neg (fun z => q2 z.2)]; exact a1 k (by omega)
theorem cLoseOnly (hM : CO M) (pr : isPr M P T lo) {j : Nat} (hj : j < 20) : Rn (fX5_loseOnly 22 (nI j)) M (fun _ M' => XF xSd M M' ∧ isPr M' P (updN T 3 0) (loOne j)) := by
  obtain ⟨r1, r2, r3, r4, r5⟩ := pr
  unfold fX5_loseOnly
  rw [Rn_bnd, Rn_pI]
  have x1 : XF xSd M (sI M 22 1 0) := XF.rf.sI rfl
  have f0 : Mi (sI M 22 1 0) 22 0 = nI (T 0) := by rw [Mi_sI, if_neg (by omega)]; exact r1
  have f1 : Mi (sI M 22 1 0) 22 1 = nI 0 := sI_self
  have f4 : ∀ a b, a ≠ 22 → Mi (sI M 22 1 0) a b = Mi M a b := fun a b z => ne_row z b
  generalize sI M 22 1 0 = M1 at x1 f0 f1 f4
  refine rn_loopv (F := fun n i => fX5_loseOnly_L7 n 22 (nI j) (nI i)) (fun i M' => XF xSd M M' ∧ (∀ a b, a ≠ 28 → Mi M' a b = Mi M1 a b) ∧ i ≤ 20 ∧ ∀ k, k < i → Mi M' 28 k = nI (loOne j k)) (fun i => 20 - i) ?_ fu 0 M1 (by unfold fu; omega) ⟨x1, fun _ _ _ => rfl, by omega, fun k hk => by omega⟩
  rintro n i M2 ⟨x2, k2, hi, a1⟩ ih
  have m2 := hM.xf x2
  show Rn (fX5_loseOnly_L7 (n + 1) 22 (nI j) (nI i)) M2 _
  unfold fX5_loseOnly_L7 fX5_loseOnly_L28
  refine Rn_cs (show (20 : Int32) ≤ nI i ↔ 20 ≤ i from nle (a := 20) (by omega) (by omega)) (fun g => ?_) (fun g => ?_)
  · rw [Rn_rtn]
    exact ⟨x2, by rw [k2 _ _ (by omega)]; exact f0, by rw [k2 _ _ (by omega)]; exact f1, fun k hk => a1 k (by omega), fun k hk => by rw [k2 _ _ (by omega), f4 _ _ (by omega)]; exact r4 k hk, fun k hk => by rw [k2 _ _ (by omega), f4 _ _ (by omega)]; exact r5 k hk⟩
  · have go : ∀ v, v = loOne j i → Rn (bnd (aI 28 (nI i) (nI v)) fun _ => fX5_loseOnly_L7 n 22 (nI j) (nI i + 1)) M2 (fun _ M' => XF xSd M M' ∧ isPr M' P (updN T 3 0) (loOne j)) := by
      rintro v rfl
      rw [Rn_bnd, rn_aI (by omega), cL28 m2, nL1, nI_add]
      refine ⟨by omega, ?_⟩
      refine ih (i + 1) _ ⟨x2.sI rfl, fun a b z => by rw [ne_row z]; exact k2 a b z, by omega, fun k hk => ?_⟩ (by omega)
      rw [Mi_sI]
      by_cases q2 : k = i
      · rw [if_pos ⟨rfl, q2⟩, q2]
      · rw [if_neg (fun z => q2 z.2)]; exact a1 k (by omega)
    rw [Rn_bnd, cA22_12 m2]
    refine Rn_cs (neq (by omega) (by omega)) (fun g1 => ?_) (fun g1 => ?_)
    · exact go 1 (by unfold loOne; rw [if_pos g1])
    · exact go 0 (by unfold loOne; rw [if_neg g1])
end CSend3

