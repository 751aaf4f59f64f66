/-! THE CLASS: sending -/
def pT (P : Pg) (T : Nat → Nat) : Pg := (Pw P, PL P, Pr P, Ps P, T)
def tOk (P : Pg) (T : Nat → Nat) : Prop := T 1 = Pt P 1 ∧ T 2 = Pt P 2 ∧ T 4 = Pt P 4 ∧ T 5 = Pt P 5
def isPr (M : Mm) (P : Pg) (T lo : Nat → Nat) : Prop := Mi M 22 0 = nI (T 0) ∧ Mi M 22 1 = nI (T 3) ∧ (∀ i, i < 20 → Mi M 28 i = nI (lo i)) ∧ (∀ i, i < PL P → Mi M 29 i = nI (aBt P i)) ∧ ∀ i, i < PL P → Mi M 30 i = nI (cBt P i)
def cSn (M : Mm) (s : Sn) : Prop := (∀ i, i < 20 → Mj M 23 i = lN (zG s i)) ∧ (∀ i, i < 20 → Mi M 24 i = nI (zS s i)) ∧ (∀ i, i < 20 → Mi M 25 i = nI (zT s i)) ∧ (∀ i, i < 20 → Mi M 26 i = nI (zC s i)) ∧ (∀ i, i < 20 → Mi M 27 i = nI (zK s i)) ∧ Mi M 22 2 = nI (zA s) ∧ Mi M 22 3 = nI (zD s) ∧ Mi M 22 4 = nI (zP s) ∧ Mi M 22 5 = nI (zL s) ∧ Mi M 22 6 = nI (zU s)
def xSd (a _ : Nat) : Bool := decide (22 ≤ a) && decide (a ≤ 36)
/-- the cells of a sending that is under way -/
def xSw (a b : Nat) : Bool := (decide (23 ≤ a) && decide (a ≤ 27)) || (decide (31 ≤ a) && decide (a ≤ 36)) || (a == 22 && decide (2 ≤ b))
theorem xSw_Sd (a b : Nat) (z : xSd a b = false) : xSw a b = false := by
  unfold xSd at z; unfold xSw
  simp at z ⊢
  refine ⟨⟨by omega, by omega⟩, fun h => by omega⟩
theorem xCo_Sw (a b : Nat) (z : xSw a b = false) : xCo 31 a b = false := by
  unfold xSw at z; unfold xCo
  simp at z ⊢
  omega
theorem xSd_Pg (a b : Nat) (z : xPgH 1 a b = true) : xSd a b = false := by
  unfold xPgH at z; unfold xSd
  simp at z ⊢; omega
theorem isPr.xw {M M1 : Mm} {P : Pg} {T lo : Nat → Nat} (h : isPr M P T lo) (x : XF xSw M M1) : isPr M1 P T lo := by
  obtain ⟨h1, h2, h3, h4, h5⟩ := h
  exact ⟨by rw [x.mi rfl]; exact h1, by rw [x.mi rfl]; exact h2, fun i hi => by rw [x.mi rfl]; exact h3 i hi, fun i hi => by rw [x.mi rfl]; exact h4 i hi, fun i hi => by rw [x.mi rfl]; exact h5 i hi⟩
theorem isPgC.xw {M M1 : Mm} {P : Pg} (h : isPgC M 1 P) (x : XF xSw M M1) : isPgC M1 1 P := h.xf x (fun a b z => xSw_Sd a b (xSd_Pg a b z))
theorem cSn.co {M M1 : Mm} {s : Sn} (h : cSn M s) (x : XF (xCo 31) M M1) : cSn M1 s := by
  obtain ⟨h1, h2, h3, h4, h5, h6, h7, h8, h9, h10⟩ := h
  exact ⟨fun i hi => by rw [x.mj rfl]; exact h1 i hi, fun i hi => by rw [x.mi rfl]; exact h2 i hi, fun i hi => by rw [x.mi rfl]; exact h3 i hi, fun i hi => by rw [x.mi rfl]; exact h4 i hi, fun i hi => by rw [x.mi rfl]; exact h5 i hi, by rw [x.mi rfl]; exact h6, by rw [x.mi rfl]; exact h7, by rw [x.mi rfl]; exact h8, by rw [x.mi rfl]; exact h9, by rw [x.mi rfl]; exact h10⟩
section CSend
variable {M : Mm} {P : Pg} {T lo : Nat → Nat} {s : Sn} {l : Nat}
theorem cSentAlone (hM : CO M) (hP : isPgC M 1 P) (hw : wfP (pT P T)) (hT : tOk P T) (pr : isPr M P T lo) (hl : l < PL P) {Q : Int32 → Mm → Prop} : Rn (fX5_isSentAlone 22 1 (nI l)) M Q ↔ Q (nI (bN (isMk (pT P T) l))) M := by
  refine Rn_det ?_
  have h20 : PL P ≤ 20 := hw.2.2.1
  have he : 1 ≤ T 0 ∧ T 0 ≤ 8 := hw.2.2.2.2.2.1
  have ht1 : T 1 ≤ 1 := hw.2.2.2.2.2.2.1
  have ab : aBt P l ≤ 328 := aBt_le hw l
  have cb : cBt P l ≤ 779 := cBt_le hw l
  have e : isMk (pT P T) l = (decide (l % T 0 = 0) || (decide (T 1 = 1) && decide (aBt P l < cBt P l))) := rfl
  rw [e]
  unfold fX5_isSentAlone fX5_isSentAlone_L36
  rw [Rn_bnd, Rn_gI, pr.1, Rn_bnd, cEvery (by omega) (by omega)]
  refine Rn_cs (bN_0 _) (fun g => ?_) (fun g => ?_)
  · have g : ¬ l % T 0 = 0 := by
      have : ¬ (0 < T 0 ∧ l % T 0 = 0) := by simpa using g
      omega
    rw [Rn_bnd, cA1_4 hM, Rn_bnd, show (1 : Int32) = nI 1 from rfl, rn_lI (by omega), cL4 hM, hP.2.2.2.2 1 (by omega), ← hT.1]
    refine ⟨by omega, Rn_cs (neq (by omega) (by omega)) (fun h1 => ?_) (fun h1 => ?_)⟩
    · rw [Rn_bnd, cA22_13 hM, Rn_bnd, rn_lI (by omega), cL29 hM, pr.2.2.2.1 l hl]
      refine ⟨by omega, ?_⟩
      rw [Rn_bnd, cA22_14 hM, Rn_bnd, rn_lI (by omega), cL30 hM, pr.2.2.2.2 l hl]
      refine ⟨by omega, Rn_cs (nle (by omega) (by omega)) (fun h2 => ?_) (fun h2 => ?_)⟩
      · rw [Rn_grd, Rn_rtn]
        have : ¬ aBt P l < cBt P l := by omega
        refine ⟨by decide, ?_, rfl⟩
        simp [g, this]; rfl
      · rw [Rn_grd, Rn_rtn]
        have : aBt P l < cBt P l := by omega
        refine ⟨by decide, ?_, rfl⟩
        simp [h1, this]; rfl
    · rw [Rn_grd, Rn_rtn]
      refine ⟨by decide, ?_, rfl⟩
      simp [g, h1]; rfl
  · have g : 0 < T 0 ∧ l % T 0 = 0 := by simpa using g
    rw [Rn_grd, Rn_rtn]
    refine ⟨by decide, ?_, rfl⟩
    simp [g.2]; rfl
theorem cRowAbove (hM : CO M) (hs : cSn M s) (hl : l ≤ 20) {Q : Int64 → Mm → Prop} : Rn (fX5_rowAbove 22 (nI l)) M Q ↔ Q (lN (rowAb s l)) M := by
  refine Rn_det ?_
  unfold fX5_rowAbove rowAb
  refine Rn_cs (show nI l ≤ 0 ↔ l ≤ 0 from nle (b := 0) (by omega) (by omega)) (fun g => ?_) (fun g => ?_)
  · rw [Rn_rtn, if_pos (by omega)]; exact ⟨rfl, rfl⟩
  · rw [if_neg (by rw [nL20, nlt (by omega) (by omega)]; omega), Rn_bnd, cA22_7 hM, Rn_bnd, nL1, nsb (by omega), rn_lJ (by omega), cL23 hM, Rn_rtn, hs.1 (l - 1) (by omega), if_neg (by omega)]
    exact ⟨by omega, rfl, rfl⟩
theorem cReadByAbove (hM : CO M) (hP : isPgC M 1 P) (hp : wfP P) (hs : cSn M s) (hg : ∀ i, i < l → zG s i < 2 ^ Pw P) (hl : l < PL P) : Rn (fX5_readByAbove 22 1 (nI l)) M (fun a M' => XF (xCo 31) M M' ∧ a = rdU (rdC (Pw P) (rowAb s l) (cdl P l)) ∧ ∀ q, rdC (Pw P) (rowAb s l) (cdl P l) = some q → q < 2 ^ Pw P) := by
  have h40 := hp.2.1
  have h20 := hp.2.2.1
  have p40 : 2 ^ Pw P ≤ 2 ^ 40 := pw_le h40
  have hr := hp.2.2.2.1 l hl
  have hu := Pu_lt hp hl
  have ha : rowAb s l < 2 ^ Pw P := by
    unfold rowAb; split
    · exact Nat.two_pow_pos _
    · exact hg _ (by omega)
  unfold fX5_readByAbove
  rw [Rn_bnd, cRowAbove hM hs (by omega), Rn_bnd, cRowU hM hP hp hl]
  refine Rn_cs (d := rowAb s l = Pu P l) (by rw [lg_cmp_eq, lN_eq64 (by omega) (by omega)]) (fun g => ?_) (fun g => ?_)
  · rw [Rn_bnd, cRowL hM hP hp hl, Rn_rtn, g]
    have e : rdC (Pw P) (Pu P l) (cdl P l) = some (Pr P l) := rt_C h40 hr
    rw [e]
    exact ⟨XF.rf, rfl, fun q hq => by cases hq; exact hr⟩
  · rw [Rn_bnd, cA22_15 hM, Rn_bnd, cRowL hM hP hp hl, Rn_bnd, cRowU hM hP hp hl, Rn_bnd, cW hP, Rn_bnd]
    refine (cMake hM.c31 h40 hr hu).mono ?_
    rintro - M1 ⟨x1, c1⟩
    have m1 := hM.xf x1
    have p1 : isPgC M1 1 P := hP.xw (x1.mono xCo_Sw)
    rw [Rn_bnd, cA22_15 m1, Rn_bnd, cRowAbove m1 (hs.co x1) (by omega), Rn_bnd, cW p1, Rn_bnd]
    refine (cReadUnder m1.c31 h40 ha (cod_ok h40) (cdl_len hp l) c1).mono ?_
    rintro a M2 ⟨x2, rfl, hq⟩
    rw [Rn_rtn]
    exact ⟨x1.tr (x2.mono (xH_Co 31)), rfl, hq⟩
theorem cStepBack (hM : CO M) (hP : isPgC M 1 P) (hw : wfP (pT P T)) (hT : tOk P T) (pr : isPr M P T lo) (hs : cSn M s) (hl : l < PL P) : Rn (fX5_stepBack 22 1 (nI l)) M (fun a M' => a = nI (mkU (pT P T) l) ∧ XF xSw M M' ∧ cSn M' (zStep (pT P T) l s)) := by
  have h20 : PL P ≤ 20 := hw.2.2.1
  obtain ⟨s1, s2, s3, s4, s5, s6, s7, s8, s9, s10⟩ := hs
  unfold fX5_stepBack
  rw [Rn_bnd, Rn_gI, s8, Rn_bnd, Rn_pI, nL1, nI_add]
  have a1 : ∀ i, i < 20 → Mi (sI M 22 4 (nI (zP s + 1))) 27 i = nI (zK s i) := fun i hi => by rw [ne_row (by decide)]; exact s5 i hi
  have x1 : XF xSw M (sI M 22 4 (nI (zP s + 1))) := XF.rf.sI rfl
  rw [Rn_bnd, cA22_11 (hM.xf x1), Rn_bnd, rn_lI (by omega), cL27 (hM.xf x1), a1 l (by omega)]
  refine ⟨by omega, ?_⟩
  rw [Rn_bnd, rn_aI (by omega), cL27 (hM.xf x1), nI_add]
  refine ⟨by omega, ?_⟩
  have x2 : XF xSw M (sI (sI M 22 4 (nI (zP s + 1))) 27 l (nI (zK s l + 1))) := x1.sI rfl
  have a2 := up_row (M := sI M 22 4 (nI (zP s + 1))) (a := 27) (j := l) (v := zK s l + 1) a1
  have a3 : Mi (sI (sI M 22 4 (nI (zP s + 1))) 27 l (nI (zK s l + 1))) 22 2 = nI (zA s) := by rw [ne_row (by decide), Mi_sI, if_neg (by omega)]; exact s6
  have a4 : Mi (sI (sI M 22 4 (nI (zP s + 1))) 27 l (nI (zK s l + 1))) 22 4 = nI (zP s + 1) := by rw [ne_row (by decide), sI_self]
  have k2 : ∀ a b, a ≠ 27 → ¬ (a = 22 ∧ b = 4) → Mi (sI (sI M 22 4 (nI (zP s + 1))) 27 l (nI (zK s l + 1))) a b = Mi M a b := fun a b z1 z2 => by rw [ne_row z1, Mi_sI, if_neg z2]
  have j2 : Mj (sI (sI M 22 4 (nI (zP s + 1))) 27 l (nI (zK s l + 1))) = Mj M := rfl
  generalize sI (sI M 22 4 (nI (zP s + 1))) 27 l (nI (zK s l + 1)) = M2 at x2 a2 a3 a4 k2 j2
  have m2 := hM.xf x2
  have p2 := hP.xw x2
  have t5 := hT.2.2.2
  rw [Rn_bnd, Rn_gI, a3, Rn_bnd, cA1_4 m2, Rn_bnd, nL5, rn_lI (by omega), cL4 m2, p2.2.2.2.2 5 (by omega)]
  refine ⟨by omega, ?_⟩
  rw [Rn_bnd, Rn_pI, nI_add, ← t5]
  have x3 : XF xSw M (sI M2 22 2 (nI (zA s + T 5))) := x2.sI rfl
  have q3 : cSn (sI M2 22 2 (nI (zA s + T 5))) (zStep (pT P T) l s) := by
    refine ⟨fun i hi => by show Mj M2 23 i = _; rw [j2]; exact s1 i hi, fun i hi => by rw [ne_row (by decide), k2 _ _ (by decide) (by omega)]; exact s2 i hi, fun i hi => by rw [ne_row (by decide), k2 _ _ (by decide) (by omega)]; exact s3 i hi, fun i hi => by rw [ne_row (by decide), k2 _ _ (by decide) (by omega)]; exact s4 i hi, fun i hi => by rw [ne_row (by decide)]; exact a2 i hi, sI_self, ?_, ?_, ?_, ?_⟩
    · rw [Mi_sI, if_neg (by omega), k2 _ _ (by decide) (by omega)]; exact s7
    · rw [Mi_sI, if_neg (by omega)]; exact a4
    · rw [Mi_sI, if_neg (by omega), k2 _ _ (by decide) (by omega)]; exact s9
    · rw [Mi_sI, if_neg (by omega), k2 _ _ (by decide) (by omega)]; exact s10
  generalize sI M2 22 2 (nI (zA s + T 5)) = M3 at x3 q3
  have m3 := hM.xf x3
  have p3 := hP.xw x3
  have pr3 := pr.xw x3
  refine rn_loopv (F := fun n i => fX5_stepBack_L37 n 22 1 (nI i)) (fun i M' => M' = M3 ∧ i ≤ l ∧ mkU (pT P T) i = mkU (pT P T) l) (fun i => i) ?_ fu l M3 (by unfold fu; omega) ⟨rfl, Nat.le_refl _, rfl⟩
  rintro n i M4 ⟨rfl, hi, he⟩ ih
  show Rn (fX5_stepBack_L37 (n + 1) 22 1 (nI i)) M4 _
  unfold fX5_stepBack_L37
  refine Rn_cs (show nI i ≤ 0 ↔ i ≤ 0 from nle (b := 0) (by omega) (by omega)) (fun g => ?_) (fun g => ?_)
  · rw [Rn_rtn, ← he, show i = 0 by omega]; exact ⟨rfl, x3, q3⟩
  · rw [Rn_bnd, cSentAlone m3 p3 hw hT pr3 (by omega)]
    obtain ⟨i, rfl⟩ : ∃ j, i = j + 1 := ⟨i - 1, by omega⟩
    have e : mkU (pT P T) (i + 1) = if isMk (pT P T) (i + 1) = true then i + 1 else mkU (pT P T) i := rfl
    refine Rn_cs (bN_0 _) (fun g1 => ?_) (fun g1 => ?_)
    · rw [add_m1, nL1, nsb (by omega), show i + 1 - 1 = i by omega]
      refine ih i M4 ⟨rfl, by omega, ?_⟩ (by omega)
      rw [← he, e, g1]; rfl
    · have g1 : isMk (pT P T) (i + 1) = true := by simpa using g1
      rw [Rn_rtn, ← he, e, g1]; exact ⟨rfl, x3, q3⟩
end CSend

