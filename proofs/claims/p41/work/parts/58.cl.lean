/-! THE CLASS: count and line -/
section CL
variable {M : Mm} {P : Pg}
theorem cBlackDots (hM : CO M) (hP : isPgC M 1 P) (hw : wfP P) {Q : Int32 → Mm → Prop} : Rn (fX7_blackDots 0) M Q ↔ Q (nI (sm (fun l => blk (Pw P) (Pr P l)) (PL P))) M := by
  refine Rn_det ?_
  have h20 := hw.2.2.1
  unfold fX7_blackDots
  refine rn_loopv (F := fun n i => fX7_blackDots_L4 n 0 (nI (sm (fun l => blk (Pw P) (Pr P l)) i)) (nI i)) (fun i M' => M' = M ∧ i ≤ PL P) (fun i => PL P - i) ?_ fu 0 M (by unfold fu; omega) ⟨rfl, Nat.zero_le _⟩
  rintro n i M1 ⟨rfl, hi⟩ ih
  show Rn (fX7_blackDots_L4 (n + 1) 0 (nI (sm (fun l => blk (Pw P) (Pr P l)) i)) (nI i)) M1 _
  unfold fX7_blackDots_L4
  rw [Rn_bnd, cA0_0 hM, Rn_bnd, cN hP]
  refine Rn_cs (nle (by omega) (by omega)) (fun g => ?_) (fun g => ?_)
  · rw [Rn_rtn, show i = PL P by omega]; exact ⟨rfl, rfl⟩
  · have hl : i < PL P := by omega
    have nx := ih (i + 1) M1 ⟨rfl, hl⟩ (by omega)
    rw [sm_s] at nx
    rw [Rn_bnd, cA0_0 hM, Rn_bnd, cRowL hM hP hw hl, Rn_bnd, fBlk hw.2.1 (hw.2.2.2.1 i hl), Rn_bnd, Rn_rtn, nI_add, nL1, nI_add]
    exact nx
theorem cAllChanges (hM : CO M) (hP : isPgC M 1 P) (hw : wfP P) {Q : Int32 → Mm → Prop} : Rn (fX7_allChanges 0) M Q ↔ Q (nI (sm (fun l => nch (Pw P) (Pr P l)) (PL P))) M := by
  refine Rn_det ?_
  have h20 := hw.2.2.1
  unfold fX7_allChanges
  refine rn_loopv (F := fun n i => fX7_allChanges_L4 n 0 (nI (sm (fun l => nch (Pw P) (Pr P l)) i)) (nI i)) (fun i M' => M' = M ∧ i ≤ PL P) (fun i => PL P - i) ?_ fu 0 M (by unfold fu; omega) ⟨rfl, Nat.zero_le _⟩
  rintro n i M1 ⟨rfl, hi⟩ ih
  show Rn (fX7_allChanges_L4 (n + 1) 0 (nI (sm (fun l => nch (Pw P) (Pr P l)) i)) (nI i)) M1 _
  unfold fX7_allChanges_L4
  rw [Rn_bnd, cA0_0 hM, Rn_bnd, cN hP]
  refine Rn_cs (nle (by omega) (by omega)) (fun g => ?_) (fun g => ?_)
  · rw [Rn_rtn, show i = PL P by omega]; exact ⟨rfl, rfl⟩
  · have hl : i < PL P := by omega
    have nx := ih (i + 1) M1 ⟨rfl, hl⟩ (by omega)
    rw [sm_s] at nx
    rw [Rn_bnd, cA0_0 hM, Rn_bnd, cRowL hM hP hw hl, Rn_bnd, cA0_0 hM, Rn_bnd, cW hP, Rn_bnd, fChs hw.2.1 (hw.2.2.2.1 i hl), Rn_bnd, fNch hw.2.1, Rn_bnd, Rn_rtn, nI_add, nL1, nI_add]
    exact nx
theorem Pr_lt64 (hw : wfP P) {l : Nat} (hl : l < PL P) : Pr P l < 2 ^ 64 := by
  have := hw.2.2.2.1 l hl
  have : 2 ^ Pw P ≤ 2 ^ 40 := pw_le hw.2.1
  omega
theorem lN_eq64 {a b : Nat} (ha : a < 2 ^ 64) (hb : b < 2 ^ 64) : lN a = lN b ↔ a = b := by
  constructor
  · intro z
    have := congrArg (fun t : Int64 => t.toBitVec.toNat) z
    simp only [wb_tn ha, wb_tn hb] at this
    exact this
  · rintro rfl; rfl
theorem cAsAbove (hM : CO M) (hP : isPgC M 1 P) (hw : wfP P) {Q : Int32 → Mm → Prop} : Rn (fX7_linesAsAbove 0) M Q ↔ Q (nI (sm (fun l => bN (decide (Pr P l = Pu P l))) (PL P))) M := by
  refine Rn_det ?_
  have h20 := hw.2.2.1
  unfold fX7_linesAsAbove
  refine rn_loopv (F := fun n i => fX7_linesAsAbove_L4 n 0 (nI (sm (fun l => bN (decide (Pr P l = Pu P l))) i)) (nI i)) (fun i M' => M' = M ∧ i ≤ PL P) (fun i => PL P - i) ?_ fu 0 M (by unfold fu; omega) ⟨rfl, Nat.zero_le _⟩
  rintro n i M1 ⟨rfl, hi⟩ ih
  show Rn (fX7_linesAsAbove_L4 (n + 1) 0 (nI (sm (fun l => bN (decide (Pr P l = Pu P l))) i)) (nI i)) M1 _
  unfold fX7_linesAsAbove_L4 fX7_linesAsAbove_L40
  rw [Rn_bnd, cA0_0 hM, Rn_bnd, cN hP]
  refine Rn_cs (nle (by omega) (by omega)) (fun g => ?_) (fun g => ?_)
  · rw [Rn_rtn, show i = PL P by omega]; exact ⟨rfl, rfl⟩
  · have hl : i < PL P := by omega
    have nx := ih (i + 1) M1 ⟨rfl, hl⟩ (by omega)
    rw [sm_s] at nx
    have l1 := Pr_lt64 hw hl
    have l2 : Pu P i < 2 ^ 64 := by
      have := Pu_lt hw hl
      have : 2 ^ Pw P ≤ 2 ^ 40 := pw_le hw.2.1
      omega
    rw [Rn_bnd, cA0_0 hM, Rn_bnd, cRowL hM hP hw hl, Rn_bnd, cA0_0 hM, Rn_bnd, cRowU hM hP hw hl]
    refine Rn_cs (d := Pr P i = Pu P i) (by rw [lg_cmp_eq, lN_eq64 l1 l2]) (fun g1 => ?_) (fun g1 => ?_)
    · rw [nL1, nI_add, nI_add]
      rw [show decide (Pr P i = Pu P i) = true by simp [g1]] at nx; exact nx
    · rw [nL1, nI_add]
      rw [show decide (Pr P i = Pu P i) = false by simp [g1]] at nx; exact nx
theorem cMarks (hM : CO M) (hP : isPgC M 1 P) (hw : wfP P) : Rn (fX7_marks 0) M (fun a M' => a = nI (sm (fun l => bN (isMk P l)) (PL P)) ∧ XF (xCo 16) M M') := by
  have h20 := hw.2.2.1
  unfold fX7_marks
  refine rn_loopv (F := fun n i => fX7_marks_L4 n 0 (nI (sm (fun l => bN (isMk P l)) i)) (nI i)) (fun i M' => XF (xCo 16) M M' ∧ i ≤ PL P) (fun i => PL P - i) ?_ fu 0 M (by unfold fu; omega) ⟨XF.rf, Nat.zero_le _⟩
  rintro n i M1 ⟨x1, hi⟩ ih
  have m1 := hM.xf x1
  have p1 := hP.xf x1 xCo_Pg
  show Rn (fX7_marks_L4 (n + 1) 0 (nI (sm (fun l => bN (isMk P l)) i)) (nI i)) M1 _
  unfold fX7_marks_L4 fX7_marks_L26
  rw [Rn_bnd, cA0_0 m1, Rn_bnd, cN p1]
  refine Rn_cs (nle (by omega) (by omega)) (fun g => ?_) (fun g => ?_)
  · rw [Rn_rtn, show i = PL P by omega]; exact ⟨rfl, x1⟩
  · have hl : i < PL P := by omega
    rw [Rn_bnd]
    refine (cIsMark m1 p1 hw hl).mono ?_
    rintro a M2 ⟨rfl, x2, _⟩
    have nx := ih (i + 1) M2 ⟨x1.tr x2, hl⟩ (by omega)
    rw [sm_s] at nx
    refine Rn_cs (bN_0 _) (fun g1 => ?_) (fun g1 => ?_)
    · rw [nL1, nI_add]
      rw [g1] at nx; exact nx
    · have g1 : isMk P i = true := by simpa using g1
      rw [nL1, nI_add, nI_add]
      rw [g1] at nx; exact nx
theorem cLatest (hM : CO M) (hP : isPgC M 1 P) (hw : wfP P) {l : Nat} (hl : l < PL P) : Rn (fX7_latestMark 0 (nI l)) M (fun a M' => a = nI (mkU P l) ∧ XF (xCo 16) M M') := by
  have h20 := hw.2.2.1
  unfold fX7_latestMark
  refine rn_loopv (F := fun n i => fX7_latestMark_L2 n 0 (nI i)) (fun i M' => XF (xCo 16) M M' ∧ i ≤ l ∧ mkU P i = mkU P l) (fun i => i) ?_ fu l M (by unfold fu; omega) ⟨XF.rf, Nat.le_refl _, rfl⟩
  rintro n i M1 ⟨x1, hi, he⟩ ih
  have m1 := hM.xf x1
  have p1 := hP.xf x1 xCo_Pg
  show Rn (fX7_latestMark_L2 (n + 1) 0 (nI i)) M1 _
  unfold fX7_latestMark_L2
  refine Rn_cs (show nI i ≤ 0 ↔ i ≤ 0 from nle (b := 0) (by omega) (by omega)) (fun g => ?_) (fun g => ?_)
  · rw [Rn_rtn, ← he, show i = 0 by omega]; exact ⟨rfl, x1⟩
  · rw [Rn_bnd]
    refine (cIsMark m1 p1 hw (l := i) (by omega)).mono ?_
    rintro a M2 ⟨rfl, x2, _⟩
    obtain ⟨i, rfl⟩ : ∃ j, i = j + 1 := ⟨i - 1, by omega⟩
    have e : mkU P (i + 1) = if isMk P (i + 1) = true then i + 1 else mkU P i := rfl
    refine Rn_cs (bN_0 _) (fun g1 => ?_) (fun g1 => ?_)
    · rw [add_m1, nL1, nsb (by omega), show i + 1 - 1 = i by omega]
      refine ih i M2 ⟨x1.tr x2, by omega, ?_⟩ (by omega)
      rw [← he, e, g1]; rfl
    · have g1 : isMk P (i + 1) = true := by simpa using g1
      rw [Rn_rtn, ← he, e, g1]; exact ⟨rfl, x1.tr x2⟩
theorem cCount (hM : CO M) (hP : isPgC M 1 P) (hw : wfP P) {nU : Nat} (hU : Mi M 5 0 = nI nU) (x : Int32) : Rn (fX7_count 0 x) M (fun a M' => a = xc 0 0 (spCount P nU x) ∧ XF (xCo 16) M M') := by
  unfold fX7_count spCount fX7_count_L10
  rcases ln_le (n := 12) (by omega) x with ⟨h1, h2⟩ | ⟨h1, h2, h3, k, hk, rfl⟩ | ⟨h1, h2, h3⟩
  · have h2 : isLn 13 x = false := h2
    rw [if_pos h1, Rn_rtn, h2]; exact ⟨rfl, XF.rf⟩
  · have h3 : isLn 13 (nI k) = true := h3
    rw [if_neg h1, if_pos h3, ix_n (by omega)]
    have h2 : nI k ≤ (12 : Int32) := h2
    rw [if_pos h2]
    refine Rn_cs (show (6 : Int32) ≤ nI k ↔ 6 ≤ k from nle (a := 6) (by omega) (by omega)) (fun g => ?_) (fun g => ?_)
    · refine Rn_cs (show nI k = 6 ↔ k = 6 from neq (b := 6) (by omega) (by omega)) (fun g1 => ?_) (fun g1 => ?_)
      · subst g1; rw [Rn_bnd, cA0_0 hM, Rn_bnd, cW hP, Rn_rtn]; exact ⟨rfl, XF.rf⟩
      refine Rn_cs (show nI k = 7 ↔ k = 7 from neq (b := 7) (by omega) (by omega)) (fun g1 => ?_) (fun g1 => ?_)
      · subst g1; rw [Rn_bnd, cA0_0 hM, Rn_bnd, cN hP, Rn_rtn]; exact ⟨rfl, XF.rf⟩
      refine Rn_cs (show nI k = 8 ↔ k = 8 from neq (b := 8) (by omega) (by omega)) (fun g1 => ?_) (fun g1 => ?_)
      · subst g1; rw [Rn_bnd, cBlackDots hM hP hw, Rn_rtn]; exact ⟨rfl, XF.rf⟩
      refine Rn_cs (show nI k = 9 ↔ k = 9 from neq (b := 9) (by omega) (by omega)) (fun g1 => ?_) (fun g1 => ?_)
      · subst g1; rw [Rn_bnd, cAllChanges hM hP hw, Rn_rtn]; exact ⟨rfl, XF.rf⟩
      refine Rn_cs (show nI k = 10 ↔ k = 10 from neq (b := 10) (by omega) (by omega)) (fun g1 => ?_) (fun g1 => ?_)
      · subst g1; rw [Rn_bnd]
        refine (cMarks hM hP hw).mono ?_
        rintro a M1 ⟨rfl, x1⟩
        rw [Rn_rtn]; exact ⟨rfl, x1⟩
      refine Rn_cs (show nI k = 11 ↔ k = 11 from neq (b := 11) (by omega) (by omega)) (fun g1 => ?_) (fun g1 => ?_)
      · subst g1; rw [Rn_bnd, cA0_1 hM, Rn_bnd, Rn_gI, hU, Rn_rtn]; exact ⟨rfl, XF.rf⟩
      have : k = 12 := by omega
      subst this
      rw [Rn_bnd, cAsAbove hM hP hw, Rn_rtn]; exact ⟨rfl, XF.rf⟩
    · have e : cntV P nU k = Pt P k := by unfold cntV; rw [if_pos (by omega)]
      rw [Rn_bnd, cA0_0 hM, Rn_bnd, cA1_4 hM, Rn_bnd, rn_lI (by omega), cL4 hM, Rn_rtn, hP.2.2.2.2 k (by omega), e]
      exact ⟨by omega, rfl, XF.rf⟩
  · have h3 : isLn 13 x = false := h3
    have h2 : ¬ x ≤ (12 : Int32) := h2
    rw [if_neg h1, if_neg h2, Rn_rtn, h3]; exact ⟨rfl, XF.rf⟩
theorem cLineOp (hM : CO M) (hP : isPgC M 1 P) (hw : wfP P) (x y : Int32) : Rn (fX7_line 0 x y) M (fun a M' => a = xc 2 0 (spLine P x y) ∧ XF (xCo 16) M M') := by
  have h20 := hw.2.2.1
  unfold fX7_line spLine fX7_line_L15
  rw [Rn_bndX, cNeedLine hM hP hw]
  by_cases g : isLn (PL P) x = true
  · rw [if_pos g, if_pos g]
    obtain ⟨l, hl, rfl⟩ := isLn_t (by omega) g
    rw [ix_n (by omega)]
    show Rn _ M _
    rcases ln_le (n := 11) (by omega) y with ⟨h1, h2⟩ | ⟨h1, h2, h3, k, hk, rfl⟩ | ⟨h1, h2, h3⟩
    · have h2 : isLn 12 y = false := h2
      rw [if_pos h1, Rn_rtn, h2]; exact ⟨rfl, XF.rf⟩
    · have h3 : isLn 12 (nI k) = true := h3
      rw [if_neg h1, if_pos h3, ix_n (by omega)]
      have h2 : nI k ≤ (11 : Int32) := h2
      rw [if_pos h2, Rn_bnd]
      refine (cCodeLine hM hP hw hl).mono ?_
      rintro - M1 ⟨x1, c1⟩
      have m1 := hM.xf x1
      have p1 := hP.xf x1 xCo_Pg
      have ll := cdl_len hw l
      refine Rn_cs (show nI k = 0 ↔ k = 0 from neq (b := 0) (by omega) (by omega)) (fun g1 => ?_) (fun g1 => ?_)
      · subst g1; rw [Rn_bnd]
        refine (cIsMark m1 p1 hw hl).mono ?_
        rintro a M2 ⟨rfl, x2, _⟩
        have e : lineV P l 0 = bN (isMk P l) := rfl
        rw [e]
        refine Rn_cs (bN_0 _) (fun g1 => ?_) (fun g1 => ?_)
        · rw [Rn_rtn, g1]; exact ⟨rfl, x1.tr x2⟩
        · have g1 : isMk P l = true := by simpa using g1
          rw [Rn_rtn, g1]; exact ⟨rfl, x1.tr x2⟩
      refine Rn_cs (show nI k = 1 ↔ k = 1 from neq (b := 1) (by omega) (by omega)) (fun g1 => ?_) (fun g1 => ?_)
      · subst g1; rw [cAlone m1 p1 hw hl, Rn_rtn]; exact ⟨rfl, x1⟩
      refine Rn_cs (show nI k = 2 ↔ k = 2 from neq (b := 2) (by omega) (by omega)) (fun g1 => ?_) (fun g1 => ?_)
      · subst g1; rw [Rn_bnd, cA0_4 m1, Rn_bnd, Rn_gI, c1.2.1, Rn_rtn]; exact ⟨rfl, x1⟩
      refine Rn_cs (show nI k = 3 ↔ k = 3 from neq (b := 3) (by omega) (by omega)) (fun g1 => ?_) (fun g1 => ?_)
      · subst g1; rw [Rn_bnd]
        refine (cIsMark m1 p1 hw hl).mono ?_
        rintro a M2 ⟨rfl, x2, hc2⟩
        have m2 := m1.xf x2
        have p2 := p1.xf x2 xCo_Pg
        have c2 := hc2 c1
        have e : lineV P l 3 = if isMk P l = true then aBt P l else cBt P l := rfl
        rw [e]
        refine Rn_cs (bN_0 _) (fun g1 => ?_) (fun g1 => ?_)
        · rw [Rn_bnd, cA0_4 m2, Rn_bnd, Rn_gI, c2.2.1, Rn_rtn, g1]; exact ⟨rfl, x1.tr x2⟩
        · have g1 : isMk P l = true := by simpa using g1
          rw [cAlone m2 p2 hw hl, Rn_rtn, g1]; exact ⟨rfl, x1.tr x2⟩
      refine Rn_cs (show nI k = 4 ↔ k = 4 from neq (b := 4) (by omega) (by omega)) (fun g1 => ?_) (fun g1 => ?_)
      · subst g1
        have e : lineV P l 4 = nch (Pw P) (Pr P l) + 1 := runs_n _ _
        rw [Rn_bnd, cA0_0 m1, Rn_bnd, cRowL m1 p1 hw hl, Rn_bnd, cA0_0 m1, Rn_bnd, cW p1, Rn_bnd, fChs hw.2.1 (hw.2.2.2.1 l hl), Rn_bnd, fNch hw.2.1, Rn_rtn, nL1, nI_add, e]; exact ⟨rfl, x1⟩
      refine Rn_cs (show nI k = 5 ↔ k = 5 from neq (b := 5) (by omega) (by omega)) (fun g1 => ?_) (fun g1 => ?_)
      · subst g1; rw [Rn_bnd, cA0_4 m1, Rn_bnd, Rn_gI, c1.1, Rn_rtn]; exact ⟨rfl, x1⟩
      refine Rn_cs (show nI k = 6 ↔ k = 6 from neq (b := 6) (by omega) (by omega)) (fun g1 => ?_) (fun g1 => ?_)
      · subst g1; rw [Rn_bnd, cA0_4 m1, Rn_bnd, cModesOfKind m1.c16 c1 ll, Rn_rtn]; exact ⟨rfl, x1⟩
      refine Rn_cs (show nI k = 7 ↔ k = 7 from neq (b := 7) (by omega) (by omega)) (fun g1 => ?_) (fun g1 => ?_)
      · subst g1; rw [Rn_bnd, cA0_4 m1, Rn_bnd, cModesOfKind m1.c16 c1 ll, Rn_rtn]; exact ⟨rfl, x1⟩
      refine Rn_cs (show nI k = 8 ↔ k = 8 from neq (b := 8) (by omega) (by omega)) (fun g1 => ?_) (fun g1 => ?_)
      · subst g1; rw [Rn_bnd, cA0_4 m1, Rn_bnd, cModesOfKind m1.c16 c1 ll, Rn_rtn]; exact ⟨rfl, x1⟩
      refine Rn_cs (show nI k = 9 ↔ k = 9 from neq (b := 9) (by omega) (by omega)) (fun g1 => ?_) (fun g1 => ?_)
      · subst g1; rw [Rn_bnd, cA0_0 m1, Rn_bnd, cA1_3 m1, Rn_bnd, rn_lI (by omega), cL3 m1, Rn_rtn, p1.2.2.2.1 l (by omega)]; exact ⟨by omega, rfl, x1⟩
      refine Rn_cs (show nI k = 10 ↔ k = 10 from neq (b := 10) (by omega) (by omega)) (fun g1 => ?_) (fun g1 => ?_)
      · subst g1; rw [Rn_bnd, cA0_0 m1, Rn_bnd, cRowL m1 p1 hw hl, Rn_bnd, fBlk hw.2.1 (hw.2.2.2.1 l hl), Rn_rtn]; exact ⟨rfl, x1⟩
      have : k = 11 := by omega
      subst this
      rw [Rn_bnd]
      refine (cLatest m1 p1 hw hl).mono ?_
      rintro a M2 ⟨rfl, x2⟩
      rw [Rn_rtn]; exact ⟨rfl, x1.tr x2⟩
    · have h3 : isLn 12 y = false := h3
      have h2 : ¬ y ≤ (11 : Int32) := h2
      rw [if_neg h1, if_neg h2, Rn_rtn, h3]; exact ⟨rfl, XF.rf⟩
  · rw [if_neg g, if_neg g]; exact ⟨rfl, XF.rf⟩
end CL

