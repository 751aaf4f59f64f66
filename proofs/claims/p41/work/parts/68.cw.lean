/-! THE CLASS: harm, worst, best, steps; the two fractions -/
section CHarm
variable {M : Mm} {P : Pg}
theorem bEv_1 (P : Pg) (n : Nat) : (bEv P (n + 1)).1 ≠ 0 := by
  induction n with
  | zero =>
    show (if (bEv P 0).1 = 0 ∨ _ then (0 + 1, _, _) else bEv P 0).1 ≠ 0
    rw [if_pos (Or.inl (show (bEv P 0).1 = 0 from rfl))]; show 0 + 1 ≠ 0; omega
  | succ n ih =>
    show (if (bEv P (n + 1)).1 = 0 ∨ _ then (n + 1 + 1, _, _) else bEv P (n + 1)).1 ≠ 0
    split
    · show n + 1 + 1 ≠ 0; omega
    · exact ih
theorem bEv_le (hp : wfP P) (n : Nat) (hn : n ≤ 8) : (bEv P n).1 ≤ n ∧ (bEv P n).2.1 ≤ 800 ∧ (bEv P n).2.2 ≤ 1000000 := by
  induction n with
  | zero => exact ⟨Nat.le_refl _, Nat.zero_le _, Nat.zero_le _⟩
  | succ n ih =>
    have i := ih (by omega)
    have w := zWs_le hp (sndA (pSet P 0 (n + 1)) (Ps P))
    have a := sndA_b (wf_set (k := 0) (v := n + 1) hp (by omega) (show 1 ≤ n + 1 by omega) (show n + 1 ≤ 8 by omega)) (Ps P)
    show (if _ then (n + 1, _, _) else bEv P n).1 ≤ n + 1 ∧ (if _ then (n + 1, _, _) else bEv P n).2.1 ≤ 800 ∧ (if _ then (n + 1, _, _) else bEv P n).2.2 ≤ 1000000
    split
    · exact ⟨Nat.le_refl _, w, a⟩
    · exact ⟨by omega, i.2.1, i.2.2⟩
theorem cHarmed {T lo : Nat → Nat} (hM : CO M) (hP : isPgC M 1 P) (hp : wfP P) (pr : isPr M P T lo) (hT : updN T 3 0 = updN (Pt P) 3 0) {l : Nat} (hl : l < PL P) {α : Type} {F : Mm → Option (α × Mm)} {Q : α → Mm → Prop} (k : ∀ M1, XF xSd M M1 → CO M1 → isPgC M1 1 P → isPr M1 P (updN (Pt P) 3 0) (loOne l) → cSn M1 (sndH P l) → (∀ i, i < PL P → zG (sndH P l) i < 2 ^ Pw P) → Rn F M1 Q) : Rn (bnd (gA 0 5) fun v3 => bnd (fX5_loseOnly v3 (nI l)) fun _ => bnd (gA 0 5) fun v4 => bnd (gA 0 0) fun v5 => bnd (fX5_sendPage v4 v5) fun _ => F) M Q := by
  have h20 := hp.2.2.1
  rw [Rn_bnd, cA0_5 hM, Rn_bnd]
  refine (cLoseOnly hM pr (j := l) (by omega)).mono ?_
  rintro - M1 ⟨x1, pr1⟩
  rw [hT] at pr1
  have m1 := hM.xf x1
  have p1 := hP.xf x1 xSd_Pg
  have w : wfP (pT P (updN (Pt P) 3 0)) := wf_set (k := 3) (v := 0) hp (by omega) (by unfold stLo; simp) (by unfold stHi; simp)
  rw [Rn_bnd, cA0_5 m1, Rn_bnd, cA0_0 m1, Rn_bnd]
  refine (cSendPage m1 p1 w ⟨updN_n (by omega), updN_n (by omega), updN_n (by omega), updN_n (by omega)⟩ hp pr1 (loOne5 l)).mono ?_
  rintro - M2 ⟨x2, c2, b2⟩
  exact k M2 (x1.tr (x2.mono xSw_Sd)) (m1.xf x2) (p1.xw x2) (pr1.xw x2) c2 b2
theorem cHarmOp (hM : CO M) (hP : isPgC M 1 P) (hp : wfP P) (x y : Int32) : Rn (fX7_harm 0 x y) M (fun a M' => a = xc 2 0 (spHarm P x y) ∧ XF xSd M M') := by
  have h20 := hp.2.2.1
  unfold fX7_harm spHarm fX7_harm_L14
  rw [Rn_bndX, cNeedLine hM hP hp]
  by_cases g : isLn (PL P) x = true
  · rw [if_pos g, if_pos g]
    obtain ⟨l, hl, rfl⟩ := isLn_t (by omega) g
    rw [ix_n (by omega)]
    show Rn _ M _
    rcases ln_le (n := 2) (by omega) y with ⟨h1, h2⟩ | ⟨h1, h2, h3, k, hk, rfl⟩ | ⟨h1, h2, h3⟩
    · have h2 : isLn 3 y = false := h2
      rw [if_pos h1, Rn_rtn, h2]; exact ⟨rfl, XF.rf⟩
    · have h3 : isLn 3 (nI k) = true := h3
      rw [if_neg h1, if_pos h3]
      have h2 : nI k ≤ (2 : Int32) := h2
      rw [if_pos h2, Rn_bnd, cA0_5 hM, Rn_bnd, cA0_0 hM, Rn_bnd]
      refine (cPrepare hM hP hp).mono ?_
      rintro - M1 ⟨x1, pr⟩
      refine cHarmed (hM.xf x1) (hP.xf x1 xSd_Pg) hp pr rfl hl (fun M2 x2 m2 p2 _ c2 b2 => ?_)
      have x02 := x1.tr x2
      refine Rn_cs (d := nI k = nI 0) Iff.rfl (fun g1 => ?_) (fun g1 => ?_)
      · rw [Rn_bnd, cA0_5 m2, Rn_bnd, cA0_0 m2, Rn_bnd, cWrongLines m2 p2 hp c2 b2, Rn_rtn, if_pos g1]; exact ⟨rfl, x02⟩
      · refine Rn_cs (d := nI k = nI 1) Iff.rfl (fun g2 => ?_) (fun g2 => ?_)
        · rw [Rn_bnd, cA0_5 m2, Rn_bnd, cA0_0 m2, Rn_bnd, cWrongDots m2 p2 hp c2 b2, Rn_rtn, if_neg g1, if_pos g2]; exact ⟨rfl, x02⟩
        · rw [Rn_bnd, cA0_5 m2, Rn_bnd, cA0_0 m2, Rn_bnd, cLastWrong m2 p2 hp c2 b2, Rn_rtn, if_neg g1, if_neg g2]; exact ⟨rfl, x02⟩
    · have h3 : isLn 3 y = false := h3
      have h2 : ¬ y ≤ (2 : Int32) := h2
      rw [if_neg h1, if_neg h2, Rn_rtn, h3]; exact ⟨rfl, XF.rf⟩
  · rw [if_neg g, if_neg g]; exact ⟨rfl, XF.rf⟩
theorem wrst_le (hp : wfP P) (n : Nat) : (wrst P n).1 ≤ n ∧ (wrst P n).2 ≤ 800 := by
  induction n with
  | zero => exact ⟨Nat.le_refl _, Nat.zero_le _⟩
  | succ n ih =>
    have w := zWs_le hp (sndH P n)
    show (if _ then (n + 1, _) else wrst P n).1 ≤ n + 1 ∧ (if _ then (n + 1, _) else wrst P n).2 ≤ 800
    split
    · exact ⟨Nat.le_refl _, w⟩
    · exact ⟨by omega, ih.2⟩
theorem cWorstOp (hM : CO M) (hP : isPgC M 1 P) (hp : wfP P) : Rn (fX7_worst 0) M (fun a M' => a = spWorst P ∧ XF xSd M M') := by
  have h20 := hp.2.2.1
  unfold fX7_worst spWorst
  rw [Rn_bnd, cA0_5 hM, Rn_bnd, cA0_0 hM, Rn_bnd]
  refine (cPrepare hM hP hp).mono ?_
  rintro - M0 ⟨x0, pr0⟩
  refine rn_loopv (F := fun n i => fX7_worst_L17 n 0 (pl (wrst P i).1) (if (wrst P i).1 = 0 then -1 else nI (wrst P i).2) (nI i)) (fun i M' => XF xSd M M' ∧ i ≤ PL P ∧ ∃ T lo, isPr M' P T lo ∧ updN T 3 0 = updN (Pt P) 3 0) (fun i => PL P - i) ?_ fu 0 M0 (by unfold fu; omega) ⟨x0, Nat.zero_le _, _, _, pr0, rfl⟩
  rintro n i M1 ⟨x1, hi, T, lo, pr1, hT⟩ ih
  have m1 := hM.xf x1
  have p1 := hP.xf x1 xSd_Pg
  obtain ⟨w1, w2⟩ := wrst_le hp i
  show Rn (fX7_worst_L17 (n + 1) 0 (pl (wrst P i).1) (if (wrst P i).1 = 0 then -1 else nI (wrst P i).2) (nI i)) M1 _
  unfold fX7_worst_L17 fX7_worst_L71
  rw [Rn_bnd, cA0_0 m1, Rn_bnd, cN p1]
  refine Rn_cs (nle (by omega) (by omega)) (fun g => ?_) (fun g => ?_)
  · rw [Rn_rtn, show i = PL P by omega]; exact ⟨rfl, x1⟩
  · have hl : i < PL P := by omega
    refine cHarmed m1 p1 hp pr1 hT hl (fun M2 x2 m2 p2 pr2 c2 b2 => ?_)
    have zw := zWs_le hp (sndH P i)
    have nx := ih (i + 1) M2 ⟨x1.tr x2, hl, _, _, pr2, by funext j; unfold updN; split <;> rfl⟩ (by omega)
    have e : wrst P (i + 1) = if (wrst P i).1 = 0 ∨ (wrst P i).2 < zWs P (sndH P i) then (i + 1, zWs P (sndH P i)) else wrst P i := rfl
    rw [Rn_bnd, cA0_5 m2, Rn_bnd, cA0_0 m2, Rn_bnd, cWrongDots m2 p2 hp c2 b2, nL1, nI_add]
    refine Rn_cs (d := ¬ ((wrst P i).1 = 0 ∨ (wrst P i).2 < zWs P (sndH P i))) ?_ (fun g1 => ?_) (fun g1 => ?_)
    · by_cases q : (wrst P i).1 = 0
      · rw [if_pos q]
        have : ¬ nI (zWs P (sndH P i)) ≤ -nI 1 := by
          rw [Int32.le_iff_toInt_le, nI_tI (by omega), show (-nI 1).toInt = -1 from by decide]; omega
        constructor
        · intro z; exact absurd z this
        · intro z; exact absurd (Or.inl q) z
      · rw [if_neg q, nle (by omega) (by omega)]; omega
    · rw [e, if_neg g1] at nx; exact nx
    · have g1 := Classical.not_not.mp g1
      rw [e, if_pos g1] at nx
      have nx : Rn (fX7_worst_L17 n 0 (pl (i + 1)) (if i + 1 = 0 then -1 else nI (zWs P (sndH P i))) (nI (i + 1))) M2 _ := nx
      rw [pl_s, if_neg (by omega)] at nx
      exact nx
theorem isPr.set {T lo : Nat → Nat} (pr : isPr M P T lo) {v : Nat} : isPr (sI M 22 0 (nI v)) P (updN T 0 v) lo := by
  obtain ⟨r1, r2, r3, r4, r5⟩ := pr
  exact ⟨sI_self, by rw [Mi_sI, if_neg (by omega)]; exact r2, fun i hi => by rw [ne_row (by omega)]; exact r3 i hi, fun i hi => by rw [ne_row (by omega)]; exact r4 i hi, fun i hi => by rw [ne_row (by omega)]; exact r5 i hi⟩
theorem isPr.set3 {T lo : Nat → Nat} (pr : isPr M P T lo) {v : Nat} : isPr (sI M 22 1 (nI v)) P (updN T 3 v) lo := by
  obtain ⟨r1, r2, r3, r4, r5⟩ := pr
  exact ⟨by rw [Mi_sI, if_neg (by omega)]; exact r1, sI_self, fun i hi => by rw [ne_row (by omega)]; exact r3 i hi, fun i hi => by rw [ne_row (by omega)]; exact r4 i hi, fun i hi => by rw [ne_row (by omega)]; exact r5 i hi⟩
theorem updN_2 {f : Nat → Nat} {k v w : Nat} : updN (updN f k v) k w = updN f k w := by funext j; unfold updN; split <;> rfl
theorem cBestOp (hM : CO M) (hP : isPgC M 1 P) (hp : wfP P) : Rn (fX7_bestEvery 0) M (fun a M' => a = spBest P ∧ XF xSd M M') := by
  unfold fX7_bestEvery spBest
  rw [Rn_bnd, cA0_5 hM, Rn_bnd, cA0_0 hM, Rn_bnd]
  refine (cPrepare hM hP hp).mono ?_
  rintro - M0 ⟨x0, pr0⟩
  rw [Rn_bnd, nL0, Rn_tS, vpB_nI (by omega), nI_clamp (by omega)]
  refine ⟨by decide, ?_⟩
  have bad : nI (bEv P 8).1 = (if (bEv P 8).1 = 0 then -1 else nI (bEv P 8).1) := by rw [if_neg (bEv_1 P 7)]
  rw [bad]
  refine rn_loopv (F := fun n i => fX7_bestEvery_L24 n 0 (if (bEv P i).1 = 0 then -1 else nI (bEv P i).1) (nI (bEv P i).2.1) (nI (bEv P i).2.2) (nI (i + 1))) (fun i M' => XF xSd M M' ∧ i ≤ 8 ∧ ∃ v, isPr M' P (updN (Pt P) 0 v) (Ps P)) (fun i => 8 - i) ?_ fu 0 M0 (by unfold fu; omega) ⟨x0, Nat.zero_le _, Pt P 0, by rw [show updN (Pt P) 0 (Pt P 0) = Pt P from by funext j; unfold updN; split; rename_i q; rw [q]; rfl]; exact pr0⟩
  rintro n i M1 ⟨x1, hi, v, pr1⟩ ih
  have m1 := hM.xf x1
  obtain ⟨w1, w2, w3⟩ := bEv_le hp i hi
  show Rn (fX7_bestEvery_L24 (n + 1) 0 (if (bEv P i).1 = 0 then -1 else nI (bEv P i).1) (nI (bEv P i).2.1) (nI (bEv P i).2.2) (nI (i + 1))) M1 _
  unfold fX7_bestEvery_L24
  rw [Rn_bnd, Rn_tS]
  refine ⟨by decide, ?_⟩
  refine Rn_cs (show (8 : Int32) < nI (i + 1) ↔ 8 < i + 1 from nlt (a := 8) (by omega) (by omega)) (fun g => ?_) (fun g => ?_)
  · rw [Rn_rtn, show i = 8 by omega]; exact ⟨rfl, x1⟩
  · have wf := wf_set (k := 0) (v := i + 1) hp (by omega) (show 1 ≤ i + 1 by omega) (show i + 1 ≤ 8 by omega)
    rw [Rn_bnd, cA0_5 m1, Rn_bnd, Rn_pI]
    have pr2 := pr1.set (v := i + 1)
    rw [updN_2] at pr2
    have x2 : XF xSd M (sI M1 22 0 (nI (i + 1))) := x1.sI rfl
    generalize sI M1 22 0 (nI (i + 1)) = M2 at pr2 x2
    have m2 := hM.xf x2
    have p2 := hP.xf x2 xSd_Pg
    rw [Rn_bnd, cA0_5 m2, Rn_bnd, cA0_0 m2, Rn_bnd]
    refine (cSendPage m2 p2 wf ⟨updN_n (by omega), updN_n (by omega), updN_n (by omega), updN_n (by omega)⟩ hp pr2 hp.2.2.2.2.1).mono ?_
    rintro - M3 ⟨x3, c3, b3⟩
    have x03 := x2.tr (x3.mono xSw_Sd)
    have m3 := m2.xf x3
    have p3 := p2.xw x3
    have pr3 := pr2.xw x3
    have c3 : cSn M3 (sndA (pSet P 0 (i + 1)) (Ps P)) := c3
    have b3 : ∀ j, j < PL P → zG (sndA (pSet P 0 (i + 1)) (Ps P)) j < 2 ^ Pw P := b3
    have zw := zWs_le hp (sndA (pSet P 0 (i + 1)) (Ps P))
    have za := sndA_b wf (Ps P)
    have e : bEv P (i + 1) = if (bEv P i).1 = 0 ∨ zWs P (sndA (pSet P 0 (i + 1)) (Ps P)) < (bEv P i).2.1 ∨ (zWs P (sndA (pSet P 0 (i + 1)) (Ps P)) = (bEv P i).2.1 ∧ zA (sndA (pSet P 0 (i + 1)) (Ps P)) < (bEv P i).2.2) then (i + 1, zWs P (sndA (pSet P 0 (i + 1)) (Ps P)), zA (sndA (pSet P 0 (i + 1)) (Ps P))) else bEv P i := rfl
    have nx := ih (i + 1) M3 ⟨x03, by omega, i + 1, pr3⟩ (by omega)
    have take : ((bEv P i).1 = 0 ∨ zWs P (sndA (pSet P 0 (i + 1)) (Ps P)) < (bEv P i).2.1 ∨ (zWs P (sndA (pSet P 0 (i + 1)) (Ps P)) = (bEv P i).2.1 ∧ zA (sndA (pSet P 0 (i + 1)) (Ps P)) < (bEv P i).2.2)) → Rn (fX7_bestEvery_L95 (fX7_bestEvery_L24 n) 0 (nI (i + 1)) (nI (zWs P (sndA (pSet P 0 (i + 1)) (Ps P))))) M3 (fun a M' => a = (if (bEv P 8).1 = 0 then -1 else nI (bEv P 8).1) ∧ XF xSd M M') := by
      intro z
      rw [e, if_pos z] at nx
      have nx : Rn (fX7_bestEvery_L24 n 0 (if i + 1 = 0 then -1 else nI (i + 1)) (nI (zWs P (sndA (pSet P 0 (i + 1)) (Ps P)))) (nI (zA (sndA (pSet P 0 (i + 1)) (Ps P)))) (nI (i + 1 + 1))) M3 _ := nx
      rw [if_neg (by omega)] at nx
      unfold fX7_bestEvery_L95 fX7_bestEvery_L109
      rw [Rn_bnd, cA0_5 m3, Rn_bnd, Rn_gI, c3.2.2.2.2.2.1, nL1, nI_add]
      exact nx
    have leave : ¬ ((bEv P i).1 = 0 ∨ zWs P (sndA (pSet P 0 (i + 1)) (Ps P)) < (bEv P i).2.1 ∨ (zWs P (sndA (pSet P 0 (i + 1)) (Ps P)) = (bEv P i).2.1 ∧ zA (sndA (pSet P 0 (i + 1)) (Ps P)) < (bEv P i).2.2)) → Rn (fX7_bestEvery_L109 (fX7_bestEvery_L24 n) 0 (if (bEv P i).1 = 0 then -1 else nI (bEv P i).1) (nI (bEv P i).2.1) (nI (bEv P i).2.2) (nI (i + 1))) M3 (fun a M' => a = (if (bEv P 8).1 = 0 then -1 else nI (bEv P 8).1) ∧ XF xSd M M') := by
      intro z
      rw [e, if_neg z] at nx
      unfold fX7_bestEvery_L109
      rw [show nI (i + 1) + 1 = nI (i + 1 + 1) from by rw [nL1, nI_add]]
      exact nx
    rw [Rn_bnd, cA0_5 m3, Rn_bnd, cA0_0 m3, Rn_bnd, cWrongDots m3 p3 hp c3 b3]
    refine Rn_cs (d := (bEv P i).1 = 0) ?_ (fun g1 => take (Or.inl g1)) (fun g1 => ?_)
    · by_cases q : (bEv P i).1 = 0
      · rw [if_pos q]; exact ⟨fun _ => q, fun _ => rfl⟩
      · rw [if_neg q]; exact ⟨fun z => absurd z (ne_m1 (by omega)), fun z => absurd z q⟩
    · refine Rn_cs (nlt (by omega) (by omega)) (fun g2 => take (Or.inr (Or.inl g2))) (fun g2 => ?_)
      refine Rn_cs (neq (by omega) (by omega)) (fun g3 => ?_) (fun g3 => leave (by omega))
      rw [Rn_bnd, cA0_5 m3, Rn_bnd, Rn_gI, c3.2.2.2.2.2.1]
      refine Rn_cs (nle (by omega) (by omega)) (fun g4 => leave (by omega)) (fun g4 => take (Or.inr (Or.inr ⟨g3, by omega⟩)))
theorem nStp_s (P : Pg) (n k : Nat) : nStp P (n + 1) k = if zWs P (sndA (pSet P 3 k) (Ps P)) = 0 then nI k else nStp P n (k + 1) := rfl
theorem cStepsOp (hM : CO M) (hP : isPgC M 1 P) (hp : wfP P) : Rn (fX7_needsSteps 0) M (fun a M' => a = spSteps P ∧ XF xSd M M') := by
  unfold fX7_needsSteps spSteps
  rw [Rn_bnd, cA0_5 hM, Rn_bnd, cA0_0 hM, Rn_bnd]
  refine (cPrepare hM hP hp).mono ?_
  rintro - M0 ⟨x0, pr0⟩
  rw [Rn_bnd, Rn_tS]
  refine ⟨by decide, ?_⟩
  refine rn_loopv (F := fun n i => fX7_needsSteps_L17 n 0 (nI i)) (fun i M' => XF xSd M M' ∧ i ≤ 10 ∧ nStp P (10 - i) i = nStp P 10 0 ∧ ∃ v, isPr M' P (updN (Pt P) 3 v) (Ps P)) (fun i => 10 - i) ?_ fu 0 M0 (by unfold fu; omega) ⟨x0, Nat.zero_le _, rfl, Pt P 3, by rw [show updN (Pt P) 3 (Pt P 3) = Pt P from by funext j; unfold updN; split; rename_i q; rw [q]; rfl]; exact pr0⟩
  rintro n i M1 ⟨x1, hi, he, v, pr1⟩ ih
  have m1 := hM.xf x1
  show Rn (fX7_needsSteps_L17 (n + 1) 0 (nI i)) M1 _
  unfold fX7_needsSteps_L17
  rw [Rn_bnd, Rn_tS]
  refine ⟨by decide, ?_⟩
  refine Rn_cs (show (9 : Int32) < nI i ↔ 9 < i from nlt (a := 9) (by omega) (by omega)) (fun g => ?_) (fun g => ?_)
  · rw [Rn_rtn, ← he, show i = 10 by omega]; exact ⟨rfl, x1⟩
  · have wf := wf_set (k := 3) (v := i) hp (by omega) (show stLo 3 ≤ i by unfold stLo; simp) (show i ≤ stHi 3 by unfold stHi; simp; omega)
    rw [Rn_bnd, cA0_5 m1, Rn_bnd, Rn_pI]
    have pr2 := pr1.set3 (v := i)
    rw [updN_2] at pr2
    have x2 : XF xSd M (sI M1 22 1 (nI i)) := x1.sI rfl
    generalize sI M1 22 1 (nI i) = M2 at pr2 x2
    have m2 := hM.xf x2
    have p2 := hP.xf x2 xSd_Pg
    rw [Rn_bnd, cA0_5 m2, Rn_bnd, cA0_0 m2, Rn_bnd]
    refine (cSendPage m2 p2 wf ⟨updN_n (by omega), updN_n (by omega), updN_n (by omega), updN_n (by omega)⟩ hp pr2 hp.2.2.2.2.1).mono ?_
    rintro - M3 ⟨x3, c3, b3⟩
    have x03 := x2.tr (x3.mono xSw_Sd)
    have m3 := m2.xf x3
    have p3 := p2.xw x3
    have pr3 := pr2.xw x3
    have c3 : cSn M3 (sndA (pSet P 3 i) (Ps P)) := c3
    have b3 : ∀ j, j < PL P → zG (sndA (pSet P 3 i) (Ps P)) j < 2 ^ Pw P := b3
    have zw := zWs_le hp (sndA (pSet P 3 i) (Ps P))
    rw [show 10 - i = (10 - (i + 1)) + 1 by omega, nStp_s] at he
    rw [Rn_bnd, cA0_5 m3, Rn_bnd, cA0_0 m3, Rn_bnd, cWrongDots m3 p3 hp c3 b3]
    refine Rn_cs (show nI (zWs P (sndA (pSet P 3 i) (Ps P))) = 0 ↔ zWs P (sndA (pSet P 3 i) (Ps P)) = 0 from neq (b := 0) (by omega) (by omega)) (fun g1 => ?_) (fun g1 => ?_)
    · rw [if_pos g1] at he
      rw [Rn_rtn, ← he]; exact ⟨rfl, x03⟩
    · rw [if_neg g1] at he
      rw [nL1, nI_add]
      exact ih (i + 1) M3 ⟨x03, by omega, he, i, pr3⟩ (by omega)
end CHarm

