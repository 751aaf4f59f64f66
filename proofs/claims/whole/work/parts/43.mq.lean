/-! NUMBERS that are no NaN -/
theorem nf64_of {r : UInt64} (h : r.toNat % 2 ^ 63 < 2047 * 2 ^ 52) : nf64 r = true := by
  unfold nf64
  rw [decide_eq_true_eq, UInt64.le_iff_toNat_le, UInt64.toNat_and]
  show r.toNat &&& (2 ^ 63 - 1) ≤ 2047 * 2 ^ 52
  rw [Nat.and_two_pow_sub_one_eq_mod]; omega
theorem nf32_of {r : UInt32} (h : r.toNat % 2 ^ 31 < 255 * 2 ^ 23) : nf32 r = true := by
  unfold nf32
  rw [decide_eq_true_eq, UInt32.le_iff_toNat_le, UInt32.toNat_and]
  show r.toNat &&& (2 ^ 31 - 1) ≤ 255 * 2 ^ 23
  rw [Nat.and_two_pow_sub_one_eq_mod]; omega
theorem nf_ddiv (a : Int32) {b : Int32} (h : b.toInt ≠ 0) : nf64 (FP.ddiv (FP.i2d a) (FP.i2d b)) = true := by
  have h1 := Jvm.FP.Core.i2d_mag a
  have h2 := Jvm.FP.Core.i2d_big h
  have h3 := Jvm.FP.Core.ddiv_mag h1 h2.1 h2.2 (by decide) (by decide)
  exact nf64_of (r := FP.ddiv (FP.i2d a) (FP.i2d b)) (Nat.lt_trans h3 (by decide))
theorem nf_fdiv (a : Int32) {b : Int32} (h : b.toInt ≠ 0) : nf32 (FP.fdiv (FP.i2f a) (FP.i2f b)) = true := by
  have h1 := Jvm.FP.Core.i2f_mag a
  have h2 := Jvm.FP.Core.i2f_big h
  have h3 := Jvm.FP.Core.fdiv_mag h1 h2.1 h2.2 (by decide) (by decide)
  exact nf32_of (r := FP.fdiv (FP.i2f a) (FP.i2f b)) (Nat.lt_trans h3 (by decide))
def spPerDot (P : Pg) : UInt64 := if PL P = 0 then 0 else FP.ddiv (FP.i2d (nI (zA (sndA P (Ps P))))) (FP.i2d (nI (Pw P * PL P)))
def spByAbove (P : Pg) : UInt32 := if PL P = 0 then 0 else FP.fdiv (FP.i2f (nI (PL P - cntV P 0 10))) (FP.i2f (nI (PL P)))
theorem pl_m1 {q : Nat} (h : q < 2147483648) : pl q = -1 ↔ q = 0 := by
  rw [← Int32.toInt_inj, pl_toInt h, show (-1 : Int32).toInt = -1 from by decide]; omega
theorem mks_le (P : Pg) : cntV P 0 10 ≤ PL P := by
  have := sm_le (g := fun l => bN (isMk P l)) (b := 1) (fun l => bN_le _) (PL P)
  show sm (fun l => bN (isMk P l)) (PL P) ≤ PL P
  omega
section MSendD
variable {M : Mm} {P : Pg}
theorem mWorstOp (hM : MO M) (hP : isPgM (Mi M 39) P) (hw : wfP P) : Rn (fX8_worst 38) M (fun b M' => b = spWorst P ∧ XF xSq M M' ∧ Mi M' 39 = Mi M 39) := by
  have h20 := hw.2.2.1
  have hwb : ∀ n, (wrst P n).1 ≤ n ∧ (wrst P n).2 ≤ 800 := by
    intro n
    induction n with
    | zero => exact ⟨Nat.le_refl _, Nat.zero_le _⟩
    | succ n ih =>
      unfold wrst
      split
      · exact ⟨Nat.le_refl _, zWs_le hw _⟩
      · exact ⟨by omega, ih.2⟩
  unfold fX8_worst
  refine mPI0 hM hP (fun M0 x0 t0 m0 p0 => ?_)
  refine rn_loopv (F := fun n i => fX8_worst_L11 n 38 (pl (wrst P i).1) (nI (wrst P i).2) (nI i)) (fun i M' => XF xSq M M' ∧ Mi M' 39 = Mi M 39 ∧ i ≤ PL P) (fun i => PL P - i) ?_ fu 0 M0 (by unfold fu; omega) ⟨x0.mono xRd_Sq, x0.row (fun _ => rfl), Nat.zero_le _⟩
  rintro n i M1 ⟨x1, r1, hi⟩ ih
  show Rn (fX8_worst_L11 (n + 1) 38 (pl (wrst P i).1) (nI (wrst P i).2) (nI i)) M1 _
  have m1 := hM.xf x1
  have p1 : isPgM (Mi M1 39) P := by rw [r1]; exact hP
  unfold fX8_worst_L11
  rw [mRdL m1 p1]
  refine Rn_cs (nle (by omega) (by omega)) (fun h => ?_) (fun h => ?_)
  · rw [Rn_rtn, show i = PL P by omega]; exact ⟨rfl, x1, r1⟩
  · rw [Rn_bnd]
    refine (mHarmed m1 p1 hw (show i < 20 by omega)).mono ?_
    rintro - M2 ⟨x2, r2, -, s2⟩
    have m2 := m1.xf x2
    have p2 : isPgM (Mi M2 39) P := by rw [r2]; exact p1
    have hb := hwb i
    have hz := zWs_le hw (sndH P i)
    rw [Rn_bnd, mWrongs m2 p2 hw (s := sndH P i) s2.1]
    have take : (wrst P i).1 = 0 ∨ (wrst P i).2 < zWs P (sndH P i) → Rn (fX8_worst_L43 (fX8_worst_L11 n) 38 (nI i) (nI (zWs P (sndH P i)))) M2 (fun b M' => b = spWorst P ∧ XF xSq M M' ∧ Mi M' 39 = Mi M 39) := by
      intro g
      have e : wrst P (i + 1) = (i + 1, zWs P (sndH P i)) := by
        show (if _ then _ else _) = _; rw [if_pos g]
      have nx := ih (i + 1) M2 ⟨x1.tr x2, by rw [r2]; exact r1, by omega⟩ (by omega)
      rw [e] at nx
      unfold fX8_worst_L43 fX8_worst_L48
      rw [nL1, nI_add]
      rw [show pl (i + 1, zWs P (sndH P i)).1 = nI i from pl_s i] at nx
      exact nx
    refine Rn_cs (pl_m1 (by omega)) (fun g => take (Or.inl g)) (fun g => ?_)
    refine Rn_cs (nle (by omega) (by omega)) (fun g2 => ?_) (fun g2 => take (Or.inr (by omega)))
    have e : wrst P (i + 1) = wrst P i := by
      show (if _ then _ else _) = _; rw [if_neg (by omega)]
    have nx := ih (i + 1) M2 ⟨x1.tr x2, by rw [r2]; exact r1, by omega⟩ (by omega)
    rw [e] at nx
    unfold fX8_worst_L48
    rw [nL1, nI_add]
    exact nx
theorem mBestOp (hM : MO M) (hP : isPgM (Mi M 39) P) (hw : wfP P) : Rn (fX8_bestEvery 38) M (fun b M' => b = spBest P ∧ XF xSq M M' ∧ Mi M' 39 = Mi M 39) := by
  have he1 := hw.2.2.2.2.2.1
  have wk : ∀ k, 1 ≤ k → k ≤ 8 → wfP (pSet P 0 k) := fun k h1 h2 => wf_set hw (by omega) h1 h2
  have hbv : ∀ n, n ≤ 8 → (bEv P n).1 ≤ n ∧ (n ≠ 0 → (bEv P n).1 ≠ 0) ∧ (bEv P n).2.1 ≤ 800 ∧ (bEv P n).2.2 ≤ 1000000 := by
    intro n
    induction n with
    | zero => intro _; exact ⟨Nat.le_refl _, fun h => absurd rfl h, Nat.zero_le _, Nat.zero_le _⟩
    | succ n ih =>
      intro hn
      have ih := ih (by omega)
      unfold bEv
      split
      · exact ⟨Nat.le_refl _, fun _ => by simp, zWs_le hw _, sndA_b (wk (n + 1) (by omega) hn) _⟩
      · rename_i hno
        exact ⟨by omega, fun _ => by omega, ih.2.2.1, ih.2.2.2⟩
  unfold fX8_bestEvery
  refine mPI0 hM hP (fun M0 x0 t0 m0 p0 => ?_)
  rw [show (2 : Int32) = nI (2 + 0) from rfl, mRdT m0 p0 (k := 0) (by omega)]
  refine rn_loopv (F := fun n i => fX8_bestEvery_L22 n 38 (nI (Pt P 0)) (if i = 0 then -1 else nI (bEv P i).1) (nI (bEv P i).2.1) (nI (bEv P i).2.2) (nI (i + 1))) (fun i M' => XF xSq M M' ∧ (∀ b, b ≠ 2 → Mi M' 39 b = Mi M 39 b) ∧ i ≤ 8) (fun i => 8 - i) ?_ fu 0 M0 (by unfold fu; omega) ⟨x0.mono xRd_Sq, fun b _ => x0.mi rfl, Nat.zero_le _⟩
  rintro n i M1 ⟨x1, r1, hi⟩ ih
  show Rn (fX8_bestEvery_L22 (n + 1) 38 (nI (Pt P 0)) (if i = 0 then -1 else nI (bEv P i).1) (nI (bEv P i).2.1) (nI (bEv P i).2.2) (nI (i + 1))) M1 _
  have m1 := hM.xf x1
  have hb := hbv i hi
  unfold fX8_bestEvery_L22
  refine Rn_cs (d := i = 8) (by rw [nL8, nlt (by omega) (by omega)]; omega) (fun h => ?_) (fun h => ?_)
  · rw [Rn_bnd, mA1 m1, Rn_bnd, show (2 : Int32) = nI 2 from rfl, rn_aI (by omega), mL39 m1, Rn_rtn, if_neg (by omega)]
    have x4 : XF xPg M1 (sI M1 39 2 (nI (Pt P 0))) := XF.rf.sI rfl
    refine ⟨by omega, by rw [h]; rfl, x1.tr (x4.mono xPg_Sq), ?_⟩
    funext b
    rw [Mi_sI]
    by_cases e : b = 2
    · rw [if_pos ⟨rfl, e⟩, e]; exact (hP.t (k := 0) (by omega)).symm
    · rw [if_neg (by omega)]; exact r1 b e
  · rw [Rn_bnd, mA1 m1, Rn_bnd, show (2 : Int32) = nI (2 + 0) from rfl, rn_aI (by omega), mL39 m1]
    refine ⟨by omega, ?_⟩
    have x2 : XF xPg M1 (sI M1 39 (2 + 0) (nI (i + 1))) := XF.rf.sI rfl
    have p2 : isPgM (Mi (sI M1 39 (2 + 0) (nI (i + 1))) 39) (pSet P 0 (i + 1)) := by
      refine ⟨?_, ?_, fun j hj => ?_, fun l hl => ?_, fun l hl k hk => ?_⟩
      · rw [Mi_sI, if_neg (by omega), r1 _ (by omega)]; exact hP.1
      · rw [Mi_sI, if_neg (by omega), r1 _ (by omega)]; exact hP.2.1
      · show _ = nI (updN (Pt P) 0 (i + 1) j)
        rw [Mi_sI]; unfold updN
        by_cases e : j = 0
        · rw [if_pos ⟨rfl, by omega⟩, if_pos e]
        · rw [if_neg (by omega), if_neg e, r1 _ (by omega)]; exact hP.t hj
      · rw [Mi_sI, if_neg (by omega), r1 _ (by omega)]; exact hP.s hl
      · rw [Mi_sI, if_neg (by omega), r1 _ (by omega)]; exact hP.d hl hk
    have r2 : ∀ b, b ≠ 2 → Mi (sI M1 39 (2 + 0) (nI (i + 1))) 39 b = Mi M 39 b := fun b hb => by rw [Mi_sI, if_neg (by omega)]; exact r1 b hb
    generalize sI M1 39 (2 + 0) (nI (i + 1)) = M2 at x2 p2 r2 ⊢
    have m2 := m1.xf x2
    have w2 := wk (i + 1) (by omega) (by omega)
    rw [Rn_bnd]
    refine (mSendPage m2 p2 w2).mono ?_
    rintro - M3 ⟨x3, s3⟩
    have m3 := m2.xf x3
    have p3 : isPgM (Mi M3 39) (pSet P 0 (i + 1)) := by rw [x3.row (fun _ => rfl)]; exact p2
    have r3 : ∀ b, b ≠ 2 → Mi M3 39 b = Mi M 39 b := fun b hb => by rw [x3.row (fun _ => rfl)]; exact r2 b hb
    have x03 := x1.tr ((x2.mono xPg_Sq).tr (x3.mono xSe_Sq))
    have e26 : Mi M3 38 26 = nI (zA (sndA (pSet P 0 (i + 1)) (Ps P))) := s3.2.2.2.2.2.1
    have hz := zWs_le hw (sndA (pSet P 0 (i + 1)) (Ps P))
    have hza := sndA_b w2 (Ps P)
    rw [Rn_bnd, mWrongs m3 p3 w2 (s := sndA (pSet P 0 (i + 1)) (Ps P)) s3.1]
    rw [show zWs (pSet P 0 (i + 1)) (sndA (pSet P 0 (i + 1)) (Ps P)) = zWs P (sndA (pSet P 0 (i + 1)) (Ps P)) from rfl]
    have nx := ih (i + 1) M3 ⟨x03, r3, by omega⟩ (by omega)
    rw [if_neg (by omega)] at nx
    have take : (bEv P i).1 = 0 ∨ zWs P (sndA (pSet P 0 (i + 1)) (Ps P)) < (bEv P i).2.1 ∨ (zWs P (sndA (pSet P 0 (i + 1)) (Ps P)) = (bEv P i).2.1 ∧ zA (sndA (pSet P 0 (i + 1)) (Ps P)) < (bEv P i).2.2) → Rn (fX8_bestEvery_L73 (fX8_bestEvery_L22 n) 38 (nI (Pt P 0)) (nI (i + 1)) (nI (zWs P (sndA (pSet P 0 (i + 1)) (Ps P))))) M3 (fun b M' => b = spBest P ∧ XF xSq M M' ∧ Mi M' 39 = Mi M 39) := by
      intro g
      have e : bEv P (i + 1) = (i + 1, zWs P (sndA (pSet P 0 (i + 1)) (Ps P)), zA (sndA (pSet P 0 (i + 1)) (Ps P))) := by
        show (if _ then _ else _) = _; rw [if_pos g]
      rw [e] at nx
      unfold fX8_bestEvery_L73 fX8_bestEvery_L85
      rw [Rn_bnd, Rn_gI, e26, nL1, nI_add]
      exact nx
    have keep : ¬ ((bEv P i).1 = 0 ∨ zWs P (sndA (pSet P 0 (i + 1)) (Ps P)) < (bEv P i).2.1 ∨ (zWs P (sndA (pSet P 0 (i + 1)) (Ps P)) = (bEv P i).2.1 ∧ zA (sndA (pSet P 0 (i + 1)) (Ps P)) < (bEv P i).2.2)) → Rn (fX8_bestEvery_L85 (fX8_bestEvery_L22 n) 38 (nI (Pt P 0)) (if i = 0 then -1 else nI (bEv P i).1) (nI (bEv P i).2.1) (nI (bEv P i).2.2) (nI (i + 1))) M3 (fun b M' => b = spBest P ∧ XF xSq M M' ∧ Mi M' 39 = Mi M 39) := by
      intro g
      have e : bEv P (i + 1) = bEv P i := by
        show (if _ then _ else _) = _; rw [if_neg g]
      rw [e] at nx
      have i0 : i ≠ 0 := by rintro rfl; exact g (Or.inl rfl)
      unfold fX8_bestEvery_L85
      rw [nL1, nI_add, if_neg i0]
      exact nx
    by_cases i0 : i = 0
    · rw [if_pos i0, if_pos rfl]
      exact take (Or.inl (by rw [i0]; rfl))
    · have b0 := hb.2.1 i0
      have ne1 : ¬ (if i = 0 then (-1 : Int32) else nI (bEv P i).1) = -1 := by rw [if_neg i0]; exact ne_m1 (by omega)
      rw [if_neg ne1]
      refine Rn_cs (nlt (by omega) (by omega)) (fun g1 => take (Or.inr (Or.inl g1))) (fun g1 => ?_)
      refine Rn_cs (neq (by omega) (by omega)) (fun g2 => ?_) (fun g2 => keep (by omega))
      rw [Rn_bnd, Rn_gI, e26]
      refine Rn_cs (nle (by omega) (by omega)) (fun g3 => keep (by omega)) (fun g3 => take (Or.inr (Or.inr ⟨g2, by omega⟩)))
theorem mStepsOp (hM : MO M) (hP : isPgM (Mi M 39) P) (hw : wfP P) : Rn (fX8_needsSteps 38) M (fun b M' => b = spSteps P ∧ XF xSq M M' ∧ Mi M' 39 = Mi M 39) := by
  have wk : ∀ k, k ≤ 9 → wfP (pSet P 3 k) := fun k h2 => wf_set hw (by omega) (Nat.zero_le _) h2
  unfold fX8_needsSteps
  refine mPI0 hM hP (fun M0 x0 t0 m0 p0 => ?_)
  rw [show (5 : Int32) = nI (2 + 3) from rfl, mRdT m0 p0 (k := 3) (by omega)]
  refine rn_loopv (F := fun n (s : Int32 × Nat) => fX8_needsSteps_L16 n 38 (nI (Pt P 3)) s.1 (nI s.2)) (fun s M' => XF xSq M M' ∧ (∀ b, b ≠ 5 → Mi M' 39 b = Mi M 39 b) ∧ s.2 ≤ 10 ∧ ((s.1 = -1 ∧ nStp P (10 - s.2) s.2 = spSteps P) ∨ (s.1 ≠ -1 ∧ s.1 = spSteps P))) (fun s => 10 - s.2) ?_ fu (-1, 0) M0 (by show 10 - 0 < fu; unfold fu; omega) ⟨x0.mono xRd_Sq, fun b _ => x0.mi rfl, Nat.zero_le _, Or.inl ⟨rfl, rfl⟩⟩
  rintro n ⟨f, i⟩ M1 ⟨x1, r1, hi, hf⟩ ih
  have hi : i ≤ 10 := hi
  show Rn (fX8_needsSteps_L16 (n + 1) 38 (nI (Pt P 3)) f (nI i)) M1 _
  have m1 := hM.xf x1
  have fin : f = spSteps P → Rn (fX8_needsSteps_L57 38 (nI (Pt P 3)) f) M1 (fun b M' => b = spSteps P ∧ XF xSq M M' ∧ Mi M' 39 = Mi M 39) := by
    intro e
    unfold fX8_needsSteps_L57
    rw [Rn_bnd, mA1 m1, Rn_bnd, show (5 : Int32) = nI 5 from rfl, rn_aI (by omega), mL39 m1, Rn_rtn]
    have x4 : XF xPg M1 (sI M1 39 5 (nI (Pt P 3))) := XF.rf.sI rfl
    refine ⟨by omega, e, x1.tr (x4.mono xPg_Sq), ?_⟩
    funext b
    rw [Mi_sI]
    by_cases e : b = 5
    · rw [if_pos ⟨rfl, e⟩, e]; exact (hP.t (k := 3) (by omega)).symm
    · rw [if_neg (by omega)]; exact r1 b e
  unfold fX8_needsSteps_L16
  refine Rn_cs (d := i = 10) (by rw [nL9, nlt (by omega) (by omega)]; omega) (fun h => ?_) (fun h => ?_)
  · refine fin ?_
    rcases hf with ⟨h1, h2⟩ | ⟨h1, h2⟩
    · have h1 : f = -1 := h1
      have h2 : nStp P (10 - i) i = spSteps P := h2
      rw [h] at h2
      rw [h1]; exact h2
    · exact h2
  · rcases hf with ⟨h1, h2⟩ | ⟨h1, h2⟩
    · have h1 : f = -1 := h1
      have h2 : nStp P (10 - i) i = spSteps P := h2
      rw [if_pos h1, Rn_bnd, mA1 m1, Rn_bnd, show (5 : Int32) = nI (2 + 3) from rfl, rn_aI (by omega), mL39 m1]
      refine ⟨by omega, ?_⟩
      have x2 : XF xPg M1 (sI M1 39 (2 + 3) (nI i)) := XF.rf.sI rfl
      have p2 : isPgM (Mi (sI M1 39 (2 + 3) (nI i)) 39) (pSet P 3 i) := by
        refine ⟨?_, ?_, fun j hj => ?_, fun l hl => ?_, fun l hl k hk => ?_⟩
        · rw [Mi_sI, if_neg (by omega), r1 _ (by omega)]; exact hP.1
        · rw [Mi_sI, if_neg (by omega), r1 _ (by omega)]; exact hP.2.1
        · show _ = nI (updN (Pt P) 3 i j)
          rw [Mi_sI]; unfold updN
          by_cases e : j = 3
          · rw [if_pos ⟨rfl, by omega⟩, if_pos e]
          · rw [if_neg (by omega), if_neg e, r1 _ (by omega)]; exact hP.t hj
        · rw [Mi_sI, if_neg (by omega), r1 _ (by omega)]; exact hP.s hl
        · rw [Mi_sI, if_neg (by omega), r1 _ (by omega)]; exact hP.d hl hk
      have r2 : ∀ b, b ≠ 5 → Mi (sI M1 39 (2 + 3) (nI i)) 39 b = Mi M 39 b := fun b hb => by rw [Mi_sI, if_neg (by omega)]; exact r1 b hb
      generalize sI M1 39 (2 + 3) (nI i) = M2 at x2 p2 r2 ⊢
      have m2 := m1.xf x2
      have w2 := wk i (by omega)
      rw [Rn_bnd]
      refine (mSendPage m2 p2 w2).mono ?_
      rintro - M3 ⟨x3, s3⟩
      have m3 := m2.xf x3
      have p3 : isPgM (Mi M3 39) (pSet P 3 i) := by rw [x3.row (fun _ => rfl)]; exact p2
      have r3 : ∀ b, b ≠ 5 → Mi M3 39 b = Mi M 39 b := fun b hb => by rw [x3.row (fun _ => rfl)]; exact r2 b hb
      have x03 := x1.tr ((x2.mono xPg_Sq).tr (x3.mono xSe_Sq))
      have hz := zWs_le hw (sndA (pSet P 3 i) (Ps P))
      rw [Rn_bnd, mWrongs m3 p3 w2 (s := sndA (pSet P 3 i) (Ps P)) s3.1]
      rw [show zWs (pSet P 3 i) (sndA (pSet P 3 i) (Ps P)) = zWs P (sndA (pSet P 3 i) (Ps P)) from rfl]
      have e10 : 10 - i = (10 - (i + 1)) + 1 := by omega
      rw [e10] at h2
      have h2 : (if zWs P (sndA (pSet P 3 i) (Ps P)) = 0 then nI i else nStp P (10 - (i + 1)) (i + 1)) = spSteps P := h2
      unfold fX8_needsSteps_L50
      refine Rn_cs (d := zWs P (sndA (pSet P 3 i) (Ps P)) = 0) (by rw [nL0, neq (by omega) (by omega)]) (fun g => ?_) (fun g => ?_)
      · rw [if_pos g] at h2
        rw [nL1, nI_add]
        exact ih (nI i, i + 1) M3 ⟨x03, r3, by show i + 1 ≤ 10; omega, Or.inr ⟨ne_m1 (by omega), h2⟩⟩ (by show 10 - (i + 1) < 10 - i; omega)
      · rw [if_neg g] at h2
        have e1 : nI i + 1 = nI (i + 1) := by rw [nL1, nI_add]
        rw [e1]
        exact ih (-1, i + 1) M3 ⟨x03, r3, by show i + 1 ≤ 10; omega, Or.inl ⟨rfl, h2⟩⟩ (by show 10 - (i + 1) < 10 - i; omega)
    · have h1 : ¬ f = -1 := h1
      rw [if_neg h1]; exact fin h2
theorem mPerDotOp (hM : MO M) (hP : isPgM (Mi M 39) P) (hw : wfP P) : Rn (fX8_perDot 38) M (fun b M' => b = spPerDot P ∧ XF xSq M M' ∧ Mi M' 39 = Mi M 39) := by
  have h40 := hw.2.1
  have h8 := hw.1
  have h20 := hw.2.2.1
  unfold fX8_perDot spPerDot
  refine mPI0 hM hP (fun M0 x0 t0 m0 p0 => ?_)
  rw [mRdL m0 p0]
  refine Rn_cs (d := PL P = 0) (by rw [nL0, neq (by omega) (by omega)]) (fun g => ?_) (fun g => ?_)
  · rw [Rn_rtn, if_pos g]; exact ⟨rfl, x0.mono xRd_Sq, x0.row (fun _ => rfl)⟩
  · rw [if_neg g, Rn_bnd]
    refine (mSendPage m0 p0 hw).mono ?_
    rintro - M1 ⟨x1, s1⟩
    have m1 := m0.xf x1
    have p1 : isPgM (Mi M1 39) P := by rw [x1.row (fun _ => rfl)]; exact p0
    rw [Rn_bnd, Rn_gI, s1.2.2.2.2.2.1, mRdW m1 p1, mRdL m1 p1, pk_mul, Rn_grd, Rn_rtn]
    refine ⟨nf_ddiv _ ?_, rfl, (x0.mono xRd_Sq).tr (x1.mono xSe_Sq), by rw [x1.row (fun _ => rfl), x0.row (fun _ => rfl)]⟩
    have h1 : Pw P * PL P ≤ 40 * 20 := Nat.mul_le_mul h40 h20
    have h2 : 8 * 1 ≤ Pw P * PL P := Nat.mul_le_mul h8 (by omega)
    rw [nI_tI (by omega)]; omega
theorem mByAboveOp (hM : MO M) (hP : isPgM (Mi M 39) P) (hw : wfP P) : Rn (fX8_byAbove 38) M (fun b M' => b = spByAbove P ∧ XF xSq M M' ∧ Mi M' 39 = Mi M 39) := by
  have h20 := hw.2.2.1
  have hk := mks_le P
  unfold fX8_byAbove spByAbove
  refine mPI0 hM hP (fun M0 x0 t0 m0 p0 => ?_)
  rw [mRdL m0 p0, Rn_bnd, show (10 : Int32) = nI 10 from rfl]
  refine (mSum8 m0 p0 hw (x := 10) (by omega)).mono ?_
  rintro a M1 ⟨rfl, x1⟩
  have m1 := m0.xf x1
  have p1 : isPgM (Mi M1 39) P := by rw [x1.row (fun _ => rfl)]; exact p0
  have fr : XF xSq M M1 ∧ Mi M1 39 = Mi M 39 := ⟨(x0.mono xRd_Sq).tr ((x1.mono xCd_Rd).mono xRd_Sq), by rw [x1.row (fun _ => rfl), x0.row (fun _ => rfl)]⟩
  rw [Rn_bnd, Rn_rtn, nsb hk, mRdL m1 p1]
  refine Rn_cs (d := PL P = 0) (by rw [nL0, neq (by omega) (by omega)]) (fun g => ?_) (fun g => ?_)
  · rw [Rn_rtn, if_pos g]; exact ⟨rfl, fr⟩
  · rw [if_neg g, mRdL m1 p1, Rn_grd, Rn_rtn]
    exact ⟨nf_fdiv _ (by rw [nI_tI (by omega)]; omega), rfl, fr⟩
end MSendD
