/-! THE REFERENCE: sending -/
def xSn (h k : Nat) : Bool := (decide (52 ≤ h) && decide (h ≤ 57)) || (h == 38 && (decide (26 ≤ k) && decide (k ≤ 30)))
def xSe (h k : Nat) : Bool := xCd h k || xSn h k
theorem xCd_Se (a b : Nat) (h : xSe a b = false) : xCd a b = false := by unfold xSe at h; cases e : xCd a b <;> simp [e] at h ⊢
theorem xSn_Se (a b : Nat) (h : xSe a b = false) : xSn a b = false := by unfold xSe at h; cases e : xSn a b <;> simp [e] at h ⊢
def gotAt (M : Mm) (l q : Nat) : Prop := ∀ k, k < 40 → Mi M 52 (40 * l + k) = nI (bN (q.testBit k))
def mSn (M : Mm) (s : Sn) (l : Nat) : Prop := (∀ i, i < l → gotAt M i (zG s i)) ∧ (∀ i, i < 20 → Mi M 53 i = nI (zS s i)) ∧ (∀ i, i < 20 → Mi M 54 i = nI (zT s i)) ∧ (∀ i, i < 20 → Mi M 55 i = nI (zC s i)) ∧ (∀ i, i < 20 → Mi M 56 i = nI (zK s i)) ∧ Mi M 38 26 = nI (zA s) ∧ Mi M 38 27 = nI (zD s) ∧ Mi M 38 28 = nI (zP s) ∧ Mi M 38 29 = nI (zL s) ∧ Mi M 38 30 = nI (zU s)
def mLo (M : Mm) (lo : Nat → Nat) : Prop := ∀ i, i < 20 → Mi M 57 i = nI (lo i)
theorem mSn.xf {X : Nat → Nat → Bool} {M M1 : Mm} {s : Sn} {l : Nat} (h : mSn M s l) (x : XF X M M1) (q : ∀ a b, xSn a b = true → X a b = false) : mSn M1 s l := by
  obtain ⟨h1, h2, h3, h4, h5, h6, h7, h8, h9, h10⟩ := h
  refine ⟨fun i hi k hk => by rw [x.mi (q 52 _ rfl)]; exact h1 i hi k hk, fun i hi => by rw [x.mi (q 53 _ rfl)]; exact h2 i hi, fun i hi => by rw [x.mi (q 54 _ rfl)]; exact h3 i hi, fun i hi => by rw [x.mi (q 55 _ rfl)]; exact h4 i hi, fun i hi => by rw [x.mi (q 56 _ rfl)]; exact h5 i hi, by rw [x.mi (q 38 26 rfl)]; exact h6, by rw [x.mi (q 38 27 rfl)]; exact h7, by rw [x.mi (q 38 28 rfl)]; exact h8, by rw [x.mi (q 38 29 rfl)]; exact h9, by rw [x.mi (q 38 30 rfl)]; exact h10⟩
theorem xSn_Cd (a b : Nat) (h : xSn a b = true) : xCd a b = false := by
  unfold xSn at h
  unfold xCd xK xR xD xL
  by_cases e : a = 38
  · subst e; simp at h ⊢; omega
  · simp [e] at h ⊢; omega
theorem up_row {M : Mm} {a j : Nat} {g : Nat → Nat} {v : Nat} (h : ∀ i, i < 20 → Mi M a i = nI (g i)) : ∀ i, i < 20 → Mi (sI M a j (nI v)) a i = nI (updN g j v i) := by
  intro i hi
  rw [Mi_sI]; unfold updN
  by_cases e : i = j
  · rw [if_pos ⟨rfl, e⟩, if_pos e]
  · rw [if_neg (fun z => e z.2), if_neg e]; exact h i hi
theorem ne_row {M : Mm} {a b j : Nat} {v : Int32} (h : a ≠ b) (i : Nat) : Mi (sI M b j v) a i = Mi M a i := by rw [Mi_sI, if_neg (fun z => h z.1)]
section MSend
variable {M : Mm} {P : Pg}
theorem mWrong (hM : MO M) (hP : isPgM (Mi M 39) P) (hw : wfP P) {l q : Nat} (hl : l < PL P) (hg : gotAt M l q) {Q : Int32 → Mm → Prop} : Rn (fX8_wrongIn 38 (nI l)) M Q ↔ Q (nI (dif (Pw P) q (Pr P l))) M := by
  have h40 := hw.2.1
  have h20 := hw.2.2.1
  refine Rn_det ?_
  unfold fX8_wrongIn
  refine rn_loopv (F := fun n i => fX8_wrongIn_L4 n 38 (nI l) (nI (cn (fun k => q.testBit k != (Pr P l).testBit k) i)) (nI i)) (fun i M' => M' = M ∧ i ≤ Pw P) (fun i => Pw P - i) ?_ fu 0 M (by unfold fu; omega) ⟨rfl, Nat.zero_le _⟩
  rintro n i M1 ⟨rfl, hi⟩ ih
  show Rn (fX8_wrongIn_L4 (n + 1) 38 (nI l) (nI (cn (fun k => q.testBit k != (Pr P l).testBit k) i)) (nI i)) M1 _
  unfold fX8_wrongIn_L4 fX8_wrongIn_L44
  rw [mRdW hM hP]
  refine Rn_cs (nle (by omega) (by omega)) (fun h => ?_) (fun h => ?_)
  · rw [Rn_rtn, show i = Pw P by omega]; exact ⟨rfl, rfl⟩
  · have nx := ih (i + 1) M1 ⟨rfl, by omega⟩ (by omega)
    rw [cn_s] at nx
    rw [Rn_bnd, mA20 hM, Rn_bnd, nL40, pk_mul, nI_add, rn_lI (by omega), mL52 hM, hg i (by omega)]
    refine ⟨by omega, ?_⟩
    rw [mRdD hM hP hw hl (by omega)]
    refine Rn_cs (bx_eq _ _) (fun h5 => ?_) (fun h5 => ?_)
    · rw [Rn_bnd, Rn_rtn, nL0, nI_add, nL1, nI_add]
      rw [h5] at nx; exact nx
    · rw [Rn_bnd, Rn_rtn, nL1, nI_add, nI_add]
      rw [show (q.testBit i != (Pr P l).testBit i) = true by simpa using h5] at nx; exact nx
theorem mLosses (hM : MO M) (hP : isPgM (Mi M 39) P) : Rn (fX8_laysLosses 38) M (fun _ M' => XF xSn M M' ∧ mLo M' (Ps P)) := by
  unfold fX8_laysLosses
  refine rn_loopv (F := fun n i => fX8_laysLosses_L2 n 38 (nI i)) (fun i M' => XF xSn M M' ∧ i ≤ 20 ∧ ∀ k, k < i → Mi M' 57 k = nI (Ps P k)) (fun i => 20 - i) ?_ fu 0 M (by unfold fu; omega) ⟨XF.rf, by omega, fun k hk => by omega⟩
  rintro n i M1 ⟨x1, hi, hk⟩ ih
  show Rn (fX8_laysLosses_L2 (n + 1) 38 (nI i)) M1 _
  have m1 := hM.xf x1
  have p1 : isPgM (Mi M1 39) P := by rw [x1.row (fun _ => rfl)]; exact hP
  unfold fX8_laysLosses_L2
  refine Rn_cs (nle (a := 20) (by omega) (by omega)) (fun h => ?_) (fun h => ?_)
  · rw [Rn_rtn]; exact ⟨x1, fun k hk2 => hk k (by omega)⟩
  · rw [Rn_bnd, mA25 m1, nL8, nI_add, mRdS m1 p1 (by omega), Rn_bnd, rn_aI (by omega), mL57 m1, nL1, nI_add]
    exact ⟨by omega, ih (i + 1) _ ⟨x1.sI rfl, by omega, fill_s hk rfl⟩ (by omega)⟩
theorem mFills (hM : MO M) (hP : isPgM (Mi M 39) P) (hw : wfP P) {s : Sn} {l how : Nat} (hl : l < PL P) (hs : mSn M s l) : Rn (fX8_fills 38 (nI l) (nI how)) M (fun _ M' => XF xSn M M' ∧ mSn M' (zFill P l how s) (l + 1) ∧ ∀ lo, mLo M lo → mLo M' lo) := by
  have h20 := hw.2.2.1
  have hf := hw.2.2.2.2.2.2.2.1
  unfold fX8_fills
  refine rn_loopv (F := fun n i => fX8_fills_L2 n 38 (nI l) (nI how) (nI i)) (fun i M' => XF xSn M M' ∧ i ≤ 40 ∧ (∀ a b, ¬ a = 52 → Mi M' a b = Mi M a b) ∧ (∀ j, j < 40 * l → Mi M' 52 j = Mi M 52 j) ∧ ∀ k, k < i → Mi M' 52 (40 * l + k) = nI (bN ((if Pt P 2 = 1 then 0 else rowAb s l).testBit k))) (fun i => 40 - i) ?_ fu 0 M (by unfold fu; omega) ⟨XF.rf, by omega, fun _ _ _ => rfl, fun _ _ => rfl, fun k hk => by omega⟩
  rintro n i M1 ⟨x1, hi, ho, hj, hk⟩ ih
  show Rn (fX8_fills_L2 (n + 1) 38 (nI l) (nI how) (nI i)) M1 _
  have m1 := hM.xf x1
  have p1 : isPgM (Mi M1 39) P := by rw [x1.row (fun _ => rfl)]; exact hP
  unfold fX8_fills_L2
  refine Rn_cs (nle (a := 40) (by omega) (by omega)) (fun h => ?_) (fun h => ?_)
  · rw [Rn_bnd, mA21 m1, Rn_bnd, rn_aI (by omega), mL53 m1, Rn_rtn]
    refine ⟨by omega, x1.sI rfl, ?_, fun lo hlo i2 hi2 => by rw [ne_row (by decide), ho _ _ (by decide)]; exact hlo i2 hi2⟩
    obtain ⟨h1, h2, h3, h4, h5, h6, h7, h8, h9, h10⟩ := hs
    refine ⟨fun a ha k hk2 => ?_, ?_, fun a ha => ?_, fun a ha => ?_, fun a ha => ?_, ?_, ?_, ?_, ?_, ?_⟩
    · rw [ne_row (by decide)]
      show _ = nI (bN ((updN (zG s) l _ a).testBit k))
      by_cases e : a = l
      · subst e; rw [updN_s]; exact hk k (by omega)
      · rw [updN_n e, hj _ (by omega)]; exact h1 a (by omega) k hk2
    · exact up_row (fun a ha => by rw [ho _ _ (by decide)]; exact h2 a ha)
    · rw [ne_row (by decide), ho _ _ (by decide)]; exact h3 a ha
    · rw [ne_row (by decide), ho _ _ (by decide)]; exact h4 a ha
    · rw [ne_row (by decide), ho _ _ (by decide)]; exact h5 a ha
    · rw [ne_row (by decide), ho _ _ (by decide)]; exact h6
    · rw [ne_row (by decide), ho _ _ (by decide)]; exact h7
    · rw [ne_row (by decide), ho _ _ (by decide)]; exact h8
    · rw [ne_row (by decide), ho _ _ (by decide)]; exact h9
    · rw [ne_row (by decide), ho _ _ (by decide)]; exact h10
  · have nx : ∀ v : Int32, v = nI (bN ((if Pt P 2 = 1 then 0 else rowAb s l).testBit i)) → Rn (fX8_fills_L49 (fX8_fills_L2 n) 38 (nI l) (nI how) (nI i) v (nI (40 * l + i)) 52) M1 (fun _ M' => XF xSn M M' ∧ mSn M' (zFill P l how s) (l + 1) ∧ ∀ lo, mLo M lo → mLo M' lo) := by
      rintro v rfl
      unfold fX8_fills_L49
      rw [Rn_bnd, rn_aI (by omega), mL52 m1, nL1, nI_add]
      refine ⟨by omega, ih (i + 1) _ ⟨x1.sI rfl, by omega, fun a b hab => by rw [ne_row hab]; exact ho a b hab, fun j hj2 => by rw [Mi_sI, if_neg (by omega)]; exact hj j hj2, fun k hk2 => ?_⟩ (by omega)⟩
      rw [Mi_sI]
      by_cases e : k = i
      · rw [if_pos ⟨rfl, by omega⟩, e]
      · rw [if_neg (by omega)]; exact hk k (by omega)
    rw [Rn_bnd, mA20 m1, show (4 : Int32) = nI (2 + 2) from rfl, mRdT m1 p1 (k := 2) (by omega)]
    unfold fX8_fills_L32
    refine Rn_cs (d := Pt P 2 = 1) (by rw [nL1, neq (by omega) (by omega)]) (fun h1 => ?_) (fun h1 => ?_)
    · rw [nL40, pk_mul, nI_add]
      exact nx 0 (by rw [if_pos h1, Nat.zero_testBit]; rfl)
    · refine Rn_cs (d := l = 0) (by rw [nL0, neq (by omega) (by omega)]) (fun h2 => ?_) (fun h2 => ?_)
      · rw [nL40, pk_mul, nI_add]
        refine nx 0 ?_
        rw [if_neg h1]; unfold rowAb; rw [if_pos h2, Nat.zero_testBit]; rfl
      · rw [Rn_bnd, mA20 m1, Rn_bnd, nL1, nsb (by omega), nL40, pk_mul, nI_add, rn_lI (by omega), mL52 m1, hj _ (by omega), hs.1 (l - 1) (by omega) i (by omega), pk_mul, nI_add]
        refine ⟨by omega, nx _ ?_⟩
        rw [if_neg h1]; unfold rowAb; rw [if_neg h2]
theorem mIsRead (hM : MO M) (hP : isPgM (Mi M 39) P) (hw : wfP P) {s : Sn} {l : Nat} (hl : l < PL P) (hg : ∀ i, i < l → gotAt M i (zG s i)) : Rn (fX8_isRead 38 (nI l)) M (fun a M' => a = nI (bN (zRead P l s).isSome) ∧ XF xCd M M' ∧ ∀ q, zRead P l s = some q → isRow (Mi M' 50) q) := by
  have h20 := hw.2.2.1
  have h40 := hw.2.1
  unfold fX8_isRead
  rw [Rn_bnd]
  refine (mMark hM hP hw hl).mono ?_
  rintro a M1 ⟨rfl, x1⟩
  have m1 := hM.xf x1
  have p1 : isPgM (Mi M1 39) P := by rw [x1.row (fun _ => rfl)]; exact hP
  rw [Rn_bnd]
  refine (mCLine m1 p1 hw hl).mono ?_
  rintro - M2 ⟨x2, c1, c2, c3, c4, c5, c6, c7⟩
  have m2 := m1.xf x2
  have x12 := x1.tr x2
  have lc := cod_len (Pw P) (Pr P l) (Pu P l)
  refine Rn_cs (bN_0 _) (fun h => ?_) (fun h => ?_)
  · have hl0 : l ≠ 0 := by rintro rfl; rw [isMk_0] at h; cases h
    have ez : zRead P l s = rdC (Pw P) (zG s (l - 1)) (cod (Pw P) (Pr P l) (Pu P l)) := by
      unfold zRead rowAb; rw [if_neg (by rw [h]; decide), if_neg hl0]
    rw [ez, Rn_bnd, mA20 m2, Rn_bnd, nL1, nsb (by omega), nL40, pk_mul]
    refine (mUpperF m2 (a := 52) (r := zG s (l - 1)) (by decide) (by decide) (by rw [mL52 m2]; omega) (by omega) (fun k hk => by rw [x12.mi rfl]; exact hg (l - 1) (by omega) k hk)).mono ?_
    rintro - M3 ⟨x3, t3, u3⟩
    have m3 := m2.xf x3
    rw [Rn_bnd]
    refine (mReads (L := cod (Pw P) (Pr P l) (Pu P l)) m3 (by rw [t3]; exact c1) h40 u3 (cod_ok h40) (by omega) (by rw [t3]; exact c4) (by rw [x3.row (fun _ => rfl), x3.row (fun _ => rfl), x3.row (fun _ => rfl), x3.row (fun _ => rfl)]; exact c5)).mono ?_
    rintro a M4 ⟨rfl, x4, r4⟩
    rw [Rn_grd, Rn_rtn]
    exact ⟨bN_g _, rfl, (x12.tr (x3.mono (fun a b z => xU_L a b (xL_Cd a b z)))).tr (x4.mono xD_Cd), r4⟩
  · have ez : zRead P l s = some (Pr P l) := by unfold zRead; rw [if_pos (by simpa using h)]
    rw [ez]
    refine rn_loopv (F := fun n i => fX8_isRead_L17 n 38 (nI i)) (fun i M' => XF xD M2 M' ∧ i ≤ 40 ∧ ∀ k, k < i → Mi M' 50 k = nI (bN ((Pr P l).testBit k))) (fun i => 40 - i) ?_ fu 0 M2 (by unfold fu; omega) ⟨XF.rf, by omega, fun k hk => by omega⟩
    rintro n i M3 ⟨x3, hi, hk⟩ ih
    show Rn (fX8_isRead_L17 (n + 1) 38 (nI i)) M3 _
    have m3 := m2.xf x3
    unfold fX8_isRead_L17
    refine Rn_cs (nle (a := 40) (by omega) (by omega)) (fun h4 => ?_) (fun h4 => ?_)
    · rw [Rn_grd, Rn_rtn]
      exact ⟨by decide, rfl, x12.tr (x3.mono xD_Cd), fun q hq => by cases hq; exact fun k hk2 => hk k (by omega)⟩
    · rw [Rn_bnd, mA15 m3, Rn_bnd, mA8 m3, Rn_bnd, rn_lI (by omega), mL45 m3, x3.mi rfl, c3 i (by omega), Rn_bnd, rn_aI (by omega), mL50 m3, nL1, nI_add]
      exact ⟨by omega, by omega, ih (i + 1) _ ⟨x3.sI rfl, by omega, fill_s hk rfl⟩ (by omega)⟩
theorem mSends (hM : MO M) (hP : isPgM (Mi M 39) P) (hw : wfP P) {s : Sn} {l : Nat} {lo : Nat → Nat} (hlo : mLo M lo) (hlo5 : ∀ i, i < 20 → lo i ≤ 5) (hl : l < PL P) (hs : mSn M s l) (hk : zOk P s l) : Rn (fX8_sends 38 (nI l)) M (fun a M' => XF xSe M M' ∧ mLo M' lo ∧
    ((a = nI 0 ∧ ∃ q, ¬ zT (zPut P l s) l ≤ lo l ∧ zRead P l (zPut P l s) = some q ∧ mSn M' (zGot P l q (zPut P l s)) (l + 1)) ∨ (a = nI 1 ∧ zT (zPut P l s) l ≤ lo l ∧ mSn M' (zMiss 1 (zPut P l s)) l) ∨ (a = nI 2 ∧ ¬ zT (zPut P l s) l ≤ lo l ∧ zRead P l (zPut P l s) = none ∧ mSn M' (zMiss 2 (zPut P l s)) l))) := by
  have h20 := hw.2.2.1
  have h40 := hw.2.1
  have hl20 : l < 20 := by omega
  unfold fX8_sends
  rw [show (6 : Int32) = nI (2 + 4) from rfl, mRdT hM hP (k := 4) (by omega), Rn_bnd]
  refine (mSent hM hP hw hl).mono ?_
  rintro a M1 ⟨rfl, x1⟩
  have m1 := hM.xf x1
  have s1 := hs.xf x1 xSn_Cd
  have lo1 : mLo M1 lo := fun i hi => by rw [x1.mi (xSn_Cd 57 i rfl)]; exact hlo i hi
  have p1 : isPgM (Mi M1 39) P := by rw [x1.row (fun _ => rfl)]; exact hP
  obtain ⟨h1, h2, h3, h4, h5, h6, h7, h8, h9, h10⟩ := s1
  rw [Rn_bnd, Rn_rtn, nI_add, show Pt P 4 + sBt P l = zCost P l from rfl]
  rw [Rn_bnd, mA23 m1, Rn_bnd, rn_lI (by omega), mL55 m1, h4 l hl20, Rn_bnd, nI_add, rn_aI (by omega), mL55 m1]
  refine ⟨by omega, by omega, ?_⟩
  have x2 : XF xSn M1 (sI M1 55 l (nI (zC s l + zCost P l))) := XF.rf.sI rfl
  have e2 : ∀ a b, ¬ a = 55 → Mi (sI M1 55 l (nI (zC s l + zCost P l))) a b = Mi M1 a b := fun a b hab => ne_row hab b
  have c2 := up_row (j := l) (v := zC s l + zCost P l) h4
  generalize sI M1 55 l (nI (zC s l + zCost P l)) = M2 at x2 e2 c2 ⊢
  rw [Rn_bnd, Rn_gI, e2 38 26 (by decide), h6, Rn_bnd, Rn_pI, nI_add]
  have x3 : XF xSn M2 (sI M2 38 26 (nI (zA s + zCost P l))) := XF.rf.sI rfl
  have e3 : ∀ a b, ¬ (a = 38 ∧ b = 26) → Mi (sI M2 38 26 (nI (zA s + zCost P l))) a b = Mi M2 a b := fun a b hab => by rw [Mi_sI, if_neg hab]
  have a3 : Mi (sI M2 38 26 (nI (zA s + zCost P l))) 38 26 = nI (zA s + zCost P l) := sI_self
  generalize sI M2 38 26 (nI (zA s + zCost P l)) = M3 at x3 e3 a3 ⊢
  rw [Rn_bnd, Rn_gI, e3 38 27 (by decide), e2 38 27 (by decide), h7, Rn_bnd, Rn_pI, nL1, nI_add]
  have x4 : XF xSn M3 (sI M3 38 27 (nI (zD s + 1))) := XF.rf.sI rfl
  have e4 : ∀ a b, ¬ (a = 38 ∧ b = 27) → Mi (sI M3 38 27 (nI (zD s + 1))) a b = Mi M3 a b := fun a b hab => by rw [Mi_sI, if_neg hab]
  have a4 : Mi (sI M3 38 27 (nI (zD s + 1))) 38 27 = nI (zD s + 1) := sI_self
  generalize sI M3 38 27 (nI (zD s + 1)) = M4 at x4 e4 a4 ⊢
  have m4 := ((m1.xf x2).xf x3).xf x4
  have t4 : ∀ i, i < 20 → Mi M4 54 i = nI (zT s i) := fun i hi => by rw [e4 _ _ (by omega), e3 _ _ (by omega), e2 _ _ (by decide)]; exact h3 i hi
  rw [Rn_bnd, mA22 m4, Rn_bnd, rn_lI (by omega), mL54 m4, t4 l hl20, Rn_bnd, nI_add, rn_aI (by omega), mL54 m4]
  refine ⟨by omega, by omega, ?_⟩
  have x5 : XF xSn M4 (sI M4 54 l (nI (zT s l + 1))) := XF.rf.sI rfl
  have e5 : ∀ a b, ¬ a = 54 → Mi (sI M4 54 l (nI (zT s l + 1))) a b = Mi M4 a b := fun a b hab => ne_row hab b
  have c5 := up_row (j := l) (v := zT s l + 1) t4
  generalize sI M4 54 l (nI (zT s l + 1)) = M5 at x5 e5 c5 ⊢
  have m5 := m4.xf x5
  have x15 := ((x2.tr x3).tr x4).tr x5
  have p5 : isPgM (Mi M5 39) P := by rw [x15.row (fun _ => rfl)]; exact p1
  have s5 : mSn M5 (zPut P l s) l := by
    refine ⟨fun i hi k hk2 => ?_, fun i hi => ?_, c5, fun i hi => ?_, fun i hi => ?_, ?_, ?_, ?_, ?_, ?_⟩
    · rw [e5 _ _ (by decide), e4 _ _ (by omega), e3 _ _ (by omega), e2 _ _ (by decide)]; exact h1 i hi k hk2
    · rw [e5 _ _ (by decide), e4 _ _ (by omega), e3 _ _ (by omega), e2 _ _ (by decide)]; exact h2 i hi
    · rw [e5 _ _ (by decide), e4 _ _ (by omega), e3 _ _ (by omega)]; exact c2 i hi
    · rw [e5 _ _ (by decide), e4 _ _ (by omega), e3 _ _ (by omega), e2 _ _ (by decide)]; exact h5 i hi
    · rw [e5 _ _ (by decide), e4 _ _ (by decide)]; exact a3
    · rw [e5 _ _ (by decide)]; exact a4
    · rw [e5 _ _ (by decide), e4 _ _ (by decide), e3 _ _ (by decide), e2 _ _ (by decide)]; exact h8
    · rw [e5 _ _ (by decide), e4 _ _ (by decide), e3 _ _ (by decide), e2 _ _ (by decide)]; exact h9
    · rw [e5 _ _ (by decide), e4 _ _ (by decide), e3 _ _ (by decide), e2 _ _ (by decide)]; exact h10
  have lo5 : mLo M5 lo := fun i hi => by rw [e5 _ _ (by decide), e4 _ _ (by omega), e3 _ _ (by omega), e2 _ _ (by decide)]; exact lo1 i hi
  have x05 : XF xSe M M5 := (x1.mono xCd_Se).tr (x15.mono xSn_Se)
  have ht : zT (zPut P l s) l = zT s l + 1 := updN_s _ _ _
  have hb : zT s l ≤ 300 := by have := hk.2.2.2.2.1 l; have := hk.2.2.1; omega
  clear e2 e3 e4 e5 c2 a3 a4 t4 c5 x2 x3 x4 x5 h1 h2 h3 h4 h5 h6 h7 h8 h9 h10
  have s5T := s5.2.2.1 l hl20
  rw [Rn_bnd, mA22 m5, Rn_bnd, rn_lI (by omega), mL54 m5, s5T, Rn_bnd, mA25 m5, Rn_bnd, rn_lI (by omega), mL57 m5, lo5 l hl20]
  refine ⟨by omega, by omega, Rn_cs (d := lo l < zT (zPut P l s) l) (nlt (by have := hlo5 l hl20; omega) (by omega)) (fun g => ?_) (fun g => ?_)⟩
  · rw [Rn_bnd]
    refine (mIsRead m5 p5 hw hl s5.1).mono ?_
    rintro a M6 ⟨rfl, x6, r6⟩
    have m6 := m5.xf x6
    have s6 := s5.xf x6 xSn_Cd
    have lo6 : mLo M6 lo := fun i hi => by rw [x6.mi (xSn_Cd 57 i rfl)]; exact lo5 i hi
    have p6 : isPgM (Mi M6 39) P := by rw [x6.row (fun _ => rfl)]; exact p5
    have x06 := x05.tr (x6.mono xCd_Se)
    cases hr : zRead P l (zPut P l s) with
    | none =>
      rw [if_pos (by decide), Rn_bnd, Rn_gI, s6.2.2.2.2.2.2.2.2.2, Rn_bnd, Rn_pI, Rn_rtn, nI_add]
      have x7 : XF xSn M6 (sI M6 38 30 (nI (zU (zPut P l s) + 1))) := XF.rf.sI rfl
      refine ⟨x06.tr (x7.mono xSn_Se), fun i hi => by rw [ne_row (by decide)]; exact lo6 i hi, Or.inr (Or.inr ⟨rfl, by omega, rfl, ?_⟩)⟩
      obtain ⟨h1, h2, h3, h4, h5, h6, h7, h8, h9, h10⟩ := s6
      exact ⟨fun i hi k hk2 => by rw [ne_row (by decide)]; exact h1 i hi k hk2, fun i hi => by rw [ne_row (by decide)]; exact h2 i hi, fun i hi => by rw [ne_row (by decide)]; exact h3 i hi, fun i hi => by rw [ne_row (by decide)]; exact h4 i hi, fun i hi => by rw [ne_row (by decide)]; exact h5 i hi, by rw [Mi_sI, if_neg (by decide)]; exact h6, by rw [Mi_sI, if_neg (by decide)]; exact h7, by rw [Mi_sI, if_neg (by decide)]; exact h8, by rw [Mi_sI, if_neg (by decide)]; exact h9, sI_self⟩
    | some q =>
      have q6 := r6 q hr
      rw [if_neg (by show ¬ nI (bN true) = 0; decide)]
      refine rn_loopv (F := fun n i => fX8_sends_L103 n 38 (nI l) (nI i)) (fun i M' => XF xSn M6 M' ∧ i ≤ 40 ∧ (∀ a b, ¬ a = 52 → Mi M' a b = Mi M6 a b) ∧ (∀ j, j < 40 * l → Mi M' 52 j = Mi M6 52 j) ∧ ∀ k, k < i → Mi M' 52 (40 * l + k) = nI (bN (q.testBit k))) (fun i => 40 - i) ?_ fu 0 M6 (by unfold fu; omega) ⟨XF.rf, by omega, fun _ _ _ => rfl, fun _ _ => rfl, fun k hk => by omega⟩
      rintro n i M7 ⟨x7, hi, ho, hj, hk7⟩ ih
      show Rn (fX8_sends_L103 (n + 1) 38 (nI l) (nI i)) M7 _
      have m7 := m6.xf x7
      have p7 : isPgM (Mi M7 39) P := by rw [x7.row (fun _ => rfl)]; exact p6
      unfold fX8_sends_L103
      refine Rn_cs (nle (a := 40) (by omega) (by omega)) (fun h => ?_) (fun h => ?_)
      · have g7 : gotAt M7 l q := fun k hk2 => hk7 k (by omega)
        have fin : ∀ v : Nat, v = (if q = Pr P l then 0 else 3) → Rn (fX8_sends_L150 (nI v) (nI l) 53) M7 (fun a M' => XF xSe M M' ∧ mLo M' lo ∧
    ((a = nI 0 ∧ ∃ q9, ¬ zT (zPut P l s) l ≤ lo l ∧ some q = some q9 ∧ mSn M' (zGot P l q9 (zPut P l s)) (l + 1)) ∨ (a = nI 1 ∧ zT (zPut P l s) l ≤ lo l ∧ mSn M' (zMiss 1 (zPut P l s)) l) ∨ (a = nI 2 ∧ ¬ zT (zPut P l s) l ≤ lo l ∧ some q = none ∧ mSn M' (zMiss 2 (zPut P l s)) l))) := by
          intro v hv
          unfold fX8_sends_L150
          rw [Rn_bnd, rn_aI (by omega), mL53 m7, Rn_rtn]
          have x8 : XF xSn M7 (sI M7 53 l (nI v)) := XF.rf.sI rfl
          refine ⟨by omega, x06.tr ((x7.tr x8).mono xSn_Se), fun i hi => by rw [ne_row (by decide), ho _ _ (by decide)]; exact lo6 i hi, Or.inl ⟨rfl, q, by omega, rfl, ?_⟩⟩
          obtain ⟨h1, h2, h3, h4, h5, h6, h7, h8, h9, h10⟩ := s6
          refine ⟨fun a ha k hk2 => ?_, ?_, fun a ha => ?_, fun a ha => ?_, fun a ha => ?_, ?_, ?_, ?_, ?_, ?_⟩
          · rw [ne_row (by decide)]
            show _ = nI (bN ((updN (zG (zPut P l s)) l q a).testBit k))
            by_cases e : a = l
            · subst e; rw [updN_s]; exact hk7 k (by omega)
            · rw [updN_n e, hj _ (by omega)]; exact h1 a (by omega) k hk2
          · rw [hv]; exact up_row (fun a ha => by rw [ho _ _ (by decide)]; exact h2 a ha)
          · rw [ne_row (by decide), ho _ _ (by decide)]; exact h3 a ha
          · rw [ne_row (by decide), ho _ _ (by decide)]; exact h4 a ha
          · rw [ne_row (by decide), ho _ _ (by decide)]; exact h5 a ha
          · rw [ne_row (by decide), ho _ _ (by decide)]; exact h6
          · rw [ne_row (by decide), ho _ _ (by decide)]; exact h7
          · rw [ne_row (by decide), ho _ _ (by decide)]; exact h8
          · rw [ne_row (by decide), ho _ _ (by decide)]; exact h9
          · rw [ne_row (by decide), ho _ _ (by decide)]; exact h10
        rw [Rn_bnd, mA21 m7, Rn_bnd, mWrong m7 p7 hw hl g7]
        have hq := zRead_lt hw hl hr
        refine Rn_cs (d := q = Pr P l) ?_ (fun hb => ?_) (fun hb => ?_)
        · rw [nL0, neq (by have := cn_le (fun k => q.testBit k != (Pr P l).testBit k) (Pw P); unfold dif; omega) (by omega)]
          exact dif_0 hq (hw.2.2.2.1 l hl)
        · exact fin 0 (by rw [if_pos hb])
        · exact fin 3 (by rw [if_neg hb])
      · rw [Rn_bnd, mA20 m7, Rn_bnd, mA15 m7, Rn_bnd, rn_lI (by omega), mL50 m7, ho _ _ (by decide), q6 i (by omega), Rn_bnd, nL40, pk_mul, nI_add, rn_aI (by omega), mL52 m7, nL1, nI_add]
        refine ⟨by omega, by omega, ih (i + 1) _ ⟨x7.sI rfl, by omega, fun a b hab => by rw [ne_row hab]; exact ho a b hab, fun j hj2 => by rw [Mi_sI, if_neg (by omega)]; exact hj j hj2, fun k hk2 => ?_⟩ (by omega)⟩
        rw [Mi_sI]
        by_cases e : k = i
        · rw [if_pos ⟨rfl, by omega⟩, e]
        · rw [if_neg (by omega)]; exact hk7 k (by omega)
  · rw [Rn_bnd, Rn_gI, s5.2.2.2.2.2.2.2.2.1, Rn_bnd, Rn_pI, Rn_rtn, nI_add]
    have x7 : XF xSn M5 (sI M5 38 29 (nI (zL (zPut P l s) + 1))) := XF.rf.sI rfl
    refine ⟨x05.tr (x7.mono xSn_Se), fun i hi => by rw [ne_row (by decide)]; exact lo5 i hi, Or.inr (Or.inl ⟨rfl, by omega, ?_⟩)⟩
    obtain ⟨h1, h2, h3, h4, h5, h6, h7, h8, h9, h10⟩ := s5
    exact ⟨fun i hi k hk2 => by rw [ne_row (by decide)]; exact h1 i hi k hk2, fun i hi => by rw [ne_row (by decide)]; exact h2 i hi, fun i hi => by rw [ne_row (by decide)]; exact h3 i hi, fun i hi => by rw [ne_row (by decide)]; exact h4 i hi, fun i hi => by rw [ne_row (by decide)]; exact h5 i hi, by rw [Mi_sI, if_neg (by decide)]; exact h6, by rw [Mi_sI, if_neg (by decide)]; exact h7, by rw [Mi_sI, if_neg (by decide)]; exact h8, sI_self, by rw [Mi_sI, if_neg (by decide)]; exact h10⟩
end MSend
