/-! THE REFERENCE: what comes of sending -/
def xSq (h k : Nat) : Bool := xSe h k || (h == 38 && k == 0) || h == 39
theorem xSe_Sq (a b : Nat) (h : xSq a b = false) : xSe a b = false := by unfold xSq at h; cases e : xSe a b <;> simp [e] at h ⊢
theorem xRd_Sq (a b : Nat) (h : xSq a b = false) : xRd a b = false := by
  unfold xSq xSe at h; unfold xRd
  cases e : xCd a b <;> simp [e] at h ⊢
  intro h1; have := h.1.2 h1; omega
theorem xPg_Sq (a b : Nat) (h : xSq a b = false) : xPg a b = false := by
  unfold xSq at h; unfold xPg
  cases e : a == 39 <;> simp [e] at h ⊢
section MSendB
variable {M : Mm} {P : Pg}
theorem mSendAll (hM : MO M) (hP : isPgM (Mi M 39) P) (hw : wfP P) {lo : Nat → Nat} (hlo : mLo M lo) (hlo5 : ∀ i, i < 20 → lo i ≤ 5) : Rn (fX8_sendsAll 38) M (fun _ M' => XF xSe M M' ∧ mSn M' (sndA P lo) (PL P)) := by
  have h20 := hw.2.2.1
  have h40 := hw.2.1
  have hst := hw.2.2.2.2.2.2.2.2.1
  unfold fX8_sendsAll
  refine rn_loopv (F := fun n i => fX8_sendsAll_L2 n 38 (nI i)) (fun i M' => XF xSn M M' ∧ i ≤ 20 ∧ mLo M' lo ∧ (∀ k, k < i → Mi M' 53 k = nI 0) ∧ (∀ k, k < i → Mi M' 54 k = nI 0) ∧ (∀ k, k < i → Mi M' 55 k = nI 0) ∧ ∀ k, k < i → Mi M' 56 k = nI 0) (fun i => 20 - i) ?_ fu 0 M (by unfold fu; omega) ⟨XF.rf, by omega, hlo, fun k hk => by omega, fun k hk => by omega, fun k hk => by omega, fun k hk => by omega⟩
  rintro n i M1 ⟨x1, hi, lo1, k1, k2, k3, k4⟩ ih
  show Rn (fX8_sendsAll_L2 (n + 1) 38 (nI i)) M1 _
  have m1 := hM.xf x1
  unfold fX8_sendsAll_L2
  refine Rn_cs (nle (a := 20) (by omega) (by omega)) (fun h => ?_) (fun h => ?_)
  · rw [Rn_bnd, Rn_pI, Rn_bnd, Rn_pI, Rn_bnd, Rn_pI, Rn_bnd, Rn_pI, Rn_bnd, Rn_pI]
    have x2 : XF xSn M1 (sI (sI (sI (sI (sI M1 38 26 0) 38 27 0) 38 28 0) 38 29 0) 38 30 0) := ((((XF.rf.sI rfl).sI rfl).sI rfl).sI rfl).sI rfl
    have s2 : mSn (sI (sI (sI (sI (sI M1 38 26 0) 38 27 0) 38 28 0) 38 29 0) 38 30 0) zO 0 := by
      refine ⟨fun a ha => by omega, fun a ha => ?_, fun a ha => ?_, fun a ha => ?_, fun a ha => ?_, ?_, ?_, ?_, ?_, ?_⟩
      · simp only [Mi_sI]; simp; exact k1 a (by omega)
      · simp only [Mi_sI]; simp; exact k2 a (by omega)
      · simp only [Mi_sI]; simp; exact k3 a (by omega)
      · simp only [Mi_sI]; simp; exact k4 a (by omega)
      · simp only [Mi_sI]; simp; rfl
      · simp only [Mi_sI]; simp; rfl
      · simp only [Mi_sI]; simp; rfl
      · simp only [Mi_sI]; simp; rfl
      · simp only [Mi_sI]; simp; rfl
    have lo2 : mLo (sI (sI (sI (sI (sI M1 38 26 0) 38 27 0) 38 28 0) 38 29 0) 38 30 0) lo := fun a ha => by simp only [Mi_sI]; simp; exact lo1 a ha
    generalize sI (sI (sI (sI (sI M1 38 26 0) 38 27 0) 38 28 0) 38 29 0) 38 30 0 = M2 at x2 s2 lo2 ⊢
    have x02 : XF xSe M M2 := (x1.tr x2).mono xSn_Se
    refine rn_loopv (F := fun n (t : Sn × Nat) => fX8_sendsAll_L69 n 38 (nI t.2)) (fun t M' => XF xSe M M' ∧ mLo M' lo ∧ mSn M' t.1 t.2 ∧ zOk P t.1 t.2 ∧ sndR P lo t.1 t.2 = sndA P lo) (fun t => zMu P t.1 t.2) ?_ fu (zO, 0) M2 (by have := zMu_le (zOk_0 hw); show zMu P zO 0 < fu; unfold fu; omega) ⟨x02, lo2, s2, zOk_0 hw, rfl⟩
    rintro n ⟨s, l⟩ M3 ⟨x3, lo3, s3, ok3, he⟩ ih2
    have s3 : mSn M3 s l := s3
    have ok3 : zOk P s l := ok3
    have he : sndR P lo s l = sndA P lo := he
    have hlL := ok3.2.1
    show Rn (fX8_sendsAll_L69 (n + 1) 38 (nI l)) M3 _
    have m3 := hM.xf x3
    have p3 : isPgM (Mi M3 39) P := by rw [x3.row (fun _ => rfl)]; exact hP
    unfold fX8_sendsAll_L69
    rw [mRdL m3 p3]
    refine Rn_cs (nle (by omega) (by omega)) (fun h4 => ?_) (fun h4 => ?_)
    · rw [Rn_rtn]
      rw [sndR_e lo (by omega)] at he
      rw [← he]
      have : l = PL P := by omega
      rw [this] at s3
      exact ⟨x3, s3⟩
    · have hl : l < PL P := by omega
      have kk := snd1_ok (lo := lo) hw hl ok3
      rw [sndR_s hw lo ok3 hl] at he
      rw [Rn_bnd]
      refine (mSends m3 p3 hw lo3 hlo5 hl s3 ok3).mono ?_
      rintro a M4 ⟨x4, lo4, hres⟩
      have x04 := x3.tr x4
      have m4 := hM.xf x04
      have p4 : isPgM (Mi M4 39) P := by rw [x04.row (fun _ => rfl)]; exact hP
      have nx : ∀ (s' : Sn) (l' : Nat) (M5 : Mm), XF xSe M M5 → mLo M5 lo → mSn M5 s' l' → snd1 P lo s l = (s', l') → Rn (fX8_sendsAll_L69 n 38 (nI l')) M5 (fun _ M' => XF xSe M M' ∧ mSn M' (sndA P lo) (PL P)) := by
        intro s' l' M5 x5 lo5 s5 e5
        rw [e5] at kk he
        exact ih2 (s', l') M5 ⟨x5, lo5, s5, kk.1, he⟩ kk.2
      have miss : ∀ how : Nat, how = 1 ∨ how = 2 → mSn M4 (zMiss how (zPut P l s)) l → snd1 P lo s l = zFail P l how (zPut P l s) → Rn (if (nI how : Int32) ≤ 0 then fX8_sendsAll_L147 (fX8_sendsAll_L69 n) 38 (nI l) (nI how) else bnd (gI 38 28) fun v4 => bnd (gA 38 1) fun v5 => bnd (lI v5 5) fun v6 => if v6 ≤ (v4 : Int32) then fX8_sendsAll_L147 (fX8_sendsAll_L69 n) 38 (nI l) (nI how) else bnd (gI 38 28) fun v7 => bnd (pI 38 28 (v7 + 1)) fun _ => bnd (gA 38 24) fun v8 => bnd (lI v8 (nI l)) fun v9 => bnd (aI v8 (nI l) (v9 + 1)) fun _ => bnd (gI 38 26) fun v10 => bnd (gA 38 1) fun v11 => bnd (lI v11 7) fun v12 => bnd (pI 38 26 (v10 + v12)) fun _ => bnd (fX8_markUpTo 38 (nI l)) fun v13 => fX8_sendsAll_L69 n 38 v13) M4 (fun _ M' => XF xSe M M' ∧ mSn M' (sndA P lo) (PL P)) := by
        intro how hhow s4 e1
        obtain ⟨h1, h2, h3, h4', h5, h6, h7, h8, h9, h10⟩ := id s4
        have hne : ¬ (nI how : Int32) ≤ 0 := by rw [nL0, nle (by omega) (by omega)]; omega
        have hz : zP (zPut P l s) = zP s := rfl
        have h8 : Mi M4 38 28 = nI (zP s) := h8
        rw [if_neg hne, Rn_bnd, Rn_gI, h8, show (5 : Int32) = nI (2 + 3) from rfl, mRdT m4 p4 (k := 3) (by omega)]
        refine Rn_cs (d := Pt P 3 ≤ zP s) (nle (by omega) (by have := ok3.1; omega)) (fun g => ?_) (fun g => ?_)
        · unfold fX8_sendsAll_L147 fX8_sendsAll_L157
          rw [if_neg hne, Rn_bnd]
          refine (mFills m4 p4 hw hl s4).mono ?_
          rintro - M5 ⟨x5, s5, l5⟩
          rw [nL1, nI_add]
          refine nx _ _ M5 (x04.tr (x5.mono xSn_Se)) (l5 lo lo4) s5 ?_
          rw [e1]; unfold zFail; rw [if_neg (by rw [hz]; omega)]
        · rw [Rn_bnd, Rn_gI, h8, Rn_bnd, Rn_pI, nL1, nI_add]
          have x5 : XF xSn M4 (sI M4 38 28 (nI (zP s + 1))) := XF.rf.sI rfl
          have e5 : ∀ a b, ¬ (a = 38 ∧ b = 28) → Mi (sI M4 38 28 (nI (zP s + 1))) a b = Mi M4 a b := fun a b hab => by rw [Mi_sI, if_neg hab]
          have a5 : Mi (sI M4 38 28 (nI (zP s + 1))) 38 28 = nI (zP s + 1) := sI_self
          generalize sI M4 38 28 (nI (zP s + 1)) = M5 at x5 e5 a5 ⊢
          have m5 := m4.xf x5
          have k5 : ∀ i, i < 20 → Mi M5 56 i = nI (zK s i) := fun i hi => by rw [e5 _ _ (by omega)]; exact h5 i hi
          rw [Rn_bnd, mA24 m5, Rn_bnd, rn_lI (by omega), mL56 m5, k5 l (by omega), Rn_bnd, nI_add, rn_aI (by omega), mL56 m5]
          refine ⟨by omega, by omega, ?_⟩
          have x6 : XF xSn M5 (sI M5 56 l (nI (zK s l + 1))) := XF.rf.sI rfl
          have e6 : ∀ a b, ¬ a = 56 → Mi (sI M5 56 l (nI (zK s l + 1))) a b = Mi M5 a b := fun a b hab => ne_row hab b
          have a6 := up_row (j := l) (v := zK s l + 1) k5
          generalize sI M5 56 l (nI (zK s l + 1)) = M6 at x6 e6 a6 ⊢
          have m6 := m5.xf x6
          have p6 : isPgM (Mi M6 39) P := by rw [x6.row (fun _ => rfl), x5.row (fun _ => rfl)]; exact p4
          rw [Rn_bnd, Rn_gI, e6 _ _ (by decide), e5 _ _ (by decide), h6, show (7 : Int32) = nI (2 + 5) from rfl, mRdT m6 p6 (k := 5) (by omega), Rn_bnd, Rn_pI, nI_add]
          have x7 : XF xSn M6 (sI M6 38 26 (nI (zA (zMiss how (zPut P l s)) + Pt P 5))) := XF.rf.sI rfl
          have e7 : ∀ a b, ¬ (a = 38 ∧ b = 26) → Mi (sI M6 38 26 (nI (zA (zMiss how (zPut P l s)) + Pt P 5))) a b = Mi M6 a b := fun a b hab => by rw [Mi_sI, if_neg hab]
          have a7 : Mi (sI M6 38 26 (nI (zA (zMiss how (zPut P l s)) + Pt P 5))) 38 26 = nI (zA (zMiss how (zPut P l s)) + Pt P 5) := sI_self
          generalize sI M6 38 26 (nI (zA (zMiss how (zPut P l s)) + Pt P 5)) = M7 at x7 e7 a7 ⊢
          have m7 := m6.xf x7
          have x47 : XF xSn M4 M7 := (x5.tr x6).tr x7
          have p7 : isPgM (Mi M7 39) P := by rw [x7.row (fun _ => rfl)]; exact p6
          have s7 : mSn M7 (zStep P l (zMiss how (zPut P l s))) l := by
            refine ⟨fun i hi k hk2 => ?_, fun i hi => ?_, fun i hi => ?_, fun i hi => ?_, fun i hi => ?_, a7, ?_, ?_, ?_, ?_⟩
            · rw [e7 _ _ (by omega), e6 _ _ (by decide), e5 _ _ (by omega)]; exact h1 i hi k hk2
            · rw [e7 _ _ (by omega), e6 _ _ (by decide), e5 _ _ (by omega)]; exact h2 i hi
            · rw [e7 _ _ (by omega), e6 _ _ (by decide), e5 _ _ (by omega)]; exact h3 i hi
            · rw [e7 _ _ (by omega), e6 _ _ (by decide), e5 _ _ (by omega)]; exact h4' i hi
            · rw [e7 _ _ (by omega)]; exact a6 i hi
            · rw [e7 _ _ (by decide), e6 _ _ (by decide), e5 _ _ (by decide)]; exact h7
            · rw [e7 _ _ (by decide), e6 _ _ (by decide)]; exact a5
            · rw [e7 _ _ (by decide), e6 _ _ (by decide), e5 _ _ (by decide)]; exact h9
            · rw [e7 _ _ (by decide), e6 _ _ (by decide), e5 _ _ (by decide)]; exact h10
          have lo7 : mLo M7 lo := fun i hi => by rw [e7 _ _ (by omega), e6 _ _ (by decide), e5 _ _ (by omega)]; exact lo4 i hi
          rw [Rn_bnd]
          refine (mMkUp m7 p7 hw hl).mono ?_
          rintro a M8 ⟨rfl, x8⟩
          have hmk := mkU_le P l
          have s8 := s7.xf x8 xSn_Cd
          refine nx (zStep P l (zMiss how (zPut P l s))) (mkU P l) M8 ((x04.tr (x47.mono xSn_Se)).tr (x8.mono xCd_Se)) (fun i hi => by rw [x8.mi (xSn_Cd 57 i rfl)]; exact lo7 i hi) ⟨fun i hi => s8.1 i (by omega), s8.2⟩ ?_
          rw [e1]; unfold zFail; rw [if_pos (by rw [hz]; omega)]
      rcases hres with ⟨rfl, q, g1, g2, s4⟩ | ⟨rfl, g1, s4⟩ | ⟨rfl, g1, g2, s4⟩
      · rw [if_pos (by decide)]
        unfold fX8_sendsAll_L147 fX8_sendsAll_L157
        rw [if_pos (by decide), nL1, nI_add]
        refine nx _ _ M4 x04 lo4 s4 ?_
        unfold snd1; rw [if_neg g1, g2]
      · exact miss 1 (Or.inl rfl) s4 (by unfold snd1; rw [if_pos g1])
      · exact miss 2 (Or.inr rfl) s4 (by unfold snd1; rw [if_neg g1, g2])
  · rw [Rn_bnd, mA21 m1, Rn_bnd, rn_aI (by omega), mL53 m1, Rn_bnd, mA22 m1.sI, Rn_bnd, rn_aI (by omega), mL54 m1.sI, Rn_bnd, mA23 m1.sI.sI, Rn_bnd, rn_aI (by omega), mL55 m1.sI.sI, Rn_bnd, mA24 m1.sI.sI.sI, Rn_bnd, rn_aI (by omega), mL56 m1.sI.sI.sI, nL1, nI_add]
    refine ⟨by omega, by omega, by omega, by omega, ih (i + 1) _ ⟨(((x1.sI rfl).sI rfl).sI rfl).sI rfl, by omega, fun a ha => ?_, fun k hk => ?_, fun k hk => ?_, fun k hk => ?_, fun k hk => ?_⟩ (by omega)⟩
    · simp only [Mi_sI]; simp; exact lo1 a ha
    · simp only [Mi_sI]; simp; split; rfl; exact k1 k (by omega)
    · simp only [Mi_sI]; simp; split; rfl; exact k2 k (by omega)
    · simp only [Mi_sI]; simp; split; rfl; exact k3 k (by omega)
    · simp only [Mi_sI]; simp; split; rfl; exact k4 k (by omega)
theorem mSendPage (hM : MO M) (hP : isPgM (Mi M 39) P) (hw : wfP P) : Rn (fX8_sendsPage 38) M (fun _ M' => XF xSe M M' ∧ mSn M' (sndA P (Ps P)) (PL P)) := by
  unfold fX8_sendsPage
  rw [Rn_bnd]
  refine (mLosses hM hP).mono ?_
  rintro - M1 ⟨x1, lo1⟩
  rw [Rn_bnd]
  refine (mSendAll (hM.xf x1) (by rw [x1.row (fun _ => rfl)]; exact hP) hw lo1 hw.2.2.2.2.1).mono ?_
  rintro - M2 ⟨x2, s2⟩
  rw [Rn_rtn]
  exact ⟨(x1.mono xSn_Se).tr x2, s2⟩
theorem mWrongs (hM : MO M) (hP : isPgM (Mi M 39) P) (hw : wfP P) {s : Sn} (hs : ∀ i, i < PL P → gotAt M i (zG s i)) {Q : Int32 → Mm → Prop} : Rn (fX8_wrongDots 38) M Q ↔ Q (nI (zWs P s)) M := by
  have h20 := hw.2.2.1
  refine Rn_det ?_
  unfold fX8_wrongDots
  refine rn_loopv (F := fun n i => fX8_wrongDots_L4 n 38 (nI (sm (fun l => zWr P s l) i)) (nI i)) (fun i M' => M' = M ∧ i ≤ PL P) (fun i => PL P - i) ?_ fu 0 M (by unfold fu; omega) ⟨rfl, Nat.zero_le _⟩
  rintro n i M1 ⟨rfl, hi⟩ ih
  show Rn (fX8_wrongDots_L4 (n + 1) 38 (nI (sm (fun l => zWr P s l) i)) (nI i)) M1 _
  unfold fX8_wrongDots_L4
  rw [mRdL hM hP]
  refine Rn_cs (nle (by omega) (by omega)) (fun h => ?_) (fun h => ?_)
  · rw [Rn_rtn, show i = PL P by omega]; exact ⟨rfl, rfl⟩
  · rw [Rn_bnd, mWrong hM hP hw (by omega) (hs i (by omega)), Rn_bnd, Rn_rtn, nI_add, nL1, nI_add]
    exact ih (i + 1) M1 ⟨rfl, by omega⟩ (by omega)
theorem mStates (hM : MO M) (hP : isPgM (Mi M 39) P) (hw : wfP P) {s : Sn} (hs : ∀ i, i < 20 → Mi M 53 i = nI (zS s i)) (hb : ∀ i, zS s i ≤ 3) {k : Nat} (hk : k < 10) {Q : Int32 → Mm → Prop} : Rn (fX8_statesOf 38 (nI k)) M Q ↔ Q (nI (sm (fun l => bN (decide (zS s l = k))) (PL P))) M := by
  have h20 := hw.2.2.1
  refine Rn_det ?_
  unfold fX8_statesOf
  refine rn_loopv (F := fun n i => fX8_statesOf_L4 n 38 (nI k) (nI (sm (fun l => bN (decide (zS s l = k))) i)) (nI i)) (fun i M' => M' = M ∧ i ≤ PL P) (fun i => PL P - i) ?_ fu 0 M (by unfold fu; omega) ⟨rfl, Nat.zero_le _⟩
  rintro n i M1 ⟨rfl, hi⟩ ih
  show Rn (fX8_statesOf_L4 (n + 1) 38 (nI k) (nI (sm (fun l => bN (decide (zS s l = k))) i)) (nI i)) M1 _
  unfold fX8_statesOf_L4 fX8_statesOf_L30
  rw [mRdL hM hP]
  refine Rn_cs (nle (by omega) (by omega)) (fun h => ?_) (fun h => ?_)
  · rw [Rn_rtn, show i = PL P by omega]; exact ⟨rfl, rfl⟩
  · have nx := ih (i + 1) M1 ⟨rfl, by omega⟩ (by omega)
    rw [sm_s] at nx
    rw [Rn_bnd, mA21 hM, Rn_bnd, rn_lI (by omega), mL53 hM, hs i (by omega)]
    refine ⟨by omega, Rn_cs (neq (by have := hb i; omega) (by omega)) (fun h5 => ?_) (fun h5 => ?_)⟩
    · rw [Rn_bnd, Rn_rtn, nL1, nI_add, nI_add]
      rw [decide_eq_true h5] at nx; exact nx
    · rw [Rn_bnd, Rn_rtn, nL0, nI_add, nL1, nI_add]
      rw [decide_eq_false h5] at nx; exact nx
end MSendB
