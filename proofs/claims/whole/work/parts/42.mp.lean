/-! THE REFERENCE: calls on sending -/
theorem zS_le3 (P : Pg) (lo : Nat → Nat) : ∀ n s l, (∀ i, zS s i ≤ 3) → ∀ i, zS (sndN P lo n s l) i ≤ 3 := by
  intro n
  induction n with
  | zero => intro s l h i; exact h i
  | succ n ih =>
    intro s l h i
    unfold sndN
    split
    · have hf : ∀ how, how = 1 ∨ how = 2 → ∀ i, zS (zFail P l how (zPut P l s)).1 i ≤ 3 := by
        intro how hh i
        unfold zFail
        split
        · exact h i
        · exact updN_le h (by omega) i
      refine ih _ _ ?_ i
      intro i
      unfold snd1
      split
      · exact hf 1 (Or.inl rfl) i
      · split
        · exact updN_le h (by split <;> omega) i
        · exact hf 2 (Or.inr rfl) i
    · exact h i
theorem zS3 (P : Pg) (lo : Nat → Nat) (i : Nat) : zS (sndA P lo) i ≤ 3 := zS_le3 P lo 1000 zO 0 (fun _ => Nat.zero_le _) i
theorem sndN_ok {P : Pg} (h : wfP P) (lo : Nat → Nat) : ∀ n s l, zOk P s l → l ≤ PL P → ∃ l', zOk P (sndN P lo n s l) l' := by
  intro n
  induction n with
  | zero => intro s l hs _; exact ⟨l, hs⟩
  | succ n ih =>
    intro s l hs hl
    unfold sndN
    split
    · rename_i hl2
      have k := (snd1_ok (lo := lo) h hl2 hs).1
      exact ih _ _ k k.2.1
    · exact ⟨l, hs⟩
theorem sndA_b {P : Pg} (h : wfP P) (lo : Nat → Nat) : zA (sndA P lo) ≤ 1000000 := by
  obtain ⟨l, k⟩ := sndN_ok h lo 1000 zO 0 (zOk_0 h) (Nat.zero_le _)
  have h1 := k.1
  have h2 := h.2.2.2.2.2.2.2.2.1
  have h3 := k.2.2.1
  have h4 := k.2.2.2.1
  show zA (sndN P lo 1000 zO 0) ≤ _
  omega
theorem zWs_le {P : Pg} (h : wfP P) (s : Sn) : zWs P s ≤ 800 := by
  have h1 := sm_le (g := fun l => zWr P s l) (b := Pw P) (fun l => cn_le _ _) (PL P)
  have h2 := h.2.1
  have h3 := h.2.2.1
  have h4 : Pw P * PL P ≤ 40 * 20 := Nat.mul_le_mul h2 h3
  show sm (fun l => zWr P s l) (PL P) ≤ 800
  omega
section MSendC
variable {M : Mm} {P : Pg}
/-- the answer of a call on sending -/
def mQ (v : Rs) (b : Int32) (M M' : Mm) : Prop := mR v b M' ∧ XF xSq M M' ∧ Mi M' 39 = Mi M 39
theorem mSentOp (hM : MO M) (hP : isPgM (Mi M 39) P) (hw : wfP P) (x : Int32) : Rn (fX8_sent 38 x) M (fun b M' => mQ (spSent P x) b M M') := by
  unfold fX8_sent spSent
  rw [Rn_bnd, show (9 : Int32) = pl 10 from by decide, mIn0 (by omega)]
  by_cases g : isLn 10 x = true
  · rw [if_pos g, g, if_neg (by decide)]
    obtain ⟨k, hk, rfl⟩ := isLn_t (by omega) g
    rw [ix_n (by omega)]
    unfold fX8_sent_L16
    refine mPI0 hM hP (fun M0 x0 t0 m0 p0 => ?_)
    rw [Rn_bnd, Rn_gI, t0, if_pos (by decide), Rn_bnd]
    refine (mSendPage m0 p0 hw).mono ?_
    rintro - M1 ⟨x1, s1⟩
    have m1 := m0.xf x1
    have p1 : isPgM (Mi M1 39) P := by rw [x1.row (fun _ => rfl)]; exact p0
    have t1 : Mi M1 38 0 = nI 0 := by rw [x1.mi rfl]; exact t0
    have x01 : XF xSq M M1 := (x0.mono xRd_Sq).tr (x1.mono xSe_Sq)
    have r1 : Mi M1 39 = Mi M 39 := by rw [x1.row (fun _ => rfl), x0.row (fun _ => rfl)]
    obtain ⟨h1, h2, h3, h4, h5, h6, h7, h8, h9, h10⟩ := s1
    have st : ∀ k, k < 4 → Rn (bnd (fX8_statesOf 38 (nI (3 + k) - 3)) fun v => rtn v) M1 (fun b M' => mQ (.inr (nI (sm (fun l => bN (decide (zS (sndA P (Ps P)) l = k))) (PL P)))) b M M') := by
      intro k hk
      rw [nL3, nsb (by omega), show 3 + k - 3 = k by omega, Rn_bnd, mStates m1 p1 hw h2 (zS3 P _) (by omega), Rn_rtn]
      exact ⟨mR_r t1, x01, r1⟩
    rcases (show k = 0 ∨ k = 1 ∨ k = 2 ∨ k = 3 ∨ k = 4 ∨ k = 5 ∨ k = 6 ∨ k = 7 ∨ k = 8 ∨ k = 9 by omega) with rfl | rfl | rfl | rfl | rfl | rfl | rfl | rfl | rfl | rfl
    · rw [if_pos (by decide), Rn_bnd, Rn_gI, h6, Rn_rtn]; exact ⟨mR_r t1, x01, r1⟩
    · rw [if_neg (by decide), if_pos (by decide), Rn_bnd, Rn_gI, h7, Rn_rtn]; exact ⟨mR_r t1, x01, r1⟩
    · rw [if_neg (by decide), if_neg (by decide), if_pos (by decide), Rn_bnd, Rn_gI, h8, Rn_rtn]; exact ⟨mR_r t1, x01, r1⟩
    · rw [if_neg (by decide), if_neg (by decide), if_neg (by decide), if_pos (by decide)]; exact st 0 (by omega)
    · rw [if_neg (by decide), if_neg (by decide), if_neg (by decide), if_neg (by decide), if_pos (by decide)]; exact st 1 (by omega)
    · rw [if_neg (by decide), if_neg (by decide), if_neg (by decide), if_neg (by decide), if_neg (by decide), if_pos (by decide)]; exact st 2 (by omega)
    · rw [if_neg (by decide), if_neg (by decide), if_neg (by decide), if_neg (by decide), if_neg (by decide), if_neg (by decide), if_pos (by decide)]; exact st 3 (by omega)
    · rw [if_neg (by decide), if_neg (by decide), if_neg (by decide), if_neg (by decide), if_neg (by decide), if_neg (by decide), if_neg (by decide), if_pos (by decide), Rn_bnd, mWrongs m1 p1 hw h1, Rn_rtn]
      exact ⟨mR_r t1, x01, r1⟩
    · rw [if_neg (by decide), if_neg (by decide), if_neg (by decide), if_neg (by decide), if_neg (by decide), if_neg (by decide), if_neg (by decide), if_neg (by decide), if_pos (by decide), Rn_bnd, Rn_gI, h9, Rn_rtn]
      exact ⟨mR_r t1, x01, r1⟩
    · rw [if_neg (by decide), if_neg (by decide), if_neg (by decide), if_neg (by decide), if_neg (by decide), if_neg (by decide), if_neg (by decide), if_neg (by decide), if_neg (by decide), if_pos (by decide), Rn_bnd, Rn_gI, h10, Rn_rtn]
      exact ⟨mR_r t1, x01, r1⟩
  · have g3 : isLn 10 x = false := by simpa using g
    rw [if_neg g, g3, if_pos (by decide)]
    unfold fX8_sent_L16
    refine mPI0 hM hP (fun M0 x0 t0 m0 p0 => ?_)
    rw [Rn_bnd, Rn_gI, t0, if_neg (by decide), Rn_rtn]
    exact ⟨mR_l t0, x0.mono xRd_Sq, x0.row (fun _ => rfl)⟩
theorem mSentLineOp (hM : MO M) (hP : isPgM (Mi M 39) P) (hw : wfP P) (x y : Int32) : Rn (fX8_sentLine 38 x y) M (fun b M' => mQ (spSentLine P x y) b M M') := by
  have h20 := hw.2.2.1
  unfold fX8_sentLine spSentLine
  rw [Rn_bnd, mIsLine hM hP hw]
  by_cases g : isLn (PL P) x = true
  · rw [if_pos g, g, if_neg (by decide), Rn_bnd, show (4 : Int32) = pl 5 from by decide, mIn0 (by omega)]
    obtain ⟨l, hl, rfl⟩ := isLn_t (by omega) g
    by_cases g2 : isLn 5 y = true
    · rw [if_pos g2, g2, if_neg (by decide)]
      obtain ⟨k, hk, rfl⟩ := isLn_t (by omega) g2
      rw [ix_n (by omega), ix_n (by omega)]
      unfold fX8_sentLine_L27
      refine mPI0 hM hP (fun M0 x0 t0 m0 p0 => ?_)
      rw [Rn_bnd, Rn_gI, t0, if_pos (by decide), Rn_bnd]
      refine (mSendPage m0 p0 hw).mono ?_
      rintro - M1 ⟨x1, s1⟩
      have m1 := m0.xf x1
      have p1 : isPgM (Mi M1 39) P := by rw [x1.row (fun _ => rfl)]; exact p0
      have t1 : Mi M1 38 0 = nI 0 := by rw [x1.mi rfl]; exact t0
      have x01 : XF xSq M M1 := (x0.mono xRd_Sq).tr (x1.mono xSe_Sq)
      have r1 : Mi M1 39 = Mi M 39 := by rw [x1.row (fun _ => rfl), x0.row (fun _ => rfl)]
      obtain ⟨h1, h2, h3, h4, h5, h6, h7, h8, h9, h10⟩ := s1
      rcases (show k = 0 ∨ k = 1 ∨ k = 2 ∨ k = 3 ∨ k = 4 by omega) with rfl | rfl | rfl | rfl | rfl
      · rw [if_pos (by decide), Rn_bnd, mA21 m1, Rn_bnd, rn_lI (by omega), mL53 m1, h2 l (by omega), Rn_rtn]; exact ⟨by omega, mR_r t1, x01, r1⟩
      · rw [if_neg (by decide), if_pos (by decide), Rn_bnd, mA22 m1, Rn_bnd, rn_lI (by omega), mL54 m1, h3 l (by omega), Rn_rtn]; exact ⟨by omega, mR_r t1, x01, r1⟩
      · rw [if_neg (by decide), if_neg (by decide), if_pos (by decide), Rn_bnd, mA23 m1, Rn_bnd, rn_lI (by omega), mL55 m1, h4 l (by omega), Rn_rtn]; exact ⟨by omega, mR_r t1, x01, r1⟩
      · rw [if_neg (by decide), if_neg (by decide), if_neg (by decide), if_pos (by decide), Rn_bnd, mWrong m1 p1 hw hl (h1 l hl), Rn_rtn]; exact ⟨mR_r t1, x01, r1⟩
      · rw [if_neg (by decide), if_neg (by decide), if_neg (by decide), if_neg (by decide), Rn_bnd, mA24 m1, Rn_bnd, rn_lI (by omega), mL56 m1, h5 l (by omega), Rn_rtn]; exact ⟨by omega, mR_r t1, x01, r1⟩
    · have g3 : isLn 5 y = false := by simpa using g2
      rw [if_neg g2, g3, if_pos (by decide)]
      unfold fX8_sentLine_L27
      refine mPI0 hM hP (fun M0 x0 t0 m0 p0 => ?_)
      rw [Rn_bnd, Rn_gI, t0, if_neg (by decide), Rn_rtn]
      exact ⟨mR_l t0, x0.mono xRd_Sq, x0.row (fun _ => rfl)⟩
  · have g3 : isLn (PL P) x = false := by simpa using g
    rw [if_neg g, g3, if_pos (by decide)]
    unfold fX8_sentLine_L27
    refine mPI0 hM hP (fun M0 x0 t0 m0 p0 => ?_)
    rw [Rn_bnd, Rn_gI, t0, if_neg (by decide), Rn_rtn]
    exact ⟨mR_l t0, x0.mono xRd_Sq, x0.row (fun _ => rfl)⟩
theorem mReceivedOp (hM : MO M) (hP : isPgM (Mi M 39) P) (hw : wfP P) (x y : Int32) : Rn (fX8_received 38 x y) M (fun b M' => mQ (spReceived P x y) b M M') := by
  have h20 := hw.2.2.1
  have h40 := hw.2.1
  unfold fX8_received spReceived
  rw [Rn_bnd, mIsDot hM hP hw]
  by_cases h : isLn (PL P) x = true ∧ isLn (Pw P) y = true
  · rw [if_pos h, h.1, h.2, if_neg (by decide)]
    obtain ⟨l, hl, rfl⟩ := isLn_t (by omega) h.1
    obtain ⟨k, hk, rfl⟩ := isLn_t (by omega) h.2
    rw [ix_n (by omega), ix_n (by omega)]
    unfold fX8_received_L15
    refine mPI0 hM hP (fun M0 x0 t0 m0 p0 => ?_)
    rw [Rn_bnd, Rn_gI, t0, if_pos (by decide), Rn_bnd]
    refine (mSendPage m0 p0 hw).mono ?_
    rintro - M1 ⟨x1, s1⟩
    have m1 := m0.xf x1
    have t1 : Mi M1 38 0 = nI 0 := by rw [x1.mi rfl]; exact t0
    have x01 : XF xSq M M1 := (x0.mono xRd_Sq).tr (x1.mono xSe_Sq)
    have r1 : Mi M1 39 = Mi M 39 := by rw [x1.row (fun _ => rfl), x0.row (fun _ => rfl)]
    rw [Rn_bnd, mA20 m1, Rn_bnd, nL40, pk_mul, nI_add, rn_lI (by omega), mL52 m1, s1.1 l hl k (by omega), Rn_rtn]
    exact ⟨by omega, mR_r t1, x01, r1⟩
  · rw [if_neg h, if_pos (by rw [nL0, bN_0]; revert h; cases isLn (PL P) x <;> cases isLn (Pw P) y <;> simp)]
    unfold fX8_received_L15
    refine mPI0 hM hP (fun M0 x0 t0 m0 p0 => ?_)
    rw [Rn_bnd, Rn_gI, t0, if_neg (by decide), Rn_rtn]
    exact ⟨mR_l t0, x0.mono xRd_Sq, x0.row (fun _ => rfl)⟩
theorem loOne5 (l : Nat) : ∀ i, i < 20 → loOne l i ≤ 5 := fun i _ => by unfold loOne; split <;> omega
theorem pSet_back {f : Nat → Int32} {k v : Nat} (h : isPgM f (pSet P k v)) (hf : k < 6 → f (2 + k) = nI (Pt P k)) : isPgM f P := by
  refine ⟨h.1, h.2.1, fun j hj => ?_, h.2.2.2.1, h.2.2.2.2⟩
  by_cases e : j = k
  · rw [e]; exact hf (by omega)
  · have := h.t hj
    rw [this]
    show nI (updN (Pt P) k v j) = _
    rw [updN_n e]
theorem mHarmed (hM : MO M) (hP : isPgM (Mi M 39) P) (hw : wfP P) {l : Nat} (hl : l < 20) : Rn (fX8_sendsHarmed 38 (nI l)) M (fun _ M' => XF xSq M M' ∧ Mi M' 39 = Mi M 39 ∧ Mi M' 38 0 = Mi M 38 0 ∧ mSn M' (sndH P l) (PL P)) := by
  unfold fX8_sendsHarmed
  refine rn_loopv (F := fun n i => fX8_sendsHarmed_L2 n 38 (nI l) (nI i)) (fun i M' => XF xSn M M' ∧ i ≤ 20 ∧ ∀ k, k < i → Mi M' 57 k = nI (loOne l k)) (fun i => 20 - i) ?_ fu 0 M (by unfold fu; omega) ⟨XF.rf, by omega, fun k hk => by omega⟩
  rintro n i M1 ⟨x1, hi, hk⟩ ih
  show Rn (fX8_sendsHarmed_L2 (n + 1) 38 (nI l) (nI i)) M1 _
  have m1 := hM.xf x1
  have p1 : isPgM (Mi M1 39) P := by rw [x1.row (fun _ => rfl)]; exact hP
  unfold fX8_sendsHarmed_L2
  refine Rn_cs (nle (a := 20) (by omega) (by omega)) (fun h => ?_) (fun h => ?_)
  · rw [show (5 : Int32) = nI (2 + 3) from rfl, mRdT m1 p1 (k := 3) (by omega), Rn_bnd, mA1 m1, Rn_bnd, rn_aI (by omega), mL39 m1]
    refine ⟨by omega, ?_⟩
    have x2 : XF xPg M1 (sI M1 39 (2 + 3) 0) := XF.rf.sI rfl
    have p2 : isPgM (Mi (sI M1 39 (2 + 3) 0) 39) (pSet P 3 0) := pSet_ok (v := 0) p1 (by omega)
    have r2 : ∀ b, b ≠ 5 → Mi (sI M1 39 (2 + 3) 0) 39 b = Mi M1 39 b := fun b hb => by rw [Mi_sI, if_neg (by omega)]
    have lo2 : mLo (sI M1 39 (2 + 3) 0) (loOne l) := fun i2 hi2 => by rw [ne_row (by decide)]; exact hk i2 (by omega)
    generalize sI M1 39 (2 + 3) 0 = M2 at x2 p2 r2 lo2 ⊢
    have m2 := m1.xf x2
    rw [Rn_bnd]
    refine (mSendAll m2 p2 (wf_set hw (by omega) (Nat.zero_le _) (Nat.zero_le _)) lo2 (loOne5 l)).mono ?_
    rintro - M3 ⟨x3, s3⟩
    have m3 := m2.xf x3
    rw [Rn_bnd, mA1 m3, Rn_bnd, rn_aI (by omega), mL39 m3, Rn_rtn]
    have x4 : XF xPg M3 (sI M3 39 (2 + 3) (nI (Pt P 3))) := XF.rf.sI rfl
    refine ⟨by omega, (((x1.mono xSn_Se).mono xSe_Sq).tr (x2.mono xPg_Sq)).tr ((x3.mono xSe_Sq).tr (x4.mono xPg_Sq)), ?_, ?_, ?_⟩
    · funext b
      rw [Mi_sI]
      by_cases e : b = 5
      · rw [if_pos ⟨rfl, e⟩, e]; exact (hP.t (k := 3) (by omega)).symm
      · rw [if_neg (by omega), x3.row (fun _ => rfl), r2 b e, x1.row (fun _ => rfl)]
    · rw [x4.mi rfl, x3.mi rfl, x2.mi rfl, x1.mi rfl]
    · exact s3.xf x4 (fun a b h => by unfold xPg; unfold xSn at h; cases e : a == 39 <;> simp at e ⊢; subst e; simp at h)
  · have nx : ∀ v : Int32, v = nI (loOne l i) → Rn (fX8_sendsHarmed_L23 (fX8_sendsHarmed_L2 n) 38 (nI l) (nI i) v (nI i) 57) M1 (fun _ M' => XF xSq M M' ∧ Mi M' 39 = Mi M 39 ∧ Mi M' 38 0 = Mi M 38 0 ∧ mSn M' (sndH P l) (PL P)) := by
      rintro v rfl
      unfold fX8_sendsHarmed_L23
      rw [Rn_bnd, rn_aI (by omega), mL57 m1, nL1, nI_add]
      exact ⟨by omega, ih (i + 1) _ ⟨x1.sI rfl, by omega, fill_s hk rfl⟩ (by omega)⟩
    rw [Rn_bnd, mA25 m1]
    refine Rn_cs (d := i = l) (neq (by omega) (by omega)) (fun g => ?_) (fun g => ?_)
    · exact nx 1 (by unfold loOne; rw [if_pos g]; rfl)
    · exact nx 0 (by unfold loOne; rw [if_neg g]; rfl)
theorem mHarmOf (hM : MO M) (hP : isPgM (Mi M 39) P) (hw : wfP P) {s : Sn} (hs : ∀ i, i < PL P → gotAt M i (zG s i)) {k : Nat} (hk : k < 3) : Rn (fX8_harmOf 38 (nI k)) M (fun a M' => a = (if nI k = nI 0 then nI (sm (fun l => bN (decide (0 < zWr P s l))) (PL P)) else if nI k = nI 1 then nI (zWs P s) else lastW P s (PL P)) ∧ M' = M) := by
  have h20 := hw.2.2.1
  unfold fX8_harmOf
  refine rn_loopv (F := fun n i => fX8_harmOf_L7 n 38 (nI k) (nI (sm (fun l => bN (decide (0 < zWr P s l))) i)) (lastW P s i) (nI i)) (fun i M' => M' = M ∧ i ≤ PL P) (fun i => PL P - i) ?_ fu 0 M (by unfold fu; omega) ⟨rfl, Nat.zero_le _⟩
  rintro n i M1 ⟨rfl, hi⟩ ih
  show Rn (fX8_harmOf_L7 (n + 1) 38 (nI k) (nI (sm (fun l => bN (decide (0 < zWr P s l))) i)) (lastW P s i) (nI i)) M1 _
  unfold fX8_harmOf_L7
  rw [mRdL hM hP]
  refine Rn_cs (nle (by omega) (by omega)) (fun h => ?_) (fun h => ?_)
  · have hi2 : i = PL P := by omega
    rw [hi2]
    refine Rn_cs (d := nI k = nI 0) Iff.rfl (fun h0 => ?_) (fun h0 => ?_)
    · rw [Rn_rtn, if_pos h0]; exact ⟨rfl, rfl⟩
    · refine Rn_cs (d := nI k = nI 1) Iff.rfl (fun h1 => ?_) (fun h1 => ?_)
      · rw [Rn_bnd, mWrongs hM hP hw hs, Rn_rtn, if_neg h0, if_pos h1]; exact ⟨rfl, rfl⟩
      · rw [Rn_rtn, if_neg h0, if_neg h1]; exact ⟨rfl, rfl⟩
  · have nx := ih (i + 1) M1 ⟨rfl, by omega⟩ (by omega)
    rw [sm_s] at nx
    have hb := cn_le (fun k => (zG s i).testBit k != (Pr P i).testBit k) (Pw P)
    have h40 := hw.2.1
    rw [Rn_bnd, mWrong hM hP hw (by omega) (hs i (by omega))]
    unfold fX8_harmOf_L32 fX8_harmOf_L45 fX8_harmOf_L58
    refine Rn_cs (d := ¬ 0 < zWr P s i) (by rw [nL0, nle (show dif (Pw P) (zG s i) (Pr P i) < 2147483648 by unfold dif; omega) (by omega)]; show zWr P s i ≤ 0 ↔ _; omega) (fun g => ?_) (fun g => ?_)
    · have e1 : lastW P s (i + 1) = lastW P s i := by show (if 0 < zWr P s i then nI i else lastW P s i) = _; rw [if_neg g]
      rw [decide_eq_false g, e1] at nx
      rw [if_pos rfl, Rn_bnd, Rn_rtn, nL0, nI_add, if_pos rfl, nL1, nI_add]
      exact nx
    · have g : 0 < zWr P s i := by omega
      have e1 : lastW P s (i + 1) = nI i := by show (if 0 < zWr P s i then nI i else lastW P s i) = _; rw [if_pos g]
      rw [decide_eq_true g, e1] at nx
      rw [if_neg (by decide), Rn_bnd, Rn_rtn, if_neg (by decide), nL1, nI_add, nI_add]
      exact nx
theorem mHarmOp (hM : MO M) (hP : isPgM (Mi M 39) P) (hw : wfP P) (x y : Int32) : Rn (fX8_harm 38 x y) M (fun b M' => mQ (spHarm P x y) b M M') := by
  have h20 := hw.2.2.1
  unfold fX8_harm spHarm
  rw [Rn_bnd, mIsLine hM hP hw]
  by_cases g : isLn (PL P) x = true
  · rw [if_pos g, g, if_neg (by decide), Rn_bnd, show (2 : Int32) = pl 3 from by decide, mIn0 (by omega)]
    obtain ⟨l, hl, rfl⟩ := isLn_t (by omega) g
    by_cases g2 : isLn 3 y = true
    · rw [if_pos g2, g2, if_neg (by decide)]
      obtain ⟨k, hk, rfl⟩ := isLn_t (by omega) g2
      rw [ix_n (by omega)]
      unfold fX8_harm_L27
      refine mPI0 hM hP (fun M0 x0 t0 m0 p0 => ?_)
      rw [Rn_bnd, Rn_gI, t0, if_pos (by decide), Rn_bnd]
      refine (mHarmed m0 p0 hw (show l < 20 by omega)).mono ?_
      rintro - M1 ⟨x1, r1, t1, s1⟩
      have m1 := m0.xf x1
      have p1 : isPgM (Mi M1 39) P := by rw [r1]; exact p0
      rw [Rn_bnd]
      refine (mHarmOf m1 p1 hw (s := sndH P l) s1.1 hk).mono ?_
      rintro a M2 ⟨rfl, rfl⟩
      rw [Rn_rtn]
      exact ⟨mR_r (by rw [t1]; exact t0), (x0.mono xRd_Sq).tr x1, by rw [r1, x0.row (fun _ => rfl)]⟩
    · have g3 : isLn 3 y = false := by simpa using g2
      rw [if_neg g2, g3, if_pos (by decide), show pl 3 = 2 from by decide]
      unfold fX8_harm_L27
      refine mPI0 hM hP (fun M0 x0 t0 m0 p0 => ?_)
      rw [Rn_bnd, Rn_gI, t0, if_neg (by decide), Rn_rtn]
      exact ⟨mR_l t0, x0.mono xRd_Sq, x0.row (fun _ => rfl)⟩
  · have g3 : isLn (PL P) x = false := by simpa using g
    rw [if_neg g, g3, if_pos (by decide)]
    unfold fX8_harm_L27
    refine mPI0 hM hP (fun M0 x0 t0 m0 p0 => ?_)
    rw [Rn_bnd, Rn_gI, t0, if_neg (by decide), Rn_rtn]
    exact ⟨mR_l t0, x0.mono xRd_Sq, x0.row (fun _ => rfl)⟩
end MSendC
