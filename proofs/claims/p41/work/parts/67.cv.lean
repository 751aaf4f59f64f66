/-! THE CLASS: what comes of sending -/
section CSent
variable {M : Mm} {P : Pg} {s : Sn}
theorem cWrongOf (hM : CO M) (hP : isPgC M 1 P) (hp : wfP P) (hs : cSn M s) (hb : ∀ i, i < PL P → zG s i < 2 ^ Pw P) {l : Nat} (hl : l < PL P) {Q : Int32 → Mm → Prop} : Rn (fX5_wrongDotsOf 22 (nI l) 1) M Q ↔ Q (nI (zWr P s l)) M := by
  refine Rn_det ?_
  have h20 := hp.2.2.1
  unfold fX5_wrongDotsOf
  rw [Rn_bnd, cHasLine hP hp, isLn_n (by omega) hl, if_neg (by decide), Rn_bnd, cA22_7 hM, Rn_bnd, rn_lJ (by omega), cL23 hM, hs.1 l (by omega), Rn_bnd, cRowL hM hP hp hl, Rn_bnd, fDif hp.2.1 (hb l hl) (hp.2.2.2.1 l hl), Rn_rtn]
  exact ⟨by omega, rfl, rfl⟩
theorem cWrongDots (hM : CO M) (hP : isPgC M 1 P) (hp : wfP P) (hs : cSn M s) (hb : ∀ i, i < PL P → zG s i < 2 ^ Pw P) {Q : Int32 → Mm → Prop} : Rn (fX5_wrongDots 22 1) M Q ↔ Q (nI (zWs P s)) M := by
  refine Rn_det ?_
  have h20 := hp.2.2.1
  unfold fX5_wrongDots
  refine rn_loopv (F := fun n i => fX5_wrongDots_L4 n 22 1 (nI (sm (fun l => zWr P s l) i)) (nI i)) (fun i M' => M' = M ∧ i ≤ PL P) (fun i => PL P - i) ?_ fu 0 M (by unfold fu; omega) ⟨rfl, Nat.zero_le _⟩
  rintro n i M1 ⟨rfl, hi⟩ ih
  show Rn (fX5_wrongDots_L4 (n + 1) 22 1 (nI (sm (fun l => zWr P s l) i)) (nI i)) M1 _
  unfold fX5_wrongDots_L4
  rw [Rn_bnd, cN hP]
  refine Rn_cs (nle (by omega) (by omega)) (fun g => ?_) (fun g => ?_)
  · rw [Rn_rtn, show i = PL P by omega]; exact ⟨rfl, rfl⟩
  · have hl : i < PL P := by omega
    have nx := ih (i + 1) M1 ⟨rfl, hl⟩ (by omega)
    rw [sm_s] at nx
    rw [Rn_bnd, cWrongOf hM hP hp hs hb hl, Rn_bnd, Rn_rtn, nI_add, nL1, nI_add]
    exact nx
theorem zWr_le (hp : wfP P) (s : Sn) (l : Nat) : zWr P s l ≤ 40 := Nat.le_trans (cn_le _ _) hp.2.1
theorem cWrongLines (hM : CO M) (hP : isPgC M 1 P) (hp : wfP P) (hs : cSn M s) (hb : ∀ i, i < PL P → zG s i < 2 ^ Pw P) {Q : Int32 → Mm → Prop} : Rn (fX5_wrongLines 22 1) M Q ↔ Q (nI (sm (fun l => bN (decide (0 < zWr P s l))) (PL P))) M := by
  refine Rn_det ?_
  have h20 := hp.2.2.1
  unfold fX5_wrongLines
  refine rn_loopv (F := fun n i => fX5_wrongLines_L4 n 22 1 (nI (sm (fun l => bN (decide (0 < zWr P s l))) i)) (nI i)) (fun i M' => M' = M ∧ i ≤ PL P) (fun i => PL P - i) ?_ fu 0 M (by unfold fu; omega) ⟨rfl, Nat.zero_le _⟩
  rintro n i M1 ⟨rfl, hi⟩ ih
  show Rn (fX5_wrongLines_L4 (n + 1) 22 1 (nI (sm (fun l => bN (decide (0 < zWr P s l))) i)) (nI i)) M1 _
  unfold fX5_wrongLines_L4 fX5_wrongLines_L24
  rw [Rn_bnd, cN hP]
  refine Rn_cs (nle (by omega) (by omega)) (fun g => ?_) (fun g => ?_)
  · rw [Rn_rtn, show i = PL P by omega]; exact ⟨rfl, rfl⟩
  · have hl : i < PL P := by omega
    have nx := ih (i + 1) M1 ⟨rfl, hl⟩ (by omega)
    have zw := zWr_le hp s i
    rw [sm_s] at nx
    rw [Rn_bnd, cWrongOf hM hP hp hs hb hl]
    refine Rn_cs (show nI (zWr P s i) ≤ 0 ↔ zWr P s i ≤ 0 from nle (b := 0) (by omega) (by omega)) (fun g => ?_) (fun g => ?_)
    · rw [nL1, nI_add]
      rw [show decide (0 < zWr P s i) = false by simp; omega] at nx; exact nx
    · rw [nL1, nI_add, nI_add]
      rw [show decide (0 < zWr P s i) = true by simp; omega] at nx; exact nx
theorem cLastWrong (hM : CO M) (hP : isPgC M 1 P) (hp : wfP P) (hs : cSn M s) (hb : ∀ i, i < PL P → zG s i < 2 ^ Pw P) {Q : Int32 → Mm → Prop} : Rn (fX5_lastWrongLine 22 1) M Q ↔ Q (lastW P s (PL P)) M := by
  refine Rn_det ?_
  have h20 := hp.2.2.1
  unfold fX5_lastWrongLine
  rw [Rn_bnd, cN hP, Rn_bnd, Rn_rtn]
  refine rn_loopv (F := fun n i => fX5_lastWrongLine_L7 n 22 1 (pl i)) (fun i M' => M' = M ∧ i ≤ PL P ∧ lastW P s i = lastW P s (PL P)) (fun i => i) ?_ fu (PL P) M (by unfold fu; omega) ⟨rfl, Nat.le_refl _, rfl⟩
  rintro n i M1 ⟨rfl, hi, he⟩ ih
  show Rn (fX5_lastWrongLine_L7 (n + 1) 22 1 (pl i)) M1 _
  unfold fX5_lastWrongLine_L7
  refine Rn_cs (show pl i < 0 ↔ i < 0 + 1 from pl_lt (w := 0) (by omega) (by omega)) (fun g => ?_) (fun g => ?_)
  · rw [Rn_rtn, ← he, show i = 0 by omega]; exact ⟨rfl, rfl⟩
  · obtain ⟨i, rfl⟩ : ∃ j, i = j + 1 := ⟨i - 1, by omega⟩
    have zw := zWr_le hp s i
    have e : lastW P s (i + 1) = if 0 < zWr P s i then nI i else lastW P s i := rfl
    rw [pl_s, Rn_bnd, cWrongOf hM hP hp hs hb (by omega)]
    refine Rn_cs (show nI (zWr P s i) ≤ 0 ↔ zWr P s i ≤ 0 from nle (b := 0) (by omega) (by omega)) (fun g => ?_) (fun g => ?_)
    · rw [add_m1]
      exact ih i M1 ⟨rfl, by omega, by rw [← he, e, if_neg (by omega)]⟩ (by omega)
    · rw [Rn_rtn, ← he, e, if_pos (by omega)]; exact ⟨rfl, rfl⟩
theorem cStates (hM : CO M) (hp : wfP P) (hs : cSn M s) (hz : ∀ i, zS s i ≤ 3) {k : Nat} (hk : k < 10) {Q : Int32 → Mm → Prop} : Rn (fX5_linesOfState 22 (nI k) (nI (PL P))) M Q ↔ Q (nI (sm (fun l => bN (decide (zS s l = k))) (PL P))) M := by
  refine Rn_det ?_
  have h20 := hp.2.2.1
  unfold fX5_linesOfState
  refine rn_loopv (F := fun n i => fX5_linesOfState_L5 n 22 (nI k) (nI (PL P)) (nI (sm (fun l => bN (decide (zS s l = k))) i)) (nI i)) (fun i M' => M' = M ∧ i ≤ PL P) (fun i => PL P - i) ?_ fu 0 M (by unfold fu; omega) ⟨rfl, Nat.zero_le _⟩
  rintro n i M1 ⟨rfl, hi⟩ ih
  show Rn (fX5_linesOfState_L5 (n + 1) 22 (nI k) (nI (PL P)) (nI (sm (fun l => bN (decide (zS s l = k))) i)) (nI i)) M1 _
  unfold fX5_linesOfState_L5 fX5_linesOfState_L32
  refine Rn_cs (nle (by omega) (by omega)) (fun g => ?_) (fun g => ?_)
  · rw [Rn_rtn, show i = PL P by omega]; exact ⟨rfl, rfl⟩
  · have nx := ih (i + 1) M1 ⟨rfl, by omega⟩ (by omega)
    rw [sm_s] at nx
    have := hz i
    rw [if_neg (by rw [nL20, nle (by omega) (by omega)]; omega), Rn_bnd, cA22_8 hM, Rn_bnd, rn_lI (by omega), cL24 hM, hs.2.1 i (by omega)]
    refine ⟨by omega, Rn_cs (neq (by omega) (by omega)) (fun g1 => ?_) (fun g1 => ?_)⟩
    · rw [nL1, nI_add, nI_add]
      rw [show decide (zS s i = k) = true by simp [g1]] at nx; exact nx
    · rw [nL1, nI_add]
      rw [show decide (zS s i = k) = false by simp [g1]] at nx; exact nx
theorem cPS {α : Type} {F : Mm → Option (α × Mm)} {Q : α → Mm → Prop} (hM : CO M) (hP : isPgC M 1 P) (hp : wfP P) (k : ∀ M1, XF xSd M M1 → CO M1 → isPgC M1 1 P → cSn M1 (sndA P (Ps P)) → (∀ i, i < PL P → zG (sndA P (Ps P)) i < 2 ^ Pw P) → Rn F M1 Q) : Rn (bnd (gA 0 5) fun v1 => bnd (gA 0 0) fun v2 => bnd (fX5_prepare v1 v2) fun _ => bnd (gA 0 5) fun v3 => bnd (gA 0 0) fun v4 => bnd (fX5_sendPage v3 v4) fun _ => F) M Q := by
  rw [Rn_bnd, cA0_5 hM, Rn_bnd, cA0_0 hM, Rn_bnd]
  refine (cPrepare hM hP hp).mono ?_
  rintro - M1 ⟨x1, pr⟩
  have m1 := hM.xf x1
  have p1 := hP.xf x1 xSd_Pg
  rw [Rn_bnd, cA0_5 m1, Rn_bnd, cA0_0 m1, Rn_bnd]
  refine (cSendPage m1 p1 hp ⟨rfl, rfl, rfl, rfl⟩ hp pr hp.2.2.2.2.1).mono ?_
  rintro - M2 ⟨x2, c2, b2⟩
  exact k M2 (x1.tr (x2.mono xSw_Sd)) (m1.xf x2) (p1.xw x2) c2 b2
theorem cSentOp (hM : CO M) (hP : isPgC M 1 P) (hp : wfP P) (x : Int32) : Rn (fX7_sent 0 x) M (fun a M' => a = xc 0 0 (spSent P x) ∧ XF xSd M M') := by
  unfold fX7_sent fX7_sent_L10 spSent
  rcases ln_le (n := 9) (by omega) x with ⟨h1, h2⟩ | ⟨h1, h2, h3, k, hk, rfl⟩ | ⟨h1, h2, h3⟩
  · have h2 : isLn 10 x = false := h2
    rw [if_pos h1, Rn_rtn, h2]; exact ⟨rfl, XF.rf⟩
  · have h3 : isLn 10 (nI k) = true := h3
    rw [if_neg h1, if_pos h3, ix_n (by omega)]
    have h2 : nI k ≤ (9 : Int32) := h2
    rw [if_pos h2]
    refine cPS hM hP hp (fun M1 x1 m1 p1 c1 b1 => ?_)
    have z3 := zS3 P (Ps P)
    refine Rn_cs (show nI k = 0 ↔ k = 0 from neq (b := 0) (by omega) (by omega)) (fun g1 => ?_) (fun g1 => ?_)
    · subst g1; rw [Rn_bnd, cA0_5 m1, Rn_bnd, Rn_gI, c1.2.2.2.2.2.1, Rn_rtn]; exact ⟨rfl, x1⟩
    refine Rn_cs (show nI k = 1 ↔ k = 1 from neq (b := 1) (by omega) (by omega)) (fun g1 => ?_) (fun g1 => ?_)
    · subst g1; rw [Rn_bnd, cA0_5 m1, Rn_bnd, Rn_gI, c1.2.2.2.2.2.2.1, Rn_rtn]; exact ⟨rfl, x1⟩
    refine Rn_cs (show nI k = 2 ↔ k = 2 from neq (b := 2) (by omega) (by omega)) (fun g1 => ?_) (fun g1 => ?_)
    · subst g1; rw [Rn_bnd, cA0_5 m1, Rn_bnd, Rn_gI, c1.2.2.2.2.2.2.2.1, Rn_rtn]; exact ⟨rfl, x1⟩
    refine Rn_cs (show nI k = 3 ↔ k = 3 from neq (b := 3) (by omega) (by omega)) (fun g1 => ?_) (fun g1 => ?_)
    · subst g1; rw [Rn_bnd, cA0_5 m1, Rn_bnd, cA0_0 m1, Rn_bnd, cN p1, Rn_bnd, show nI 3 - 3 = nI 0 from rfl, cStates m1 hp c1 z3 (by omega), Rn_rtn]; exact ⟨rfl, x1⟩
    refine Rn_cs (show nI k = 4 ↔ k = 4 from neq (b := 4) (by omega) (by omega)) (fun g1 => ?_) (fun g1 => ?_)
    · subst g1; rw [Rn_bnd, cA0_5 m1, Rn_bnd, cA0_0 m1, Rn_bnd, cN p1, Rn_bnd, show nI 4 - 3 = nI 1 from rfl, cStates m1 hp c1 z3 (by omega), Rn_rtn]; exact ⟨rfl, x1⟩
    refine Rn_cs (show nI k = 5 ↔ k = 5 from neq (b := 5) (by omega) (by omega)) (fun g1 => ?_) (fun g1 => ?_)
    · subst g1; rw [Rn_bnd, cA0_5 m1, Rn_bnd, cA0_0 m1, Rn_bnd, cN p1, Rn_bnd, show nI 5 - 3 = nI 2 from rfl, cStates m1 hp c1 z3 (by omega), Rn_rtn]; exact ⟨rfl, x1⟩
    refine Rn_cs (show nI k = 6 ↔ k = 6 from neq (b := 6) (by omega) (by omega)) (fun g1 => ?_) (fun g1 => ?_)
    · subst g1; rw [Rn_bnd, cA0_5 m1, Rn_bnd, cA0_0 m1, Rn_bnd, cN p1, Rn_bnd, show nI 6 - 3 = nI 3 from rfl, cStates m1 hp c1 z3 (by omega), Rn_rtn]; exact ⟨rfl, x1⟩
    refine Rn_cs (show nI k = 7 ↔ k = 7 from neq (b := 7) (by omega) (by omega)) (fun g1 => ?_) (fun g1 => ?_)
    · subst g1; rw [Rn_bnd, cA0_5 m1, Rn_bnd, cA0_0 m1, Rn_bnd, cWrongDots m1 p1 hp c1 b1, Rn_rtn]; exact ⟨rfl, x1⟩
    refine Rn_cs (show nI k = 8 ↔ k = 8 from neq (b := 8) (by omega) (by omega)) (fun g1 => ?_) (fun g1 => ?_)
    · subst g1; rw [Rn_bnd, cA0_5 m1, Rn_bnd, Rn_gI, c1.2.2.2.2.2.2.2.2.1, Rn_rtn]; exact ⟨rfl, x1⟩
    refine Rn_cs (show nI k = 9 ↔ k = 9 from neq (b := 9) (by omega) (by omega)) (fun g1 => ?_) (fun g1 => ?_)
    · subst g1; rw [Rn_bnd, cA0_5 m1, Rn_bnd, Rn_gI, c1.2.2.2.2.2.2.2.2.2, Rn_rtn]; exact ⟨rfl, x1⟩
    omega
  · have h3 : isLn 10 x = false := h3
    have h2 : ¬ x ≤ (9 : Int32) := h2
    rw [if_neg h1, if_neg h2, Rn_rtn, h3]; exact ⟨rfl, XF.rf⟩
theorem cSentLineOp (hM : CO M) (hP : isPgC M 1 P) (hp : wfP P) (x y : Int32) : Rn (fX7_sentLine 0 x y) M (fun a M' => a = xc 2 0 (spSentLine P x y) ∧ XF xSd M M') := by
  have h20 := hp.2.2.1
  unfold fX7_sentLine spSentLine fX7_sentLine_L14
  rw [Rn_bndX, cNeedLine hM hP hp]
  by_cases g : isLn (PL P) x = true
  · rw [if_pos g, if_pos g]
    obtain ⟨l, hl, rfl⟩ := isLn_t (by omega) g
    rw [ix_n (by omega)]
    show Rn _ M _
    rcases ln_le (n := 4) (by omega) y with ⟨h1, h2⟩ | ⟨h1, h2, h3, k, hk, rfl⟩ | ⟨h1, h2, h3⟩
    · have h2 : isLn 5 y = false := h2
      rw [if_pos h1, Rn_rtn, h2]; exact ⟨rfl, XF.rf⟩
    · have h3 : isLn 5 (nI k) = true := h3
      rw [if_neg h1, if_pos h3, ix_n (by omega)]
      have h2 : nI k ≤ (4 : Int32) := h2
      rw [if_pos h2]
      refine cPS hM hP hp (fun M1 x1 m1 p1 c1 b1 => ?_)
      refine Rn_cs (show nI k = 0 ↔ k = 0 from neq (b := 0) (by omega) (by omega)) (fun g1 => ?_) (fun g1 => ?_)
      · subst g1; rw [Rn_bnd, cA0_5 m1, Rn_bnd, cA22_8 m1, Rn_bnd, rn_lI (by omega), cL24 m1, c1.2.1 l (by omega), Rn_rtn]; exact ⟨by omega, rfl, x1⟩
      refine Rn_cs (show nI k = 1 ↔ k = 1 from neq (b := 1) (by omega) (by omega)) (fun g1 => ?_) (fun g1 => ?_)
      · subst g1; rw [Rn_bnd, cA0_5 m1, Rn_bnd, cA22_9 m1, Rn_bnd, rn_lI (by omega), cL25 m1, c1.2.2.1 l (by omega), Rn_rtn]; exact ⟨by omega, rfl, x1⟩
      refine Rn_cs (show nI k = 2 ↔ k = 2 from neq (b := 2) (by omega) (by omega)) (fun g1 => ?_) (fun g1 => ?_)
      · subst g1; rw [Rn_bnd, cA0_5 m1, Rn_bnd, cA22_10 m1, Rn_bnd, rn_lI (by omega), cL26 m1, c1.2.2.2.1 l (by omega), Rn_rtn]; exact ⟨by omega, rfl, x1⟩
      refine Rn_cs (show nI k = 3 ↔ k = 3 from neq (b := 3) (by omega) (by omega)) (fun g1 => ?_) (fun g1 => ?_)
      · subst g1; rw [Rn_bnd, cA0_5 m1, Rn_bnd, cA0_0 m1, Rn_bnd, cWrongOf m1 p1 hp c1 b1 hl, Rn_rtn]; exact ⟨rfl, x1⟩
      have : k = 4 := by omega
      subst this
      rw [Rn_bnd, cA0_5 m1, Rn_bnd, cA22_11 m1, Rn_bnd, rn_lI (by omega), cL27 m1, c1.2.2.2.2.1 l (by omega), Rn_rtn]; exact ⟨by omega, rfl, x1⟩
    · have h3 : isLn 5 y = false := h3
      have h2 : ¬ y ≤ (4 : Int32) := h2
      rw [if_neg h1, if_neg h2, Rn_rtn, h3]; exact ⟨rfl, XF.rf⟩
  · rw [if_neg g, if_neg g]; exact ⟨rfl, XF.rf⟩
theorem cReceivedOp (hM : CO M) (hP : isPgC M 1 P) (hp : wfP P) (x y : Int32) : Rn (fX7_received 0 x y) M (fun a M' => a = xc 2 0 (spReceived P x y) ∧ XF xSd M M') := by
  have h20 := hp.2.2.1
  have h40 := hp.2.1
  unfold fX7_received spReceived
  rw [Rn_bndX, cNeedDot hM hP hp]
  by_cases g : isLn (PL P) x = true ∧ isLn (Pw P) y = true
  · rw [if_pos g, if_pos g]
    obtain ⟨l, hl, rfl⟩ := isLn_t (by omega) g.1
    obtain ⟨k, hk, rfl⟩ := isLn_t (by omega) g.2
    show Rn _ M _
    refine cPS hM hP hp (fun M1 x1 m1 p1 c1 b1 => ?_)
    rw [Rn_bnd, cA0_5 m1, Rn_bnd, cA22_7 m1, Rn_bnd, rn_lJ (by omega), cL23 m1, c1.1 l (by omega)]
    refine ⟨by omega, ?_⟩
    rw [Rn_bnd, fCol h40 (b1 l hl) hk, Rn_rtn, ix_n (by omega), ix_n (by omega)]
    exact ⟨rfl, x1⟩
  · rw [if_neg g, if_neg g]; exact ⟨rfl, XF.rf⟩
end CSent

