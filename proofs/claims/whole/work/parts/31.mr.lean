/-! THE REFERENCE: calls that read the page -/
def xRd (h k : Nat) : Bool := xCd h k || (h == 38 && k == 0)
theorem xCd_Rd (a b : Nat) (h : xRd a b = false) : xCd a b = false := by unfold xRd at h; cases e : xCd a b <;> simp [e] at h ⊢
def mR (v : Rs) (b : Int32) (M' : Mm) : Prop := match v with
  | .inl c => Mi M' 38 0 = nI c
  | .inr x => Mi M' 38 0 = nI 0 ∧ b = x
theorem mIn0 {x : Int32} {n : Nat} (hn : n < 2147483648) {M : Mm} {Q : Int32 → Mm → Prop} : Rn (fX8_in x 0 (pl n)) M Q ↔ Q (nI (bN (isLn n x))) M := by
  unfold fX8_in isLn
  have e : pl n < x ↔ ¬ x < nI n := by
    rw [Int32.lt_iff_toInt_lt, Int32.lt_iff_toInt_lt, pl_toInt hn, nI_tI hn]; omega
  by_cases h1 : x < 0
  · simp only [if_pos h1, Rn_grd, Rn_rtn, decide_eq_true h1]
    exact ⟨fun h => h.2, fun h => ⟨by decide, h⟩⟩
  · rw [if_neg h1]
    by_cases h2 : x < nI n
    · rw [if_neg (fun z => e.mp z h2)]
      simp only [Rn_grd, Rn_rtn, decide_eq_false h1, decide_eq_true h2]
      exact ⟨fun h => h.2, fun h => ⟨by decide, h⟩⟩
    · rw [if_pos (e.mpr h2)]
      simp only [Rn_grd, Rn_rtn, decide_eq_false h1, decide_eq_false h2]
      exact ⟨fun h => h.2, fun h => ⟨by decide, h⟩⟩
section MRead
variable {M : Mm} {P : Pg} {α : Type} {Q : α → Mm → Prop}
theorem mRdW (hM : MO M) (hP : isPgM (Mi M 39) P) {F : Int32 → Mm → Option (α × Mm)} : Rn (bnd (gA 38 1) fun v => bnd (lI v 0) F) M Q ↔ Rn (F (nI (Pw P))) M Q := by
  rw [Rn_bnd, mA1 hM, Rn_bnd, nL0, rn_lI (by omega), mL39 hM, hP.w]; simp
theorem mRdL (hM : MO M) (hP : isPgM (Mi M 39) P) {F : Int32 → Mm → Option (α × Mm)} : Rn (bnd (gA 38 1) fun v => bnd (lI v 1) F) M Q ↔ Rn (F (nI (PL P))) M Q := by
  rw [Rn_bnd, mA1 hM, Rn_bnd, nL1, rn_lI (by omega), mL39 hM, hP.l]; simp
theorem mRdT (hM : MO M) (hP : isPgM (Mi M 39) P) {k : Nat} (hk : k < 6) {F : Int32 → Mm → Option (α × Mm)} : Rn (bnd (gA 38 1) fun v => bnd (lI v (nI (2 + k))) F) M Q ↔ Rn (F (nI (Pt P k))) M Q := by
  rw [Rn_bnd, mA1 hM, Rn_bnd, rn_lI (by omega), mL39 hM, hP.t hk]
  have : 2 + k < 828 := by omega
  simp [this]
theorem mRdS (hM : MO M) (hP : isPgM (Mi M 39) P) {k : Nat} (hk : k < 20) {F : Int32 → Mm → Option (α × Mm)} : Rn (bnd (gA 38 1) fun v => bnd (lI v (nI (8 + k))) F) M Q ↔ Rn (F (nI (Ps P k))) M Q := by
  rw [Rn_bnd, mA1 hM, Rn_bnd, rn_lI (by omega), mL39 hM, hP.s hk]
  have : 8 + k < 828 := by omega
  simp [this]
theorem mRdD (hM : MO M) (hP : isPgM (Mi M 39) P) (hw : wfP P) {l k : Nat} (hl : l < PL P) (hk : k < 40) {F : Int32 → Mm → Option (α × Mm)} : Rn (bnd (gA 38 1) fun v => bnd (fX8_dotAt (nI l) (nI k)) fun v' => bnd (lI v v') F) M Q ↔ Rn (F (nI (bN ((Pr P l).testBit k)))) M Q := by
  have := hw.2.2.1
  rw [Rn_bnd, mA1 hM, Rn_bnd, mDotAt, Rn_bnd, rn_lI (by omega), mL39 hM, hP.d hl hk]
  have : 28 + 40 * l + k < 828 := by omega
  simp [this]
end MRead
section MReadB
variable {M : Mm} {P : Pg} {Q : Int32 → Mm → Prop}
theorem mIsLine (hM : MO M) (hP : isPgM (Mi M 39) P) (hw : wfP P) {x : Int32} : Rn (fX8_isLine 38 x) M Q ↔ Q (nI (bN (isLn (PL P) x))) M := by
  have := hw.2.2.1
  unfold fX8_isLine
  rw [mRdL hM hP, Rn_bnd]
  change Rn (fX8_in x 0 (pl (PL P))) M _ ↔ _
  rw [mIn0 (by omega), Rn_grd, Rn_rtn]
  exact ⟨fun h => h.2, fun h => ⟨bN_g _, h⟩⟩
theorem mIsDot (hM : MO M) (hP : isPgM (Mi M 39) P) (hw : wfP P) {x y : Int32} : Rn (fX8_isDot 38 x y) M Q ↔ Q (nI (bN (isLn (PL P) x && isLn (Pw P) y))) M := by
  have := hw.2.1
  unfold fX8_isDot
  rw [Rn_bnd, mIsLine hM hP hw]
  cases h : isLn (PL P) x with
  | false =>
    rw [if_pos (by decide), Rn_grd, Rn_rtn]
    exact ⟨fun h => h.2, fun h => ⟨by decide, h⟩⟩
  | true =>
    rw [if_neg (by decide), mRdW hM hP, Rn_bnd]
    change Rn (fX8_in y 0 (pl (Pw P))) M _ ↔ _
    rw [mIn0 (by omega)]
    cases h2 : isLn (Pw P) y with
    | false =>
      rw [if_pos (by decide), Rn_grd, Rn_rtn]
      exact ⟨fun h => h.2, fun h => ⟨by decide, h⟩⟩
    | true =>
      rw [if_neg (by decide), Rn_grd, Rn_rtn]
      exact ⟨fun h => h.2, fun h => ⟨by decide, h⟩⟩
theorem mBlacks (hM : MO M) (hP : isPgM (Mi M 39) P) (hw : wfP P) {l : Nat} (hl : l < PL P) : Rn (fX8_blacks 38 (nI l)) M Q ↔ Q (nI (blk (Pw P) (Pr P l))) M := by
  have h40 := hw.2.1
  refine Rn_det ?_
  unfold fX8_blacks
  refine rn_loopv (F := fun n i => fX8_blacks_L4 n 38 (nI l) (nI (cn (fun k => (Pr P l).testBit k) i)) (nI i)) (fun i M' => M' = M ∧ i ≤ Pw P) (fun i => Pw P - i) ?_ fu 0 M (by unfold fu; omega) ⟨rfl, Nat.zero_le _⟩
  rintro n i M1 ⟨rfl, hi⟩ ih
  show Rn (fX8_blacks_L4 (n + 1) 38 (nI l) (nI (cn (fun k => (Pr P l).testBit k) i)) (nI i)) M1 _
  unfold fX8_blacks_L4
  rw [mRdW hM hP]
  refine Rn_cs (nle (by omega) (by omega)) (fun h => ?_) (fun h => ?_)
  · rw [Rn_rtn, show i = Pw P by omega]; exact ⟨rfl, rfl⟩
  · rw [mRdD hM hP hw hl (by omega), Rn_bnd, Rn_rtn, nI_add, nL1, nI_add]
    exact ih (i + 1) M1 ⟨rfl, by omega⟩ (by omega)
theorem mAhead (hM : MO M) (hP : isPgM (Mi M 39) P) (hw : wfP P) {l k : Nat} (hl : l < PL P) (hk : k < 40) : Rn (fX8_ahead 38 (nI l) (nI k)) M Q ↔ Q (nI (bN (decide (0 < k) && (Pr P l).testBit (k - 1)))) M := by
  unfold fX8_ahead
  by_cases h : k = 0
  · subst h
    rw [if_pos (by decide), Rn_rtn]; rfl
  · rw [if_neg (by rw [nL0, neq (by omega) (by omega)]; exact h), nL1, nsb (by omega), mRdD hM hP hw hl (by omega), Rn_rtn]
    have : decide (0 < k) = true := by simp; omega
    rw [this, Bool.true_and]
theorem chg_eq (r k : Nat) : nI (bN (r.testBit k)) = nI (bN (decide (0 < k) && r.testBit (k - 1))) ↔ chg r k = false := by
  rw [bN_eq]; unfold chg
  cases r.testBit k <;> cases (decide (0 < k) && r.testBit (k - 1)) <;> simp
theorem mChanges (hM : MO M) (hP : isPgM (Mi M 39) P) (hw : wfP P) {l : Nat} (hl : l < PL P) : Rn (fX8_changes 38 (nI l)) M Q ↔ Q (nI (nch (Pw P) (Pr P l))) M := by
  have h40 := hw.2.1
  refine Rn_det ?_
  unfold fX8_changes
  refine rn_loopv (F := fun n i => fX8_changes_L4 n 38 (nI l) (nI (cn (fun k => chg (Pr P l) k) i)) (nI i)) (fun i M' => M' = M ∧ i ≤ Pw P) (fun i => Pw P - i) ?_ fu 0 M (by unfold fu; omega) ⟨rfl, Nat.zero_le _⟩
  rintro n i M1 ⟨rfl, hi⟩ ih
  show Rn (fX8_changes_L4 (n + 1) 38 (nI l) (nI (cn (fun k => chg (Pr P l) k) i)) (nI i)) M1 _
  unfold fX8_changes_L4
  rw [mRdW hM hP]
  refine Rn_cs (nle (by omega) (by omega)) (fun h => ?_) (fun h => ?_)
  · rw [Rn_rtn, show i = Pw P by omega]; exact ⟨rfl, rfl⟩
  · rw [mRdD hM hP hw hl (by omega), Rn_bnd, mAhead hM hP hw hl (by omega)]
    have nx := ih (i + 1) M1 ⟨rfl, by omega⟩ (by omega)
    rw [cn_s] at nx
    unfold fX8_changes_L39
    refine Rn_cs (chg_eq _ _) (fun h1 => ?_) (fun h1 => ?_)
    · rw [Rn_bnd, Rn_rtn, nL0, nI_add, nL1, nI_add]
      rw [h1] at nx; exact nx
    · rw [Rn_bnd, Rn_rtn, nL1, nI_add, nI_add]
      rw [show chg (Pr P l) i = true by simpa using h1] at nx; exact nx
theorem bx_eq (a b : Bool) : nI (bN a) = nI (bN b) ↔ (a != b) = false := by rw [bN_eq]; cases a <;> cases b <;> simp
theorem mDiffers (hM : MO M) (hP : isPgM (Mi M 39) P) (hw : wfP P) {l : Nat} (hl : l < PL P) {x : Int32} {u : Nat} (hx : (x = -1 ∧ u = 0) ∨ ∃ l2, l2 < PL P ∧ x = nI l2 ∧ u = Pr P l2) : Rn (fX8_differs 38 (nI l) x) M Q ↔ Q (nI (dif (Pw P) (Pr P l) u)) M := by
  have h40 := hw.2.1
  have h20 := hw.2.2.1
  refine Rn_det ?_
  unfold fX8_differs
  refine rn_loopv (F := fun n i => fX8_differs_L5 n 38 (nI l) x (nI (cn (fun k => (Pr P l).testBit k != u.testBit k) i)) (nI i)) (fun i M' => M' = M ∧ i ≤ Pw P) (fun i => Pw P - i) ?_ fu 0 M (by unfold fu; omega) ⟨rfl, Nat.zero_le _⟩
  rintro n i M1 ⟨rfl, hi⟩ ih
  show Rn (fX8_differs_L5 (n + 1) 38 (nI l) x (nI (cn (fun k => (Pr P l).testBit k != u.testBit k) i)) (nI i)) M1 _
  unfold fX8_differs_L5
  rw [mRdW hM hP]
  refine Rn_cs (nle (by omega) (by omega)) (fun h => ?_) (fun h => ?_)
  · rw [Rn_rtn, show i = Pw P by omega]; exact ⟨rfl, rfl⟩
  · rw [mRdD hM hP hw hl (by omega)]
    have nx := ih (i + 1) M1 ⟨rfl, by omega⟩ (by omega)
    rw [cn_s] at nx
    have key : Rn (fX8_differs_L48 (fX8_differs_L5 n) 38 (nI l) x (nI i) (nI (bN (u.testBit i))) (nI (bN ((Pr P l).testBit i))) (nI (cn (fun k => (Pr P l).testBit k != u.testBit k) i))) M1 (fun a M' => a = nI (dif (Pw P) (Pr P l) u) ∧ M' = M1) := by
      unfold fX8_differs_L48 fX8_differs_L56
      refine Rn_cs (bx_eq _ _) (fun h1 => ?_) (fun h1 => ?_)
      · rw [Rn_bnd, Rn_rtn, nL0, nI_add, nL1, nI_add]
        rw [h1] at nx; exact nx
      · rw [Rn_bnd, Rn_rtn, nL1, nI_add, nI_add]
        rw [show ((Pr P l).testBit i != u.testBit i) = true by simpa using h1] at nx; exact nx
    rcases hx with ⟨rfl, rfl⟩ | ⟨l2, hl2, rfl, rfl⟩
    · rw [if_pos rfl]
      rw [Nat.zero_testBit] at key
      exact key
    · rw [if_neg (ne_m1 (by omega)), mRdD hM hP hw hl2 (by omega)]
      exact key
theorem mSum8 (hM : MO M) (hP : isPgM (Mi M 39) P) (hw : wfP P) {x : Nat} (hx : x = 8 ∨ x = 9 ∨ x = 10 ∨ x = 12) : Rn (fX8_sumOf 38 (nI x)) M (fun a M' => a = nI (cntV P 0 x) ∧ XF xCd M M') := by
  have h40 := hw.2.1
  have h20 := hw.2.2.1
  obtain ⟨g, hg, hv⟩ : ∃ g : Nat → Nat, cntV P 0 x = sm g (PL P) ∧ (x = 8 → g = fun l => blk (Pw P) (Pr P l)) ∧ (x = 9 → g = fun l => nch (Pw P) (Pr P l)) ∧ (x = 10 → g = fun l => bN (isMk P l)) ∧ (x = 12 → g = fun l => bN (decide (Pr P l = Pu P l))) := by
    rcases hx with rfl | rfl | rfl | rfl
    · exact ⟨fun l => blk (Pw P) (Pr P l), rfl, by simp, by simp, by simp, by simp⟩
    · exact ⟨fun l => nch (Pw P) (Pr P l), rfl, by simp, by simp, by simp, by simp⟩
    · exact ⟨fun l => bN (isMk P l), rfl, by simp, by simp, by simp, by simp⟩
    · exact ⟨fun l => bN (decide (Pr P l = Pu P l)), rfl, by simp, by simp, by simp, by simp⟩
  rw [hg]
  unfold fX8_sumOf
  refine rn_loopv (F := fun n i => fX8_sumOf_L4 n 38 (nI x) (nI (sm g i)) (nI i)) (fun i M' => XF xCd M M' ∧ i ≤ PL P) (fun i => PL P - i) ?_ fu 0 M (by unfold fu; omega) ⟨XF.rf, Nat.zero_le _⟩
  rintro n i M1 ⟨x1, hi⟩ ih
  show Rn (fX8_sumOf_L4 (n + 1) 38 (nI x) (nI (sm g i)) (nI i)) M1 _
  have hM1 := hM.xf x1
  have hP1 : isPgM (Mi M1 39) P := by rw [x1.row (fun _ => rfl)]; exact hP
  unfold fX8_sumOf_L4
  rw [mRdL hM1 hP1]
  refine Rn_cs (nle (by omega) (by omega)) (fun h => ?_) (fun h => ?_)
  · rw [Rn_rtn, show i = PL P by omega]; exact ⟨rfl, x1⟩
  · have fin : ∀ M2, XF xCd M1 M2 → ∀ a, a = g i → Rn (fX8_sumOf_L81 (fX8_sumOf_L4 n) 38 (nI x) (nI i) (nI a) (nI (sm g i))) M2 (fun a M' => a = nI (sm g (PL P)) ∧ XF xCd M M') := by
      rintro M2 x2 a rfl
      unfold fX8_sumOf_L81
      rw [Rn_bnd, Rn_rtn, nI_add, nL1, nI_add]
      exact ih (i + 1) M2 ⟨x1.tr x2, by omega⟩ (by omega)
    have hil : i < PL P := by omega
    refine Rn_cs (d := x = 8) (by rw [nL8, neq (by omega) (by omega)]) (fun h8 => ?_) (fun h8 => ?_)
    · rw [Rn_bnd, mBlacks hM1 hP1 hw hil]
      exact fin M1 XF.rf _ (by rw [hv.1 h8])
    · refine Rn_cs (d := x = 9) (by rw [nL9, neq (by omega) (by omega)]) (fun h9 => ?_) (fun h9 => ?_)
      · rw [Rn_bnd, mChanges hM1 hP1 hw hil]
        exact fin M1 XF.rf _ (by rw [hv.2.1 h9])
      · refine Rn_cs (d := x = 10) (by rw [nL10, neq (by omega) (by omega)]) (fun h10 => ?_) (fun h10 => ?_)
        · rw [Rn_bnd]
          refine (mMark hM1 hP1 hw hil).mono ?_
          rintro a M2 ⟨rfl, x2⟩
          refine Rn_cs (bN_0 _) (fun hb => ?_) (fun hb => ?_)
          · exact fin M2 x2 0 (by rw [hv.2.2.1 h10]; show 0 = bN _; rw [hb]; rfl)
          · exact fin M2 x2 1 (by rw [hv.2.2.1 h10]; show 1 = bN _; rw [show isMk P i = true by simpa using hb]; rfl)
        · have hx12 : x = 12 := by omega
          have hb1 := hw.2.2.2.1 i hil
          have hu : Pu P i < 2 ^ Pw P := by
            unfold Pu; split
            · exact Nat.two_pow_pos _
            · exact hw.2.2.2.1 _ (by omega)
          rw [Rn_bnd, mDiffers hM1 hP1 hw hil (u := Pu P i) ?_]
          · refine Rn_cs (d := Pr P i = Pu P i) ?_ (fun hb => ?_) (fun hb => ?_)
            · rw [nL0, neq (by have := cn_le (fun k => (Pr P i).testBit k != (Pu P i).testBit k) (Pw P); unfold dif; omega) (by omega)]
              exact dif_0 hb1 hu
            · exact fin M1 XF.rf 1 (by rw [hv.2.2.2 hx12]; show 1 = bN _; rw [decide_eq_true hb]; rfl)
            · exact fin M1 XF.rf 0 (by rw [hv.2.2.2 hx12]; show 0 = bN _; rw [decide_eq_false hb]; rfl)
          · by_cases h0 : i = 0
            · subst h0; exact Or.inl ⟨by decide, rfl⟩
            · refine Or.inr ⟨i - 1, by omega, by rw [nL1, nsb (by omega)], ?_⟩
              unfold Pu; rw [if_neg h0]
end MReadB
theorem mR_l {c : Nat} {b : Int32} {M : Mm} (h : Mi M 38 0 = nI c) : mR (.inl c) b M := h
theorem mR_r {x : Int32} {M : Mm} (h : Mi M 38 0 = nI 0) : mR (.inr x) x M := ⟨h, rfl⟩
theorem sI_self {M : Mm} {a b : Nat} {v : Int32} : Mi (sI M a b v) a b = v := by rw [Mi_sI, if_pos ⟨rfl, rfl⟩]
theorem isPgM.si {M : Mm} {P : Pg} {a b : Nat} {v : Int32} (h : isPgM (Mi M 39) P) (ha : a ≠ 39) : isPgM (Mi (sI M a b v) 39) P := by
  have : Mi (sI M a b v) 39 = Mi M 39 := by funext k; rw [Mi_sI, if_neg (fun z => ha z.1.symm)]
  rw [this]; exact h
section MReadC
variable {M : Mm} {P : Pg}
theorem mDot (hM : MO M) (hP : isPgM (Mi M 39) P) (hw : wfP P) (x y : Int32) : Rn (fX8_dot 38 x y) M (fun b M' => mR (spDot P x y) b M' ∧ XF xRd M M') := by
  have h40 := hw.2.1
  have h20 := hw.2.2.1
  unfold fX8_dot spDot
  rw [Rn_bnd, mIsDot hM hP hw]
  by_cases h : isLn (PL P) x = true ∧ isLn (Pw P) y = true
  · rw [if_pos h, h.1, h.2, if_neg (by decide)]
    obtain ⟨l, hl, rfl⟩ := isLn_t (by omega) h.1
    obtain ⟨k, hk, rfl⟩ := isLn_t (by omega) h.2
    unfold fX8_dot_L15
    rw [Rn_bnd, Rn_pI, Rn_bnd, Rn_gI, sI_self, if_pos (by decide), mRdD hM.sI (hP.si (by decide)) hw hl (by omega), Rn_rtn, ix_n (by omega), ix_n (by omega)]
    exact ⟨mR_r sI_self, XF.rf.sI rfl⟩
  · rw [if_neg h, if_pos (by rw [nL0, bN_0]; revert h; cases isLn (PL P) x <;> cases isLn (Pw P) y <;> simp)]
    unfold fX8_dot_L15
    rw [Rn_bnd, Rn_pI, Rn_bnd, Rn_gI, sI_self, if_neg (by decide), Rn_rtn]
    exact ⟨mR_l sI_self, XF.rf.sI rfl⟩
theorem mCount (hM : MO M) (hP : isPgM (Mi M 39) P) (hw : wfP P) {nU : Nat} (hU : Mi M 38 4 = nI nU) (x : Int32) : Rn (fX8_count 38 x) M (fun b M' => mR (spCount P nU x) b M' ∧ XF xRd M M') := by
  unfold fX8_count spCount
  rw [Rn_bnd, show (12 : Int32) = pl 13 from by decide, mIn0 (by omega)]
  by_cases h : isLn 13 x = true
  · rw [if_pos h, h, if_neg (by decide)]
    obtain ⟨k, hk, rfl⟩ := isLn_t (by omega) h
    rw [ix_n (by omega)]
    have x0 : XF xRd M (sI M 38 0 0) := XF.rf.sI rfl
    have t0 : Mi (sI M 38 0 0) 38 0 = nI 0 := sI_self
    have u0 : Mi (sI M 38 0 0) 38 4 = nI nU := by rw [Mi_sI, if_neg (by omega)]; exact hU
    have m0 : MO (sI M 38 0 0) := hM.sI
    have p0 : isPgM (Mi (sI M 38 0 0) 39) P := hP.si (by decide)
    unfold fX8_count_L16
    rw [Rn_bnd, Rn_pI, Rn_bnd, Rn_gI, t0, if_pos (by decide)]
    generalize sI M 38 0 0 = M0 at x0 t0 u0 m0 p0 ⊢
    have big : ∀ k, k = 8 ∨ k = 9 ∨ k = 10 ∨ k = 12 → Rn (bnd (fX8_sumOf 38 (nI k)) fun v => rtn v) M0 (fun b M' => mR (.inr (nI (cntV P nU k))) b M' ∧ XF xRd M M') := by
      intro k hk
      rw [Rn_bnd]
      refine (mSum8 m0 p0 hw hk).mono ?_
      rintro a M1 ⟨rfl, x1⟩
      rw [Rn_rtn]
      have : cntV P 0 k = cntV P nU k := by rcases hk with rfl | rfl | rfl | rfl <;> rfl
      rw [this]
      exact ⟨mR_r (by rw [x1.mi rfl]; exact t0), x0.tr (x1.mono xCd_Rd)⟩
    unfold fX8_count_L31
    have hcases : k < 6 ∨ k = 6 ∨ k = 7 ∨ k = 8 ∨ k = 9 ∨ k = 10 ∨ k = 11 ∨ k = 12 := by omega
    rcases hcases with h6 | rfl | rfl | rfl | rfl | rfl | rfl | rfl
    · have fin : Rn (bnd (gA 38 1) fun v => bnd (lI v (2 + nI k)) fun v2 => rtn v2) M0 (fun b M' => mR (.inr (nI (cntV P nU k))) b M' ∧ XF xRd M M') := by
        rw [nL2, nI_add, mRdT m0 p0 h6, Rn_rtn]
        have : cntV P nU k = Pt P k := by unfold cntV; rw [if_pos h6]
        rw [this]
        exact ⟨mR_r t0, x0⟩
      have hk6 : k = 0 ∨ k = 1 ∨ k = 2 ∨ k = 3 ∨ k = 4 ∨ k = 5 := by omega
      rcases hk6 with rfl | rfl | rfl | rfl | rfl | rfl
      · rw [if_neg (by decide), if_pos (by decide)]; exact fin
      · rw [if_neg (by decide), if_neg (by decide), if_pos (by decide)]; exact fin
      · rw [if_neg (by decide), if_neg (by decide), if_neg (by decide), if_pos (by decide)]; exact fin
      · rw [if_neg (by decide), if_neg (by decide), if_neg (by decide), if_neg (by decide), if_pos (by decide)]; exact fin
      · rw [if_neg (by decide), if_neg (by decide), if_neg (by decide), if_neg (by decide), if_neg (by decide), if_pos (by decide)]; exact fin
      · rw [if_neg (by decide), if_neg (by decide), if_neg (by decide), if_neg (by decide), if_neg (by decide), if_neg (by decide), if_pos (by decide)]; exact fin
    · rw [if_neg (by decide), if_neg (by decide), if_neg (by decide), if_neg (by decide), if_neg (by decide), if_neg (by decide), if_neg (by decide), if_pos (by decide), mRdW m0 p0, Rn_rtn]
      exact ⟨mR_r t0, x0⟩
    · rw [if_neg (by decide), if_neg (by decide), if_neg (by decide), if_neg (by decide), if_neg (by decide), if_neg (by decide), if_neg (by decide), if_neg (by decide), if_pos (by decide), mRdL m0 p0, Rn_rtn]
      exact ⟨mR_r t0, x0⟩
    · rw [if_neg (by decide), if_neg (by decide), if_neg (by decide), if_neg (by decide), if_neg (by decide), if_neg (by decide), if_neg (by decide), if_neg (by decide), if_neg (by decide), if_pos (by decide)]
      exact big 8 (by omega)
    · rw [if_neg (by decide), if_neg (by decide), if_neg (by decide), if_neg (by decide), if_neg (by decide), if_neg (by decide), if_neg (by decide), if_neg (by decide), if_neg (by decide), if_neg (by decide), if_pos (by decide)]
      exact big 9 (by omega)
    · rw [if_neg (by decide), if_neg (by decide), if_neg (by decide), if_neg (by decide), if_neg (by decide), if_neg (by decide), if_neg (by decide), if_neg (by decide), if_neg (by decide), if_neg (by decide), if_neg (by decide), if_pos (by decide)]
      exact big 10 (by omega)
    · rw [if_neg (by decide), if_neg (by decide), if_neg (by decide), if_neg (by decide), if_neg (by decide), if_neg (by decide), if_neg (by decide), if_neg (by decide), if_neg (by decide), if_neg (by decide), if_neg (by decide), if_neg (by decide), if_pos (by decide), Rn_bnd, Rn_gI, u0, Rn_rtn]
      exact ⟨mR_r t0, x0⟩
    · rw [if_neg (by decide), if_neg (by decide), if_neg (by decide), if_neg (by decide), if_neg (by decide), if_neg (by decide), if_neg (by decide), if_neg (by decide), if_neg (by decide), if_neg (by decide), if_neg (by decide), if_neg (by decide), if_neg (by decide), if_pos (by decide)]
      exact big 12 (by omega)
  · have h2 : isLn 13 x = false := by simpa using h
    rw [if_neg h, h2, if_pos (by decide)]
    unfold fX8_count_L16
    rw [Rn_bnd, Rn_pI, Rn_bnd, Rn_gI, sI_self, if_neg (by decide)]
    unfold fX8_count_L31
    rw [if_pos rfl, Rn_rtn]
    exact ⟨mR_l sI_self, XF.rf.sI rfl⟩
end MReadC
