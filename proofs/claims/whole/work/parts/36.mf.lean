/-! THE REFERENCE: edits of lines -/
section MEditB
variable {M : Mm} {P : Pg} {U : List Pg}
theorem isPgM.at {f : Nat → Int32} {P : Pg} (h : isPgM f P) {l : Nat} (hl : l < PL P) : isRowAt f l (Pr P l) := fun k hk => h.d hl hk
theorem dif_up {w t a b : Nat} (h : t ≤ w) (e : ∀ k, t ≤ k → a.testBit k = b.testBit k) : dif t a b = dif w a b := by
  unfold dif
  exact (cn_up h (fun k hk => by rw [e k hk]; simp)).symm
/-- a new last line -/
theorem pAdd_ok {f g : Nat → Int32} {r : Nat} (h : isPgM f P) (hw : wfP P) (g0 : g 1 = nI (PL P + 1)) (hg : ∀ j, j ≠ 1 → j < 28 + 40 * PL P ∨ 28 + 40 * PL P + 40 ≤ j → g j = f j) (hr : isRowAt g (PL P) r) : isPgM g (pAdd P r) := by
  refine ⟨by rw [hg 0 (by omega) (by omega)]; exact h.1, g0, fun k hk => by rw [hg _ (by omega) (by omega)]; exact h.t hk, fun k hk => by rw [hg _ (by omega) (by omega)]; exact h.s hk, fun l hl k hk => ?_⟩
  have hl : l < PL P + 1 := hl
  show g _ = nI (bN ((updN (Pr P) (PL P) r l).testBit k))
  by_cases e : l = PL P
  · subst e; rw [updN_s]; exact hr k hk
  · rw [updN_n e, hg _ (by omega) (by omega)]; exact h.d (by omega) hk
theorem mAddOp (hM : MO M) (h : mPU M (P, U)) (x y : Int32) : Rn (fX8_addLine 38 x y) M (fun b M' => mE (spAdd P U x y) b M M') := by
  obtain ⟨hP, hw, -⟩ := id h
  have hP : isPgM (Mi M 39) P := hP
  have hw : wfP P := hw
  have h40 := hw.2.1
  have h20 := hw.2.2.1
  unfold fX8_addLine spAdd
  rw [Rn_bnd, mIsPart hM hP hw]
  by_cases g : isLn (Pw P + 1) x = true ∧ ¬ y < x ∧ ¬ nI (Pw P) < y
  · rw [if_pos g, decide_eq_true g, if_neg (by decide), mRdL hM hP]
    obtain ⟨f, t, hft, htw, rfl, rfl⟩ := isPt_t h40 g
    rw [ix_n (by omega), ix_n (by omega)]
    refine Rn_cs (d := 20 ≤ PL P) (nle (a := 20) (by omega) (by omega)) (fun hL => ?_) (fun hL => ?_)
    · rw [if_neg (by omega)]
      unfold fX8_addLine_L30
      refine mPI0 hM hP (fun M0 x0 t0 m0 p0 => ?_)
      rw [Rn_bnd, Rn_gI, t0, if_neg (by decide), Rn_rtn]
      exact mE_no h x0 p0 t0
    · rw [if_pos (by omega)]
      unfold fX8_addLine_L30
      refine mPI0 hM hP (fun M0 x0 t0 m0 p0 => ?_)
      rw [Rn_bnd, Rn_gI, t0, if_pos (by decide), Rn_bnd]
      refine (mKeeps m0 (h.go x0 (fun _ => rfl) rfl p0 hw)).mono ?_
      rintro - M1 ⟨x1, u1⟩
      have up : isPgM (Mi M1 39) P := u1.1
      have m1 := m0.xf x1
      rw [mRdL m1 up, Rn_bnd]
      refine (mClears m1 (show PL P < 20 by omega)).mono ?_
      rintro - M2 ⟨x2, g2, r2⟩
      have m2 := m1.xf x2
      rw [Rn_bnd, show (1 : Int32) = nI (bN true) from rfl]
      refine (mPaintsL m2 true (show PL P < 20 by omega) r2 hft (by omega)).mono ?_
      rintro a M3 ⟨-, x3, g3, r3⟩
      have m3 := m2.xf x3
      have g13 := g2.tr g3
      have l3 : Mi M3 39 1 = nI (PL P) := by rw [g13 1 (by omega)]; exact up.l
      rw [show nI (bN true) = 1 from rfl, Rn_bnd, mA1 m3, Rn_bnd, nL1, rn_lI (by omega), mL39 m3, l3, Rn_bnd, nI_add, rn_aI (by omega), mL39 m3, Rn_rtn]
      have x4 : XF xPg M3 (sI M3 39 1 (nI (PL P + 1))) := XF.rf.sI rfl
      refine ⟨by omega, by omega, mR_r ?_, ((x0.mono xRd_Ed).tr (x1.mono xKp_Ed)).tr (((x2.tr x3).tr x4).mono xPg_Ed), u1.go ((x2.tr x3).tr x4) (fun _ => rfl) rfl (pAdd_ok up hw sI_self (fun j hj hj2 => ?_) (fun k hk => ?_)) (wf_add hw (pntG_lt hft htw (Nat.two_pow_pos _)) (by omega))⟩
      · rw [x4.mi rfl, x3.mi rfl, x2.mi rfl, x1.mi rfl]; exact t0
      · rw [Mi_sI, if_neg (fun z => hj z.2)]; exact g13 j hj2
      · rw [Mi_sI, if_neg (by omega)]; exact r3 k hk
  · rw [if_neg g, decide_eq_false g, if_pos (by decide)]
    unfold fX8_addLine_L30
    refine mPI0 hM hP (fun M0 x0 t0 m0 p0 => ?_)
    rw [Rn_bnd, Rn_gI, t0, if_neg (by decide), Rn_rtn]
    exact mE_no h x0 p0 t0
theorem c2B_t {k : Nat} (hk : k < 2) : ∃ c : Bool, nI k = nI (bN c) ∧ c2B (nI k) = c := by
  rcases (show k = 0 ∨ k = 1 by omega) with rfl | rfl
  · exact ⟨false, rfl, by decide⟩
  · exact ⟨true, rfl, by decide⟩
theorem mPaintOp (hM : MO M) (h : mPU M (P, U)) (x a b c : Int32) : Rn (fX8_paint 38 x a b c) M (fun r M' => mE (spPaint P U x a b c) r M M') := by
  obtain ⟨hP, hw, -⟩ := id h
  have hP : isPgM (Mi M 39) P := hP
  have hw : wfP P := hw
  have h40 := hw.2.1
  have h20 := hw.2.2.1
  have bad : Rn (fX8_paint_L36 38 x a b c 38) M (fun r M' => mE (.inl 2, (P, U)) r M M') := by
    unfold fX8_paint_L36 fX8_paint_L37
    refine mPI0 hM hP (fun M0 x0 t0 m0 p0 => ?_)
    rw [Rn_bnd, Rn_gI, t0, if_neg (by decide), Rn_rtn]
    exact mE_no h x0 p0 t0
  unfold fX8_paint spPaint
  rw [Rn_bnd, mIsLine hM hP hw]
  by_cases g : isLn (PL P) x = true
  · rw [if_pos g, g, if_neg (by decide), Rn_bnd, mIsPart hM hP hw]
    obtain ⟨l, hl, rfl⟩ := isLn_t (by omega) g
    by_cases g2 : isLn (Pw P + 1) a = true ∧ ¬ b < a ∧ ¬ nI (Pw P) < b
    · rw [decide_eq_true g2, if_neg (by decide), Rn_bnd]
      have e1 : Rn (fX8_in c 0 1) M (fun z M' => z = nI (bN (isLn 2 c)) ∧ M' = M) := by
        rw [show (1 : Int32) = pl 2 from by decide, mIn0 (by omega)]; exact ⟨rfl, rfl⟩
      rw [Rn_det e1]
      by_cases g4 : isLn 2 c = true
      · rw [g4, if_neg (by decide), if_pos ⟨g2, rfl⟩]
        obtain ⟨f, t, hft, htw, rfl, rfl⟩ := isPt_t h40 g2
        obtain ⟨k, hk, rfl⟩ := isLn_t (by omega) g4
        obtain ⟨cb, hc1, hc2⟩ := c2B_t hk
        rw [hc2, hc1, ix_n (by omega), ix_n (by omega), ix_n (by omega)]
        unfold fX8_paint_L37
        refine mPI0 hM hP (fun M0 x0 t0 m0 p0 => ?_)
        rw [Rn_bnd, Rn_gI, t0, if_pos (by decide), Rn_bnd]
        refine (mKeeps m0 (h.go x0 (fun _ => rfl) rfl p0 hw)).mono ?_
        rintro - M1 ⟨x1, u1⟩
        have up : isPgM (Mi M1 39) P := u1.1
        have m1 := m0.xf x1
        rw [Rn_bnd]
        refine (mPaintsL m1 cb (show l < 20 by omega) (up.at hl) hft (by omega)).mono ?_
        rintro z M2 ⟨rfl, x2, g5, r2⟩
        rw [Rn_rtn, dif_up htw (fun k hk => by rw [pntG_bit hft, if_neg (by omega)])]
        refine ⟨mR_r ?_, ((x0.mono xRd_Ed).tr (x1.mono xKp_Ed)).tr (x2.mono xPg_Ed), u1.go x2 (fun _ => rfl) rfl (pRow_ok up g5 r2) (wf_row hw (pntG_lt hft htw (hw.2.2.2.1 l hl)))⟩
        rw [x2.mi rfl, x1.mi rfl]; exact t0
      · have g5 : isLn 2 c = false := by simpa using g4
        rw [g5, if_pos (by decide), if_neg (fun z => absurd z.2 (by decide))]
        exact bad
    · rw [decide_eq_false g2, if_pos (by decide), if_neg (fun z => g2 z.1)]
      exact bad
  · have g3 : isLn (PL P) x = false := by simpa using g
    rw [if_neg g, g3, if_pos (by decide)]
    unfold fX8_paint_L37
    refine mPI0 hM hP (fun M0 x0 t0 m0 p0 => ?_)
    rw [Rn_bnd, Rn_gI, t0, if_neg (by decide), Rn_rtn]
    exact mE_no h x0 p0 t0
/-- where a dot of a moved line comes from -/
theorem shR_bit {w r k : Nat} {y : Int32} (h1 : ¬ y < -40) (h2 : ¬ 40 < y) (hk : k < w) (hw : w ≤ 40) (hr : r < 2 ^ w) : (isLn w (nI k - y) = true → (shR w r y).testBit k = r.testBit (ix (nI k - y))) ∧ (isLn w (nI k - y) = false → (shR w r y).testBit k = false) := by
  by_cases hy : y < 0
  · obtain ⟨b, hb, hb2, rfl⟩ : ∃ b, b ≤ 40 ∧ 0 < b ∧ y = -nI b := by
      refine ⟨(-y.toInt).toNat, ?_, ?_, ?_⟩
      · rw [Int32.lt_iff_toInt_lt, show (-40 : Int32).toInt = -40 from by decide] at h1; omega
      · rw [Int32.lt_iff_toInt_lt, show (0 : Int32).toInt = 0 from rfl] at hy; omega
      · rw [Int32.lt_iff_toInt_lt, show (-40 : Int32).toInt = -40 from by decide] at h1
        rw [Int32.lt_iff_toInt_lt, show (0 : Int32).toInt = 0 from rfl] at hy
        apply Int32.toInt_inj.mp
        rw [sb_negT (by omega)]; omega
    have e1 : nI k - -nI b = nI (k + b) := by
      rw [Int32.sub_eq_add_neg, Int32.neg_neg, nI_add]
    have e2 : shR w r (-nI b) = r / 2 ^ b := by
      unfold shR; rw [if_pos hy, Int32.neg_neg, ix_n (by omega)]
    rw [e1, e2, Nat.testBit_div_two_pow, ix_n (by omega)]
    refine ⟨fun _ => rfl, fun z => ?_⟩
    have : w ≤ k + b := by
      rcases Nat.lt_or_ge (k + b) w with q | q
      · rw [isLn_n (by omega) q] at z; cases z
      · exact q
    exact Nat.testBit_lt_two_pow (Nat.lt_of_lt_of_le hr (pw_le this))
  · obtain ⟨b, hb, rfl⟩ := nI_of hy
    have hb4 : b ≤ 40 := by
      rw [show (40 : Int32) = nI 40 from rfl, nlt (by omega) hb] at h2; omega
    have e2 : shR w r (nI b) = r * 2 ^ b % 2 ^ w := by
      unfold shR; rw [if_neg hy, ix_n (by omega)]
    rw [e2, Nat.testBit_mod_two_pow, Nat.testBit_mul_two_pow]
    by_cases q : b ≤ k
    · rw [nsb q, ix_n (by omega)]
      refine ⟨fun _ => by simp [hk, q], fun z => ?_⟩
      rw [isLn_n (by omega) (by omega)] at z; cases z
    · refine ⟨fun z => ?_, fun _ => by simp [q]⟩
      exfalso
      unfold isLn at z
      have : nI k - nI b < 0 := pk_sneg (by omega) (by omega)
      simp [this] at z
theorem mShiftOp (hM : MO M) (h : mPU M (P, U)) (x y : Int32) : Rn (fX8_shift 38 x y) M (fun r M' => mE (spShift P U x y) r M M') := by
  obtain ⟨hP, hw, -⟩ := id h
  have hP : isPgM (Mi M 39) P := hP
  have hw : wfP P := hw
  have h40 := hw.2.1
  have h20 := hw.2.2.1
  unfold fX8_shift spShift
  rw [Rn_bnd, mIsLine hM hP hw]
  by_cases g : isLn (PL P) x = true
  · rw [if_pos g, g, if_neg (by decide), Rn_bnd]
    obtain ⟨l, hl, rfl⟩ := isLn_t (by omega) g
    rw [ix_n (by omega)]
    have hin : Rn (fX8_in y (-40) 40) M (fun z M' => z = nI (bN (decide (¬ y < -40 ∧ ¬ 40 < y))) ∧ M' = M) := by
      unfold fX8_in
      by_cases h1 : y < -40
      · rw [if_pos h1, Rn_grd, Rn_rtn]; refine ⟨by decide, ?_, rfl⟩; simp [h1]; rfl
      · rw [if_neg h1]
        by_cases h2 : 40 < y
        · rw [if_pos h2, Rn_grd, Rn_rtn]; refine ⟨by decide, ?_, rfl⟩; simp [h1, h2]; rfl
        · rw [if_neg h2, Rn_grd, Rn_rtn]; refine ⟨by decide, ?_, rfl⟩; simp [h1, h2]; rfl
    rw [Rn_det hin]
    by_cases g2 : ¬ y < -40 ∧ ¬ 40 < y
    · rw [if_pos g2, decide_eq_true g2, if_neg (by decide)]
      unfold fX8_shift_L29
      refine mPI0 hM hP (fun M0 x0 t0 m0 p0 => ?_)
      rw [Rn_bnd, Rn_gI, t0, if_pos (by decide), Rn_bnd]
      refine (mKeeps m0 (h.go x0 (fun _ => rfl) rfl p0 hw)).mono ?_
      rintro - M1 ⟨x1, u1⟩
      have up : isPgM (Mi M1 39) P := u1.1
      have m1 := m0.xf x1
      have x01 := (x0.mono xRd_Ed).tr (x1.mono xKp_Ed)
      have t1 : Mi M1 38 0 = nI 0 := by rw [x1.mi rfl]; exact t0
      rw [Rn_bnd]
      refine (mLine m1 up hw hl).mono ?_
      rintro - M2 ⟨x2, w2, u2, l2⟩
      have m2 := m1.xf x2
      have p2 : isPgM (Mi M2 39) P := by rw [x2.row (fun _ => rfl)]; exact up
      have xLE : ∀ a b, xEd a b = false → xL a b = false := fun a b z => xL_Cd a b (xCd_Rd a b (xRd_Ed a b z))
      have hwl := hw.2.2.2.1 l hl
      have hsl := shR_lt (y := y) hwl
      refine rn_loopv (F := fun n i => fX8_shift_L52 n 38 (nI l) y (nI i)) (fun i M' => XF xPg M2 M' ∧ i ≤ Pw P ∧ gRow (Mi M2 39) (Mi M' 39) l ∧ ∀ k, k < 40 → Mi M' 39 (28 + 40 * l + k) = nI (bN (if k < i then (shR (Pw P) (Pr P l) y).testBit k else (Pr P l).testBit k))) (fun i => Pw P - i) ?_ fu 0 M2 (by unfold fu; omega) ⟨XF.rf, by omega, gRow.rf, fun k hk => by rw [if_neg (by omega)]; exact p2.d hl hk⟩
      rintro n i M3 ⟨x3, hi, g3, hk⟩ ih
      show Rn (fX8_shift_L52 (n + 1) 38 (nI l) y (nI i)) M3 _
      have m3 := m2.xf x3
      have w3 : Mi M3 38 9 = nI (Pw P) := by rw [x3.mi rfl]; exact w2
      have l3 : isRow (Mi M3 45) (Pr P l) := by rw [x3.row (fun _ => rfl)]; exact l2
      unfold fX8_shift_L52
      rw [Rn_bnd, Rn_gI, w3]
      refine Rn_cs (nle (by omega) (by omega)) (fun h4 => ?_) (fun h4 => ?_)
      · have r3 : isRowAt (Mi M3 39) l (shR (Pw P) (Pr P l) y) := by
          intro k hk2
          rw [hk k hk2]
          by_cases q : k < i
          · rw [if_pos q]
          · rw [if_neg q, Nat.testBit_lt_two_pow (Nat.lt_of_lt_of_le hwl (pw_le (by omega))), Nat.testBit_lt_two_pow (Nat.lt_of_lt_of_le hsl (pw_le (by omega)))]
        have p3 : isPgM (Mi M3 39) (pRow P l (shR (Pw P) (Pr P l) y)) := pRow_ok p2 g3 r3
        have wf3 := wf_row (l := l) hw hsl
        have hb : blk (Pw P) (shR (Pw P) (Pr P l) y) = blk (Pw (pRow P l (shR (Pw P) (Pr P l) y))) (Pr (pRow P l (shR (Pw P) (Pr P l) y)) l) := by
          show _ = blk (Pw P) (updN (Pr P) l _ l); rw [updN_s]
        rw [Rn_bnd, mBlacks m3 p3 wf3 hl, Rn_rtn, hb]
        refine ⟨mR_r (by rw [x3.mi rfl, x2.mi rfl]; exact t1), (x01.tr (x2.mono xLE)).tr (x3.mono xPg_Ed), ?_⟩
        exact (u1.go (P' := P) x2 (fun _ => rfl) rfl p2 hw).go x3 (fun _ => rfl) rfl p3 wf3
      · have sb := shR_bit (y := y) g2.1 g2.2 (show i < Pw P by omega) h40 hwl
        have nx : ∀ v : Int32, v = nI (bN ((shR (Pw P) (Pr P l) y).testBit i)) → Rn (fX8_shift_L97 (fX8_shift_L52 n) 38 (nI l) y (nI i) v (nI (28 + 40 * l + i)) 39) M3 (fun r M' => mE (.inr (nI (blk (Pw P) (shR (Pw P) (Pr P l) y))), (pRow P l (shR (Pw P) (Pr P l) y), pushU U P)) r M M') := by
          rintro v rfl
          unfold fX8_shift_L97
          rw [Rn_bnd, rn_aI (by omega), mL39 m3, nL1, nI_add]
          refine ⟨by omega, ih (i + 1) _ ⟨x3.sI rfl, by omega, g3.si (by omega), fun k hk2 => ?_⟩ (by omega)⟩
          rw [Mi_sI]
          by_cases e : k = i
          · rw [if_pos ⟨rfl, by omega⟩, if_pos (by omega), e]
          · rw [if_neg (by omega), hk k hk2]
            by_cases q : k < i
            · rw [if_pos q, if_pos (by omega)]
            · rw [if_neg q, if_neg (by omega)]
        rw [Rn_bnd, mA1 m3, Rn_bnd, mDotAt, Rn_bnd, Rn_gI, w3, Rn_bnd]
        change Rn (fX8_in (nI i - y) 0 (pl (Pw P))) M3 _
        rw [mIn0 (by omega)]
        cases hs : isLn (Pw P) (nI i - y) with
        | false =>
          rw [if_pos (by decide)]
          exact nx 0 (by rw [sb.2 hs]; rfl)
        | true =>
          rw [if_neg (by decide)]
          obtain ⟨j, hj, he⟩ := isLn_t (by omega) hs
          have s1 := sb.1 hs
          rw [he, ix_n (by omega)] at s1
          rw [he, Rn_bnd, mA8 m3, Rn_bnd, rn_lI (by omega), mL45 m3, l3 j (by omega)]
          exact ⟨by omega, nx _ (by rw [s1])⟩
    · rw [if_neg g2, decide_eq_false g2, if_pos (by decide)]
      unfold fX8_shift_L29
      refine mPI0 hM hP (fun M0 x0 t0 m0 p0 => ?_)
      rw [Rn_bnd, Rn_gI, t0, if_neg (by decide), Rn_rtn]
      exact mE_no h x0 p0 t0
  · have g3 : isLn (PL P) x = false := by simpa using g
    rw [if_neg g, g3, if_pos (by decide)]
    unfold fX8_shift_L29
    refine mPI0 hM hP (fun M0 x0 t0 m0 p0 => ?_)
    rw [Rn_bnd, Rn_gI, t0, if_neg (by decide), Rn_rtn]
    exact mE_no h x0 p0 t0
theorem mInvertOp (hM : MO M) (h : mPU M (P, U)) (x : Int32) : Rn (fX8_invert 38 x) M (fun r M' => mE (spInvert P U x) r M M') := by
  obtain ⟨hP, hw, -⟩ := id h
  have hP : isPgM (Mi M 39) P := hP
  have hw : wfP P := hw
  have h40 := hw.2.1
  have h20 := hw.2.2.1
  unfold fX8_invert spInvert
  rw [Rn_bnd, mIsLine hM hP hw]
  by_cases g : isLn (PL P) x = true
  · rw [if_pos g, g, if_neg (by decide)]
    obtain ⟨l, hl, rfl⟩ := isLn_t (by omega) g
    rw [ix_n (by omega)]
    unfold fX8_invert_L14
    refine mPI0 hM hP (fun M0 x0 t0 m0 p0 => ?_)
    rw [Rn_bnd, Rn_gI, t0, if_pos (by decide), Rn_bnd]
    refine (mKeeps m0 (h.go x0 (fun _ => rfl) rfl p0 hw)).mono ?_
    rintro - M1 ⟨x1, u1⟩
    have up : isPgM (Mi M1 39) P := u1.1
    have m1 := m0.xf x1
    have x01 := (x0.mono xRd_Ed).tr (x1.mono xKp_Ed)
    have t1 : Mi M1 38 0 = nI 0 := by rw [x1.mi rfl]; exact t0
    have hwl := hw.2.2.2.1 l hl
    have hsl := inv_lt hwl
    refine rn_loopv (F := fun n i => fX8_invert_L32 n 38 (nI l) (nI i)) (fun i M' => XF xPg M1 M' ∧ i ≤ Pw P ∧ gRow (Mi M1 39) (Mi M' 39) l ∧ ∀ k, k < 40 → Mi M' 39 (28 + 40 * l + k) = nI (bN (if k < i then !(Pr P l).testBit k else (Pr P l).testBit k))) (fun i => Pw P - i) ?_ fu 0 M1 (by unfold fu; omega) ⟨XF.rf, by omega, gRow.rf, fun k hk => by rw [if_neg (by omega)]; exact up.d hl hk⟩
    rintro n i M3 ⟨x3, hi, g3, hk⟩ ih
    show Rn (fX8_invert_L32 (n + 1) 38 (nI l) (nI i)) M3 _
    have m3 := m1.xf x3
    have w3 : Mi M3 39 0 = nI (Pw P) := by rw [g3 0 (by omega)]; exact up.w
    unfold fX8_invert_L32
    rw [Rn_bnd, mA1 m3, Rn_bnd, nL0, rn_lI (by omega), mL39 m3, w3]
    refine ⟨by omega, Rn_cs (nle (by omega) (by omega)) (fun h4 => ?_) (fun h4 => ?_)⟩
    · have r3 : isRowAt (Mi M3 39) l (inv (Pw P) (Pr P l)) := by
        intro k hk2
        rw [hk k hk2, inv_bit, show i = Pw P by omega]
      have p3 : isPgM (Mi M3 39) (pRow P l (inv (Pw P) (Pr P l))) := pRow_ok up g3 r3
      have wf3 := wf_row (l := l) hw hsl
      have hb : blk (Pw P) (inv (Pw P) (Pr P l)) = blk (Pw (pRow P l (inv (Pw P) (Pr P l)))) (Pr (pRow P l (inv (Pw P) (Pr P l))) l) := by
        show _ = blk (Pw P) (updN (Pr P) l _ l); rw [updN_s]
      rw [Rn_bnd, mBlacks m3 p3 wf3 hl, Rn_rtn, hb]
      exact ⟨mR_r (by rw [x3.mi rfl]; exact t1), x01.tr (x3.mono xPg_Ed), u1.go x3 (fun _ => rfl) rfl p3 wf3⟩
    · have hv : Mi M3 39 (28 + 40 * l + i) = nI (bN ((Pr P l).testBit i)) := by rw [hk i (by omega), if_neg (by omega)]
      rw [Rn_bnd, mA1 m3, Rn_bnd, mDotAt, Rn_bnd, mA1 m3, Rn_bnd, mDotAt, Rn_bnd, rn_lI (by omega), mL39 m3, hv, Rn_bnd, nL1, bN_1, rn_aI (by omega), mL39 m3, nI_add]
      refine ⟨by omega, by omega, ih (i + 1) _ ⟨x3.sI rfl, by omega, g3.si (by omega), fun k hk2 => ?_⟩ (by omega)⟩
      rw [Mi_sI]
      by_cases e : k = i
      · rw [if_pos ⟨rfl, by omega⟩, if_pos (by omega), e]
      · rw [if_neg (by omega), hk k hk2]
        by_cases q : k < i
        · rw [if_pos q, if_pos (by omega)]
        · rw [if_neg q, if_neg (by omega)]
  · have g3 : isLn (PL P) x = false := by simpa using g
    rw [if_neg g, g3, if_pos (by decide)]
    unfold fX8_invert_L14
    refine mPI0 hM hP (fun M0 x0 t0 m0 p0 => ?_)
    rw [Rn_bnd, Rn_gI, t0, if_neg (by decide), Rn_rtn]
    exact mE_no h x0 p0 t0
end MEditB
