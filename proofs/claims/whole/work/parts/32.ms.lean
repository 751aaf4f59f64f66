/-! THE REFERENCE: line, run, mode, change, longest, runsOf -/
section MReadD
variable {M : Mm} {P : Pg}
theorem mModesOf {L : List Md} (hM : MO M) (h48 : L.length ≤ 48) (hn : Mi M 38 14 = nI L.length) (hC : isCd (Mi M 46) (Mi M 47) (Mi M 48) (Mi M 49) L) (x : Int32) {Q : Int32 → Mm → Prop} : Rn (fX8_modesOf 38 x) M Q ↔ Q (nI (cnK L x)) M := by
  refine Rn_det ?_
  unfold fX8_modesOf
  refine rn_loopv (F := fun n i => fX8_modesOf_L4 n 38 x (nI (sm (kAt L x) i)) (nI i)) (fun i M' => M' = M ∧ i ≤ L.length) (fun i => L.length - i) ?_ fu 0 M (by unfold fu; omega) ⟨rfl, Nat.zero_le _⟩
  rintro n i M1 ⟨rfl, hi⟩ ih
  show Rn (fX8_modesOf_L4 (n + 1) 38 x (nI (sm (kAt L x) i)) (nI i)) M1 _
  unfold fX8_modesOf_L4
  rw [Rn_bnd, Rn_gI, hn]
  refine Rn_cs (nle (by omega) (by omega)) (fun h => ?_) (fun h => ?_)
  · rw [Rn_rtn, show i = L.length by omega]; exact ⟨rfl, rfl⟩
  · obtain ⟨m, hm⟩ : ∃ m, L[i]? = some m := ⟨L[i]'(by omega), List.getElem?_eq_getElem (by omega)⟩
    rw [Rn_bnd, mA10 hM, Rn_bnd, rn_lI (by omega), mL46 hM, (hC i m hm).1]
    have nx := ih (i + 1) M1 ⟨rfl, by omega⟩ (by omega)
    have hk : kAt L x i = if m.1 = x then 1 else 0 := by unfold kAt; rw [hm]
    rw [sm_s, hk] at nx
    unfold fX8_modesOf_L28
    refine ⟨by omega, Rn_cs (d := m.1 = x) Iff.rfl (fun h1 => ?_) (fun h1 => ?_)⟩
    · rw [Rn_bnd, Rn_rtn, nL1, nI_add, nI_add]
      rw [if_pos h1] at nx; exact nx
    · rw [Rn_bnd, Rn_rtn, nL0, nI_add, nL1, nI_add]
      rw [if_neg h1] at nx; exact nx
theorem mPI0 {α : Type} {F : Mm → Option (α × Mm)} {v : Int32} {Q : α → Mm → Prop} (hM : MO M) (hP : isPgM (Mi M 39) P) (h : ∀ M0, XF xRd M M0 → Mi M0 38 0 = v → MO M0 → isPgM (Mi M0 39) P → Rn F M0 Q) : Rn (bnd (pI 38 0 v) fun _ => F) M Q := by
  rw [Rn_bnd, Rn_pI]
  exact h _ (XF.rf.sI rfl) sI_self hM.sI (hP.si (by decide))
theorem mLineOp (hM : MO M) (hP : isPgM (Mi M 39) P) (hw : wfP P) (x y : Int32) : Rn (fX8_line 38 x y) M (fun b M' => mR (spLine P x y) b M' ∧ XF xRd M M') := by
  have h40 := hw.2.1
  have h20 := hw.2.2.1
  unfold fX8_line spLine
  rw [Rn_bnd, mIsLine hM hP hw]
  by_cases h : isLn (PL P) x = true
  · rw [if_pos h, h, if_neg (by decide), Rn_bnd, show (11 : Int32) = pl 12 from by decide, mIn0 (by omega)]
    obtain ⟨l, hl, rfl⟩ := isLn_t (by omega) h
    by_cases h2 : isLn 12 y = true
    · rw [if_pos h2, h2, if_neg (by decide)]
      obtain ⟨k, hk, rfl⟩ := isLn_t (by omega) h2
      rw [ix_n (by omega), ix_n (by omega)]
      unfold fX8_line_L28
      refine mPI0 hM hP (fun M0 x0 t0 m0 p0 => ?_)
      rw [Rn_bnd, Rn_gI, t0, if_pos (by decide), Rn_bnd]
      refine (mCLine m0 p0 hw hl).mono ?_
      rintro - M1 ⟨x1, c1, c2, c3, c4, c5, c6, c7⟩
      have m1 := m0.xf x1
      have p1 : isPgM (Mi M1 39) P := by rw [x1.row (fun _ => rfl)]; exact p0
      have t1 : Mi M1 38 0 = nI 0 := by rw [x1.mi rfl]; exact t0
      have x01 := x0.tr (x1.mono xCd_Rd)
      have la := runs_len (Pw P) (Pr P l)
      have lc := cod_len (Pw P) (Pr P l) (Pu P l)
      have e : ∀ j, j < 12 → ∀ i, i < 12 → (nI j = nI i ↔ j = i) := fun j hj i hi => neq (by omega) (by omega)
      have hcases : k = 0 ∨ k = 1 ∨ k = 2 ∨ k = 3 ∨ k = 4 ∨ k = 5 ∨ k = 6 ∨ k = 7 ∨ k = 8 ∨ k = 9 ∨ k = 10 ∨ k = 11 := by omega
      have kd : ∀ x : Nat, x ≤ 2 → Rn (bnd (fX8_modesOf 38 (nI (6 + x) - 6)) fun v => rtn v) M1 (fun b M' => mR (.inr (nI (cnK (cod (Pw P) (Pr P l) (Pu P l)) (nI x)))) b M' ∧ XF xRd M M') := by
        intro x hx
        rw [nL6, nsb (by omega), show 6 + x - 6 = x by omega, Rn_bnd, mModesOf m1 (by omega) c4 c5, Rn_rtn]
        exact ⟨mR_r t1, x01⟩
      rcases hcases with rfl | rfl | rfl | rfl | rfl | rfl | rfl | rfl | rfl | rfl | rfl | rfl
      · rw [if_pos (by decide), Rn_bnd]
        refine (mMark m1 p1 hw hl).mono ?_
        rintro a M2 ⟨rfl, x2⟩
        have t2 : Mi M2 38 0 = nI 0 := by rw [x2.mi rfl]; exact t1
        refine Rn_cs (bN_0 _) (fun hb => ?_) (fun hb => ?_)
        · rw [Rn_rtn]
          refine ⟨?_, x01.tr (x2.mono xCd_Rd)⟩
          show mR (.inr (nI (bN (isMk P l)))) _ _
          rw [hb]; exact mR_r t2
        · rw [Rn_rtn]
          refine ⟨?_, x01.tr (x2.mono xCd_Rd)⟩
          show mR (.inr (nI (bN (isMk P l)))) _ _
          rw [show isMk P l = true by simpa using hb]; exact mR_r t2
      · rw [if_neg (by decide), if_pos (by decide), Rn_bnd, mABits m1 (by omega) c6 c7, Rn_rtn]
        exact ⟨mR_r t1, x01⟩
      · rw [if_neg (by decide), if_neg (by decide), if_pos (by decide), Rn_bnd, mCBits m1 (by omega) c4 c5, Rn_rtn]
        exact ⟨mR_r t1, x01⟩
      · rw [if_neg (by decide), if_neg (by decide), if_neg (by decide), if_pos (by decide), Rn_bnd]
        refine (mSent m1 p1 hw hl).mono ?_
        rintro a M2 ⟨rfl, x2⟩
        rw [Rn_rtn]
        exact ⟨mR_r (by rw [x2.mi rfl]; exact t1), x01.tr (x2.mono xCd_Rd)⟩
      · rw [if_neg (by decide), if_neg (by decide), if_neg (by decide), if_neg (by decide), if_pos (by decide), Rn_bnd, Rn_gI, c6, Rn_rtn]
        exact ⟨mR_r t1, x01⟩
      · rw [if_neg (by decide), if_neg (by decide), if_neg (by decide), if_neg (by decide), if_neg (by decide), if_pos (by decide), Rn_bnd, Rn_gI, c4, Rn_rtn]
        exact ⟨mR_r t1, x01⟩
      · rw [if_neg (by decide), if_neg (by decide), if_neg (by decide), if_neg (by decide), if_neg (by decide), if_neg (by decide), if_pos (by decide)]
        exact kd 0 (by omega)
      · rw [if_neg (by decide), if_neg (by decide), if_neg (by decide), if_neg (by decide), if_neg (by decide), if_neg (by decide), if_neg (by decide), if_pos (by decide)]
        exact kd 1 (by omega)
      · rw [if_neg (by decide), if_neg (by decide), if_neg (by decide), if_neg (by decide), if_neg (by decide), if_neg (by decide), if_neg (by decide), if_neg (by decide), if_pos (by decide)]
        exact kd 2 (by omega)
      · rw [if_neg (by decide), if_neg (by decide), if_neg (by decide), if_neg (by decide), if_neg (by decide), if_neg (by decide), if_neg (by decide), if_neg (by decide), if_neg (by decide), if_pos (by decide), nL8, nI_add, mRdS m1 p1 (by omega), Rn_rtn]
        exact ⟨mR_r t1, x01⟩
      · rw [if_neg (by decide), if_neg (by decide), if_neg (by decide), if_neg (by decide), if_neg (by decide), if_neg (by decide), if_neg (by decide), if_neg (by decide), if_neg (by decide), if_neg (by decide), if_pos (by decide), Rn_bnd, mBlacks m1 p1 hw hl, Rn_rtn]
        exact ⟨mR_r t1, x01⟩
      · rw [if_neg (by decide), if_neg (by decide), if_neg (by decide), if_neg (by decide), if_neg (by decide), if_neg (by decide), if_neg (by decide), if_neg (by decide), if_neg (by decide), if_neg (by decide), if_neg (by decide), if_pos (by decide), Rn_bnd]
        refine (mMkUp m1 p1 hw hl).mono ?_
        rintro a M2 ⟨rfl, x2⟩
        rw [Rn_rtn]
        exact ⟨mR_r (by rw [x2.mi rfl]; exact t1), x01.tr (x2.mono xCd_Rd)⟩
    · have h3 : isLn 12 y = false := by simpa using h2
      rw [if_neg h2, h3, if_pos (by decide)]
      unfold fX8_line_L28
      refine mPI0 hM hP (fun M0 x0 t0 m0 p0 => ?_)
      rw [Rn_bnd, Rn_gI, t0, if_neg (by decide), Rn_rtn]
      exact ⟨mR_l t0, x0⟩
  · have h3 : isLn (PL P) x = false := by simpa using h
    rw [if_neg h, h3, if_pos (by decide)]
    unfold fX8_line_L28
    refine mPI0 hM hP (fun M0 x0 t0 m0 p0 => ?_)
    rw [Rn_bnd, Rn_gI, t0, if_neg (by decide), Rn_rtn]
    exact ⟨mR_l t0, x0⟩
theorem mRunOp (hM : MO M) (hP : isPgM (Mi M 39) P) (hw : wfP P) (x y : Int32) : Rn (fX8_run 38 x y) M (fun b M' => mR (spRun P x y) b M' ∧ XF xRd M M') := by
  have h40 := hw.2.1
  have h20 := hw.2.2.1
  unfold fX8_run spRun
  rw [Rn_bnd, mIsLine hM hP hw]
  have bad : Rn (fX8_run_L17 38 x y 38) M (fun b M' => mR (.inl 1) b M' ∧ XF xRd M M') := by
    unfold fX8_run_L17 fX8_run_L18
    refine mPI0 hM hP (fun M0 x0 t0 m0 p0 => ?_)
    rw [Rn_bnd, Rn_gI, t0, if_neg (by decide), Rn_rtn]
    exact ⟨mR_l t0, x0⟩
  by_cases h : isLn (PL P) x = true
  · rw [h, if_neg (by decide)]
    obtain ⟨l, hl, rfl⟩ := isLn_t (by omega) h
    by_cases h2 : y < 0
    · rw [if_pos h2, if_neg (fun z => z.2 h2)]; exact bad
    · rw [if_neg h2, if_pos ⟨rfl, h2⟩]
      obtain ⟨j, hj, rfl⟩ := nI_of h2
      rw [ix_n (by omega), ix_n (by omega)]
      unfold fX8_run_L18
      refine mPI0 hM hP (fun M0 x0 t0 m0 p0 => ?_)
      rw [Rn_bnd, Rn_gI, t0, if_pos (by decide), Rn_bnd]
      refine (mCLine m0 p0 hw hl).mono ?_
      rintro - M1 ⟨x1, c1, c2, c3, c4, c5, c6, c7⟩
      have m1 := m0.xf x1
      have t1 : Mi M1 38 0 = nI 0 := by rw [x1.mi rfl]; exact t0
      have x01 := x0.tr (x1.mono xCd_Rd)
      have la := runs_len (Pw P) (Pr P l)
      rw [Rn_bnd, Rn_gI, c6]
      refine Rn_cs (nle (by omega) hj) (fun h3 => ?_) (fun h3 => ?_)
      · rw [Rn_rtn]
        have : rnV (runs (Pw P) (Pr P l)) j = -1 := by unfold rnV; rw [List.getElem?_eq_none h3]
        rw [this]
        exact ⟨mR_r t1, x01⟩
      · obtain ⟨m, hm⟩ : ∃ m, (runs (Pw P) (Pr P l))[j]? = some m := ⟨_, List.getElem?_eq_getElem (by omega)⟩
        rw [Rn_bnd, mA18 m1, Rn_bnd, rn_lI hj, mL51 m1, Rn_rtn, c7 j m hm]
        have : rnV (runs (Pw P) (Pr P l)) j = nI m := by unfold rnV; rw [hm]
        rw [this]
        exact ⟨by omega, mR_r t1, x01⟩
  · have h3 : isLn (PL P) x = false := by simpa using h
    rw [h3, if_pos (by decide), if_neg (fun z => absurd z.1 (by decide))]; exact bad
theorem mModeOp (hM : MO M) (hP : isPgM (Mi M 39) P) (hw : wfP P) (x y z : Int32) : Rn (fX8_mode 38 x y z) M (fun b M' => mR (spMode P x y z) b M' ∧ XF xRd M M') := by
  have h40 := hw.2.1
  have h20 := hw.2.2.1
  unfold fX8_mode spMode
  rw [Rn_bnd, mIsLine hM hP hw]
  have bad : Rn (fX8_mode_L13 38 x y z 38) M (fun b M' => mR (.inl 1) b M' ∧ XF xRd M M') := by
    unfold fX8_mode_L13 fX8_mode_L31
    refine mPI0 hM hP (fun M0 x0 t0 m0 p0 => ?_)
    rw [Rn_bnd, Rn_gI, t0, if_neg (by decide), Rn_rtn]
    exact ⟨mR_l t0, x0⟩
  by_cases h : isLn (PL P) x = true
  · rw [h, if_neg (by decide)]
    obtain ⟨l, hl, rfl⟩ := isLn_t (by omega) h
    by_cases h2 : y < 0
    · rw [if_neg (fun q => absurd h2 (Int32.not_lt.mpr q)), if_neg (fun q => q.2 h2)]; exact bad
    · rw [if_pos (Int32.not_lt.mp h2), if_pos ⟨rfl, h2⟩, Rn_bnd, show (3 : Int32) = pl 4 from by decide, mIn0 (by omega)]
      obtain ⟨j, hj, rfl⟩ := nI_of h2
      rw [ix_n (by omega), ix_n (by omega)]
      by_cases h4 : isLn 4 z = true
      · rw [if_pos h4, h4, if_neg (by decide)]
        obtain ⟨k, hk, rfl⟩ := isLn_t (by omega) h4
        unfold fX8_mode_L31
        refine mPI0 hM hP (fun M0 x0 t0 m0 p0 => ?_)
        rw [Rn_bnd, Rn_gI, t0, if_pos (by decide), Rn_bnd]
        refine (mCLine m0 p0 hw hl).mono ?_
        rintro - M1 ⟨x1, c1, c2, c3, c4, c5, c6, c7⟩
        have m1 := m0.xf x1
        have t1 : Mi M1 38 0 = nI 0 := by rw [x1.mi rfl]; exact t0
        have x01 := x0.tr (x1.mono xCd_Rd)
        have lc := cod_len (Pw P) (Pr P l) (Pu P l)
        rw [Rn_bnd, Rn_gI, c4]
        refine Rn_cs (nlt hj (by omega)) (fun h3 => ?_) (fun h3 => ?_)
        · obtain ⟨m, hm⟩ : ∃ m, (cod (Pw P) (Pr P l) (Pu P l))[j]? = some m := ⟨_, List.getElem?_eq_getElem (by omega)⟩
          obtain ⟨d1, d2, d3, d4⟩ := c5 j m hm
          have hv : mdV (cod (Pw P) (Pr P l) (Pu P l)) j (nI k) = if nI k = nI 0 then m.1 else if nI k = nI 1 then m.2.1 else if nI k = nI 2 then m.2.2.1 else m.2.2.2 := by unfold mdV; rw [hm]
          rw [hv]
          have hcases : k = 0 ∨ k = 1 ∨ k = 2 ∨ k = 3 := by omega
          rcases hcases with rfl | rfl | rfl | rfl
          · rw [if_pos (by decide), if_pos (by decide), Rn_bnd, mA10 m1, Rn_bnd, rn_lI hj, mL46 m1, Rn_rtn, d1]
            exact ⟨by omega, mR_r t1, x01⟩
          · rw [if_neg (by decide), if_pos (by decide), if_neg (by decide), if_pos (by decide), Rn_bnd, mA11 m1, Rn_bnd, rn_lI hj, mL47 m1, Rn_rtn, d2]
            exact ⟨by omega, mR_r t1, x01⟩
          · rw [if_neg (by decide), if_neg (by decide), if_pos (by decide), if_neg (by decide), if_neg (by decide), if_pos (by decide), Rn_bnd, mA12 m1, Rn_bnd, rn_lI hj, mL48 m1, Rn_rtn, d3]
            exact ⟨by omega, mR_r t1, x01⟩
          · rw [if_neg (by decide), if_neg (by decide), if_neg (by decide), if_neg (by decide), if_neg (by decide), if_neg (by decide), Rn_bnd, mA13 m1, Rn_bnd, rn_lI hj, mL49 m1, Rn_rtn, d4]
            exact ⟨by omega, mR_r t1, x01⟩
        · rw [Rn_rtn]
          have : mdV (cod (Pw P) (Pr P l) (Pu P l)) j (nI k) = -9 := by unfold mdV; rw [List.getElem?_eq_none (by omega)]
          rw [this]
          exact ⟨mR_r t1, x01⟩
      · have h5 : isLn 4 z = false := by simpa using h4
        rw [if_neg h4, h5, if_pos (by decide)]
        unfold fX8_mode_L31
        refine mPI0 hM hP (fun M0 x0 t0 m0 p0 => ?_)
        rw [Rn_bnd, Rn_gI, t0, if_neg (by decide), Rn_rtn]
        exact ⟨mR_l t0, x0⟩
  · have h3 : isLn (PL P) x = false := by simpa using h
    rw [h3, if_pos (by decide), if_neg (fun z => absurd z.1 (by decide))]; exact bad
theorem ncf_0 (w r k : Nat) : ncf w r k 0 = fb (fun i => chg r i) w k := rfl
theorem ncf_no {w r k : Nat} (j : Nat) (h : k < w) (hc : chg r k = false) : ncf w r k j = ncf w r (k + 1) j := by
  cases j with
  | zero => exact fb_next h hc
  | succ j =>
    show (if fb (fun i => chg r i) w k < w then ncf w r (fb (fun i => chg r i) w k + 1) j else w) = (if fb (fun i => chg r i) w (k + 1) < w then ncf w r (fb (fun i => chg r i) w (k + 1) + 1) j else w)
    rw [fb_next (p := fun i => chg r i) h hc]
theorem ncf_yes {w r k : Nat} (j : Nat) (h : k < w) (hc : chg r k = true) : ncf w r k (j + 1) = ncf w r (k + 1) j := by
  show (if fb (fun i => chg r i) w k < w then ncf w r (fb (fun i => chg r i) w k + 1) j else w) = _
  rw [fb_at (p := fun i => chg r i) h hc, if_pos h]
theorem ncf_end {w r k : Nat} (j : Nat) (h : w ≤ k) : ncf w r k j = w := by
  cases j with
  | zero => exact fb_ge_w h
  | succ j =>
    show (if fb (fun i => chg r i) w k < w then ncf w r (fb (fun i => chg r i) w k + 1) j else w) = w
    rw [fb_ge_w h, if_neg (Nat.lt_irrefl w)]
theorem mChangeOp (hM : MO M) (hP : isPgM (Mi M 39) P) (hw : wfP P) (x y : Int32) : Rn (fX8_change 38 x y) M (fun b M' => mR (spChange P x y) b M' ∧ XF xRd M M') := by
  have h40 := hw.2.1
  have h20 := hw.2.2.1
  unfold fX8_change spChange
  rw [Rn_bnd, mIsLine hM hP hw]
  have bad : Rn (fX8_change_L17 38 x y 38) M (fun b M' => mR (.inl 1) b M' ∧ XF xRd M M') := by
    unfold fX8_change_L17 fX8_change_L18
    refine mPI0 hM hP (fun M0 x0 t0 m0 p0 => ?_)
    rw [show fu = 19999 + 1 from rfl]
    unfold fX8_change_L26 fX8_change_L103
    rw [mRdW m0 p0]
    have t1 : ¬ Mi M0 38 0 ≤ 0 := by rw [t0]; decide
    have t2 : ¬ Mi M0 38 0 = 0 := by rw [t0]; decide
    refine Rn_cs Iff.rfl (fun _ => ?_) (fun _ => ?_)
    · rw [Rn_bnd, Rn_gI, if_neg t1, Rn_rtn]; exact ⟨mR_l t0, x0⟩
    · rw [Rn_bnd, Rn_gI, if_neg t2, Rn_bnd, Rn_gI, if_neg t1, Rn_rtn]; exact ⟨mR_l t0, x0⟩
  by_cases h : isLn (PL P) x = true
  · rw [h, if_neg (by decide)]
    obtain ⟨l, hl, rfl⟩ := isLn_t (by omega) h
    by_cases h2 : y < 0
    · rw [if_pos h2, if_neg (fun z => z.2 h2)]; exact bad
    · rw [if_neg h2, if_pos ⟨rfl, h2⟩]
      obtain ⟨j, hj, rfl⟩ := nI_of h2
      rw [ix_n (by omega), ix_n (by omega)]
      unfold fX8_change_L18
      refine mPI0 hM hP (fun M0 x0 t0 m0 p0 => ?_)
      refine rn_loopv (F := fun n (s : Nat × Nat) => fX8_change_L26 n 38 (nI l) (nI s.1) (nI s.2)) (fun s M' => M' = M0 ∧ s.2 ≤ Pw P ∧ s.1 < 2147483648 ∧ ncf (Pw P) (Pr P l) s.2 s.1 = ncf (Pw P) (Pr P l) 0 j) (fun s => Pw P - s.2) ?_ fu (j, 0) M0 (by show Pw P - 0 < fu; unfold fu; omega) ⟨rfl, Nat.zero_le _, hj, rfl⟩
      rintro n ⟨c, i⟩ M1 ⟨rfl, hi, hc, he⟩ ih
      have hi : i ≤ Pw P := hi
      have hc : c < 2147483648 := hc
      have he : ncf (Pw P) (Pr P l) i c = ncf (Pw P) (Pr P l) 0 j := he
      show Rn (fX8_change_L26 (n + 1) 38 (nI l) (nI c) (nI i)) M1 _
      unfold fX8_change_L26
      rw [mRdW m0 p0]
      refine Rn_cs (nle (by omega) (by omega)) (fun h3 => ?_) (fun h3 => ?_)
      · unfold fX8_change_L103
        rw [Rn_bnd, Rn_gI, t0, if_pos (by decide), Rn_rtn]
        have : chV (Pw P) (Pr P l) j = -1 := by unfold chV; rw [← he, ncf_end c h3, if_neg (Nat.lt_irrefl _)]
        rw [this]; exact ⟨mR_r t0, x0⟩
      · rw [Rn_bnd, Rn_gI, t0, if_pos (by decide), mRdD m0 p0 hw hl (by omega), Rn_bnd, mAhead m0 p0 hw hl (by omega)]
        unfold fX8_change_L70 fX8_change_L84 fX8_change_L95
        refine Rn_cs (chg_eq _ _) (fun hg => ?_) (fun hg => ?_)
        · rw [if_pos rfl, if_pos rfl, Rn_bnd, Rn_rtn, nL0, nsb (Nat.zero_le _), nL1, nI_add]
          exact ih (c - 0, i + 1) M1 ⟨rfl, by show i + 1 ≤ Pw P; omega, hc, by rw [← he]; exact (ncf_no c (by omega) hg).symm⟩ (by show Pw P - (i + 1) < Pw P - i; omega)
        · have hg : chg (Pr P l) i = true := by simpa using hg
          rw [if_neg (by decide)]
          refine Rn_cs (d := c = 0) (by rw [nL0, neq hc (by omega)]) (fun hz => ?_) (fun hz => ?_)
          · rw [Rn_rtn]
            subst hz
            have hv : ncf (Pw P) (Pr P l) 0 j = i := by rw [← he]; exact fb_at (by omega) hg
            have : chV (Pw P) (Pr P l) j = nI i := by unfold chV; rw [hv, if_pos (by omega)]
            rw [this]; exact ⟨mR_r t0, x0⟩
          · obtain ⟨c, rfl⟩ : ∃ d, c = d + 1 := ⟨c - 1, by omega⟩
            rw [if_neg (by decide), Rn_bnd, Rn_rtn, nL1, nsb (by omega), nI_add]
            exact ih (c, i + 1) M1 ⟨rfl, by show i + 1 ≤ Pw P; omega, by show c < _; omega, by rw [← he]; exact (ncf_yes c (by omega) hg).symm⟩ (by show Pw P - (i + 1) < Pw P - i; omega)
  · have h3 : isLn (PL P) x = false := by simpa using h
    rw [h3, if_pos (by decide), if_neg (fun z => absurd z.1 (by decide))]; exact bad
theorem mRowFrom (hM : MO M) (hP : isPgM (Mi M 39) P) (hw : wfP P) {l k : Nat} (hl : l < PL P) (hk : k ≤ Pw P) (c : Bool) {Q : Int32 → Mm → Prop} : Rn (fX8_rowFrom 38 (nI l) (nI k) (nI (bN c))) M Q ↔ Q (nI (rT (Pw P) (Pr P l) k c - k)) M := by
  have h40 := hw.2.1
  refine Rn_det ?_
  unfold fX8_rowFrom
  refine rn_loopv (F := fun n i => fX8_rowFrom_L3 n 38 (nI l) (nI k) (nI (bN c)) (nI i)) (fun i M' => M' = M ∧ k ≤ i ∧ i ≤ Pw P ∧ rT (Pw P) (Pr P l) i c = rT (Pw P) (Pr P l) k c) (fun i => Pw P - i) ?_ fu k M (by unfold fu; omega) ⟨rfl, Nat.le_refl _, hk, rfl⟩
  rintro n i M1 ⟨rfl, hki, hi, he⟩ ih
  show Rn (fX8_rowFrom_L3 (n + 1) 38 (nI l) (nI k) (nI (bN c)) (nI i)) M1 _
  unfold fX8_rowFrom_L3 fX8_rowFrom_L35
  rw [mRdW hM hP]
  refine Rn_cs (nle (by omega) (by omega)) (fun h => ?_) (fun h => ?_)
  · rw [Rn_rtn, nsb hki, ← he, show rT (Pw P) (Pr P l) i c = i by unfold rT; rw [fb_ge_w h]; omega]
    exact ⟨rfl, rfl⟩
  · rw [mRdD hM hP hw hl (by omega)]
    refine Rn_cs (bN_eq _ _) (fun h2 => ?_) (fun h2 => ?_)
    · rw [nL1, nI_add]
      exact ih (i + 1) M1 ⟨rfl, by omega, by omega, by rw [← he]; exact (fb_next (by omega) (by rw [h2]; cases c <;> rfl)).symm⟩ (by omega)
    · rw [Rn_rtn, nsb hki, ← he, show rT (Pw P) (Pr P l) i c = i from fb_at (by omega) (by revert h2; cases (Pr P l).testBit i <;> cases c <;> simp)]
      exact ⟨rfl, rfl⟩
theorem mBegins (hM : MO M) (hP : isPgM (Mi M 39) P) (hw : wfP P) {l k : Nat} (hl : l < PL P) (hk : k < 40) (c : Bool) {Q : Int32 → Mm → Prop} : Rn (fX8_beginsRow 38 (nI l) (nI k) (nI (bN c))) M Q ↔ Q (nI (bN (bgn (Pr P l) k c))) M := by
  refine Rn_det ?_
  unfold fX8_beginsRow fX8_beginsRow_L34 bgn
  rw [mRdD hM hP hw hl hk]
  refine Rn_cs (bN_eq _ _) (fun h => ?_) (fun h => ?_)
  · rw [h]
    refine Rn_cs (d := k = 0) (by rw [nL0, neq (by omega) (by omega)]) (fun h0 => ?_) (fun h0 => ?_)
    · rw [Rn_grd, Rn_rtn]
      refine ⟨by decide, ?_, rfl⟩
      simp [h0]; rfl
    · rw [nL1, nsb (by omega), mRdD hM hP hw hl (by omega)]
      refine Rn_cs (bN_eq _ _) (fun h1 => ?_) (fun h1 => ?_)
      · rw [Rn_grd, Rn_rtn]
        refine ⟨by decide, ?_, rfl⟩
        simp [h0, h1]; rfl
      · rw [Rn_grd, Rn_rtn]
        refine ⟨by decide, ?_, rfl⟩
        have e : ((Pr P l).testBit (k - 1) != c) = true := by revert h1; cases (Pr P l).testBit (k - 1) <;> cases c <;> simp
        rw [e]; simp; rfl
  · rw [Rn_grd, Rn_rtn]
    refine ⟨by decide, ?_, rfl⟩
    have e : ((Pr P l).testBit k == c) = false := by revert h; cases (Pr P l).testBit k <;> cases c <;> simp
    rw [e]; rfl
theorem mxo_s (g : Nat → Nat) (n : Nat) : mxo g (n + 1) = if mxo g n < g n then g n else mxo g n := rfl
/-- a greatest value run along -/
def mx2 (a b : Nat) : Nat := if a < b then b else a
theorem mx2_mxo (g : Nat → Nat) (n : Nat) : mxo g (n + 1) = mx2 (mxo g n) (g n) := rfl
theorem mx2_ac (a b c : Nat) : mx2 (mx2 a b) c = mx2 a (mx2 b c) := by
  unfold mx2; repeat' split
  all_goals omega
theorem mx2_0 (a : Nat) : mx2 a 0 = a := by unfold mx2; rw [if_neg (by omega)]
theorem lgs_le (w r : Nat) (c : Bool) : lgs w r c ≤ w := mxo_le (fun i => by have := rT_le w r i c; omega) w
theorem mLongest (hM : MO M) (hP : isPgM (Mi M 39) P) (hw : wfP P) (x : Int32) : Rn (fX8_longest 38 x) M (fun b M' => mR (spLongest P x) b M' ∧ XF xRd M M') := by
  have h40 := hw.2.1
  have h20 := hw.2.2.1
  unfold fX8_longest spLongest
  rw [Rn_bnd, show (1 : Int32) = pl 2 from by decide, mIn0 (by omega)]
  by_cases h : isLn 2 x = true
  · rw [if_pos h, h, if_neg (by decide)]
    obtain ⟨k, hk, rfl⟩ := isLn_t (by omega) h
    obtain ⟨c, hc⟩ : ∃ c : Bool, nI k = nI (bN c) ∧ c2B (nI k) = c := by
      rcases (show k = 0 ∨ k = 1 by omega) with rfl | rfl
      · exact ⟨false, rfl, by decide⟩
      · exact ⟨true, rfl, by decide⟩
    rw [hc.2, hc.1]
    unfold fX8_longest_L15
    refine mPI0 hM hP (fun M0 x0 t0 m0 p0 => ?_)
    refine rn_loopv (F := fun n i => fX8_longest_L22 n 38 (nI (bN c)) (nI (mxo (fun l => lgs (Pw P) (Pr P l) c) i)) (nI i)) (fun i M' => M' = M0 ∧ i ≤ PL P) (fun i => PL P - i) ?_ fu 0 M0 (by unfold fu; omega) ⟨rfl, Nat.zero_le _⟩
    rintro n i M1 ⟨rfl, hi⟩ ih
    show Rn (fX8_longest_L22 (n + 1) 38 (nI (bN c)) (nI (mxo (fun l => lgs (Pw P) (Pr P l) c) i)) (nI i)) M1 _
    have hb := mxo_le (g := fun l => lgs (Pw P) (Pr P l) c) (b := Pw P) (fun l => lgs_le _ _ _) i
    unfold fX8_longest_L22
    rw [mRdL m0 p0]
    refine Rn_cs (nle (by omega) (by omega)) (fun h3 => ?_) (fun h3 => ?_)
    · rw [Rn_rtn, show i = PL P by omega]; exact ⟨mR_r t0, x0⟩
    · rw [Rn_bnd, Rn_gI, t0, if_pos (by decide)]
      refine rn_loopv (F := fun n2 k => fX8_longest_L42 (fX8_longest_L22 n) n2 38 (nI (bN c)) (nI (mx2 (mxo (fun l => lgs (Pw P) (Pr P l) c) i) (mxo (fun q => rT (Pw P) (Pr P i) q c - q) k))) (nI i) (nI k)) (fun k M' => M' = M1 ∧ k ≤ Pw P) (fun k => Pw P - k) ?_ fu 0 M1 (by unfold fu; omega) ⟨rfl, Nat.zero_le _⟩
      rintro n2 k M2 ⟨rfl, hk2⟩ ih2
      show Rn (fX8_longest_L42 (fX8_longest_L22 n) (n2 + 1) 38 (nI (bN c)) (nI (mx2 (mxo (fun l => lgs (Pw P) (Pr P l) c) i) (mxo (fun q => rT (Pw P) (Pr P i) q c - q) k))) (nI i) (nI k)) M2 _
      have hb2 := mxo_le (g := fun q => rT (Pw P) (Pr P i) q c - q) (b := Pw P) (fun q => by have := rT_le (Pw P) (Pr P i) q c; omega) k
      have hb3 : mx2 (mxo (fun l => lgs (Pw P) (Pr P l) c) i) (mxo (fun q => rT (Pw P) (Pr P i) q c - q) k) ≤ 40 := by unfold mx2; split <;> omega
      unfold fX8_longest_L42 fX8_longest_L75
      rw [mRdW m0 p0]
      refine Rn_cs (nle (by omega) (by omega)) (fun h4 => ?_) (fun h4 => ?_)
      · have e : mx2 (mxo (fun l => lgs (Pw P) (Pr P l) c) i) (mxo (fun q => rT (Pw P) (Pr P i) q c - q) k) = mxo (fun l => lgs (Pw P) (Pr P l) c) (i + 1) := by
          rw [show k = Pw P by omega]; rfl
        rw [e, nL1, nI_add]
        exact ih (i + 1) M2 ⟨rfl, by omega⟩ (by omega)
      · rw [Rn_bnd, mRowFrom m0 p0 hw (by omega) (by omega) c]
        have nx := ih2 (k + 1) M2 ⟨rfl, by omega⟩ (by omega)
        rw [mx2_mxo, ← mx2_ac] at nx
        have hb4 := rT_le (Pw P) (Pr P i) k c
        refine Rn_cs (nle (by omega) (by omega)) (fun h5 => ?_) (fun h5 => ?_)
        · rw [nL1, nI_add]
          rw [show mx2 (mx2 (mxo (fun l => lgs (Pw P) (Pr P l) c) i) (mxo (fun q => rT (Pw P) (Pr P i) q c - q) k)) (rT (Pw P) (Pr P i) k c - k) = mx2 (mxo (fun l => lgs (Pw P) (Pr P l) c) i) (mxo (fun q => rT (Pw P) (Pr P i) q c - q) k) from if_neg (by omega)] at nx
          exact nx
        · rw [nL1, nI_add]
          rw [show mx2 (mx2 (mxo (fun l => lgs (Pw P) (Pr P l) c) i) (mxo (fun q => rT (Pw P) (Pr P i) q c - q) k)) (rT (Pw P) (Pr P i) k c - k) = rT (Pw P) (Pr P i) k c - k from if_pos (by omega)] at nx
          exact nx
  · have h3 : isLn 2 x = false := by simpa using h
    rw [if_neg h, h3, if_pos (by decide), show pl 2 = 1 from by decide]
    unfold fX8_longest_L15
    refine mPI0 hM hP (fun M0 x0 t0 m0 p0 => ?_)
    rw [show fu = 19999 + 1 from rfl]
    unfold fX8_longest_L22
    rw [mRdL m0 p0]
    have t2 : ¬ Mi M0 38 0 = 0 := by rw [t0]; decide
    refine Rn_cs Iff.rfl (fun _ => ?_) (fun _ => ?_)
    · rw [Rn_rtn]; exact ⟨mR_l t0, x0⟩
    · rw [Rn_bnd, Rn_gI, if_neg t2, Rn_rtn]; exact ⟨mR_l t0, x0⟩
theorem mRunsOf (hM : MO M) (hP : isPgM (Mi M 39) P) (hw : wfP P) (x y : Int32) : Rn (fX8_runsOf 38 x y) M (fun b M' => mR (spRunsOf P x y) b M' ∧ XF xRd M M') := by
  have h40 := hw.2.1
  have h20 := hw.2.2.1
  have bad : Rn (fX8_runsOf_L24 38 x y 38) M (fun b M' => mR (.inl 1) b M' ∧ XF xRd M M') := by
    unfold fX8_runsOf_L24 fX8_runsOf_L25
    refine mPI0 hM hP (fun M0 x0 t0 m0 p0 => ?_)
    rw [show fu = 19999 + 1 from rfl]
    unfold fX8_runsOf_L33
    rw [mRdL m0 p0]
    have t2 : ¬ Mi M0 38 0 = 0 := by rw [t0]; decide
    refine Rn_cs Iff.rfl (fun _ => ?_) (fun _ => ?_)
    · rw [Rn_rtn]; exact ⟨mR_l t0, x0⟩
    · rw [Rn_bnd, Rn_gI, if_neg t2, Rn_rtn]; exact ⟨mR_l t0, x0⟩
  unfold fX8_runsOf spRunsOf
  rw [Rn_bnd]
  have e1 : Rn (fX8_in x 0 1) M (fun a M' => a = nI (bN (isLn 2 x)) ∧ M' = M) := by
    rw [show (1 : Int32) = pl 2 from by decide, mIn0 (by omega)]; exact ⟨rfl, rfl⟩
  rw [Rn_det e1]
  by_cases h : isLn 2 x = true
  · rw [h, if_neg (by decide), Rn_bnd]
    unfold fX8_in
    change Rn (if y < nI 1 then _ else if nI 40 < y then _ else _) M _
    by_cases hy : ¬ y < nI 1 ∧ ¬ nI 40 < y
    · rw [if_neg hy.1, if_neg hy.2, Rn_grd, Rn_rtn, if_neg (by decide), if_pos ⟨rfl, hy⟩]
      refine ⟨by decide, ?_⟩
      obtain ⟨k, hk, rfl⟩ := isLn_t (by omega) h
      obtain ⟨c, hc⟩ : ∃ c : Bool, nI k = nI (bN c) ∧ c2B (nI k) = c := by
        rcases (show k = 0 ∨ k = 1 by omega) with rfl | rfl
        · exact ⟨false, rfl, by decide⟩
        · exact ⟨true, rfl, by decide⟩
      rw [hc.2, hc.1]
      obtain ⟨m, hm, rfl⟩ : ∃ m, m < 2147483648 ∧ y = nI m := by
        obtain ⟨m, hm, e⟩ := nI_of (x := y) (fun z => hy.1 (Int32.lt_trans z (by decide)))
        exact ⟨m, hm, e⟩
      rw [ix_n hm]
      unfold fX8_runsOf_L25
      refine mPI0 hM hP (fun M0 x0 t0 m0 p0 => ?_)
      refine rn_loopv (F := fun n i => fX8_runsOf_L33 n 38 (nI (bN c)) (nI m) (nI (sm (fun l => rno (Pw P) (Pr P l) c m) i)) (nI i)) (fun i M' => M' = M0 ∧ i ≤ PL P) (fun i => PL P - i) ?_ fu 0 M0 (by unfold fu; omega) ⟨rfl, Nat.zero_le _⟩
      rintro n i M1 ⟨rfl, hi⟩ ih
      show Rn (fX8_runsOf_L33 (n + 1) 38 (nI (bN c)) (nI m) (nI (sm (fun l => rno (Pw P) (Pr P l) c m) i)) (nI i)) M1 _
      unfold fX8_runsOf_L33
      rw [mRdL m0 p0]
      refine Rn_cs (nle (by omega) (by omega)) (fun h3 => ?_) (fun h3 => ?_)
      · rw [Rn_rtn, show i = PL P by omega]; exact ⟨mR_r t0, x0⟩
      · rw [Rn_bnd, Rn_gI, t0, if_pos (by decide)]
        refine rn_loopv (F := fun n2 k => fX8_runsOf_L54 (fX8_runsOf_L33 n) n2 38 (nI (bN c)) (nI m) (nI (sm (fun l => rno (Pw P) (Pr P l) c m) i + cn (fun k => bgn (Pr P i) k c && decide (rT (Pw P) (Pr P i) k c - k = m)) k)) (nI i) (nI k)) (fun k M' => M' = M1 ∧ k ≤ Pw P) (fun k => Pw P - k) ?_ fu 0 M1 (by unfold fu; omega) ⟨rfl, Nat.zero_le _⟩
        rintro n2 k M2 ⟨rfl, hk2⟩ ih2
        show Rn (fX8_runsOf_L54 (fX8_runsOf_L33 n) (n2 + 1) 38 (nI (bN c)) (nI m) (nI (sm (fun l => rno (Pw P) (Pr P l) c m) i + cn (fun k => bgn (Pr P i) k c && decide (rT (Pw P) (Pr P i) k c - k = m)) k)) (nI i) (nI k)) M2 _
        unfold fX8_runsOf_L54 fX8_runsOf_L95 fX8_runsOf_L96
        rw [mRdW m0 p0]
        refine Rn_cs (nle (by omega) (by omega)) (fun h4 => ?_) (fun h4 => ?_)
        · have e : sm (fun l => rno (Pw P) (Pr P l) c m) i + cn (fun k => bgn (Pr P i) k c && decide (rT (Pw P) (Pr P i) k c - k = m)) k = sm (fun l => rno (Pw P) (Pr P l) c m) (i + 1) := by
            rw [show k = Pw P by omega]; rfl
          rw [e, nL1, nI_add]
          exact ih (i + 1) M2 ⟨rfl, by omega⟩ (by omega)
        · rw [Rn_bnd, mBegins m0 p0 hw (by omega) (by omega) c]
          have nx := ih2 (k + 1) M2 ⟨rfl, by omega⟩ (by omega)
          rw [cn_s, ← Nat.add_assoc] at nx
          have hb4 := rT_le (Pw P) (Pr P i) k c
          refine Rn_cs (bN_0 _) (fun h5 => ?_) (fun h5 => ?_)
          · rw [h5, Bool.false_and] at nx
            rw [Rn_bnd, Rn_rtn, nL0, nI_add, nL1, nI_add]
            exact nx
          · rw [show bgn (Pr P i) k c = true by simpa using h5, Bool.true_and] at nx
            rw [Rn_bnd, mRowFrom m0 p0 hw (by omega) (by omega) c]
            refine Rn_cs (neq (by omega) hm) (fun h6 => ?_) (fun h6 => ?_)
            · rw [decide_eq_true h6] at nx
              rw [Rn_bnd, Rn_rtn, nL1, nI_add, nI_add]
              exact nx
            · rw [decide_eq_false h6] at nx
              rw [Rn_bnd, Rn_rtn, nL0, nI_add, nL1, nI_add]
              exact nx
    · by_cases h1 : y < nI 1
      · rw [if_pos h1, Rn_grd, Rn_rtn, if_pos (by decide), if_neg (fun z => hy z.2)]; exact ⟨by decide, bad⟩
      · have h2 : nI 40 < y := by
          rcases Decidable.em (nI 40 < y) with q | q
          · exact q
          · exact absurd ⟨h1, q⟩ hy
        rw [if_neg h1, if_pos h2, Rn_grd, Rn_rtn, if_pos (by decide), if_neg (fun z => hy z.2)]; exact ⟨by decide, bad⟩
  · have h3 : isLn 2 x = false := by simpa using h
    rw [h3, if_pos (by decide), if_neg (fun z => absurd z.1 (by decide))]; exact bad
end MReadD
