/-! THE REFERENCE: lines copied, removed, swapped -/
section MEditC
variable {M : Mm} {P : Pg} {U : List Pg}
theorem pIns_ok {f g : Nat → Int32} {r to : Nat} (h : isPgM f P) (ht : to ≤ PL P) (g1 : g 1 = nI (PL P + 1)) (hg : ∀ j, j < 28 → j ≠ 1 → g j = f j) (hlo : ∀ l, l < to → ∀ k, k < 40 → g (28 + 40 * l + k) = f (28 + 40 * l + k)) (hhi : ∀ l, to < l → l ≤ PL P → ∀ k, k < 40 → g (28 + 40 * l + k) = f (28 + 40 * (l - 1) + k)) (hr : isRowAt g to r) : isPgM g (pIns P to r) := by
  refine ⟨by rw [hg 0 (by omega) (by omega)]; exact h.1, g1, fun k hk => by rw [hg _ (by omega) (by omega)]; exact h.t hk, fun k hk => by rw [hg _ (by omega) (by omega)]; exact h.s hk, fun l hl k hk => ?_⟩
  have hl : l < PL P + 1 := hl
  show g _ = nI (bN ((if l < to then Pr P l else if l = to then r else Pr P (l - 1)).testBit k))
  by_cases e : l < to
  · rw [if_pos e, hlo l e k hk]; exact h.d (by omega) hk
  · rw [if_neg e]
    by_cases e2 : l = to
    · rw [if_pos e2, e2]; exact hr k hk
    · rw [if_neg e2, hhi l (by omega) (by omega) k hk]; exact h.d (by omega) hk
theorem mCopyOp (hM : MO M) (h : mPU M (P, U)) (x y : Int32) : Rn (fX8_copyLine 38 x y) M (fun r M' => mE (spCopy P U x y) r M M') := by
  obtain ⟨hP, hw, -⟩ := id h
  have hP : isPgM (Mi M 39) P := hP
  have hw : wfP P := hw
  have h40 := hw.2.1
  have h20 := hw.2.2.1
  have bad : Rn (fX8_copyLine_L23 38 x y 38) M (fun r M' => mE (.inl 1, (P, U)) r M M') := by
    unfold fX8_copyLine_L23 fX8_copyLine_L43
    refine mPI0 hM hP (fun M0 x0 t0 m0 p0 => ?_)
    rw [Rn_bnd, Rn_gI, t0, if_neg (by decide), Rn_rtn]
    exact mE_no h x0 p0 t0
  unfold fX8_copyLine spCopy
  rw [Rn_bnd, mIsLine hM hP hw]
  by_cases g : isLn (PL P) x = true
  · rw [g, if_neg (by decide), mRdL hM hP, Rn_bnd, ← pl_s (PL P), mIn0 (by omega)]
    obtain ⟨l, hl, rfl⟩ := isLn_t (by omega) g
    by_cases g2 : isLn (PL P + 1) y = true
    · rw [g2, if_neg (by decide), if_pos ⟨rfl, rfl⟩, mRdL hM hP]
      obtain ⟨to, hto, rfl⟩ := isLn_t (by omega) g2
      rw [ix_n (by omega), ix_n (by omega)]
      refine Rn_cs (d := 20 ≤ PL P) (nle (a := 20) (by omega) (by omega)) (fun hL => ?_) (fun hL => ?_)
      · rw [if_neg (by omega)]
        unfold fX8_copyLine_L43
        refine mPI0 hM hP (fun M0 x0 t0 m0 p0 => ?_)
        rw [Rn_bnd, Rn_gI, t0, if_neg (by decide), Rn_rtn]
        exact mE_no h x0 p0 t0
      · rw [if_pos (by omega)]
        unfold fX8_copyLine_L43
        refine mPI0 hM hP (fun M0 x0 t0 m0 p0 => ?_)
        rw [Rn_bnd, Rn_gI, t0, if_pos (by decide), Rn_bnd]
        refine (mKeeps m0 (h.go x0 (fun _ => rfl) rfl p0 hw)).mono ?_
        rintro - M1 ⟨x1, u1⟩
        have up : isPgM (Mi M1 39) P := u1.1
        have m1 := m0.xf x1
        have x01 := (x0.mono xRd_Ed).tr (x1.mono xKp_Ed)
        have t1 : Mi M1 38 0 = nI 0 := by rw [x1.mi rfl]; exact t0
        rw [Rn_bnd, mA1 m1, Rn_bnd, nL0, mDotAt, Rn_bnd]
        refine (mLower m1 (a := 39) (o := 28 + 40 * l + 0) (r := Pr P l) (by decide) (by decide) (by rw [mL39 m1]; omega) (by omega) (fun k hk => up.d hl hk)).mono ?_
        rintro - M2 ⟨x2, h38, h44, l2⟩
        have m2 := m1.xf x2
        have p2 : isPgM (Mi M2 39) P := by rw [x2.row (fun _ => rfl)]; exact up
        have xLE : ∀ a b, xEd a b = false → xL a b = false := fun a b z => xL_Cd a b (xCd_Rd a b (xRd_Ed a b z))
        have x02 := x01.tr (x2.mono xLE)
        have t2 : Mi M2 38 0 = nI 0 := by rw [x2.mi rfl]; exact t1
        have u2 := u1.go (P' := P) x2 (fun _ => rfl) rfl p2 hw
        rw [mRdL m2 p2]
        refine rn_loopv (F := fun n i => fX8_copyLine_L79 n 38 (nI to) (nI i)) (fun i M' => XF xPg M2 M' ∧ to ≤ i ∧ i ≤ PL P ∧ (∀ j, j < 28 → Mi M' 39 j = Mi M2 39 j) ∧ (∀ a, a ≤ i → ∀ k, k < 40 → Mi M' 39 (28 + 40 * a + k) = Mi M2 39 (28 + 40 * a + k)) ∧ ∀ a, i < a → a ≤ PL P → ∀ k, k < 40 → Mi M' 39 (28 + 40 * a + k) = Mi M2 39 (28 + 40 * (a - 1) + k)) (fun i => i - to) ?_ fu (PL P) M2 (by unfold fu; omega) ⟨XF.rf, by omega, Nat.le_refl _, fun _ _ => rfl, fun _ _ _ _ => rfl, fun a h1 h2 => by omega⟩
        rintro n i M3 ⟨x3, hti, hiL, hj, hlo, hhi⟩ ih
        show Rn (fX8_copyLine_L79 (n + 1) 38 (nI to) (nI i)) M3 _
        have m3 := m2.xf x3
        unfold fX8_copyLine_L79
        refine Rn_cs (nle (by omega) (by omega)) (fun h4 => ?_) (fun h4 => ?_)
        · have hie : i = to := by omega
          subst hie
          refine rn_loopv (F := fun n k => fX8_copyLine_L100 n 38 (nI i) (nI k)) (fun k M' => XF xPg M2 M' ∧ k ≤ 40 ∧ gRow (Mi M3 39) (Mi M' 39) i ∧ ∀ k2, k2 < k → Mi M' 39 (28 + 40 * i + k2) = nI (bN ((Pr P l).testBit k2))) (fun k => 40 - k) ?_ fu 0 M3 (by unfold fu; omega) ⟨x3, by omega, gRow.rf, fun k hk => by omega⟩
          rintro n2 k M4 ⟨x4, hk, g4, hk2⟩ ih2
          show Rn (fX8_copyLine_L100 (n2 + 1) 38 (nI i) (nI k)) M4 _
          have m4 := m2.xf x4
          unfold fX8_copyLine_L100
          refine Rn_cs (nle (a := 40) (by omega) (by omega)) (fun h5 => ?_) (fun h5 => ?_)
          · have e1 : Mi M4 39 1 = nI (PL P) := by rw [g4 1 (by omega), hj 1 (by omega)]; exact p2.l
            rw [Rn_bnd, mA1 m4, Rn_bnd, nL1, rn_lI (by omega), mL39 m4, e1, Rn_bnd, nI_add, rn_aI (by omega), mL39 m4, Rn_bnd, mA1 m4.sI, Rn_bnd, rn_lI (by omega), mL39 m4.sI, sI_self, Rn_rtn]
            have x5 : XF xPg M2 (sI M4 39 1 (nI (PL P + 1))) := x4.sI rfl
            refine ⟨by omega, by omega, by omega, mR_r ?_, x02.tr (x5.mono xPg_Ed), u2.go x5 (fun _ => rfl) rfl (pIns_ok p2 (by omega) sI_self (fun j h1 h2 => ?_) (fun a ha k3 hk3 => ?_) (fun a ha ha2 k3 hk3 => ?_) (fun k3 hk3 => ?_)) (wf_ins hw (hw.2.2.2.1 l hl) (by omega) (by omega))⟩
            · rw [x5.mi rfl]; exact t2
            · rw [Mi_sI, if_neg (fun z => h2 z.2), g4 j (by omega)]; exact hj j h1
            · rw [Mi_sI, if_neg (by omega), g4 _ (by omega)]; exact hlo a (by omega) k3 hk3
            · rw [Mi_sI, if_neg (by omega), g4 _ (by omega)]; exact hhi a ha ha2 k3 hk3
            · rw [Mi_sI, if_neg (by omega)]; exact hk2 k3 (by omega)
          · have l4 : isRow (Mi M4 45) (Pr P l) := by rw [x4.row (fun _ => rfl)]; exact l2
            rw [Rn_bnd, mA1 m4, Rn_bnd, mDotAt, Rn_bnd, mA8 m4, Rn_bnd, rn_lI (by omega), mL45 m4, l4 k (by omega), Rn_bnd, rn_aI (by omega), mL39 m4, nL1, nI_add]
            refine ⟨by omega, by omega, ih2 (k + 1) _ ⟨x4.sI rfl, by omega, g4.si (by omega), fun k3 hk3 => ?_⟩ (by omega)⟩
            rw [Mi_sI]
            by_cases e : k3 = k
            · rw [if_pos ⟨rfl, by omega⟩, e]
            · rw [if_neg (by omega)]; exact hk2 k3 (by omega)
        · obtain ⟨i, rfl⟩ : ∃ j, i = j + 1 := ⟨i - 1, by omega⟩
          rw [Rn_bnd, nL1, nsb (by omega), show i + 1 - 1 = i by omega]
          refine (mMoves m3 (show i < 20 by omega) (show i + 1 < 20 by omega)).mono ?_
          rintro - M4 ⟨x4, g4, c4⟩
          rw [show -nI 1 = -1 from rfl, pk_m1]
          refine ih i M4 ⟨x3.tr x4, by omega, by omega, fun j h1 => ?_, fun a ha k hk => ?_, fun a ha ha2 k hk => ?_⟩ (by omega)
          · rw [g4 j (by omega)]; exact hj j h1
          · rw [g4 _ (by omega)]; exact hlo a (by omega) k hk
          · by_cases e : a = i + 1
            · subst e
              rw [c4 k hk, show i + 1 - 1 = i by omega]; exact hlo i (by omega) k hk
            · rw [g4 _ (by omega)]; exact hhi a (by omega) ha2 k hk
    · have g3 : isLn (PL P + 1) y = false := by simpa using g2
      rw [g3, if_pos (by decide), if_neg (fun z => absurd z.2 (by decide))]
      exact bad
  · have g3 : isLn (PL P) x = false := by simpa using g
    rw [g3, if_pos (by decide), if_neg (fun z => absurd z.1 (by decide))]
    exact bad
theorem pDel_ok {f g : Nat → Int32} {l : Nat} (h : isPgM f P) (g1 : g 1 = nI (PL P - 1)) (hg : ∀ j, j < 28 → j ≠ 1 → g j = f j) (hlo : ∀ a, a < l → ∀ k, k < 40 → a < PL P - 1 → g (28 + 40 * a + k) = f (28 + 40 * a + k)) (hhi : ∀ a, l ≤ a → a < PL P - 1 → ∀ k, k < 40 → g (28 + 40 * a + k) = f (28 + 40 * (a + 1) + k)) : isPgM g (pDel P l) := by
  refine ⟨by rw [hg 0 (by omega) (by omega)]; exact h.1, g1, fun k hk => by rw [hg _ (by omega) (by omega)]; exact h.t hk, fun k hk => by rw [hg _ (by omega) (by omega)]; exact h.s hk, fun a ha k hk => ?_⟩
  have ha : a < PL P - 1 := ha
  show g _ = nI (bN ((if a < l then Pr P a else Pr P (a + 1)).testBit k))
  by_cases e : a < l
  · rw [if_pos e, hlo a e k hk ha]; exact h.d (by omega) hk
  · rw [if_neg e, hhi a (by omega) ha k hk]; exact h.d (by omega) hk
theorem mRemoveOp (hM : MO M) (h : mPU M (P, U)) (x : Int32) : Rn (fX8_removeLine 38 x) M (fun r M' => mE (spRemove P U x) r M M') := by
  obtain ⟨hP, hw, -⟩ := id h
  have hP : isPgM (Mi M 39) P := hP
  have hw : wfP P := hw
  have h40 := hw.2.1
  have h20 := hw.2.2.1
  unfold fX8_removeLine spRemove
  rw [Rn_bnd, mIsLine hM hP hw]
  by_cases g : isLn (PL P) x = true
  · rw [if_pos g, g, if_neg (by decide)]
    obtain ⟨l, hl, rfl⟩ := isLn_t (by omega) g
    rw [ix_n (by omega)]
    unfold fX8_removeLine_L14
    refine mPI0 hM hP (fun M0 x0 t0 m0 p0 => ?_)
    rw [Rn_bnd, Rn_gI, t0, if_pos (by decide), Rn_bnd]
    refine (mKeeps m0 (h.go x0 (fun _ => rfl) rfl p0 hw)).mono ?_
    rintro - M1 ⟨x1, u1⟩
    have up : isPgM (Mi M1 39) P := u1.1
    have m1 := m0.xf x1
    have x01 := (x0.mono xRd_Ed).tr (x1.mono xKp_Ed)
    have t1 : Mi M1 38 0 = nI 0 := by rw [x1.mi rfl]; exact t0
    rw [Rn_bnd, mA1 m1, Rn_bnd, nL1, rn_lI (by omega), mL39 m1, up.l, Rn_bnd, nsb (by omega), rn_aI (by omega), mL39 m1]
    refine ⟨by omega, by omega, ?_⟩
    have x2 : XF xPg M1 (sI M1 39 1 (nI (PL P - 1))) := XF.rf.sI rfl
    have l2 : Mi (sI M1 39 1 (nI (PL P - 1))) 39 1 = nI (PL P - 1) := sI_self
    have o2 : ∀ j, j ≠ 1 → Mi (sI M1 39 1 (nI (PL P - 1))) 39 j = Mi M1 39 j := fun j hj => by rw [Mi_sI, if_neg (fun z => hj z.2)]
    generalize sI M1 39 1 (nI (PL P - 1)) = M2 at x2 l2 o2 ⊢
    refine rn_loopv (F := fun n i => fX8_removeLine_L42 n 38 (nI i)) (fun i M' => XF xPg M1 M' ∧ l ≤ i ∧ i ≤ PL P - 1 ∧ Mi M' 39 1 = nI (PL P - 1) ∧ (∀ j, j < 28 → j ≠ 1 → Mi M' 39 j = Mi M1 39 j) ∧ (∀ a, a < l → ∀ k, k < 40 → Mi M' 39 (28 + 40 * a + k) = Mi M1 39 (28 + 40 * a + k)) ∧ (∀ a, l ≤ a → a < i → ∀ k, k < 40 → Mi M' 39 (28 + 40 * a + k) = Mi M1 39 (28 + 40 * (a + 1) + k)) ∧ ∀ a, i ≤ a → a < PL P → ∀ k, k < 40 → Mi M' 39 (28 + 40 * a + k) = Mi M1 39 (28 + 40 * a + k)) (fun i => PL P - i) ?_ fu l M2 (by unfold fu; omega) ⟨x2, Nat.le_refl _, by omega, l2, fun j _ hj => o2 j hj, fun a _ k _ => o2 _ (by omega), fun a h1 h2 => by omega, fun a _ _ k _ => o2 _ (by omega)⟩
    rintro n i M3 ⟨x3, hli, hiL, l3, hj, hlo, hmi, hhi⟩ ih
    show Rn (fX8_removeLine_L42 (n + 1) 38 (nI i)) M3 _
    have m3 := m1.xf x3
    unfold fX8_removeLine_L42
    rw [Rn_bnd, mA1 m3, Rn_bnd, nL1, rn_lI (by omega), mL39 m3, l3]
    refine ⟨by omega, Rn_cs (nle (by omega) (by omega)) (fun h4 => ?_) (fun h4 => ?_)⟩
    · rw [Rn_bnd, mA1 m3, Rn_bnd, rn_lI (by omega), mL39 m3, l3, Rn_bnd]
      refine ⟨by omega, (mClears m3 (show PL P - 1 < 20 by omega)).mono ?_⟩
      rintro - M4 ⟨x4, g4, -⟩
      have m4 := m3.xf x4
      have l4 : Mi M4 39 1 = nI (PL P - 1) := by rw [g4 1 (by omega)]; exact l3
      rw [Rn_bnd, mA1 m4, Rn_bnd, rn_lI (by omega), mL39 m4, l4, Rn_rtn]
      have x5 := x3.tr x4
      refine ⟨by omega, mR_r (by rw [x5.mi rfl]; exact t1), x01.tr (x5.mono xPg_Ed), u1.go x5 (fun _ => rfl) rfl (pDel_ok up l4 (fun j h1 h2 => ?_) (fun a ha k hk ha2 => ?_) (fun a ha ha2 k hk => ?_)) (wf_del hw)⟩
      · rw [g4 j (by omega)]; exact hj j h1 h2
      · rw [g4 _ (by omega)]; exact hlo a ha k hk
      · rw [g4 _ (by omega)]; exact hmi a ha (by omega) k hk
    · rw [Rn_bnd, nI_add]
      refine (mMoves m3 (show i + 1 < 20 by omega) (show i < 20 by omega)).mono ?_
      rintro - M4 ⟨x4, g4, c4⟩
      refine ih (i + 1) M4 ⟨x3.tr x4, by omega, by omega, by rw [g4 1 (by omega)]; exact l3, fun j h1 h2 => ?_, fun a ha k hk => ?_, fun a ha ha2 k hk => ?_, fun a ha ha2 k hk => ?_⟩ (by omega)
      · rw [g4 j (by omega)]; exact hj j h1 h2
      · rw [g4 _ (by omega)]; exact hlo a ha k hk
      · by_cases e : a = i
        · subst e
          rw [c4 k hk]; exact hhi (a + 1) (by omega) (by omega) k hk
        · rw [g4 _ (by omega)]; exact hmi a ha (by omega) k hk
      · rw [g4 _ (by omega)]; exact hhi a (by omega) ha2 k hk
  · have g3 : isLn (PL P) x = false := by simpa using g
    rw [if_neg g, g3, if_pos (by decide)]
    unfold fX8_removeLine_L14
    refine mPI0 hM hP (fun M0 x0 t0 m0 p0 => ?_)
    rw [Rn_bnd, Rn_gI, t0, if_neg (by decide), Rn_rtn]
    exact mE_no h x0 p0 t0
theorem mSwapOp (hM : MO M) (h : mPU M (P, U)) (x y : Int32) : Rn (fX8_swap 38 x y) M (fun r M' => mE (spSwap P U x y) r M M') := by
  obtain ⟨hP, hw, -⟩ := id h
  have hP : isPgM (Mi M 39) P := hP
  have hw : wfP P := hw
  have h40 := hw.2.1
  have h20 := hw.2.2.1
  have bad : Rn (fX8_swap_L21 38 x y 38) M (fun r M' => mE (.inl 1, (P, U)) r M M') := by
    unfold fX8_swap_L21 fX8_swap_L22
    refine mPI0 hM hP (fun M0 x0 t0 m0 p0 => ?_)
    rw [Rn_bnd, Rn_gI, t0, if_neg (by decide), Rn_rtn]
    exact mE_no h x0 p0 t0
  unfold fX8_swap spSwap
  rw [Rn_bnd, mIsLine hM hP hw]
  by_cases g : isLn (PL P) x = true
  · rw [g, if_neg (by decide), Rn_bnd, mIsLine hM hP hw]
    obtain ⟨a, ha, rfl⟩ := isLn_t (by omega) g
    by_cases g2 : isLn (PL P) y = true
    · rw [g2, if_neg (by decide), if_pos ⟨rfl, rfl⟩]
      obtain ⟨b, hb, rfl⟩ := isLn_t (by omega) g2
      rw [ix_n (by omega), ix_n (by omega)]
      unfold fX8_swap_L22
      refine mPI0 hM hP (fun M0 x0 t0 m0 p0 => ?_)
      rw [Rn_bnd, Rn_gI, t0, if_pos (by decide), Rn_bnd, mDiffers m0 p0 hw ha (Or.inr ⟨b, hb, rfl, rfl⟩), Rn_bnd]
      refine (mKeeps m0 (h.go x0 (fun _ => rfl) rfl p0 hw)).mono ?_
      rintro - M1 ⟨x1, u1⟩
      have up : isPgM (Mi M1 39) P := u1.1
      have m1 := m0.xf x1
      have x01 := (x0.mono xRd_Ed).tr (x1.mono xKp_Ed)
      have t1 : Mi M1 38 0 = nI 0 := by rw [x1.mi rfl]; exact t0
      rw [Rn_bnd, mA1 m1, Rn_bnd, nL0, mDotAt, Rn_bnd]
      refine (mLower m1 (a := 39) (o := 28 + 40 * a + 0) (r := Pr P a) (by decide) (by decide) (by rw [mL39 m1]; omega) (by omega) (fun k hk => up.d ha hk)).mono ?_
      rintro - M2 ⟨x2, h38, h44, l2⟩
      have m2 := m1.xf x2
      have p2 : isPgM (Mi M2 39) P := by rw [x2.row (fun _ => rfl)]; exact up
      have xLE : ∀ a b, xEd a b = false → xL a b = false := fun a b z => xL_Cd a b (xCd_Rd a b (xRd_Ed a b z))
      have x02 := x01.tr (x2.mono xLE)
      have t2 : Mi M2 38 0 = nI 0 := by rw [x2.mi rfl]; exact t1
      have u2 := u1.go (P' := P) x2 (fun _ => rfl) rfl p2 hw
      rw [Rn_bnd]
      refine (mMoves m2 (show b < 20 by omega) (show a < 20 by omega)).mono ?_
      rintro - M3 ⟨x3, g3, c3⟩
      have m3 := m2.xf x3
      have p3 : isPgM (Mi M3 39) (pRow P a (Pr P b)) := pRow_ok p2 g3 (fun k hk => by rw [c3 k hk]; exact p2.d hb hk)
      have w3 := wf_row (l := a) hw (hw.2.2.2.1 b hb)
      refine rn_loopv (F := fun n k => fX8_swap_L67 n 38 (nI b) (nI (dif (Pw P) (Pr P a) (Pr P b))) (nI k)) (fun k M' => XF xPg M2 M' ∧ k ≤ 40 ∧ gRow (Mi M3 39) (Mi M' 39) b ∧ ∀ k2, k2 < k → Mi M' 39 (28 + 40 * b + k2) = nI (bN ((Pr P a).testBit k2))) (fun k => 40 - k) ?_ fu 0 M3 (by unfold fu; omega) ⟨x3, by omega, gRow.rf, fun k hk => by omega⟩
      rintro n2 k M4 ⟨x4, hk, g4, hk2⟩ ih2
      show Rn (fX8_swap_L67 (n2 + 1) 38 (nI b) (nI (dif (Pw P) (Pr P a) (Pr P b))) (nI k)) M4 _
      have m4 := m2.xf x4
      unfold fX8_swap_L67
      refine Rn_cs (nle (a := 40) (by omega) (by omega)) (fun h5 => ?_) (fun h5 => ?_)
      · rw [Rn_rtn]
        exact ⟨mR_r (by rw [x4.mi rfl]; exact t2), x02.tr (x4.mono xPg_Ed), u2.go x4 (fun _ => rfl) rfl (pRow_ok p3 g4 (fun k3 hk3 => hk2 k3 (by omega))) (wf_row w3 (hw.2.2.2.1 a ha))⟩
      · have l4 : isRow (Mi M4 45) (Pr P a) := by rw [x4.row (fun _ => rfl)]; exact l2
        rw [Rn_bnd, mA1 m4, Rn_bnd, mDotAt, Rn_bnd, mA8 m4, Rn_bnd, rn_lI (by omega), mL45 m4, l4 k (by omega), Rn_bnd, rn_aI (by omega), mL39 m4, nL1, nI_add]
        refine ⟨by omega, by omega, ih2 (k + 1) _ ⟨x4.sI rfl, by omega, g4.si (by omega), fun k3 hk3 => ?_⟩ (by omega)⟩
        rw [Mi_sI]
        by_cases e : k3 = k
        · rw [if_pos ⟨rfl, by omega⟩, e]
        · rw [if_neg (by omega)]; exact hk2 k3 (by omega)
    · have g3 : isLn (PL P) y = false := by simpa using g2
      rw [g3, if_pos (by decide), if_neg (fun z => absurd z.2 (by decide))]
      exact bad
  · have g3 : isLn (PL P) x = false := by simpa using g
    rw [g3, if_pos (by decide), if_neg (fun z => absurd z.1 (by decide))]
    exact bad
end MEditC
