/-! THE CLASS: edits -/
section CEd
variable {M : Mm} {P : Pg} {U : List Pg} {V : Nat → Option Pg}
theorem CPg.go {B : Nat × Nat} {P' : Pg} {M' : Mm} (h : CPg B M P U V) (x : XF (xPgH 1) M M') (p : isPgC M' 1 P') (w : wfP P') : XG (xEc B) M M' ∧ CPg B M' P' U V := by
  obtain ⟨c1, c2, c3, c4, c5, c6⟩ := h
  have hB9 := c4.b
  have Z : ∀ a b, a = 5 ∨ B.1 ≤ a → xPgH 1 a b = false := fun a b z => xPgH_0 (by omega)
  have X1 : XF (xEc B) M M' := x.mono (fun a b z => xPgH_0 (by unfold xEc at z; simp at z; omega))
  exact ⟨X1.xg, c1.xf x, p, w, c4.xf x, isHi.xf c4 c5 x Z, isSa.xf c4 c6 x (fun a b z => Z a b (Or.inr z))⟩
theorem cKp {B : Nat × Nat} {α : Type} {F : Mm → Option (α × Mm)} {Q : α → Mm → Prop} (h : CPg B M P U V) (k : ∀ M1, XG (xEc B) M M1 → CPg B M1 P (pushU U P) V → Rn F M1 Q) : Rn (bnd (gA 0 1) fun v1 => bnd (gA 0 0) fun v2 => bnd (fX1_keep v1 v2) fun _ => F) M Q := by
  rw [Rn_bnd, cA0_1 h.1, Rn_bnd, cA0_0 h.1, Rn_bnd]
  refine (cKeep h).mono ?_
  rintro - M1 ⟨x, c⟩
  exact k M1 x c
/-- what an edit of the class answers and leaves -/
def cE (B : Nat × Nat) (a b : Nat) (s : EdS) (V : Nat → Option Pg) (r : Nat ⊕ Int32) (M M' : Mm) : Prop := r = xc a b s.1 ∧ XG (xEc B) M M' ∧ CPg B M' s.2.1 s.2.2 V
theorem cE_no {B : Nat × Nat} {a b k : Nat} (h : CPg B M P U V) : cE B a b (.inl k, (P, U)) V (.inl (if k = 1 then a else b)) M M := ⟨rfl, XG.rf, h⟩
theorem cE_go {B : Nat × Nat} {a b : Nat} {v : Int32} {P' : Pg} {M1 M2 : Mm} (x0 : XG (xEc B) M M1) (h : CPg B M1 P (pushU U P) V) (x : XF (xPgH 1) M1 M2) (p : isPgC M2 1 P') (w : wfP P') : cE B a b (.inr v, (P', pushU U P)) V (.inr v) M M2 := by
  obtain ⟨y1, y2⟩ := h.go x p w
  exact ⟨rfl, x0.tr y1, y2⟩
theorem sS1 : ∀ k, k < 6 → (sS.getD 1 ("", [])).2.getD k 0 = nI (stLo k) := by decide
theorem sS2 : ∀ k, k < 6 → (sS.getD 2 ("", [])).2.getD k 0 = nI (stHi k) := by decide
theorem stLo_le (k : Nat) : stLo k ≤ 1 := by unfold stLo; split <;> omega
theorem stHi_le (k : Nat) : stHi k ≤ 99 := by
  unfold stHi
  split
  · omega
  · split
    · omega
    · split
      · omega
      · split <;> omega
theorem cNeedSpan (hM : CO M) (hP : isPgC M 1 P) (hw : wfP P) {x y : Int32} {Q : (Nat ⊕ Unit) → Mm → Prop} : Rn (fX7_needSpan 0 x y) M Q ↔ Q (if isLn (Pw P + 1) x = true ∧ ¬ y < x ∧ ¬ nI (Pw P) < y then .inr () else .inl 0) M := by
  refine Rn_det ?_
  have h40 := hw.2.1
  unfold fX7_needSpan fX7_needSpan_L31
  rcases ln_le (n := Pw P) (by omega) x with ⟨h1, h2⟩ | ⟨h1, h2, h3, k, hk, rfl⟩ | ⟨h1, h2, h3⟩
  · rw [if_pos h1, Rn_rtn, if_neg (by rw [h2]; simp)]; exact ⟨rfl, rfl⟩
  · rw [if_neg h1, Rn_bnd, cA0_0 hM, Rn_bnd, cW hP, if_neg (Int32.not_lt.mpr h2)]
    by_cases g : y < nI k
    · rw [if_pos g, Rn_rtn, if_neg (fun z => z.2.1 g)]; exact ⟨rfl, rfl⟩
    · rw [if_neg g, Rn_bnd, cA0_0 hM, Rn_bnd, cW hP]
      by_cases g1 : y ≤ nI (Pw P)
      · rw [if_pos g1, Rn_rtn, if_pos ⟨h3, g, Int32.not_lt.mpr g1⟩]; exact ⟨rfl, rfl⟩
      · rw [if_neg g1, Rn_rtn, if_neg (fun z => z.2.2 (Int32.not_le.mp g1))]; exact ⟨rfl, rfl⟩
  · rw [if_neg h1, Rn_bnd, cA0_0 hM, Rn_bnd, cW hP, if_pos (Int32.not_le.mp h2), Rn_rtn, if_neg (by rw [h3]; simp)]; exact ⟨rfl, rfl⟩
theorem cNeedRoom (hM : CO M) (hP : isPgC M 1 P) (hw : wfP P) {Q : (Nat ⊕ Unit) → Mm → Prop} : Rn (fX7_needRoom 0) M Q ↔ Q (if PL P < 20 then .inr () else .inl 1) M := by
  refine Rn_det ?_
  have h20 := hw.2.2.1
  unfold fX7_needRoom
  rw [Rn_bnd, cA0_0 hM, Rn_bnd, cN hP]
  refine Rn_cs (show nI (PL P) < 20 ↔ PL P < 20 from nlt (b := 20) (by omega) (by omega)) (fun g => ?_) (fun g => ?_)
  · rw [Rn_rtn, if_pos g]; exact ⟨rfl, rfl⟩
  · rw [Rn_rtn, if_neg g]; exact ⟨rfl, rfl⟩
theorem isPgC.cgr {P P' : Pg} {h : Nat} (p : isPgC M h P) (e0 : Pw P' = Pw P) (e1 : PL P' = PL P) (e2 : ∀ l, l < PL P → Pr P' l = Pr P l) (e3 : Ps P' = Ps P) (e4 : Pt P' = Pt P) : isPgC M h P' := by
  obtain ⟨h1, h2, h3, h4, h5⟩ := p
  exact ⟨by rw [e0]; exact h1, by rw [e1]; exact h2, fun l hl => by rw [e1] at hl; rw [e2 l hl]; exact h3 l hl, fun l hl => by rw [e3]; exact h4 l hl, fun l hl => by rw [e4]; exact h5 l hl⟩
theorem span_lt {f t w : Nat} (ht : t ≤ w) : 2 ^ t - 2 ^ f < 2 ^ w := by
  have : 2 ^ t ≤ 2 ^ w := pw_le ht
  have := Nat.two_pow_pos f
  have := Nat.two_pow_pos t
  omega
theorem lN_not {n : Nat} (h : n < 2 ^ 64) : lN n ^^^ (-1) = lN (n ^^^ (2 ^ 64 - 1)) := by
  rw [show (-1 : Int64) = lN (2 ^ 64 - 1) from by decide +kernel, lN_xr h (by decide)]
theorem cPaintOp {B : Nat × Nat} (h : CPg B M P U V) (x a b c : Int32) : Rn (fX7_paint 0 x a b c) M (fun r M' => cE B 2 0 (spPaint P U x a b c) V r M M') := by
  obtain ⟨m0, p0, w0, -⟩ := id h
  have h40 := w0.2.1
  have h20 := w0.2.2.1
  have p40 : 2 ^ Pw P ≤ 2 ^ 40 := pw_le h40
  unfold fX7_paint spPaint
  rw [Rn_bndX, cNeedLine m0 p0 w0]
  by_cases g : isLn (PL P) x = true
  · rw [if_pos g, if_pos g]
    obtain ⟨l, hl, rfl⟩ := isLn_t (by omega) g
    rw [ix_n (by omega)]
    show Rn _ M _
    rw [Rn_bndX, cNeedSpan m0 p0 w0]
    by_cases g1 : isLn (Pw P + 1) a = true ∧ ¬ b < a ∧ ¬ nI (Pw P) < b
    · rw [if_pos g1]
      show Rn _ M _
      rw [Rn_bndX, cNeedColour]
      by_cases g2 : isLn 2 c = true
      · rw [if_pos g2, if_pos ⟨g1, g2⟩]
        obtain ⟨f, t, hft, htw, rfl, rfl⟩ := isPt_t h40 g1
        rw [ix_n (by omega), ix_n (by omega)]
        show Rn _ M _
        refine cKp h (fun M1 x1 c1 => ?_)
        obtain ⟨m1, p1, w1, -⟩ := id c1
        have hr := w1.2.2.2.1 l hl
        have sl := span_lt (f := f) htw
        have hg : ∀ c', pntG (Pr P l) f t c' < 2 ^ Pw P := fun c' => pntG_lt hft htw hr
        have key : ∀ v, v = lN (pntG (Pr P l) f t (c2B c)) → Rn (fX7_paint_L66 0 (nI l) (lN (Pr P l)) v) M1 (fun r M' => cE B 2 0 (.inr (nI (dif (Pw P) (Pr P l) (pntG (Pr P l) f t (c2B c)))), (pRow P l (pntG (Pr P l) f t (c2B c)), pushU U P)) V r M M') := by
          rintro v rfl
          have hg' := hg (c2B c)
          unfold fX7_paint_L66
          rw [Rn_bnd, cA0_0 m1, Rn_bnd]
          refine (cPutRow m1.p1 p1 w1 hl (by omega)).mono ?_
          rintro - M2 ⟨x2, p2⟩
          rw [Nat.mod_eq_of_lt hg'] at p2
          rw [Rn_bnd, fDif h40 hr hg', Rn_rtn]
          exact cE_go x1 c1 x2 p2 (wf_row w1 hg')
        rw [Rn_bnd, cA0_0 m1, Rn_bnd, cRowL m1 p1 w1 hl]
        refine Rn_cs (d := c2B c = true) (by unfold c2B; simp; rfl) (fun g3 => ?_) (fun g3 => ?_)
        · rw [Rn_bnd, fSpan hft (by omega)]
          refine key _ ?_
          rw [wb_or (by omega) (by omega), g3]; rfl
        · have g3 : c2B c = false := by simpa using g3
          rw [Rn_bnd, fSpan hft (by omega)]
          refine key _ ?_
          rw [lN_not (by omega), wb_and (by omega) (Nat.xor_lt_two_pow (by omega) (by decide)), g3]
          congr 1
          apply Nat.eq_of_testBit_eq
          intro k
          show _ = (Pr P l ^^^ (Pr P l &&& (2 ^ t - 2 ^ f))).testBit k
          rw [Nat.testBit_and, Nat.testBit_xor, Nat.testBit_xor, Nat.testBit_and, Nat.testBit_two_pow_sub_one]
          by_cases q : k < 64
          · simp [q]; cases (Pr P l).testBit k <;> cases (2 ^ t - 2 ^ f).testBit k <;> rfl
          · rw [Nat.testBit_lt_two_pow (show Pr P l < 2 ^ k from Nat.lt_of_lt_of_le hr (pw_le (by omega)))]; simp
      · rw [if_neg g2, if_neg (fun z => g2 z.2)]; exact cE_no h
    · rw [if_neg g1, if_neg (fun z => g1 z.1)]; exact cE_no h
  · rw [if_neg g, if_neg g]; exact cE_no h
theorem cShiftOp {B : Nat × Nat} (h : CPg B M P U V) (x y : Int32) : Rn (fX7_shift 0 x y) M (fun r M' => cE B 2 0 (spShift P U x y) V r M M') := by
  obtain ⟨m0, p0, w0, -⟩ := id h
  have h40 := w0.2.1
  have h20 := w0.2.2.1
  have p40 : 2 ^ Pw P ≤ 2 ^ 40 := pw_le h40
  unfold fX7_shift fX7_shift_L17 spShift
  rw [Rn_bndX, cNeedLine m0 p0 w0]
  by_cases g : isLn (PL P) x = true
  · rw [if_pos g, if_pos g]
    obtain ⟨l, hl, rfl⟩ := isLn_t (by omega) g
    rw [ix_n (by omega)]
    show Rn _ M _
    by_cases g1 : y < -40
    · rw [if_pos g1, Rn_rtn, if_neg (fun z => z.1 g1)]; exact cE_no h
    · rw [if_neg g1]
      by_cases g2 : y ≤ 40
      · rw [if_pos g2, if_pos ⟨g1, Int32.not_lt.mpr g2⟩]
        refine cKp h (fun M1 x1 c1 => ?_)
        obtain ⟨m1, p1, w1, -⟩ := id c1
        have hr := w1.2.2.2.1 l hl
        have hs := shR_lt (y := y) hr
        have key : ∀ m, m < 2 ^ 64 → m % 2 ^ Pw P = shR (Pw P) (Pr P l) y → Rn (fX7_shift_L66 0 (nI l) (lN m) (nI l) 1) M1 (fun r M' => cE B 2 0 (.inr (nI (blk (Pw P) (shR (Pw P) (Pr P l) y))), (pRow P l (shR (Pw P) (Pr P l) y), pushU U P)) V r M M') := by
          intro m hm he
          unfold fX7_shift_L66
          rw [Rn_bnd]
          refine (cPutRow m1.p1 p1 w1 hl hm).mono ?_
          rintro - M2 ⟨x2, p2⟩
          rw [he] at p2
          have w2 := wf_row (l := l) w1 hs
          have m2 := m1.xf x2
          have er : Pr (pRow P l (shR (Pw P) (Pr P l) y)) l = shR (Pw P) (Pr P l) y := updN_s _ _ _
          rw [Rn_bnd, cA0_0 m2, Rn_bnd, cRowL m2 p2 w2 hl, er, Rn_bnd, fBlk h40 hs, Rn_rtn]
          exact cE_go x1 c1 x2 p2 w2
        rw [Rn_bnd, cA0_0 m1, Rn_bnd, cRowL m1 p1 w1 hl, Rn_bnd, cA0_0 m1]
        by_cases g3 : y < 0
        · rw [if_neg (Int32.not_le.mpr g3)]
          have hk : ∃ k, k ≤ 40 ∧ -y = nI k := by
            have n1 : ¬ -y < 0 := by
              rw [Int32.lt_iff_toInt_lt] at g1 g3 ⊢
              have e0 : (0 : Int32).toInt = 0 := rfl
              have e40 : (-40 : Int32).toInt = -40 := by decide
              rw [Int32.toInt_neg, Int.bmod_eq_of_le (by omega) (by omega)]; omega
            obtain ⟨k, hk, e⟩ := nI_of n1
            refine ⟨k, ?_, e⟩
            have e' := congrArg Int32.toInt e
            rw [nI_tI hk] at e'
            rw [Int32.lt_iff_toInt_lt] at g1 g3
            have e0 : (0 : Int32).toInt = 0 := rfl
            have e40 : (-40 : Int32).toInt = -40 := by decide
            rw [Int32.toInt_neg, Int.bmod_eq_of_le (by omega) (by omega)] at e'
            omega
          obtain ⟨k, hk, e⟩ := hk
          rw [e, lus_1 (by omega) k (by omega)]
          have hd : Pr P l / 2 ^ k ≤ Pr P l := Nat.div_le_self _ _
          refine key _ (by omega) ?_
          rw [Nat.mod_eq_of_lt (by omega)]
          unfold shR; rw [if_pos g3, e, ix_n (by omega)]
        · rw [if_pos (Int32.not_lt.mp g3)]
          obtain ⟨k, hk, rfl⟩ := nI_of g3
          have hk40 : k ≤ 40 := (nle (b := 40) hk (by omega)).mp g2
          rw [lsh1 (by omega), wb_mod]
          refine key _ (Nat.mod_lt _ (by decide)) ?_
          have : Pr P l * 2 ^ k % 2 ^ 64 % 2 ^ Pw P = Pr P l * 2 ^ k % 2 ^ Pw P := Nat.mod_mod_of_dvd _ (Nat.pow_dvd_pow 2 (by omega))
          rw [this]
          unfold shR; rw [if_neg g3, ix_n hk]
      · rw [if_neg g2, Rn_rtn, if_neg (fun z => z.2 (Int32.not_le.mp g2))]; exact cE_no h
  · rw [if_neg g, if_neg g]; exact cE_no h
theorem cCopyOp {B : Nat × Nat} (h : CPg B M P U V) (x y : Int32) : Rn (fX7_copyLine 0 x y) M (fun r M' => cE B 2 1 (spCopy P U x y) V r M M') := by
  obtain ⟨m0, p0, w0, -⟩ := id h
  have h20 := w0.2.2.1
  unfold fX7_copyLine fX7_copyLine_L20 spCopy
  rw [Rn_bndX, cNeedLine m0 p0 w0]
  by_cases g : isLn (PL P) x = true
  · rw [if_pos g]
    obtain ⟨l, hl, rfl⟩ := isLn_t (by omega) g
    rw [ix_n (by omega)]
    show Rn _ M _
    rcases ln_le (n := PL P) (by omega) y with ⟨h1, h2⟩ | ⟨h1, h2, h3, t, ht, rfl⟩ | ⟨h1, h2, h3⟩
    · rw [if_pos h1, Rn_rtn, if_neg (by rw [h2]; simp)]; exact cE_no h
    · rw [if_neg h1, Rn_bnd, cA0_0 m0, Rn_bnd, cN p0, if_pos h2, if_pos ⟨g, h3⟩, ix_n (by omega), Rn_bndX, cNeedRoom m0 p0 w0]
      by_cases g1 : PL P < 20
      · rw [if_pos g1, if_pos g1]
        show Rn _ M _
        refine cKp h (fun M1 x1 c1 => ?_)
        obtain ⟨m1, p1, w1, -⟩ := id c1
        have hr := w1.2.2.2.1 l hl
        rw [Rn_bnd, cA0_0 m1, Rn_bnd, cA0_0 m1, Rn_bnd, cRowL m1 p1 w1 hl, Rn_bnd]
        refine (cInsert m1.p1 p1 w1 ht g1 hr).mono ?_
        rintro - M2 ⟨x2, p2⟩
        rw [Rn_bnd, cA0_0 (m1.xf x2), Rn_bnd, Rn_gI, p2.2.1, Rn_rtn]
        exact cE_go x1 c1 x2 p2 (wf_ins w1 hr g1 ht)
      · rw [if_neg g1, if_neg g1]; exact cE_no h
    · rw [if_neg h1, Rn_bnd, cA0_0 m0, Rn_bnd, cN p0, if_neg h2, Rn_rtn, if_neg (by rw [h3]; simp)]; exact cE_no h
  · rw [if_neg g, if_neg (fun z => g z.1)]; exact cE_no h
theorem cRemoveOp {B : Nat × Nat} (h : CPg B M P U V) (x : Int32) : Rn (fX7_removeLine 0 x) M (fun r M' => cE B 2 0 (spRemove P U x) V r M M') := by
  obtain ⟨m0, p0, w0, -⟩ := id h
  have h20 := w0.2.2.1
  unfold fX7_removeLine spRemove
  rw [Rn_bndX, cNeedLine m0 p0 w0]
  by_cases g : isLn (PL P) x = true
  · rw [if_pos g, if_pos g]
    obtain ⟨l, hl, rfl⟩ := isLn_t (by omega) g
    rw [ix_n (by omega)]
    show Rn _ M _
    refine cKp h (fun M1 x1 c1 => ?_)
    obtain ⟨m1, p1, w1, -⟩ := id c1
    rw [Rn_bnd, cA0_0 m1, Rn_bnd]
    refine (cDelete m1.p1 p1 w1 hl).mono ?_
    rintro - M2 ⟨x2, p2⟩
    rw [Rn_bnd, cA0_0 (m1.xf x2), Rn_bnd, Rn_gI, p2.2.1, Rn_rtn]
    exact cE_go x1 c1 x2 p2 (wf_del w1)
  · rw [if_neg g, if_neg g]; exact cE_no h
theorem cInvertOp {B : Nat × Nat} (h : CPg B M P U V) (x : Int32) : Rn (fX7_invert 0 x) M (fun r M' => cE B 2 0 (spInvert P U x) V r M M') := by
  obtain ⟨m0, p0, w0, -⟩ := id h
  have h40 := w0.2.1
  have h20 := w0.2.2.1
  have p40 : 2 ^ Pw P ≤ 2 ^ 40 := pw_le h40
  unfold fX7_invert spInvert
  rw [Rn_bndX, cNeedLine m0 p0 w0]
  by_cases g : isLn (PL P) x = true
  · rw [if_pos g, if_pos g]
    obtain ⟨l, hl, rfl⟩ := isLn_t (by omega) g
    rw [ix_n (by omega)]
    show Rn _ M _
    refine cKp h (fun M1 x1 c1 => ?_)
    obtain ⟨m1, p1, w1, -⟩ := id c1
    have hr := w1.2.2.2.1 l hl
    have hi := inv_lt hr
    rw [Rn_bnd, cA0_0 m1, Rn_bnd, cA0_0 m1, Rn_bnd, cRowL m1 p1 w1 hl, lN_not (by omega), Rn_bnd]
    refine (cPutRow m1.p1 p1 w1 hl (Nat.xor_lt_two_pow (by omega) (by decide))).mono ?_
    rintro - M2 ⟨x2, p2⟩
    have e : (Pr P l ^^^ (2 ^ 64 - 1)) % 2 ^ Pw P = inv (Pw P) (Pr P l) := by
      apply Nat.eq_of_testBit_eq
      intro k
      rw [Nat.testBit_mod_two_pow, Nat.testBit_xor, Nat.testBit_two_pow_sub_one, inv_bit]
      by_cases q : k < Pw P
      · have : k < 64 := by omega
        simp [q, this]
      · rw [Nat.testBit_lt_two_pow (show Pr P l < 2 ^ k from Nat.lt_of_lt_of_le hr (pw_le (by omega)))]; simp [q]
    rw [e] at p2
    have w2 := wf_row (l := l) w1 hi
    have m2 := m1.xf x2
    have er : Pr (pRow P l (inv (Pw P) (Pr P l))) l = inv (Pw P) (Pr P l) := updN_s _ _ _
    rw [Rn_bnd, cA0_0 m2, Rn_bnd, cRowL m2 p2 w2 hl, er, Rn_bnd, fBlk h40 hi, Rn_rtn]
    exact cE_go x1 c1 x2 p2 w2
  · rw [if_neg g, if_neg g]; exact cE_no h
theorem cSwapOp {B : Nat × Nat} (h : CPg B M P U V) (x y : Int32) : Rn (fX7_swap 0 x y) M (fun r M' => cE B 2 0 (spSwap P U x y) V r M M') := by
  obtain ⟨m0, p0, w0, -⟩ := id h
  have h40 := w0.2.1
  have h20 := w0.2.2.1
  have p40 : 2 ^ Pw P ≤ 2 ^ 40 := pw_le h40
  unfold fX7_swap spSwap
  rw [Rn_bndX, cNeedLine m0 p0 w0]
  by_cases g : isLn (PL P) x = true
  · rw [if_pos g]
    show Rn _ M _
    rw [Rn_bndX, cNeedLine m0 p0 w0]
    by_cases g1 : isLn (PL P) y = true
    · rw [if_pos g1, if_pos ⟨g, g1⟩]
      obtain ⟨l, hl, rfl⟩ := isLn_t (by omega) g
      obtain ⟨o, ho, rfl⟩ := isLn_t (by omega) g1
      rw [ix_n (by omega), ix_n (by omega)]
      show Rn _ M _
      refine cKp h (fun M1 x1 c1 => ?_)
      obtain ⟨m1, p1, w1, -⟩ := id c1
      have hr := w1.2.2.2.1 l hl
      have hq := w1.2.2.2.1 o ho
      rw [Rn_bnd, cA0_0 m1, Rn_bnd, cRowL m1 p1 w1 hl, Rn_bnd, cA0_0 m1, Rn_bnd, cRowL m1 p1 w1 ho, Rn_bnd, cA0_0 m1, Rn_bnd]
      refine (cPutRow m1.p1 p1 w1 hl (by omega)).mono ?_
      rintro - M2 ⟨x2, p2⟩
      rw [Nat.mod_eq_of_lt hq] at p2
      have w2 := wf_row (l := l) w1 hq
      have m2 := m1.xf x2
      rw [Rn_bnd, cA0_0 m2, Rn_bnd]
      refine (cPutRow m2.p1 p2 w2 (l := o) ho (show Pr P l < 2 ^ 64 by omega)).mono ?_
      rintro - M3 ⟨x3, p3⟩
      have e : Pr P l % 2 ^ Pw (pRow P l (Pr P o)) = Pr P l := Nat.mod_eq_of_lt hr
      rw [e] at p3
      have w3 := wf_row (l := o) w2 (r := Pr P l) hr
      rw [Rn_bnd, fDif h40 hr hq, Rn_rtn]
      exact cE_go x1 c1 (x2.tr x3) p3 w3
    · rw [if_neg g1, if_neg (fun z => g1 z.2)]; exact cE_no h
  · rw [if_neg g, if_neg (fun z => g z.1)]; exact cE_no h
end CEd

