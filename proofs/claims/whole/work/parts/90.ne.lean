/-! THE REFERENCE: load -/
def xMl (a b : Nat) : Bool := xMp a b || (a == 38 && (b == 0 || b == 4 || b == 32)) || a == 39
theorem xMp_Ml (a b : Nat) (z : xMl a b = false) : xMp a b = false := by unfold xMl at z; cases e : xMp a b <;> simp [e] at z ⊢
section MLd
variable {M : Mm} {x : Tx} {p : Nat} {P : Pg} {U : List Pg}
theorem mStmts (hM : MO M) (hx : isTxM M x) (hW : isWd M) (g : gd M) (h : stG x (P, p) M) {Q : Int32 → Mm → Prop} (kI : ∀ e M1, stmtN x 1000 P p = .inl e → XF xMp M M1 → erS M1 e → Rn (fX8_load_L99 38) M1 Q) (kR : ∀ Z M1, stmtN x 1000 P p = .inr Z → XF xMp M M1 → gd M1 → isFr M1 Z → wfP Z → Rn (fX8_load_L99 38) M1 Q) : Rn (fX8_load_L78 fu 38) M Q := by
  have h900 := hx.2.1
  have hb := hx.2.2.2
  have hp : p ≤ x.2 := h.2.2.2
  generalize hA : stmtN x 1000 P p = A0 at kI kR
  refine rn_loopv (F := fun n (_ : Nat × Option (Pg × Nat)) => fX8_load_L78 n 38) (fun s M' => XF xMp M M' ∧ match s.2 with
    | none => ∃ e, A0 = .inl e ∧ erS M' e
    | some v => gd M' ∧ stG x v M' ∧ s.1 ≤ v.2 ∧ stmtN x (1000 - s.1) v.1 v.2 = A0) (fun s => match s.2 with | none => 0 | some v => x.2 - v.2 + 1) ?_ fu (0, some (P, p)) M (by show x.2 - p + 1 < fu; unfold fu; omega) ⟨XF.rf, g, h, Nat.zero_le _, hA⟩
  rintro n ⟨k, o⟩ M1 ⟨x1, inv⟩ ih
  have m1 := hM.xf x1
  have t1 := hx.mp x1
  show Rn (fX8_load_L78 (n + 1) 38) M1 _
  unfold fX8_load_L78
  cases o with
  | none =>
    obtain ⟨e, he, hE⟩ := inv
    rw [Rn_bnd, Rn_gI, if_neg hE.n0]
    exact kI e M1 he x1 hE
  | some v =>
    obtain ⟨Z, q⟩ := v
    obtain ⟨g1, h1, hkq, he⟩ := inv
    have g1 : gd M1 := g1
    have h1 : stG x (Z, q) M1 := h1
    have hkq : k ≤ q := hkq
    have hq : q ≤ x.2 := h1.2.2.2
    have he : stmtN x (1000 - k) Z q = A0 := he
    have he' : A0 = if tkK x q = 0 then .inr Z else pB (pStmt x Z q) (fun v => stmtN x (1000 - (k + 1)) v.1 v.2) := by
      rw [← he, show 1000 - k = (1000 - (k + 1)) + 1 by omega, stmtN_s]
    have k6 : tkK x q ≤ 6 := srt_le _
    have s6 := srM_le k6
    have s0 : srM (tkK x q) = 0 ↔ tkK x q = 0 := by unfold srM; repeat' split
                                                    all_goals omega
    have k1 : mTk M1 x q := h1.2.2.1
    rw [Rn_bnd, Rn_gI, g1.1, if_pos (by decide), Rn_bnd, Rn_gI, k1.2.2.1]
    refine Rn_cs ((show nI (srM (tkK x q)) = 0 ↔ srM (tkK x q) = 0 from neq (b := 0) (by omega) (by omega)).trans s0) (fun z => ?_) (fun z => ?_)
    · rw [if_pos z] at he'
      exact kR Z M1 he' x1 g1 h1.1 h1.2.1
    · rw [if_neg z] at he'
      rw [Rn_bnd]
      refine (mStmt m1 t1 (hW.mp x1) g1 h1).mono ?_
      intro _ M2 y
      have y := y.tr x1
      cases hm : pStmt x Z q with
      | inl e =>
        rw [hm] at y he'
        exact ih (k + 1, none) M2 ⟨y.1, e, he', y.2⟩ (by show 0 < x.2 - q + 1; omega)
      | inr v =>
        rw [hm] at y he'
        have gt := pStmt_gt hb hq z hm
        have vle := y.2.2.2.2.2
        exact ih (k + 1, some v) M2 ⟨y.1, y.2.1, y.2.2, (by show k + 1 ≤ v.2; omega), he'.symm⟩ (by show x.2 - v.2 + 1 < x.2 - q + 1; omega)
theorem isTxM.nil {M1 : Mm} (h : Mi M1 38 32 = nI 0) (f : Nat → Nat) : isTxM M1 (f, 0) := ⟨h, Nat.zero_le _, fun i hi => absurd hi (Nat.not_lt_zero _), fun i hi => absurd hi (Nat.not_lt_zero _)⟩
/-- what load leaves -/
def ldM (P : Pg) (U : List Pg) (x : Tx) (a : Int32) (M M' : Mm) : Prop := a = (spLoad P U x).1 ∧ XF xMl M M' ∧ mPU M' ((spLoad P U x).2.1.1, (spLoad P U x).2.1.2) ∧ isTxM M' (x.1, 0) ∧ Mi M' 38 37 = (spLoad P U x).2.2.1 ∧ Mi M' 38 38 = (spLoad P U x).2.2.2
theorem mLdE {M1 : Mm} (hM : MO M1) (h : mPU M (P, U)) {e : Nat × Nat} (x1 : XF xMl M M1) (x39 : ∀ b, Mi M1 39 b = Mi M 39 b) (x4 : Mi M1 38 4 = Mi M 38 4) (e1 : erS M1 e) (hs : spText x = .inl e) : Rn (fX8_load_L99 38) M1 (fun a M' => ldM P U x a M M') := by
  unfold fX8_load_L99 ldM spLoad
  have a1 : Mi (sI M1 38 32 0) 38 37 = Mi M1 38 37 := by rw [Mi_sI, if_neg (by omega)]
  rw [Rn_bnd, Rn_pI, Rn_bnd, Rn_gI, a1, if_neg e1.le, Rn_rtn, hs]
  have x2 : XF xMl M1 (sI M1 38 32 0) := XF.rf.sI rfl
  refine ⟨rfl, x1.tr x2, ?_, isTxM.nil sI_self _, a1.trans e1.1, by rw [Mi_sI, if_neg (by omega)]; exact e1.2.1⟩
  obtain ⟨p1, p2, p3, p4, p5⟩ := h
  have r39 : Mi (sI M1 38 32 0) 39 = Mi M 39 := by funext b; rw [Mi_sI, if_neg (by omega)]; exact x39 b
  have r41 : Mi (sI M1 38 32 0) 41 = Mi M 41 := by rw [x2.row (fun _ => rfl), x1.row (fun _ => rfl)]
  refine ⟨by rw [r39]; exact p1, p2, by rw [Mi_sI, if_neg (by omega), x4]; exact p3, p4, by show rpU (Mi (sI M1 38 32 0) 41) U; rw [r41]; exact p5⟩
theorem mLdR {M1 : Mm} (hM : MO M1) {Z : Pg} (x1 : XF xMl M M1) (g : gd M1) (hF : isFr M1 Z) (hZ : wfP Z) (hs : spText x = .inr Z) : Rn (fX8_load_L99 38) M1 (fun a M' => ldM P U x a M M') := by
  unfold fX8_load_L99 ldM spLoad
  have x2 : XF xMl M1 (sI M1 38 32 0) := XF.rf.sI rfl
  have a1 : Mi (sI M1 38 32 0) 38 37 = nI 0 := by rw [Mi_sI, if_neg (by omega)]; exact g.1
  have a2 : Mi (sI M1 38 32 0) 38 38 = -1 := by rw [Mi_sI, if_neg (by omega)]; exact g.2
  have a3 : Mi (sI M1 38 32 0) 38 32 = nI 0 := sI_self
  have F2 : isFr (sI M1 38 32 0) Z := by
    have : Mi (sI M1 38 32 0) 40 = Mi M1 40 := by funext b; rw [Mi_sI, if_neg (by omega)]
    unfold isFr; rw [this]; exact hF
  rw [Rn_bnd, Rn_pI, Rn_bnd, Rn_gI, a1, if_pos (by decide)]
  have m2 := hM.xf x2
  generalize sI M1 38 32 0 = M2 at x2 a1 a2 a3 F2 m2 ⊢
  rw [Rn_bnd, mA2 m2, Rn_bnd, mA1 m2, Rn_bnd]
  show Rn (fX8_copies 40 (nI 0) 39 (nI 0)) M2 _
  refine (mCopies (M := M2) (one := 40) (other := 39) (by decide) (by rw [mL40 m2]; omega) (by rw [mL39 m2]; omega) (by omega) (by omega)).mono ?_
  rintro - M3 ⟨x3, hk, -⟩
  have X3 : XF xMl M2 M3 := x3.mono (fun a b z => by unfold xMl at z; unfold xRow; simp at z ⊢; omega)
  have m3 := m2.xf x3
  have P3 : isPgM (Mi M3 39) Z := F2.1.cg hZ (fun k hk2 => by have := hk k hk2; rw [Nat.zero_add] at this; exact this)
  rw [Rn_bnd, Rn_pI, Rn_bnd, mA1 m3.sI, show (1 : Int32) = nI 1 from rfl, Rn_bnd, rn_lI (by omega), mL39 m3.sI, Rn_rtn, hs]
  have x4 : XF xMl M3 (sI M3 38 4 0) := XF.rf.sI rfl
  have r39 : Mi (sI M3 38 4 0) 39 = Mi M3 39 := by funext b; rw [Mi_sI, if_neg (by omega)]
  have k38 : ∀ b, b ≠ 4 → Mi (sI M3 38 4 0) 38 b = Mi M2 38 b := fun b z => by rw [Mi_sI, if_neg (by omega), x3.mi rfl]
  refine ⟨by omega, ?_, (x1.tr x2).tr (X3.tr x4), ⟨by rw [r39]; exact P3, hZ, sI_self, Nat.zero_le _, fun i Q hQ => by cases hQ⟩, isTxM.nil ((k38 32 (by omega)).trans a3) _, (k38 37 (by omega)).trans a1, (k38 38 (by omega)).trans a2⟩
  rw [r39]; exact P3.l
theorem mLoadOp (hM : MO M) (h : mPU M (P, U)) (hx : isTxM M x) (hW : isWd M) : Rn (fX8_load 38) M (fun a M' => ldM P U x a M M' ∧ Mi M' 38 0 = nI 0) := by
  have h900 := hx.2.1
  have hb := hx.2.2.2
  have hwf := h.2.1
  unfold fX8_load
  rw [Rn_bnd, Rn_pI, Rn_bnd, Rn_pI, Rn_bnd, Rn_pI, Rn_bnd, Rn_pI]
  have x1 : XF (fun a b => a == 38 && (b == 0 || b == 33 || b == 37 || b == 38)) M (sI (sI (sI (sI M 38 0 0) 38 33 0) 38 37 0) 38 38 (-1)) := (((XF.rf.sI rfl).sI rfl).sI rfl).sI rfl
  have f0 : Mi (sI (sI (sI (sI M 38 0 0) 38 33 0) 38 37 0) 38 38 (-1)) 38 0 = nI 0 := by rw [Mi_sI, if_neg (by omega), Mi_sI, if_neg (by omega), Mi_sI, if_neg (by omega)]; exact sI_self
  have f33 : Mi (sI (sI (sI (sI M 38 0 0) 38 33 0) 38 37 0) 38 38 (-1)) 38 33 = nI 0 := by rw [Mi_sI, if_neg (by omega), Mi_sI, if_neg (by omega)]; exact sI_self
  have g1 : gd (sI (sI (sI (sI M 38 0 0) 38 33 0) 38 37 0) 38 38 (-1)) := ⟨by rw [Mi_sI, if_neg (by omega)]; exact sI_self, sI_self⟩
  generalize sI (sI (sI (sI M 38 0 0) 38 33 0) 38 37 0) 38 38 (-1) = M1 at x1 f0 f33 g1 ⊢
  have X1 : XF xMl M M1 := x1.mono (fun a b z => by unfold xMl xMp at z; simp at z ⊢; omega)
  have m1 := hM.xf x1
  have t1 : isTxM M1 x := hx.xf x1 rfl (fun _ => rfl)
  have w1 : isWd M1 := hW.xf x1 (fun _ => rfl)
  rw [Rn_bnd]
  show Rn (fX8_begins 38 (nI 16)) M1 _
  refine (mBeginsT m1).mono ?_
  rintro - M2 ⟨x2, F2⟩
  have Y2 : XF xMp M1 M2 := x2.mono xFr_Mp
  rw [Rn_bnd]
  refine (mAdv (m1.xf x2) (t1.mp Y2) (p := 0) (Nat.zero_le _) (by rw [x2.mi rfl]; exact f33)).mono ?_
  rintro - M3 ⟨x3, k3⟩
  have Y3 : XF xMp M1 M3 := Y2.tr (x3.mono xMt_Mp)
  have m3 := m1.xf Y3
  have t3 := t1.mp Y3
  have w3 := w1.mp Y3
  have g3 : gd M3 := (g1.xf x2 rfl rfl).xf x3 rfl rfl
  have F3 : isFr M3 (pg0 16) := F2.xf x3 (fun _ => rfl)
  -- the two ends
  have eE : ∀ (e : Nat × Nat) (M4 : Mm), spText x = .inl e → XF xMp M1 M4 → erS M4 e → Rn (fX8_load_L99 38) M4 (fun a M' => ldM P U x a M M' ∧ Mi M' 38 0 = nI 0) := by
    intro e M4 hs y4 e4
    have key := mLdE (x := x) (m1.xf y4) h (X1.tr (y4.mono xMp_Ml)) (fun b => by rw [y4.mi rfl, x1.mi rfl]) (by rw [y4.mi rfl, x1.mi rfl]) e4 hs
    have th : Rn (fX8_load_L99 38) M4 (fun a M' => Mi M' 38 0 = nI 0) := by
      unfold fX8_load_L99
      have a1 : Mi (sI M4 38 32 0) 38 37 = Mi M4 38 37 := by rw [Mi_sI, if_neg (by omega)]
      rw [Rn_bnd, Rn_pI, Rn_bnd, Rn_gI, a1, if_neg e4.le, Rn_rtn, Mi_sI, if_neg (by omega), y4.mi rfl]; exact f0
    obtain ⟨a, Ma, ea, qa⟩ := key
    obtain ⟨b, Mb, eb, qb⟩ := th
    rw [ea] at eb; cases eb
    exact ⟨a, Ma, ea, qa, qb⟩
  have eR : ∀ (Z : Pg) (M4 : Mm), spText x = .inr Z → XF xMp M1 M4 → gd M4 → isFr M4 Z → wfP Z → Rn (fX8_load_L99 38) M4 (fun a M' => ldM P U x a M M' ∧ Mi M' 38 0 = nI 0) := by
    intro Z M4 hs y4 g4 F4 hZ
    have m4 := m1.xf y4
    have key := mLdR (x := x) (P := P) (U := U) m4 (X1.tr (y4.mono xMp_Ml)) g4 F4 hZ hs
    have th : Rn (fX8_load_L99 38) M4 (fun a M' => Mi M' 38 0 = nI 0) := by
      unfold fX8_load_L99
      have x5 : XF (fun a b => a == 38 && b == 32) M4 (sI M4 38 32 0) := XF.rf.sI rfl
      have m5 := m4.xf x5
      have a1 : Mi (sI M4 38 32 0) 38 37 = nI 0 := by rw [Mi_sI, if_neg (by omega)]; exact g4.1
      rw [Rn_bnd, Rn_pI, Rn_bnd, Rn_gI, a1, if_pos (by decide), Rn_bnd, mA2 m5, Rn_bnd, mA1 m5, Rn_bnd]
      show Rn (fX8_copies 40 (nI 0) 39 (nI 0)) _ _
      refine (mCopies (one := 40) (other := 39) (by decide) (by rw [mL40 m5]; omega) (by rw [mL39 m5]; omega) (by omega) (by omega)).mono ?_
      rintro - M6 ⟨x6, -, -⟩
      have m6 := m5.xf x6
      rw [Rn_bnd, Rn_pI, Rn_bnd, mA1 m6.sI, show (1 : Int32) = nI 1 from rfl, Rn_bnd, rn_lI (by omega), mL39 m6.sI, Rn_rtn, Mi_sI, if_neg (by omega), x6.mi rfl, Mi_sI, if_neg (by omega), y4.mi rfl]
      exact ⟨by omega, f0⟩
    obtain ⟨a, Ma, ea, qa⟩ := key
    obtain ⟨b, Mb, eb, qb⟩ := th
    rw [ea] at eb; cases eb
    exact ⟨a, Ma, ea, qa, qb⟩
  have w9 := wd_le x 0
  have wi5 : wdI (wd x 0) = 5 ↔ wd x 0 = 5 := by
    unfold wdI
    by_cases z : wd x 0 = 9
    · rw [if_pos z, z]; decide
    · rw [if_neg z]; exact neq (b := 5) (by omega) (by omega)
  rw [Rn_bnd, mWord m3 t3 k3 w3]
  refine Rn_cs wi5 (fun z => ?_) (fun z => ?_)
  · have es : spText x = pB (pNum x (tkE x 0) 8 40) (fun v => pB (pSemi x v.2) (fun p => stmtN x 1000 (pg0 v.1) p)) := by unfold spText; rw [if_pos z]
    rw [Rn_bnd]
    refine mGo m3 t3 k3 g3 (fun M4 x4 m4 t4 k4 g4 => ?_)
    have Y4 := Y3.tr (x4.mono xMt_Mp)
    -- behind an error
    have bad : ∀ (e : Nat × Nat) (M5 : Mm) (w : Nat) (b : Int32), spText x = .inl e → XF xMp M1 M5 → erS M5 e → Rn (fX8_load_L65 38 (nI w) b 38) M5 (fun a M' => ldM P U x a M M' ∧ Mi M' 38 0 = nI 0) := by
      intro e M5 w b hs y5 e5
      unfold fX8_load_L65
      rw [Rn_bnd, mMustE e5, Rn_bnd, mGoE e5, Rn_bnd]
      refine (mBeginsT (m1.xf y5)).mono ?_
      rintro - M6 ⟨x6, -⟩
      have e6 := e5.xf x6 rfl rfl
      show Rn (fX8_load_L78 (19999 + 1) 38) M6 _
      unfold fX8_load_L78
      rw [Rn_bnd, Rn_gI, if_neg e6.n0]
      exact eE e M6 hs (y5.tr (x6.mono xFr_Mp)) e6
    rw [Rn_bnd]
    show Rn (fX8_reads 38 (nI 8) (nI 40)) M4 _
    refine mReadsN m4 t4 k4 g4 (by omega) (by omega) (fun e hn M5 x5 e5 => ?_) (fun h2 h3 h4 M5 x5 m5 t5 k5 g5 => ?_)
    · have hs : spText x = .inl e := by rw [es, hn]; rfl
      rw [Rn_bnd, Rn_gI]
      refine Rn_cs Iff.rfl (fun _ => ?_) (fun _ => ?_)
      · exact bad e M5 8 _ hs (Y4.tr (x5.mono xEr_Mp)) e5
      · exact bad e M5 8 _ hs (Y4.tr (x5.mono xEr_Mp)) e5
    · have pn : pNum x (tkE x 0) 8 40 = .inr (dcv x (tkE x 0), tkE x (tkE x 0)) := by unfold pNum; rw [if_pos h2, if_pos ⟨h3, h4⟩]
      have Y5 := Y4.tr (x5.mono xMt_Mp)
      generalize hd : dcv x (tkE x 0) = w at h3 h4 pn ⊢
      rw [pn] at es
      have es : spText x = pB (pSemi x (tkE x (tkE x 0))) (fun p => stmtN x 1000 (pg0 w) p) := es
      refine mSemiC k5 (fun y => ?_) (fun y => ?_)
      · have ps : pSemi x (tkE x (tkE x 0)) = .inr (tkE x (tkE x (tkE x 0))) := by unfold pSemi; rw [if_pos y]
        rw [ps] at es
        have es : spText x = stmtN x 1000 (pg0 w) (tkE x (tkE x (tkE x 0))) := es
        unfold fX8_load_L65
        rw [Rn_bnd, mMustT (by decide), Rn_bnd]
        refine mGo m5 t5 k5 g5 (fun M6 x6 m6 t6 k6 g6 => ?_)
        have Y6 := Y5.tr (x6.mono xMt_Mp)
        rw [Rn_bnd]
        refine (mBeginsT m6).mono ?_
        rintro - M7 ⟨x7, F7⟩
        have y7 : XF xMp M6 M7 := x7.mono xFr_Mp
        have Y7 := Y6.tr y7
        refine mStmts (m6.xf x7) (t6.mp y7) (w1.mp Y7) (g6.xf x7 rfl rfl) ⟨F7, wf_pg0 h3 h4, k6.xf x7 (fun _ _ => rfl), tkE_le hb _⟩ (fun e M8 hs x8 e8 => ?_) (fun Z M8 hs x8 g8 F8 w8 => ?_)
        · exact eE e M8 (es.trans hs) (Y7.tr x8) e8
        · exact eR Z M8 (es.trans hs) (Y7.tr x8) g8 F8 w8
      · have ps : pSemi x (tkE x (tkE x 0)) = .inl (1, tkS x (tkE x (tkE x 0))) := by unfold pSemi; rw [if_neg y]
        rw [ps] at es
        unfold fX8_load_L65
        rw [Rn_bnd]
        refine mMustF (c := 1) g5 k5.2.1 (by omega) (by omega) (fun M6 x6 e6 => ?_)
        have key := bad _ M6 w 0 es (Y5.tr (x6.mono xEr_Mp)) e6
        unfold fX8_load_L65 at key
        rw [Rn_bnd, mMustE e6] at key
        exact key
  · have es : spText x = stmtN x 1000 (pg0 16) 0 := by unfold spText; rw [if_neg z]
    refine mStmts m3 t3 w3 g3 ⟨F3, wf_pg0 (by omega) (by omega), k3, Nat.zero_le _⟩ (fun e M8 hs x8 e8 => ?_) (fun Z M8 hs x8 g8 F8 w8 => ?_)
    · exact eE e M8 (es.trans hs) (Y3.tr x8) e8
    · exact eR Z M8 (es.trans hs) (Y3.tr x8) g8 F8 w8
end MLd
