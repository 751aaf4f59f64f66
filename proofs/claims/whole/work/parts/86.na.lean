/-! THE REFERENCE: the page that a text tells; a line as dots -/
def xMp (a b : Nat) : Bool := (a == 38 && (b == 9 || b == 16 || b == 17 || (decide (33 ≤ b) && decide (b ≤ 38)))) || a == 40 || a == 44 || a == 50
theorem xMt_Mp (a b : Nat) (z : xMp a b = false) : xMt a b = false := by unfold xMp at z; unfold xMt; simp at z ⊢; omega
theorem xEr_Mp (a b : Nat) (z : xMp a b = false) : xEr a b = false := by unfold xMp at z; unfold xEr; simp at z ⊢; omega
theorem xD_Mp (a b : Nat) (z : xMp a b = false) : xD a b = false := by unfold xMp at z; unfold xD; simp at z ⊢; omega
theorem xU_Mp (a b : Nat) (z : xMp a b = false) : xU a b = false := by unfold xMp at z; unfold xU; simp at z ⊢; omega
def xFr (a _ : Nat) : Bool := a == 40
theorem xFr_Mp (a b : Nat) (z : xMp a b = false) : xFr a b = false := by unfold xMp at z; unfold xFr; simp at z ⊢; omega
def xLt (a b : Nat) : Bool := (a == 38 && (b == 9 || b == 16 || b == 17)) || a == 44 || a == 50
theorem xLt_Mp (a b : Nat) (z : xMp a b = false) : xLt a b = false := by unfold xMp at z; unfold xLt; simp at z ⊢; omega
theorem xD_Lt (a b : Nat) (z : xLt a b = false) : xD a b = false := by unfold xLt at z; unfold xD; simp at z ⊢; omega
theorem xU_Lt (a b : Nat) (z : xLt a b = false) : xU a b = false := by unfold xLt at z; unfold xU; simp at z ⊢; omega
theorem isTxM.mp {M M1 : Mm} {x : Tx} (hx : isTxM M x) (f : XF xMp M M1) : isTxM M1 x := hx.xf f rfl (fun _ => rfl)
theorem isWd.mp {M M1 : Mm} (h : isWd M) (f : XF xMp M M1) : isWd M1 := h.xf f (fun _ => rfl)
/-- what a step of the reference's parser leaves -/
def mP {α : Type} (r : Pe α) (G : α → Mm → Prop) (M M' : Mm) : Prop := XF xMp M M' ∧ match r with
  | .inl e => erS M' e
  | .inr v => gd M' ∧ G v M'
theorem mP.tr {α : Type} {r : Pe α} {G : α → Mm → Prop} {M M1 M' : Mm} (x : XF xMp M M1) (h : mP r G M1 M') : mP r G M M' := ⟨x.tr h.1, h.2⟩
def isFr (M : Mm) (P : Pg) : Prop := isPgM (Mi M 40) P ∧ ∀ l, PL P ≤ l → l < 20 → ∀ k, k < 40 → Mi M 40 (28 + 40 * l + k) = nI 0
theorem isFr.xf {X : Nat → Nat → Bool} {M M1 : Mm} {P : Pg} (h : isFr M P) (f : XF X M M1) (z : ∀ b, X 40 b = false) : isFr M1 P := by
  unfold isFr; rw [f.row z]; exact h
section MFr
variable {M : Mm} {x : Tx} {p : Nat} {P : Pg} {e : Nat × Nat}
theorem mBeginsT (hM : MO M) {w : Nat} : Rn (fX8_begins 38 (nI w)) M (fun _ M' => XF xFr M M' ∧ isFr M' (pg0 w)) := by
  unfold fX8_begins
  refine rn_loopv (F := fun n i => fX8_begins_L2 n 38 (nI w) (nI i)) (fun i M' => XF xFr M M' ∧ i ≤ 828 ∧ ∀ k, k < i → Mi M' 40 k = nI 0) (fun i => 828 - i) ?_ fu 0 M (by unfold fu; omega) ⟨XF.rf, by omega, fun k hk => by omega⟩
  rintro n i M1 ⟨x1, hi, hk⟩ ih
  have m1 := hM.xf x1
  show Rn (fX8_begins_L2 (n + 1) 38 (nI w) (nI i)) M1 _
  unfold fX8_begins_L2
  refine Rn_cs (nle (a := 828) (by omega) (by omega)) (fun h => ?_) (fun h => ?_)
  · rw [show (0 : Int32) = nI 0 from rfl, show (2 : Int32) = nI 2 from rfl, show (6 : Int32) = nI 6 from rfl, show (7 : Int32) = nI 7 from rfl]
    rw [Rn_bnd, mA2 m1, Rn_bnd, rn_aI (by omega), mL40 m1, Rn_bnd, mA2 m1.sI, Rn_bnd, rn_aI (by omega), mL40 m1.sI, Rn_bnd, mA2 m1.sI.sI, Rn_bnd, rn_aI (by omega), mL40 m1.sI.sI, Rn_bnd, mA2 m1.sI.sI.sI, Rn_bnd, rn_aI (by omega), mL40 m1.sI.sI.sI, Rn_rtn]
    refine ⟨by omega, by omega, by omega, by omega, (((x1.sI rfl).sI rfl).sI rfl).sI rfl, ?_, fun l _ hl k hk2 => ?_⟩
    · have rd : ∀ j, j < 828 → Mi (sI (sI (sI (sI M1 40 0 (nI w)) 40 2 4) 40 6 8) 40 7 16) 40 j = if j = 7 then 16 else if j = 6 then 8 else if j = 2 then 4 else if j = 0 then nI w else nI 0 := by
        intro j hj
        simp only [Mi_sI, true_and]
        rw [hk j (by omega)]
      refine ⟨rd 0 (by omega), rd 1 (by omega), fun k hk2 => ?_, fun l hl => ?_, fun l hl => absurd hl (Nat.not_lt_zero _)⟩
      · rw [rd _ (by omega)]
        rcases (show k = 0 ∨ k = 1 ∨ k = 2 ∨ k = 3 ∨ k = 4 ∨ k = 5 by omega) with rfl | rfl | rfl | rfl | rfl | rfl <;> rfl
      · rw [rd _ (by omega), if_neg (by omega), if_neg (by omega), if_neg (by omega), if_neg (by omega)]; rfl
    · simp only [Mi_sI, true_and]
      rw [if_neg (by omega), if_neg (by omega), if_neg (by omega), if_neg (by omega)]
      exact hk _ (by omega)
  · rw [Rn_bnd, mA2 m1, Rn_bnd, rn_aI (by omega), mL40 m1, nL1, nI_add]
    refine ⟨by omega, ih (i + 1) _ ⟨x1.sI rfl, by omega, fill_s hk rfl⟩ (by omega)⟩
theorem mLaysTold (hM : MO M) (hF : isFr M P) (hw : wfP P) : Rn (fX8_laysTold 38) M (fun _ M' => XF xLt M M' ∧ Mi M' 38 9 = nI (Pw P) ∧ isRow (Mi M' 44) (uLast P) ∧ rdSt M' (Pw P) (0, false, 0)) := by
  have h40 := hw.2.1
  have hL := hw.2.2.1
  unfold fX8_laysTold
  rw [Rn_bnd, mA2 hM, show (0 : Int32) = nI 0 from rfl, show (1 : Int32) = nI 1 from rfl, Rn_bnd, rn_lI (by omega), mL40 hM, hF.1.w, Rn_bnd, Rn_pI]
  refine ⟨by omega, ?_⟩
  have x1 : XF xLt M (sI M 38 9 (nI (Pw P))) := XF.rf.sI rfl
  have f1 : Mi (sI M 38 9 (nI (Pw P))) 38 9 = nI (Pw P) := sI_self
  generalize sI M 38 9 (nI (Pw P)) = M1 at x1 f1 ⊢
  have m1 := hM.xf x1
  have F1 : isFr M1 P := hF.xf x1 (fun _ => rfl)
  rw [Rn_bnd, mA2 m1, Rn_bnd, mA2 m1, Rn_bnd, rn_lI (by omega), mL40 m1, F1.1.l]
  refine ⟨by omega, ?_⟩
  have fin : ∀ M2, XF xU M1 M2 → Mi M2 38 = Mi M1 38 → isRow (Mi M2 44) (uLast P) → Rn (bnd (fX8_startsReading 38) fun _ => rtn ()) M2 (fun _ M' => XF xLt M M' ∧ Mi M' 38 9 = nI (Pw P) ∧ isRow (Mi M' 44) (uLast P) ∧ rdSt M' (Pw P) (0, false, 0)) := by
    intro M2 x2 h38 hr
    rw [Rn_bnd]
    refine (mStart (w := Pw P) (hM.xf (x1.tr (x2.mono xU_Lt)))).mono ?_
    rintro - M3 ⟨x3, r3⟩
    rw [Rn_rtn]
    refine ⟨(x1.tr (x2.mono xU_Lt)).tr (x3.mono xD_Lt), ?_, ?_, r3⟩
    · rw [x3.mi rfl, h38]; exact f1
    · rw [x3.row (fun _ => rfl)]; exact hr
  refine Rn_cs (neq (by omega) (by omega)) (fun g => ?_) (fun g => ?_)
  · unfold fX8_laysTold_L40
    rw [Rn_bnd]
    refine (mUpper0 m1 40).mono ?_
    rintro - M2 ⟨x2, h38, hr⟩
    exact fin M2 x2 h38 (by unfold uLast; rw [if_pos g]; exact hr)
  · rw [Rn_bnd, mA2 m1, Rn_bnd, rn_lI (by omega), mL40 m1, F1.1.l]
    refine ⟨by omega, ?_⟩
    rw [nsb (by omega), Rn_bnd, mDotAt]
    unfold fX8_laysTold_L40
    rw [Rn_bnd]
    refine (mUpperF (r := Pr P (PL P - 1)) m1 (by omega) (by omega) (by rw [mL40 m1]; omega) (by omega) (fun k hk => ?_)).mono ?_
    · rw [show 28 + 40 * (PL P - 1) + 0 + k = 28 + 40 * (PL P - 1) + k by omega]
      exact F1.1.d (by omega) hk
    · rintro - M2 ⟨x2, h38, hr⟩
      exact fin M2 x2 h38 (by unfold uLast; rw [if_neg g]; exact hr)
theorem mAddsE (hM : MO M) (h : erS M e) : Rn (fX8_addsTold 38) M (fun _ M' => XF xFr M M') := by
  have l44 : Rn (fX8_addsTold_L44 38) M (fun _ M' => XF xFr M M') := by
    unfold fX8_addsTold_L44 fX8_addsTold_L63
    rw [Rn_bnd, mA2 hM, show (1 : Int32) = nI 1 from rfl, Rn_bnd, rn_lI (by omega), mL40 hM, Rn_bnd, Rn_gI, if_neg h.n0, Rn_bnd, rn_aI (by omega), mL40 hM, Rn_rtn]
    exact ⟨by omega, by omega, XF.rf.sI rfl⟩
  unfold fX8_addsTold
  show Rn (fX8_addsTold_L2 (19999 + 1) 38 0) M _
  unfold fX8_addsTold_L2
  rw [Rn_bnd, Rn_gI]
  refine Rn_cs Iff.rfl (fun _ => l44) (fun _ => ?_)
  rw [Rn_bnd, Rn_gI, if_neg h.n0]; exact l44
theorem mAddsT (hM : MO M) (g : gd M) (hF : isFr M P) (hw : wfP P) (hl : PL P < 20) (h9 : Mi M 38 9 = nI (Pw P)) {r : Nat} (hr : isRow (Mi M 50) r) (hlt : r < 2 ^ Pw P) : Rn (fX8_addsTold 38) M (fun _ M' => XF xFr M M' ∧ isFr M' (pAdd P r)) := by
  have h40 := hw.2.1
  unfold fX8_addsTold
  refine rn_loopv (F := fun n i => fX8_addsTold_L2 n 38 (nI i)) (fun i M' => XF xFr M M' ∧ i ≤ Pw P ∧ (∀ k, k < i → Mi M' 40 (28 + 40 * PL P + k) = nI (bN (r.testBit k))) ∧ ∀ j, (∀ k, k < i → j ≠ 28 + 40 * PL P + k) → Mi M' 40 j = Mi M 40 j) (fun i => Pw P - i) ?_ fu 0 M (by unfold fu; omega) ⟨XF.rf, by omega, fun k hk => by omega, fun _ _ => rfl⟩
  rintro n i M1 ⟨x1, hi, hk, hj⟩ ih
  have m1 := hM.xf x1
  have g1 : gd M1 := g.xf x1 rfl rfl
  have f9 : Mi M1 38 9 = nI (Pw P) := by rw [x1.mi rfl]; exact h9
  have f1 : Mi M1 40 1 = nI (PL P) := by rw [hj 1 (fun k _ => by omega)]; exact hF.1.l
  show Rn (fX8_addsTold_L2 (n + 1) 38 (nI i)) M1 _
  unfold fX8_addsTold_L2
  rw [Rn_bnd, Rn_gI, f9]
  refine Rn_cs (nle (by omega) (by omega)) (fun h => ?_) (fun h => ?_)
  · unfold fX8_addsTold_L44 fX8_addsTold_L63
    rw [Rn_bnd, mA2 m1, show (1 : Int32) = nI 1 from rfl, Rn_bnd, rn_lI (by omega), mL40 m1, f1, Rn_bnd, Rn_gI, g1.1, if_pos (by decide), nI_add, Rn_bnd, rn_aI (by omega), mL40 m1, Rn_rtn]
    refine ⟨by omega, by omega, x1.sI rfl, ?_, fun l hl1 hl2 k hk2 => ?_⟩
    · have e : ∀ j, j ≠ 1 → Mi (sI M1 40 1 (nI (PL P + 1))) 40 j = Mi M1 40 j := fun j z => by rw [Mi_sI, if_neg (fun y => z y.2)]
      refine pAdd_ok hF.1 hw sI_self (fun j z z2 => ?_) (fun k hk2 => ?_)
      · rw [e j z]; exact hj j (fun k hk3 => by omega)
      · rw [e _ (by omega)]
        by_cases q : k < i
        · exact hk k q
        · rw [hj _ (fun k' hk' => by omega), hF.2 (PL P) (Nat.le_refl _) hl k hk2, Nat.testBit_lt_two_pow (Nat.lt_of_lt_of_le hlt (pw_le (by omega)))]; rfl
    · have hl1 : PL P + 1 ≤ l := hl1
      rw [Mi_sI, if_neg (by omega), hj _ (fun k' hk' => by omega)]
      exact hF.2 l (by omega) hl2 k hk2
  · have r1 : Mi M1 50 i = nI (bN (r.testBit i)) := by rw [x1.mi rfl]; exact hr i (by omega)
    rw [Rn_bnd, Rn_gI, g1.1, if_pos (by decide), Rn_bnd, mA2 m1, Rn_bnd, mA2 m1, show (1 : Int32) = nI 1 from rfl, Rn_bnd, rn_lI (by omega), mL40 m1, f1, Rn_bnd, mDotAt, Rn_bnd, mA15 m1, Rn_bnd, rn_lI (by omega), mL50 m1, r1, Rn_bnd, rn_aI (by omega), mL40 m1, nI_add]
    refine ⟨by omega, by omega, by omega, ih (i + 1) _ ⟨x1.sI rfl, by omega, fun k hk2 => ?_, fun j hj2 => ?_⟩ (by omega)⟩
    · rw [Mi_sI]
      by_cases q : k = i
      · rw [if_pos ⟨rfl, by omega⟩, q]
      · rw [if_neg (by omega)]; exact hk k (by omega)
    · rw [Mi_sI, if_neg (fun z => hj2 i (by omega) z.2)]
      exact hj j (fun k hk2 => hj2 k (by omega))
/-- a line is read: the token behind it, its dots -/
def pRow0 (x : Tx) (w p : Nat) : Pe (Nat × Nat) := if tkK x p = 3 then (if tkE x p - tkS x p = w then .inr (tkE x p, dotsN x (tkS x p) w) else .inl (3, tkS x p)) else .inl (1, tkS x p)
def lnG (x : Tx) (P : Pg) (v : Nat × Nat) (M' : Mm) : Prop := mTk M' x v.1 ∧ v.1 ≤ x.2 ∧ isRow (Mi M' 50) v.2 ∧ v.2 < 2 ^ Pw P ∧ Mi M' 38 9 = nI (Pw P) ∧ isFr M' P
theorem pRowT_eq (x : Tx) (P : Pg) (p : Nat) : pRowT x P p = pB (pRow0 x (Pw P) p) (fun v => pB (pSemi x v.1) (fun p' => .inr (pAdd P v.2, p'))) := by
  unfold pRowT pRow0
  by_cases h : tkK x p = 3
  · rw [if_pos h, if_pos h]
    by_cases h2 : tkE x p - tkS x p = Pw P
    · rw [if_pos h2, if_pos h2]; rfl
    · rw [if_neg h2, if_neg h2]; rfl
  · rw [if_neg h, if_neg h]; rfl
theorem srM_3 (k : Nat) : srM k = 3 ↔ k = 3 := by unfold srM; repeat' split
                                                  all_goals omega
theorem srM_4 (k : Nat) : srM k = 4 ↔ k = 5 := by unfold srM; repeat' split
                                                  all_goals omega
theorem mRowE (h : erS M e) : Rn (fX8_readsRow 38) M (fun _ M' => M' = M) := by
  have l46 : Rn (fX8_readsRow_L46 fu 38 0) M (fun _ M' => M' = M) := by
    have l94 : Rn (fX8_readsRow_L94 38) M (fun _ M' => M' = M) := by
      unfold fX8_readsRow_L94
      rw [Rn_bnd, mGoE h, Rn_rtn]
    show Rn (fX8_readsRow_L46 (19999 + 1) 38 0) M _
    unfold fX8_readsRow_L46
    rw [Rn_bnd, Rn_gI]
    refine Rn_cs Iff.rfl (fun _ => l94) (fun _ => ?_)
    rw [Rn_bnd, Rn_gI, if_neg h.n0]; exact l94
  have l14 : ∀ b, Rn (fX8_readsRow_L14 38 b 38) M (fun _ M' => M' = M) := by
    intro b
    unfold fX8_readsRow_L14 fX8_readsRow_L40
    rw [Rn_bnd, mMustE h, Rn_bnd, Rn_gI, Rn_bnd, Rn_gI, Rn_bnd, Rn_gI]
    refine Rn_cs Iff.rfl (fun _ => ?_) (fun _ => ?_)
    · rw [Rn_bnd, mMustE h]; exact l46
    · rw [Rn_bnd, mMustE h]; exact l46
  unfold fX8_readsRow
  rw [Rn_bnd, Rn_gI]
  exact Rn_cs Iff.rfl (fun _ => l14 1) (fun _ => l14 0)
theorem mRowT (hM : MO M) (hx : isTxM M x) (hk : mTk M x p) (g : gd M) (hF : isFr M P) (hw : wfP P) (h9 : Mi M 38 9 = nI (Pw P)) (hr : isRow (Mi M 50) 0) : Rn (fX8_readsRow 38) M (fun _ M' => mP (pRow0 x (Pw P) p) (lnG x P) M M') := by
  have h40 := hw.2.1
  have h900 := hx.2.1
  have hb := hx.2.2.2
  have el := tkE_le hb p
  have k6 : tkK x p ≤ 6 := srt_le _
  have s6 := srM_le k6
  -- an error that is told first
  have err : ∀ c, 1 ≤ c → c ≤ 5 → ∀ M1, XF xEr M M1 → erS M1 (c, tkS x p) → Rn (fX8_readsRow_L46 fu 38 0) M1 (fun _ M' => XF xMp M M' ∧ erS M' (c, tkS x p)) := by
    intro c _ _ M1 x1 e1
    have l94 : Rn (fX8_readsRow_L94 38) M1 (fun _ M' => XF xMp M M' ∧ erS M' (c, tkS x p)) := by
      unfold fX8_readsRow_L94
      rw [Rn_bnd, mGoE e1, Rn_rtn]; exact ⟨x1.mono xEr_Mp, e1⟩
    show Rn (fX8_readsRow_L46 (19999 + 1) 38 0) M1 _
    unfold fX8_readsRow_L46
    rw [Rn_bnd, Rn_gI]
    refine Rn_cs Iff.rfl (fun _ => l94) (fun _ => ?_)
    rw [Rn_bnd, Rn_gI, if_neg e1.n0]; exact l94
  unfold fX8_readsRow pRow0
  rw [Rn_bnd, Rn_gI, hk.2.2.1]
  refine Rn_cs ((show nI (srM (tkK x p)) = 3 ↔ srM (tkK x p) = 3 from neq (b := 3) (by omega) (by omega)).trans (srM_3 _)) (fun h => ?_) (fun h => ?_)
  · have eg := tkE_gt hb (p := p) (by omega)
    unfold fX8_readsRow_L14
    rw [if_pos h, Rn_bnd, mMustT (by decide), Rn_bnd, Rn_gI, hk.1, Rn_bnd, Rn_gI, hk.2.1, Rn_bnd, Rn_gI, h9, nsb (by omega)]
    refine Rn_cs (neq (by omega) (by omega)) (fun q => ?_) (fun q => ?_)
    · unfold fX8_readsRow_L40
      rw [if_pos q, Rn_bnd, mMustT (by decide)]
      refine rn_loopv (F := fun n i => fX8_readsRow_L46 n 38 (nI i)) (fun i M' => XF xD M M' ∧ i ≤ Pw P ∧ isRow (Mi M' 50) (dotsN x (tkS x p) i)) (fun i => Pw P - i) ?_ fu 0 M (by unfold fu; omega) ⟨XF.rf, Nat.zero_le _, hr⟩
      rintro n i M1 ⟨x1, hi, r1⟩ ih
      have m1 := hM.xf x1
      have X1 := x1.mono xD_Mp
      have g1 : gd M1 := g.xf x1 rfl rfl
      have f9 : Mi M1 38 9 = nI (Pw P) := by rw [x1.mi rfl]; exact h9
      have k1 : mTk M1 x p := hk.xf x1 (fun b hb => by unfold xMt at hb; unfold xD; simp at hb ⊢; omega)
      have t1 := hx.mp X1
      show Rn (fX8_readsRow_L46 (n + 1) 38 (nI i)) M1 _
      unfold fX8_readsRow_L46
      rw [Rn_bnd, Rn_gI, f9]
      refine Rn_cs (nle (by omega) (by omega)) (fun z => ?_) (fun z => ?_)
      · unfold fX8_readsRow_L94
        rw [Rn_bnd]
        refine mGo m1 t1 k1 g1 (fun M2 x2 m2 t2 k2 g2 => ?_)
        rw [Rn_rtn]
        refine ⟨X1.tr (x2.mono xMt_Mp), g2, k2, el, ?_, dotsN_lt _ _ _, ?_, ?_⟩
        · show isRow (Mi M2 50) (dotsN x (tkS x p) (Pw P))
          rw [x2.row (fun _ => rfl), show Pw P = i by omega]; exact r1
        · rw [x2.mi rfl]; exact f9
        · exact (hF.xf x1 (fun _ => rfl)).xf x2 (fun _ => rfl)
      · have hlt : tkS x p + i < x.2 := by omega
        have bd := hb _ hlt
        rw [Rn_bnd, Rn_gI, g1.1, if_pos (by decide), Rn_bnd, mA15 m1, Rn_bnd, mA31 m1, Rn_bnd, Rn_gI, k1.2.1, nI_add, Rn_bnd, rn_lI (by omega), mL58 m1, t1.2.2.1 _ hlt]
        refine ⟨by omega, ?_⟩
        have dl := dotsN_lt x (tkS x p) i
        have ed : dotsN x (tkS x p) (i + 1) = if x.1 (tkS x p + i) = 35 then dotsN x (tkS x p) i ||| 2 ^ i else dotsN x (tkS x p) i := rfl
        have bit : ∀ k, (dotsN x (tkS x p) (i + 1)).testBit k = if k = i then decide (x.1 (tkS x p + i) = 35) else (dotsN x (tkS x p) i).testBit k := by
          intro k
          rw [ed]
          by_cases y : x.1 (tkS x p + i) = 35
          · rw [if_pos y, Nat.testBit_or, Nat.testBit_two_pow]
            by_cases u : k = i
            · rw [if_pos u, u, Nat.testBit_lt_two_pow dl]; simp [y]
            · rw [if_neg u]
              have : decide (i = k) = false := by simp; omega
              rw [this, Bool.or_false]
          · rw [if_neg y]
            by_cases u : k = i
            · rw [if_pos u, u, Nat.testBit_lt_two_pow dl]; simp [y]
            · rw [if_neg u]
        have nx : ∀ b : Bool, b = decide (x.1 (tkS x p + i) = 35) → Rn (fX8_readsRow_L87 (fX8_readsRow_L46 n) 38 (nI i) (nI (bN b)) (nI i) 50) M1 (fun _ M' => mP (.inr (tkE x p, dotsN x (tkS x p) (Pw P))) (lnG x P) M M') := by
          intro b hbb
          unfold fX8_readsRow_L87
          rw [Rn_bnd, rn_aI (by omega), mL50 m1, nL1, nI_add]
          refine ⟨by omega, ih (i + 1) _ ⟨x1.sI rfl, by omega, fun k hk2 => ?_⟩ (by omega)⟩
          rw [Mi_sI, bit k]
          by_cases u : k = i
          · rw [if_pos ⟨rfl, u⟩, if_pos u, hbb]
          · rw [if_neg (fun y => u y.2), if_neg u]; exact r1 k hk2
        refine Rn_cs (sb_eq (c := 35) bd (by omega)) (fun y => ?_) (fun y => ?_)
        · exact nx true (by simp [y])
        · exact nx false (by simp [y])
    · unfold fX8_readsRow_L40
      rw [if_neg q, Rn_bnd]
      refine mMustF (c := 3) g hk.2.1 (by omega) (by omega) (fun M1 x1 e1 => ?_)
      exact err 3 (by omega) (by omega) M1 x1 e1
  · unfold fX8_readsRow_L14
    rw [if_neg h, Rn_bnd]
    refine mMustF (c := 1) g hk.2.1 (by omega) (by omega) (fun M1 x1 e1 => ?_)
    unfold fX8_readsRow_L40
    rw [Rn_bnd, Rn_gI, Rn_bnd, Rn_gI, Rn_bnd, Rn_gI]
    refine Rn_cs Iff.rfl (fun _ => ?_) (fun _ => ?_)
    · rw [Rn_bnd, mMustE e1]; exact err 1 (by omega) (by omega) M1 x1 e1
    · rw [Rn_bnd, mMustE e1]; exact err 1 (by omega) (by omega) M1 x1 e1
end MFr
