/-! THE CLASS: the parser -/
def xPr (a b : Nat) : Bool := (a == 8 && decide (b ≤ 1)) || xTk a b || (decide (11 ≤ a) && decide (a ≤ 15))
theorem xTk_Pr (a b : Nat) (z : xPr a b = false) : xTk a b = false := by unfold xPr at z; cases e : xTk a b <;> simp [e] at z ⊢
theorem xPg_Pr (a b : Nat) (z : xPr a b = false) : xPgH 11 a b = false := by
  unfold xPr at z; unfold xPgH
  simp at z ⊢; omega
theorem xH_Pr (a b : Nat) (z : xPr a b = false) : xH 15 a b = false := by
  unfold xPr at z; unfold xH
  simp at z ⊢; omega
theorem isTx.pr {M M1 : Mm} {x : Tx} (h : isTx M x) (f : XF xPr M M1) : isTx M1 x := h.xf f rfl (fun _ => rfl)
/-- an error is told -/
def erM (a : Int32) (M M' : Mm) (e : Nat × Nat) : Prop := a = nI 0 ∧ Mi M' 8 0 = nI e.1 ∧ Mi M' 8 1 = nI e.2 ∧ XF xPr M M'
theorem erM.tr {a : Int32} {M M1 M' : Mm} {e : Nat × Nat} (x : XF xPr M M1) (h : erM a M1 M' e) : erM a M M' e := ⟨h.1, h.2.1, h.2.2.1, x.tr h.2.2.2⟩
/-- what a step of the parser answers: an error, or 1 and what holds then -/
def prM {α : Type} (r : Pe α) (G : α → Mm → Prop) (a : Int32) (M M' : Mm) : Prop := match r with
  | .inl e => erM a M M' e
  | .inr v => a = nI 1 ∧ XF xPr M M' ∧ Mi M' 8 0 = Mi M 8 0 ∧ Mi M' 8 1 = Mi M 8 1 ∧ G v M'
/-- at a token, with a page -/
def atG (x : Tx) (v : Pg × Nat) (M' : Mm) : Prop := isPgC M' 11 v.1 ∧ wfP v.1 ∧ isTk M' x v.2 ∧ v.2 ≤ x.2
theorem prM.tr {α : Type} {r : Pe α} {G : α → Mm → Prop} {a : Int32} {M M1 M' : Mm} (x : XF xPr M M1) (e0 : Mi M1 8 0 = Mi M 8 0) (e1 : Mi M1 8 1 = Mi M 8 1) (h : prM r G a M1 M') : prM r G a M M' := by
  unfold prM at h ⊢
  cases r with
  | inl e => exact erM.tr x h
  | inr v =>
    obtain ⟨h1, h2, h3, h4, h5⟩ := h
    exact ⟨h1, x.tr h2, h3.trans e0, h4.trans e1, h5⟩
section CPar
variable {M : Mm} {x : Tx} {p : Nat} {P : Pg}
theorem cFailHere (hM : CO M) (hk : isTk M x p) {c : Nat} : Rn (fX3_failHere 8 (nI c)) M (fun a M' => erM a M M' (c, tkS x p)) := by
  unfold fX3_failHere
  have e : Mi (sI M 8 0 (nI c)) 9 2 = nI (tkS x p) := by rw [Mi_sI, if_neg (by omega)]; exact hk.2.1
  rw [Rn_bnd, Rn_pI, Rn_bnd, cA8_2 (hM.xf (XF.rf.sI (X := xPr) (a := 8) (b := 0) rfl)), Rn_bnd, Rn_gI, e, Rn_bnd, Rn_pI, Rn_grd, Rn_rtn]
  exact ⟨by decide, rfl, by rw [Mi_sI, if_neg (by omega), sI_self], sI_self, (XF.rf.sI rfl).sI rfl⟩
theorem cFailG (hM : CO M) (hk : isTk M x p) {c : Nat} : Rn (bnd (fX3_failHere 8 (nI c)) fun v => grd ((v : Int32) == 0 || (v : Int32) == 1) (rtn v)) M (fun a M' => erM a M M' (c, tkS x p)) := by
  rw [Rn_bnd]
  refine (cFailHere hM hk).mono ?_
  rintro a M1 ⟨rfl, h⟩
  rw [Rn_grd, Rn_rtn]
  exact ⟨by decide, rfl, h⟩
theorem cNeedNumber (hM : CO M) (hx : isTx M x) (hk : isTk M x p) {lo hi : Nat} (hlo : lo < 1000) (hhi : hi < 1000) : Rn (fX3_needNumber 8 (nI lo) (nI hi)) M (fun a M' => prM (pNum x p lo hi) (fun v M' => v = (dcv x p, tkE x p) ∧ M' = M ∧ tkK x p = 2 ∧ lo ≤ dcv x p ∧ dcv x p ≤ hi) a M M') := by
  have kl : tkK x p ≤ 6 := srt_le _
  unfold fX3_needNumber pNum
  rw [Rn_bnd, cA8_2 hM, Rn_bnd, Rn_gI, hk.1]
  refine Rn_cs (show nI (tkK x p) = 2 ↔ tkK x p = 2 from neq (b := 2) (by omega) (by omega)) (fun g => ?_) (fun g => ?_)
  · rw [if_pos g]
    have out : ¬ (lo ≤ dcv x p ∧ dcv x p ≤ hi) → Rn (fX3_needNumber_L35 8) M (fun a M' => prM (if lo ≤ dcv x p ∧ dcv x p ≤ hi then .inr (dcv x p, tkE x p) else .inl (2, tkS x p)) (fun v M' => v = (dcv x p, tkE x p) ∧ M' = M ∧ tkK x p = 2 ∧ lo ≤ dcv x p ∧ dcv x p ≤ hi) a M M') := by
      intro h
      rw [if_neg h]
      unfold fX3_needNumber_L35
      rw [Rn_bnd]
      refine (cFailHere (c := 2) hM hk).mono ?_
      rintro a M1 ⟨rfl, h⟩
      rw [if_pos (by decide), Rn_grd, Rn_rtn]
      exact ⟨by decide, rfl, h⟩
    have cl : cap (dcv x p) ≤ 1000 := by unfold cap; split <;> omega
    have c1 : cap (dcv x p) < lo ↔ dcv x p < lo := by unfold cap; split <;> omega
    have c2 : cap (dcv x p) ≤ hi ↔ dcv x p ≤ hi := by unfold cap; split <;> omega
    rw [Rn_bnd, cA8_2 hM, Rn_bnd, cNumber hM hx hk g]
    refine Rn_cs ((nlt (by omega) (by omega)).trans c1) (fun q => out (by omega)) (fun q => ?_)
    refine Rn_cs ((nle (by omega) (by omega)).trans c2) (fun q1 => ?_) (fun q1 => out (by omega))
    unfold fX3_needNumber_L43
    rw [if_pos ⟨by omega, q1⟩, Rn_grd, Rn_rtn]
    exact ⟨by decide, rfl, XF.rf, rfl, rfl, rfl, rfl, g, by omega, q1⟩
  · rw [if_neg g]; exact cFailG (c := 1) hM hk
theorem cNum (hM : CO M) (hx : isTx M x) (hk : isTk M x p) (h2 : tkK x p = 2) (hd : dcv x p < 1000) {Q : Int32 → Mm → Prop} : Rn (fX6_number 9) M Q ↔ Q (nI (dcv x p)) M := by
  rw [cNumber hM hx hk h2, show cap (dcv x p) = dcv x p from by unfold cap; rw [if_pos hd]]
/-- the next token -/
theorem cNx (hM : CO M) (hx : isTx M x) (hk : isTk M x p) {α : Type} {F : Mm → Option (α × Mm)} {Q : α → Mm → Prop} (k : ∀ M1, XF xTk M M1 → CO M1 → isTx M1 x → isTk M1 x (tkE x p) → Rn F M1 Q) : Rn (bnd (gA 8 2) fun v => bnd (fX6_next v) fun _ => F) M Q := by
  rw [Rn_bnd, cA8_2 hM, Rn_bnd]
  refine (cNext hM hx (tkE_le hx.2.2.2 p) hk.2.2).mono ?_
  rintro - M1 ⟨x1, k1⟩
  exact k M1 x1 (hM.xf x1) (hx.pr (x1.mono xTk_Pr)) k1
theorem cSemi (hM : CO M) (hx : isTx M x) (hk : isTk M x p) : Rn (fX3_readSemicolon 8) M (fun a M' => prM (pSemi x p) (fun p' M' => p' = tkE x p ∧ XF xTk M M' ∧ isTk M' x p') a M M') := by
  have kl : tkK x p ≤ 6 := srt_le _
  unfold fX3_readSemicolon pSemi
  rw [Rn_bnd, cA8_2 hM, Rn_bnd, Rn_gI, hk.1]
  refine Rn_cs (show nI (tkK x p) = 5 ↔ tkK x p = 5 from neq (b := 5) (by omega) (by omega)) (fun g => ?_) (fun g => ?_)
  · rw [if_pos g]
    refine cNx hM hx hk (fun M1 x1 m1 t1 k1 => ?_)
    rw [Rn_grd, Rn_rtn]
    exact ⟨by decide, rfl, x1.mono xTk_Pr, x1.mi rfl, x1.mi rfl, rfl, x1, k1⟩
  · rw [if_neg g]; exact cFailG (c := 1) hM hk
/-- the last semicolon, the page being as it should be -/
theorem cSemiG (hM : CO M) (hx : isTx M x) (hk : isTk M x p) (hP : isPgC M 11 P) (hw : wfP P) : Rn (bnd (fX3_readSemicolon 8) fun v => grd ((v : Int32) == 0 || (v : Int32) == 1) (rtn v)) M (fun a M' => prM (pB (pSemi x p) (fun p' => .inr (P, p'))) (atG x) a M M') := by
  rw [Rn_bnd]
  refine (cSemi hM hx hk).mono ?_
  intro a M1 h
  unfold prM at h
  cases hs : pSemi x p with
  | inl e =>
    rw [hs] at h
    obtain ⟨rfl, h⟩ := h
    rw [Rn_grd, Rn_rtn]
    exact ⟨by decide, rfl, h⟩
  | inr p' =>
    rw [hs] at h
    obtain ⟨rfl, h1, h2, h3, rfl, h4, h5⟩ := h
    rw [Rn_grd, Rn_rtn]
    exact ⟨by decide, rfl, h1, h2, h3, hP.xf h4 (fun a b z => by unfold xPgH at z; unfold xTk; simp at z ⊢; omega), hw, h5, tkE_le hx.2.2.2 p⟩
theorem isPgC.tk {M1 : Mm} (hP : isPgC M 11 P) (f : XF xTk M M1) : isPgC M1 11 P := hP.xf f (fun a b z => by unfold xPgH at z; unfold xTk; simp at z ⊢; omega)
theorem insAdd {M1 : Mm} {m : Nat} (h : isPgC M1 11 (pIns P (PL P) m)) : isPgC M1 11 (pAdd P m) := by
  refine h.cgr rfl rfl (fun l hl => ?_) rfl rfl
  have hl : l < PL P + 1 := hl
  show updN (Pr P) (PL P) m l = if l < PL P then Pr P l else if l = PL P then m else Pr P (l - 1)
  by_cases q : l = PL P
  · rw [q, updN_s, if_neg (by omega), if_pos rfl]
  · rw [updN_n q, if_pos (by omega)]
theorem cEndCode (hM : CO M) (hx : isTx M x) (hk : isTk M x p) (hP : isPgC M 11 P) (hw : wfP P) (hl : PL P < 20) {full : Bool} {m : Nat} (hm : m < 2 ^ Pw P) : Rn (fX3_endCode 8 (nI (bN full)) (lN m)) M (fun a M' => prM (pEnd x p full P m) (atG x) a M M') := by
  have kl : tkK x p ≤ 6 := srt_le _
  unfold fX3_endCode pEnd
  rw [Rn_bnd, cA8_2 hM, Rn_bnd, Rn_gI, hk.1]
  refine Rn_cs (show nI (tkK x p) = 5 ↔ tkK x p = 5 from neq (b := 5) (by omega) (by omega)) (fun g => ?_) (fun g => ?_)
  · rw [if_pos g]
    refine Rn_cs (bN_0 full) (fun q => ?_) (fun q => ?_)
    · rw [if_neg (by rw [q]; decide)]; exact cFailG (c := 3) hM hk
    · have q : full = true := by simpa using q
      rw [if_pos q, Rn_bnd, cA8_3 hM, Rn_bnd, cA8_3 hM, Rn_bnd, Rn_gI, hP.2.1, Rn_bnd]
      refine (cInsert hM.p11 hP hw (Nat.le_refl _) hl hm).mono ?_
      rintro - M1 ⟨x1, p1⟩
      have X1 : XF xPr M M1 := x1.mono xPg_Pr
      have k1 : isTk M1 x p := hk.xf x1 (fun b _ => xPgH_0 (by omega))
      refine cNx (hM.xf x1) (hx.pr X1) k1 (fun M2 x2 m2 t2 k2 => ?_)
      rw [Rn_grd, Rn_rtn]
      exact ⟨by decide, rfl, X1.tr (x2.mono xTk_Pr), (x2.mi rfl).trans (x1.mi (xPgH_0 (by omega))), (x2.mi rfl).trans (x1.mi (xPgH_0 (by omega))), isPgC.tk (insAdd p1) x2, wf_add hw hm hl, k2, tkE_le hx.2.2.2 p⟩
  · rw [if_neg g]; exact cFailG (c := 1) hM hk
theorem cReadRow (hM : CO M) (hx : isTx M x) (hk : isTk M x p) (hP : isPgC M 11 P) (hw : wfP P) (hl : PL P < 20) : Rn (fX3_readRow 8) M (fun a M' => prM (pRowT x P p) (atG x) a M M') := by
  have kl : tkK x p ≤ 6 := srt_le _
  have h40 := hw.2.1
  have h9 := hx.2.1
  have el := tkE_le hx.2.2.2 p
  unfold fX3_readRow pRowT fX6_signs
  rw [Rn_bnd, cA8_2 hM, Rn_bnd, Rn_gI, hk.1]
  refine Rn_cs (show nI (tkK x p) = 3 ↔ tkK x p = 3 from neq (b := 3) (by omega) (by omega)) (fun g => ?_) (fun g => ?_)
  · have eg := tkE_gt hx.2.2.2 (p := p) (by omega)
    rw [if_pos g, Rn_bnd, cA8_2 hM, Rn_bnd, Rn_bnd, Rn_gI, hk.2.2, Rn_bnd, Rn_gI, hk.2.1, Rn_rtn, nsb (by omega), Rn_bnd, cA8_3 hM, Rn_bnd, Rn_gI, hP.1]
    refine Rn_cs (neq (by omega) (by omega)) (fun q => ?_) (fun q => ?_)
    · have dl := dotsN_lt x (tkS x p) (Pw P)
      rw [if_pos q, Rn_bnd, cA8_3 hM, Rn_bnd, cA8_3 hM, Rn_bnd, Rn_gI, hP.2.1, Rn_bnd, cA8_2 hM, Rn_bnd, cDots hM hx hk g (by omega), q, Rn_bnd]
      refine (cInsert hM.p11 hP hw (Nat.le_refl _) hl dl).mono ?_
      rintro - M1 ⟨x1, p1⟩
      have X1 : XF xPr M M1 := x1.mono xPg_Pr
      have k1 : isTk M1 x p := hk.xf x1 (fun b _ => xPgH_0 (by omega))
      refine cNx (hM.xf x1) (hx.pr X1) k1 (fun M2 x2 m2 t2 k2 => ?_)
      refine (cSemiG m2 t2 k2 (isPgC.tk (insAdd p1) x2) (wf_add hw dl hl)).mono ?_
      intro a M3 h
      exact h.tr (X1.tr (x2.mono xTk_Pr)) ((x2.mi rfl).trans (x1.mi (xPgH_0 (by omega)))) ((x2.mi rfl).trans (x1.mi (xPgH_0 (by omega))))
    · rw [if_neg q]; exact cFailG (c := 3) hM hk
  · rw [if_neg g]; exact cFailG (c := 1) hM hk
end CPar

