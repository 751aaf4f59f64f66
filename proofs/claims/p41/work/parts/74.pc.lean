/-! THE CLASS: modes -/
/-- behind a mode: the reading, the token, the page -/
def moG (x : Tx) (w u : Nat) (P : Pg) (v : Nat × Rst) (M' : Mm) : Prop := isRd M' 15 w u v.2 ∧ isTk M' x v.1 ∧ v.1 ≤ x.2 ∧ isPgC M' 11 P
section CPar3
variable {M : Mm} {x : Tx} {p : Nat} {P : Pg} {w u : Nat}
theorem isPgC.rd {M1 : Mm} (hP : isPgC M 11 P) (f : XF (xH 15) M M1) : isPgC M1 11 P := hP.xf f (fun a b z => by unfold xPgH at z; unfold xH; simp at z ⊢; omega)
theorem isRd.tk {M1 : Mm} {s : Rst} (r : isRd M 15 w u s) (f : XF xTk M M1) : isRd M1 15 w u s := r.xf f (fun b _ _ => rfl)
theorem isLk.tk {M1 : Mm} {q : Nat} {c : Bool} (k : isLk M 15 w u q c) (f : XF xTk M M1) : isLk M1 15 w u q c := ⟨by rw [f.mi rfl]; exact k.1, by rw [f.mi rfl]; exact k.2⟩
/-- the end of a mode: what the reading said, at which position -/
theorem cNeedRead {M0 : Mm} (X : XF xPr M0 M) (e0 : Mi M 8 0 = Mi M0 8 0) (e1 : Mi M 8 1 = Mi M0 8 1) {m : Md} {s : Rst} {pos p' : Nat} {M1 : Mm} (x1 : XF (xH 15) M M1) (h : ∀ s', rStep w u m s = some s' → isRd M1 15 w u s') (hk : isTk M x p') (hp : p' ≤ x.2) (hP : isPgC M 11 P) : Rn (bnd (fX3_needRead 8 (nI (bN (rStep w u m s).isSome)) (nI pos)) fun v => grd ((v : Int32) == 0 || (v : Int32) == 1) (rtn v)) M1 (fun a M' => prM (pStep w u m s pos p') (moG x w u P) a M0 M') := by
  unfold fX3_needRead pStep
  cases hs : rStep w u m s with
  | none =>
    rw [Rn_bnd]
    show Rn (if nI (bN false) = 0 then _ else _) M1 _
    rw [if_pos (by decide), Rn_bnd, Rn_pI, Rn_bnd, Rn_pI, Rn_grd, Rn_rtn, Rn_grd, Rn_rtn]
    exact ⟨by decide, by decide, rfl, by rw [Mi_sI, if_neg (by omega), sI_self]; rfl, sI_self, ((X.tr (x1.mono xH_Pr)).sI rfl).sI rfl⟩
  | some s' =>
    rw [Rn_bnd]
    show Rn (if nI (bN true) = 0 then _ else _) M1 _
    rw [if_neg (by decide), Rn_grd, Rn_rtn, Rn_grd, Rn_rtn]
    exact ⟨bN_g true, bN_g true, rfl, X.tr (x1.mono xH_Pr), (x1.mi rfl).trans e0, (x1.mi rfl).trans e1, h s' hs, hk.xf x1 (fun _ _ => rfl), hp, hP.rd x1⟩
theorem cReadPass (hM : CO M) (hx : isTx M x) (hk : isTk M x p) (hP : isPgC M 11 P) (h40 : w ≤ 40) {s : Rst} (hr : isRd M 15 w u s) (hl : isLk M 15 w u s.1 s.2.1) (hw : wd x p = 6) : Rn (fX3_readPass 8) M (fun a M' => prM (pMode x w u p s) (moG x w u P) a M M') := by
  unfold fX3_readPass pMode
  rw [Rn_bnd, cA8_4 hM, Rn_bnd, cHasEnd h40 hr.1]
  refine Rn_cs (bN_0 _) (fun g => ?_) (fun g => ?_)
  · have g : s.1 ≠ w + 1 := by simpa using g
    rw [if_neg g, if_pos hw, Rn_bnd, cA8_2 hM, Rn_bnd, Rn_gI, hk.2.1]
    refine cNx hM hx hk (fun M1 x1 m1 t1 k1 => ?_)
    rw [Rn_bnd, cA8_4 m1, Rn_bnd]
    refine (cPass h40 (hr.tk x1) (hl.tk x1) g (x := nI 0) (y := nI 0) (z := 0)).mono ?_
    rintro a M2 ⟨x2, rfl, h2⟩
    exact cNeedRead (x1.mono xTk_Pr) (x1.mi rfl) (x1.mi rfl) x2 h2 k1 (tkE_le hx.2.2.2 p) (hP.tk x1)
  · have g : s.1 = w + 1 := by simpa using g
    rw [if_pos g]; exact cFailG (c := 4) hM hk
theorem cReadVert (hM : CO M) (hx : isTx M x) (hk : isTk M x p) (hP : isPgC M 11 P) (h40 : w ≤ 40) {s : Rst} (hr : isRd M 15 w u s) (hl : isLk M 15 w u s.1 s.2.1) (hw : wd x p = 7) : Rn (fX3_readVertical 8) M (fun a M' => prM (pMode x w u p s) (moG x w u P) a M M') := by
  have hb := hx.2.2.2
  unfold fX3_readVertical pMode
  rw [Rn_bnd, cA8_4 hM, Rn_bnd, cHasEnd h40 hr.1]
  refine Rn_cs (bN_0 _) (fun g => ?_) (fun g => ?_)
  · have g : s.1 ≠ w + 1 := by simpa using g
    rw [if_neg g, if_neg (show ¬ wd x p = 6 by omega), if_pos hw, Rn_bnd, cA8_2 hM, Rn_bnd, Rn_gI, hk.2.1]
    refine cNx hM hx hk (fun M1 x1 m1 t1 k1 => ?_)
    have kl : tkK x (tkE x p) ≤ 6 := srt_le _
    -- the number, its sign known
    have num : ∀ (mi : Bool) (q : Nat) (M2 : Mm), mi = decide (tkK x (tkE x p) = 4) → XF xTk M1 M2 → isTk M2 x q → Rn (fX3_readVertical_L59 8 (nI (tkS x p)) (nI (bN mi))) M2 (fun a M' => prM (pB (pNum x q 0 3) (fun v => pStep w u (nI 1, if tkK x (tkE x p) = 4 then -nI v.1 else nI v.1, nI 0, 0) s (tkS x p) v.2)) (moG x w u P) a M M') := by
      intro mi q M2 hmi x2 k2
      have X2 : XF xTk M M2 := x1.tr x2
      have m2 := hM.xf X2
      have t2 := hx.pr (X2.mono xTk_Pr)
      unfold fX3_readVertical_L59
      refine cNN0 (X2.mono xTk_Pr) (X2.mi rfl) (X2.mi rfl) m2 t2 k2 (lo := 0) (hi := 3) (by omega) (by omega) (fun h2 _ h3 => ?_)
      generalize hd : dcv x q = d at h3
      have go : ∀ (y : Nat) (v : Int32), y ≤ 6 → v = nI y - nI 3 → v = (if tkK x (tkE x p) = 4 then -nI d else nI d) → Rn (fX3_readVertical_L92 8 (nI (tkS x p)) v) M2 (fun a M' => prM (pStep w u (nI 1, if tkK x (tkE x p) = 4 then -nI d else nI d, nI 0, 0) s (tkS x p) (tkE x q)) (moG x w u P) a M M') := by
        intro y v hy hv hv2
        unfold fX3_readVertical_L92
        refine cNx m2 t2 k2 (fun M3 x3 m3 t3 k3 => ?_)
        have X3 := X2.tr x3
        rw [Rn_bnd, cA8_4 m3, Rn_bnd, ← hv2]
        refine (cVert h40 (hr.tk X3) (hl.tk X3) g hy hv (y := nI 0) (z := 0)).mono ?_
        rintro a M4 ⟨x4, rfl, h4⟩
        exact cNeedRead (X3.mono xTk_Pr) (X3.mi rfl) (X3.mi rfl) x4 h4 k3 (tkE_le hb q) (hP.tk X3)
      have neg : ∀ d, d ≤ 3 → -nI d = nI (3 - d) - nI 3 := by decide
      have pos : ∀ d, d ≤ 3 → nI d = nI (d + 3) - nI 3 := by decide
      refine Rn_cs (bN_0 mi) (fun q1 => ?_) (fun q1 => ?_)
      · have z : ¬ tkK x (tkE x p) = 4 := by rw [q1] at hmi; simpa using hmi
        rw [Rn_bnd, cA8_2 m2, Rn_bnd, cNum m2 t2 k2 h2 (by omega), hd]
        exact go (d + 3) _ (by omega) (pos d h3) (by rw [if_neg z])
      · have z : tkK x (tkE x p) = 4 := by rw [show mi = true by simpa using q1] at hmi; simpa using hmi
        rw [Rn_bnd, cA8_2 m2, Rn_bnd, cNum m2 t2 k2 h2 (by omega), hd]
        exact go (3 - d) _ (by omega) (neg d h3) (by rw [if_pos z])
    rw [Rn_bnd, cA8_2 m1, Rn_bnd, Rn_gI, k1.1]
    unfold fX3_readVertical_L47
    refine Rn_cs (show nI (tkK x (tkE x p)) = 4 ↔ tkK x (tkE x p) = 4 from neq (b := 4) (by omega) (by omega)) (fun q => ?_) (fun q => ?_)
    · rw [if_neg (by decide), if_pos q]
      refine cNx m1 t1 k1 (fun M2 x2 m2 t2 k2 => ?_)
      exact num true (tkE x (tkE x p)) M2 (by simp [q]) x2 k2
    · rw [if_pos (by decide), if_neg q]
      have := num false (tkE x p) M1 (by simp [q]) XF.rf k1
      exact this
  · have g : s.1 = w + 1 := by simpa using g
    rw [if_pos g]; exact cFailG (c := 4) hM hk
theorem cReadHori (hM : CO M) (hx : isTx M x) (hk : isTk M x p) (hP : isPgC M 11 P) (hwP : Pw P = w) (h40 : w ≤ 40) {s : Rst} (hr : isRd M 15 w u s) (hw : wd x p = 8) : Rn (fX3_readHorizontal 8) M (fun a M' => prM (pMode x w u p s) (moG x w u P) a M M') := by
  have hb := hx.2.2.2
  unfold fX3_readHorizontal pMode
  rw [Rn_bnd, cA8_4 hM, Rn_bnd, cHasEnd h40 hr.1]
  refine Rn_cs (bN_0 _) (fun g => ?_) (fun g => ?_)
  · have g : s.1 ≠ w + 1 := by simpa using g
    rw [if_neg g, if_neg (show ¬ wd x p = 6 by omega), if_neg (show ¬ wd x p = 7 by omega), Rn_bnd, cA8_2 hM, Rn_bnd, Rn_gI, hk.2.1]
    refine cNx hM hx hk (fun M1 x1 m1 t1 k1 => ?_)
    have p1 := hP.tk x1
    rw [Rn_bnd, cA8_3 m1, Rn_bnd, Rn_gI, p1.1, hwP]
    refine cNN0 (x1.mono xTk_Pr) (x1.mi rfl) (x1.mi rfl) m1 t1 k1 (lo := 0) (hi := w) (by omega) (by omega) (fun h2 _ h3 => ?_)
    generalize hd : dcv x (tkE x p) = a at h3
    rw [Rn_bnd, cA8_2 m1, Rn_bnd, cNum m1 t1 k1 h2 (by omega), hd]
    refine cNx m1 t1 k1 (fun M2 x2 m2 t2 k2 => ?_)
    have X2 := x1.tr x2
    have p2 := hP.tk X2
    rw [Rn_bnd, cA8_3 m2, Rn_bnd, Rn_gI, p2.1, hwP]
    refine cNN0 (X2.mono xTk_Pr) (X2.mi rfl) (X2.mi rfl) m2 t2 k2 (lo := 0) (hi := w) (by omega) (by omega) (fun h2' _ h3' => ?_)
    generalize hd2 : dcv x (tkE x (tkE x p)) = b at h3'
    rw [Rn_bnd, cA8_2 m2, Rn_bnd, cNum m2 t2 k2 h2' (by omega), hd2]
    refine cNx m2 t2 k2 (fun M3 x3 m3 t3 k3 => ?_)
    have X3 := X2.tr x3
    rw [Rn_bnd, cA8_4 m3, Rn_bnd]
    refine (cHori h40 (hr.tk X3) g (show a ≤ 40 by omega) (show b ≤ 40 by omega) (z := 0)).mono ?_
    rintro v M4 ⟨x4, rfl, h4⟩
    exact cNeedRead (X3.mono xTk_Pr) (X3.mi rfl) (X3.mi rfl) x4 h4 k3 (tkE_le hb _) (hP.tk X3)
  · have g : s.1 = w + 1 := by simpa using g
    rw [if_pos g]; exact cFailG (c := 4) hM hk
end CPar3

