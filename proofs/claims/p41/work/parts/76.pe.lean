/-! THE CLASS: statements, the text -/
theorem pB_i {α β : Type} {a : Pe α} {f : α → Pe β} {v : β} (h : pB a f = .inr v) : ∃ w, a = .inr w ∧ f w = .inr v := by
  cases a with
  | inl e => cases h
  | inr w => exact ⟨w, rfl, h⟩
theorem pSemi_1 {x : Tx} {p p' : Nat} (h : pSemi x p = .inr p') : p' = tkE x p := by
  unfold pSemi at h
  split at h
  · cases h; rfl
  · cases h
theorem pEnd_1 {x : Tx} {p : Nat} {b : Bool} {P : Pg} {r : Nat} {v : Pg × Nat} (h : pEnd x p b P r = .inr v) : v.2 = tkE x p := by
  unfold pEnd at h
  split at h
  · split at h
    · cases h; rfl
    · cases h
  · cases h
section PGe
variable {x : Tx} {P : Pg} {p : Nat} {v : Pg × Nat}
theorem pSet_ge (hb : ∀ i, i < x.2 → x.1 i < 256) (hp : p ≤ x.2) (h : pSetT x P p = .inr v) : p ≤ v.2 := by
  obtain ⟨a, h1, h⟩ := pB_i h
  obtain ⟨b, h2, h⟩ := pB_i h
  obtain ⟨c, h3, h⟩ := pB_i h
  cases h
  show p ≤ c
  rw [pSemi_1 h3, pNum_1 h2, pNum_1 h1]
  have := tkE_ge hb hp
  have := tkE_ge hb (tkE_le hb p)
  have := tkE_ge hb (tkE_le hb (tkE x p))
  omega
theorem pLoss_ge (hb : ∀ i, i < x.2 → x.1 i < 256) (hp : p ≤ x.2) (h : pLossT x P p = .inr v) : p ≤ v.2 := by
  obtain ⟨a, h1, h⟩ := pB_i h
  obtain ⟨b, h2, h⟩ := pB_i h
  obtain ⟨c, h3, h⟩ := pB_i h
  cases h
  show p ≤ c
  rw [pSemi_1 h3, pNum_1 h2, pNum_1 h1]
  have := tkE_ge hb hp
  have := tkE_ge hb (tkE_le hb p)
  have := tkE_ge hb (tkE_le hb (tkE x p))
  omega
theorem pRow_ge (hb : ∀ i, i < x.2 → x.1 i < 256) (hp : p ≤ x.2) (h : pRowT x P p = .inr v) : p ≤ v.2 := by
  unfold pRowT at h
  split at h
  · split at h
    · obtain ⟨c, h3, h⟩ := pB_i h
      cases h
      show p ≤ c
      rw [pSemi_1 h3]
      have := tkE_ge hb hp
      have := tkE_ge hb (tkE_le hb p)
      omega
    · cases h
  · cases h
theorem aloneN_ge (hb : ∀ i, i < x.2 → x.1 i < 256) {w : Nat} : ∀ n p f c r first v, p ≤ x.2 → aloneN x w n p f c r first = .inr v → p ≤ v.1 ∧ v.1 ≤ x.2 := by
  intro n
  induction n with
  | zero => intro p f c r first v hp h; cases h; exact ⟨Nat.le_refl _, hp⟩
  | succ n ih =>
    intro p f c r first v hp h
    rw [aloneN_s] at h
    split at h
    · obtain ⟨a, h1, h⟩ := pB_i h
      split at h
      · cases h
      · have := ih _ _ _ _ _ _ (by rw [pNum_1 h1]; exact tkE_le hb p) h
        rw [pNum_1 h1] at this
        have := tkE_ge hb hp
        omega
    · cases h; exact ⟨Nat.le_refl _, hp⟩
theorem pAlone_ge (hb : ∀ i, i < x.2 → x.1 i < 256) (hp : p ≤ x.2) (h : pAloneT x P p = .inr v) : p ≤ v.2 := by
  obtain ⟨a, h1, h⟩ := pB_i h
  have := aloneN_ge hb _ _ _ _ _ _ _ hp h1
  rw [pEnd_1 h]
  have := tkE_ge hb this.2
  omega
theorem pMode_le (hb : ∀ i, i < x.2 → x.1 i < 256) {w u : Nat} {s : Rst} {v : Nat × Rst} (h : pMode x w u p s = .inr v) : v.1 ≤ x.2 := by
  unfold pMode at h
  split at h
  · cases h
  · split at h
    · rw [pStep_1 h]; exact tkE_le hb p
    · split at h
      · obtain ⟨a, h1, h⟩ := pB_i h
        rw [pStep_1 h, pNum_1 h1]; exact tkE_le hb _
      · obtain ⟨a, h1, h⟩ := pB_i h
        obtain ⟨b, h2, h⟩ := pB_i h
        rw [pStep_1 h, pNum_1 h2]; exact tkE_le hb _
theorem aboveN_ge (hb : ∀ i, i < x.2 → x.1 i < 256) {w u : Nat} : ∀ n p s v, p ≤ x.2 → aboveN x w u n p s = .inr v → p ≤ v.1 ∧ v.1 ≤ x.2 := by
  intro n
  induction n with
  | zero => intro p s v hp h; cases h; exact ⟨Nat.le_refl _, hp⟩
  | succ n ih =>
    intro p s v hp h
    rw [aboveN_s] at h
    split at h
    · rename_i g
      obtain ⟨a, h1, h⟩ := pB_i h
      have g1 := pMode_gt hb (show tkK x p ≠ 0 by have := wd_k (x := x) (p := p) (by omega); omega) hp h1
      have := ih _ _ _ (pMode_le hb h1) h
      omega
    · cases h; exact ⟨Nat.le_refl _, hp⟩
theorem pAbove_ge (hb : ∀ i, i < x.2 → x.1 i < 256) (hp : p ≤ x.2) (h : pAboveT x P p = .inr v) : p ≤ v.2 := by
  obtain ⟨a, h1, h⟩ := pB_i h
  have := aboveN_ge hb _ _ _ _ hp h1
  rw [pEnd_1 h]
  have := tkE_ge hb this.2
  omega
theorem pStmt_gt (hb : ∀ i, i < x.2 → x.1 i < 256) (hp : p ≤ x.2) (h0 : tkK x p ≠ 0) (h : pStmt x P p = .inr v) : p < v.2 := by
  have g := tkE_gt hb h0
  have s := tkS_ge hp
  have l := tkE_le hb p
  have key : tkE x p ≤ v.2 := by
    unfold pStmt at h
    split at h
    · exact pSet_ge hb l h
    · split at h
      · exact pLoss_ge hb l h
      · split at h
        · split at h
          · split at h
            · exact pRow_ge hb l h
            · split at h
              · exact pAlone_ge hb l h
              · exact pAbove_ge hb l h
          · cases h
        · cases h
  omega
end PGe
section CPar5
variable {M : Mm} {x : Tx} {p : Nat} {P : Pg}
theorem prM_g {α : Type} {r : Pe α} {G : α → Mm → Prop} {F : Mm → Option (Int32 × Mm)} {M0 : Mm} (h : Rn F M (fun a M' => prM r G a M0 M')) : Rn (bnd F fun v => grd ((v : Int32) == 0 || (v : Int32) == 1) (rtn v)) M (fun a M' => prM r G a M0 M') := by
  rw [Rn_bnd]
  refine h.mono ?_
  intro a M1 q
  rw [Rn_grd, Rn_rtn]
  exact ⟨by rcases prM_a q with rfl | rfl <;> decide, q⟩
theorem cReadStmt (hM : CO M) (hx : isTx M x) (hk : isTk M x p) (hP : isPgC M 11 P) (hw : wfP P) : Rn (fX3_readStatement 8) M (fun a M' => prM (pStmt x P p) (atG x) a M M') := by
  have h20 := hw.2.2.1
  have hb := hx.2.2.2
  unfold fX3_readStatement pStmt
  rw [Rn_bnd, cA8_2 hM, Rn_bnd, cWord hM hx hk (i := 1) (w := 3) (by decide)]
  refine Rn_cs (bN_0 _) (fun q3 => ?_) (fun q3 => ?_)
  · have q3 : wd x p ≠ 3 := fun z => by rw [(wd_w (by omega)).mp z] at q3; cases q3
    rw [if_neg q3, Rn_bnd, cA8_2 hM, Rn_bnd, cWord hM hx hk (i := 2) (w := 4) (by decide)]
    refine Rn_cs (bN_0 _) (fun q4 => ?_) (fun q4 => ?_)
    · have q4 : wd x p ≠ 4 := fun z => by rw [(wd_w (by omega)).mp z] at q4; cases q4
      rw [if_neg q4, Rn_bnd, cA8_2 hM, Rn_bnd, cWord hM hx hk (i := 3) (w := 0) (by decide), Rn_bnd, cA8_2 hM, Rn_bnd, cWord hM hx hk (i := 4) (w := 1) (by decide)]
      have w0 := wd_w (x := x) (p := p) (w := 0) (by omega)
      have w1 := wd_w (x := x) (p := p) (w := 1) (by omega)
      have w2 := wd_w (x := x) (p := p) (w := 2) (by omega)
      have go : wd x p ≤ 2 → Rn (fX3_readStatement_L80 8 (nI (bN (wdIs x p 0))) (nI (bN (wdIs x p 1)))) M (fun a M' => prM (if wd x p ≤ 2 then (if PL P < 20 then (if wd x p = 0 then pRowT x P (tkE x p) else if wd x p = 1 then pAloneT x P (tkE x p) else pAboveT x P (tkE x p)) else .inl (5, tkS x p)) else .inl (1, tkS x p)) (atG x) a M M') := by
        intro h
        rw [if_pos h]
        unfold fX3_readStatement_L80
        rw [Rn_bnd, cA8_3 hM, Rn_bnd, Rn_gI, hP.2.1]
        refine Rn_cs (show nI (PL P) < 20 ↔ PL P < 20 from nlt (b := 20) (by omega) (by omega)) (fun hl => ?_) (fun hl => ?_)
        · rw [if_pos hl]
          refine cNx hM hx hk (fun M1 x1 m1 t1 k1 => ?_)
          have X1 := x1.mono xTk_Pr
          have p1 := hP.tk x1
          have le := tkE_le hb p
          refine Rn_cs (bN_0 _) (fun z0 => ?_) (fun z0 => ?_)
          · have n0 : wd x p ≠ 0 := fun z => by rw [w0.mp z] at z0; cases z0
            rw [if_neg n0]
            refine Rn_cs (bN_0 _) (fun z1 => ?_) (fun z1 => ?_)
            · have n1 : wd x p ≠ 1 := fun z => by rw [w1.mp z] at z1; cases z1
              rw [if_neg n1]
              exact prM_g ((cReadAbove m1 t1 k1 le p1 hw hl).mono (fun a M' h => h.tr X1 (x1.mi rfl) (x1.mi rfl)))
            · have n1 : wd x p = 1 := w1.mpr (by simpa using z1)
              rw [if_pos n1]
              exact prM_g ((cReadAlone m1 t1 k1 le p1 hw hl).mono (fun a M' h => h.tr X1 (x1.mi rfl) (x1.mi rfl)))
          · have n0 : wd x p = 0 := w0.mpr (by simpa using z0)
            rw [if_pos n0]
            exact prM_g ((cReadRow m1 t1 k1 p1 hw hl).mono (fun a M' h => h.tr X1 (x1.mi rfl) (x1.mi rfl)))
        · rw [if_neg hl]; exact cFailG (c := 5) hM hk
      refine Rn_cs (bN_0 _) (fun z0 => ?_) (fun z0 => go (by have := w0.mpr (by simpa using z0); omega))
      have n0 : wd x p ≠ 0 := fun z => by rw [w0.mp z] at z0; cases z0
      refine Rn_cs (bN_0 _) (fun z1 => ?_) (fun z1 => go (by have := w1.mpr (by simpa using z1); omega))
      have n1 : wd x p ≠ 1 := fun z => by rw [w1.mp z] at z1; cases z1
      rw [Rn_bnd, cA8_2 hM, Rn_bnd, cWord hM hx hk (i := 5) (w := 2) (by decide)]
      refine Rn_cs (bN_0 _) (fun z2 => ?_) (fun z2 => go (by have := w2.mpr (by simpa using z2); omega))
      have n2 : wd x p ≠ 2 := fun z => by rw [w2.mp z] at z2; cases z2
      rw [if_neg (by omega)]; exact cFailG (c := 1) hM hk
    · have q4 : wd x p = 4 := (wd_w (by omega)).mpr (by simpa using q4)
      rw [if_pos q4]
      exact prM_g (cReadLoss hM hx hk hP hw)
  · have q3 : wd x p = 3 := (wd_w (by omega)).mpr (by simpa using q3)
    rw [if_pos q3]
    exact prM_g (cReadSet hM hx hk hP hw)
theorem stmtN_s (x : Tx) (n p : Nat) (P : Pg) : stmtN x (n + 1) P p = if tkK x p = 0 then .inr P else pB (pStmt x P p) (fun v => stmtN x n v.1 v.2) := rfl
/-- all the statements -/
theorem cStmts (hM : CO M) (hx : isTx M x) (hk : isTk M x p) (hpx : p ≤ x.2) (hP : isPgC M 11 P) (hw : wfP P) : Rn (fX3_readText_L57 fu 8 (nI 1) (nI x.2)) M (fun a M' => prM (stmtN x 1000 P p) (fun Q M' => isPgC M' 11 Q ∧ wfP Q) a M M') := by
  have h9 := hx.2.1
  have hb := hx.2.2.2
  generalize hA : stmtN x 1000 P p = A0
  refine rn_loopv (F := fun n (s : Nat × Option (Pg × Nat)) => fX3_readText_L57 n 8 (nI (bN s.2.isSome)) (nI (x.2 - s.1))) (fun s M' => XF xPr M M' ∧ match s.2 with
    | none => ∃ e, A0 = .inl e ∧ Mi M' 8 0 = nI e.1 ∧ Mi M' 8 1 = nI e.2
    | some v => Mi M' 8 0 = Mi M 8 0 ∧ Mi M' 8 1 = Mi M 8 1 ∧ atG x v M' ∧ s.1 ≤ v.2 ∧ stmtN x (1000 - s.1) v.1 v.2 = A0) (fun s => match s.2 with | none => 0 | some v => x.2 - v.2 + 1) ?_ fu (0, some (P, p)) M (by show x.2 - p + 1 < fu; unfold fu; omega) ⟨XF.rf, rfl, rfl, ⟨hP, hw, hk, hpx⟩, Nat.zero_le _, hA⟩
  rintro n ⟨k, o⟩ M1 ⟨x1, inv⟩ ih
  have m1 := hM.xf x1
  have t1 := hx.pr x1
  show Rn (fX3_readText_L57 (n + 1) 8 (nI (bN o.isSome)) (nI (x.2 - k))) M1 _
  unfold fX3_readText_L57
  cases o with
  | none =>
    obtain ⟨e, h1, h2, h3⟩ := inv
    have stop : Rn (grd (nI (bN false) == 0 || nI (bN false) == 1) (rtn (nI (bN false)))) M1 (fun a M' => prM A0 (fun Q M' => isPgC M' 11 Q ∧ wfP Q) a M M') := by
      rw [Rn_grd, Rn_rtn, h1]
      exact ⟨by decide, rfl, h2, h3, x1⟩
    refine Rn_cs (show nI (x.2 - k) ≤ 0 ↔ x.2 - k ≤ 0 from nle (b := 0) (by omega) (by omega)) (fun _ => stop) (fun _ => ?_)
    rw [if_pos (by show nI (bN false) = 0; decide)]; exact stop
  | some v =>
    obtain ⟨Q, q⟩ := v
    obtain ⟨e0, e1, ⟨p1, w1, k1, hq⟩, hkq, he⟩ := inv
    have p1 : isPgC M1 11 Q := p1
    have w1 : wfP Q := w1
    have k1 : isTk M1 x q := k1
    have hq : q ≤ x.2 := hq
    have hkq : k ≤ q := hkq
    have he : stmtN x (1000 - k) Q q = A0 := he
    have kl : tkK x q ≤ 6 := srt_le _
    have stop : tkK x q = 0 → Rn (grd (nI (bN true) == 0 || nI (bN true) == 1) (rtn (nI (bN true)))) M1 (fun a M' => prM A0 (fun Q M' => isPgC M' 11 Q ∧ wfP Q) a M M') := by
      intro h
      rw [show 1000 - k = (999 - k) + 1 by omega, stmtN_s, if_pos h] at he
      rw [Rn_grd, Rn_rtn, ← he]
      exact ⟨by decide, rfl, x1, e0, e1, p1, w1⟩
    refine Rn_cs (show nI (x.2 - k) ≤ 0 ↔ x.2 - k ≤ 0 from nle (b := 0) (by omega) (by omega)) (fun g => stop ?_) (fun g => ?_)
    · exact (tkK_0 hb q).mpr (by have := tkS_ge hq; have := tkS_le x q; omega)
    rw [if_neg (by show ¬ nI (bN true) = 0; decide), Rn_bnd, cA8_2 m1, Rn_bnd, Rn_gI, k1.1]
    refine Rn_cs (show nI (tkK x q) = 0 ↔ tkK x q = 0 from neq (b := 0) (by omega) (by omega)) (fun g1 => stop g1) (fun g1 => ?_)
    rw [Rn_bnd]
    refine (cReadStmt m1 t1 k1 p1 w1).mono ?_
    intro a M2 h
    have h := h.tr x1 e0 e1
    have ek : nI (x.2 - k) + -1 = nI (x.2 - (k + 1)) := by rw [add_m1, nL1, nsb (by omega)]; congr 1
    rw [ek]
    have eA : A0 = pB (pStmt x Q q) (fun v => stmtN x (1000 - (k + 1)) v.1 v.2) := by
      rw [← he, show 1000 - k = (1000 - (k + 1)) + 1 by omega, stmtN_s, if_neg g1]
    cases hm : pStmt x Q q with
    | inl e =>
      rw [hm] at h eA
      obtain ⟨rfl, h1, h2, h3⟩ := h
      exact ih (k + 1, none) M2 ⟨h3, e, eA, h1, h2⟩ (by show 0 < x.2 - q + 1; omega)
    | inr v =>
      rw [hm] at h eA
      obtain ⟨rfl, h1, h2, h3, h4⟩ := h
      have gt := pStmt_gt hb hq g1 hm
      have vle := h4.2.2.2
      exact ih (k + 1, some v) M2 ⟨h1, h2, h3, h4, (by show k + 1 ≤ v.2; omega), eA.symm⟩ (by show x.2 - v.2 + 1 < x.2 - q + 1; omega)
end CPar5

