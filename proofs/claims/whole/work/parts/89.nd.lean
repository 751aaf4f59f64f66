/-! THE REFERENCE: statements -/
def stG (x : Tx) (v : Pg × Nat) (M' : Mm) : Prop := isFr M' v.1 ∧ wfP v.1 ∧ mTk M' x v.2 ∧ v.2 ≤ x.2
def pSet0 (x : Tx) (P : Pg) (p : Nat) : Pe (Pg × Nat) := pB (pNum x p 0 5) (fun a => pB (pNum x a.2 (stLo a.1) (stHi a.1)) (fun b => .inr (pSet P a.1 b.1, b.2)))
def pLoss0 (x : Tx) (P : Pg) (p : Nat) : Pe (Pg × Nat) := pB (pNum x p 0 19) (fun a => pB (pNum x a.2 0 5) (fun b => .inr (pLose P a.1 b.1, b.2)))
def pEn (x : Tx) (v : Pg × Nat) : Pe (Pg × Nat) := pB (pSemi x v.2) (fun p' => .inr (v.1, p'))
theorem pSetT_eq (x : Tx) (P : Pg) (p : Nat) : pSetT x P p = pB (pSet0 x P p) (pEn x) := by
  unfold pSetT pSet0 pEn
  rw [pB_as]
  congr 1
  funext a
  rw [pB_as]; rfl
theorem pLossT_eq (x : Tx) (P : Pg) (p : Nat) : pLossT x P p = pB (pLoss0 x P p) (pEn x) := by
  unfold pLossT pLoss0 pEn
  rw [pB_as]
  congr 1
  funext a
  rw [pB_as]; rfl
def lnR (x : Tx) (P : Pg) (p k : Nat) : Pe (Nat × Nat) := if k = 0 then pRow0 x (Pw P) p else if k = 1 then pB (aloneN x (Pw P) 1000 p 0 false 0 true) (fun v => pFull x v.1 (decide (v.2.1 = Pw P)) v.2.2) else pB (aboveN x (Pw P) (uLast P) 1000 p (0, false, 0)) (fun v => pFull x v.1 (decide (v.2.1 = Pw P + 1)) v.2.2.2)
def pLn (x : Tx) (P : Pg) (v : Nat × Nat) : Pe (Pg × Nat) := pB (pSemi x v.1) (fun _ => .inr (pAdd P v.2, v.1))
theorem pLn_en (x : Tx) (P : Pg) (v : Nat × Nat) : pB (pLn x P v) (pEn x) = pB (pSemi x v.1) (fun p' => .inr (pAdd P v.2, p')) := by
  unfold pLn pEn
  rw [pB_as]
  cases h : pSemi x v.1 with
  | inl e => rfl
  | inr p' =>
    show pB (pSemi x v.1) (fun p' => .inr (pAdd P v.2, p')) = _
    rw [h]
theorem lnR_0 (x : Tx) (P : Pg) (p : Nat) : pRowT x P p = pB (pB (lnR x P p 0) (pLn x P)) (pEn x) := by
  rw [pRowT_eq, pB_as]
  show pB (pRow0 x (Pw P) p) _ = pB (pRow0 x (Pw P) p) _
  congr 1; funext v; exact (pLn_en x P v).symm
theorem lnR_1 (x : Tx) (P : Pg) (p : Nat) : pAloneT x P p = pB (pB (lnR x P p 1) (pLn x P)) (pEn x) := by
  show pB (aloneN x (Pw P) 1000 p 0 false 0 true) (fun v => pEnd x v.1 (decide (v.2.1 = Pw P)) P v.2.2) = pB (pB (pB (aloneN x (Pw P) 1000 p 0 false 0 true) (fun v => pFull x v.1 (decide (v.2.1 = Pw P)) v.2.2)) (pLn x P)) (pEn x)
  rw [pB_as, pB_as]
  congr 1; funext v
  rw [pEnd_eq]
  congr 1; funext v; exact (pLn_en x P v).symm
theorem lnR_2 (x : Tx) (P : Pg) (p : Nat) : pAboveT x P p = pB (pB (lnR x P p 2) (pLn x P)) (pEn x) := by
  show pB (aboveN x (Pw P) (uLast P) 1000 p (0, false, 0)) (fun v => pEnd x v.1 (decide (v.2.1 = Pw P + 1)) P v.2.2.2) = pB (pB (pB (aboveN x (Pw P) (uLast P) 1000 p (0, false, 0)) (fun v => pFull x v.1 (decide (v.2.1 = Pw P + 1)) v.2.2.2)) (pLn x P)) (pEn x)
  rw [pB_as, pB_as]
  congr 1; funext v
  rw [pEnd_eq]
  congr 1; funext v; exact (pLn_en x P v).symm
theorem mP_b {α β : Type} {R : Pe α} {f : α → Pe β} {G : α → Mm → Prop} {G2 : β → Mm → Prop} {F K : Mm → Option (Unit × Mm)} {M : Mm} (h : Rn F M (fun _ M' => mP R G M M')) (hg : ∀ v M1, R = .inr v → XF xMp M M1 → gd M1 → G v M1 → Rn K M1 (fun _ M' => mP (f v) G2 M M')) (he : ∀ e M1, XF xMp M M1 → erS M1 e → Rn K M1 (fun _ M' => XF xMp M M' ∧ erS M' e)) : Rn (bnd F fun _ => K) M (fun _ M' => mP (pB R f) G2 M M') := by
  rw [Rn_bnd]
  refine h.mono ?_
  rintro - M1 h1
  cases hR : R with
  | inl e =>
    rw [hR] at h1
    exact he e M1 h1.1 h1.2
  | inr v =>
    rw [hR] at h1
    exact hg v M1 hR h1.1 h1.2.1 h1.2.2
section MSt
variable {M : Mm} {x : Tx} {p : Nat} {P : Pg} {e : Nat × Nat}
theorem mHigh {k : Nat} (hk : k < 6) {Q : Int32 → Mm → Prop} : Rn (fX8_highOf (nI k)) M Q ↔ Q (nI (stHi k)) M := by
  refine Rn_det ?_
  unfold fX8_highOf fX8_highOf_L19
  rcases (show k = 0 ∨ k = 1 ∨ k = 2 ∨ k = 3 ∨ k = 4 ∨ k = 5 by omega) with rfl | rfl | rfl | rfl | rfl | rfl
  · rw [if_pos (by decide), Rn_rtn]; exact ⟨rfl, rfl⟩
  · rw [if_neg (by decide), if_pos (by decide), Rn_rtn]; exact ⟨rfl, rfl⟩
  · rw [if_neg (by decide), if_neg (by decide), if_pos (by decide), Rn_rtn]; exact ⟨rfl, rfl⟩
  · rw [if_neg (by decide), if_neg (by decide), if_neg (by decide), if_pos (by decide), Rn_rtn]; exact ⟨rfl, rfl⟩
  · rw [if_neg (by decide), if_neg (by decide), if_neg (by decide), if_neg (by decide), Rn_rtn]; exact ⟨rfl, rfl⟩
  · rw [if_neg (by decide), if_neg (by decide), if_neg (by decide), if_neg (by decide), Rn_rtn]; exact ⟨rfl, rfl⟩
theorem stLo_eq (k : Nat) : stLo k ≤ 1 := by unfold stLo; split <;> omega
theorem stHi_b (k : Nat) : stHi k ≤ 99 := by unfold stHi; repeat' split
                                             all_goals omega
/-- a cell of the page told is written as it was -/
theorem mBack (hM : MO M) (h : erS M e) {v : Int32} {j : Nat} (hj : j < 828) : Rn (bnd (gA 38 2) fun v3 => bnd (gI 38 37) fun v4 => if (v4 : Int32) = 0 then bnd (aI v3 (nI j) v) fun _ => rtn () else bnd (gA 38 2) fun v5 => bnd (lI v5 (nI j)) fun v6 => bnd (aI v3 (nI j) v6) fun _ => rtn ()) M (fun _ M' => XF xMp M M' ∧ erS M' e) := by
  rw [Rn_bnd, mA2 hM, Rn_bnd, Rn_gI, if_neg h.n0, Rn_bnd, mA2 hM, Rn_bnd, rn_lI (by omega), mL40 hM, Rn_bnd, rn_aI (by omega), mL40 hM, Rn_rtn]
  have x1 : XF xMp M (sI M 40 j (Mi M 40 j)) := XF.rf.sI rfl
  exact ⟨hj, hj, x1, by rw [Mi_sI, if_neg (by omega)]; exact h.1, by rw [Mi_sI, if_neg (by omega)]; exact h.2.1, h.2.2⟩
theorem mSettingR (hM : MO M) (hx : isTxM M x) (hk : mTk M x p) (g : gd M) (hF : isFr M P) (hw : wfP P) : Rn (fX8_readsSetting 38) M (fun _ M' => mP (pSet0 x P p) (stG x) M M') := by
  have hb := hx.2.2.2
  unfold fX8_readsSetting pSet0
  rw [Rn_bnd, show (0 : Int32) = nI 0 from rfl, show (5 : Int32) = nI 5 from rfl]
  -- an error told: the rest
  have bad : ∀ (e : Nat × Nat) (M1 : Mm) (j : Nat) (s : Int32), j < 6 → XF xMp M M1 → erS M1 e → Rn (fX8_readsSetting_L17 38 (nI j) s 38) M1 (fun _ M' => mP (.inl e) (stG x) M M') := by
    intro e M1 j s hj x1 e1
    unfold fX8_readsSetting_L17 fX8_readsSetting_L51
    rw [Rn_bnd, mHigh hj, Rn_bnd, mReadsE e1, nL2, nI_add]
    refine (mBack (hM.xf x1) e1 (by omega)).mono ?_
    rintro - M2 ⟨x2, e2⟩
    exact ⟨x1.tr x2, e2⟩
  refine mReadsN hM hx hk g (by omega) (by omega) (fun e hn M1 x1 e1 => ?_) (fun h2 _ h5 M1 x1 m1 t1 k1 g1 => ?_)
  · rw [hn]
    refine Rn_cs Iff.rfl (fun _ => ?_) (fun _ => ?_)
    · exact bad e M1 0 _ (by omega) (x1.mono xEr_Mp) e1
    · exact bad e M1 0 _ (by omega) (x1.mono xEr_Mp) e1
  · have pn : pNum x p 0 5 = .inr (dcv x p, tkE x p) := by unfold pNum; rw [if_pos h2, if_pos ⟨Nat.zero_le _, h5⟩]
    have X1 := x1.mono xMt_Mp
    have F1 := hF.xf x1 (fun _ => rfl)
    generalize hd : dcv x p = k at h5 pn ⊢
    have dk : k < 6 := by omega
    rw [pn]
    have lo := stLo_eq k
    have hi := stHi_b k
    have go : ∀ s : Nat, s = stLo k → Rn (fX8_readsSetting_L17 38 (nI k) (nI s) 38) M1 (fun _ M' => mP (pB (pNum x (tkE x p) (stLo k) (stHi k)) (fun b => .inr (pSet P k b.1, b.2))) (stG x) M M') := by
      rintro s rfl
      unfold fX8_readsSetting_L17 fX8_readsSetting_L51
      rw [Rn_bnd, mHigh dk, Rn_bnd]
      refine mReadsN m1 t1 k1 g1 (by omega) (by omega) (fun e hn M2 x2 e2 => ?_) (fun h2' h3' h4' M2 x2 m2 t2 k2 g2 => ?_)
      · rw [hn, nL2, nI_add]
        have X2 := X1.tr (x2.mono xEr_Mp)
        refine (mBack (hM.xf X2) e2 (by omega)).mono ?_
        rintro - M3 ⟨x3, e3⟩
        exact ⟨X2.tr x3, e3⟩
      · have pn2 : pNum x (tkE x p) (stLo k) (stHi k) = .inr (dcv x (tkE x p), tkE x (tkE x p)) := by unfold pNum; rw [if_pos h2', if_pos ⟨h3', h4'⟩]
        have X2 := X1.tr (x2.mono xMt_Mp)
        have F2 := F1.xf x2 (fun _ => rfl)
        generalize hd2 : dcv x (tkE x p) = v at h3' h4' pn2 ⊢
        rw [pn2, Rn_bnd, mA2 m2, Rn_bnd, Rn_gI, g2.1, if_pos (by decide), nL2, nI_add, Rn_bnd, rn_aI (by omega), mL40 m2, Rn_rtn]
        have x3 : XF xFr M2 (sI M2 40 (2 + k) (nI v)) := XF.rf.sI rfl
        refine ⟨by omega, X2.tr (x3.mono xFr_Mp), g2.xf x3 rfl rfl, ⟨?_, fun l hl1 hl2 j hj => ?_⟩, wf_set hw dk h3' h4', k2.xf x3 (fun b _ => rfl), tkE_le hb _⟩
        · show isPgM (Mi (sI M2 40 (2 + k) (nI v)) 40) (pSet P k v)
          refine ⟨by rw [Mi_sI, if_neg (by omega)]; exact F2.1.1, by rw [Mi_sI, if_neg (by omega)]; exact F2.1.2.1, fun j hj => ?_, fun l hl => by rw [Mi_sI, if_neg (by omega)]; exact F2.1.s hl, fun l hl j hj => by rw [Mi_sI, if_neg (by omega)]; exact F2.1.d hl hj⟩
          show _ = nI (updN (Pt P) k v j)
          rw [Mi_sI]; unfold updN
          by_cases e : j = k
          · rw [if_pos ⟨rfl, by omega⟩, if_pos e]
          · rw [if_neg (by omega), if_neg e]; exact F2.1.t hj
        · rw [Mi_sI, if_neg (by omega)]; exact F2.2 l hl1 hl2 j hj
    show Rn (if nI k = nI 0 then _ else _) M1 (fun _ M' => mP (pB (pNum x (tkE x p) (stLo k) (stHi k)) (fun b => .inr (pSet P k b.1, b.2))) (stG x) M M')
    refine Rn_cs (neq (by omega) (by omega)) (fun z => ?_) (fun z => ?_)
    · exact go 1 (by unfold stLo; rw [if_pos z])
    · exact go 0 (by unfold stLo; rw [if_neg z])
theorem mLossR (hM : MO M) (hx : isTxM M x) (hk : mTk M x p) (g : gd M) (hF : isFr M P) (hw : wfP P) : Rn (fX8_readsLoss 38) M (fun _ M' => mP (pLoss0 x P p) (stG x) M M') := by
  have hb := hx.2.2.2
  unfold fX8_readsLoss pLoss0 fX8_readsLoss_L43
  rw [Rn_bnd, show (0 : Int32) = nI 0 from rfl, show (19 : Int32) = nI 19 from rfl, show (5 : Int32) = nI 5 from rfl]
  refine mReadsN hM hx hk g (by omega) (by omega) (fun e hn M1 x1 e1 => ?_) (fun h2 _ h5 M1 x1 m1 t1 k1 g1 => ?_)
  · rw [hn, Rn_bnd, mReadsE e1, show (8 : Int32) = nI 8 from rfl, nI_add]
    have X1 := x1.mono xEr_Mp
    refine (mBack (hM.xf X1) e1 (by omega)).mono ?_
    rintro - M2 ⟨x2, e2⟩
    exact ⟨X1.tr x2, e2⟩
  · have pn : pNum x p 0 19 = .inr (dcv x p, tkE x p) := by unfold pNum; rw [if_pos h2, if_pos ⟨Nat.zero_le _, h5⟩]
    have X1 := x1.mono xMt_Mp
    have F1 := hF.xf x1 (fun _ => rfl)
    generalize hd : dcv x p = k at h5 pn ⊢
    rw [pn, Rn_bnd]
    show Rn (fX8_reads 38 (nI 0) (nI 5)) M1 (fun a M2 => Rn _ M2 (fun _ M' => mP (pB (pNum x (tkE x p) 0 5) (fun b => .inr (pLose P k b.1, b.2))) (stG x) M M'))
    refine mReadsN m1 t1 k1 g1 (by omega) (by omega) (fun e hn M2 x2 e2 => ?_) (fun h2' _ h4' M2 x2 m2 t2 k2 g2 => ?_)
    · rw [hn, show (8 : Int32) = nI 8 from rfl, nI_add]
      have X2 := X1.tr (x2.mono xEr_Mp)
      refine (mBack (hM.xf X2) e2 (by omega)).mono ?_
      rintro - M3 ⟨x3, e3⟩
      exact ⟨X2.tr x3, e3⟩
    · have pn2 : pNum x (tkE x p) 0 5 = .inr (dcv x (tkE x p), tkE x (tkE x p)) := by unfold pNum; rw [if_pos h2', if_pos ⟨Nat.zero_le _, h4'⟩]
      have X2 := X1.tr (x2.mono xMt_Mp)
      have F2 := F1.xf x2 (fun _ => rfl)
      generalize hd2 : dcv x (tkE x p) = v at h4' pn2 ⊢
      rw [pn2, Rn_bnd, mA2 m2, Rn_bnd, Rn_gI, g2.1, if_pos (by decide), show (8 : Int32) = nI 8 from rfl, nI_add, Rn_bnd, rn_aI (by omega), mL40 m2, Rn_rtn]
      have x3 : XF xFr M2 (sI M2 40 (8 + k) (nI v)) := XF.rf.sI rfl
      refine ⟨by omega, X2.tr (x3.mono xFr_Mp), g2.xf x3 rfl rfl, ⟨?_, fun l hl1 hl2 j hj => ?_⟩, wf_lose hw h4', k2.xf x3 (fun b _ => rfl), tkE_le hb _⟩
      · show isPgM (Mi (sI M2 40 (8 + k) (nI v)) 40) (pLose P k v)
        refine ⟨by rw [Mi_sI, if_neg (by omega)]; exact F2.1.1, by rw [Mi_sI, if_neg (by omega)]; exact F2.1.2.1, fun j hj => by rw [Mi_sI, if_neg (by omega)]; exact F2.1.t hj, fun j hj => ?_, fun l hl j hj => by rw [Mi_sI, if_neg (by omega)]; exact F2.1.d hl hj⟩
        show _ = nI (updN (Ps P) k v j)
        rw [Mi_sI]; unfold updN
        by_cases e : j = k
        · rw [if_pos ⟨rfl, by omega⟩, if_pos e]
        · rw [if_neg (by omega), if_neg e]; exact F2.1.s hj
      · rw [Mi_sI, if_neg (by omega)]; exact F2.2 l hl1 hl2 j hj
/-- a flag: is it a semicolon -/
theorem mSemiC {α : Type} {A B : Mm → Option (α × Mm)} {Q : α → Mm → Prop} (hk : mTk M x p) (t : tkK x p = 5 → Rn A M Q) (f : tkK x p ≠ 5 → Rn B M Q) : Rn (bnd (gI 38 35) fun v => if (v : Int32) = 4 then A else B) M Q := by
  have k6 : tkK x p ≤ 6 := srt_le _
  have s6 := srM_le k6
  rw [Rn_bnd, Rn_gI, hk.2.2.1]
  exact Rn_cs ((show nI (srM (tkK x p)) = 4 ↔ srM (tkK x p) = 4 from neq (b := 4) (by omega) (by omega)).trans (srM_4 _)) t f
theorem mEndS (hM : MO M) (hx : isTxM M x) (g : gd M) {v : Pg × Nat} (h : stG x v M) : Rn (fX8_readsStatement_L83 38) M (fun _ M' => mP (pEn x v) (stG x) M M') := by
  have hb := hx.2.2.2
  unfold fX8_readsStatement_L83 pEn pSemi
  refine mSemiC h.2.2.1 (fun z => ?_) (fun z => ?_)
  · unfold fX8_readsStatement_L97
    rw [if_pos z, Rn_bnd, mMustT (by decide), Rn_bnd]
    refine mGo hM hx h.2.2.1 g (fun M1 x1 m1 t1 k1 g1 => ?_)
    rw [Rn_rtn]
    exact ⟨x1.mono xMt_Mp, g1, h.1.xf x1 (fun _ => rfl), h.2.1, k1, tkE_le hb _⟩
  · unfold fX8_readsStatement_L97
    rw [if_neg z, Rn_bnd]
    refine mMustF (c := 1) g h.2.2.1.2.1 (by omega) (by omega) (fun M1 x1 e1 => ?_)
    rw [Rn_bnd, mGoE e1, Rn_rtn]
    exact ⟨x1.mono xEr_Mp, e1⟩
theorem mEndSE (h : erS M e) : Rn (fX8_readsStatement_L83 38) M (fun _ M' => M' = M) := by
  unfold fX8_readsStatement_L83 fX8_readsStatement_L97
  rw [Rn_bnd, Rn_gI]
  refine Rn_cs Iff.rfl (fun _ => ?_) (fun _ => ?_)
  · rw [Rn_bnd, mMustE h, Rn_bnd, mGoE h, Rn_rtn]
  · rw [Rn_bnd, mMustE h, Rn_bnd, mGoE h, Rn_rtn]
theorem mTailE (hM : MO M) (h : erS M e) : Rn (fX8_readsLine_L31 38) M (fun _ M' => XF xMp M M' ∧ erS M' e) := by
  have l45 : ∀ b, Rn (fX8_readsLine_L45 38 b 38) M (fun _ M' => XF xMp M M' ∧ erS M' e) := by
    intro b
    unfold fX8_readsLine_L45
    rw [Rn_bnd, mMustE h, Rn_bnd]
    refine (mAddsE hM h).mono ?_
    rintro - M1 x1
    rw [Rn_rtn]
    exact ⟨x1.mono xFr_Mp, h.xf x1 rfl rfl⟩
  unfold fX8_readsLine_L31
  rw [Rn_bnd, Rn_gI]
  exact Rn_cs Iff.rfl (fun _ => l45 1) (fun _ => l45 0)
theorem mTail (hM : MO M) (g : gd M) (hw : wfP P) (hl : PL P < 20) {v : Nat × Nat} (h : lnG x P v M) : Rn (fX8_readsLine_L31 38) M (fun _ M' => mP (pLn x P v) (stG x) M M') := by
  unfold fX8_readsLine_L31 pLn pSemi
  refine mSemiC h.1 (fun z => ?_) (fun z => ?_)
  · unfold fX8_readsLine_L45
    rw [if_pos z, Rn_bnd, mMustT (by decide), Rn_bnd]
    refine (mAddsT hM g h.2.2.2.2.2 hw hl h.2.2.2.2.1 h.2.2.1 h.2.2.2.1).mono ?_
    rintro - M1 ⟨x1, F1⟩
    rw [Rn_rtn]
    exact ⟨x1.mono xFr_Mp, g.xf x1 rfl rfl, F1, wf_add hw h.2.2.2.1 hl, h.1.xf x1 (fun _ _ => rfl), h.2.1⟩
  · unfold fX8_readsLine_L45
    rw [if_neg z, Rn_bnd]
    refine mMustF (c := 1) g h.1.2.1 (by omega) (by omega) (fun M1 x1 e1 => ?_)
    rw [Rn_bnd]
    refine (mAddsE (hM.xf x1) e1).mono ?_
    rintro - M2 x2
    rw [Rn_rtn]
    exact ⟨(x1.mono xEr_Mp).tr (x2.mono xFr_Mp), e1.xf x2 rfl rfl⟩
theorem mt_Lt (b : Nat) (hb : xMt 38 b = true) : xLt 38 b = false := by unfold xMt at hb; unfold xLt; simp at hb ⊢; omega
theorem mLineR (hM : MO M) (hx : isTxM M x) (hk : mTk M x p) (hp : p ≤ x.2) (g : gd M) (hW : isWd M) (hF : isFr M P) (hw : wfP P) (hl : PL P < 20) {k : Nat} (hk2 : k ≤ 2) : Rn (fX8_readsLine 38 (nI k)) M (fun _ M' => mP (pB (lnR x P p k) (pLn x P)) (stG x) M M') := by
  unfold fX8_readsLine
  rw [Rn_bnd]
  refine (mLaysTold hM hF hw).mono ?_
  rintro - M1 ⟨x1, f9, r44, rs⟩
  have X1 := x1.mono xLt_Mp
  have m1 := hM.xf x1
  have t1 := hx.mp X1
  have k1 : mTk M1 x p := hk.xf x1 mt_Lt
  have g1 : gd M1 := g.xf x1 rfl rfl
  have F1 : isFr M1 P := hF.xf x1 (fun _ => rfl)
  have r50 : isRow (Mi M1 50) 0 := rs.2.2.1
  have tail : ∀ (R : Pe (Nat × Nat)) (F : Mm → Option (Unit × Mm)), Rn F M1 (fun _ M' => mP R (lnG x P) M1 M') → Rn (bnd F fun _ => fX8_readsLine_L31 38) M1 (fun _ M' => mP (pB R (pLn x P)) (stG x) M M') := by
    intro R F h
    refine (mP_b (G2 := stG x) (f := pLn x P) h (fun v M2 _ x2 g2 G => ?_) (fun e M2 x2 e2 => ?_)).mono (fun _ M' q => q.tr X1)
    · exact (mTail (m1.xf x2) g2 hw hl G).mono (fun _ M' q => q.tr x2)
    · refine (mTailE (m1.xf x2) e2).mono ?_
      rintro - M' ⟨a, b⟩
      exact ⟨x2.tr a, b⟩
  rcases (show k = 0 ∨ k = 1 ∨ k = 2 by omega) with rfl | rfl | rfl
  · rw [if_pos (by decide)]
    exact tail _ _ (mRowT m1 t1 k1 g1 F1 hw f9 r50)
  · rw [if_neg (by decide), if_pos (by decide)]
    exact tail _ _ (mAloneR m1 t1 k1 hp g1 F1 hw f9 r50)
  · rw [if_neg (by decide), if_neg (by decide)]
    exact tail _ _ (mAboveR m1 t1 g1 (hW.mp X1) hw ⟨k1, hp, rs, r44, f9, F1⟩)
theorem mStmt (hM : MO M) (hx : isTxM M x) (hW : isWd M) (g : gd M) (h : stG x (P, p) M) : Rn (fX8_readsStatement 38) M (fun _ M' => mP (pStmt x P p) (stG x) M M') := by
  have hb := hx.2.2.2
  have hF : isFr M P := h.1
  have hw : wfP P := h.2.1
  have hk : mTk M x p := h.2.2.1
  have h20 := hw.2.2.1
  have l38E : ∀ (e : Nat × Nat) (M1 : Mm) (v b : Int32), erS M1 e → Rn (fX8_readsStatement_L38 38 v b 38) M1 (fun _ M' => M' = M1) := by
    intro e M1 v b e1
    unfold fX8_readsStatement_L38
    rw [Rn_bnd, mMustE e1, Rn_bnd, mGoE e1, Rn_bnd, Rn_gI, if_neg e1.le, Rn_rtn]
  have w9 := wd_le x p
  unfold fX8_readsStatement
  rw [Rn_bnd, mWord hM hx hk hW, Rn_bnd, mInW (lo := 0) (hi := 4) (l := 0) (h := 4) w9 (by omega) rfl rfl (by omega), Rn_bnd]
  by_cases h4 : wd x p ≤ 4
  · rw [decide_eq_true ⟨Nat.zero_le _, h4⟩, mMustT (by decide), show wdI (wd x p) = nI (wd x p) from by unfold wdI; rw [if_neg (by omega)]]
    -- on behind the word
    have go : (2 < wd x p ∨ PL P < 20) → Rn (fX8_readsStatement_L33 38 (nI (wd x p)) 38) M (fun _ M' => mP (pStmt x P p) (stG x) M M') := by
      intro hyes
      unfold fX8_readsStatement_L33 fX8_readsStatement_L38
      rw [Rn_bnd, mMustT (by decide), Rn_bnd]
      refine mGo hM hx hk g (fun M1 x1 m1 t1 k1 g1 => ?_)
      have X1 := x1.mono xMt_Mp
      have F1 := hF.xf x1 (fun _ => rfl)
      have el := tkE_le hb p
      have fin : ∀ (R : Pe (Pg × Nat)) (F : Mm → Option (Unit × Mm)), Rn F M1 (fun _ M' => mP R (stG x) M1 M') → Rn (bnd F fun _ => fX8_readsStatement_L83 38) M1 (fun _ M' => mP (pB R (pEn x)) (stG x) M M') := by
        intro R F h
        refine (mP_b (G2 := stG x) (f := pEn x) h (fun v M2 _ x2 g2 G => ?_) (fun e M2 x2 e2 => ?_)).mono (fun _ M' q => q.tr X1)
        · exact (mEndS (m1.xf x2) (t1.mp x2) g2 G).mono (fun _ M' q => q.tr x2)
        · refine (mEndSE e2).mono ?_
          rintro - M' rfl
          exact ⟨x2, e2⟩
      rw [Rn_bnd, Rn_gI, g1.1, if_pos (by decide)]
      unfold pStmt
      refine Rn_cs (show (2 : Int32) < nI (wd x p) ↔ 2 < wd x p from nlt (a := 2) (by omega) (by omega)) (fun z => ?_) (fun z => ?_)
      · refine Rn_cs (show nI (wd x p) = 3 ↔ wd x p = 3 from neq (b := 3) (by omega) (by omega)) (fun y => ?_) (fun y => ?_)
        · rw [if_pos y, pSetT_eq]
          exact fin _ _ (mSettingR m1 t1 k1 g1 F1 hw)
        · rw [if_neg y, if_pos (show wd x p = 4 by omega), pLossT_eq]
          exact fin _ _ (mLossR m1 t1 k1 g1 F1 hw)
      · rw [if_neg (by omega), if_neg (by omega), if_pos (by omega), if_pos (by omega)]
        have hl : PL P < 20 := by omega
        have key := fin _ _ (mLineR m1 t1 k1 el g1 (hW.mp X1) F1 hw hl (k := wd x p) (by omega))
        rcases (show wd x p = 0 ∨ wd x p = 1 ∨ wd x p = 2 by omega) with y | y | y
        · rw [if_pos y, lnR_0]; rw [y] at key ⊢; exact key
        · rw [if_neg (by omega), if_pos y, lnR_1]; rw [y] at key ⊢; exact key
        · rw [if_neg (by omega), if_neg (by omega), lnR_2]; rw [y] at key ⊢; exact key
    refine Rn_cs (show (2 : Int32) < nI (wd x p) ↔ 2 < wd x p from nlt (a := 2) (by omega) (by omega)) (fun z => go (Or.inl z)) (fun z => ?_)
    rw [Rn_bnd, mA2 hM, show (1 : Int32) = nI 1 from rfl, Rn_bnd, rn_lI (by omega), mL40 hM, hF.1.l]
    refine ⟨by omega, ?_⟩
    refine Rn_cs (show (20 : Int32) ≤ nI (PL P) ↔ 20 ≤ PL P from nle (a := 20) (by omega) (by omega)) (fun y => ?_) (fun y => go (Or.inr (by omega)))
    unfold fX8_readsStatement_L38
    rw [Rn_bnd]
    refine mMustF (c := 5) g hk.2.1 (by omega) (by omega) (fun M1 x1 e1 => ?_)
    rw [Rn_bnd, mGoE e1, Rn_bnd, Rn_gI, if_neg e1.le, Rn_rtn]
    have : pStmt x P p = .inl (5, tkS x p) := by unfold pStmt; rw [if_neg (by omega), if_neg (by omega), if_pos (by omega), if_neg (by omega)]
    rw [this]; exact ⟨x1.mono xEr_Mp, e1⟩
  · rw [decide_eq_false (by omega)]
    refine mMustF (c := 1) g hk.2.1 (by omega) (by omega) (fun M1 x1 e1 => ?_)
    have ep : pStmt x P p = .inl (1, tkS x p) := by unfold pStmt; rw [if_neg (by omega), if_neg (by omega), if_neg (by omega)]
    have fin : ∀ b, Rn (fX8_readsStatement_L38 38 (wdI (wd x p)) b 38) M1 (fun _ M' => mP (pStmt x P p) (stG x) M M') := by
      intro b
      refine (l38E _ M1 _ b e1).mono ?_
      rintro - M2 rfl
      rw [ep]; exact ⟨x1.mono xEr_Mp, e1⟩
    unfold fX8_readsStatement_L33
    refine Rn_cs Iff.rfl (fun _ => fin 1) (fun _ => ?_)
    rw [Rn_bnd, mA2 (hM.xf x1), show (1 : Int32) = nI 1 from rfl, Rn_bnd, rn_lI (by omega), mL40 (hM.xf x1)]
    refine ⟨by omega, ?_⟩
    exact Rn_cs Iff.rfl (fun _ => fin 0) (fun _ => fin (nI 1))
end MSt
