/-! THE CLASS: a text is read -/
theorem wf_pg0 {w : Nat} (h8 : 8 ≤ w) (h40 : w ≤ 40) : wfP (pg0 w) := by
  refine ⟨h8, h40, Nat.zero_le _, fun l hl => absurd hl (Nat.not_lt_zero _), fun l _ => Nat.zero_le _, ⟨?_, ?_⟩, ?_, ?_, ?_, ?_, ?_⟩
  · show 1 ≤ 4; omega
  · show 4 ≤ 8; omega
  · show 0 ≤ 1; omega
  · show 0 ≤ 1; omega
  · show 0 ≤ 9; omega
  · show 8 ≤ 99; omega
  · show 16 ≤ 99; omega
section CText
variable {M : Mm} {x : Tx} {h : Nat}
theorem cClearPg (o : PgO M h) : Rn (fX2_clear h) M (fun _ M' => XF (xPgH h) M M' ∧ isPgC M' h (pg0 16)) := by
  have T : ∀ a b, h ≤ a → a ≤ h + 3 → xPgH h a b = true := fun a b h1 h2 => xPgH_t h1 h2
  unfold fX2_clear
  rw [Rn_bnd, Rn_pI, Rn_bnd, Rn_pI]
  have x0 : XF (xPgH h) M (sI (sI M h 0 16) h 1 0) := (XF.rf.sI (T _ _ (by omega) (by omega))).sI (T _ _ (by omega) (by omega))
  have s0 : Mi (sI (sI M h 0 16) h 1 0) h 0 = nI 16 := by rw [Mi_sI, if_neg (by omega), sI_self]; rfl
  have s1 : Mi (sI (sI M h 0 16) h 1 0) h 1 = nI 0 := sI_self
  generalize sI (sI M h 0 16) h 1 0 = M0 at x0 s0 s1
  refine rn_loopv (F := fun n i => fX2_clear_L13 n h (nI i)) (fun i M' => XF (xPgH h) M M' ∧ Mi M' h 0 = nI 16 ∧ Mi M' h 1 = nI 0 ∧ i ≤ 20 ∧ ∀ l, l < i → Mi M' (h + 2) l = nI 0) (fun i => 20 - i) ?_ fu 0 M0 (by unfold fu; omega) ⟨x0, s0, s1, by omega, fun l hl => by omega⟩
  rintro n i M1 ⟨x1, t0, t1, hi, a2⟩ ih
  have o1 := o.xf x1
  show Rn (fX2_clear_L13 (n + 1) h (nI i)) M1 _
  unfold fX2_clear_L13
  refine Rn_cs (show (20 : Int32) ≤ nI i ↔ 20 ≤ i from nle (a := 20) (by omega) (by omega)) (fun q => ?_) (fun q => ?_)
  · refine rn_loopv (F := fun n i => fX2_clear_L41 n h (nI i)) (fun i M' => XF (xPgH h) M M' ∧ Mi M' h 0 = nI 16 ∧ Mi M' h 1 = nI 0 ∧ (∀ l, l < 20 → Mi M' (h + 2) l = nI 0) ∧ i ≤ 6 ∧ ∀ k, k < i → Mi M' (h + 3) k = nI ([4, 0, 0, 0, 8, 16].getD k 0)) (fun i => 6 - i) ?_ fu 0 M1 (by unfold fu; omega) ⟨x1, t0, t1, fun l hl => a2 l (by omega), by omega, fun k hk => by omega⟩
    rintro n i M1 ⟨x1, t0, t1, a2, hi, a4⟩ ih
    have o1 := o.xf x1
    show Rn (fX2_clear_L41 (n + 1) h (nI i)) M1 _
    unfold fX2_clear_L41
    refine Rn_cs (show (6 : Int32) ≤ nI i ↔ 6 ≤ i from nle (a := 6) (by omega) (by omega)) (fun q => ?_) (fun q => ?_)
    · rw [Rn_rtn]
      exact ⟨x1, t0, t1, fun l hl => absurd hl (Nat.not_lt_zero _), a2, fun k hk => a4 k (by omega)⟩
    · rw [Rn_bnd, Rn_gA o1.2.2.1, Rn_bnd, Rn_tS, vpB_nI (by omega), nI_clamp (by omega), sS0 i (by omega)]
      refine ⟨by simp; omega, ?_⟩
      rw [Rn_bnd, rn_aI (by omega), o1.2.2.2.2.2]
      refine ⟨by omega, ?_⟩
      rw [nL1, nI_add]
      refine ih (i + 1) _ ⟨x1.sI (T _ _ (by omega) (by omega)), by rw [Mi_sI, if_neg (by omega)]; exact t0, by rw [Mi_sI, if_neg (by omega)]; exact t1, fun l hl => by rw [Mi_sI, if_neg (by omega)]; exact a2 l hl, by omega, fun k hk => ?_⟩ (by omega)
      rw [Mi_sI]
      by_cases q2 : k = i
      · rw [if_pos ⟨rfl, q2⟩, q2]
      · rw [if_neg (fun z => q2 z.2)]; exact a4 k (by omega)
  · rw [Rn_bnd, Rn_gA o1.1, Rn_bnd, rn_aJ (by omega), o1.2.2.2.1]
    refine ⟨by omega, ?_⟩
    have x2 : XF (xPgH h) M (sJ M1 (h + 1) i 0) := x1.sJ (T _ _ (by omega) (by omega))
    have o2 := o.xf x2
    rw [Rn_bnd, Rn_gA o2.2.1, Rn_bnd, rn_aI (by omega), o2.2.2.2.2.1]
    refine ⟨by omega, ?_⟩
    rw [nL1, nI_add]
    refine ih (i + 1) _ ⟨x2.sI (T _ _ (by omega) (by omega)), by rw [Mi_sI, if_neg (by omega)]; exact t0, by rw [Mi_sI, if_neg (by omega)]; exact t1, by omega, fun l hl => ?_⟩ (by omega)
    rw [Mi_sI]
    by_cases q2 : l = i
    · rw [if_pos ⟨rfl, q2⟩]; rfl
    · rw [if_neg (fun z => q2 z.2)]; exact a2 l (by omega)
theorem cReadWide (hM : CO M) (hx : isTx M x) {p : Nat} (hk : isTk M x p) (hP : isPgC M 11 (pg0 16)) : Rn (fX3_readWide 8) M (fun a M' => prM (pB (pNum x (tkE x p) 8 40) (fun v => pB (pSemi x v.2) (fun p' => .inr (pg0 v.1, p')))) (atG x) a M M') := by
  unfold fX3_readWide
  refine cNx hM hx hk (fun M1 x1 m1 t1 k1 => ?_)
  have p1 := hP.tk x1
  refine cNN0 (x1.mono xTk_Pr) (x1.mi rfl) (x1.mi rfl) m1 t1 k1 (lo := 8) (hi := 40) (by omega) (by omega) (fun h2 h3 h4 => ?_)
  generalize hd : dcv x (tkE x p) = d at h3 h4
  rw [Rn_bnd, cA8_3 m1, Rn_bnd, cA8_2 m1, Rn_bnd, cNum m1 t1 k1 h2 (by omega), hd, Rn_bnd, Rn_pI]
  have x2 : XF (xPgH 11) M1 (sI M1 11 0 (nI d)) := XF.rf.sI (xPgH_t (by omega) (by omega))
  have p2 : isPgC (sI M1 11 0 (nI d)) 11 (pg0 d) := by
    refine ⟨sI_self, by rw [Mi_sI, if_neg (by omega)]; exact p1.2.1, fun l hl => absurd hl (Nat.not_lt_zero _), fun l hl => ?_, fun k hk => ?_⟩
    · rw [Mi_sI, if_neg (by omega)]; exact p1.2.2.2.1 l hl
    · rw [Mi_sI, if_neg (by omega)]; exact p1.2.2.2.2 k hk
  generalize sI M1 11 0 (nI d) = M2 at x2 p2
  have X2 := x2.mono xPg_Pr
  refine cNx (m1.xf x2) (t1.pr X2) (k1.xf x2 (fun b _ => xPgH_0 (by omega))) (fun M3 x3 m3 t3 k3 => ?_)
  refine (cSemiG m3 t3 k3 (p2.tk x3) (wf_pg0 h3 h4)).mono ?_
  intro a M4 q
  exact q.tr ((x1.mono xTk_Pr).tr (X2.tr (x3.mono xTk_Pr))) (((x3.mi rfl).trans (x2.mi (xPgH_0 (by omega)))).trans (x1.mi rfl)) (((x3.mi rfl).trans (x2.mi (xPgH_0 (by omega)))).trans (x1.mi rfl))
/-- what reading a text leaves -/
def rtG (x : Tx) (a : Int32) (M M' : Mm) : Prop := XF xPr M M' ∧ match spText x with
  | .inl e => a = nI 0 ∧ Mi M' 8 0 = nI e.1 ∧ Mi M' 8 1 = nI e.2
  | .inr Q => a = nI 1 ∧ Mi M' 8 0 = nI 0 ∧ Mi M' 8 1 = -1 ∧ isPgC M' 11 Q ∧ wfP Q
theorem cReadText (hM : CO M) (hx : isTx M x) : Rn (fX3_readText 8) M (fun a M' => rtG x a M M') := by
  have h9 := hx.2.1
  have hb := hx.2.2.2
  unfold fX3_readText
  rw [Rn_bnd, Rn_pI, Rn_bnd, Rn_pI]
  have x0 : XF xPr M (sI (sI M 8 0 0) 8 1 (-1)) := (XF.rf.sI rfl).sI rfl
  have f0 : Mi (sI (sI M 8 0 0) 8 1 (-1)) 8 0 = nI 0 := by rw [Mi_sI, if_neg (by omega), sI_self]; rfl
  have f1 : Mi (sI (sI M 8 0 0) 8 1 (-1)) 8 1 = -1 := sI_self
  generalize sI (sI M 8 0 0) 8 1 (-1) = M0 at x0 f0 f1
  have m0 := hM.xf x0
  rw [Rn_bnd, cA8_3 m0, Rn_bnd]
  refine (cClearPg m0.p11).mono ?_
  rintro - M1 ⟨x1, p1⟩
  have X1 : XF xPr M M1 := x0.tr (x1.mono xPg_Pr)
  have m1 := hM.xf X1
  unfold fX6_begin
  rw [Rn_bnd, cA8_2 m1, Rn_bnd, Rn_bnd, Rn_pI, Rn_bnd]
  have x2 : XF xTk M1 (sI M1 9 3 0) := XF.rf.sI rfl
  have g3 : Mi (sI M1 9 3 0) 9 3 = nI 0 := sI_self
  generalize sI M1 9 3 0 = M2 at x2 g3
  have X2 : XF xPr M M2 := X1.tr (x2.mono xTk_Pr)
  refine (cNext (hM.xf X2) (hx.pr X2) (Nat.zero_le _) g3).mono ?_
  rintro - M3 ⟨x3, k3⟩
  have X3 : XF xPr M M3 := X2.tr (x3.mono xTk_Pr)
  have m3 := hM.xf X3
  have t3 := hx.pr X3
  have p3 : isPgC M3 11 (pg0 16) := (p1.tk x2).tk x3
  have e0 : Mi M3 8 0 = nI 0 := (((x3.mi rfl).trans (x2.mi rfl)).trans (x1.mi (xPgH_0 (by omega)))).trans f0
  have e1 : Mi M3 8 1 = -1 := (((x3.mi rfl).trans (x2.mi rfl)).trans (x1.mi (xPgH_0 (by omega)))).trans f1
  rw [Rn_rtn]
  -- statements from a token on
  have go : ∀ (M4 : Mm) (P : Pg) (q : Nat), XF xPr M M4 → Mi M4 8 0 = nI 0 → Mi M4 8 1 = -1 → isTk M4 x q → q ≤ x.2 → isPgC M4 11 P → wfP P → spText x = stmtN x 1000 P q → Rn (fX3_readText_L43 8) M4 (fun a M' => rtG x a M M') := by
    intro M4 P q x4 y0 y1 k4 hq p4 w4 he
    have t4 := hx.pr x4
    unfold fX3_readText_L43 fX3_readText_L48
    rw [Rn_bnd, cA8_2 (hM.xf x4), Rn_bnd, Rn_gI, t4.1]
    refine (cStmts (hM.xf x4) t4 k4 hq p4 w4).mono ?_
    intro a M5 z
    unfold rtG
    rw [he]
    unfold prM at z
    cases hs : stmtN x 1000 P q with
    | inl e =>
      rw [hs] at z
      obtain ⟨rfl, z1, z2, z3⟩ := z
      exact ⟨x4.tr z3, rfl, z1, z2⟩
    | inr Q =>
      rw [hs] at z
      obtain ⟨rfl, z1, z2, z3, z4, z5⟩ := z
      exact ⟨x4.tr z1, rfl, z2.trans y0, z3.trans y1, z4, z5⟩
  rw [Rn_bnd, cA8_2 m3, Rn_bnd, cWord m3 t3 k3 (i := 0) (w := 5) (by decide)]
  refine Rn_cs (bN_0 _) (fun g => ?_) (fun g => ?_)
  · have g : wd x 0 ≠ 5 := fun z => by rw [(wd_w (by omega)).mp z] at g; cases g
    exact go M3 (pg0 16) 0 X3 e0 e1 k3 (Nat.zero_le _) p3 (wf_pg0 (by omega) (by omega)) (by unfold spText; rw [if_neg g])
  · have g : wd x 0 = 5 := (wd_w (by omega)).mpr (by simpa using g)
    rw [Rn_bnd]
    refine (cReadWide m3 t3 k3 p3).mono ?_
    intro a M4 z
    have es : spText x = pB (pB (pNum x (tkE x 0) 8 40) (fun v => pB (pSemi x v.2) (fun p' => .inr (pg0 v.1, p')))) (fun v => stmtN x 1000 v.1 v.2) := by
      unfold spText
      rw [if_pos g]
      cases pNum x (tkE x 0) 8 40 with
      | inl e => rfl
      | inr v =>
        show pB (pSemi x v.2) (fun p => stmtN x 1000 (pg0 v.1) p) = pB (pB (pSemi x v.2) (fun p' => .inr (pg0 v.1, p'))) (fun v => stmtN x 1000 v.1 v.2)
        cases pSemi x v.2 <;> rfl
    cases hs : pB (pNum x (tkE x 0) 8 40) (fun v => pB (pSemi x v.2) (fun p' => .inr (pg0 v.1, p'))) with
    | inl e =>
      rw [hs] at z es
      obtain ⟨rfl, z1, z2, z3⟩ := z
      have X4 := X3.tr z3
      have t4 := hx.pr X4
      rw [if_pos (by decide)]
      unfold fX3_readText_L48
      rw [Rn_bnd, cA8_2 (hM.xf X4), Rn_bnd, Rn_gI, t4.1]
      have stop : Rn (grd ((0 : Int32) == 0 || (0 : Int32) == 1) (rtn (0 : Int32))) M4 (fun a M' => rtG x a M M') := by
        rw [Rn_grd, Rn_rtn]
        refine ⟨by decide, ?_⟩
        unfold rtG
        rw [es]
        exact ⟨X4, rfl, z1, z2⟩
      show Rn (fX3_readText_L57 (19999 + 1) 8 0 (nI x.2)) M4 _
      unfold fX3_readText_L57
      refine Rn_cs (show nI x.2 ≤ 0 ↔ x.2 ≤ 0 from nle (b := 0) (by omega) (by omega)) (fun _ => stop) (fun _ => ?_)
      rw [if_pos rfl]; exact stop
    | inr v =>
      rw [hs] at z es
      obtain ⟨rfl, z1, z2, z3, z4⟩ := z
      rw [if_neg (by decide)]
      exact go M4 v.1 v.2 (X3.tr z1) (z2.trans e0) (z3.trans e1) z4.2.2.1 z4.2.2.2 z4.1 z4.2.1 es
end CText

