/-! THE CLASS: write and show, as calls -/
def xWr (a b : Nat) : Bool := xOu a b || (decide (16 ≤ a) && decide (a ≤ 36))
theorem xOu_Wr (a b : Nat) (z : xWr a b = false) : xOu a b = false := by unfold xWr at z; cases e : xOu a b <;> simp [e] at z ⊢
theorem xCo_Wr (a b : Nat) (z : xWr a b = false) : xCo 16 a b = false := by unfold xWr at z; unfold xCo; simp at z ⊢; omega
theorem xSd_Wr (a b : Nat) (z : xWr a b = false) : xSd a b = false := by unfold xWr at z; unfold xSd; simp at z ⊢; omega
section CWu
variable {M : Mm} {P : Pg} {O : List Nat}
theorem out_0 : isOut (sI M 0 7 0) [] := ⟨sI_self, Nat.zero_le _, fun i hi => absurd hi (Nat.not_lt_zero _)⟩
theorem isOut.xf {X : Nat → Nat → Bool} {M1 : Mm} (o : isOut M O) (x : XF X M M1) (z : X 0 7 = false) (z2 : ∀ i, X 37 i = false) : isOut M1 O := ⟨by rw [x.mi z]; exact o.1, o.2.1, fun i hi => by rw [x.mi (z2 i)]; exact o.2.2 i hi⟩
theorem cWriteOp (hM : CO M) (hP : isPgC M 1 P) (hw : wfP P) (ho : isOut M O) (x : Int32) : Rn (fX7_write 0 x) M (fun a M' => a = xc 2 2 (spWrite P O x).1 ∧ XF xWr M M' ∧ isOut M' (spWrite P O x).2) := by
  have h20 := hw.2.2.1
  unfold fX7_write spWrite
  rw [Rn_bndX, cNeedLine hM hP hw]
  by_cases g : isLn (PL P) x = true
  · rw [if_pos g, if_pos g]
    obtain ⟨l, hl, rfl⟩ := isLn_t (by omega) g
    rw [ix_n (by omega)]
    show Rn _ M _
    rw [Rn_bnd, Rn_pI]
    have o0 := out_0 (M := M)
    have x0 : XF xWr M (sI M 0 7 0) := XF.rf.sI rfl
    have p0 : isPgC (sI M 0 7 0) 1 P := hP.xf (XF.rf.sI (X := xOu) (a := 0) (b := 7) rfl) xOu_Pg
    generalize sI M 0 7 0 = M0 at o0 x0 p0
    rw [Rn_bnd]
    refine (cIsMark (hM.xf x0) p0 hw hl).mono ?_
    rintro a M1 ⟨rfl, x1, -⟩
    have X1 : XF xWr M M1 := x0.tr (x1.mono xCo_Wr)
    have m1 := hM.xf X1
    have p1 := p0.xf x1 xCo_Pg
    have o1 : isOut M1 [] := o0.xf x1 rfl (fun _ => rfl)
    have fin : ∀ (M2 : Mm) (W : List Nat), XF xWr M M2 → isOut M2 W → Rn (fX7_write_L42 0) M2 (fun a M' => a = .inr (nI W.length) ∧ XF xWr M M' ∧ isOut M' W) := by
      intro M2 W x2 o2
      unfold fX7_write_L42
      rw [Rn_bnd, Rn_gI, o2.1, Rn_rtn]; exact ⟨rfl, x2, o2⟩
    unfold wrLine
    refine Rn_cs (bN_0 _) (fun q => ?_) (fun q => ?_)
    · rw [if_neg (by rw [q]; decide), Rn_bnd]
      refine (cCodeLine m1 p1 hw hl).mono ?_
      rintro - M2 ⟨x2, c2⟩
      have X2 := X1.tr (x2.mono xCo_Wr)
      rw [Rn_bnd]
      refine (cWriteAbove (hM.xf X2) (o1.xf x2 rfl (fun _ => rfl)) c2 (cdl_len hw l) (cod_ok hw.2.1)).mono ?_
      rintro - M3 ⟨x3, o3⟩
      exact fin M3 _ (X2.tr (x3.mono xOu_Wr)) o3
    · have q : isMk P l = true := by simpa using q
      rw [if_pos q, Rn_bnd, cA0_0 m1, Rn_bnd, cRowL m1 p1 hw hl, Rn_bnd]
      refine (cWriteAlone m1 p1 hw o1 hl).mono ?_
      rintro - M3 ⟨x3, o3⟩
      exact fin M3 _ (X1.tr (x3.mono xOu_Wr)) o3
  · rw [if_neg g, if_neg g]; exact ⟨rfl, XF.rf, ho⟩
theorem wrDots_len (r : Nat) : ∀ k, (wrDots r k).length = k
  | 0 => rfl
  | k + 1 => by show (wrDots r k ++ [_]).length = k + 1; rw [List.length_append, wrDots_len r k]; rfl
theorem cShowOp (hM : CO M) (hP : isPgC M 1 P) (hw : wfP P) (ho : isOut M O) (x : Int32) : Rn (fX7_show 0 x) M (fun a M' => a = xc 2 2 (spShow P O x).1 ∧ XF xWr M M' ∧ isOut M' (spShow P O x).2) := by
  have h20 := hw.2.2.1
  have h40 := hw.2.1
  unfold fX7_show spShow
  rw [Rn_bndX, cNeedLine hM hP hw]
  by_cases g : isLn (PL P) x = true
  · rw [if_pos g, if_pos g]
    obtain ⟨l, hl, rfl⟩ := isLn_t (by omega) g
    rw [ix_n (by omega)]
    show Rn _ M _
    refine cPS hM hP hw (fun M1 x1 m1 p1 c1 b1 => ?_)
    rw [Rn_bnd, Rn_pI]
    have o2 := out_0 (M := M1)
    have x2 : XF xOu M1 (sI M1 0 7 0) := XF.rf.sI rfl
    generalize sI M1 0 7 0 = M2 at o2 x2
    have fin : ∀ (M3 : Mm) (W : List Nat), XF xOu M1 M3 → isOut M3 W → Rn (fX7_show_L104 0) M3 (fun a M' => a = .inr (nI W.length) ∧ XF xWr M M' ∧ isOut M' W) := by
      intro M3 W x3 o3
      unfold fX7_show_L104
      rw [Rn_bnd, Rn_gI, o3.1, Rn_rtn]; exact ⟨rfl, (x1.mono xSd_Wr).tr (x3.mono xOu_Wr), o3⟩
    have z3 := zS3 P (Ps P) l
    unfold wrShow
    refine rn_loopv (F := fun n k => fX7_show_L34 n 0 (nI l) (nI k)) (fun k M' => XF xOu M1 M' ∧ isOut M' (wrDots (zG (sndA P (Ps P)) l) k) ∧ k ≤ Pw P) (fun k => Pw P - k) ?_ fu 0 M2 (by unfold fu; omega) ⟨x2, o2, Nat.zero_le _⟩
    rintro n k M3 ⟨x3, o3, hk⟩ ih
    have m3 := m1.xf x3
    have p3 := p1.xf x3 xOu_Pg
    have s3 : Mi M3 24 l = nI (zS (sndA P (Ps P)) l) := by rw [x3.mi rfl]; exact c1.2.1 l (by omega)
    have r3 : Mj M3 23 l = lN (zG (sndA P (Ps P)) l) := by rw [x3.mj rfl]; exact c1.1 l (by omega)
    show Rn (fX7_show_L34 (n + 1) 0 (nI l) (nI k)) M3 _
    unfold fX7_show_L34
    rw [Rn_bnd, cA0_0 m3, Rn_bnd, cW p3]
    refine Rn_cs (nle (by omega) (by omega)) (fun q => ?_) (fun q => ?_)
    · have ek : k = Pw P := by omega
      rw [ek] at o3
      rw [Rn_bnd, cA0_5 m3, Rn_bnd, cA22_8 m3, Rn_bnd, rn_lI (by omega), cL24 m3, s3]
      refine ⟨by omega, Rn_cs (show nI (zS (sndA P (Ps P)) l) = 0 ↔ zS (sndA P (Ps P)) l = 0 from neq (b := 0) (by omega) (by omega)) (fun q1 => ?_) (fun q1 => ?_)⟩
      · rw [if_pos q1, List.append_nil]; exact fin M3 _ x3 o3
      · rw [if_neg q1, Rn_bnd, cA0_5 m3, Rn_bnd, cA22_8 m3, Rn_bnd, rn_lI (by omega), cL24 m3, s3]
        refine ⟨by omega, ?_⟩
        rw [Rn_bnd]
        refine (cPutNumber m3 o3 (by rw [nI_tI (by omega)]; omega) (by rw [wrDots_len]; omega)).mono ?_
        rintro - M4 ⟨x4, o4⟩
        rw [dgS_n (by omega)] at o4
        exact fin M4 _ (x3.tr x4) o4
    · rw [Rn_bnd, cA0_5 m3, Rn_bnd, cA22_7 m3, Rn_bnd, rn_lJ (by omega), cL23 m3, r3]
      refine ⟨by omega, ?_⟩
      unfold fX7_show_L70
      rw [Rn_bnd, fCol h40 (b1 l hl) (by omega)]
      have step : ∀ c, c < 128 → c = (if (zG (sndA P (Ps P)) l).testBit k = true then 35 else 46) → Rn (bnd (fX7_putSign 0 (nI c)) fun _ => fX7_show_L34 n 0 (nI l) (nI k + 1)) M3 (fun a M' => a = xc 2 2 (.inr (nI (wrDots (zG (sndA P (Ps P)) l) (Pw P) ++ (if zS (sndA P (Ps P)) l = 0 then [] else dg (zS (sndA P (Ps P)) l))).length)) ∧ XF xWr M M' ∧ isOut M' (wrDots (zG (sndA P (Ps P)) l) (Pw P) ++ (if zS (sndA P (Ps P)) l = 0 then [] else dg (zS (sndA P (Ps P)) l)))) := by
        intro c hc he
        rw [Rn_bnd]
        refine (cPutSign m3 o3 hc (by rw [wrDots_len]; omega)).mono ?_
        rintro - M4 ⟨x4, o4⟩
        rw [nL1, nI_add]
        rw [he] at o4
        exact ih (k + 1) M4 ⟨x3.tr x4, o4, by omega⟩ (by omega)
      refine Rn_cs (d := (zG (sndA P (Ps P)) l).testBit k = true) (by cases (zG (sndA P (Ps P)) l).testBit k <;> decide) (fun q1 => ?_) (fun q1 => ?_)
      · exact step 35 (by omega) (by rw [if_pos q1])
      · exact step 46 (by omega) (by rw [if_neg q1])
  · rw [if_neg g, if_neg g]; exact ⟨rfl, XF.rf, ho⟩
end CWu
