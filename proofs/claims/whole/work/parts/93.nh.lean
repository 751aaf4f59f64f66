/-! THE REFERENCE: write, show, output -/
def xWm (a b : Nat) : Bool := xRd a b || xOm a b
theorem xRd_Wm (a b : Nat) (z : xWm a b = false) : xRd a b = false := by unfold xWm at z; cases e : xRd a b <;> simp [e] at z ⊢
theorem xOm_Wm (a b : Nat) (z : xWm a b = false) : xOm a b = false := by unfold xWm at z; cases e : xOm a b <;> simp [e] at z ⊢
def xHm (a b : Nat) : Bool := xSq a b || xOm a b
theorem xSq_Hm (a b : Nat) (z : xHm a b = false) : xSq a b = false := by unfold xHm at z; cases e : xSq a b <;> simp [e] at z ⊢
theorem xOm_Hm (a b : Nat) (z : xHm a b = false) : xOm a b = false := by unfold xHm at z; cases e : xOm a b <;> simp [e] at z ⊢
section MWs
variable {M : Mm} {P : Pg} {O : List Nat}
theorem mWriteOp (hM : MO M) (hP : isPgM (Mi M 39) P) (hw : wfP P) (hW : isWd M) (ho : mOut M O) (x : Int32) : Rn (fX8_write 38 x) M (fun b M' => mR (spWrite P O x).1 b M' ∧ XF xWm M M' ∧ mOut M' (spWrite P O x).2) := by
  have h20 := hw.2.2.1
  have h40 := hw.2.1
  unfold fX8_write spWrite fX8_write_L14
  rw [Rn_bnd, mIsLine hM hP hw]
  refine Rn_cs (bN_0 _) (fun g => ?_) (fun g => ?_)
  · rw [if_neg (by rw [g]; decide)]
    refine mPI0 hM hP (fun M0 x0 t0 m0 p0 => ?_)
    rw [Rn_bnd, Rn_gI, t0, if_neg (by decide), Rn_rtn]
    exact ⟨mR_l (c := 1) t0, x0.mono xRd_Wm, ho.xf x0 rfl (fun _ => rfl)⟩
  · have g : isLn (PL P) x = true := by simpa using g
    obtain ⟨l, hl, rfl⟩ := isLn_t (by omega) g
    rw [if_pos g, ix_n (by omega)]
    refine mPI0 hM hP (fun M0 x0 t0 m0 p0 => ?_)
    rw [Rn_bnd, Rn_gI, t0, if_pos (by decide), Rn_bnd]
    refine (mMark m0 p0 hw hl).mono ?_
    rintro a M1 ⟨rfl, x1⟩
    have m1 := m0.xf x1
    have p1 : isPgM (Mi M1 39) P := by rw [x1.row (fun _ => rfl)]; exact p0
    rw [Rn_bnd]
    refine (mCLine m1 p1 hw hl).mono ?_
    rintro - M2 ⟨x2, c2⟩
    have m2 := m1.xf x2
    rw [Rn_bnd, Rn_pI]
    have x3 : XF xOm M2 (sI M2 38 41 0) := XF.rf.sI rfl
    have o3 := mout_0 (M := M2)
    have c3 : cdAt (sI M2 38 41 0) P l := by
      obtain ⟨a1, a2, a3, a4, a5, a6, a7⟩ := c2
      have k : ∀ a, a ≠ 38 → Mi (sI M2 38 41 0) a = Mi M2 a := fun a z => funext fun b => ne_row z b
      refine ⟨by rw [Mi_sI, if_neg (by omega)]; exact a1, by rw [k 44 (by omega)]; exact a2, by rw [k 45 (by omega)]; exact a3, by rw [Mi_sI, if_neg (by omega)]; exact a4, by rw [k 46 (by omega), k 47 (by omega), k 48 (by omega), k 49 (by omega)]; exact a5, by rw [Mi_sI, if_neg (by omega)]; exact a6, by rw [k 51 (by omega)]; exact a7⟩
    generalize sI M2 38 41 0 = M3 at x3 o3 c3 ⊢
    have m3 := m2.xf x3
    have X3 : XF xWm M M3 := (x0.mono xRd_Wm).tr ((x1.mono (fun a b z => xCd_Rd a b (xRd_Wm a b z))).tr ((x2.mono (fun a b z => xCd_Rd a b (xRd_Wm a b z))).tr (x3.mono xOm_Wm)))
    have W3 : isWd M3 := hW.xf X3 (fun _ => rfl)
    have z3 : Mi M3 38 0 = nI 0 := by rw [x3.mi rfl, x2.mi rfl, x1.mi rfl]; exact t0
    obtain ⟨-, -, -, n14, cd, n19, rn⟩ := c3
    generalize hr : Pr P l = r at n14 cd n19 rn
    generalize hu : Pu P l = u at n14 cd
    have cl := cod_len (Pw P) r u
    have rl := runs_len (Pw P) r
    have cok := cod_ok (w := Pw P) (r := r) (u := u) h40
    have fin : ∀ (M4 : Mm) (W : List Nat), XF xOm M3 M4 → mOut M4 W → W = wrLine P l → Rn (fX8_write_L116 38) M4 (fun b M' => mR (.inr (nI (wrLine P l).length)) b M' ∧ XF xWm M M' ∧ mOut M' (wrLine P l)) := by
      rintro M4 W x4 o4 rfl
      unfold fX8_write_L116
      rw [Rn_bnd, Rn_gI, o4.1, Rn_rtn]
      exact ⟨mR_r (by rw [x4.mi rfl]; exact z3), X3.tr (x4.mono xOm_Wm), o4⟩
    -- no runs, no modes
    have noM : ∀ (M4 : Mm) (W : List Nat), XF xOm M3 M4 → mOut M4 W → W = wrLine P l → Rn (fX8_write_L91 38 (nI (bN true))) M4 (fun b M' => mR (.inr (nI (wrLine P l).length)) b M' ∧ XF xWm M M' ∧ mOut M' (wrLine P l)) := by
      intro M4 W x4 o4 hW4
      unfold fX8_write_L91
      show Rn (fX8_write_L93 (19999 + 1) 38 (nI (bN true)) 0) M4 _
      unfold fX8_write_L93
      rw [Rn_bnd, Rn_gI]
      refine Rn_cs Iff.rfl (fun _ => fin M4 W x4 o4 hW4) (fun _ => ?_)
      rw [if_neg (by decide)]; exact fin M4 W x4 o4 hW4
    have wl : wrLine P l = if isMk P l = true then [97, 108, 111, 110, 101] ++ wrRuns (runs (Pw P) r) else [97, 98, 111, 118, 101] ++ wrModes (cod (Pw P) r u) := by unfold wrLine; rw [hr, hu]
    refine Rn_cs (bN_0 _) (fun q => ?_) (fun q => ?_)
    · rw [q]
      rw [q, if_neg (by decide)] at wl
      unfold fX8_write_L52
      rw [Rn_bnd, show (2 : Int32) = nI 2 from rfl]
      refine (mPWord m3 W3 o3 (w := 2) (by omega) (by decide)).mono ?_
      rintro - M4 ⟨x4, o4⟩
      have o4 : mOut M4 [97, 98, 111, 118, 101] := o4
      show Rn (fX8_write_L57 (19999 + 1) 38 (nI (bN false)) 0) M4 _
      -- the modes
      have modes : Rn (fX8_write_L91 38 (nI (bN false))) M4 (fun b M' => mR (.inr (nI (wrLine P l).length)) b M' ∧ XF xWm M M' ∧ mOut M' (wrLine P l)) := by
        unfold fX8_write_L91
        refine rn_loopv (F := fun n j => fX8_write_L93 n 38 (nI (bN false)) (nI j)) (fun j M' => XF xOm M3 M' ∧ mOut M' ([97, 98, 111, 118, 101] ++ wrModes ((cod (Pw P) r u).take j)) ∧ j ≤ (cod (Pw P) r u).length) (fun j => (cod (Pw P) r u).length - j) ?_ fu 0 M4 (by unfold fu; omega) ⟨x4, by rw [List.take_zero]; exact o4, Nat.zero_le _⟩
        rintro n j M5 ⟨x5, o5, hj⟩ ih
        have m5 := m3.xf x5
        have n5 : Mi M5 38 14 = nI (cod (Pw P) r u).length := by rw [x5.mi rfl]; exact n14
        have cd5 : isCd (Mi M5 46) (Mi M5 47) (Mi M5 48) (Mi M5 49) (cod (Pw P) r u) := by rw [x5.row (fun _ => rfl), x5.row (fun _ => rfl), x5.row (fun _ => rfl), x5.row (fun _ => rfl)]; exact cd
        show Rn (fX8_write_L93 (n + 1) 38 (nI (bN false)) (nI j)) M5 _
        unfold fX8_write_L93
        rw [Rn_bnd, Rn_gI, n5]
        refine Rn_cs (nle (by omega) (by omega)) (fun y => ?_) (fun y => ?_)
        · rw [List.take_of_length_le y] at o5
          exact fin M5 _ x5 o5 wl.symm
        · have tl : ((cod (Pw P) r u).take j).length = j := by rw [List.length_take]; omega
          have wm := wrModes_le ((cod (Pw P) r u).take j) (fun m hm => cok m (List.mem_of_mem_take hm))
          rw [tl] at wm
          have ol : ([97, 98, 111, 118, 101] ++ wrModes ((cod (Pw P) r u).take j)).length ≤ 5 + 7 * j := by rw [List.length_append]; show 5 + _ ≤ _; omega
          have hm : (cod (Pw P) r u)[j]? = some ((cod (Pw P) r u)[j]'(by omega)) := List.getElem?_eq_getElem (by omega)
          rw [if_pos (by decide), Rn_bnd]
          refine (mPMode m5 o5 cd5 (by omega) hm (cok _ (List.getElem_mem _)) (by omega)).mono ?_
          rintro - M6 ⟨x6, o6⟩
          rw [nL1, nI_add]
          refine ih (j + 1) M6 ⟨x5.tr x6, ?_, by omega⟩ (by omega)
          have et : (cod (Pw P) r u).take (j + 1) = (cod (Pw P) r u).take j ++ [(cod (Pw P) r u)[j]'(by omega)] := by rw [List.take_succ, hm]; rfl
          rw [et, wrModes_app, ← List.append_assoc]
          show mOut M6 (_ ++ (32 :: wrMode ((cod (Pw P) r u)[j]'(by omega)) ++ []))
          rw [List.append_nil]; exact o6
      unfold fX8_write_L57
      rw [Rn_bnd, Rn_gI]
      refine Rn_cs Iff.rfl (fun _ => modes) (fun _ => ?_)
      rw [if_pos (by decide)]; exact modes
    · have q : isMk P l = true := by simpa using q
      rw [q]
      rw [q, if_pos rfl] at wl
      unfold fX8_write_L52
      rw [Rn_bnd, show (1 : Int32) = nI 1 from rfl]
      refine (mPWord m3 W3 o3 (w := 1) (by omega) (by decide)).mono ?_
      rintro - M4 ⟨x4, o4⟩
      have o4 : mOut M4 [97, 108, 111, 110, 101] := o4
      refine rn_loopv (F := fun n j => fX8_write_L57 n 38 (nI (bN true)) (nI j)) (fun j M' => XF xOm M3 M' ∧ mOut M' ([97, 108, 111, 110, 101] ++ wrRuns ((runs (Pw P) r).take j)) ∧ j ≤ (runs (Pw P) r).length) (fun j => (runs (Pw P) r).length - j) ?_ fu 0 M4 (by unfold fu; omega) ⟨x4, by rw [List.take_zero]; exact o4, Nat.zero_le _⟩
      rintro n j M5 ⟨x5, o5, hj⟩ ih
      have m5 := m3.xf x5
      have n5 : Mi M5 38 19 = nI (runs (Pw P) r).length := by rw [x5.mi rfl]; exact n19
      show Rn (fX8_write_L57 (n + 1) 38 (nI (bN true)) (nI j)) M5 _
      unfold fX8_write_L57
      rw [Rn_bnd, Rn_gI, n5]
      refine Rn_cs (nle (by omega) (by omega)) (fun y => ?_) (fun y => ?_)
      · rw [List.take_of_length_le y] at o5
        exact noM M5 _ x5 o5 wl.symm
      · have tl : ((runs (Pw P) r).take j).length = j := by rw [List.length_take]; omega
        have wm := wrRuns_le ((runs (Pw P) r).take j)
        rw [tl] at wm
        have ol : ([97, 108, 111, 110, 101] ++ wrRuns ((runs (Pw P) r).take j)).length ≤ 5 + 3 * j := by rw [List.length_append]; show 5 + _ ≤ _; omega
        rw [if_neg (by decide), Rn_bnd, show (32 : Int32) = nI 32 from rfl]
        refine (mPrints m5 o5 (by omega) (by omega)).mono ?_
        rintro - M6 ⟨x6, o6⟩
        have X6 := x5.tr x6
        have m6 := m3.xf X6
        have hj' : j < (runs (Pw P) r).length := by omega
        have hm : (runs (Pw P) r)[j]? = some ((runs (Pw P) r)[j]'hj') := List.getElem?_eq_getElem hj'
        have r6 : Mi M6 51 j = nI ((runs (Pw P) r)[j]'hj') := by rw [X6.mi rfl]; exact rn j _ hm
        have rb := runs_b (w := Pw P) (r := r) _ (List.getElem_mem hj')
        rw [Rn_bnd, mA18 m6, Rn_bnd, rn_lI (by omega), mL51 m6, r6]
        refine ⟨by omega, ?_⟩
        rw [Rn_bnd]
        refine (mPNum' m6 o6 (by rw [nI_tI (by omega)]; omega) rfl (by omega) (by rw [List.length_append]; show _ + 1 + 2 ≤ 300; omega)).mono ?_
        rintro - M7 ⟨x7, o7⟩
        rw [nL1, nI_add]
        refine ih (j + 1) M7 ⟨X6.tr x7, ?_, by omega⟩ (by omega)
        have et : (runs (Pw P) r).take (j + 1) = (runs (Pw P) r).take j ++ [(runs (Pw P) r)[j]'hj'] := by rw [List.take_succ, hm]; rfl
        rw [et, wrRuns_app, ← List.append_assoc]
        rw [dgS_n (by omega), List.append_assoc] at o7
        show mOut M7 (_ ++ (32 :: dg ((runs (Pw P) r)[j]'hj') ++ []))
        rw [List.append_nil]; exact o7
theorem mShowOp (hM : MO M) (hP : isPgM (Mi M 39) P) (hw : wfP P) (ho : mOut M O) (x : Int32) : Rn (fX8_show 38 x) M (fun b M' => mR (spShow P O x).1 b M' ∧ XF xHm M M' ∧ Mi M' 39 = Mi M 39 ∧ mOut M' (spShow P O x).2) := by
  have h20 := hw.2.2.1
  have h40 := hw.2.1
  unfold fX8_show spShow fX8_show_L14
  rw [Rn_bnd, mIsLine hM hP hw]
  refine Rn_cs (bN_0 _) (fun g => ?_) (fun g => ?_)
  · rw [if_neg (by rw [g]; decide)]
    refine mPI0 hM hP (fun M0 x0 t0 m0 p0 => ?_)
    rw [Rn_bnd, Rn_gI, t0, if_neg (by decide), Rn_rtn]
    exact ⟨mR_l (c := 1) t0, x0.mono (fun a b z => xRd_Sq a b (xSq_Hm a b z)), x0.row (fun _ => rfl), ho.xf x0 rfl (fun _ => rfl)⟩
  · have g : isLn (PL P) x = true := by simpa using g
    obtain ⟨l, hl, rfl⟩ := isLn_t (by omega) g
    rw [if_pos g, ix_n (by omega)]
    refine mPI0 hM hP (fun M0 x0 t0 m0 p0 => ?_)
    rw [Rn_bnd, Rn_gI, t0, if_pos (by decide), Rn_bnd]
    refine (mSendPage m0 p0 hw).mono ?_
    rintro - M1 ⟨x1, s1⟩
    have m1 := m0.xf x1
    rw [Rn_bnd, Rn_pI]
    have x2 : XF xOm M1 (sI M1 38 41 0) := XF.rf.sI rfl
    have o2 := mout_0 (M := M1)
    generalize sI M1 38 41 0 = M2 at x2 o2 ⊢
    have X1 : XF xHm M M1 := (x0.mono (fun a b z => xRd_Sq a b (xSq_Hm a b z))).tr (x1.mono (fun a b z => xSe_Sq a b (xSq_Hm a b z)))
    have r39 : Mi M1 39 = Mi M 39 := by rw [x1.row (fun _ => rfl), x0.row (fun _ => rfl)]
    have z1 : Mi M1 38 0 = nI 0 := by rw [x1.mi rfl]; exact t0
    have z3 := zS3 P (Ps P) l
    have sb : zS (sndA P (Ps P)) l ≤ 3 := z3
    have fin : ∀ (M3 : Mm) (W : List Nat), XF xOm M1 M3 → mOut M3 W → W = wrShow P l → Rn (fX8_show_L101 38) M3 (fun b M' => mR (.inr (nI (wrShow P l).length)) b M' ∧ XF xHm M M' ∧ Mi M' 39 = Mi M 39 ∧ mOut M' (wrShow P l)) := by
      rintro M3 W x3 o3 rfl
      unfold fX8_show_L101
      rw [Rn_bnd, Rn_gI, o3.1, Rn_rtn]
      exact ⟨mR_r (by rw [x3.mi rfl]; exact z1), X1.tr (x3.mono xOm_Hm), by rw [x3.row (fun _ => rfl)]; exact r39, o3⟩
    have ws : wrShow P l = wrDots (zG (sndA P (Ps P)) l) (Pw P) ++ (if zS (sndA P (Ps P)) l = 0 then [] else dg (zS (sndA P (Ps P)) l)) := rfl
    refine rn_loopv (F := fun n k => fX8_show_L37 n 38 (nI l) (nI k)) (fun k M' => XF xOm M1 M' ∧ mOut M' (wrDots (zG (sndA P (Ps P)) l) k) ∧ k ≤ Pw P) (fun k => Pw P - k) ?_ fu 0 M2 (by unfold fu; omega) ⟨x2, o2, Nat.zero_le _⟩
    rintro n k M3 ⟨x3, o3, hk⟩ ih
    have m3 := m1.xf x3
    have p3 : isPgM (Mi M3 39) P := by rw [x3.row (fun _ => rfl), r39]; exact hP
    have s3 : Mi M3 53 l = nI (zS (sndA P (Ps P)) l) := by rw [x3.mi rfl]; exact s1.2.1 l (by omega)
    show Rn (fX8_show_L37 (n + 1) 38 (nI l) (nI k)) M3 _
    unfold fX8_show_L37
    rw [Rn_bnd, mA1 m3, nL0, Rn_bnd, rn_lI (by omega), mL39 m3, p3.w]
    refine ⟨by omega, ?_⟩
    refine Rn_cs (nle (by omega) (by omega)) (fun q => ?_) (fun q => ?_)
    · have ek : k = Pw P := by omega
      rw [ek] at o3
      rw [Rn_bnd, mA21 m3, Rn_bnd, rn_lI (by omega), mL53 m3, s3]
      refine ⟨by omega, Rn_cs (show nI (zS (sndA P (Ps P)) l) ≤ nI 0 ↔ zS (sndA P (Ps P)) l ≤ 0 from nle (by omega) (by omega)) (fun q1 => ?_) (fun q1 => ?_)⟩
      · exact fin M3 _ x3 o3 (by rw [ws, if_pos (by omega), List.append_nil])
      · rw [Rn_bnd, mA21 m3, Rn_bnd, rn_lI (by omega), mL53 m3, s3]
        refine ⟨by omega, ?_⟩
        rw [show (48 : Int32) = nI 48 from rfl, nI_add, Rn_bnd]
        refine (mPrints m3 o3 (by omega) (by rw [wrDots_len]; omega)).mono ?_
        rintro - M4 ⟨x4, o4⟩
        have ed : dg (zS (sndA P (Ps P)) l) = [48 + zS (sndA P (Ps P)) l] := by
          unfold dg; rw [if_neg (by omega), Nat.mod_eq_of_lt (by omega)]
        exact fin M4 _ (x3.tr x4) o4 (by rw [ws, if_neg (by omega), ed])
    · have r3 : Mi M3 52 (40 * l + k) = nI (bN ((zG (sndA P (Ps P)) l).testBit k)) := by rw [x3.mi rfl]; exact s1.1 l hl k (by omega)
      rw [Rn_bnd, mA20 m3, show (40 : Int32) = nI 40 from rfl, pk_mul, nI_add, Rn_bnd, rn_lI (by omega), mL52 m3, r3]
      refine ⟨by omega, ?_⟩
      have step : ∀ c, c < 128 → c = (if (zG (sndA P (Ps P)) l).testBit k = true then 35 else 46) → Rn (fX8_show_L70 (fX8_show_L37 n) 38 (nI l) (nI k) (nI c) 38) M3 (fun b M' => mR (.inr (nI (wrShow P l).length)) b M' ∧ XF xHm M M' ∧ Mi M' 39 = Mi M 39 ∧ mOut M' (wrShow P l)) := by
        intro c hc he
        unfold fX8_show_L70
        rw [Rn_bnd]
        refine (mPrints m3 o3 hc (by rw [wrDots_len]; omega)).mono ?_
        rintro - M4 ⟨x4, o4⟩
        rw [nL1, nI_add]
        rw [he] at o4
        exact ih (k + 1) M4 ⟨x3.tr x4, o4, by omega⟩ (by omega)
      refine Rn_cs (d := (zG (sndA P (Ps P)) l).testBit k = true) (by cases (zG (sndA P (Ps P)) l).testBit k <;> decide) (fun q1 => ?_) (fun q1 => ?_)
      · exact step 35 (by omega) (by rw [if_pos q1])
      · exact step 46 (by omega) (by rw [if_neg q1])
theorem mOutput (hM : MO M) (ho : mOut M O) (x : Int32) : Rn (fX8_output 38 x) M (fun b M' => b = spOutput O x ∧ Mi M' 38 0 = nI 0 ∧ XF xTh M M') := by
  have h3 := ho.2.1
  unfold fX8_output spOutput
  rw [Rn_bnd, Rn_pI]
  have x0 : XF xTh M (sI M 38 0 0) := XF.rf.sI rfl
  have t0 : Mi (sI M 38 0 0) 38 0 = nI 0 := sI_self
  have o0 : mOut (sI M 38 0 0) O := ho.xf x0 rfl (fun _ => rfl)
  have m0 := hM.xf x0
  generalize sI M 38 0 0 = M0 at x0 t0 o0 m0 ⊢
  rw [Rn_bnd, Rn_gI, o0.1, Rn_bnd]
  have e1 : Rn (fX8_in x 0 (nI O.length - 1)) M0 (fun z M' => z = nI (bN (isLn O.length x)) ∧ M' = M0) := by
    show Rn (fX8_in x 0 (pl O.length)) M0 _
    rw [mIn0 (by omega)]; exact ⟨rfl, rfl⟩
  rw [Rn_det e1]
  refine Rn_cs (bN_0 _) (fun g => ?_) (fun g => ?_)
  · rw [Rn_rtn, if_neg (by rw [g]; decide)]; exact ⟨rfl, t0, x0⟩
  · have g : isLn O.length x = true := by simpa using g
    obtain ⟨k, hk, rfl⟩ := isLn_t (by omega) g
    rw [if_pos g, ix_n (by omega), Rn_bnd, mA40 m0, Rn_bnd, rn_lI (by omega), mL60 m0, o0.2.2 k hk, Rn_rtn]
    exact ⟨by omega, rfl, t0, x0⟩
end MWs
