/-! THE CLASS: write, show, output -/
theorem take_s (L : List Nat) {j : Nat} (h : j < L.length) : L.take (j + 1) = L.take j ++ [L.getD j 0] := by
  rw [List.take_succ, List.getD_eq_getElem?_getD, List.getElem?_eq_getElem h]; rfl
theorem wrRuns_app (A B : List Nat) : wrRuns (A ++ B) = wrRuns A ++ wrRuns B := by
  induction A with
  | nil => rfl
  | cons a t ih => show 32 :: dg a ++ wrRuns (t ++ B) = 32 :: dg a ++ wrRuns t ++ wrRuns B; rw [ih, List.append_assoc]
theorem wrModes_app (A B : List Md) : wrModes (A ++ B) = wrModes A ++ wrModes B := by
  induction A with
  | nil => rfl
  | cons a t ih => show 32 :: wrMode a ++ wrModes (t ++ B) = 32 :: wrMode a ++ wrModes t ++ wrModes B; rw [ih, List.append_assoc]
theorem wrRuns_le (A : List Nat) : (wrRuns A).length ≤ 3 * A.length := by
  induction A with
  | nil => exact Nat.le_refl _
  | cons a t ih =>
    have := dg_le a
    show (32 :: dg a ++ wrRuns t).length ≤ 3 * (t.length + 1)
    rw [List.length_append, List.length_cons]; omega
section CWs
variable {M : Mm} {P : Pg} {O : List Nat}
theorem cPutWord (hM : CO M) (ho : isOut M O) {i : Nat} (hi : i < 11) {L : List Nat} (hw : sW.getD i [] = L.map nI) (hs : ∀ j, j < L.length → L.getD j 0 < 128) (hl : O.length + L.length ≤ 300) : Rn (fX7_putWord 0 (SB + i)) M (fun _ M' => XF xOu M M' ∧ isOut M' (O ++ L)) := by
  have len : (sW.getD i []).length = L.length := by rw [hw, List.length_map]
  have hL : ∀ i, i < 11 → (sW.getD i []).length < 10 := by decide
  have hL := hL i hi
  unfold fX7_putWord
  refine rn_loopv (F := fun n j => fX7_putWord_L2 n 0 (SB + i) (nI j)) (fun j M' => XF xOu M M' ∧ isOut M' (O ++ L.take j) ∧ j ≤ L.length) (fun j => L.length - j) ?_ fu 0 M (by unfold fu; omega) ⟨XF.rf, by rw [List.take_zero, List.append_nil]; exact ho, Nat.zero_le _⟩
  rintro n j M1 ⟨x1, o1, hj⟩ ih
  have m1 := hM.xf x1
  show Rn (fX7_putWord_L2 (n + 1) 0 (SB + i) (nI j)) M1 _
  unfold fX7_putWord_L2
  rw [Rn_grd]
  refine ⟨sb_in hi, ?_⟩
  rw [Rn_bnd, fLen hi, len]
  refine Rn_cs (nle (by omega) (by omega)) (fun q => ?_) (fun q => ?_)
  · rw [Rn_rtn]
    rw [List.take_of_length_le q] at o1
    exact ⟨x1, o1⟩
  · have hj' : j < L.length := by omega
    have tl : (L.take j).length = j := by rw [List.length_take]; omega
    rw [Rn_grd]
    refine ⟨sb_in hi, ?_⟩
    rw [Rn_bnd, fChar hi (by omega), hw, map_at L hj', Rn_bnd]
    refine (cPutSign m1 o1 (hs j hj') (by rw [List.length_append, tl]; omega)).mono ?_
    rintro - M2 ⟨x2, o2⟩
    rw [List.append_assoc, ← take_s L hj'] at o2
    rw [nL1, nI_add]
    exact ih (j + 1) M2 ⟨x1.tr x2, o2, hj'⟩ (by omega)
theorem xOu_Pg (a b : Nat) (z : xPgH 1 a b = true) : xOu a b = false := by
  unfold xPgH at z; unfold xOu
  simp at z ⊢; omega
theorem dgS_n {n : Nat} (hn : n < 2147483648) : dgS (nI n) = dg n := by
  unfold dgS; rw [if_pos (Int32.not_lt.mp (nI_pos hn)), ix_n hn]
theorem cWriteAlone (hM : CO M) (hP : isPgC M 1 P) (hw : wfP P) (ho : isOut M []) {l : Nat} (hl : l < PL P) : Rn (fX7_writeAlone 0 (lN (Pr P l))) M (fun _ M' => XF xOu M M' ∧ isOut M' ([97, 108, 111, 110, 101] ++ wrRuns (runs (Pw P) (Pr P l)))) := by
  have h40 := hw.2.1
  have hr := hw.2.2.2.1 l hl
  have hn := nch_le (Pw P) (Pr P l)
  unfold fX7_writeAlone
  rw [Rn_bnd]
  refine (cPutWord hM ho (i := 9) (L := [97, 108, 111, 110, 101]) (by omega) rfl (by decide) (by decide)).mono ?_
  rintro - M1 ⟨x1, o1⟩
  have m1 := hM.xf x1
  have p1 := hP.xf x1 xOu_Pg
  rw [Rn_bnd, cA0_0 m1, Rn_bnd, cW p1, Rn_bnd, fChs h40 hr, Rn_bnd, fNch h40, Rn_bnd, Rn_rtn, nL1, nI_add]
  refine rn_loopv (F := fun n j => fX7_writeAlone_L27 n 0 (lN (Pr P l)) (nI (nch (Pw P) (Pr P l) + 1)) (nI j)) (fun j M' => XF xOu M M' ∧ isOut M' ([97, 108, 111, 110, 101] ++ wrRuns ((runs (Pw P) (Pr P l)).take j)) ∧ j ≤ nch (Pw P) (Pr P l) + 1) (fun j => nch (Pw P) (Pr P l) + 1 - j) ?_ fu 0 M1 (by unfold fu; omega) ⟨x1, by rw [List.take_zero]; exact o1, Nat.zero_le _⟩
  rintro n j M2 ⟨x2, o2, hj⟩ ih
  have m2 := hM.xf x2
  have p2 := hP.xf x2 xOu_Pg
  show Rn (fX7_writeAlone_L27 (n + 1) 0 (lN (Pr P l)) (nI (nch (Pw P) (Pr P l) + 1)) (nI j)) M2 _
  unfold fX7_writeAlone_L27
  have rl := runs_n (Pw P) (Pr P l)
  refine Rn_cs (nle (by omega) (by omega)) (fun q => ?_) (fun q => ?_)
  · rw [Rn_rtn]
    rw [List.take_of_length_le (by omega)] at o2
    exact ⟨x2, o2⟩
  · have tl : ((runs (Pw P) (Pr P l)).take j).length = j := by rw [List.length_take]; omega
    have wl := wrRuns_le ((runs (Pw P) (Pr P l)).take j)
    rw [tl] at wl
    have s1 := st_le (Pw P) (Pr P l) (j + 1)
    rw [Rn_bnd, show (32 : Int32) = nI 32 from rfl]
    have ol : ([97, 108, 111, 110, 101] ++ wrRuns ((runs (Pw P) (Pr P l)).take j)).length ≤ 5 + 3 * j := by rw [List.length_append]; show 5 + _ ≤ _; omega
    refine (cPutSign m2 o2 (by omega) (by omega)).mono ?_
    rintro - M3 ⟨x3, o3⟩
    have X3 := x2.tr x3
    have m3 := hM.xf X3
    have p3 := hP.xf X3 xOu_Pg
    rw [Rn_bnd, cA0_0 m3, Rn_bnd, cW p3, Rn_bnd, fRunAt h40 hr (by omega), rnV_s (by omega), Rn_bnd]
    refine (cPutNumber m3 o3 (by rw [nI_tI (by omega)]; omega) (by rw [List.length_append]; show _ + 1 + 3 ≤ 300; omega)).mono ?_
    rintro - M4 ⟨x4, o4⟩
    rw [nL1, nI_add]
    refine ih (j + 1) M4 ⟨X3.tr x4, ?_, by omega⟩ (by omega)
    have et : (runs (Pw P) (Pr P l)).take (j + 1) = (runs (Pw P) (Pr P l)).take j ++ [st (Pw P) (Pr P l) (j + 1) - st (Pw P) (Pr P l) j] := by
      rw [List.take_succ, runs_at, if_pos (by omega)]; rfl
    rw [et, wrRuns_app, ← List.append_assoc]
    rw [dgS_n (by omega), List.append_assoc] at o4
    show isOut M4 (_ ++ (32 :: dg (st (Pw P) (Pr P l) (j + 1) - st (Pw P) (Pr P l) j) ++ []))
    rw [List.append_nil]; exact o4
theorem cOutput (hM : CO M) (ho : isOut M O) (x : Int32) {Q : Int32 → Mm → Prop} : Rn (fX7_output 0 x) M Q ↔ Q (spOutput O x) M := by
  refine Rn_det ?_
  have h3 := ho.2.1
  unfold fX7_output spOutput
  rcases ln_lt (n := O.length) (by omega) x with ⟨h1, h2⟩ | ⟨h1, h2, h3, k, hk, rfl⟩ | ⟨h1, h2, h3⟩
  · rw [if_pos h1, Rn_rtn, h2]; exact ⟨rfl, rfl⟩
  · rw [if_neg h1, Rn_bnd, Rn_gI, ho.1, if_neg (Int32.not_le.mpr h2), Rn_bnd, cA0_6 hM, Rn_bnd, Rn_gN, cL37 hM, if_neg (by rw [nle (by omega) (by omega)]; omega), Rn_bnd, cA0_6 hM, Rn_bnd, rn_lI (by omega), cL37 hM, Rn_rtn, if_pos h3, ix_n (by omega)]
    exact ⟨by omega, ho.2.2 k hk, rfl⟩
  · rw [if_neg h1, Rn_bnd, Rn_gI, ho.1, if_pos (Int32.not_lt.mp h2), Rn_rtn, h3]; exact ⟨rfl, rfl⟩
end CWs
