/-! OUTPUTS: what is written, as bytes -/
def dg (n : Nat) : List Nat := if 10 ≤ n then [48 + n / 10, 48 + n % 10] else [48 + n % 10]
def dgS (v : Int32) : List Nat := if 0 ≤ v then dg (ix v) else 45 :: dg (ix (-v))
def wrMode (m : Md) : List Nat := if m.1 = nI 0 then [112] else if m.1 = nI 1 then 118 :: dgS m.2.1 else 104 :: (dgS m.2.1 ++ 32 :: dgS m.2.2.1)
def wrRuns : List Nat → List Nat
  | [] => []
  | n :: t => 32 :: dg n ++ wrRuns t
def wrModes : List Md → List Nat
  | [] => []
  | m :: t => 32 :: wrMode m ++ wrModes t
def wrLine (P : Pg) (l : Nat) : List Nat := if isMk P l = true then [97, 108, 111, 110, 101] ++ wrRuns (runs (Pw P) (Pr P l)) else [97, 98, 111, 118, 101] ++ wrModes (cod (Pw P) (Pr P l) (Pu P l))
def wrDots (r : Nat) : Nat → List Nat
  | 0 => []
  | k + 1 => wrDots r k ++ [if r.testBit k = true then 35 else 46]
def wrShow (P : Pg) (l : Nat) : List Nat := wrDots (zG (sndA P (Ps P)) l) (Pw P) ++ (if zS (sndA P (Ps P)) l = 0 then [] else dg (zS (sndA P (Ps P)) l))
def spWrite (P : Pg) (O : List Nat) (x : Int32) : Rs × List Nat := if isLn (PL P) x = true then (.inr (nI (wrLine P (ix x)).length), wrLine P (ix x)) else (.inl 1, O)
def spShow (P : Pg) (O : List Nat) (x : Int32) : Rs × List Nat := if isLn (PL P) x = true then (.inr (nI (wrShow P (ix x)).length), wrShow P (ix x)) else (.inl 1, O)
def spOutput (O : List Nat) (x : Int32) : Int32 := if isLn O.length x = true then nI (O.getD (ix x) 0) else -1
/-! THE CLASS writes -/
def isOut (M : Mm) (O : List Nat) : Prop := Mi M 0 7 = nI O.length ∧ O.length ≤ 300 ∧ ∀ i, i < O.length → Mi M 37 i = nI (O.getD i 0)
def xOu (a b : Nat) : Bool := (a == 0 && b == 7) || a == 37
section CWr
variable {M : Mm} {O : List Nat}
theorem cPutSign (hM : CO M) (ho : isOut M O) {c : Nat} (hc : c < 128) (hl : O.length < 300) : Rn (fX7_putSign 0 (nI c)) M (fun _ M' => XF xOu M M' ∧ isOut M' (O ++ [c])) := by
  have ec : ∀ c, c < 128 → (i2b (nI c)).toInt8.toInt32 = nI c := by decide +kernel
  unfold fX7_putSign
  rw [Rn_bnd, Rn_gI, ho.1, if_neg (nI_pos (by omega)), Rn_bnd, Rn_gI, ho.1, Rn_bnd, cA0_6 hM, Rn_bnd, Rn_gN, cL37 hM, if_neg (by rw [nle (by omega) (by omega)]; omega), Rn_bnd, cA0_6 hM, Rn_bnd, Rn_gI, ho.1, Rn_bnd, rn_aB (by omega), cL37 hM, ec c hc]
  refine ⟨hl, ?_⟩
  have e : Mi (sI M 37 O.length (nI c)) 0 7 = nI O.length := by rw [ne_row (by omega)]; exact ho.1
  rw [Rn_bnd, Rn_gI, e, Rn_bnd, Rn_pI, Rn_rtn, nL1, nI_add]
  refine ⟨(XF.rf.sI rfl).sI rfl, ?_, by rw [List.length_append]; show O.length + 1 ≤ 300; omega, fun i hi => ?_⟩
  · rw [List.length_append]; exact sI_self
  · rw [List.length_append] at hi
    have hi : i < O.length + 1 := hi
    rw [ne_row (by omega), Mi_sI, List.getD_eq_getElem?_getD]
    by_cases q : i = O.length
    · rw [if_pos ⟨rfl, q⟩, q, List.getElem?_append_right (Nat.le_refl _), Nat.sub_self]; rfl
    · rw [if_neg (fun z => q z.2), List.getElem?_append_left (by omega), ← List.getD_eq_getElem?_getD]; exact ho.2.2 i (by omega)
theorem dg_le (n : Nat) : (dg n).length ≤ 2 := by unfold dg; split <;> simp
theorem cPutNum (hM : CO M) (ho : isOut M O) {n : Nat} (hn : n < 100) (hl : O.length + 2 ≤ 300) : Rn (fX7_putNumber_L15 0 (nI n)) M (fun _ M' => XF xOu M M' ∧ isOut M' (O ++ dg n)) := by
  have e1 : ∀ n, n < 100 → i2c (48 + (nI n - nI n / 10 * 10)) = nI (48 + n % 10) := by decide +kernel
  have e2 : ∀ n, n < 100 → i2c (48 + (nI n / 10)) = nI (48 + n / 10) := by decide +kernel
  have last : ∀ (M1 : Mm) (O1 : List Nat), CO M1 → isOut M1 O1 → O1.length < 300 → Rn (fX7_putNumber_L33 0 (nI n)) M1 (fun _ M' => XF xOu M1 M' ∧ isOut M' (O1 ++ [48 + n % 10])) := by
    intro M1 O1 m1 o1 l1
    unfold fX7_putNumber_L33
    rw [e1 n hn, Rn_bnd]
    refine (cPutSign m1 o1 (by omega) l1).mono ?_
    rintro - M2 ⟨x2, o2⟩
    rw [Rn_rtn]; exact ⟨x2, o2⟩
  unfold fX7_putNumber_L15 dg
  refine Rn_cs (show nI n < 10 ↔ n < 10 from nlt (b := 10) (by omega) (by omega)) (fun g => ?_) (fun g => ?_)
  · rw [if_neg (by omega)]; exact last M O hM ho (by omega)
  · rw [if_pos (by omega), e2 n hn, Rn_bnd]
    refine (cPutSign hM ho (by omega) (by omega)).mono ?_
    rintro - M1 ⟨x1, o1⟩
    refine (last M1 _ (hM.xf x1) o1 (by rw [List.length_append]; show O.length + 1 < 300; omega)).mono ?_
    rintro - M2 ⟨x2, o2⟩
    rw [List.append_assoc] at o2
    exact ⟨x1.tr x2, o2⟩
theorem cPutNumber (hM : CO M) (ho : isOut M O) {v : Int32} (hv : -100 < v.toInt ∧ v.toInt < 100) (hl : O.length + 3 ≤ 300) : Rn (fX7_putNumber 0 v) M (fun _ M' => XF xOu M M' ∧ isOut M' (O ++ dgS v)) := by
  unfold fX7_putNumber dgS
  have e0 : (0 : Int32).toInt = 0 := rfl
  by_cases g : 0 ≤ v
  · obtain ⟨n, hn, rfl⟩ := nI_of (Int32.not_lt.mpr g)
    rw [nI_tI hn] at hv
    rw [Rn_bnd, Rn_rtn, if_pos g, if_pos g, show mabs (nI n) = nI n from by unfold mabs; rw [if_pos g], ix_n hn]
    exact cPutNum hM ho (by omega) (by omega)
  · have g' := g
    rw [Int32.le_iff_toInt_le] at g'
    have hneg : (-v).toInt = -v.toInt := by rw [Int32.toInt_neg, Int.bmod_eq_of_le (by omega) (by omega)]
    obtain ⟨n, hn, e⟩ := nI_of (x := -v) (by rw [Int32.lt_iff_toInt_lt, hneg]; omega)
    have hn2 : n < 100 := by
      have := congrArg Int32.toInt e
      rw [hneg, nI_tI hn] at this; omega
    rw [Rn_bnd, Rn_rtn, if_neg g, if_neg g, show mabs v = nI n from by unfold mabs; rw [if_neg g, Int32.zero_sub, e], e, ix_n hn, Rn_bnd, show (45 : Int32) = nI 45 from rfl]
    refine (cPutSign hM ho (by omega) (by omega)).mono ?_
    rintro - M1 ⟨x1, o1⟩
    refine (cPutNum (hM.xf x1) o1 hn2 (by rw [List.length_append]; show O.length + 1 + 2 ≤ 300; omega)).mono ?_
    rintro - M2 ⟨x2, o2⟩
    rw [List.append_assoc] at o2
    exact ⟨x1.tr x2, o2⟩
end CWr
