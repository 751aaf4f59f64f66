/-! THE REFERENCE writes -/
def mOut (M : Mm) (O : List Nat) : Prop := Mi M 38 41 = nI O.length ∧ O.length ≤ 300 ∧ ∀ i, i < O.length → Mi M 60 i = nI (O.getD i 0)
def xOm (a b : Nat) : Bool := (a == 38 && b == 41) || a == 60
theorem mOut.xf {X : Nat → Nat → Bool} {M M1 : Mm} {O : List Nat} (o : mOut M O) (x : XF X M M1) (z : X 38 41 = false) (z2 : ∀ i, X 60 i = false) : mOut M1 O := ⟨by rw [x.mi z]; exact o.1, o.2.1, fun i hi => by rw [x.mi (z2 i)]; exact o.2.2 i hi⟩
theorem mout_0 {M : Mm} : mOut (sI M 38 41 0) [] := ⟨sI_self, Nat.zero_le _, fun i hi => absurd hi (Nat.not_lt_zero _)⟩
theorem runs_b {w r : Nat} : ∀ n, n ∈ runs w r → n ≤ w := by
  have key : ∀ k f c, f ≤ w → ∀ n, n ∈ rL w r k f c → n ≤ w := by
    intro k
    induction k with
    | zero => intro f c _ n hn; cases hn
    | succ k ih =>
      intro f c hf n hn
      rw [rL_s] at hn
      have := rT_le w r f c
      rcases List.mem_cons.mp hn with rfl | hn
      · omega
      · split at hn
        · exact ih _ _ (by omega) n hn
        · cases hn
  exact key _ _ _ (Nat.zero_le _)
section MWr
variable {M : Mm} {O : List Nat}
theorem mPrints (hM : MO M) (ho : mOut M O) {c : Nat} (hc : c < 128) (hl : O.length < 300) : Rn (fX8_prints 38 (nI c)) M (fun _ M' => XF xOm M M' ∧ mOut M' (O ++ [c])) := by
  have ec : ∀ c, c < 128 → (i2b (nI c)).toInt8.toInt32 = nI c := by decide +kernel
  unfold fX8_prints
  rw [Rn_bnd, mA40 hM, Rn_bnd, Rn_gI, ho.1, Rn_bnd, rn_aB (by omega), mL60 hM, ec c hc]
  refine ⟨by omega, ?_⟩
  have e : Mi (sI M 60 O.length (nI c)) 38 41 = nI O.length := by rw [ne_row (by omega)]; exact ho.1
  rw [Rn_bnd, Rn_gI, e, Rn_bnd, Rn_pI, Rn_rtn, nL1, nI_add]
  refine ⟨(XF.rf.sI rfl).sI rfl, ?_, by rw [List.length_append]; show O.length + 1 ≤ 300; omega, fun i hi => ?_⟩
  · rw [List.length_append]; exact sI_self
  · rw [List.length_append] at hi
    have hi : i < O.length + 1 := hi
    rw [ne_row (by omega), Mi_sI, List.getD_eq_getElem?_getD]
    by_cases q : i = O.length
    · rw [if_pos ⟨rfl, q⟩, q, List.getElem?_append_right (Nat.le_refl _), Nat.sub_self]; rfl
    · rw [if_neg (fun z => q z.2), List.getElem?_append_left (by omega), ← List.getD_eq_getElem?_getD]; exact ho.2.2 i (by omega)
theorem mPNum (hM : MO M) (ho : mOut M O) {n : Nat} (hn : n < 100) (hl : O.length + 2 ≤ 300) : Rn (fX8_printsNumber_L20 38 (nI n)) M (fun _ M' => XF xOm M M' ∧ mOut M' (O ++ dg n)) := by
  have e1 : ∀ n, n < 100 → 48 + (nI n - nI n / 10 * 10) = nI (48 + n % 10) := by decide +kernel
  have e2 : ∀ n, n < 100 → 48 + (nI n / 10) = nI (48 + n / 10) := by decide +kernel
  have last : ∀ (M1 : Mm) (O1 : List Nat), MO M1 → mOut M1 O1 → O1.length < 300 → Rn (fX8_printsNumber_L38 38 (nI n)) M1 (fun _ M' => XF xOm M1 M' ∧ mOut M' (O1 ++ [48 + n % 10])) := by
    intro M1 O1 m1 o1 l1
    unfold fX8_printsNumber_L38
    rw [e1 n hn, Rn_bnd]
    refine (mPrints m1 o1 (by omega) l1).mono ?_
    rintro - M2 ⟨x2, o2⟩
    rw [Rn_rtn]; exact ⟨x2, o2⟩
  unfold fX8_printsNumber_L20 dg
  refine Rn_cs (show nI n < 10 ↔ n < 10 from nlt (b := 10) (by omega) (by omega)) (fun g => ?_) (fun g => ?_)
  · rw [if_neg (by omega)]; exact last M O hM ho (by omega)
  · rw [if_pos (by omega), e2 n hn, Rn_bnd]
    refine (mPrints hM ho (by omega) (by omega)).mono ?_
    rintro - M1 ⟨x1, o1⟩
    refine (last M1 _ (hM.xf x1) o1 (by rw [List.length_append]; show O.length + 1 < 300; omega)).mono ?_
    rintro - M2 ⟨x2, o2⟩
    rw [List.append_assoc] at o2
    exact ⟨x1.tr x2, o2⟩
theorem mPNumber (hM : MO M) (ho : mOut M O) {v : Int32} (hv : -100 < v.toInt ∧ v.toInt < 100) (hl : O.length + 3 ≤ 300) : Rn (fX8_printsNumber 38 v) M (fun _ M' => XF xOm M M' ∧ mOut M' (O ++ dgS v)) := by
  unfold fX8_printsNumber fX8_printsNumber_L10 dgS
  have e0 : (0 : Int32).toInt = 0 := rfl
  by_cases g : 0 ≤ v
  · obtain ⟨n, hn, rfl⟩ := nI_of (Int32.not_lt.mpr g)
    rw [nI_tI hn] at hv
    rw [if_pos g, if_pos g, if_pos g, ix_n hn]
    exact mPNum hM ho (by omega) (by omega)
  · have g' := g
    rw [Int32.le_iff_toInt_le] at g'
    have hneg : (-v).toInt = -v.toInt := by rw [Int32.toInt_neg, Int.bmod_eq_of_le (by omega) (by omega)]
    obtain ⟨n, hn, e⟩ := nI_of (x := -v) (by rw [Int32.lt_iff_toInt_lt, hneg]; omega)
    have hn2 : n < 100 := by
      have := congrArg Int32.toInt e
      rw [hneg, nI_tI hn] at this; omega
    rw [if_neg g, if_neg g, if_neg g, e, ix_n hn, Rn_bnd, show (45 : Int32) = nI 45 from rfl]
    refine (mPrints hM ho (by omega) (by omega)).mono ?_
    rintro - M1 ⟨x1, o1⟩
    refine (mPNum (hM.xf x1) o1 hn2 (by rw [List.length_append]; show O.length + 1 + 2 ≤ 300; omega)).mono ?_
    rintro - M2 ⟨x2, o2⟩
    rw [List.append_assoc] at o2
    exact ⟨x1.tr x2, o2⟩
theorem mPNum' (hM : MO M) (ho : mOut M O) {v : Int32} (hv : -100 < v.toInt ∧ v.toInt < 100) {b : Nat} (e : v = nI b) (hb : b < 100) (hl : O.length + 2 ≤ 300) : Rn (fX8_printsNumber 38 v) M (fun _ M' => XF xOm M M' ∧ mOut M' (O ++ dgS v)) := by
  subst e
  unfold fX8_printsNumber fX8_printsNumber_L10
  rw [if_pos (Int32.not_lt.mp (nI_pos (by omega))), if_pos (Int32.not_lt.mp (nI_pos (by omega))), dgS_n (by omega)]
  exact mPNum hM ho hb hl
def spN (p : Nat) : Nat := ((wB.take p).filter (fun c => c == 32)).length
theorem spN_ok : ∀ w, w < 9 → spN (wOff w) = w ∧ ∀ p, p < wOff w → spN p < w ∧ spN (p + 1) = (if wB.getD p 0 = 32 then spN p + 1 else spN p) ∧ wB.getD p 0 < 200 := by decide +kernel
theorem mPWord (hM : MO M) (hW : isWd M) (ho : mOut M O) {w : Nat} (hw : w < 9) (hl : O.length + (wds.getD w []).length ≤ 300) : Rn (fX8_printsWord 38 (nI w)) M (fun _ M' => XF xOm M M' ∧ mOut M' (O ++ wds.getD w [])) := by
  obtain ⟨o1, o2, o3, o4⟩ := wB_ok w hw
  obtain ⟨s1, s2⟩ := spN_ok w hw
  have hl10 : ∀ w, w < 9 → (wds.getD w []).length < 10 := by decide
  have hl10 := hl10 w hw
  generalize hLW : wds.getD w [] = L at o1 o2 o3 o4 hl hl10
  -- the word's signs
  have signs : Rn (fX8_printsWord_L33 fu 38 (nI (wOff w))) M (fun _ M' => XF xOm M M' ∧ mOut M' (O ++ L)) := by
    refine rn_loopv (F := fun n j => fX8_printsWord_L33 n 38 (nI (wOff w + j))) (fun j M' => XF xOm M M' ∧ mOut M' (O ++ L.take j) ∧ j ≤ L.length) (fun j => L.length - j) ?_ fu 0 M (by unfold fu; omega) ⟨XF.rf, by rw [List.take_zero, List.append_nil]; exact ho, Nat.zero_le _⟩
    rintro n j M1 ⟨x1, p1, hj⟩ ih
    have m1 := hM.xf x1
    have w1 : isWd M1 := hW.xf x1 (fun _ => rfl)
    show Rn (fX8_printsWord_L33 (n + 1) 38 (nI (wOff w + j))) M1 _
    unfold fX8_printsWord_L33
    rw [Rn_bnd, mA39 m1, Rn_bnd, rn_lI (by omega), mL59 m1, w1 _ (by omega)]
    refine ⟨by omega, ?_⟩
    by_cases q : j = L.length
    · rw [q, o3, if_pos (by decide), Rn_rtn]
      rw [List.take_of_length_le (by omega)] at p1
      exact ⟨x1, p1⟩
    · obtain ⟨a1, a2, a3⟩ := o4 j (by omega)
      have tl : (L.take j).length = j := by rw [List.length_take]; omega
      rw [a1]
      refine Rn_cs (show nI (L.getD j 0) = 32 ↔ L.getD j 0 = 32 from neq (b := 32) (by omega) (by omega)) (fun z => absurd z a2) (fun _ => ?_)
      rw [Rn_bnd, mA39 m1, Rn_bnd, rn_lI (by omega), mL59 m1, w1 _ (by omega), a1]
      refine ⟨by omega, ?_⟩
      rw [Rn_bnd]
      refine (mPrints m1 p1 a3 (by rw [List.length_append, tl]; omega)).mono ?_
      rintro - M2 ⟨x2, p2⟩
      rw [List.append_assoc, ← take_s L (by omega)] at p2
      rw [nL1, nI_add]
      exact ih (j + 1) M2 ⟨x1.tr x2, p2, by omega⟩ (by omega)
  unfold fX8_printsWord
  show Rn (fX8_printsWord_L4 fu 38 (nI 0) (nI (w - spN 0))) M _
  refine rn_loopv (F := fun n j => fX8_printsWord_L4 n 38 (nI j) (nI (w - spN j))) (fun j M' => M' = M ∧ j ≤ wOff w) (fun j => wOff w - j) ?_ fu 0 M (by unfold fu; omega) ⟨rfl, Nat.zero_le _⟩
  rintro n j M1 ⟨rfl, hj⟩ ih
  show Rn (fX8_printsWord_L4 (n + 1) 38 (nI j) (nI (w - spN j))) M1 _
  unfold fX8_printsWord_L4
  by_cases q : j = wOff w
  · rw [q, s1, Nat.sub_self, if_pos (by decide)]; exact signs
  · obtain ⟨c1, c2, c3⟩ := s2 j (by omega)
    have step : ∀ d : Nat, d ≤ w - spN j → w - spN j - d = w - spN (j + 1) → Rn (fX8_printsWord_L25 (fX8_printsWord_L4 n) 38 (nI j) (nI d) (nI (w - spN j))) M1 (fun _ M' => XF xOm M1 M' ∧ mOut M' (O ++ L)) := by
      intro d hd he
      unfold fX8_printsWord_L25
      rw [Rn_bnd, Rn_rtn, nsb hd, he, nL1, nI_add]
      exact ih (j + 1) M1 ⟨rfl, by omega⟩ (by omega)
    refine Rn_cs (show nI (w - spN j) ≤ 0 ↔ w - spN j ≤ 0 from nle (b := 0) (by omega) (by omega)) (fun z => by omega) (fun _ => ?_)
    rw [Rn_bnd, mA39 hM, Rn_bnd, rn_lI (by omega), mL59 hM, hW _ (by omega)]
    refine ⟨by omega, ?_⟩
    refine Rn_cs (show nI (wB.getD j 0) = 32 ↔ wB.getD j 0 = 32 from neq (b := 32) (by omega) (by omega)) (fun z => ?_) (fun z => ?_)
    · rw [if_pos z] at c2
      exact step 1 (by omega) (by omega)
    · rw [if_neg z] at c2
      exact step 0 (by omega) (by omega)
theorem mPMode (hM : MO M) (ho : mOut M O) {L : List Md} (hC : isCd (Mi M 46) (Mi M 47) (Mi M 48) (Mi M 49) L) (hl : L.length ≤ 41) {j : Nat} {m : Md} (hm : L[j]? = some m) (hok : mdOk m) (hlen : O.length + 7 ≤ 300) : Rn (fX8_printsMode 38 (nI j)) M (fun _ M' => XF xOm M M' ∧ mOut M' (O ++ (32 :: wrMode m))) := by
  have hj : j < L.length := by
    rcases Nat.lt_or_ge j L.length with q | q
    · exact q
    · rw [List.getElem?_eq_none q] at hm; cases hm
  obtain ⟨v0, v1, v2, -⟩ := hC j m hm
  have r46 : ∀ M1, XF xOm M M1 → Mi M1 46 j = m.1 := fun M1 x1 => by rw [x1.mi rfl]; exact v0
  have r47 : ∀ M1, XF xOm M M1 → Mi M1 47 j = m.2.1 := fun M1 x1 => by rw [x1.mi rfl]; exact v1
  have r48 : ∀ M1, XF xOm M M1 → Mi M1 48 j = m.2.2.1 := fun M1 x1 => by rw [x1.mi rfl]; exact v2
  unfold fX8_printsMode wrMode
  rw [Rn_bnd, show (32 : Int32) = nI 32 from rfl]
  refine (mPrints hM ho (by omega) (by omega)).mono ?_
  rintro - M1 ⟨x1, o1⟩
  have m1 := hM.xf x1
  have l1 : (O ++ [32]).length = O.length + 1 := by rw [List.length_append]; rfl
  rw [Rn_bnd, mA10 m1, Rn_bnd, rn_lI (by omega), mL46 m1, r46 M1 x1]
  refine ⟨by omega, ?_⟩
  -- behind the first sign
  have rest : ∀ (c : Nat) (O' : List Nat), c < 128 → (m.1 = nI 0 → O' = [c]) → (m.1 = nI 1 → O' = c :: dgS m.2.1) → (m.1 = nI 2 → O' = c :: (dgS m.2.1 ++ 32 :: dgS m.2.2.1)) → Rn (fX8_printsMode_L38 38 (nI j) (nI c) 38) M1 (fun _ M' => XF xOm M M' ∧ mOut M' (O ++ (32 :: O'))) := by
    intro c O' hc h0 h1 h2
    unfold fX8_printsMode_L38
    rw [Rn_bnd]
    refine (mPrints m1 o1 hc (by omega)).mono ?_
    rintro - M2 ⟨x2, o2⟩
    have X2 := x1.tr x2
    have m2 := hM.xf X2
    have l2 : (O ++ [32] ++ [c]).length = O.length + 2 := by rw [List.length_append, l1]; rfl
    rw [Rn_bnd, mA10 m2, Rn_bnd, rn_lI (by omega), mL46 m2, r46 M2 X2]
    refine ⟨by omega, ?_⟩
    unfold fX8_printsMode_L60
    rcases hok with h | ⟨h, y, hy, e1⟩ | ⟨h, a, b, ha, hb, e1, e2⟩
    · rw [h, if_pos (by decide), Rn_bnd, mA10 m2, Rn_bnd, rn_lI (by omega), mL46 m2, r46 M2 X2, h, if_neg (by decide), Rn_rtn, h0 h]
      rw [List.append_assoc] at o2
      exact ⟨by omega, X2, o2⟩
    · rw [h, if_neg (by decide), Rn_bnd, mA11 m2, Rn_bnd, rn_lI (by omega), mL47 m2, r47 M2 X2]
      refine ⟨by omega, ?_⟩
      have hv : -100 < m.2.1.toInt ∧ m.2.1.toInt < 100 := by
        rw [e1, show nI y - nI 3 = nI y - 3 from rfl]
        have := pk_sub_toInt (a := y) (b := 3) (by omega) (by omega)
        have e : (nI y - 3 : Int32).toInt = (y : Int) - 3 := this
        omega
      rw [Rn_bnd]
      refine (mPNumber m2 o2 hv (by omega)).mono ?_
      rintro - M3 ⟨x3, o3⟩
      have X3 := X2.tr x3
      have m3 := hM.xf X3
      rw [Rn_bnd, mA10 m3, Rn_bnd, rn_lI (by omega), mL46 m3, r46 M3 X3, h, if_neg (by decide), Rn_rtn, h1 h]
      rw [List.append_assoc, List.append_assoc] at o3
      exact ⟨by omega, X3, o3⟩
    · rw [h, if_neg (by decide), Rn_bnd, mA11 m2, Rn_bnd, rn_lI (by omega), mL47 m2, r47 M2 X2]
      refine ⟨by omega, ?_⟩
      have hv : -100 < m.2.1.toInt ∧ m.2.1.toInt < 100 := by rw [e1, nI_tI (by omega)]; omega
      have hv2 : -100 < m.2.2.1.toInt ∧ m.2.2.1.toInt < 100 := by rw [e2, nI_tI (by omega)]; omega
      have dl := dgS_2 (n := a) (by omega)
      rw [← e1] at dl
      rw [Rn_bnd]
      refine (mPNumber m2 o2 hv (by omega)).mono ?_
      rintro - M3 ⟨x3, o3⟩
      have X3 := X2.tr x3
      have m3 := hM.xf X3
      have l3 : (O ++ [32] ++ [c] ++ dgS m.2.1).length ≤ O.length + 4 := by rw [List.length_append, l2]; omega
      rw [Rn_bnd, mA10 m3, Rn_bnd, rn_lI (by omega), mL46 m3, r46 M3 X3, h, if_pos (by decide), Rn_bnd]
      refine ⟨by omega, ?_⟩
      refine (mPrints (c := 32) m3 o3 (by omega) (by omega)).mono ?_
      rintro - M4 ⟨x4, o4⟩
      have X4 := X3.tr x4
      have m4 := hM.xf X4
      rw [Rn_bnd, mA12 m4, Rn_bnd, rn_lI (by omega), mL48 m4, r48 M4 X4]
      refine ⟨by omega, ?_⟩
      rw [Rn_bnd]
      refine (mPNum' m4 o4 hv2 e2 (by omega) (by rw [List.length_append]; show _ + 1 + 2 ≤ 300; omega)).mono ?_
      rintro - M5 ⟨x5, o5⟩
      rw [Rn_rtn, h2 h]
      rw [List.append_assoc, List.append_assoc, List.append_assoc, List.append_assoc] at o5
      exact ⟨X4.tr x5, o5⟩
  refine Rn_cs (d := m.1 = nI 0) Iff.rfl (fun g => ?_) (fun g => ?_)
  · rw [if_pos g]
    exact rest 112 _ (by omega) (fun _ => rfl) (fun z => by rw [g] at z; exact absurd z (by decide)) (fun z => by rw [g] at z; exact absurd z (by decide))
  · rw [if_neg g, Rn_bnd, mA10 m1, Rn_bnd, rn_lI (by omega), mL46 m1, r46 M1 x1]
    refine ⟨by omega, ?_⟩
    refine Rn_cs (d := m.1 = nI 1) Iff.rfl (fun g1 => ?_) (fun g1 => ?_)
    · rw [if_pos g1]
      exact rest 118 _ (by omega) (fun z => absurd z g) (fun _ => rfl) (fun z => by rw [g1] at z; exact absurd z (by decide))
    · rw [if_neg g1]
      exact rest 104 _ (by omega) (fun z => absurd z g) (fun z => absurd z g1) (fun _ => rfl)
end MWr
