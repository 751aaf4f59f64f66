/-! THE CLASS: load, append, truncate -/
section CLoad
variable {M : Mm} {P : Pg} {U : List Pg} {V : Nat → Option Pg} {x : Tx}
theorem CPg.xf {B : Nat × Nat} {X : Nat → Nat → Bool} {M' : Mm} (h : CPg B M P U V) (f : XF X M M') (z : ∀ a b, (1 ≤ a ∧ a ≤ 5) ∨ B.1 ≤ a → X a b = false) : CPg B M' P U V := by
  obtain ⟨c1, c2, c3, c4, c5, c6⟩ := h
  have hB9 := c4.b
  exact ⟨c1.xf f, c2.xf f (fun a b q => z a b (Or.inl (by unfold xPgH at q; simp at q; omega))), c3, c4.xf f, isHi.xf c4 c5 f (fun a b q => z a b (by omega)), isSa.xf c4 c6 f (fun a b q => z a b (Or.inr q))⟩
theorem CPg.forget {B : Nat × Nat} (h : CPg B M P U V) : CPg B (sI M 5 0 0) P [] V := by
  obtain ⟨c1, c2, c3, c4, c5, c6⟩ := h
  have hB9 := c4.b
  have x2 : XF (fun a _ => decide (a = 5)) M (sI M 5 0 0) := XF.rf.sI (by simp)
  have x5 : ∀ a b : Nat, a ≠ 5 → (fun (a _ : Nat) => decide (a = 5)) a b = false := fun a b z => by simp [z]
  obtain ⟨n, n1, n2, _⟩ := c5
  refine ⟨c1.xf x2, c2.xf x2 (fun a b z => x5 a b (by unfold xPgH at z; simp at z; omega)), c3, c4.xf x2, ⟨n, n1, by rw [Mi_sI, if_neg (by omega)]; exact n2, sI_self, Nat.zero_le _, fun i Q hQ => by cases hQ⟩, isSa.xf c4 c6 x2 (fun a b z => x5 a b (by omega))⟩
/-- cells that load may change -/
def xLd (B : Nat × Nat) (a b : Nat) : Bool := (xEc B) a b || xPr a b || (a == 9)
theorem xEc_Ld {B : Nat × Nat} (a b : Nat) (z : (xLd B) a b = false) : (xEc B) a b = false := by unfold xLd at z; cases e : (xEc B) a b <;> simp [e] at z ⊢
theorem xPr_Ld {B : Nat × Nat} (a b : Nat) (z : (xLd B) a b = false) : xPr a b = false := by unfold xLd at z; cases e : xPr a b <;> simp [e] at z ⊢
/-- load: what it answers, the state, the error told -/
def spLoad (P : Pg) (U : List Pg) (x : Tx) : Int32 × (Pg × List Pg) × (Int32 × Int32) := match spText x with
  | .inl e => (-1, (P, U), (nI e.1, nI e.2))
  | .inr Q => (nI (PL Q), (Q, []), (nI 0, -1))
theorem cLoadOp {B : Nat × Nat} (h : CPg B M P U V) (hx : isTx M x) : Rn (fX7_load 0) M (fun a M' => a = (spLoad P U x).1 ∧ XG (xLd B) M M' ∧ CPg B M' (spLoad P U x).2.1.1 (spLoad P U x).2.1.2 V ∧ isTx M' (x.1, 0) ∧ Mi M' 8 0 = (spLoad P U x).2.2.1 ∧ Mi M' 8 1 = (spLoad P U x).2.2.2 ∧ Mr M' = Mr M ∧ Mn M' = Mn M) := by
  have c1 := h.1
  have hB9 := h.2.2.2.1.b
  unfold fX7_load
  rw [Rn_bnd, cA0_3 c1, Rn_bnd]
  refine (cReadText c1 hx).mono ?_
  rintro a M1 ⟨x1, rt⟩
  have m1 := c1.xf x1
  have g1 : CPg B M1 P U V := h.xf x1 (fun a b z => by unfold xPr xTk; simp; omega)
  rw [Rn_bnd, cA0_3 m1, Rn_bnd, cA8_2 m1, Rn_bnd, Rn_pI]
  have x2 : XF (fun a _ => decide (a = 9)) M1 (sI M1 9 0 0) := XF.rf.sI (by simp)
  have X : ∀ a b : Nat, a ≠ 9 → (fun (a _ : Nat) => decide (a = 9)) a b = false := fun a b z => by simp [z]
  have t2 : isTx (sI M1 9 0 0) (x.1, 0) := ⟨sI_self, Nat.zero_le _, fun i hi => absurd hi (Nat.not_lt_zero _), fun i hi => absurd hi (Nat.not_lt_zero _)⟩
  generalize sI M1 9 0 0 = M2 at x2 t2
  have g2 : CPg B M2 P U V := g1.xf x2 (fun a b z => X a b (by omega))
  have X12 : XF (xLd B) M M2 := (x1.mono xPr_Ld).tr (x2.mono (fun a b z => by unfold xLd at z; simp at z ⊢; omega))
  unfold spLoad
  cases hs : spText x with
  | inl e =>
    rw [hs] at rt
    obtain ⟨rfl, r1, r2⟩ := rt
    rw [if_pos (by decide), Rn_rtn]
    exact ⟨rfl, X12.xg, g2, t2, by rw [x2.mi (X 8 0 (by omega))]; exact r1, by rw [x2.mi (X 8 1 (by omega))]; exact r2, X12.mr, X12.mn⟩
  | inr Q =>
    rw [hs] at rt
    obtain ⟨rfl, r1, r2, r3, r4⟩ := rt
    have m2 := g2.1
    have p2 : isPgC M2 11 Q := r3.xf x2 (fun a b z => X a b (by unfold xPgH at z; simp at z; omega))
    rw [if_neg (by decide), Rn_bnd, cA0_0 m2, Rn_bnd, cA0_3 m2, Rn_bnd, cA8_3 m2, Rn_bnd]
    refine (cCopyFrom m2.p1 m2.p11 p2 (by omega) r4).mono ?_
    rintro - M3 ⟨x3, q3⟩
    obtain ⟨y3, g3⟩ := g2.go x3 q3 r4
    have m3 := g3.1
    unfold fX1_forget
    rw [Rn_bnd, cA0_1 m3, Rn_bnd, Rn_bnd, Rn_pI, Rn_rtn]
    have g4 := g3.forget
    have x4 : XF (xEc B) M3 (sI M3 5 0 0) := XF.rf.sI rfl
    have k4 : ∀ a b, a ≠ 5 → Mi (sI M3 5 0 0) a b = Mi M3 a b := fun a b z => ne_row z b
    generalize sI M3 5 0 0 = M4 at g4 x4 k4
    rw [Rn_bnd, cA0_0 g4.1, Rn_bnd, Rn_gI, g4.2.1.2.1, Rn_rtn]
    have t4 : isTx M4 (x.1, 0) := ⟨by rw [k4 _ _ (by omega), x3.mi (xPgH_0 (by omega))]; exact t2.1, Nat.zero_le _, fun i hi => absurd hi (Nat.not_lt_zero _), fun i hi => absurd hi (Nat.not_lt_zero _)⟩
    refine ⟨rfl, (X12.xg).tr (((y3.mono xEc_Ld)).tr ((x4.mono xEc_Ld).xg)), g4, t4, ?_, ?_, x4.mr.trans (x3.mr.trans X12.mr), x4.mn.trans (x3.mn.trans X12.mn)⟩
    · rw [k4 _ _ (by omega), x3.mi (xPgH_0 (by omega)), x2.mi (X 8 0 (by omega))]; exact r1
    · rw [k4 _ _ (by omega), x3.mi (xPgH_0 (by omega)), x2.mi (X 8 1 (by omega))]; exact r2
theorem cErrorCode (hM : CO M) {Q : Int32 → Mm → Prop} : Rn (fX7_errorCode 0) M Q ↔ Q (Mi M 8 0) M := by
  unfold fX7_errorCode; rw [Rn_bnd, cA0_3 hM, Rn_bnd, Rn_gI, Rn_rtn]
def spTrunc (x : Tx) (y : Int32) : Rs × Tx := if isLn (x.2 + 1) y = true then (.inr y, (x.1, ix y)) else (.inl 1, x)
def xTx (a b : Nat) : Bool := (a == 9 && b == 0) || a == 10
theorem cTruncOp (hM : CO M) (hx : isTx M x) (y : Int32) : Rn (fX7_truncateText 0 y) M (fun a M' => a = xc 0 0 (spTrunc x y).1 ∧ XF xTx M M' ∧ isTx M' (spTrunc x y).2) := by
  have h9 := hx.2.1
  unfold fX7_truncateText spTrunc fX7_truncateText_L18
  rcases ln_le (n := x.2) (by omega) y with ⟨h1, h2⟩ | ⟨h1, h2, h3, k, hk, rfl⟩ | ⟨h1, h2, h3⟩
  · rw [if_pos h1, Rn_rtn, h2]; exact ⟨rfl, XF.rf, hx⟩
  · rw [if_neg h1, Rn_bnd, cA0_3 hM, Rn_bnd, cA8_2 hM, Rn_bnd, Rn_gI, hx.1, if_pos h2, Rn_bnd, cA0_3 hM, Rn_bnd, cA8_2 hM, Rn_bnd, Rn_pI, Rn_rtn, if_pos h3, ix_n (by omega)]
    refine ⟨rfl, XF.rf.sI rfl, sI_self, by show k ≤ 900; omega, fun i hi => ?_, fun i hi => hx.2.2.2 i (by have hi : i < k := hi; omega)⟩
    have hi : i < k := hi
    rw [ne_row (by omega)]; exact hx.2.2.1 i (by omega)
  · rw [if_neg h1, Rn_bnd, cA0_3 hM, Rn_bnd, cA8_2 hM, Rn_bnd, Rn_gI, hx.1, if_neg h2, Rn_rtn, h3]; exact ⟨rfl, XF.rf, hx⟩
/-- the low byte of a number -/
def lowB (v : Int32) : Nat := v.toBitVec.toNat % 256
theorem lowB_s (v : Int32) : (i2b v).toInt8.toInt32 &&& 255 = nI (lowB v) := by
  unfold i2b lowB
  apply Int32.toBitVec_inj.mp
  show ((v.toInt8.toInt32.toInt8.toInt32).toBitVec &&& (255 : Int32).toBitVec) = BitVec.ofNat 32 (v.toBitVec.toNat % 256)
  apply BitVec.eq_of_toNat_eq
  have e255 : (255 : Int32).toBitVec.toNat = 2 ^ 8 - 1 := by decide
  have w8 : ∀ b : BitVec 8, (b.signExtend 32).toNat % 2 ^ 8 = b.toNat := by decide
  have t8 : ∀ b : BitVec 8, ((b.signExtend 32).setWidth 8) = b := by decide
  have e1 : (v.toInt8.toInt32.toInt8.toInt32).toBitVec = (v.toBitVec.setWidth 8).signExtend 32 := by
    have s8 : ∀ b : BitVec 32, b.signExtend 8 = b.setWidth 8 := fun b => by first | exact BitVec.signExtend_eq_setWidth_of_le b (by decide) | exact BitVec.signExtend_eq_setWidth_of_lt b (by decide) | exact BitVec.signExtend_eq_truncate_of_lt b (by decide)
    rw [Int8.toBitVec_toInt32, Int32.toBitVec_toInt8, Int8.toBitVec_toInt32, Int32.toBitVec_toInt8, s8, s8, t8]
  rw [BitVec.toNat_and, e255, Nat.and_two_pow_sub_one_eq_mod, e1, w8, BitVec.toNat_ofNat, BitVec.toNat_setWidth]
  have : v.toBitVec.toNat % 256 < 256 := Nat.mod_lt _ (by decide)
  show v.toBitVec.toNat % 256 = v.toBitVec.toNat % 256 % 2 ^ 32
  omega
theorem lowB_lt (v : Int32) : lowB v < 256 := Nat.mod_lt _ (by decide)
theorem cAppend (hM : CO M) (hx : isTx M x) (hl : x.2 < 900) (v : Int32) : Rn (fX6_append 9 v) M (fun _ M' => XF xTx M M' ∧ isTx M' (updN x.1 x.2 (lowB v), x.2 + 1)) := by
  unfold fX6_append
  rw [Rn_bnd, Rn_gI, hx.1, if_neg (nI_pos (by omega)), Rn_bnd, Rn_gI, hx.1, nL900, if_neg (by rw [nle (by omega) (by omega)]; omega), Rn_bnd, cA9_4 hM, Rn_bnd, Rn_gI, hx.1, Rn_bnd, rn_aB (by omega), cL10 hM]
  refine ⟨hl, ?_⟩
  have e : Mi (sI M 10 x.2 (i2b v).toInt8.toInt32) 9 0 = nI x.2 := by rw [ne_row (by omega)]; exact hx.1
  rw [Rn_bnd, Rn_gI, e, Rn_bnd, Rn_pI, Rn_rtn, nL1, nI_add]
  refine ⟨(XF.rf.sI rfl).sI rfl, sI_self, by show x.2 + 1 ≤ 900; omega, fun i hi => ?_, fun i hi => ?_⟩
  · have hi : i < x.2 + 1 := hi
    show Mi _ 10 i &&& 255 = nI (updN x.1 x.2 (lowB v) i)
    rw [ne_row (by omega), Mi_sI]
    by_cases q : i = x.2
    · rw [if_pos ⟨rfl, q⟩, q, updN_s, lowB_s]
    · rw [if_neg (fun z => q z.2), updN_n q]; exact hx.2.2.1 i (by omega)
  · have hi : i < x.2 + 1 := hi
    show updN x.1 x.2 (lowB v) i < 256
    by_cases q : i = x.2
    · rw [q, updN_s]; exact lowB_lt v
    · rw [updN_n q]; exact hx.2.2.2 i (by omega)
def addB (x : Tx) (v : Int32) : Tx := (updN x.1 x.2 (lowB v), x.2 + 1)
def spAppend (x : Tx) (v : Int32) : Rs × Tx := if x.2 + 4 ≤ 900 then (.inr (nI (x.2 + 4)), addB (addB (addB (addB x (iush v 24)) (iush v 16)) (iush v 8)) v) else (.inl 1, x)
theorem cAppendOp (hM : CO M) (hx : isTx M x) (v : Int32) : Rn (fX7_appendText 0 v) M (fun a M' => a = xc 1 1 (spAppend x v).1 ∧ XF xTx M M' ∧ isTx M' (spAppend x v).2) := by
  have h9 := hx.2.1
  unfold fX7_appendText spAppend
  rw [Rn_bnd, cA0_3 hM, Rn_bnd, cA8_2 hM, Rn_bnd, Rn_gI, hx.1, show nI x.2 + 4 = nI (x.2 + 4) from by rw [nL4, nI_add]]
  refine Rn_cs (show nI (x.2 + 4) ≤ 900 ↔ x.2 + 4 ≤ 900 from nle (b := 900) (by omega) (by omega)) (fun g => ?_) (fun g => ?_)
  · rw [if_pos g, Rn_bnd, cA0_3 hM, Rn_bnd, cA8_2 hM, Rn_bnd]
    refine (cAppend hM hx (by omega) _).mono ?_
    rintro - M1 ⟨x1, t1⟩
    have m1 := hM.xf x1
    rw [Rn_bnd, cA0_3 m1, Rn_bnd, cA8_2 m1, Rn_bnd]
    refine (cAppend m1 t1 (by show x.2 + 1 < 900; omega) _).mono ?_
    rintro - M2 ⟨x2, t2⟩
    have m2 := m1.xf x2
    rw [Rn_bnd, cA0_3 m2, Rn_bnd, cA8_2 m2, Rn_bnd]
    refine (cAppend m2 t2 (by show x.2 + 1 + 1 < 900; omega) _).mono ?_
    rintro - M3 ⟨x3, t3⟩
    have m3 := m2.xf x3
    rw [Rn_bnd, cA0_3 m3, Rn_bnd, cA8_2 m3, Rn_bnd]
    refine (cAppend m3 t3 (by show x.2 + 1 + 1 + 1 < 900; omega) _).mono ?_
    rintro - M4 ⟨x4, t4⟩
    have m4 := m3.xf x4
    rw [Rn_bnd, cA0_3 m4, Rn_bnd, cA8_2 m4, Rn_bnd, Rn_gI, t4.1, Rn_rtn]
    exact ⟨rfl, ((x1.tr x2).tr x3).tr x4, t4⟩
  · rw [if_neg g, Rn_rtn]; exact ⟨rfl, XF.rf, hx⟩
end CLoad

