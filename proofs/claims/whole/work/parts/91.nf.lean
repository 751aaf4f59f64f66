/-! THE REFERENCE: append, truncate, errors -/
def xTm (a b : Nat) : Bool := (a == 38 && (b == 0 || b == 32)) || a == 58
theorem sb_low (v : Int32) : (i2b v).toInt8.toInt32 = (nI (lowB v)).toInt8.toInt32 := by
  unfold i2b lowB
  apply Int32.toBitVec_inj.mp
  have s8 : ∀ b : BitVec 32, b.signExtend 8 = b.setWidth 8 := fun b => by first | exact BitVec.signExtend_eq_setWidth_of_le b (by decide) | exact BitVec.signExtend_eq_setWidth_of_lt b (by decide) | exact BitVec.signExtend_eq_truncate_of_lt b (by decide)
  have t8 : ∀ b : BitVec 8, ((b.signExtend 32).setWidth 8) = b := by decide
  have e1 : ∀ z : Int32, (z.toInt8.toInt32).toBitVec = (z.toBitVec.setWidth 8).signExtend 32 := by
    intro z
    rw [Int8.toBitVec_toInt32, Int32.toBitVec_toInt8, s8]
  rw [e1, e1, e1, t8]
  congr 1
  apply BitVec.eq_of_toNat_eq
  rw [BitVec.toNat_setWidth, BitVec.toNat_setWidth]
  show v.toBitVec.toNat % 256 = (BitVec.ofNat 32 (v.toBitVec.toNat % 256)).toNat % 256
  rw [BitVec.toNat_ofNat]
  have : v.toBitVec.toNat % 256 < 256 := Nat.mod_lt _ (by decide)
  omega
theorem lowB_bv {a b : Int32} (h : ∀ i, i < 8 → a.toBitVec.getLsbD i = b.toBitVec.getLsbD i) : lowB a = lowB b := by
  unfold lowB
  apply Nat.eq_of_testBit_eq
  intro i
  rw [show (256 : Nat) = 2 ^ 8 from rfl, Nat.testBit_mod_two_pow, Nat.testBit_mod_two_pow]
  by_cases g : i < 8
  · have := h i g
    unfold BitVec.getLsbD at this
    rw [this]
  · simp [g]
theorem lowB_sh (v : Int32) : lowB (v >>> ((24 : Int32) &&& 31)) = lowB (iush v 24) ∧ lowB (v >>> ((16 : Int32) &&& 31)) = lowB (iush v 16) ∧ lowB (v >>> ((8 : Int32) &&& 31)) = lowB (iush v 8) ∧ lowB (v >>> ((0 : Int32) &&& 31)) = lowB v := by
  have key : ∀ (s : Int32) (n : Nat), (s &&& 31).toBitVec.smod 32 = BitVec.ofNat 32 n → (s.toUInt32 &&& Int32.toUInt32 31).toBitVec.toNat % 32 = n → n ≤ 24 → lowB (v >>> (s &&& 31)) = lowB (iush v s) := by
    intro s n h1 h2 h3
    apply lowB_bv
    intro i hi
    have e1 : (v >>> (s &&& 31)).toBitVec = v.toBitVec.sshiftRight' ((s &&& 31).toBitVec.smod 32) := rfl
    have e2 : (iush v s).toBitVec = v.toBitVec >>> ((s.toUInt32 &&& Int32.toUInt32 31).toBitVec % 32) := rfl
    rw [e1, e2, h1]
    have e3 : ((s.toUInt32 &&& Int32.toUInt32 31).toBitVec % 32).toNat = n := by rw [BitVec.toNat_umod]; exact h2
    rw [BitVec.ushiftRight_eq', e3, BitVec.getLsbD_ushiftRight]
    have e4 : (BitVec.ofNat 32 n).toNat = n := by rw [BitVec.toNat_ofNat]; omega
    rw [BitVec.sshiftRight_eq', e4, BitVec.getLsbD_sshiftRight]
    have g1 : decide (32 ≤ i) = false := by simp; omega
    rw [g1, if_pos (by omega)]
    simp
  refine ⟨key 24 24 (by decide) (by decide) (by omega), key 16 16 (by decide) (by decide) (by omega), key 8 8 (by decide) (by decide) (by omega), ?_⟩
  have : v >>> ((0 : Int32) &&& 31) = v := by
    rw [show ((0 : Int32) &&& 31) = 0 from by decide]
    exact Int32.shiftRight_zero
  rw [this]
section MAp
variable {M : Mm} {x : Tx}
theorem mApp1 {n : Nat} {v s w : Int32} (hM : MO M) (hx : isTxM M x) (hl : x.2 < 900) (hs : ¬ s < 0) (hb : lowB (v >>> (s &&& 31)) = lowB w) {Q : Int32 → Mm → Prop} (k : ∀ M1, XF xTm M M1 → Mi M1 38 0 = Mi M 38 0 → MO M1 → isTxM M1 (addB x w) → Rn (fX8_appendText_L33 n 38 v (s + -8)) M1 Q) : Rn (fX8_appendText_L33 (n + 1) 38 v s) M Q := by
  unfold fX8_appendText_L33
  rw [if_neg hs, Rn_bnd, mA31 hM, Rn_bnd, Rn_gI, hx.1, Rn_bnd, rn_aB (by omega), mL58 hM, sb_low, hb]
  refine ⟨hl, ?_⟩
  have e : Mi (sI M 58 x.2 (nI (lowB w)).toInt8.toInt32) 38 32 = nI x.2 := by rw [ne_row (by omega)]; exact hx.1
  rw [Rn_bnd, Rn_gI, e, Rn_bnd, Rn_pI, nL1, nI_add]
  refine k _ ((XF.rf.sI rfl).sI rfl) (by rw [Mi_sI, if_neg (by omega), ne_row (by omega)]) hM.sI.sI ⟨sI_self, by show x.2 + 1 ≤ 900; omega, fun i hi => ?_, fun i hi => ?_⟩
  · have hi : i < x.2 + 1 := hi
    show Mi _ 58 i = (nI (updN x.1 x.2 (lowB w) i)).toInt8.toInt32
    rw [ne_row (by omega), Mi_sI]
    by_cases q : i = x.2
    · rw [if_pos ⟨rfl, q⟩, q, updN_s]
    · rw [if_neg (fun z => q z.2), updN_n q]; exact hx.2.2.1 i (by omega)
  · have hi : i < x.2 + 1 := hi
    show updN x.1 x.2 (lowB w) i < 256
    by_cases q : i = x.2
    · rw [q, updN_s]; exact lowB_lt w
    · rw [updN_n q]; exact hx.2.2.2 i (by omega)
theorem mAppendOp (hM : MO M) (hx : isTxM M x) (v : Int32) : Rn (fX8_appendText 38 v) M (fun b M' => mR (spAppend x v).1 b M' ∧ XF xTm M M' ∧ isTxM M' (spAppend x v).2) := by
  have h9 := hx.2.1
  obtain ⟨b1, b2, b3, b4⟩ := lowB_sh v
  unfold fX8_appendText spAppend
  rw [Rn_bnd, Rn_gI, hx.1, show nI x.2 + 4 = nI (x.2 + 4) from by rw [nL4, nI_add]]
  refine Rn_cs (show (900 : Int32) < nI (x.2 + 4) ↔ 900 < x.2 + 4 from nlt (a := 900) (by omega) (by omega)) (fun g => ?_) (fun g => ?_)
  · unfold fX8_appendText_L18
    rw [if_neg (by omega), Rn_bnd, Rn_pI, Rn_bnd, Rn_gI, sI_self, if_neg (by decide), Rn_rtn]
    have x1 : XF xTm M (sI M 38 0 1) := XF.rf.sI rfl
    exact ⟨mR_l (c := 1) sI_self, x1, by rw [Mi_sI, if_neg (by omega)]; exact hx.1, h9, fun i hi => by rw [ne_row (by omega)]; exact hx.2.2.1 i hi, hx.2.2.2⟩
  · unfold fX8_appendText_L18
    rw [if_pos (by omega), Rn_bnd, Rn_pI, Rn_bnd, Rn_gI, sI_self, if_pos (by decide)]
    have x0 : XF xTm M (sI M 38 0 0) := XF.rf.sI rfl
    have t0 : isTxM (sI M 38 0 0) x := ⟨by rw [Mi_sI, if_neg (by omega)]; exact hx.1, h9, fun i hi => by rw [ne_row (by omega)]; exact hx.2.2.1 i hi, hx.2.2.2⟩
    have z0 : Mi (sI M 38 0 0) 38 0 = nI 0 := sI_self
    have m0 := hM.sI (a := 38) (b := 0) (v := 0)
    generalize sI M 38 0 0 = M0 at x0 t0 z0 m0 ⊢
    show Rn (fX8_appendText_L33 (19995 + 1 + 1 + 1 + 1 + 1) 38 v 24) M0 _
    refine mApp1 m0 t0 (by omega) (by decide) b1 (fun M1 x1 z1 m1 t1 => ?_)
    rw [show (24 : Int32) + -8 = 16 from by decide]
    refine mApp1 m1 t1 (by show x.2 + 1 < 900; omega) (by decide) b2 (fun M2 x2 z2 m2 t2 => ?_)
    rw [show (16 : Int32) + -8 = 8 from by decide]
    refine mApp1 m2 t2 (by show x.2 + 1 + 1 < 900; omega) (by decide) b3 (fun M3 x3 z3 m3 t3 => ?_)
    rw [show (8 : Int32) + -8 = 0 from by decide]
    refine mApp1 m3 t3 (by show x.2 + 1 + 1 + 1 < 900; omega) (by decide) b4 (fun M4 x4 z4 m4 t4 => ?_)
    rw [show (0 : Int32) + -8 = -8 from by decide]
    unfold fX8_appendText_L33
    rw [if_pos (by decide), Rn_bnd, Rn_gI, t4.1, Rn_rtn]
    exact ⟨mR_r (by rw [z4, z3, z2, z1]; exact z0), (((x0.tr x1).tr x2).tr x3).tr x4, t4⟩
theorem mTruncOp (hM : MO M) (hx : isTxM M x) (y : Int32) : Rn (fX8_truncateText 38 y) M (fun b M' => mR (spTrunc x y).1 b M' ∧ XF xTm M M' ∧ isTxM M' (spTrunc x y).2) := by
  have h9 := hx.2.1
  unfold fX8_truncateText spTrunc
  have t0 : ∀ v, isTxM (sI M 38 0 v) x := fun v => ⟨by rw [Mi_sI, if_neg (by omega)]; exact hx.1, h9, fun i hi => by rw [ne_row (by omega)]; exact hx.2.2.1 i hi, hx.2.2.2⟩
  rw [Rn_bnd, Rn_gI, hx.1, Rn_bnd, ← pl_s x.2]
  have e1 : Rn (fX8_in y 0 (pl (x.2 + 1))) M (fun z M' => z = nI (bN (isLn (x.2 + 1) y)) ∧ M' = M) := by
    rw [mIn0 (by omega)]; exact ⟨rfl, rfl⟩
  rw [Rn_det e1]
  unfold fX8_truncateText_L18
  refine Rn_cs (bN_0 _) (fun g => ?_) (fun g => ?_)
  · rw [if_neg (by rw [g]; decide), Rn_bnd, Rn_pI, Rn_bnd, Rn_gI, sI_self, if_neg (by decide), Rn_rtn]
    exact ⟨mR_l (c := 1) sI_self, XF.rf.sI rfl, t0 1⟩
  · have g : isLn (x.2 + 1) y = true := by simpa using g
    obtain ⟨k, hk, rfl⟩ := isLn_t (by omega) g
    rw [if_pos g, Rn_bnd, Rn_pI, Rn_bnd, Rn_gI, sI_self, if_pos (by decide), Rn_bnd, Rn_pI, Rn_bnd, Rn_gI, sI_self, Rn_rtn, ix_n (by omega)]
    refine ⟨mR_r (by rw [Mi_sI, if_neg (by omega)]; exact sI_self), (XF.rf.sI rfl).sI rfl, sI_self, by show k ≤ 900; omega, fun i hi => ?_, fun i hi => hx.2.2.2 i (by have hi : i < k := hi; omega)⟩
    have hi : i < k := hi
    rw [ne_row (by omega), ne_row (by omega)]; exact hx.2.2.1 i (by omega)
theorem mErrCode : Rn (fX8_errorCode 38) M (fun b M' => b = Mi M 38 37 ∧ Mi M' 38 0 = nI 0 ∧ XF xTm M M') := by
  unfold fX8_errorCode
  rw [Rn_bnd, Rn_pI, Rn_bnd, Rn_gI, Rn_rtn, Mi_sI, if_neg (by omega)]
  exact ⟨rfl, sI_self, XF.rf.sI rfl⟩
theorem mErrPos : Rn (fX8_errorPosition 38) M (fun b M' => b = Mi M 38 38 ∧ Mi M' 38 0 = nI 0 ∧ XF xTm M M') := by
  unfold fX8_errorPosition
  rw [Rn_bnd, Rn_pI, Rn_bnd, Rn_gI, Rn_rtn, Mi_sI, if_neg (by omega)]
  exact ⟨rfl, sI_self, XF.rf.sI rfl⟩
end MAp
