/-! THE REFERENCE: undo, save, restore -/
def spUndo (P : Pg) (U : List Pg) : Int32 × (Pg × List Pg) := match U[U.length - 1]? with
  | some Q => (nI (U.length - 1), (Q, U.take (U.length - 1)))
  | none => (-1, (P, U))
def spSave (P : Pg) (V : Nat → Option Pg) (x : Int32) : Nat × (Nat → Option Pg) := if isLn 2 x = true then (0, updN V (ix x) (some P)) else (1, V)
def spRestore (P : Pg) (U : List Pg) (V : Nat → Option Pg) (x : Int32) : Nat × (Pg × List Pg) := if isLn 2 x = true then (match V (ix x) with | some Q => (0, (Q, [])) | none => (2, (P, U))) else (1, (P, U))
def mSl (v : Int32) (f : Nat → Int32) (o : Option Pg) : Prop := match o with
  | some Q => v = nI 1 ∧ isPgM f Q ∧ wfP Q
  | none => v = nI 0
def mSv (M : Mm) (V : Nat → Option Pg) : Prop := ∀ j, j < 2 → mSl (Mi M 43 j) (fun k => Mi M 42 (828 * j + k)) (V j)
theorem mSl.cg {v v' : Int32} {f g : Nat → Int32} {o : Option Pg} (h : mSl v f o) (hv : v' = v) (e : ∀ k, k < 828 → g k = f k) : mSl v' g o := by
  subst hv
  cases o with
  | none => exact h
  | some Q => exact ⟨h.1, h.2.1.cg h.2.2 e, h.2.2⟩
def xTh (h k : Nat) : Bool := h == 38 && k == 0
def xSv (h k : Nat) : Bool := (h == 38 && k == 0) || h == 42 || h == 43
theorem xTh_Sv (a b : Nat) (h : xSv a b = false) : xTh a b = false := by unfold xSv at h; unfold xTh; cases e : (a == 38 && b == 0) <;> simp [e] at h ⊢
theorem xRw_Pg (b a k : Nat) (h : xPg a k = false) : xRow 39 a k = false := h
section MBack
variable {M : Mm} {P : Pg} {U : List Pg}
theorem mUndoOp (hM : MO M) (h : mPU M (P, U)) : Rn (fX8_undo 38) M (fun r M' => r = (spUndo P U).1 ∧ XF xEd M M' ∧ mPU M' (spUndo P U).2) := by
  obtain ⟨hP, hw, hn, hl, hU⟩ := id h
  have hP : isPgM (Mi M 39) P := hP
  have hw : wfP P := hw
  have hn : Mi M 38 4 = nI U.length := hn
  have hl : U.length ≤ 10 := hl
  have hU : rpU (Mi M 41) U := hU
  unfold fX8_undo
  refine mPI0 hM hP (fun M0 x0 t0 m0 p0 => ?_)
  have n0 : Mi M0 38 4 = nI U.length := by rw [x0.mi rfl]; exact hn
  rw [Rn_bnd, Rn_gI, n0]
  refine Rn_cs (d := U.length = 0) (by rw [nL0, neq (by omega) (by omega)]) (fun h0 => ?_) (fun h0 => ?_)
  · rw [Rn_rtn]
    have e : spUndo P U = (-1, (P, U)) := by unfold spUndo; rw [List.getElem?_eq_none (by omega)]
    rw [e]
    exact ⟨rfl, x0.mono xRd_Ed, h.go x0 (fun _ => rfl) rfl p0 hw⟩
  · obtain ⟨Q, hQ⟩ : ∃ Q, U[U.length - 1]? = some Q := ⟨_, List.getElem?_eq_getElem (by omega)⟩
    obtain ⟨q1, q2⟩ := hU _ Q hQ
    have e : spUndo P U = (nI (U.length - 1), (Q, U.take (U.length - 1))) := by unfold spUndo; rw [hQ]
    rw [e]
    rw [Rn_bnd, Rn_gI, n0, Rn_bnd, Rn_pI, nL1, nsb (by omega)]
    have x1 : XF xKp M0 (sI M0 38 4 (nI (U.length - 1))) := XF.rf.sI rfl
    have m1 := m0.xf x1
    have n1 : Mi (sI M0 38 4 (nI (U.length - 1))) 38 4 = nI (U.length - 1) := sI_self
    have r1 : ∀ j, Mi (sI M0 38 4 (nI (U.length - 1))) 41 j = Mi M 41 j := fun j => by rw [Mi_sI, if_neg (by omega), x0.mi rfl]
    generalize sI M0 38 4 (nI (U.length - 1)) = M1 at x1 m1 n1 r1 ⊢
    rw [Rn_bnd, mA3 m1, Rn_bnd, Rn_gI, n1, Rn_bnd, mA1 m1, Rn_bnd, nL828, pk_mul, nL0]
    refine (mCopies (M := M1) (one := 41) (other := 39) (by decide) (by rw [mL41 m1]; omega) (by rw [mL39 m1]; omega) (by omega) (by omega)).mono ?_
    rintro - M2 ⟨x2, hk, -⟩
    have n2 : Mi M2 38 4 = nI (U.length - 1) := by rw [x2.mi rfl]; exact n1
    rw [Rn_bnd, Rn_gI, n2, Rn_rtn]
    have x2' : XF xPg M1 M2 := x2
    refine ⟨rfl, ((x0.mono xRd_Ed).tr (x1.mono xKp_Ed)).tr (x2'.mono xPg_Ed), ?_, q2, ?_, ?_, ?_⟩
    · exact q1.cg q2 (fun k hk2 => by rw [← r1, ← hk k hk2, Nat.zero_add])
    · show _ = nI (U.take (U.length - 1)).length
      rw [List.length_take, Nat.min_eq_left (by omega)]; exact n2
    · show (U.take (U.length - 1)).length ≤ 10
      rw [List.length_take]; omega
    · intro i Z hZ
      have hZ : (U.take (U.length - 1))[i]? = some Z := hZ
      rw [List.getElem?_take] at hZ
      split at hZ
      · obtain ⟨z1, z2⟩ := hU i Z hZ
        exact ⟨z1.cg z2 (fun k hk2 => by rw [x2.mi rfl, r1]), z2⟩
      · cases hZ
theorem mSaveOp (hM : MO M) (hP : isPgM (Mi M 39) P) (hw : wfP P) {V : Nat → Option Pg} (hV : mSv M V) (x : Int32) : Rn (fX8_save 38 x) M (fun _ M' => Mi M' 38 0 = nI (spSave P V x).1 ∧ XF xSv M M' ∧ mSv M' (spSave P V x).2) := by
  unfold fX8_save spSave
  rw [Rn_bnd]
  have e1 : Rn (fX8_in x 0 1) M (fun z M' => z = nI (bN (isLn 2 x)) ∧ M' = M) := by
    rw [show (1 : Int32) = pl 2 from by decide, mIn0 (by omega)]; exact ⟨rfl, rfl⟩
  rw [Rn_det e1]
  by_cases g : isLn 2 x = true
  · rw [if_pos g, g, if_neg (by decide)]
    obtain ⟨j, hj, rfl⟩ := isLn_t (by omega) g
    rw [ix_n (by omega)]
    unfold fX8_save_L15
    rw [Rn_bnd, Rn_pI]
    have x00 : XF xTh M (sI M 38 0 0) := XF.rf.sI rfl
    have t0 : Mi (sI M 38 0 0) 38 0 = nI 0 := sI_self
    generalize sI M 38 0 0 = M0 at x00 t0 ⊢
    have x0 := x00.mono xTh_Sv
    have m0 := hM.xf x0
    have p0 : isPgM (Mi M0 39) P := by rw [x0.row (fun _ => rfl)]; exact hP
    rw [Rn_bnd, Rn_gI, t0, if_pos (by decide), Rn_bnd, mA1 m0, Rn_bnd, mA5 m0, Rn_bnd, nL828, pk_mul, nL0]
    refine (mCopies (M := M0) (one := 39) (other := 42) (by decide) (by rw [mL39 m0]; omega) (by rw [mL42 m0]; omega) (by omega) (by omega)).mono ?_
    rintro - M1 ⟨x1, hk, ho⟩
    have x1' : XF xSv M0 M1 := x1.mono (fun a b z => by unfold xSv at z; unfold xRow; cases e : a == 42 <;> simp [e] at z ⊢)
    have m1 := m0.xf x1
    rw [Rn_bnd, mA6 m1, Rn_bnd, Rn_aZ, vpB_nI (by omega), mL43 m1, decide_eq_true (by omega), nI_clamp (by omega), Rn_rtn, show vp_nar .boolean 1 = nI 1 from by decide]
    have x2 : XF xSv M1 (sI M1 43 j (nI 1)) := XF.rf.sI rfl
    refine ⟨rfl, ?_, (x0.tr x1').tr x2, fun i hi => ?_⟩
    · rw [Mi_sI, if_neg (by omega), x1.mi rfl]; exact t0
    · have e42 : ∀ a, Mi (sI M1 43 j (nI 1)) 42 a = Mi M1 42 a := fun a => by rw [Mi_sI, if_neg (by omega)]
      show mSl _ _ (updN V j (some P) i)
      by_cases e : i = j
      · subst e
        rw [updN_s]
        exact ⟨sI_self, p0.cg hw (fun k hk2 => by rw [e42, hk k hk2, Nat.zero_add]), hw⟩
      · rw [updN_n e]
        refine (hV i hi).cg ?_ (fun k hk2 => ?_)
        · rw [Mi_sI, if_neg (fun z => e z.2), x1.mi rfl, x00.mi rfl]
        · rw [e42, ho _ (by omega), x00.mi rfl]
  · have g3 : isLn 2 x = false := by simpa using g
    rw [if_neg g, g3, if_pos (by decide)]
    unfold fX8_save_L15
    rw [Rn_bnd, Rn_pI, Rn_bnd, Rn_gI, sI_self, if_neg (by decide), Rn_rtn]
    refine ⟨sI_self, XF.rf.sI rfl, fun i hi => ?_⟩
    exact (hV i hi).cg (by rw [Mi_sI, if_neg (by omega)]) (fun k hk2 => by rw [Mi_sI, if_neg (by omega)])
theorem mRestOp (hM : MO M) (h : mPU M (P, U)) {V : Nat → Option Pg} (hV : mSv M V) (x : Int32) : Rn (fX8_restore 38 x) M (fun _ M' => Mi M' 38 0 = nI (spRestore P U V x).1 ∧ XF xEd M M' ∧ mPU M' (spRestore P U V x).2) := by
  obtain ⟨hP, hw, hn, hl, hU⟩ := id h
  have hP : isPgM (Mi M 39) P := hP
  have hw : wfP P := hw
  have bad : ∀ c : Nat, 0 < c → c < 3 → ∀ v : Int32, v = nI c → Rn (fX8_restore_L28 38 x v 38) M (fun _ M' => Mi M' 38 0 = nI c ∧ XF xEd M M' ∧ mPU M' (P, U)) := by
    rintro c c0 c3 v rfl
    unfold fX8_restore_L28
    refine mPI0 hM hP (fun M0 x0 t0 m0 p0 => ?_)
    rw [Rn_bnd, Rn_gI, t0, if_neg (by rw [nL0, nle (by omega) (by omega)]; omega), Rn_rtn]
    exact ⟨t0, x0.mono xRd_Ed, h.go x0 (fun _ => rfl) rfl p0 hw⟩
  unfold fX8_restore spRestore
  rw [Rn_bnd]
  have e1 : Rn (fX8_in x 0 1) M (fun z M' => z = nI (bN (isLn 2 x)) ∧ M' = M) := by
    rw [show (1 : Int32) = pl 2 from by decide, mIn0 (by omega)]; exact ⟨rfl, rfl⟩
  rw [Rn_det e1]
  by_cases g : isLn 2 x = true
  · rw [if_pos g, g, if_neg (by decide)]
    obtain ⟨j, hj, rfl⟩ := isLn_t (by omega) g
    rw [ix_n (by omega), Rn_bnd, mA6 hM, Rn_bnd, rn_lI (by omega), mL43 hM]
    refine ⟨by omega, ?_⟩
    have hv := hV j hj
    cases hq : V j with
    | none =>
      rw [hq] at hv
      have hv : Mi M 43 j = nI 0 := hv
      rw [hv, if_pos (by decide)]
      exact bad 2 (by omega) (by omega) 2 rfl
    | some Q =>
      rw [hq] at hv
      obtain ⟨v1, v2, v3⟩ := hv
      rw [v1, if_neg (by decide)]
      unfold fX8_restore_L28
      refine mPI0 hM hP (fun M0 x0 t0 m0 p0 => ?_)
      rw [Rn_bnd, Rn_gI, t0, if_pos (by decide), Rn_bnd, mA5 m0, Rn_bnd, mA1 m0, Rn_bnd, nL828, pk_mul, nL0]
      refine (mCopies (M := M0) (one := 42) (other := 39) (by decide) (by rw [mL42 m0]; omega) (by rw [mL39 m0]; omega) (by omega) (by omega)).mono ?_
      rintro - M1 ⟨x1, hk, -⟩
      have x1' : XF xPg M0 M1 := x1
      rw [Rn_bnd, Rn_pI, Rn_rtn]
      have x2 : XF xKp M1 (sI M1 38 4 (nI 0)) := XF.rf.sI rfl
      refine ⟨?_, ((x0.mono xRd_Ed).tr (x1'.mono xPg_Ed)).tr (x2.mono xKp_Ed), ?_, v3, ?_, ?_, ?_⟩
      · rw [x2.mi rfl, x1.mi rfl]; exact t0
      · exact v2.cg v3 (fun k hk2 => by rw [x2.mi rfl, ← Nat.zero_add k, hk k hk2, Nat.zero_add, x0.mi rfl])
      · exact sI_self
      · exact Nat.zero_le _
      · intro i Z hZ
        have hZ : ([] : List Pg)[i]? = some Z := hZ
        simp at hZ
  · have g3 : isLn 2 x = false := by simpa using g
    rw [if_neg g, g3, if_pos (by decide)]
    exact bad 1 (by omega) (by omega) 1 rfl
end MBack
