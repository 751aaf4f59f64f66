/-! EDITS: what they do; the reference's -/
abbrev EdS : Type := Rs × (Pg × List Pg)
def stLo (k : Nat) : Nat := if k = 0 then 1 else 0
def stHi (k : Nat) : Nat := if k = 0 then 8 else if k = 1 then 1 else if k = 2 then 1 else if k = 3 then 9 else 99
def pSet (P : Pg) (k v : Nat) : Pg := (Pw P, PL P, Pr P, Ps P, updN (Pt P) k v)
def pLose (P : Pg) (k v : Nat) : Pg := (Pw P, PL P, Pr P, updN (Ps P) k v, Pt P)
def pAdd (P : Pg) (r : Nat) : Pg := (Pw P, PL P + 1, updN (Pr P) (PL P) r, Ps P, Pt P)
def pIns (P : Pg) (to r : Nat) : Pg := (Pw P, PL P + 1, fun i => if i < to then Pr P i else if i = to then r else Pr P (i - 1), Ps P, Pt P)
def pDel (P : Pg) (l : Nat) : Pg := (Pw P, PL P - 1, fun i => if i < l then Pr P i else Pr P (i + 1), Ps P, Pt P)
def isPt (w : Nat) (x y : Int32) : Prop := isLn (w + 1) x = true ∧ ¬ y < x ∧ ¬ nI w < y
theorem isPt_t {w : Nat} {x y : Int32} (hw : w ≤ 40) (h : isPt w x y) : ∃ f t, f ≤ t ∧ t ≤ w ∧ x = nI f ∧ y = nI t := by
  obtain ⟨h1, h2, h3⟩ := h
  obtain ⟨f, hf, rfl⟩ := isLn_t (by omega) h1
  have h0 : ¬ y < 0 := fun z => h2 (by
    rw [Int32.lt_iff_toInt_lt] at z ⊢
    rw [nI_tI (by omega)]
    have : (0 : Int32).toInt = 0 := rfl
    omega)
  obtain ⟨t, ht, rfl⟩ := nI_of h0
  rw [nlt (by omega) ht] at h3
  rw [nlt ht (by omega)] at h2
  exact ⟨f, t, by omega, by omega, rfl, rfl⟩
def shR (w r : Nat) (y : Int32) : Nat := if y < 0 then r / 2 ^ ix (-y) else r * 2 ^ ix y % 2 ^ w
def inv (w r : Nat) : Nat := r ^^^ (2 ^ w - 1)
def spSet (P : Pg) (U : List Pg) (x y : Int32) : EdS := if isLn 6 x = true ∧ ¬ y < nI (stLo (ix x)) ∧ ¬ nI (stHi (ix x)) < y then (.inr (nI (Pt P (ix x))), (pSet P (ix x) (ix y), pushU U P)) else (.inl 1, (P, U))
def spLose (P : Pg) (U : List Pg) (x y : Int32) : EdS := if isLn 20 x = true then (if isLn 6 y = true then (.inr (nI (Ps P (ix x))), (pLose P (ix x) (ix y), pushU U P)) else (.inl 2, (P, U))) else (.inl 1, (P, U))
def spAdd (P : Pg) (U : List Pg) (x y : Int32) : EdS := if isLn (Pw P + 1) x = true ∧ ¬ y < x ∧ ¬ nI (Pw P) < y then (if PL P < 20 then (.inr (nI (PL P)), (pAdd P (pntG 0 (ix x) (ix y) true), pushU U P)) else (.inl 2, (P, U))) else (.inl 1, (P, U))
def spPaint (P : Pg) (U : List Pg) (x a b c : Int32) : EdS := if isLn (PL P) x = true then (if (isLn (Pw P + 1) a = true ∧ ¬ b < a ∧ ¬ nI (Pw P) < b) ∧ isLn 2 c = true then (.inr (nI (dif (Pw P) (Pr P (ix x)) (pntG (Pr P (ix x)) (ix a) (ix b) (c2B c)))), (pRow P (ix x) (pntG (Pr P (ix x)) (ix a) (ix b) (c2B c)), pushU U P)) else (.inl 2, (P, U))) else (.inl 1, (P, U))
def spShift (P : Pg) (U : List Pg) (x y : Int32) : EdS := if isLn (PL P) x = true then (if ¬ y < -40 ∧ ¬ 40 < y then (.inr (nI (blk (Pw P) (shR (Pw P) (Pr P (ix x)) y))), (pRow P (ix x) (shR (Pw P) (Pr P (ix x)) y), pushU U P)) else (.inl 2, (P, U))) else (.inl 1, (P, U))
def spCopy (P : Pg) (U : List Pg) (x y : Int32) : EdS := if isLn (PL P) x = true ∧ isLn (PL P + 1) y = true then (if PL P < 20 then (.inr (nI (PL P + 1)), (pIns P (ix y) (Pr P (ix x)), pushU U P)) else (.inl 2, (P, U))) else (.inl 1, (P, U))
def spRemove (P : Pg) (U : List Pg) (x : Int32) : EdS := if isLn (PL P) x = true then (.inr (nI (PL P - 1)), (pDel P (ix x), pushU U P)) else (.inl 1, (P, U))
def spInvert (P : Pg) (U : List Pg) (x : Int32) : EdS := if isLn (PL P) x = true then (.inr (nI (blk (Pw P) (inv (Pw P) (Pr P (ix x))))), (pRow P (ix x) (inv (Pw P) (Pr P (ix x))), pushU U P)) else (.inl 1, (P, U))
def spSwap (P : Pg) (U : List Pg) (x y : Int32) : EdS := if isLn (PL P) x = true ∧ isLn (PL P) y = true then (.inr (nI (dif (Pw P) (Pr P (ix x)) (Pr P (ix y)))), (pRow (pRow P (ix x) (Pr P (ix y))) (ix y) (Pr P (ix x)), pushU U P)) else (.inl 1, (P, U))
theorem wf_set {P : Pg} (h : wfP P) {k v : Nat} (hk : k < 6) (h1 : stLo k ≤ v) (h2 : v ≤ stHi k) : wfP (pSet P k v) := by
  obtain ⟨a1, a2, a3, a4, a5, a6, a7, a8, a9, a10, a11⟩ := h
  have e : ∀ j, updN (Pt P) k v j = if j = k then v else Pt P j := fun j => rfl
  refine ⟨a1, a2, a3, a4, a5, ?_, ?_, ?_, ?_, ?_, ?_⟩
  · show 1 ≤ updN (Pt P) k v 0 ∧ updN (Pt P) k v 0 ≤ 8
    rw [e]; split
    · rename_i z; subst z; exact ⟨h1, h2⟩
    · exact a6
  · show updN (Pt P) k v 1 ≤ 1
    rw [e]; split
    · rename_i z; subst z; exact h2
    · exact a7
  · show updN (Pt P) k v 2 ≤ 1
    rw [e]; split
    · rename_i z; subst z; exact h2
    · exact a8
  · show updN (Pt P) k v 3 ≤ 9
    rw [e]; split
    · rename_i z; subst z; exact h2
    · exact a9
  · show updN (Pt P) k v 4 ≤ 99
    rw [e]; split
    · rename_i z; subst z; exact h2
    · exact a10
  · show updN (Pt P) k v 5 ≤ 99
    rw [e]; split
    · rename_i z; subst z; exact h2
    · exact a11
theorem wf_lose {P : Pg} (h : wfP P) {k v : Nat} (hv : v ≤ 5) : wfP (pLose P k v) := by
  obtain ⟨a1, a2, a3, a4, a5, a6⟩ := h
  refine ⟨a1, a2, a3, a4, fun l hl => ?_, a6⟩
  show updN (Ps P) k v l ≤ 5
  unfold updN; split
  · exact hv
  · exact a5 l hl
theorem wf_add {P : Pg} (h : wfP P) {r : Nat} (hr : r < 2 ^ Pw P) (hL : PL P < 20) : wfP (pAdd P r) := by
  obtain ⟨a1, a2, a3, a4, a5⟩ := h
  refine ⟨a1, a2, by show PL P + 1 ≤ 20; omega, fun l hl => ?_, a5⟩
  have hl : l < PL P + 1 := hl
  show updN (Pr P) (PL P) r l < 2 ^ Pw P
  unfold updN; split
  · exact hr
  · exact a4 l (by omega)
theorem wf_ins {P : Pg} (h : wfP P) {r to : Nat} (hr : r < 2 ^ Pw P) (hL : PL P < 20) (ht : to ≤ PL P) : wfP (pIns P to r) := by
  obtain ⟨a1, a2, a3, a4, a5⟩ := h
  refine ⟨a1, a2, by show PL P + 1 ≤ 20; omega, fun l hl => ?_, a5⟩
  have hl : l < PL P + 1 := hl
  show (if l < to then Pr P l else if l = to then r else Pr P (l - 1)) < 2 ^ Pw P
  split
  · exact a4 l (by omega)
  · split
    · exact hr
    · exact a4 _ (by omega)
theorem wf_del {P : Pg} (h : wfP P) {l : Nat} : wfP (pDel P l) := by
  obtain ⟨a1, a2, a3, a4, a5⟩ := h
  refine ⟨a1, a2, by show PL P - 1 ≤ 20; omega, fun j hj => ?_, a5⟩
  have hj : j < PL P - 1 := hj
  show (if j < l then Pr P j else Pr P (j + 1)) < 2 ^ Pw P
  split
  · exact a4 j (by omega)
  · exact a4 _ (by omega)
theorem shR_lt {w r : Nat} {y : Int32} (hr : r < 2 ^ w) : shR w r y < 2 ^ w := by
  unfold shR; split
  · exact Nat.lt_of_le_of_lt (Nat.div_le_self _ _) hr
  · exact Nat.mod_lt _ (Nat.two_pow_pos w)
theorem inv_lt {w r : Nat} (hr : r < 2 ^ w) : inv w r < 2 ^ w := Nat.xor_lt_two_pow hr (by have := Nat.two_pow_pos w; omega)
theorem inv_bit (w r k : Nat) : (inv w r).testBit k = if k < w then !r.testBit k else r.testBit k := by
  unfold inv
  rw [Nat.testBit_xor, Nat.testBit_two_pow_sub_one]
  by_cases h : k < w
  · rw [if_pos h]; simp [h]
  · rw [if_neg h]; simp [h]
theorem pSet_ok {M : Mm} {P : Pg} {k v : Nat} (h : isPgM (Mi M 39) P) (hk : k < 6) : isPgM (Mi (sI M 39 (2 + k) (nI v)) 39) (pSet P k v) := by
  refine ⟨by rw [Mi_sI, if_neg (by omega)]; exact h.1, by rw [Mi_sI, if_neg (by omega)]; exact h.2.1, fun j hj => ?_, fun l hl => by rw [Mi_sI, if_neg (by omega)]; exact h.s hl, fun l hl j hj => by rw [Mi_sI, if_neg (by omega)]; exact h.d hl hj⟩
  show _ = nI (updN (Pt P) k v j)
  rw [Mi_sI]; unfold updN
  by_cases e : j = k
  · rw [if_pos ⟨rfl, by omega⟩, if_pos e]
  · rw [if_neg (by omega), if_neg e]; exact h.t hj
theorem pLose_ok {M : Mm} {P : Pg} {k v : Nat} (h : isPgM (Mi M 39) P) (hk : k < 20) : isPgM (Mi (sI M 39 (8 + k) (nI v)) 39) (pLose P k v) := by
  refine ⟨by rw [Mi_sI, if_neg (by omega)]; exact h.1, by rw [Mi_sI, if_neg (by omega)]; exact h.2.1, fun j hj => by rw [Mi_sI, if_neg (by omega)]; exact h.t hj, fun j hj => ?_, fun l hl j hj => by rw [Mi_sI, if_neg (by omega)]; exact h.d hl hj⟩
  show _ = nI (updN (Ps P) k v j)
  rw [Mi_sI]; unfold updN
  by_cases e : j = k
  · rw [if_pos ⟨rfl, by omega⟩, if_pos e]
  · rw [if_neg (by omega), if_neg e]; exact h.s hj
theorem mPU.go {M1 M2 : Mm} {P P' : Pg} {U : List Pg} {X : Nat → Nat → Bool} (h : mPU M1 (P, U)) (x : XF X M1 M2) (h41 : ∀ b, X 41 b = false) (h4 : X 38 4 = false) (hp : isPgM (Mi M2 39) P') (hw : wfP P') : mPU M2 (P', U) := by
  obtain ⟨_, _, c, d, e⟩ := h
  refine ⟨hp, hw, by rw [x.mi h4]; exact c, d, ?_⟩
  show rpU (Mi M2 41) U
  rw [x.row h41]; exact e
section MEdit
variable {M : Mm} {P : Pg} {U : List Pg}
/-- the answer of an edit -/
def mE (s : EdS) (b : Int32) (M M' : Mm) : Prop := mR s.1 b M' ∧ XF xEd M M' ∧ mPU M' s.2
theorem mE_no (h : mPU M (P, U)) {c : Nat} {b : Int32} {M' : Mm} (x : XF xRd M M') (hp : isPgM (Mi M' 39) P) (t : Mi M' 38 0 = nI c) : mE (.inl c, (P, U)) b M M' :=
  ⟨t, x.mono xRd_Ed, h.go x (fun _ => rfl) rfl hp h.2.1⟩
theorem mIsSet {x y : Int32} {Q : Int32 → Mm → Prop} : Rn (fX8_isSetting x y) M Q ↔ Q (nI (bN (decide (isLn 6 x = true ∧ ¬ y < nI (stLo (ix x)) ∧ ¬ nI (stHi (ix x)) < y)))) M := by
  refine Rn_det ?_
  unfold fX8_isSetting
  rw [Rn_bnd, show (5 : Int32) = pl 6 from by decide, mIn0 (by omega)]
  by_cases h : isLn 6 x = true
  · rw [h, if_neg (by decide)]
    obtain ⟨k, hk, rfl⟩ := isLn_t (by omega) h
    rw [ix_n (by omega)]
    have key : ∀ lo hi : Int32, lo = nI (stLo k) → hi = nI (stHi k) → Rn (fX8_highOf (nI k)) M (fun a M' => a = hi ∧ M' = M) → Rn (fX8_isSetting_L19 (nI k) lo y) M (fun a M' => a = nI (bN (decide (true = true ∧ ¬ y < nI (stLo k) ∧ ¬ nI (stHi k) < y))) ∧ M' = M) := by
      rintro lo hi rfl rfl hh
      unfold fX8_isSetting_L19
      rw [Rn_bnd, Rn_det hh, Rn_bnd]
      unfold fX8_in
      by_cases h1 : y < nI (stLo k)
      · rw [if_pos h1, Rn_grd, Rn_rtn, if_pos rfl, Rn_grd, Rn_rtn]
        refine ⟨by decide, by decide, ?_, rfl⟩
        simp [h1]; rfl
      · rw [if_neg h1]
        by_cases h2 : nI (stHi k) < y
        · rw [if_pos h2, Rn_grd, Rn_rtn, if_pos rfl, Rn_grd, Rn_rtn]
          refine ⟨by decide, by decide, ?_, rfl⟩
          simp [h1, h2]; rfl
        · rw [if_neg h2, Rn_grd, Rn_rtn, if_neg (by decide), Rn_grd, Rn_rtn]
          refine ⟨by decide, by decide, ?_, rfl⟩
          simp [h1, h2]; rfl
    unfold fX8_highOf fX8_highOf_L19 at key
    rcases (show k = 0 ∨ k = 1 ∨ k = 2 ∨ k = 3 ∨ k = 4 ∨ k = 5 by omega) with rfl | rfl | rfl | rfl | rfl | rfl
    · rw [if_pos (by decide)]
      exact key 1 8 rfl rfl (by rw [if_pos (by decide), Rn_rtn]; exact ⟨rfl, rfl⟩)
    · rw [if_neg (by decide)]
      exact key 0 1 rfl rfl (by rw [if_neg (by decide), if_pos (by decide), Rn_rtn]; exact ⟨rfl, rfl⟩)
    · rw [if_neg (by decide)]
      exact key 0 1 rfl rfl (by rw [if_neg (by decide), if_neg (by decide), if_pos (by decide), Rn_rtn]; exact ⟨rfl, rfl⟩)
    · rw [if_neg (by decide)]
      exact key 0 9 rfl rfl (by rw [if_neg (by decide), if_neg (by decide), if_neg (by decide), if_pos (by decide), Rn_rtn]; exact ⟨rfl, rfl⟩)
    · rw [if_neg (by decide)]
      exact key 0 99 rfl rfl (by rw [if_neg (by decide), if_neg (by decide), if_neg (by decide), if_neg (by decide), Rn_rtn]; exact ⟨rfl, rfl⟩)
    · rw [if_neg (by decide)]
      exact key 0 99 rfl rfl (by rw [if_neg (by decide), if_neg (by decide), if_neg (by decide), if_neg (by decide), Rn_rtn]; exact ⟨rfl, rfl⟩)
  · have h3 : isLn 6 x = false := by simpa using h
    rw [h3, if_pos (by decide), Rn_grd, Rn_rtn]
    refine ⟨by decide, ?_, rfl⟩
    simp; rfl
theorem mSetOp (hM : MO M) (h : mPU M (P, U)) (x y : Int32) : Rn (fX8_set 38 x y) M (fun b M' => mE (spSet P U x y) b M M') := by
  obtain ⟨hP, hw, -⟩ := id h
  unfold fX8_set spSet
  rw [Rn_bnd, mIsSet]
  by_cases g : isLn 6 x = true ∧ ¬ y < nI (stLo (ix x)) ∧ ¬ nI (stHi (ix x)) < y
  · rw [if_pos g, decide_eq_true g, if_neg (by decide)]
    obtain ⟨g1, g2, g3⟩ := g
    obtain ⟨k, hk, rfl⟩ := isLn_t (by omega) g1
    rw [ix_n (by omega)] at g2 g3
    have hlo : stLo k ≤ 1 := by unfold stLo; split <;> omega
    have hhi : stHi k ≤ 99 := by unfold stHi; repeat' split
                                 all_goals omega
    obtain ⟨v, hv, rfl⟩ := nI_of (x := y) (fun z => g2 (by
      rw [Int32.lt_iff_toInt_lt] at z ⊢
      rw [nI_tI (by omega)]
      have : (0 : Int32).toInt = 0 := rfl
      omega))
    rw [nlt hv (by omega)] at g2
    rw [nlt (by omega) hv] at g3
    rw [ix_n (by omega), ix_n (by omega)]
    unfold fX8_set_L14
    refine mPI0 hM hP (fun M0 x0 t0 m0 p0 => ?_)
    rw [Rn_bnd, Rn_gI, t0, if_pos (by decide), Rn_bnd]
    refine (mKeeps m0 (h.go x0 (fun _ => rfl) rfl p0 hw)).mono ?_
    rintro - M1 ⟨x1, u1⟩
    have m1 := m0.xf x1
    rw [nL2, nI_add, mRdT m1 u1.1 hk, Rn_bnd, mA1 m1, Rn_bnd, rn_aI (by omega), mL39 m1, Rn_rtn]
    have x2 : XF xPg M1 (sI M1 39 (2 + k) (nI v)) := XF.rf.sI rfl
    refine ⟨by omega, mR_r ?_, ((x0.mono xRd_Ed).tr (x1.mono xKp_Ed)).tr (x2.mono xPg_Ed), u1.go x2 (fun _ => rfl) rfl (pSet_ok u1.1 hk) (wf_set hw hk (by omega) (by omega))⟩
    rw [x2.mi rfl, x1.mi rfl]; exact t0
  · rw [if_neg g, decide_eq_false g, if_pos (by decide)]
    unfold fX8_set_L14
    refine mPI0 hM hP (fun M0 x0 t0 m0 p0 => ?_)
    rw [Rn_bnd, Rn_gI, t0, if_neg (by decide), Rn_rtn]
    exact mE_no h x0 p0 t0
theorem mLoseOp (hM : MO M) (h : mPU M (P, U)) (x y : Int32) : Rn (fX8_lose 38 x y) M (fun b M' => mE (spLose P U x y) b M M') := by
  obtain ⟨hP, hw, -⟩ := id h
  unfold fX8_lose spLose
  rw [Rn_bnd, show (19 : Int32) = pl 20 from by decide, mIn0 (by omega)]
  by_cases g : isLn 20 x = true
  · rw [if_pos g, g, if_neg (by decide), Rn_bnd, show (5 : Int32) = pl 6 from by decide, mIn0 (by omega)]
    obtain ⟨k, hk, rfl⟩ := isLn_t (by omega) g
    by_cases g2 : isLn 6 y = true
    · rw [if_pos g2, g2, if_neg (by decide)]
      obtain ⟨v, hv, rfl⟩ := isLn_t (by omega) g2
      rw [ix_n (by omega), ix_n (by omega)]
      unfold fX8_lose_L29
      refine mPI0 hM hP (fun M0 x0 t0 m0 p0 => ?_)
      rw [Rn_bnd, Rn_gI, t0, if_pos (by decide), Rn_bnd]
      refine (mKeeps m0 (h.go x0 (fun _ => rfl) rfl p0 hw)).mono ?_
      rintro - M1 ⟨x1, u1⟩
      have m1 := m0.xf x1
      rw [nL8, nI_add, mRdS m1 u1.1 hk, Rn_bnd, mA1 m1, Rn_bnd, rn_aI (by omega), mL39 m1, Rn_rtn]
      have x2 : XF xPg M1 (sI M1 39 (8 + k) (nI v)) := XF.rf.sI rfl
      refine ⟨by omega, mR_r ?_, ((x0.mono xRd_Ed).tr (x1.mono xKp_Ed)).tr (x2.mono xPg_Ed), u1.go x2 (fun _ => rfl) rfl (pLose_ok u1.1 hk) (wf_lose hw (by omega))⟩
      rw [x2.mi rfl, x1.mi rfl]; exact t0
    · have g3 : isLn 6 y = false := by simpa using g2
      rw [if_neg g2, g3, if_pos (by decide)]
      unfold fX8_lose_L29
      refine mPI0 hM hP (fun M0 x0 t0 m0 p0 => ?_)
      rw [Rn_bnd, Rn_gI, t0, if_neg (by decide), Rn_rtn]
      exact mE_no h x0 p0 t0
  · have g3 : isLn 20 x = false := by simpa using g
    rw [if_neg g, g3, if_pos (by decide)]
    unfold fX8_lose_L29
    refine mPI0 hM hP (fun M0 x0 t0 m0 p0 => ?_)
    rw [Rn_bnd, Rn_gI, t0, if_neg (by decide), Rn_rtn]
    exact mE_no h x0 p0 t0
theorem mIsPart (hM : MO M) (hP : isPgM (Mi M 39) P) (hw : wfP P) {x y : Int32} {Q : Int32 → Mm → Prop} : Rn (fX8_isPart 38 x y) M Q ↔ Q (nI (bN (decide (isLn (Pw P + 1) x = true ∧ ¬ y < x ∧ ¬ nI (Pw P) < y)))) M := by
  refine Rn_det ?_
  have h40 := hw.2.1
  unfold fX8_isPart
  rw [mRdW hM hP, Rn_bnd, ← pl_s (Pw P), mIn0 (by omega)]
  by_cases h : isLn (Pw P + 1) x = true
  · rw [h, if_neg (by decide), mRdW hM hP, Rn_bnd, pl_s]
    unfold fX8_in
    by_cases h1 : y < x
    · rw [if_pos h1, Rn_grd, Rn_rtn, if_pos rfl, Rn_grd, Rn_rtn]
      refine ⟨by decide, by decide, ?_, rfl⟩
      simp [h1]; rfl
    · rw [if_neg h1]
      by_cases h2 : nI (Pw P) < y
      · rw [if_pos h2, Rn_grd, Rn_rtn, if_pos rfl, Rn_grd, Rn_rtn]
        refine ⟨by decide, by decide, ?_, rfl⟩
        simp [h1, h2]; rfl
      · rw [if_neg h2, Rn_grd, Rn_rtn, if_neg (by decide), Rn_grd, Rn_rtn]
        refine ⟨by decide, by decide, ?_, rfl⟩
        simp [h1, h2]; rfl
  · have h3 : isLn (Pw P + 1) x = false := by simpa using h
    rw [h3, if_pos (by decide), Rn_grd, Rn_rtn]
    refine ⟨by decide, ?_, rfl⟩
    simp; rfl
end MEdit
