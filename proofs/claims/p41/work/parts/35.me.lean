/-! EDITS: what they do; the reference's -/
abbrev EdS : Type := Rs × (Pg × List Pg)
def stLo (k : Nat) : Nat := if k = 0 then 1 else 0
def stHi (k : Nat) : Nat := if k = 0 then 8 else if k = 1 then 1 else if k = 2 then 1 else if k = 3 then 9 else 99
def pSet (P : Pg) (k v : Nat) : Pg := (Pw P, PL P, Pr P, Ps P, updN (Pt P) k v)
def pLose (P : Pg) (k v : Nat) : Pg := (Pw P, PL P, Pr P, updN (Ps P) k v, Pt P)
def pAdd (P : Pg) (r : Nat) : Pg := (Pw P, PL P + 1, updN (Pr P) (PL P) r, Ps P, Pt P)
def pIns (P : Pg) (to r : Nat) : Pg := (Pw P, PL P + 1, fun i => if i < to then Pr P i else if i = to then r else Pr P (i - 1), Ps P, Pt P)
def pDel (P : Pg) (l : Nat) : Pg := (Pw P, PL P - 1, fun i => if i < l then Pr P i else Pr P (i + 1), Ps P, Pt P)
def isPt (w : Nat) (x y : Int32) : Prop := isLn (w + 1) x = true ∧ ¬ y < x ∧ ¬ nI w < y
theorem isPt_t {w : Nat} {x y : Int32} (hw : w ≤ 40) (h : isPt w x y) : ∃ f t, f ≤ t ∧ t ≤ w ∧ x = nI f ∧ y = nI t := by
  obtain ⟨h1, h2, h3⟩ := h
  obtain ⟨f, hf, rfl⟩ := isLn_t (by omega) h1
  have h0 : ¬ y < 0 := fun z => h2 (by
    rw [Int32.lt_iff_toInt_lt] at z ⊢
    rw [nI_tI (by omega)]
    have : (0 : Int32).toInt = 0 := rfl
    omega)
  obtain ⟨t, ht, rfl⟩ := nI_of h0
  rw [nlt (by omega) ht] at h3
  rw [nlt ht (by omega)] at h2
  exact ⟨f, t, by omega, by omega, rfl, rfl⟩
def shR (w r : Nat) (y : Int32) : Nat := if y < 0 then r / 2 ^ ix (-y) else r * 2 ^ ix y % 2 ^ w
def inv (w r : Nat) : Nat := r ^^^ (2 ^ w - 1)
def spPaint (P : Pg) (U : List Pg) (x a b c : Int32) : EdS := if isLn (PL P) x = true then (if (isLn (Pw P + 1) a = true ∧ ¬ b < a ∧ ¬ nI (Pw P) < b) ∧ isLn 2 c = true then (.inr (nI (dif (Pw P) (Pr P (ix x)) (pntG (Pr P (ix x)) (ix a) (ix b) (c2B c)))), (pRow P (ix x) (pntG (Pr P (ix x)) (ix a) (ix b) (c2B c)), pushU U P)) else (.inl 2, (P, U))) else (.inl 1, (P, U))
def spShift (P : Pg) (U : List Pg) (x y : Int32) : EdS := if isLn (PL P) x = true then (if ¬ y < -40 ∧ ¬ 40 < y then (.inr (nI (blk (Pw P) (shR (Pw P) (Pr P (ix x)) y))), (pRow P (ix x) (shR (Pw P) (Pr P (ix x)) y), pushU U P)) else (.inl 2, (P, U))) else (.inl 1, (P, U))
def spCopy (P : Pg) (U : List Pg) (x y : Int32) : EdS := if isLn (PL P) x = true ∧ isLn (PL P + 1) y = true then (if PL P < 20 then (.inr (nI (PL P + 1)), (pIns P (ix y) (Pr P (ix x)), pushU U P)) else (.inl 2, (P, U))) else (.inl 1, (P, U))
def spRemove (P : Pg) (U : List Pg) (x : Int32) : EdS := if isLn (PL P) x = true then (.inr (nI (PL P - 1)), (pDel P (ix x), pushU U P)) else (.inl 1, (P, U))
def spInvert (P : Pg) (U : List Pg) (x : Int32) : EdS := if isLn (PL P) x = true then (.inr (nI (blk (Pw P) (inv (Pw P) (Pr P (ix x))))), (pRow P (ix x) (inv (Pw P) (Pr P (ix x))), pushU U P)) else (.inl 1, (P, U))
def spSwap (P : Pg) (U : List Pg) (x y : Int32) : EdS := if isLn (PL P) x = true ∧ isLn (PL P) y = true then (.inr (nI (dif (Pw P) (Pr P (ix x)) (Pr P (ix y)))), (pRow (pRow P (ix x) (Pr P (ix y))) (ix y) (Pr P (ix x)), pushU U P)) else (.inl 1, (P, U))
theorem wf_set {P : Pg} (h : wfP P) {k v : Nat} (hk : k < 6) (h1 : stLo k ≤ v) (h2 : v ≤ stHi k) : wfP (pSet P k v) := by
  obtain ⟨a1, a2, a3, a4, a5, a6, a7, a8, a9, a10, a11⟩ := h
  have e : ∀ j, updN (Pt P) k v j = if j = k then v else Pt P j := fun j => rfl
  refine ⟨a1, a2, a3, a4, a5, ?_, ?_, ?_, ?_, ?_, ?_⟩
  · show 1 ≤ updN (Pt P) k v 0 ∧ updN (Pt P) k v 0 ≤ 8
    rw [e]; split
    · rename_i z; subst z; exact ⟨h1, h2⟩
    · exact a6
  · show updN (Pt P) k v 1 ≤ 1
    rw [e]; split
    · rename_i z; subst z; exact h2
    · exact a7
  · show updN (Pt P) k v 2 ≤ 1
    rw [e]; split
    · rename_i z; subst z; exact h2
    · exact a8
  · show updN (Pt P) k v 3 ≤ 9
    rw [e]; split
    · rename_i z; subst z; exact h2
    · exact a9
  · show updN (Pt P) k v 4 ≤ 99
    rw [e]; split
    · rename_i z; subst z; exact h2
    · exact a10
  · show updN (Pt P) k v 5 ≤ 99
    rw [e]; split
    · rename_i z; subst z; exact h2
    · exact a11
theorem wf_lose {P : Pg} (h : wfP P) {k v : Nat} (hv : v ≤ 5) : wfP (pLose P k v) := by
  obtain ⟨a1, a2, a3, a4, a5, a6⟩ := h
  refine ⟨a1, a2, a3, a4, fun l hl => ?_, a6⟩
  show updN (Ps P) k v l ≤ 5
  unfold updN; split
  · exact hv
  · exact a5 l hl
theorem wf_add {P : Pg} (h : wfP P) {r : Nat} (hr : r < 2 ^ Pw P) (hL : PL P < 20) : wfP (pAdd P r) := by
  obtain ⟨a1, a2, a3, a4, a5⟩ := h
  refine ⟨a1, a2, by show PL P + 1 ≤ 20; omega, fun l hl => ?_, a5⟩
  have hl : l < PL P + 1 := hl
  show updN (Pr P) (PL P) r l < 2 ^ Pw P
  unfold updN; split
  · exact hr
  · exact a4 l (by omega)
theorem wf_ins {P : Pg} (h : wfP P) {r to : Nat} (hr : r < 2 ^ Pw P) (hL : PL P < 20) (ht : to ≤ PL P) : wfP (pIns P to r) := by
  obtain ⟨a1, a2, a3, a4, a5⟩ := h
  refine ⟨a1, a2, by show PL P + 1 ≤ 20; omega, fun l hl => ?_, a5⟩
  have hl : l < PL P + 1 := hl
  show (if l < to then Pr P l else if l = to then r else Pr P (l - 1)) < 2 ^ Pw P
  split
  · exact a4 l (by omega)
  · split
    · exact hr
    · exact a4 _ (by omega)
theorem wf_del {P : Pg} (h : wfP P) {l : Nat} : wfP (pDel P l) := by
  obtain ⟨a1, a2, a3, a4, a5⟩ := h
  refine ⟨a1, a2, by show PL P - 1 ≤ 20; omega, fun j hj => ?_, a5⟩
  have hj : j < PL P - 1 := hj
  show (if j < l then Pr P j else Pr P (j + 1)) < 2 ^ Pw P
  split
  · exact a4 j (by omega)
  · exact a4 _ (by omega)
theorem shR_lt {w r : Nat} {y : Int32} (hr : r < 2 ^ w) : shR w r y < 2 ^ w := by
  unfold shR; split
  · exact Nat.lt_of_le_of_lt (Nat.div_le_self _ _) hr
  · exact Nat.mod_lt _ (Nat.two_pow_pos w)
theorem inv_lt {w r : Nat} (hr : r < 2 ^ w) : inv w r < 2 ^ w := Nat.xor_lt_two_pow hr (by have := Nat.two_pow_pos w; omega)
theorem inv_bit (w r k : Nat) : (inv w r).testBit k = if k < w then !r.testBit k else r.testBit k := by
  unfold inv
  rw [Nat.testBit_xor, Nat.testBit_two_pow_sub_one]
  by_cases h : k < w
  · rw [if_pos h]; simp [h]
  · rw [if_neg h]; simp [h]
theorem mPU.go {M1 M2 : Mm} {P P' : Pg} {U : List Pg} {X : Nat → Nat → Bool} (h : mPU M1 (P, U)) (x : XF X M1 M2) (h41 : ∀ b, X 41 b = false) (h4 : X 38 4 = false) (hp : isPgM (Mi M2 39) P') (hw : wfP P') : mPU M2 (P', U) := by
  obtain ⟨_, _, c, d, e⟩ := h
  refine ⟨hp, hw, by rw [x.mi h4]; exact c, d, ?_⟩
  show rpU (Mi M2 41) U
  rw [x.row h41]; exact e
section MEdit
variable {M : Mm} {P : Pg} {U : List Pg}
end MEdit

