section MKeep
variable {M : Mm}
/-- the pages that can come back -/
def rpU (f : Nat → Int32) (U : List Pg) : Prop := ∀ i P, U[i]? = some P → isPgM (fun k => f (828 * i + k)) P ∧ wfP P
def mPU (M : Mm) (s : Pg × List Pg) : Prop := isPgM (Mi M 39) s.1 ∧ wfP s.1 ∧ Mi M 38 4 = nI s.2.length ∧ s.2.length ≤ 10 ∧ rpU (Mi M 41) s.2
def pushU (U : List Pg) (P : Pg) : List Pg := if U.length = 10 then U.tail ++ [P] else U ++ [P]
theorem pushU_len {U : List Pg} (h : U.length ≤ 10) (P : Pg) : (pushU U P).length ≤ 10 := by
  unfold pushU
  split
  · simp; omega
  · simp; omega
/-! one line of dots changes -/
def isRowAt (f : Nat → Int32) (l r : Nat) : Prop := ∀ k, k < 40 → f (28 + 40 * l + k) = nI (bN (r.testBit k))
def gRow (f g : Nat → Int32) (l : Nat) : Prop := ∀ j, j < 28 + 40 * l ∨ 28 + 40 * l + 40 ≤ j → g j = f j
theorem gRow.rf {f : Nat → Int32} {l : Nat} : gRow f f l := fun _ _ => rfl
theorem gRow.tr {f g h : Nat → Int32} {l : Nat} (a : gRow f g l) (b : gRow g h l) : gRow f h l := fun j hj => (b j hj).trans (a j hj)
theorem gRow.row {f g : Nat → Int32} {l l' r : Nat} (h : gRow f g l) (ne : l' ≠ l) (hr : isRowAt f l' r) : isRowAt g l' r := by
  intro k hk
  rw [h _ (by omega)]; exact hr k hk
def updN {α : Type} (f : Nat → α) (k : Nat) (v : α) : Nat → α := fun j => if j = k then v else f j
theorem updN_s {α : Type} (f : Nat → α) (k : Nat) (v : α) : updN f k v k = v := by unfold updN; rw [if_pos rfl]
theorem updN_n {α : Type} {f : Nat → α} {k j : Nat} {v : α} (h : j ≠ k) : updN f k v j = f j := by unfold updN; rw [if_neg h]
/-- a page with one line changed -/
def pRow (P : Pg) (l r : Nat) : Pg := (Pw P, PL P, updN (Pr P) l r, Ps P, Pt P)
theorem wf_row {P : Pg} (h : wfP P) {l r : Nat} (hr : r < 2 ^ Pw P) : wfP (pRow P l r) := by
  refine ⟨h.1, h.2.1, h.2.2.1, fun l' hl' => ?_, h.2.2.2.2⟩
  show updN (Pr P) l r l' < 2 ^ Pw P
  by_cases e : l' = l
  · subst e; rw [updN_s]; exact hr
  · rw [updN_n e]; exact h.2.2.2.1 l' hl'
/-- dots painted over -/
def pntG (r f t : Nat) (c : Bool) : Nat := if c = true then r ||| (2 ^ t - 2 ^ f) else r ^^^ (r &&& (2 ^ t - 2 ^ f))
theorem pntG_bit {r f t k : Nat} {c : Bool} (h : f ≤ t) : (pntG r f t c).testBit k = if f ≤ k ∧ k < t then c else r.testBit k := by
  unfold pntG
  cases c with
  | true =>
    rw [if_pos rfl, Nat.testBit_or, span_bit h]
    by_cases q : f ≤ k ∧ k < t
    · rw [if_pos q]; simp [q]
    · rw [if_neg q]; simp only [decide_eq_false q, Bool.or_false]
  | false =>
    rw [if_neg (by decide), Nat.testBit_xor, Nat.testBit_and, span_bit h]
    by_cases q : f ≤ k ∧ k < t
    · rw [if_pos q]; simp [q]
    · rw [if_neg q]; simp only [decide_eq_false q, Bool.and_false, Bool.xor_false]
theorem pntG_lt {r f t w : Nat} {c : Bool} (h : f ≤ t) (ht : t ≤ w) (hr : r < 2 ^ w) : pntG r f t c < 2 ^ w := by
  apply Nat.lt_pow_two_of_testBit
  intro k hk
  rw [pntG_bit h, if_neg (by omega), Nat.testBit_lt_two_pow (Nat.lt_of_lt_of_le hr (pw_le hk))]
end MKeep

