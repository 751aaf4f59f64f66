/-! THE REFERENCE: sending -/
def xSn (h k : Nat) : Bool := (decide (52 ≤ h) && decide (h ≤ 57)) || (h == 38 && (decide (26 ≤ k) && decide (k ≤ 30)))
def gotAt (M : Mm) (l q : Nat) : Prop := ∀ k, k < 40 → Mi M 52 (40 * l + k) = nI (bN (q.testBit k))
def mSn (M : Mm) (s : Sn) (l : Nat) : Prop := (∀ i, i < l → gotAt M i (zG s i)) ∧ (∀ i, i < 20 → Mi M 53 i = nI (zS s i)) ∧ (∀ i, i < 20 → Mi M 54 i = nI (zT s i)) ∧ (∀ i, i < 20 → Mi M 55 i = nI (zC s i)) ∧ (∀ i, i < 20 → Mi M 56 i = nI (zK s i)) ∧ Mi M 38 26 = nI (zA s) ∧ Mi M 38 27 = nI (zD s) ∧ Mi M 38 28 = nI (zP s) ∧ Mi M 38 29 = nI (zL s) ∧ Mi M 38 30 = nI (zU s)
theorem mSn.xf {X : Nat → Nat → Bool} {M M1 : Mm} {s : Sn} {l : Nat} (h : mSn M s l) (x : XF X M M1) (q : ∀ a b, xSn a b = true → X a b = false) : mSn M1 s l := by
  obtain ⟨h1, h2, h3, h4, h5, h6, h7, h8, h9, h10⟩ := h
  refine ⟨fun i hi k hk => by rw [x.mi (q 52 _ rfl)]; exact h1 i hi k hk, fun i hi => by rw [x.mi (q 53 _ rfl)]; exact h2 i hi, fun i hi => by rw [x.mi (q 54 _ rfl)]; exact h3 i hi, fun i hi => by rw [x.mi (q 55 _ rfl)]; exact h4 i hi, fun i hi => by rw [x.mi (q 56 _ rfl)]; exact h5 i hi, by rw [x.mi (q 38 26 rfl)]; exact h6, by rw [x.mi (q 38 27 rfl)]; exact h7, by rw [x.mi (q 38 28 rfl)]; exact h8, by rw [x.mi (q 38 29 rfl)]; exact h9, by rw [x.mi (q 38 30 rfl)]; exact h10⟩
theorem up_row {M : Mm} {a j : Nat} {g : Nat → Nat} {v : Nat} (h : ∀ i, i < 20 → Mi M a i = nI (g i)) : ∀ i, i < 20 → Mi (sI M a j (nI v)) a i = nI (updN g j v i) := by
  intro i hi
  rw [Mi_sI]; unfold updN
  by_cases e : i = j
  · rw [if_pos ⟨rfl, e⟩, if_pos e]
  · rw [if_neg (fun z => e z.2), if_neg e]; exact h i hi
theorem ne_row {M : Mm} {a b j : Nat} {v : Int32} (h : a ≠ b) (i : Nat) : Mi (sI M b j v) a i = Mi M a i := by rw [Mi_sI, if_neg (fun z => h z.1)]
section MSend
variable {M : Mm} {P : Pg}
end MSend

