/-! ROWS FROM DOTS, AND THEIR BLACK RUNS -/
def ofB (f : Nat → Bool) : Nat → Nat
  | 0 => 0
  | w + 1 => ofB f w + bN (f w) * 2 ^ w
theorem ofB_lt (f : Nat → Bool) : ∀ w, ofB f w < 2 ^ w
  | 0 => Nat.lt_succ_self 0
  | w + 1 => by
    have h := ofB_lt f w
    have b := bN_le (f w)
    have : bN (f w) * 2 ^ w ≤ 1 * 2 ^ w := Nat.mul_le_mul_right _ b
    show ofB f w + bN (f w) * 2 ^ w < 2 ^ (w + 1)
    rw [Nat.pow_succ]; omega
theorem ofB_bit (f : Nat → Bool) : ∀ w k, (ofB f w).testBit k = (decide (k < w) && f k)
  | 0, k => by
    show (0 : Nat).testBit k = _
    rw [Nat.zero_testBit]; simp
  | w + 1, k => by
    have h := ofB_lt f w
    have ih := ofB_bit f w k
    show (ofB f w + bN (f w) * 2 ^ w).testBit k = _
    rw [Nat.add_comm, Nat.mul_comm, Nat.testBit_two_pow_mul_add _ h]
    by_cases q : k < w
    · rw [if_pos q, ih]; simp [q]; omega
    · rw [if_neg q]
      by_cases e : k = w
      · subst e
        rw [Nat.sub_self]
        cases f k <;> simp [bN]
      · obtain ⟨j, hj⟩ : ∃ j, k - w = j + 1 := ⟨k - w - 1, by omega⟩
        rw [hj]
        have z : ¬ k < w + 1 := by omega
        have : (bN (f w)).testBit (j + 1) = false := Nat.testBit_lt_two_pow (Nat.lt_of_le_of_lt (bN_le _) (by rw [Nat.pow_succ]; have := Nat.two_pow_pos j; omega))
        rw [this]; simp [z]
/-- black runs -/
def bst (f : Nat → Bool) (k : Nat) : Bool := f k && !(decide (0 < k) && f (k - 1))
def brn (f : Nat → Bool) (w : Nat) : Nat := cn (bst f) w
theorem chU_brn (r : Nat) : ∀ k, (chU r k).length + bN (bf r k) = 2 * brn (fun j => r.testBit j) k
  | 0 => rfl
  | k + 1 => by
    have ih := chU_brn r k
    unfold brn at ih ⊢
    rw [chU_s, List.length_append, bf_s, cn_s]
    have e : bst (fun j => r.testBit j) k = (r.testBit k && !bf r k) := rfl
    rw [e]
    unfold chg
    have e2 : (decide (0 < k) && r.testBit (k - 1)) = bf r k := rfl
    rw [e2]
    generalize r.testBit k = x at ih ⊢
    generalize bf r k = y at ih ⊢
    cases x <;> cases y <;> simp [bN] at ih ⊢ <;> omega
theorem chU_le (r k : Nat) : (chU r k).length ≤ 2 * brn (fun j => r.testBit j) k := by have := chU_brn r k; omega
/-- one dot is set -/
def upB (f : Nat → Bool) (k : Nat) (c : Bool) : Nat → Bool := fun j => if j = k then c else f j
theorem brn_ex (f : Nat → Bool) (k : Nat) (c : Bool) : ∀ n, brn (upB f k c) n + ((if k < n then bN (bst f k) else 0) + (if k + 1 < n then bN (bst f (k + 1)) else 0)) = brn f n + ((if k < n then bN (bst (upB f k c) k) else 0) + (if k + 1 < n then bN (bst (upB f k c) (k + 1)) else 0))
  | 0 => by simp [brn, cn, sm]
  | n + 1 => by
    have ih := brn_ex f k c n
    have e1 : brn (upB f k c) (n + 1) = brn (upB f k c) n + bN (bst (upB f k c) n) := cn_s _ _
    have e2 : brn f (n + 1) = brn f n + bN (bst f n) := cn_s _ _
    rw [e1, e2]
    by_cases a : n = k
    · subst a
      rw [if_neg (Nat.lt_irrefl _), if_neg (by omega), if_neg (Nat.lt_irrefl _), if_neg (by omega)] at ih
      rw [if_pos (Nat.lt_succ_self _), if_neg (by omega), if_pos (Nat.lt_succ_self _), if_neg (by omega)]
      omega
    · by_cases b : n = k + 1
      · subst b
        rw [if_pos (Nat.lt_succ_self _), if_neg (Nat.lt_irrefl _), if_pos (Nat.lt_succ_self _), if_neg (Nat.lt_irrefl _)] at ih
        rw [if_pos (by omega), if_pos (Nat.lt_succ_self _), if_pos (by omega), if_pos (Nat.lt_succ_self _)]
        omega
      · have e : bst (upB f k c) n = bst f n := by
          unfold bst upB
          by_cases z : 0 < n
          · rw [if_neg a, if_neg (by omega)]
          · rw [if_neg a]; simp [z]
        rw [e]
        by_cases z : k < n
        · rw [if_pos z, if_pos (by omega), if_pos z, if_pos (by omega)] at ih
          rw [if_pos (by omega), if_pos (by omega), if_pos (by omega), if_pos (by omega)]
          omega
        · rw [if_neg z, if_neg (by omega), if_neg z, if_neg (by omega)] at ih
          rw [if_neg (by omega), if_neg (by omega), if_neg (by omega), if_neg (by omega)]
          omega
/-- .. behind a dot of its colour it makes no run more; else one at most -/
theorem brn_set (f : Nat → Bool) (k : Nat) (c : Bool) (w : Nat) : brn (upB f k c) w ≤ brn f w + (if 0 < k ∧ f (k - 1) = c then 0 else 1) := by
  have h := brn_ex f k c w
  have t1 : bst (upB f k c) k = (c && !(decide (0 < k) && f (k - 1))) := by
    unfold bst upB
    by_cases z : 0 < k
    · rw [if_pos rfl, if_neg (by omega)]
    · rw [if_pos rfl]; simp [z]
  have t2 : bst (upB f k c) (k + 1) = (f (k + 1) && !c) := by
    unfold bst upB
    rw [if_neg (by omega), Nat.add_sub_cancel, if_pos rfl]; simp
  have t3 : bst f k = (f k && !(decide (0 < k) && f (k - 1))) := rfl
  have t4 : bst f (k + 1) = (f (k + 1) && !f k) := by unfold bst; rw [Nat.add_sub_cancel]; simp
  rw [t1, t2, t3, t4] at h
  by_cases z : 0 < k
  · have d : decide (0 < k) = true := decide_eq_true z
    rw [d] at h
    simp only [Bool.true_and, z, true_and] at h ⊢
    generalize f (k + 1) = y at h
    generalize f k = x at h
    generalize f (k - 1) = p at h ⊢
    cases c <;> cases p <;> cases x <;> cases y <;> simp [bN] at h ⊢ <;> (repeat' split at h) <;> omega
  · have d : decide (0 < k) = false := decide_eq_false z
    rw [d] at h
    simp only [Bool.false_and, z, false_and, if_false] at h ⊢
    generalize f (k + 1) = y at h
    generalize f k = x at h
    cases c <;> cases x <;> cases y <;> simp [bN] at h ⊢ <;> (repeat' split at h) <;> omega
/-- moved by one: no run more -/
def mvR (f : Nat → Bool) : Nat → Bool := fun k => decide (0 < k) && f (k - 1)
def mvL (f : Nat → Bool) : Nat → Bool := fun k => f (k + 1)
theorem brn_mvR (f : Nat → Bool) : ∀ n, brn (mvR f) (n + 1) = brn f n
  | 0 => by simp [brn, cn, sm, bst, mvR, bN]
  | n + 1 => by
    have e1 : brn (mvR f) (n + 1 + 1) = brn (mvR f) (n + 1) + bN (bst (mvR f) (n + 1)) := cn_s _ _
    have e2 : brn f (n + 1) = brn f n + bN (bst f n) := cn_s _ _
    rw [e1, e2, brn_mvR f n]
    have : bst (mvR f) (n + 1) = bst f n := by unfold bst mvR; simp
    rw [this]
theorem brn_up (f : Nat → Bool) (n : Nat) : brn f n ≤ brn f (n + 1) := by
  have e2 : brn f (n + 1) = brn f n + bN (bst f n) := cn_s _ _
  omega
theorem brn_mvR_le (f : Nat → Bool) (w : Nat) : brn (mvR f) w ≤ brn f w := by
  cases w with
  | zero => exact Nat.le_refl _
  | succ n => rw [brn_mvR]; exact brn_up f n
theorem brn_mvL (f : Nat → Bool) : ∀ n, brn (mvL f) n ≤ brn f (n + 1)
  | 0 => Nat.zero_le _
  | 1 => by
    have e1 : brn (mvL f) 1 = bN (bst (mvL f) 0) := by
      have a1 : brn (mvL f) 1 = 0 + bN (bst (mvL f) 0) := cn_s _ 0
      omega
    have e2 : brn f 2 = bN (bst f 0) + bN (bst f 1) := by
      have a1 : brn f 2 = brn f 1 + bN (bst f 1) := cn_s _ 1
      have a2 : brn f 1 = 0 + bN (bst f 0) := cn_s _ 0
      omega
    rw [e1, e2]
    unfold bst mvL
    simp only [Nat.lt_irrefl, decide_false, Bool.false_and, Bool.not_false, Bool.and_true, Nat.zero_add, Nat.zero_lt_one, decide_true, Bool.true_and, Nat.sub_self]
    cases f 0 <;> cases f 1 <;> simp [bN]
  | n + 2 => by
    have e1 : brn (mvL f) (n + 2) = brn (mvL f) (n + 1) + bN (bst (mvL f) (n + 1)) := cn_s _ _
    have e2 : brn f (n + 2 + 1) = brn f (n + 2) + bN (bst f (n + 2)) := cn_s _ _
    have : bst (mvL f) (n + 1) = bst f (n + 2) := by unfold bst mvL; simp
    have ih : brn (mvL f) (n + 1) ≤ brn f (n + 2) := brn_mvL f (n + 1)
    rw [e1, e2, this]
    omega
theorem brn_mvL_le (f : Nat → Bool) {w : Nat} (h : f w = false) : brn (mvL f) w ≤ brn f w := by
  have e2 : brn f (w + 1) = brn f w + bN (bst f w) := cn_s _ _
  have : bst f w = false := by unfold bst; rw [h]; rfl
  have h2 := brn_mvL f w
  rw [e2, this] at h2
  exact h2
theorem brn_cg {f g : Nat → Bool} {w : Nat} (h : ∀ k, k < w → f k = g k) : brn f w = brn g w := by
  refine cn_cg (fun k hk => ?_)
  unfold bst
  rw [h k hk]
  by_cases z : 0 < k
  · rw [h (k - 1) (by omega)]
  · simp [z]
/-- by two places at most, either way; white comes after it (place d, moved by b - 2) -/
def shD (f : Nat → Bool) (b w : Nat) : Nat → Bool := fun k => decide (2 ≤ k + 4 - b) && (decide (k + 4 - b < w + 2) && f (k + 4 - b - 2))
theorem brn_shD (f : Nat → Bool) {w b : Nat} (hb : b ≤ 4) (hf : ∀ k, w ≤ k → f k = false) : brn (shD f b w) w ≤ brn f w := by
  have hb5 : b = 0 ∨ b = 1 ∨ b = 2 ∨ b = 3 ∨ b = 4 := by omega
  have out : ∀ j, (decide (j < w) && f j) = f j := fun j => by
    by_cases z : j < w
    · simp [z]
    · rw [hf j (by omega)]; simp
  rcases hb5 with rfl | rfl | rfl | rfl | rfl
  · have e : ∀ k, k < w → shD f 0 w k = mvL (mvL f) k := fun k _ => by
      unfold shD mvL
      rw [show k + 4 - 0 - 2 = k + 1 + 1 by omega, ← out (k + 1 + 1)]
      have a1 : decide (2 ≤ k + 4 - 0) = true := decide_eq_true (by omega)
      have a2 : decide (k + 4 - 0 < w + 2) = decide (k + 1 + 1 < w) := decide_eq_decide.mpr (by omega)
      rw [a1, a2]; simp
    rw [brn_cg e]
    exact Nat.le_trans (brn_mvL_le (mvL f) (hf _ (by omega))) (brn_mvL_le f (hf _ (Nat.le_refl _)))
  · have e : ∀ k, k < w → shD f 1 w k = mvL f k := fun k _ => by
      unfold shD mvL
      rw [show k + 4 - 1 - 2 = k + 1 by omega, ← out (k + 1)]
      have a1 : decide (2 ≤ k + 4 - 1) = true := decide_eq_true (by omega)
      have a2 : decide (k + 4 - 1 < w + 2) = decide (k + 1 < w) := decide_eq_decide.mpr (by omega)
      rw [a1, a2]; simp
    rw [brn_cg e]
    exact brn_mvL_le f (hf _ (Nat.le_refl _))
  · have e : ∀ k, k < w → shD f 2 w k = f k := fun k hk => by
      unfold shD
      rw [show k + 4 - 2 - 2 = k by omega]
      have a1 : decide (2 ≤ k + 4 - 2) = true := decide_eq_true (by omega)
      have a2 : decide (k + 4 - 2 < w + 2) = true := decide_eq_true (by omega)
      rw [a1, a2]; simp
    rw [brn_cg e]; exact Nat.le_refl _
  · have e : ∀ k, k < w → shD f 3 w k = mvR f k := fun k hk => by
      unfold shD mvR
      by_cases z : 0 < k
      · have a1 : decide (2 ≤ k + 4 - 3) = true := decide_eq_true (by omega)
        have a2 : decide (k + 4 - 3 < w + 2) = true := decide_eq_true (by omega)
        have a3 : decide (0 < k) = true := decide_eq_true z
        rw [a1, a2, a3, show k + 4 - 3 - 2 = k - 1 by omega]; simp
      · have a1 : decide (2 ≤ k + 4 - 3) = false := decide_eq_false (by omega)
        have a3 : decide (0 < k) = false := decide_eq_false z
        rw [a1, a3]; rfl
    rw [brn_cg e]; exact brn_mvR_le f w
  · have e : ∀ k, k < w → shD f 4 w k = mvR (mvR f) k := fun k hk => by
      unfold shD mvR
      by_cases z : 2 ≤ k
      · have a1 : decide (2 ≤ k + 4 - 4) = true := decide_eq_true (by omega)
        have a2 : decide (k + 4 - 4 < w + 2) = true := decide_eq_true (by omega)
        have a3 : decide (0 < k) = true := decide_eq_true (by omega)
        have a4 : decide (0 < k - 1) = true := decide_eq_true (by omega)
        rw [a1, a2, a3, a4, show k + 4 - 4 - 2 = k - 1 - 1 by omega]; try simp
      · have a1 : decide (2 ≤ k + 4 - 4) = false := decide_eq_false (by omega)
        have a4 : decide (0 < k - 1) = false := decide_eq_false (by omega)
        rw [a1, a4]; simp
    rw [brn_cg e]; exact Nat.le_trans (brn_mvR_le (mvR f) w) (brn_mvR_le f w)
