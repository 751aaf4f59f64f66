/-! WHAT THE CALLS THAT READ THE PAGE ANSWER -/
def sm (g : Nat → Nat) : Nat → Nat
  | 0 => 0
  | n + 1 => sm g n + g n
theorem sm_s (g : Nat → Nat) (n : Nat) : sm g (n + 1) = sm g n + g n := rfl
theorem sm_le {g : Nat → Nat} {b : Nat} (h : ∀ i, g i ≤ b) : ∀ n, sm g n ≤ b * n
  | 0 => Nat.zero_le _
  | n + 1 => by
    have := sm_le h n
    have := h n
    rw [sm_s, Nat.mul_add, Nat.mul_one]; omega
theorem sm_cg {g g' : Nat → Nat} : ∀ {n : Nat}, (∀ i, i < n → g i = g' i) → sm g n = sm g' n
  | 0, _ => rfl
  | n + 1, h => by rw [sm_s, sm_s, sm_cg (fun i hi => h i (by omega)), h n (by omega)]
theorem sm_z {g : Nat → Nat} : ∀ {n : Nat}, (∀ i, i < n → g i = 0) → sm g n = 0
  | 0, _ => rfl
  | n + 1, h => by rw [sm_s, sm_z (fun i hi => h i (by omega)), h n (by omega)]
theorem sm_add {g : Nat → Nat} (a : Nat) : ∀ n, sm g (a + n) = sm g a + sm (fun i => g (a + i)) n
  | 0 => rfl
  | n + 1 => by rw [← Nat.add_assoc, sm_s, sm_add a n, sm_s]; omega
/-- how many places below w have p -/
def cn (p : Nat → Bool) (w : Nat) : Nat := sm (fun k => bN (p k)) w
theorem cn_le (p : Nat → Bool) (w : Nat) : cn p w ≤ w := by
  have := sm_le (g := fun k => bN (p k)) (b := 1) (fun i => bN_le _) w
  unfold cn; omega
theorem cn_s (p : Nat → Bool) (w : Nat) : cn p (w + 1) = cn p w + bN (p w) := rfl
theorem cn_cg {p p' : Nat → Bool} {w : Nat} (h : ∀ k, k < w → p k = p' k) : cn p w = cn p' w := sm_cg (fun k hk => by rw [h k hk])
theorem pcn_cn : ∀ k n, pcn k n = cn (fun i => n.testBit i) k := by
  have shift : ∀ k n, cn (fun i => n.testBit i) (k + 1) = n % 2 + cn (fun i => (n / 2).testBit i) k := by
    intro k n
    induction k with
    | zero =>
      show 0 + bN (n.testBit 0) = n % 2 + 0
      rw [Nat.testBit_zero]
      rcases Nat.mod_two_eq_zero_or_one n with h | h <;> simp [h, bN]
    | succ k ih =>
      rw [cn_s, ih, cn_s, Nat.testBit_succ]; omega
  intro k
  induction k with
  | zero => intro n; rfl
  | succ k ih => intro n; rw [pcn_s, ih, shift]
theorem cn_up {p : Nat → Bool} {w v : Nat} (h : w ≤ v) (h2 : ∀ k, w ≤ k → p k = false) : cn p v = cn p w := by
  obtain ⟨d, rfl⟩ : ∃ d, v = w + d := ⟨v - w, by omega⟩
  unfold cn
  rw [sm_add, sm_z (n := d) (fun i _ => by rw [h2 (w + i) (by omega)]; rfl)]; omega
/-- black dots of a row -/
def blk (w r : Nat) : Nat := cn (fun k => r.testBit k) w
def dif (w a b : Nat) : Nat := cn (fun k => a.testBit k != b.testBit k) w
def nch (w r : Nat) : Nat := cn (fun k => chg r k) w
/-- the change after j others from k on -/
def ncf (w r : Nat) : Nat → Nat → Nat
  | k, 0 => fb (fun i => chg r i) w k
  | k, j + 1 => if fb (fun i => chg r i) w k < w then ncf w r (fb (fun i => chg r i) w k + 1) j else w
def kAt (L : List Md) (x : Int32) (i : Nat) : Nat := match L[i]? with
  | some m => if m.1 = x then 1 else 0
  | none => 0
def cnK (L : List Md) (x : Int32) : Nat := sm (kAt L x) L.length
/-! arguments -/
def isLn (n : Nat) (x : Int32) : Bool := !decide (x < 0) && decide (x < nI n)
theorem isLn_t {n : Nat} {x : Int32} (hn : n < 2147483648) (h : isLn n x = true) : ∃ j, j < n ∧ x = nI j := by
  unfold isLn at h
  simp only [Bool.and_eq_true, Bool.not_eq_true', decide_eq_false_iff_not, decide_eq_true_eq] at h
  obtain ⟨j, hj, rfl⟩ := nI_of h.1
  exact ⟨j, (nlt hj hn).mp h.2, rfl⟩
theorem isLn_n {n j : Nat} (hn : n < 2147483648) (hj : j < n) : isLn n (nI j) = true := by
  unfold isLn
  simp only [Bool.and_eq_true, Bool.not_eq_true', decide_eq_false_iff_not, decide_eq_true_eq]
  exact ⟨nI_pos (by omega), (nlt (by omega) hn).mpr hj⟩
def ix (x : Int32) : Nat := x.toNatClampNeg
theorem ix_n {j : Nat} (h : j < 2147483648) : ix (nI j) = j := nI_clamp h
abbrev Rs : Type := Nat ⊕ Int32
def cntV (P : Pg) (nU k : Nat) : Nat :=
  if k < 6 then Pt P k else if k = 6 then Pw P else if k = 7 then PL P
  else if k = 8 then sm (fun l => blk (Pw P) (Pr P l)) (PL P)
  else if k = 9 then sm (fun l => nch (Pw P) (Pr P l)) (PL P)
  else if k = 10 then sm (fun l => bN (isMk P l)) (PL P)
  else if k = 11 then nU
  else sm (fun l => bN (decide (Pr P l = Pu P l))) (PL P)
def spCount (P : Pg) (nU : Nat) (x : Int32) : Rs := if isLn 13 x = true then .inr (nI (cntV P nU (ix x))) else .inl 1
def spDot (P : Pg) (x y : Int32) : Rs := if isLn (PL P) x = true ∧ isLn (Pw P) y = true then .inr (nI (bN ((Pr P (ix x)).testBit (ix y)))) else .inl 1
def lineV (P : Pg) (l k : Nat) : Nat :=
  if k = 0 then bN (isMk P l) else if k = 1 then aBt P l else if k = 2 then cBt P l else if k = 3 then sBt P l
  else if k = 4 then (runs (Pw P) (Pr P l)).length else if k = 5 then (cod (Pw P) (Pr P l) (Pu P l)).length
  else if k = 6 then cnK (cod (Pw P) (Pr P l) (Pu P l)) (nI 0) else if k = 7 then cnK (cod (Pw P) (Pr P l) (Pu P l)) (nI 1)
  else if k = 8 then cnK (cod (Pw P) (Pr P l) (Pu P l)) (nI 2) else if k = 9 then Ps P l
  else if k = 10 then blk (Pw P) (Pr P l) else mkU P l
def spLine (P : Pg) (x y : Int32) : Rs := if isLn (PL P) x = true then (if isLn 12 y = true then .inr (nI (lineV P (ix x) (ix y))) else .inl 2) else .inl 1
def rnV (L : List Nat) (j : Nat) : Int32 := match L[j]? with | some n => nI n | none => -1
def spRun (P : Pg) (x y : Int32) : Rs := if isLn (PL P) x = true ∧ ¬ y < 0 then .inr (rnV (runs (Pw P) (Pr P (ix x))) (ix y)) else .inl 1
def mdV (L : List Md) (j : Nat) (z : Int32) : Int32 := match L[j]? with
  | some m => if z = nI 0 then m.1 else if z = nI 1 then m.2.1 else if z = nI 2 then m.2.2.1 else m.2.2.2
  | none => -9
def spMode (P : Pg) (x y z : Int32) : Rs := if isLn (PL P) x = true ∧ ¬ y < 0 then (if isLn 4 z = true then .inr (mdV (cod (Pw P) (Pr P (ix x)) (Pu P (ix x))) (ix y) z) else .inl 2) else .inl 1
def chV (w r j : Nat) : Int32 := if ncf w r 0 j < w then nI (ncf w r 0 j) else -1
def c2B (x : Int32) : Bool := decide (x = nI 1)
/-! reading a code below a line: place + 1, colour, dots so far -/
def pnt (r f t : Nat) (c : Bool) : Nat := if c = true then r ||| (2 ^ t - 2 ^ f) else r
def rStep (w u : Nat) (m : Md) (s : Nat × Bool × Nat) : Option (Nat × Bool × Nat) :=
  if s.1 = w + 1 then none
  else if m.1 = nI 0 then some (sD w u (sB w u s.1 s.2.1) + 1, s.2.1, pnt s.2.2 (s.1 - 1) (sD w u (sB w u s.1 s.2.1)) s.2.1)
  else if m.1 = nI 1 then (if sB w u s.1 s.2.1 + ix (m.2.1 + nI 3) < s.1 + 3 ∨ w + 3 < sB w u s.1 s.2.1 + ix (m.2.1 + nI 3) then none
    else some (sB w u s.1 s.2.1 + ix (m.2.1 + nI 3) - 3 + 1, !s.2.1, pnt s.2.2 (s.1 - 1) (sB w u s.1 s.2.1 + ix (m.2.1 + nI 3) - 3) s.2.1))
  else (if s.1 - 1 + ix m.2.1 + ix m.2.2.1 + 1 ≤ s.1 ∨ w < s.1 - 1 + ix m.2.1 + ix m.2.2.1 then none
    else some (s.1 - 1 + ix m.2.1 + ix m.2.2.1 + 1, s.2.1, pnt (pnt s.2.2 (s.1 - 1) (s.1 - 1 + ix m.2.1) s.2.1) (s.1 - 1 + ix m.2.1) (s.1 - 1 + ix m.2.1 + ix m.2.2.1) (!s.2.1)))
def rdL (w u : Nat) : List Md → Nat × Bool × Nat → Option (Nat × Bool × Nat)
  | [], s => some s
  | m :: t, s => match rStep w u m s with | some s' => rdL w u t s' | none => none
def rdE (w : Nat) (o : Option (Nat × Bool × Nat)) : Option Nat := match o with
  | some s => if s.1 = w + 1 then some s.2.2 else none
  | none => none
def rdC (w u : Nat) (L : List Md) : Option Nat := rdE w (rdL w u L (0, false, 0))
def mdOk (m : Md) : Prop := m.1 = nI 0 ∨ (m.1 = nI 1 ∧ ∃ x, x ≤ 6 ∧ m.2.1 = nI x - nI 3) ∨ (m.1 = nI 2 ∧ ∃ a b, a ≤ 40 ∧ b ≤ 40 ∧ m.2.1 = nI a ∧ m.2.2.1 = nI b)
def rbV (P : Pg) (l u : Nat) : Int32 := match rdC (Pw P) u (cod (Pw P) (Pr P l) (Pu P l)) with
  | some q => nI (dif (Pw P) q (Pr P l))
  | none => -1
def spReadBelow (P : Pg) (x y : Int32) : Rs := if isLn (PL P) x = true ∧ (y = -1 ∨ isLn (PL P) y = true) then .inr (rbV P (ix x) (if y = -1 then 0 else Pr P (ix y))) else .inl 1
theorem span_bit {f t k : Nat} (h : f ≤ t) : (2 ^ t - 2 ^ f).testBit k = decide (f ≤ k ∧ k < t) := by
  have e : 2 ^ t - 2 ^ f = 2 ^ f * (2 ^ (t - f) - 1) := by
    rw [Nat.mul_sub, Nat.mul_one, ← Nat.pow_add]; congr 2; omega
  rw [e, Nat.mul_comm, Nat.testBit_mul_two_pow, Nat.testBit_two_pow_sub_one]
  by_cases h1 : f ≤ k
  · simp [h1]; omega
  · simp [h1]
theorem pnt_bit {r f t k : Nat} {c : Bool} (h : f ≤ t) (hr : r < 2 ^ f) : (pnt r f t c).testBit k = if f ≤ k ∧ k < t then c else r.testBit k := by
  unfold pnt
  cases c with
  | false =>
    rw [if_neg (by decide)]
    by_cases q : f ≤ k ∧ k < t
    · rw [if_pos q, Nat.testBit_lt_two_pow (Nat.lt_of_lt_of_le hr (pw_le q.1))]
    · rw [if_neg q]
  | true =>
    rw [if_pos rfl, Nat.testBit_or, span_bit h]
    by_cases q : f ≤ k ∧ k < t
    · rw [if_pos q]; simp [q]
    · rw [if_neg q]; simp only [decide_eq_false q, Bool.or_false]
theorem pnt_lt {r f t : Nat} {c : Bool} (h : f ≤ t) (hr : r < 2 ^ f) : pnt r f t c < 2 ^ t := by
  apply Nat.lt_pow_two_of_testBit
  intro k hk
  rw [pnt_bit h hr, if_neg (by omega), Nat.testBit_lt_two_pow (Nat.lt_of_lt_of_le hr (pw_le (by omega)))]
