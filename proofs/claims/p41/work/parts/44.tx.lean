/-! TEXTS: tokens and what a text tells. A text: its bytes (0 to 255), its length -/
abbrev Tx : Type := (Nat → Nat) × Nat
def nsp (x : Tx) (i : Nat) : Bool := !(x.1 i == 32 || x.1 i == 10)
def bAt (x : Tx) (i : Nat) : Nat := if i < x.2 then x.1 i else 256
/-- sorts of tokens: 0 the end, 1 a word, 2 a number, 3 a row, 4 a minus sign, 5 a semicolon, 6 none of them -/
def srt (b : Nat) : Nat := if b = 256 then 0 else if 97 ≤ b ∧ b ≤ 122 then 1 else if 48 ≤ b ∧ b ≤ 57 then 2 else if b = 46 ∨ b = 35 then 3 else if b = 45 then 4 else if b = 59 then 5 else 6
def tkS (x : Tx) (p : Nat) : Nat := fb (nsp x) x.2 p
def tkK (x : Tx) (p : Nat) : Nat := srt (bAt x (tkS x p))
def tkE (x : Tx) (p : Nat) : Nat := if tkK x p = 0 then tkS x p else if tkK x p ≤ 3 then fb (fun j => srt (x.1 j) != tkK x p) x.2 (tkS x p) else tkS x p + 1
def dvN (x : Tx) (s : Nat) : Nat → Nat
  | 0 => 0
  | j + 1 => 10 * dvN x s j + (x.1 (s + j) - 48)
def dcv (x : Tx) (p : Nat) : Nat := dvN x (tkS x p) (tkE x p - tkS x p)
def sl (x : Tx) (s n : Nat) : List Nat := (List.range n).map (fun j => x.1 (s + j))
def wds : List (List Nat) := [[108, 105, 110, 101], [97, 108, 111, 110, 101], [97, 98, 111, 118, 101], [115, 101, 116], [108, 111, 115, 115], [119, 105, 100, 101], [112], [118], [104]]
def wdIs (x : Tx) (p w : Nat) : Bool := decide (tkK x p = 1) && decide (sl x (tkS x p) (tkE x p - tkS x p) = wds.getD w [])
/-- which word stands here; 9: none of them -/
def wd (x : Tx) (p : Nat) : Nat := if wdIs x p 0 = true then 0 else if wdIs x p 1 = true then 1 else if wdIs x p 2 = true then 2 else if wdIs x p 3 = true then 3 else if wdIs x p 4 = true then 4 else if wdIs x p 5 = true then 5 else if wdIs x p 6 = true then 6 else if wdIs x p 7 = true then 7 else if wdIs x p 8 = true then 8 else 9
/-- an error (its code, its position), or what is read -/
abbrev Pe (α : Type) : Type := (Nat × Nat) ⊕ α
def pB {α β : Type} (a : Pe α) (f : α → Pe β) : Pe β := match a with
  | .inl e => .inl e
  | .inr v => f v
def pNum (x : Tx) (p lo hi : Nat) : Pe (Nat × Nat) := if tkK x p = 2 then (if lo ≤ dcv x p ∧ dcv x p ≤ hi then .inr (dcv x p, tkE x p) else .inl (2, tkS x p)) else .inl (1, tkS x p)
def pSemi (x : Tx) (p : Nat) : Pe Nat := if tkK x p = 5 then .inr (tkE x p) else .inl (1, tkS x p)
def pEnd (x : Tx) (p : Nat) (full : Bool) (P : Pg) (row : Nat) : Pe (Pg × Nat) := if tkK x p = 5 then (if full = true then .inr (pAdd P row, tkE x p) else .inl (3, tkS x p)) else .inl (1, tkS x p)
/-- dots of a row of signs -/
def dotsN (x : Tx) (s : Nat) : Nat → Nat
  | 0 => 0
  | j + 1 => if x.1 (s + j) = 35 then dotsN x s j ||| 2 ^ j else dotsN x s j
def pRowT (x : Tx) (P : Pg) (p : Nat) : Pe (Pg × Nat) := if tkK x p = 3 then (if tkE x p - tkS x p = Pw P then pB (pSemi x (tkE x p)) (fun p' => .inr (pAdd P (dotsN x (tkS x p) (Pw P)), p')) else .inl (3, tkS x p)) else .inl (1, tkS x p)
/-- numbers of a code alone: position, first place, colour, dots so far, is it the first -/
def aloneN (x : Tx) (w : Nat) : Nat → Nat → Nat → Bool → Nat → Bool → Pe (Nat × Nat × Nat)
  | 0, p, f, _, r, _ => .inr (p, f, r)
  | n + 1, p, f, c, r, first => if first = true ∨ tkK x p = 2 then pB (pNum x p (if first = true then 0 else 1) w) (fun v => if w < f + v.1 then .inl (4, tkS x p) else aloneN x w n v.2 (f + v.1) (!c) (pnt r f (f + v.1) c) false) else .inr (p, f, r)
def pAloneT (x : Tx) (P : Pg) (p : Nat) : Pe (Pg × Nat) := pB (aloneN x (Pw P) 1000 p 0 false 0 true) (fun v => pEnd x v.1 (decide (v.2.1 = Pw P)) P v.2.2)
abbrev Rst : Type := Nat × Bool × Nat
def pStep (w u : Nat) (m : Md) (st : Rst) (pos p' : Nat) : Pe (Nat × Rst) := match rStep w u m st with
  | some st' => .inr (p', st')
  | none => .inl (4, pos)
/-- a mode -/
def pMode (x : Tx) (w u p : Nat) (st : Rst) : Pe (Nat × Rst) :=
  if st.1 = w + 1 then .inl (4, tkS x p)
  else if wd x p = 6 then pStep w u (nI 0, nI 0, nI 0, 0) st (tkS x p) (tkE x p)
  else if wd x p = 7 then pB (pNum x (if tkK x (tkE x p) = 4 then tkE x (tkE x p) else tkE x p) 0 3) (fun v => pStep w u (nI 1, if tkK x (tkE x p) = 4 then -nI v.1 else nI v.1, nI 0, 0) st (tkS x p) v.2)
  else pB (pNum x (tkE x p) 0 w) (fun v => pB (pNum x v.2 0 w) (fun v2 => pStep w u (nI 2, nI v.1, nI v2.1, 0) st (tkS x p) v2.2))
def aboveN (x : Tx) (w u : Nat) : Nat → Nat → Rst → Pe (Nat × Rst)
  | 0, p, st => .inr (p, st)
  | n + 1, p, st => if 6 ≤ wd x p ∧ wd x p ≤ 8 then pB (pMode x w u p st) (fun v => aboveN x w u n v.1 v.2) else .inr (p, st)
def uLast (P : Pg) : Nat := if PL P = 0 then 0 else Pr P (PL P - 1)
def pAboveT (x : Tx) (P : Pg) (p : Nat) : Pe (Pg × Nat) := pB (aboveN x (Pw P) (uLast P) 1000 p (0, false, 0)) (fun v => pEnd x v.1 (decide (v.2.1 = Pw P + 1)) P v.2.2.2)
def pSetT (x : Tx) (P : Pg) (p : Nat) : Pe (Pg × Nat) := pB (pNum x p 0 5) (fun a => pB (pNum x a.2 (stLo a.1) (stHi a.1)) (fun b => pB (pSemi x b.2) (fun p' => .inr (pSet P a.1 b.1, p'))))
def pLossT (x : Tx) (P : Pg) (p : Nat) : Pe (Pg × Nat) := pB (pNum x p 0 19) (fun a => pB (pNum x a.2 0 5) (fun b => pB (pSemi x b.2) (fun p' => .inr (pLose P a.1 b.1, p'))))
def pStmt (x : Tx) (P : Pg) (p : Nat) : Pe (Pg × Nat) :=
  if wd x p = 3 then pSetT x P (tkE x p) else if wd x p = 4 then pLossT x P (tkE x p)
  else if wd x p ≤ 2 then (if PL P < 20 then (if wd x p = 0 then pRowT x P (tkE x p) else if wd x p = 1 then pAloneT x P (tkE x p) else pAboveT x P (tkE x p)) else .inl (5, tkS x p))
  else .inl (1, tkS x p)
def stmtN (x : Tx) : Nat → Pg → Nat → Pe Pg
  | 0, P, _ => .inr P
  | n + 1, P, p => if tkK x p = 0 then .inr P else pB (pStmt x P p) (fun v => stmtN x n v.1 v.2)
def pg0 (w : Nat) : Pg := (w, 0, fun _ => 0, fun _ => 0, fun k => [4, 0, 0, 0, 8, 16].getD k 0)
def spText (x : Tx) : Pe Pg := if wd x 0 = 5 then pB (pNum x (tkE x 0) 8 40) (fun v => pB (pSemi x v.2) (fun p => stmtN x 1000 (pg0 v.1) p)) else stmtN x 1000 (pg0 16) 0
/-! tokens move on -/
theorem tkS_le (x : Tx) (p : Nat) : tkS x p ≤ x.2 := fb_le _ _ _
theorem tkS_ge {x : Tx} {p : Nat} (h : p ≤ x.2) : p ≤ tkS x p := fb_ge _ h
theorem srt_le (b : Nat) : srt b ≤ 6 := by unfold srt; repeat' split
                                           all_goals omega
theorem tkK_0 {x : Tx} (hb : ∀ i, i < x.2 → x.1 i < 256) (p : Nat) : tkK x p = 0 ↔ tkS x p = x.2 := by
  have h := tkS_le x p
  unfold tkK bAt
  constructor
  · intro e
    rcases Nat.eq_or_lt_of_le h with q | q
    · exact q
    · rw [if_pos q] at e
      have := hb _ q
      unfold srt at e
      rw [if_neg (by omega)] at e
      repeat' split at e
      all_goals omega
  · intro e
    rw [if_neg (by omega)]; rfl
theorem tkE_le {x : Tx} (hb : ∀ i, i < x.2 → x.1 i < 256) (p : Nat) : tkE x p ≤ x.2 := by
  have h := tkS_le x p
  have h0 := tkK_0 hb p
  unfold tkE
  split
  · exact h
  · split
    · exact fb_le _ _ _
    · have : tkS x p ≠ x.2 := fun z => by rename_i a b; exact a (h0.mpr z)
      omega
theorem tkE_gt {x : Tx} (hb : ∀ i, i < x.2 → x.1 i < 256) {p : Nat} (h0 : tkK x p ≠ 0) : tkS x p < tkE x p := by
  have h := tkS_le x p
  have hk := tkK_0 hb p
  have hlt : tkS x p < x.2 := by
    rcases Nat.eq_or_lt_of_le h with q | q
    · exact absurd (hk.mpr q) h0
    · exact q
  unfold tkE
  rw [if_neg h0]
  split
  · have e : srt (x.1 (tkS x p)) = tkK x p := by unfold tkK bAt; rw [if_pos hlt]
    have : (fun j => srt (x.1 j) != tkK x p) (tkS x p) = false := by show (srt (x.1 (tkS x p)) != tkK x p) = false; rw [e]; simp
    rw [fb_next hlt this]
    exact fb_ge _ hlt
  · omega
theorem tkE_ge {x : Tx} (hb : ∀ i, i < x.2 → x.1 i < 256) {p : Nat} (hp : p ≤ x.2) : p ≤ tkE x p := by
  have h1 := tkS_ge hp
  by_cases h0 : tkK x p = 0
  · unfold tkE; rw [if_pos h0]; exact h1
  · have := tkE_gt hb h0; omega
theorem wdIs_k {x : Tx} {p w : Nat} (h : wdIs x p w = true) : tkK x p = 1 := by
  unfold wdIs at h
  simp only [Bool.and_eq_true, decide_eq_true_eq] at h
  exact h.1
theorem wd_k {x : Tx} {p : Nat} (h : wd x p ≠ 9) : tkK x p = 1 := by
  unfold wd at h
  by_cases h0 : wdIs x p 0 = true
  · exact wdIs_k h0
  by_cases h1 : wdIs x p 1 = true
  · exact wdIs_k h1
  by_cases h2 : wdIs x p 2 = true
  · exact wdIs_k h2
  by_cases h3 : wdIs x p 3 = true
  · exact wdIs_k h3
  by_cases h4 : wdIs x p 4 = true
  · exact wdIs_k h4
  by_cases h5 : wdIs x p 5 = true
  · exact wdIs_k h5
  by_cases h6 : wdIs x p 6 = true
  · exact wdIs_k h6
  by_cases h7 : wdIs x p 7 = true
  · exact wdIs_k h7
  by_cases h8 : wdIs x p 8 = true
  · exact wdIs_k h8
  simp [h0, h1, h2, h3, h4, h5, h6, h7, h8] at h
theorem wd_w {x : Tx} {p w : Nat} (hw : w < 9) : wd x p = w ↔ wdIs x p w = true := by
  have dis : ∀ a, a < 9 → ∀ b, b < 9 → wdIs x p a = true → wdIs x p b = true → a = b := by
    intro a ha b hb h1 h2
    unfold wdIs at h1 h2
    simp only [Bool.and_eq_true, decide_eq_true_eq] at h1 h2
    have e : wds.getD a [] = wds.getD b [] := by rw [← h1.2, ← h2.2]
    have inj : ∀ a, a < 9 → ∀ b, b < 9 → wds.getD a [] = wds.getD b [] → a = b := by decide
    exact inj a ha b hb e
  constructor
  · intro e
    unfold wd at e
    repeat' split at e
    all_goals first | (subst e; assumption) | omega
  · intro h
    unfold wd
    repeat' split
    all_goals first | (exact dis _ (by omega) _ hw (by assumption) h) | skip
    rcases (show w = 0 ∨ w = 1 ∨ w = 2 ∨ w = 3 ∨ w = 4 ∨ w = 5 ∨ w = 6 ∨ w = 7 ∨ w = 8 by omega) with rfl | rfl | rfl | rfl | rfl | rfl | rfl | rfl | rfl <;> contradiction

