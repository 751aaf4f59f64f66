/-! WHAT A PAGE IS, AND ITS CODES: numbers and rows of bits -/
abbrev Pg : Type := Nat × Nat × (Nat → Nat) × (Nat → Nat) × (Nat → Nat)
def Pw (P : Pg) : Nat := P.1
def PL (P : Pg) : Nat := P.2.1
def Pr (P : Pg) : Nat → Nat := P.2.2.1
def Ps (P : Pg) : Nat → Nat := P.2.2.2.1
def Pt (P : Pg) : Nat → Nat := P.2.2.2.2
def wfP (P : Pg) : Prop := 8 ≤ Pw P ∧ Pw P ≤ 40 ∧ PL P ≤ 20 ∧ (∀ l, l < PL P → Pr P l < 2 ^ Pw P) ∧ (∀ l, l < 20 → Ps P l ≤ 5) ∧ (1 ≤ Pt P 0 ∧ Pt P 0 ≤ 8) ∧ Pt P 1 ≤ 1 ∧ Pt P 2 ≤ 1 ∧ Pt P 3 ≤ 9 ∧ Pt P 4 ≤ 99 ∧ Pt P 5 ≤ 99
/-- the line above -/
def Pu (P : Pg) (l : Nat) : Nat := if l = 0 then 0 else Pr P (l - 1)
abbrev Md : Type := Int32 × Int32 × Int32 × Int32
def sA (w r q : Nat) (c : Bool) : Nat := fb (fun k => r.testBit k == !c) w q
def sB (w u q : Nat) (c : Bool) : Nat := fb (fun k => chg u k && (bN (u.testBit k) != bN c)) w q
def sD (w u b : Nat) : Nat := fb (fun k => chg u k) w (b + 1)
def sE (w r a : Nat) (c : Bool) : Nat := fb (fun k => r.testBit k == c) w (a + 1)
def cStep (w r u q : Nat) (c : Bool) : Md × Nat × Bool :=
  if sD w u (sB w u q c) < sA w r q c then ((nI 0, nI 0, nI 0, nI (sD w u (sB w u q c))), sD w u (sB w u q c) + 1, c)
  else if sA w r q c ≤ sB w u q c + 3 ∧ sB w u q c ≤ sA w r q c + 3 then ((nI 1, nI (sA w r q c) - nI (sB w u q c), nI 0, nI (sA w r q c)), sA w r q c + 1, !c)
  else ((nI 2, nI (sA w r q c - (q - 1)), nI (sE w r (sA w r q c) c - sA w r q c), nI (sE w r (sA w r q c) c)), sE w r (sA w r q c) c + 1, c)
def cList (w r u : Nat) : Nat → Nat → Bool → List Md
  | 0, _, _ => []
  | n + 1, q, c => if q = w + 1 then [] else (cStep w r u q c).1 :: cList w r u n (cStep w r u q c).2.1 (cStep w r u q c).2.2
def cRest (w r u q : Nat) (c : Bool) : List Md := cList w r u (w + 1 - q) q c
def cod (w r u : Nat) : List Md := cRest w r u 0 false
theorem sA_ge {w r q : Nat} {c : Bool} (h : q ≤ w) : q ≤ sA w r q c := fb_ge _ h
theorem sA_le (w r q : Nat) (c : Bool) : sA w r q c ≤ w := fb_le _ _ _
theorem sB_ge {w u q : Nat} {c : Bool} (h : q ≤ w) : q ≤ sB w u q c := fb_ge _ h
theorem sB_le (w u q : Nat) (c : Bool) : sB w u q c ≤ w := fb_le _ _ _
theorem sD_le (w u b : Nat) : sD w u b ≤ w := fb_le _ _ _
theorem sD_ge {w u b : Nat} (h : b ≤ w) : b ≤ sD w u b := by
  unfold sD
  rcases Nat.eq_or_lt_of_le h with q | q
  · rw [fb_ge_w (by omega)]; exact h
  · have := fb_ge (fun k => chg u k) (show b + 1 ≤ w from q); omega
theorem sE_le (w r a : Nat) (c : Bool) : sE w r a c ≤ w := fb_le _ _ _
theorem sE_ge {w r a : Nat} {c : Bool} (h : a ≤ w) : a ≤ sE w r a c := by
  unfold sE
  rcases Nat.eq_or_lt_of_le h with q | q
  · rw [fb_ge_w (by omega)]; exact h
  · have := fb_ge (fun k => r.testBit k == c) (show a + 1 ≤ w from q); omega
theorem cStep_q {w r u q : Nat} {c : Bool} (h : q ≤ w) : q < (cStep w r u q c).2.1 ∧ (cStep w r u q c).2.1 ≤ w + 1 := by
  have a1 := sA_ge (r := r) (c := c) h
  have a2 := sA_le w r q c
  have b1 := sB_ge (u := u) (c := c) h
  have b2 := sB_le w u q c
  have d1 := sD_ge (u := u) b2
  have d2 := sD_le w u (sB w u q c)
  have e1 := sE_ge (r := r) (c := c) a2
  have e2 := sE_le w r (sA w r q c) c
  unfold cStep
  split
  · exact ⟨by show q < _ + 1; omega, by show _ + 1 ≤ w + 1; omega⟩
  · split
    · exact ⟨by show q < _ + 1; omega, by show _ + 1 ≤ w + 1; omega⟩
    · exact ⟨by show q < _ + 1; omega, by show _ + 1 ≤ w + 1; omega⟩
theorem cList_en (w r u : Nat) : ∀ n m q c, w + 1 - q ≤ n → w + 1 - q ≤ m → q ≤ w + 1 → cList w r u n q c = cList w r u m q c := by
  intro n
  induction n with
  | zero =>
    intro m q c h1 h2 h3
    have : q = w + 1 := by omega
    cases m with
    | zero => rfl
    | succ m => unfold cList; rw [if_pos this]
  | succ n ih =>
    intro m q c h1 h2 h3
    cases m with
    | zero =>
      have : q = w + 1 := by omega
      unfold cList; rw [if_pos this]
    | succ m =>
      unfold cList
      by_cases h : q = w + 1
      · rw [if_pos h, if_pos h]
      · rw [if_neg h, if_neg h]
        have hq := cStep_q (r := r) (u := u) (c := c) (show q ≤ w by omega)
        rw [ih m _ _ (by omega) (by omega) (by omega)]
theorem cRest_end (w r u : Nat) (c : Bool) : cRest w r u (w + 1) c = [] := by
  unfold cRest; rw [Nat.sub_self]; rfl
theorem cRest_s {w r u q : Nat} {c : Bool} (h : q ≤ w) : cRest w r u q c = (cStep w r u q c).1 :: cRest w r u (cStep w r u q c).2.1 (cStep w r u q c).2.2 := by
  have hq := cStep_q (r := r) (u := u) (c := c) h
  unfold cRest
  rw [show w + 1 - q = (w - q) + 1 by omega]
  show (if q = w + 1 then [] else _ :: cList w r u (w - q) _ _) = _
  rw [if_neg (by omega), cList_en w r u (w - q) (w + 1 - (cStep w r u q c).2.1) _ _ (by omega) (by omega) (by omega)]
/-- four rows hold a list of modes -/
def isCd (f1 f2 f3 f4 : Nat → Int32) (L : List Md) : Prop := ∀ i md, L[i]? = some md → f1 i = md.1 ∧ f2 i = md.2.1 ∧ f3 i = md.2.2.1 ∧ f4 i = md.2.2.2
theorem isCd_nil (f1 f2 f3 f4 : Nat → Int32) : isCd f1 f2 f3 f4 [] := fun i md h => by simp at h
theorem isCd_add {f1 f2 f3 f4 g1 g2 g3 g4 : Nat → Int32} {L : List Md} {md : Md} (h : isCd f1 f2 f3 f4 L) (a1 : ∀ i, i < L.length → g1 i = f1 i) (a2 : ∀ i, i < L.length → g2 i = f2 i) (a3 : ∀ i, i < L.length → g3 i = f3 i) (a4 : ∀ i, i < L.length → g4 i = f4 i) (b1 : g1 L.length = md.1) (b2 : g2 L.length = md.2.1) (b3 : g3 L.length = md.2.2.1) (b4 : g4 L.length = md.2.2.2) : isCd g1 g2 g3 g4 (L ++ [md]) := by
  intro i m hi
  rcases Nat.lt_or_ge i L.length with q | q
  · rw [List.getElem?_append_left q] at hi
    rw [a1 i q, a2 i q, a3 i q, a4 i q]
    exact h i m hi
  · rw [List.getElem?_append_right q] at hi
    rcases Nat.eq_or_lt_of_le q with z | z
    · subst z
      simp at hi
      subst hi
      exact ⟨b1, b2, b3, b4⟩
    · rw [List.getElem?_eq_none (by simp; omega)] at hi; cases hi
def nbI (x : Int32) : Nat := if 8 ≤ x then 8 else 4
def nb (n : Nat) : Nat := nbI (nI n)
/-- bits of a mode -/
def mB (m : Md) : Nat := if m.1 = nI 0 then 4 else if m.1 = nI 2 then 3 + nbI m.2.1 + nbI m.2.2.1 else
  (if (if 0 ≤ m.2.1 then m.2.1 else -m.2.1) = nI 0 then 1 else if (if 0 ≤ m.2.1 then m.2.1 else -m.2.1) = nI 1 then 3 else if (if 0 ≤ m.2.1 then m.2.1 else -m.2.1) = nI 2 then 6 else 7)
theorem nbI_le (x : Int32) : nbI x ≤ 8 := by unfold nbI; split <;> omega
theorem mB_le (m : Md) : mB m ≤ 19 := by
  have := nbI_le m.2.1
  have := nbI_le m.2.2.1
  unfold mB; repeat' split
  all_goals omega
def mS : List Md → Nat
  | [] => 0
  | m :: t => mB m + mS t
theorem mS_add (L : List Md) (m : Md) : mS (L ++ [m]) = mS L + mB m := by
  induction L with
  | nil => show mB m + 0 = 0 + mB m; omega
  | cons a t ih => show mB a + mS (t ++ [m]) = mB a + mS t + mB m; rw [ih]; omega
theorem mS_le (L : List Md) : mS L ≤ 19 * L.length := by
  induction L with
  | nil => exact Nat.le_refl _
  | cons a t ih =>
    have := mB_le a
    show mB a + mS t ≤ 19 * (t.length + 1); omega
theorem cList_len (w r u : Nat) : ∀ n q c, (cList w r u n q c).length ≤ n := by
  intro n
  induction n with
  | zero => intro q c; exact Nat.le_refl _
  | succ n ih =>
    intro q c
    unfold cList
    split
    · exact Nat.zero_le _
    · exact Nat.succ_le_succ (ih _ _)
theorem cod_len (w r u : Nat) : (cod w r u).length ≤ w + 1 := cList_len w r u _ _ _
/-! THE CODE ALONE: runs -/
def rT (w r f : Nat) (c : Bool) : Nat := fb (fun k => r.testBit k == !c) w f
def rL (w r : Nat) : Nat → Nat → Bool → List Nat
  | 0, _, _ => []
  | n + 1, f, c => (rT w r f c - f) :: (if rT w r f c < w then rL w r n (rT w r f c) (!c) else [])
def runs (w r : Nat) : List Nat := rL w r (w + 1) 0 false
def nS : List Nat → Nat
  | [] => 0
  | m :: t => nb m + nS t
theorem nb_le (n : Nat) : nb n ≤ 8 := nbI_le _
theorem nS_le (L : List Nat) : nS L ≤ 8 * L.length := by
  induction L with
  | nil => exact Nat.le_refl _
  | cons a t ih =>
    have := nb_le a
    show nb a + nS t ≤ 8 * (t.length + 1); omega
theorem rL_len (w r : Nat) : ∀ n f c, (rL w r n f c).length ≤ n := by
  intro n
  induction n with
  | zero => intro f c; exact Nat.le_refl _
  | succ n ih =>
    intro f c
    unfold rL
    split
    · exact Nat.succ_le_succ (ih _ _)
    · exact Nat.succ_le_succ (Nat.zero_le _)
theorem runs_len (w r : Nat) : (runs w r).length ≤ w + 1 := rL_len w r _ _ _
/-- bits of a line's two codes; whether it is a mark -/
def aBt (P : Pg) (l : Nat) : Nat := nS (runs (Pw P) (Pr P l))
def cBt (P : Pg) (l : Nat) : Nat := mS (cod (Pw P) (Pr P l) (Pu P l))
def isMk (P : Pg) (l : Nat) : Bool := decide (l % Pt P 0 = 0) || (decide (Pt P 1 = 1) && decide (aBt P l < cBt P l))
def sBt (P : Pg) (l : Nat) : Nat := if isMk P l = true then aBt P l else cBt P l
/-- the latest mark up to a line -/
def mkU (P : Pg) : Nat → Nat
  | 0 => 0
  | l + 1 => if isMk P (l + 1) = true then l + 1 else mkU P l
theorem mkU_le (P : Pg) : ∀ l, mkU P l ≤ l
  | 0 => Nat.le_refl _
  | l + 1 => by
    have := mkU_le P l
    unfold mkU; split <;> omega
theorem aBt_le {P : Pg} (h : wfP P) (l : Nat) : aBt P l ≤ 328 := by
  have h1 := nS_le (runs (Pw P) (Pr P l))
  have h2 := runs_len (Pw P) (Pr P l)
  have h3 := h.2.1
  unfold aBt; omega
theorem cBt_le {P : Pg} (h : wfP P) (l : Nat) : cBt P l ≤ 779 := by
  have h1 := mS_le (cod (Pw P) (Pr P l) (Pu P l))
  have h2 := cod_len (Pw P) (Pr P l) (Pu P l)
  have h3 := h.2.1
  unfold cBt; omega
/-- a page in the reference's row of numbers -/
def isPgM (f : Nat → Int32) (P : Pg) : Prop := f 0 = nI (Pw P) ∧ f 1 = nI (PL P) ∧ (∀ k, k < 6 → f (2 + k) = nI (Pt P k)) ∧ (∀ l, l < 20 → f (8 + l) = nI (Ps P l)) ∧ ∀ l, l < PL P → ∀ k, k < 40 → f (28 + 40 * l + k) = nI (bN ((Pr P l).testBit k))

