/-! THE REFERENCE: edits; first: copies, keeps, lines of dots moved -/
def xKp (h k : Nat) : Bool := h == 41 || (h == 38 && k == 4)
def xPg (h _ : Nat) : Bool := h == 39
def xEd (h k : Nat) : Bool := xRd h k || xKp h k || xPg h k
theorem xRd_Ed (a b : Nat) (h : xEd a b = false) : xRd a b = false := by unfold xEd at h; cases e : xRd a b <;> simp [e] at h ⊢
theorem xKp_Ed (a b : Nat) (h : xEd a b = false) : xKp a b = false := by unfold xEd at h; cases e : xKp a b <;> simp [e] at h ⊢
theorem xPg_Ed (a b : Nat) (h : xEd a b = false) : xPg a b = false := by unfold xEd at h; cases e : xPg a b <;> simp [e] at h ⊢
def xRow (a h _ : Nat) : Bool := h == a
section MKeep
variable {M : Mm}
theorem mCopies {one other a b : Nat} (hne : one ≠ other) (h1 : a + 828 ≤ Ml M one) (h2 : b + 828 ≤ Ml M other) (ha : a < 100000) (hb : b < 100000) : Rn (fX8_copies one (nI a) other (nI b)) M (fun _ M' => XF (xRow other) M M' ∧ (∀ k, k < 828 → Mi M' other (b + k) = Mi M one (a + k)) ∧ ∀ j, j < b ∨ b + 828 ≤ j → Mi M' other j = Mi M other j) := by
  unfold fX8_copies
  refine rn_loopv (F := fun n i => fX8_copies_L3 n one (nI a) other (nI b) (nI i)) (fun i M' => XF (xRow other) M M' ∧ i ≤ 828 ∧ (∀ k, k < i → Mi M' other (b + k) = Mi M one (a + k)) ∧ ∀ j, j < b ∨ b + 828 ≤ j → Mi M' other j = Mi M other j) (fun i => 828 - i) ?_ fu 0 M (by unfold fu; omega) ⟨XF.rf, by omega, fun k hk => by omega, fun _ _ => rfl⟩
  rintro n i M1 ⟨x1, hi, hk, hj⟩ ih
  show Rn (fX8_copies_L3 (n + 1) one (nI a) other (nI b) (nI i)) M1 _
  unfold fX8_copies_L3
  refine Rn_cs (nle (a := 828) (by omega) (by omega)) (fun h => ?_) (fun h => ?_)
  · rw [Rn_rtn]; exact ⟨x1, fun k hk2 => hk k (by omega), hj⟩
  · have hr : Mi M1 one (a + i) = Mi M one (a + i) := x1.mi (by unfold xRow; simp [hne])
    rw [Rn_bnd, nI_add, rn_lI (by omega), x1.ml, hr, Rn_bnd, nI_add, rn_aI (by omega), x1.ml, nL1, nI_add]
    refine ⟨by omega, by omega, ih (i + 1) _ ⟨x1.sI (by unfold xRow; simp), by omega, fun k hk2 => ?_, fun j hj2 => ?_⟩ (by omega)⟩
    · rw [Mi_sI]
      by_cases e : k = i
      · rw [if_pos ⟨rfl, by omega⟩, e]
      · rw [if_neg (by omega)]; exact hk k (by omega)
    · rw [Mi_sI, if_neg (by omega)]; exact hj j hj2
/-- the pages that can come back -/
def rpU (f : Nat → Int32) (U : List Pg) : Prop := ∀ i P, U[i]? = some P → isPgM (fun k => f (828 * i + k)) P ∧ wfP P
def mPU (M : Mm) (s : Pg × List Pg) : Prop := isPgM (Mi M 39) s.1 ∧ wfP s.1 ∧ Mi M 38 4 = nI s.2.length ∧ s.2.length ≤ 10 ∧ rpU (Mi M 41) s.2
def pushU (U : List Pg) (P : Pg) : List Pg := if U.length = 10 then U.tail ++ [P] else U ++ [P]
theorem pushU_len {U : List Pg} (h : U.length ≤ 10) (P : Pg) : (pushU U P).length ≤ 10 := by
  unfold pushU
  split
  · simp; omega
  · simp; omega
theorem isPgM.cg {f g : Nat → Int32} {P : Pg} (h : isPgM f P) (hw : wfP P) (e : ∀ k, k < 828 → g k = f k) : isPgM g P := by
  have h20 := hw.2.2.1
  refine ⟨by rw [e 0 (by omega)]; exact h.1, by rw [e 1 (by omega)]; exact h.2.1, fun k hk => by rw [e _ (by omega)]; exact h.t hk, fun l hl => by rw [e _ (by omega)]; exact h.s hl, fun l hl k hk => by rw [e _ (by omega)]; exact h.d hl hk⟩
theorem mKeepsB (hM : MO M) {P : Pg} {U : List Pg} (hP : isPgM (Mi M 39) P) (hw : wfP P) (hn : Mi M 38 4 = nI U.length) (hl : U.length ≤ 9) (hU : rpU (Mi M 41) U) : Rn (fX8_keeps_L50 38) M (fun _ M' => XF xKp M M' ∧ mPU M' (P, U ++ [P])) := by
  unfold fX8_keeps_L50
  rw [Rn_bnd, mA1 hM, Rn_bnd, mA3 hM, Rn_bnd, Rn_gI, hn, Rn_bnd, nL828, pk_mul, nL0]
  refine (mCopies (M := M) (one := 39) (other := 41) (by decide) (by rw [mL39 hM]; omega) (by rw [mL41 hM]; omega) (by omega) (by omega)).mono ?_
  rintro - M1 ⟨x1, hk, hj⟩
  have x1' : XF xKp M M1 := x1.mono (fun a b z => by unfold xKp at z; unfold xRow; cases e : a == 41 <;> simp [e] at z ⊢)
  have n1 : Mi M1 38 4 = nI U.length := by rw [x1.mi rfl]; exact hn
  rw [Rn_bnd, Rn_gI, n1, Rn_bnd, Rn_pI, Rn_rtn, nL1, nI_add]
  refine ⟨x1'.sI rfl, ?_, hw, ?_, ?_, ?_⟩
  · show isPgM (Mi _ 39) P
    have : Mi (sI M1 38 4 (nI (U.length + 1))) 39 = Mi M 39 := by funext k; rw [Mi_sI, if_neg (by omega)]; exact x1.mi rfl
    rw [this]; exact hP
  · rw [sI_self]; show _ = nI (U ++ [P]).length; rw [List.length_append]; rfl
  · show (U ++ [P]).length ≤ 10; rw [List.length_append]; simp; omega
  · intro i Q hQ
    have e41 : ∀ j, Mi (sI M1 38 4 (nI (U.length + 1))) 41 j = Mi M1 41 j := fun j => by rw [Mi_sI, if_neg (by omega)]
    rcases Nat.lt_or_ge i U.length with q | q
    · have hQ : (U ++ [P])[i]? = some Q := hQ
      rw [List.getElem?_append_left q] at hQ
      obtain ⟨a1, a2⟩ := hU i Q hQ
      refine ⟨a1.cg a2 (fun k hk2 => ?_), a2⟩
      rw [e41, hj _ (by omega)]
    · have hQ : (U ++ [P])[i]? = some Q := hQ
      rw [List.getElem?_append_right q] at hQ
      rcases Nat.eq_or_lt_of_le q with z | z
      · subst z
        simp at hQ
        subst hQ
        refine ⟨hP.cg hw (fun k hk2 => ?_), hw⟩
        rw [e41, hk k hk2, Nat.zero_add]
      · rw [List.getElem?_eq_none (by simp; omega)] at hQ; cases hQ
theorem mKeeps (hM : MO M) {P : Pg} {U : List Pg} (h : mPU M (P, U)) : Rn (fX8_keeps 38) M (fun _ M' => XF xKp M M' ∧ mPU M' (P, pushU U P)) := by
  obtain ⟨hP, hw, hn, hl, hU⟩ := h
  have hn : Mi M 38 4 = nI U.length := hn
  have hl : U.length ≤ 10 := hl
  have hU : rpU (Mi M 41) U := hU
  unfold fX8_keeps
  rw [Rn_bnd, Rn_gI, hn]
  refine Rn_cs (d := U.length = 10) (by rw [nL10, neq (by omega) (by omega)]) (fun h => ?_) (fun h => ?_)
  · unfold pushU
    rw [if_pos h]
    refine rn_loopv (F := fun n i => fX8_keeps_L11 n 38 (nI i)) (fun i M' => XF xKp M M' ∧ Mi M' 38 4 = nI 10 ∧ i ≤ 7452 ∧ (∀ k, k < i → Mi M' 41 k = Mi M 41 (k + 828)) ∧ ∀ k, i ≤ k → Mi M' 41 k = Mi M 41 k) (fun i => 7452 - i) ?_ fu 0 M (by unfold fu; omega) ⟨XF.rf, by rw [hn, h], by omega, fun k hk => by omega, fun _ _ => rfl⟩
    rintro n i M1 ⟨x1, n1, hi, hk, hj⟩ ih
    show Rn (fX8_keeps_L11 (n + 1) 38 (nI i)) M1 _
    have m1 := hM.xf x1
    unfold fX8_keeps_L11
    refine Rn_cs (nle (a := 7452) (by omega) (by omega)) (fun h3 => ?_) (fun h3 => ?_)
    · rw [Rn_bnd, Rn_gI, n1, Rn_bnd, Rn_pI, nL1, nsb (by omega)]
      have x2 : XF xKp M (sI M1 38 4 (nI (10 - 1))) := x1.sI rfl
      have e41 : ∀ j, Mi (sI M1 38 4 (nI (10 - 1))) 41 j = Mi M1 41 j := fun j => by rw [Mi_sI, if_neg (by omega)]
      refine (mKeepsB (hM.xf x2) (P := P) (U := U.tail) ?_ hw ?_ ?_ ?_).mono ?_
      · rw [x2.row (fun _ => rfl)]; exact hP
      · rw [sI_self, List.length_tail, h]
      · rw [List.length_tail, h]; omega
      · intro j Q hQ
        have hj10 : j + 1 < U.length := by
          rcases Nat.lt_or_ge (j + 1) U.length with q | q
          · exact q
          · rw [List.getElem?_tail, List.getElem?_eq_none q] at hQ; cases hQ
        rw [List.getElem?_tail] at hQ
        obtain ⟨a1, a2⟩ := hU (j + 1) Q hQ
        refine ⟨a1.cg a2 (fun k hk2 => ?_), a2⟩
        rw [e41, hk _ (by omega)]
        congr 1; omega
      · rintro - M3 ⟨x3, p3⟩
        exact ⟨x2.tr x3, p3⟩
    · rw [Rn_bnd, mA3 m1, Rn_bnd, mA3 m1, Rn_bnd, nL828, nI_add, rn_lI (by omega), mL41 m1, hj _ (by omega), Rn_bnd, rn_aI (by omega), mL41 m1, nL1, nI_add]
      refine ⟨by omega, by omega, ih (i + 1) _ ⟨x1.sI rfl, ?_, by omega, fun k hk2 => ?_, fun k hk2 => ?_⟩ (by omega)⟩
      · rw [Mi_sI, if_neg (by omega)]; exact n1
      · rw [Mi_sI]
        by_cases e : k = i
        · rw [if_pos ⟨rfl, e⟩, e]
        · rw [if_neg (fun z => e z.2)]; exact hk k (by omega)
      · rw [Mi_sI, if_neg (by omega)]; exact hj k (by omega)
  · unfold pushU
    rw [if_neg h]
    exact mKeepsB hM hP hw hn (by omega) hU
/-! one line of dots changes -/
def isRowAt (f : Nat → Int32) (l r : Nat) : Prop := ∀ k, k < 40 → f (28 + 40 * l + k) = nI (bN (r.testBit k))
def gRow (f g : Nat → Int32) (l : Nat) : Prop := ∀ j, j < 28 + 40 * l ∨ 28 + 40 * l + 40 ≤ j → g j = f j
theorem gRow.rf {f : Nat → Int32} {l : Nat} : gRow f f l := fun _ _ => rfl
theorem gRow.tr {f g h : Nat → Int32} {l : Nat} (a : gRow f g l) (b : gRow g h l) : gRow f h l := fun j hj => (b j hj).trans (a j hj)
theorem gRow.si {M : Mm} {f : Nat → Int32} {l k : Nat} {v : Int32} (h : gRow f (Mi M 39) l) (hk : k < 40) : gRow f (Mi (sI M 39 (28 + 40 * l + k) v) 39) l := by
  intro j hj
  rw [Mi_sI, if_neg (by omega)]; exact h j hj
theorem gRow.row {f g : Nat → Int32} {l l' r : Nat} (h : gRow f g l) (ne : l' ≠ l) (hr : isRowAt f l' r) : isRowAt g l' r := by
  intro k hk
  rw [h _ (by omega)]; exact hr k hk
def updN {α : Type} (f : Nat → α) (k : Nat) (v : α) : Nat → α := fun j => if j = k then v else f j
theorem updN_s {α : Type} (f : Nat → α) (k : Nat) (v : α) : updN f k v k = v := by unfold updN; rw [if_pos rfl]
theorem updN_n {α : Type} {f : Nat → α} {k j : Nat} {v : α} (h : j ≠ k) : updN f k v j = f j := by unfold updN; rw [if_neg h]
/-- a page with one line changed -/
def pRow (P : Pg) (l r : Nat) : Pg := (Pw P, PL P, updN (Pr P) l r, Ps P, Pt P)
theorem pRow_ok {f g : Nat → Int32} {P : Pg} {l r : Nat} (h : isPgM f P) (hg : gRow f g l) (hr : isRowAt g l r) : isPgM g (pRow P l r) := by
  refine ⟨by rw [hg 0 (by omega)]; exact h.1, by rw [hg 1 (by omega)]; exact h.2.1, fun k hk => by rw [hg _ (by omega)]; exact h.t hk, fun k hk => by rw [hg _ (by omega)]; exact h.s hk, fun l' hl' k hk => ?_⟩
  show g _ = nI (bN ((updN (Pr P) l r l').testBit k))
  by_cases e : l' = l
  · subst e; rw [updN_s]; exact hr k hk
  · rw [updN_n e, hg _ (by omega)]; exact h.d hl' hk
theorem wf_row {P : Pg} (h : wfP P) {l r : Nat} (hr : r < 2 ^ Pw P) : wfP (pRow P l r) := by
  refine ⟨h.1, h.2.1, h.2.2.1, fun l' hl' => ?_, h.2.2.2.2⟩
  show updN (Pr P) l r l' < 2 ^ Pw P
  by_cases e : l' = l
  · subst e; rw [updN_s]; exact hr
  · rw [updN_n e]; exact h.2.2.2.1 l' hl'
theorem mClears (hM : MO M) {l : Nat} (hl : l < 20) : Rn (fX8_clearsLine 38 (nI l)) M (fun _ M' => XF xPg M M' ∧ gRow (Mi M 39) (Mi M' 39) l ∧ isRowAt (Mi M' 39) l 0) := by
  unfold fX8_clearsLine
  refine rn_loopv (F := fun n i => fX8_clearsLine_L2 n 38 (nI l) (nI i)) (fun i M' => XF xPg M M' ∧ i ≤ 40 ∧ gRow (Mi M 39) (Mi M' 39) l ∧ ∀ k, k < i → Mi M' 39 (28 + 40 * l + k) = nI 0) (fun i => 40 - i) ?_ fu 0 M (by unfold fu; omega) ⟨XF.rf, by omega, gRow.rf, fun k hk => by omega⟩
  rintro n i M1 ⟨x1, hi, hg, hk⟩ ih
  show Rn (fX8_clearsLine_L2 (n + 1) 38 (nI l) (nI i)) M1 _
  have m1 := hM.xf x1
  unfold fX8_clearsLine_L2
  refine Rn_cs (nle (a := 40) (by omega) (by omega)) (fun h => ?_) (fun h => ?_)
  · rw [Rn_rtn]; exact ⟨x1, hg, fun k hk2 => by rw [hk k (by omega), Nat.zero_testBit]; rfl⟩
  · rw [Rn_bnd, mA1 m1, Rn_bnd, mDotAt, Rn_bnd, rn_aI (by omega), mL39 m1, nL1, nI_add]
    refine ⟨by omega, ih (i + 1) _ ⟨x1.sI rfl, by omega, hg.si (by omega), fun k hk2 => ?_⟩ (by omega)⟩
    rw [Mi_sI]
    by_cases e : k = i
    · rw [if_pos ⟨rfl, by omega⟩]; rfl
    · rw [if_neg (by omega)]; exact hk k (by omega)
/-- dots painted over -/
def pntG (r f t : Nat) (c : Bool) : Nat := if c = true then r ||| (2 ^ t - 2 ^ f) else r ^^^ (r &&& (2 ^ t - 2 ^ f))
theorem pntG_bit {r f t k : Nat} {c : Bool} (h : f ≤ t) : (pntG r f t c).testBit k = if f ≤ k ∧ k < t then c else r.testBit k := by
  unfold pntG
  cases c with
  | true =>
    rw [if_pos rfl, Nat.testBit_or, span_bit h]
    by_cases q : f ≤ k ∧ k < t
    · rw [if_pos q]; simp [q]
    · rw [if_neg q]; simp only [decide_eq_false q, Bool.or_false]
  | false =>
    rw [if_neg (by decide), Nat.testBit_xor, Nat.testBit_and, span_bit h]
    by_cases q : f ≤ k ∧ k < t
    · rw [if_pos q]; simp [q]
    · rw [if_neg q]; simp only [decide_eq_false q, Bool.and_false, Bool.xor_false]
theorem pntG_lt {r f t w : Nat} {c : Bool} (h : f ≤ t) (ht : t ≤ w) (hr : r < 2 ^ w) : pntG r f t c < 2 ^ w := by
  apply Nat.lt_pow_two_of_testBit
  intro k hk
  rw [pntG_bit h, if_neg (by omega), Nat.testBit_lt_two_pow (Nat.lt_of_lt_of_le hr (pw_le hk))]
theorem mPaintsL (hM : MO M) {l r f t : Nat} (c : Bool) (hl : l < 20) (hr : isRowAt (Mi M 39) l r) (hf : f ≤ t) (ht : t ≤ 40) : Rn (fX8_paintsLine 38 (nI l) (nI f) (nI t) (nI (bN c))) M (fun a M' => a = nI (dif t r (pntG r f t c)) ∧ XF xPg M M' ∧ gRow (Mi M 39) (Mi M' 39) l ∧ isRowAt (Mi M' 39) l (pntG r f t c)) := by
  have hz : dif f r (pntG r f t c) = 0 := by
    unfold dif; rw [cn_0]; intro k hk; rw [pntG_bit hf, if_neg (by omega)]; simp
  unfold fX8_paintsLine
  refine rn_loopv (F := fun n i => fX8_paintsLine_L6 n 38 (nI l) (nI t) (nI (bN c)) (nI (dif i r (pntG r f t c))) (nI i)) (fun i M' => XF xPg M M' ∧ f ≤ i ∧ i ≤ t ∧ gRow (Mi M 39) (Mi M' 39) l ∧ ∀ k, k < 40 → Mi M' 39 (28 + 40 * l + k) = nI (bN (if f ≤ k ∧ k < i then c else r.testBit k))) (fun i => t - i) ?_ fu f M (by unfold fu; omega) ⟨XF.rf, Nat.le_refl _, hf, gRow.rf, fun k hk => by rw [if_neg (by omega)]; exact hr k hk⟩ |> fun z => by rw [hz] at z; exact z
  rintro n i M1 ⟨x1, hfi, hi, hg, hk⟩ ih
  show Rn (fX8_paintsLine_L6 (n + 1) 38 (nI l) (nI t) (nI (bN c)) (nI (dif i r (pntG r f t c))) (nI i)) M1 _
  have m1 := hM.xf x1
  unfold fX8_paintsLine_L6
  refine Rn_cs (nle (by omega) (by omega)) (fun h => ?_) (fun h => ?_)
  · rw [Rn_rtn, show i = t by omega]
    refine ⟨rfl, x1, hg, fun k hk2 => ?_⟩
    rw [hk k hk2, pntG_bit hf, show i = t by omega]
  · have hv : Mi M1 39 (28 + 40 * l + i) = nI (bN (r.testBit i)) := by rw [hk i (by omega), if_neg (by omega)]
    rw [Rn_bnd, mA1 m1, Rn_bnd, mDotAt, Rn_bnd, rn_lI (by omega), mL39 m1, hv]
    have nx := ih (i + 1) (sI M1 39 (28 + 40 * l + i) (nI (bN c))) ⟨x1.sI rfl, by omega, by omega, hg.si (by omega), fun k hk2 => by
      rw [Mi_sI]
      by_cases e : k = i
      · rw [if_pos ⟨rfl, by omega⟩, if_pos (by omega)]
      · rw [if_neg (by omega), hk k hk2]
        by_cases q : f ≤ k ∧ k < i
        · rw [if_pos q, if_pos (by omega)]
        · rw [if_neg q, if_neg (by omega)]⟩ (by omega)
    have ed : dif (i + 1) r (pntG r f t c) = dif i r (pntG r f t c) + bN (r.testBit i != c) := by
      show cn _ (i + 1) = _
      rw [cn_s, pntG_bit hf, if_pos (by omega)]; rfl
    rw [ed] at nx
    unfold fX8_paintsLine_L35
    refine ⟨by omega, Rn_cs (bx_eq _ _) (fun h5 => ?_) (fun h5 => ?_)⟩
    · rw [h5] at nx
      rw [Rn_bnd, Rn_rtn, nL0, nI_add, Rn_bnd, mA1 m1, Rn_bnd, mDotAt, Rn_bnd, rn_aI (by omega), mL39 m1, nL1, nI_add]
      exact ⟨by omega, nx⟩
    · rw [show (r.testBit i != c) = true by simpa using h5] at nx
      rw [Rn_bnd, Rn_rtn, nL1, nI_add, Rn_bnd, mA1 m1, Rn_bnd, mDotAt, Rn_bnd, rn_aI (by omega), mL39 m1, nI_add]
      exact ⟨by omega, nx⟩
theorem mMoves (hM : MO M) {a b : Nat} (ha : a < 20) (hb : b < 20) : Rn (fX8_movesLine 38 (nI a) (nI b)) M (fun _ M' => XF xPg M M' ∧ gRow (Mi M 39) (Mi M' 39) b ∧ ∀ k, k < 40 → Mi M' 39 (28 + 40 * b + k) = Mi M 39 (28 + 40 * a + k)) := by
  unfold fX8_movesLine
  refine rn_loopv (F := fun n i => fX8_movesLine_L2 n 38 (nI a) (nI b) (nI i)) (fun i M' => XF xPg M M' ∧ i ≤ 40 ∧ gRow (Mi M 39) (Mi M' 39) b ∧ (∀ k, k < i → Mi M' 39 (28 + 40 * b + k) = Mi M 39 (28 + 40 * a + k)) ∧ ∀ k, i ≤ k → k < 40 → Mi M' 39 (28 + 40 * b + k) = Mi M 39 (28 + 40 * b + k)) (fun i => 40 - i) ?_ fu 0 M (by unfold fu; omega) ⟨XF.rf, by omega, gRow.rf, fun k hk => by omega, fun _ _ _ => rfl⟩
  rintro n i M1 ⟨x1, hi, hg, hk, hj⟩ ih
  show Rn (fX8_movesLine_L2 (n + 1) 38 (nI a) (nI b) (nI i)) M1 _
  have m1 := hM.xf x1
  unfold fX8_movesLine_L2
  refine Rn_cs (nle (a := 40) (by omega) (by omega)) (fun h => ?_) (fun h => ?_)
  · rw [Rn_rtn]; exact ⟨x1, hg, fun k hk2 => hk k (by omega)⟩
  · have hv : Mi M1 39 (28 + 40 * a + i) = Mi M 39 (28 + 40 * a + i) := by
      by_cases e : a = b
      · subst e; exact hj i (Nat.le_refl _) (by omega)
      · exact hg _ (by omega)
    rw [Rn_bnd, mA1 m1, Rn_bnd, mDotAt, Rn_bnd, mA1 m1, Rn_bnd, mDotAt, Rn_bnd, rn_lI (by omega), mL39 m1, hv, Rn_bnd, rn_aI (by omega), mL39 m1, nL1, nI_add]
    refine ⟨by omega, by omega, ih (i + 1) _ ⟨x1.sI rfl, by omega, hg.si (by omega), fun k hk2 => ?_, fun k hk2 hk3 => ?_⟩ (by omega)⟩
    · rw [Mi_sI]
      by_cases e : k = i
      · rw [if_pos ⟨rfl, by omega⟩, e]
      · rw [if_neg (by omega)]; exact hk k (by omega)
    · rw [Mi_sI, if_neg (by omega)]; exact hj k (by omega) hk3
end MKeep
