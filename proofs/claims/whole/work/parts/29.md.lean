theorem ne_m1 {n : Nat} (h : n < 2147483648) : ¬ nI n = -1 := by
  intro e
  have := congrArg Int32.toInt e
  rw [nI_tI h, show (-1 : Int32).toInt = -1 from by decide] at this
  omega
theorem fill_s {M : Mm} {a i : Nat} {v : Int32} {g : Nat → Int32} (h : ∀ k, k < i → Mi M a k = g k) (hv : v = g i) : ∀ k, k < i + 1 → Mi (sI M a i v) a k = g k := by
  intro k hk
  rw [Mi_sI]
  by_cases e : k = i
  · rw [if_pos ⟨rfl, e⟩, e]; exact hv
  · rw [if_neg (fun z => e z.2)]; exact h k (by omega)
def xU (h _ : Nat) : Bool := h == 44
theorem xU_L (a b : Nat) (h : xL a b = false) : xU a b = false := by unfold xL at h; unfold xU; cases e : a == 44 <;> simp [e] at h ⊢
theorem mUpper0 {M : Mm} (hM : MO M) (a : Nat) : Rn (fX8_laysUpper 38 a (-1)) M (fun _ M' => XF xU M M' ∧ Mi M' 38 = Mi M 38 ∧ isRow (Mi M' 44) 0) := by
  unfold fX8_laysUpper
  refine rn_loopv (F := fun n i => fX8_laysUpper_L2 n 38 a (-1) (nI i)) (fun i M' => (XF xU M M' ∧ Mi M' 38 = Mi M 38) ∧ i ≤ 40 ∧ ∀ k, k < i → Mi M' 44 k = nI (bN ((0 : Nat).testBit k))) (fun i => 40 - i) ?_ fu 0 M (by unfold fu; omega) ⟨⟨XF.rf, rfl⟩, by omega, fun k hk => by omega⟩
  rintro n i M1 ⟨⟨hx, h38⟩, hi, hr⟩ ih
  show Rn (fX8_laysUpper_L2 (n + 1) 38 a (-1) (nI i)) M1 _
  unfold fX8_laysUpper_L2
  refine Rn_cs (nle (a := 40) (by omega) (by omega)) (fun h => ?_) (fun h => ?_)
  · rw [Rn_rtn]; exact ⟨hx, h38, fun k hk => hr k (by omega)⟩
  · rw [Rn_bnd, mA7 (hM.xf hx), if_pos rfl]
    unfold fX8_laysUpper_L27
    rw [Rn_bnd, rn_aI (by omega), mL44 (hM.xf hx), nL1, nI_add]
    refine ⟨by omega, ih (i + 1) _ ⟨⟨hx.sI rfl, ?_⟩, by omega, fill_s hr ?_⟩ (by omega)⟩
    · funext k; rw [Mi_sI, if_neg (by omega)]; rw [h38]
    · rw [Nat.zero_testBit]; rfl
theorem mUpperF {M : Mm} (hM : MO M) {a o r : Nat} (ha : a ≠ 44) (ha2 : a ≠ 45 ∧ a ≠ 38) (hl : o + 40 ≤ Ml M a) (ho : o < 100000) (hs : ∀ k, k < 40 → Mi M a (o + k) = nI (bN (r.testBit k))) : Rn (fX8_laysUpper 38 a (nI o)) M (fun _ M' => XF xU M M' ∧ Mi M' 38 = Mi M 38 ∧ isRow (Mi M' 44) r) := by
  unfold fX8_laysUpper
  refine rn_loopv (F := fun n i => fX8_laysUpper_L2 n 38 a (nI o) (nI i)) (fun i M' => (XF xU M M' ∧ Mi M' 38 = Mi M 38) ∧ i ≤ 40 ∧ ∀ k, k < i → Mi M' 44 k = nI (bN (r.testBit k))) (fun i => 40 - i) ?_ fu 0 M (by unfold fu; omega) ⟨⟨XF.rf, rfl⟩, by omega, fun k hk => by omega⟩
  rintro n i M1 ⟨⟨hx, h38⟩, hi, hr⟩ ih
  show Rn (fX8_laysUpper_L2 (n + 1) 38 a (nI o) (nI i)) M1 _
  unfold fX8_laysUpper_L2
  refine Rn_cs (nle (a := 40) (by omega) (by omega)) (fun h => ?_) (fun h => ?_)
  · rw [Rn_rtn]; exact ⟨hx, h38, fun k hk => hr k (by omega)⟩
  · rw [Rn_bnd, mA7 (hM.xf hx), if_neg (ne_m1 (by omega)), Rn_bnd, nI_add, rn_lI (by omega), hx.ml, hx.mi (by unfold xU; simp [ha]), hs i (by omega)]
    unfold fX8_laysUpper_L27
    rw [Rn_bnd, rn_aI (by omega), mL44 (hM.xf hx), nL1, nI_add]
    refine ⟨by omega, by omega, ih (i + 1) _ ⟨⟨hx.sI rfl, ?_⟩, by omega, fill_s hr rfl⟩ (by omega)⟩
    funext k; rw [Mi_sI, if_neg (by omega)]; rw [h38]
theorem mLower {M : Mm} (hM : MO M) {a o r : Nat} (ha : a ≠ 44) (ha2 : a ≠ 45 ∧ a ≠ 38) (hl : o + 40 ≤ Ml M a) (ho : o < 100000) (hs : ∀ k, k < 40 → Mi M a (o + k) = nI (bN (r.testBit k))) : Rn (fX8_laysLower 38 a (nI o)) M (fun _ M' => XF xL M M' ∧ Mi M' 38 = Mi M 38 ∧ Mi M' 44 = Mi M 44 ∧ isRow (Mi M' 45) r) := by
  unfold fX8_laysLower
  refine rn_loopv (F := fun n i => fX8_laysLower_L2 n 38 a (nI o) (nI i)) (fun i M' => (XF xL M M' ∧ Mi M' 38 = Mi M 38 ∧ Mi M' 44 = Mi M 44) ∧ i ≤ 40 ∧ ∀ k, k < i → Mi M' 45 k = nI (bN (r.testBit k))) (fun i => 40 - i) ?_ fu 0 M (by unfold fu; omega) ⟨⟨XF.rf, rfl, rfl⟩, by omega, fun k hk => by omega⟩
  rintro n i M1 ⟨⟨hx, h38, h44⟩, hi, hr⟩ ih
  show Rn (fX8_laysLower_L2 (n + 1) 38 a (nI o) (nI i)) M1 _
  unfold fX8_laysLower_L2
  refine Rn_cs (nle (a := 40) (by omega) (by omega)) (fun h => ?_) (fun h => ?_)
  · rw [Rn_rtn]; exact ⟨hx, h38, h44, fun k hk => hr k (by omega)⟩
  · rw [Rn_bnd, mA8 (hM.xf hx), Rn_bnd, nI_add, rn_lI (by omega), hx.ml, hx.mi (by unfold xL; simp [ha, ha2]), hs i (by omega)]
    rw [Rn_bnd, rn_aI (by omega), mL45 (hM.xf hx), nL1, nI_add]
    refine ⟨by omega, by omega, ih (i + 1) _ ⟨⟨hx.sI rfl, ?_, ?_⟩, by omega, fill_s hr rfl⟩ (by omega)⟩
    · funext k; rw [Mi_sI, if_neg (by omega)]; rw [h38]
    · funext k; rw [Mi_sI, if_neg (by omega)]; rw [h44]
/-! the lines of a page are laid -/
theorem isPgM.w {f : Nat → Int32} {P : Pg} (h : isPgM f P) : f 0 = nI (Pw P) := h.1
theorem isPgM.l {f : Nat → Int32} {P : Pg} (h : isPgM f P) : f 1 = nI (PL P) := h.2.1
theorem isPgM.t {f : Nat → Int32} {P : Pg} (h : isPgM f P) {k : Nat} (hk : k < 6) : f (2 + k) = nI (Pt P k) := h.2.2.1 k hk
theorem isPgM.s {f : Nat → Int32} {P : Pg} (h : isPgM f P) {k : Nat} (hk : k < 20) : f (8 + k) = nI (Ps P k) := h.2.2.2.1 k hk
theorem isPgM.d {f : Nat → Int32} {P : Pg} (h : isPgM f P) {l : Nat} (hl : l < PL P) {k : Nat} (hk : k < 40) : f (28 + 40 * l + k) = nI (bN ((Pr P l).testBit k)) := h.2.2.2.2 l hl k hk
theorem mLine {M : Mm} {P : Pg} {l : Nat} (hM : MO M) (hP : isPgM (Mi M 39) P) (hw : wfP P) (hl : l < PL P) : Rn (fX8_laysLine 38 (nI l)) M (fun _ M' => XF xL M M' ∧ Mi M' 38 9 = nI (Pw P) ∧ isRow (Mi M' 44) (Pu P l) ∧ isRow (Mi M' 45) (Pr P l)) := by
  have hl20 := hw.2.2.1
  unfold fX8_laysLine
  rw [Rn_bnd, mA1 hM, Rn_bnd, nL0, rn_lI (by omega), mL39 hM, hP.w]
  refine ⟨by omega, ?_⟩
  rw [Rn_bnd, Rn_pI, Rn_bnd, mA1 hM.sI]
  have x1 : XF xL M (sI M 38 9 (nI (Pw P))) := XF.rf.sI rfl
  generalize hM1 : sI M 38 9 (nI (Pw P)) = M1 at x1
  have hm1 := hM.xf x1
  have w1 : Mi M1 38 9 = nI (Pw P) := by rw [← hM1, Mi_sI, if_pos ⟨rfl, rfl⟩]
  have p1 : isPgM (Mi M1 39) P := by rw [x1.row (fun _ => rfl)]; exact hP
  have rest : ∀ s0, Rn (fX8_laysUpper 38 39 s0) M1 (fun _ M' => XF xU M1 M' ∧ Mi M' 38 = Mi M1 38 ∧ isRow (Mi M' 44) (Pu P l)) → Rn (fX8_laysLine_L30 38 (nI l) s0 39 38) M1 (fun _ M' => XF xL M M' ∧ Mi M' 38 9 = nI (Pw P) ∧ isRow (Mi M' 44) (Pu P l) ∧ isRow (Mi M' 45) (Pr P l)) := by
    intro s0 h
    unfold fX8_laysLine_L30
    rw [Rn_bnd]
    refine h.mono ?_
    rintro - M2 ⟨x2', h38, hu⟩
    have x2 := x2'.mono xU_L
    have hm2 := hm1.xf x2
    have p2 : isPgM (Mi M2 39) P := by rw [x2.row (fun _ => rfl)]; exact p1
    rw [Rn_bnd, mA1 hm2, Rn_bnd, nL0, mDotAt, Rn_bnd]
    refine (mLower hm2 (a := 39) (o := 28 + 40 * l + 0) (r := Pr P l) (by decide) (by decide) (by rw [mL39 hm2]; omega) (by omega) (fun k hk => p2.d hl hk)).mono ?_
    rintro - M3 ⟨x3, h38', h44, hr⟩
    rw [Rn_rtn]
    exact ⟨(x1.tr x2).tr x3, by rw [h38', h38]; exact w1, by rw [h44]; exact hu, hr⟩
  by_cases h0 : l = 0
  · subst h0
    rw [if_pos rfl]
    exact rest _ (by rw [show Pu P 0 = 0 from rfl]; exact mUpper0 hm1 39)
  · rw [if_neg (by rw [neq (by omega) (by omega)]; exact h0), Rn_bnd, nL1, nsb (by omega), mDotAt]
    have : Pu P l = Pr P (l - 1) := by unfold Pu; rw [if_neg h0]
    refine rest _ ?_
    rw [this]
    exact mUpperF hm1 (by decide) (by decide) (by rw [mL39 hm1]; omega) (by omega) (fun k hk => p1.d (by omega) hk)
/-! the code alone -/
def isRn (f : Nat → Int32) (L : List Nat) : Prop := ∀ i n, L[i]? = some n → f i = nI n
theorem isRn_add {f g : Nat → Int32} {L : List Nat} {m : Nat} (h : isRn f L) (a : ∀ i, i < L.length → g i = f i) (b : g L.length = nI m) : isRn g (L ++ [m]) := by
  intro i n hi
  rcases Nat.lt_or_ge i L.length with q | q
  · rw [List.getElem?_append_left q] at hi
    rw [a i q]
    exact h i n hi
  · rw [List.getElem?_append_right q] at hi
    rcases Nat.eq_or_lt_of_le q with z | z
    · subst z
      simp at hi
      subst hi
      exact b
    · rw [List.getElem?_eq_none (by simp; omega)] at hi; cases hi
theorem rT_le (w r f : Nat) (c : Bool) : rT w r f c ≤ w := fb_le _ _ _
theorem rT_ge {w r f : Nat} {c : Bool} (h : f ≤ w) : f ≤ rT w r f c := fb_ge _ h
theorem rT_bit {w r f : Nat} {c : Bool} (h : rT w r f c < w) : r.testBit (rT w r f c) = !c := by
  have h2 : (r.testBit (rT w r f c) == !c) = true := fb_yes (p := fun k => r.testBit k == !c) h
  simpa using h2
theorem rT_gt {w r f : Nat} {c : Bool} (h : f < w) (hb : r.testBit f = c) : f < rT w r f c := by
  have h1 := rT_ge (r := r) (c := c) (Nat.le_of_lt h)
  rcases Nat.eq_or_lt_of_le h1 with z | z
  · have := rT_bit (w := w) (r := r) (f := f) (c := c) (by omega)
    rw [← z, hb] at this
    cases c <;> cases this
  · exact z
theorem mTo {M : Mm} {w r : Nat} (hM : MO M) (hw : Mi M 38 9 = nI w) (h40 : w ≤ 40) (hr : isRow (Mi M 45) r) (k9 : Nat → Int32 → Int32 → Mm → Option (Unit × Mm)) (f : Nat) (c : Bool) (hf : f ≤ w) {Q : Unit → Mm → Prop} (h : Rn (fX8_codesAlone_L50 k9 38 (nI (bN c)) (nI f) (nI (rT w r f c))) M Q) : Rn (fX8_codesAlone_L24 k9 38 (nI (bN c)) (nI f)) M Q := by
  unfold fX8_codesAlone_L24
  refine rn_loopv (F := fun n i => fX8_codesAlone_L26 k9 n 38 (nI (bN c)) (nI f) (nI i)) (fun i M' => M' = M ∧ i ≤ w ∧ rT w r i c = rT w r f c) (fun i => w - i) ?_ fu f M (by unfold fu; omega) ⟨rfl, hf, rfl⟩
  rintro n i M1 ⟨rfl, hi, ht⟩ ih
  show Rn (fX8_codesAlone_L26 k9 (n + 1) 38 (nI (bN c)) (nI f) (nI i)) M1 _
  unfold fX8_codesAlone_L26
  rw [Rn_bnd, Rn_gI, hw]
  refine Rn_cs (nle (by omega) (by omega)) (fun h1 => ?_) (fun h1 => ?_)
  · have : rT w r i c = i := by unfold rT; rw [fb_ge_w h1]; omega
    rw [← ht, this] at h
    exact h
  · rw [Rn_bnd, mA8 hM, Rn_bnd, rn_lI (by omega), mL45 hM, hr i (by omega)]
    refine ⟨by omega, Rn_cs (bN_eq _ _) (fun h2 => ?_) (fun h2 => ?_)⟩
    · rw [nL1, nI_add]
      exact ih (i + 1) M1 ⟨rfl, by omega, by rw [← ht]; exact (fb_next (by omega) (by rw [h2]; cases c <;> rfl)).symm⟩ (by omega)
    · have : rT w r i c = i := fb_at (by omega) (by revert h2; cases r.testBit i <;> cases c <;> simp)
      rw [← ht, this] at h
      exact h
theorem rL_s (w r n f : Nat) (c : Bool) : rL w r (n + 1) f c = (rT w r f c - f) :: (if rT w r f c < w then rL w r n (rT w r f c) (!c) else []) := rfl
theorem mAlone {M : Mm} {w r : Nat} (hM : MO M) (hw : Mi M 38 9 = nI w) (h0 : 0 < w) (h40 : w ≤ 40) (hr : isRow (Mi M 45) r) : Rn (fX8_codesAlone 38) M (fun _ M' => XF xR M M' ∧ Mi M' 38 19 = nI (runs w r).length ∧ isRn (Mi M' 51) (runs w r)) := by
  unfold fX8_codesAlone
  rw [Rn_bnd, Rn_pI, show (0 : Int32) = nI (bN false) from rfl]
  refine rn_loopv (F := fun n (s : Bool × Nat) => fX8_codesAlone_L9 n 38 (nI (bN s.1)) (nI s.2)) (fun s M' => ∃ L n, XF xR M M' ∧ Mi M' 38 19 = nI L.length ∧ isRn (Mi M' 51) L ∧ L.length + n = w + 1 ∧ s.2 ≤ w ∧ runs w r = L ++ (if s.2 < w then rL w r n s.2 s.1 else []) ∧ ((L = [] ∧ s.2 = 0 ∧ s.1 = false) ∨ (0 < L.length ∧ (s.2 < w → r.testBit s.2 = s.1 ∧ w - s.2 ≤ n)))) (fun s => if s.2 < w then (if r.testBit s.2 = s.1 then 2 * (w - s.2) else 2 * (w - s.2) + 1) else 0) ?_ fu (false, 0) _ ?_ ⟨[], w + 1, XF.rf.sI rfl, by rw [Mi_sI, if_pos ⟨rfl, rfl⟩]; rfl, fun i n h => by simp at h, by simp, Nat.zero_le _, by rw [if_pos h0]; rfl, Or.inl ⟨rfl, rfl, rfl⟩⟩
  · rintro n ⟨c, f⟩ M1 ⟨L, k, hx, hn, hR, hk, hf, hL, hc⟩ ih
    have hf : f ≤ w := hf
    show Rn (fX8_codesAlone_L9 (n + 1) 38 (nI (bN c)) (nI f)) M1 _
    have hM1 := hM.xf hx
    have hw1 : Mi M1 38 9 = nI w := by rw [hx.mi rfl]; exact hw
    have hr1 : isRow (Mi M1 45) r := by rw [hx.row (fun _ => rfl)]; exact hr
    unfold fX8_codesAlone_L9
    rw [Rn_bnd, Rn_gI, hw1]
    refine Rn_cs (nlt (by omega) (by omega)) (fun h => ?_) (fun h => ?_)
    · refine mTo hM1 hw1 h40 hr1 _ f c hf ?_
      unfold fX8_codesAlone_L50
      have t1 := rT_le w r f c
      have t2 := rT_ge (r := r) (c := c) hf
      have hkp : 1 ≤ k := by
        rcases hc with hc | hc
        · rw [hc.1] at hk; simp at hk; omega
        · have := (hc.2 h).2; have h : f < w := h; simp at this; omega
      rw [Rn_bnd, mA18 hM1, Rn_bnd, Rn_gI, hn, Rn_bnd, nsb t2, rn_aI (by omega), mL51 hM1]
      refine ⟨by omega, ?_⟩
      rw [Rn_bnd, Rn_gI, Mi_sI, if_neg (by omega), hn, Rn_bnd, Rn_pI, nL1, nI_add, Rn_bnd, Rn_rtn, bN_1]
      obtain ⟨k, rfl⟩ : ∃ j, k = j + 1 := ⟨k - 1, by omega⟩
      rw [if_pos h, rL_s] at hL
      refine ih (!c, rT w r f c) _ ⟨L ++ [rT w r f c - f], k, (hx.sI rfl).sI rfl, ?_, ?_, ?_, t1, ?_, ?_⟩ ?_
      · rw [Mi_sI, if_pos ⟨rfl, rfl⟩, List.length_append]; rfl
      · refine isRn_add hR (fun i hi => ?_) ?_
        · rw [Mi_sI, if_neg (by omega), Mi_sI, if_neg (by omega)]
        · rw [Mi_sI, if_neg (by omega), Mi_sI, if_pos ⟨rfl, rfl⟩]
      · rw [List.length_append]; simp; omega
      · rw [List.append_assoc]; exact hL
      · refine Or.inr ⟨by rw [List.length_append]; simp, fun h2 => ⟨rT_bit h2, ?_⟩⟩
        show w - rT w r f c ≤ k
        rcases hc with hc | hc
        · rw [hc.1] at hk; simp at hk; omega
        · have q := hc.2 h
          have z : f < rT w r f c := rT_gt h q.1
          have q2 : w - f ≤ k + 1 := q.2
          omega
      · show (if rT w r f c < w then (if r.testBit (rT w r f c) = !c then 2 * (w - rT w r f c) else 2 * (w - rT w r f c) + 1) else 0) < (if f < w then (if r.testBit f = c then 2 * (w - f) else 2 * (w - f) + 1) else 0)
        rw [if_pos (show f < w from h)]
        have h : f < w := h
        by_cases h2 : rT w r f c < w
        · rw [if_pos h2, if_pos (rT_bit h2)]
          by_cases h3 : r.testBit f = c
          · have := rT_gt h h3
            rw [if_pos h3]; omega
          · rw [if_neg h3]; omega
        · rw [if_neg h2]; split <;> omega
    · rw [if_neg h, List.append_nil] at hL
      have hpos : 0 < L.length := by
        rcases hc with hc | hc
        · have := hc.2.1; simp at this; omega
        · exact hc.1
      rw [Rn_bnd, Rn_gI, hn, if_neg (by rw [nL0, neq (by omega) (by omega)]; omega), Rn_rtn, hL]
      exact ⟨hx, hn, hR⟩
  · show (if 0 < w then (if r.testBit 0 = false then 2 * (w - 0) else 2 * (w - 0) + 1) else 0) < fu
    unfold fu; repeat' split
    all_goals omega
theorem mNB {x : Int32} {M : Mm} {Q : Int32 → Mm → Prop} : Rn (fX8_numberBits x) M Q ↔ Q (nI (nbI x)) M := by
  unfold fX8_numberBits nbI
  by_cases h : 8 ≤ x
  · rw [if_pos h, if_pos h, Rn_rtn]; rfl
  · rw [if_neg h, if_neg h, Rn_rtn]; rfl
theorem nS_take {L : List Nat} {i m : Nat} (h : L[i]? = some m) : nS (L.take (i + 1)) = nS (L.take i) + nb m := by
  rw [List.take_add_one, h]; exact nS_add _ _
theorem mS_take {L : List Md} {i : Nat} {m : Md} (h : L[i]? = some m) : mS (L.take (i + 1)) = mS (L.take i) + mB m := by
  rw [List.take_add_one, h]; exact mS_add _ _
theorem nS_take_le (L : List Nat) (i : Nat) : nS (L.take i) ≤ 8 * L.length := by
  have h1 := nS_le (L.take i)
  have h2 : (L.take i).length ≤ L.length := by rw [List.length_take]; omega
  omega
theorem mS_take_le (L : List Md) (i : Nat) : mS (L.take i) ≤ 19 * L.length := by
  have h1 := mS_le (L.take i)
  have h2 : (L.take i).length ≤ L.length := by rw [List.length_take]; omega
  omega
theorem mABits {M : Mm} {L : List Nat} (hM : MO M) (h44 : L.length ≤ 44) (hn : Mi M 38 19 = nI L.length) (hR : isRn (Mi M 51) L) {Q : Int32 → Mm → Prop} : Rn (fX8_aloneBits 38) M Q ↔ Q (nI (nS L)) M := by
  refine Rn_det ?_
  unfold fX8_aloneBits
  refine rn_loopv (F := fun n i => fX8_aloneBits_L4 n 38 (nI (nS (L.take i))) (nI i)) (fun i M' => M' = M ∧ i ≤ L.length) (fun i => L.length - i) ?_ fu 0 M (by unfold fu; omega) ⟨rfl, Nat.zero_le _⟩
  rintro n i M1 ⟨rfl, hi⟩ ih
  show Rn (fX8_aloneBits_L4 (n + 1) 38 (nI (nS (L.take i))) (nI i)) M1 _
  unfold fX8_aloneBits_L4
  rw [Rn_bnd, Rn_gI, hn]
  refine Rn_cs (nle (by omega) (by omega)) (fun h => ?_) (fun h => ?_)
  · rw [Rn_rtn, List.take_of_length_le h]; exact ⟨rfl, rfl⟩
  · obtain ⟨m, hm⟩ : ∃ m, L[i]? = some m := ⟨L[i]'(by omega), List.getElem?_eq_getElem (by omega)⟩
    rw [Rn_bnd, mA18 hM, Rn_bnd, rn_lI (by omega), mL51 hM, hR i m hm]
    refine ⟨by omega, ?_⟩
    rw [Rn_bnd, mNB, Rn_bnd, Rn_rtn, nI_add, show nS (L.take i) + nbI (nI m) = nS (L.take (i + 1)) from (nS_take hm).symm, nL1, nI_add]
    exact ih (i + 1) M1 ⟨rfl, by omega⟩ (by omega)
theorem mCBits {M : Mm} {L : List Md} (hM : MO M) (h48 : L.length ≤ 48) (hn : Mi M 38 14 = nI L.length) (hC : isCd (Mi M 46) (Mi M 47) (Mi M 48) (Mi M 49) L) {Q : Int32 → Mm → Prop} : Rn (fX8_codeBits 38) M Q ↔ Q (nI (mS L)) M := by
  refine Rn_det ?_
  unfold fX8_codeBits
  refine rn_loopv (F := fun n i => fX8_codeBits_L4 n 38 (nI (mS (L.take i))) (nI i)) (fun i M' => M' = M ∧ i ≤ L.length) (fun i => L.length - i) ?_ fu 0 M (by unfold fu; omega) ⟨rfl, Nat.zero_le _⟩
  rintro n i M1 ⟨rfl, hi⟩ ih
  show Rn (fX8_codeBits_L4 (n + 1) 38 (nI (mS (L.take i))) (nI i)) M1 _
  unfold fX8_codeBits_L4
  rw [Rn_bnd, Rn_gI, hn]
  refine Rn_cs (nle (by omega) (by omega)) (fun h => ?_) (fun h => ?_)
  · rw [Rn_rtn, List.take_of_length_le h]; exact ⟨rfl, rfl⟩
  · obtain ⟨m, hm⟩ : ∃ m, L[i]? = some m := ⟨L[i]'(by omega), List.getElem?_eq_getElem (by omega)⟩
    obtain ⟨c1, c2, c3, c4⟩ := hC i m hm
    have hi2 : i < 2147483648 := by omega
    have fin : ∀ b : Nat, mB m = b → Rn (fX8_codeBits_L115 (fX8_codeBits_L4 n) 38 (nI i) (nI b) (nI (mS (L.take i)))) M1 (fun a M' => a = nI (mS L) ∧ M' = M1) := by
      intro b hb
      unfold fX8_codeBits_L115
      rw [Rn_bnd, Rn_rtn, nI_add, ← hb, ← mS_take hm, nL1, nI_add]
      exact ih (i + 1) M1 ⟨rfl, by omega⟩ (by omega)
    have key : Rn (fX8_codeBits_L37 (fX8_codeBits_L4 n) 38 (nI (mS (L.take i))) (nI i) (if 0 ≤ m.2.1 then m.2.1 else -m.2.1)) M1 (fun a M' => a = nI (mS L) ∧ M' = M1) := by
      unfold fX8_codeBits_L37
      rw [Rn_bnd, mA10 hM, Rn_bnd, rn_lI hi2, mL46 hM, c1]
      refine ⟨by omega, Rn_cs (d := m.1 = nI 0) Iff.rfl (fun k0 => ?_) (fun k0 => ?_)⟩
      · exact fin 4 (by unfold mB; rw [if_pos k0])
      · rw [Rn_bnd, mA10 hM, Rn_bnd, rn_lI hi2, mL46 hM, c1]
        refine ⟨by omega, Rn_cs (d := m.1 = nI 2) Iff.rfl (fun k2 => ?_) (fun k2 => ?_)⟩
        · rw [Rn_bnd, mA11 hM, Rn_bnd, rn_lI hi2, mL47 hM, c2]
          refine ⟨by omega, ?_⟩
          rw [Rn_bnd, mNB, Rn_bnd, mA12 hM, Rn_bnd, rn_lI hi2, mL48 hM, c3]
          refine ⟨by omega, ?_⟩
          rw [Rn_bnd, mNB, nL3, nI_add, nI_add]
          exact fin _ (by unfold mB; rw [if_neg k0, if_pos k2])
        · refine Rn_cs (d := (if 0 ≤ m.2.1 then m.2.1 else -m.2.1) = nI 0) Iff.rfl (fun z0 => ?_) (fun z0 => ?_)
          · exact fin 1 (by unfold mB; rw [if_neg k0, if_neg k2, if_pos z0])
          · refine Rn_cs (d := (if 0 ≤ m.2.1 then m.2.1 else -m.2.1) = nI 1) Iff.rfl (fun z1 => ?_) (fun z1 => ?_)
            · exact fin 3 (by unfold mB; rw [if_neg k0, if_neg k2, if_neg z0, if_pos z1])
            · refine Rn_cs (d := (if 0 ≤ m.2.1 then m.2.1 else -m.2.1) = nI 2) Iff.rfl (fun z2 => ?_) (fun z2 => ?_)
              · exact fin 6 (by unfold mB; rw [if_neg k0, if_neg k2, if_neg z0, if_neg z1, if_pos z2])
              · exact fin 7 (by unfold mB; rw [if_neg k0, if_neg k2, if_neg z0, if_neg z1, if_neg z2])
    rw [Rn_bnd, mA11 hM, Rn_bnd, rn_lI hi2, mL47 hM, c2]
    refine ⟨by omega, Rn_cs Iff.rfl (fun s => ?_) (fun s => ?_)⟩
    · rw [Rn_bnd, mA11 hM, Rn_bnd, rn_lI hi2, mL47 hM, c2]
      rw [if_pos s] at key
      exact ⟨by omega, key⟩
    · rw [Rn_bnd, mA11 hM, Rn_bnd, rn_lI hi2, mL47 hM, c2]
      rw [if_neg s] at key
      exact ⟨by omega, key⟩
/-! a line's codes stand -/
def cdAt (M : Mm) (P : Pg) (l : Nat) : Prop := Mi M 38 9 = nI (Pw P) ∧ isRow (Mi M 44) (Pu P l) ∧ isRow (Mi M 45) (Pr P l) ∧ Mi M 38 14 = nI (cod (Pw P) (Pr P l) (Pu P l)).length ∧ isCd (Mi M 46) (Mi M 47) (Mi M 48) (Mi M 49) (cod (Pw P) (Pr P l) (Pu P l)) ∧ Mi M 38 19 = nI (runs (Pw P) (Pr P l)).length ∧ isRn (Mi M 51) (runs (Pw P) (Pr P l))
theorem mCLine {M : Mm} {P : Pg} {l : Nat} (hM : MO M) (hP : isPgM (Mi M 39) P) (hw : wfP P) (hl : l < PL P) : Rn (fX8_codesLine 38 (nI l)) M (fun _ M' => XF xCd M M' ∧ cdAt M' P l) := by
  unfold fX8_codesLine
  rw [Rn_bnd]
  refine (mLine hM hP hw hl).mono ?_
  rintro - M1 ⟨x1, w1, u1, r1⟩
  have m1 := hM.xf x1
  rw [Rn_bnd]
  refine (mCodes m1 w1 hw.2.1 r1 u1).mono ?_
  rintro - M2 ⟨x2, n2, c2⟩
  have m2 := m1.xf x2
  have w2 : Mi M2 38 9 = nI (Pw P) := by rw [x2.mi rfl]; exact w1
  have r2 : isRow (Mi M2 45) (Pr P l) := by rw [x2.row (fun _ => rfl)]; exact r1
  have u2 : isRow (Mi M2 44) (Pu P l) := by rw [x2.row (fun _ => rfl)]; exact u1
  rw [Rn_bnd]
  refine (mAlone m2 w2 (by have := hw.1; omega) hw.2.1 r2).mono ?_
  rintro - M3 ⟨x3, n3, c3⟩
  rw [Rn_rtn]
  refine ⟨((x1.mono xL_Cd).tr (x2.mono xK_Cd)).tr (x3.mono xR_Cd), ?_, ?_, ?_, ?_, ?_, n3, c3⟩
  · rw [x3.mi rfl]; exact w2
  · rw [x3.row (fun _ => rfl)]; exact u2
  · rw [x3.row (fun _ => rfl)]; exact r2
  · rw [x3.mi rfl]; exact n2
  · rw [x3.row (fun _ => rfl), x3.row (fun _ => rfl), x3.row (fun _ => rfl), x3.row (fun _ => rfl)]; exact c2
theorem mMark {M : Mm} {P : Pg} {l : Nat} (hM : MO M) (hP : isPgM (Mi M 39) P) (hw : wfP P) (hl : l < PL P) : Rn (fX8_isMark 38 (nI l)) M (fun a M' => a = nI (bN (isMk P l)) ∧ XF xCd M M') := by
  have hl20 := hw.2.2.1
  have he := hw.2.2.2.2.2.1
  have h40 := hw.2.1
  unfold fX8_isMark
  rw [Rn_bnd, mA1 hM, Rn_bnd, nL2, rn_lI (by omega), mL39 hM, show Mi M 39 2 = nI (Pt P 0) from hP.t (k := 0) (by decide)]
  refine ⟨by omega, ?_⟩
  rw [Rn_grd]
  refine ⟨?_, ?_⟩
  · have : ¬ nI (Pt P 0) = 0 := by rw [nL0, neq (by omega) (by omega)]; omega
    simpa using this
  · rw [pk_rem (by omega) (by omega) (by omega)]
    refine Rn_cs (d := l % Pt P 0 = 0) (by rw [nL0, neq (by have := Nat.mod_lt l (show Pt P 0 > 0 by omega); omega) (by omega)]) (fun h => ?_) (fun h => ?_)
    · rw [Rn_grd, Rn_rtn]
      refine ⟨by decide, ?_, XF.rf⟩
      unfold isMk; simp [h]; rfl
    · rw [Rn_bnd]
      refine (mCLine hM hP hw hl).mono ?_
      rintro - M1 ⟨x1, w1, u1, r1, n1, c1, k1, a1⟩
      have m1 := hM.xf x1
      have p1 : isPgM (Mi M1 39) P := by rw [x1.row (fun _ => rfl)]; exact hP
      have la := runs_len (Pw P) (Pr P l)
      have lc := cod_len (Pw P) (Pr P l) (Pu P l)
      rw [Rn_bnd, mA1 m1, Rn_bnd, nL3, rn_lI (by omega), mL39 m1, show Mi M1 39 3 = nI (Pt P 1) from p1.t (k := 1) (by decide)]
      have ht1 := hw.2.2.2.2.2.2.1
      refine ⟨by omega, Rn_cs (d := Pt P 1 = 1) (by rw [nL1, neq (by omega) (by omega)]) (fun h1 => ?_) (fun h1 => ?_)⟩
      · rw [Rn_bnd, mABits m1 (by omega) k1 a1, Rn_bnd, mCBits m1 (by omega) n1 c1]
        have b1 := aBt_le hw l
        have b2 := cBt_le hw l
        refine Rn_cs (d := cBt P l ≤ aBt P l) (nle (show cBt P l < 2147483648 by omega) (show aBt P l < 2147483648 by omega)) (fun h2 => ?_) (fun h2 => ?_)
        · rw [Rn_grd, Rn_rtn]
          refine ⟨by decide, ?_, x1⟩
          have : ¬ aBt P l < cBt P l := by omega
          unfold isMk; simp [h, this]; rfl
        · rw [Rn_grd, Rn_rtn]
          refine ⟨by decide, ?_, x1⟩
          have : aBt P l < cBt P l := by omega
          unfold isMk; simp [h, h1, this]; rfl
      · rw [Rn_grd, Rn_rtn]
        refine ⟨by decide, ?_, x1⟩
        unfold isMk; simp [h, h1]; rfl
theorem mSent {M : Mm} {P : Pg} {l : Nat} (hM : MO M) (hP : isPgM (Mi M 39) P) (hw : wfP P) (hl : l < PL P) : Rn (fX8_sentBits 38 (nI l)) M (fun a M' => a = nI (sBt P l) ∧ XF xCd M M') := by
  have h40 := hw.2.1
  unfold fX8_sentBits
  rw [Rn_bnd]
  refine (mMark hM hP hw hl).mono ?_
  rintro a M1 ⟨rfl, x1⟩
  have m1 := hM.xf x1
  have p1 : isPgM (Mi M1 39) P := by rw [x1.row (fun _ => rfl)]; exact hP
  rw [Rn_bnd]
  refine (mCLine m1 p1 hw hl).mono ?_
  rintro - M2 ⟨x2, w2, u2, r2, n2, c2, k2, a2⟩
  have m2 := m1.xf x2
  have la := runs_len (Pw P) (Pr P l)
  have lc := cod_len (Pw P) (Pr P l) (Pu P l)
  refine Rn_cs (bN_0 _) (fun h => ?_) (fun h => ?_)
  · rw [Rn_bnd, mCBits m2 (by omega) n2 c2, Rn_rtn]
    unfold sBt; rw [if_neg (by rw [h]; decide)]
    exact ⟨rfl, x1.tr x2⟩
  · rw [Rn_bnd, mABits m2 (by omega) k2 a2, Rn_rtn]
    unfold sBt; rw [if_pos (by simpa using h)]
    exact ⟨rfl, x1.tr x2⟩
theorem isMk_0 (P : Pg) : isMk P 0 = true := by unfold isMk; simp
theorem mMkUp {M : Mm} {P : Pg} {l : Nat} (hM : MO M) (hP : isPgM (Mi M 39) P) (hw : wfP P) (hl : l < PL P) : Rn (fX8_markUpTo 38 (nI l)) M (fun a M' => a = nI (mkU P l) ∧ XF xCd M M') := by
  have hl20 := hw.2.2.1
  unfold fX8_markUpTo
  refine rn_loopv (F := fun n i => fX8_markUpTo_L2 n 38 (nI i)) (fun i M' => XF xCd M M' ∧ i ≤ l ∧ mkU P i = mkU P l) (fun i => i) ?_ fu l M (by unfold fu; omega) ⟨XF.rf, Nat.le_refl _, rfl⟩
  rintro n i M1 ⟨x1, hi, hk⟩ ih
  show Rn (fX8_markUpTo_L2 (n + 1) 38 (nI i)) M1 _
  have p1 : isPgM (Mi M1 39) P := by rw [x1.row (fun _ => rfl)]; exact hP
  unfold fX8_markUpTo_L2
  rw [Rn_bnd]
  refine (mMark (hM.xf x1) p1 hw (by omega)).mono ?_
  rintro a M2 ⟨rfl, x2⟩
  refine Rn_cs (bN_0 _) (fun h => ?_) (fun h => ?_)
  · cases i with
    | zero => rw [isMk_0] at h; cases h
    | succ i =>
      rw [pk_m1]
      refine ih i M2 ⟨x1.tr x2, by omega, ?_⟩ (by omega)
      rw [← hk]
      show _ = if isMk P (i + 1) = true then i + 1 else mkU P i
      rw [if_neg (by rw [h]; decide)]
  · rw [Rn_rtn]
    refine ⟨?_, x1.tr x2⟩
    rw [← hk]
    cases i with
    | zero => rfl
    | succ i =>
      show _ = nI (if isMk P (i + 1) = true then i + 1 else mkU P i)
      rw [if_pos (by simpa using h)]
