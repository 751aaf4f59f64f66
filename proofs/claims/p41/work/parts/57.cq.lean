/-! THE CLASS: questions of the page -/
theorem Rn_bndX {α β : Type} {m : Mm → Option ((Nat ⊕ β) × Mm)} {k : β → Mm → Option ((Nat ⊕ α) × Mm)} {M : Mm} {Q : (Nat ⊕ α) → Mm → Prop} : Rn (bndX m k) M Q ↔ Rn m M (fun r M' => match r with | .inl e => Q (.inl e) M' | .inr b => Rn (k b) M' Q) := by
  unfold bndX
  rw [Rn_bnd]
  constructor
  · intro h
    refine h.mono ?_
    rintro (e | b) M' h'
    · exact Rn_rtn.mp h'
    · exact h'
  · intro h
    refine h.mono ?_
    rintro (e | b) M' h'
    · exact Rn_rtn.mpr h'
    · exact h'
/-- a result of the class: which exception stands where in the list of the throws -/
def xc (a b : Nat) : Rs → Nat ⊕ Int32
  | .inl k => .inl (if k = 1 then a else b)
  | .inr v => .inr v
theorem ln_le {n : Nat} (hn : n + 1 < 2147483648) (x : Int32) : (x < 0 ∧ isLn (n + 1) x = false) ∨ (¬ x < 0 ∧ x ≤ nI n ∧ isLn (n + 1) x = true ∧ ∃ k, k ≤ n ∧ x = nI k) ∨ (¬ x < 0 ∧ ¬ x ≤ nI n ∧ isLn (n + 1) x = false) := by
  unfold isLn
  by_cases h : x < 0
  · left; simp [h]
  · obtain ⟨k, hk, rfl⟩ := nI_of h
    right
    by_cases g : k ≤ n
    · left
      exact ⟨h, (nle hk (by omega)).mpr g, by simp only [Bool.and_eq_true, Bool.not_eq_true', decide_eq_false_iff_not, decide_eq_true_eq]; exact ⟨h, (nlt hk (by omega)).mpr (by omega)⟩, k, g, rfl⟩
    · right
      refine ⟨h, fun z => g ((nle hk (by omega)).mp z), ?_⟩
      have : ¬ nI k < nI (n + 1) := fun z => by have := (nlt hk (by omega)).mp z; omega
      simp [this]
theorem ln_lt {n : Nat} (hn : n < 2147483648) (x : Int32) : (x < 0 ∧ isLn n x = false) ∨ (¬ x < 0 ∧ x < nI n ∧ isLn n x = true ∧ ∃ k, k < n ∧ x = nI k) ∨ (¬ x < 0 ∧ ¬ x < nI n ∧ isLn n x = false) := by
  unfold isLn
  by_cases h : x < 0
  · left; simp [h]
  · obtain ⟨k, hk, rfl⟩ := nI_of h
    right
    by_cases g : k < n
    · left
      exact ⟨h, (nlt hk hn).mpr g, by simp only [Bool.and_eq_true, Bool.not_eq_true', decide_eq_false_iff_not, decide_eq_true_eq]; exact ⟨h, (nlt hk hn).mpr g⟩, k, g, rfl⟩
    · right
      have : ¬ nI k < nI n := fun z => g ((nlt hk hn).mp z)
      exact ⟨h, this, by simp [this]⟩
theorem fDif {w a b : Nat} (h40 : w ≤ 40) (ha : a < 2 ^ w) (hb : b < 2 ^ w) {M : Mm} {Q : Int32 → Mm → Prop} : Rn (fJ13_bitCount_95d88 (lN a ^^^ lN b)) M Q ↔ Q (nI (dif w a b)) M := by
  have : 2 ^ w ≤ 2 ^ 40 := pw_le h40
  rw [lN_xr (by omega) (by omega), fBlk h40 (Nat.xor_lt_two_pow ha hb)]
  have : blk w (a ^^^ b) = dif w a b := by
    unfold blk dif
    exact cn_cg (fun k _ => by rw [Nat.testBit_xor])
  rw [this]
theorem fCol {w r k : Nat} (h40 : w ≤ 40) (hr : r < 2 ^ w) (hk : k < w) {M : Mm} {Q : Int32 → Mm → Prop} : Rn (fX7_colourAt (lN r) (nI k)) M Q ↔ Q (nI (bN (r.testBit k))) M := by
  have : 2 ^ w ≤ 2 ^ 40 := pw_le h40
  unfold fX7_colourAt
  have hd : r / 2 ^ k ≤ r := Nat.div_le_self _ _
  rw [Rn_rtn, lus_1 (by omega) k (by omega), wb_a1 (by omega), Nat.testBit_eq_decide_div_mod_eq]
  rcases Nat.mod_two_eq_zero_or_one (r / 2 ^ k) with h | h <;> rw [h] <;> exact Iff.rfl
section CCodeQ
variable {M : Mm} {h : Nat} {L : List Md}
theorem cModesOfKind (o : CdO M h) (hC : isCC M h L) (hl : L.length ≤ 41) {x : Int32} {Q : Int32 → Mm → Prop} : Rn (fX0_modesOfKind h x) M Q ↔ Q (nI (cnK L x)) M := by
  refine Rn_det ?_
  unfold fX0_modesOfKind
  refine rn_loopv (F := fun n i => fX0_modesOfKind_L4 n h x (nI (sm (kAt L x) i)) (nI i)) (fun i M' => M' = M ∧ i ≤ L.length) (fun i => L.length - i) ?_ fu 0 M (by unfold fu; omega) ⟨rfl, Nat.zero_le _⟩
  rintro n i M1 ⟨rfl, hi⟩ ih
  show Rn (fX0_modesOfKind_L4 (n + 1) h x (nI (sm (kAt L x) i)) (nI i)) M1 _
  unfold fX0_modesOfKind_L4 fX0_modesOfKind_L25
  rw [Rn_bnd, Rn_gI, hC.1]
  refine Rn_cs (nle (by omega) (by omega)) (fun g => ?_) (fun g => ?_)
  · rw [Rn_rtn, show i = L.length by omega]; exact ⟨rfl, rfl⟩
  · have hm : L[i]? = some (L[i]'(by omega)) := List.getElem?_eq_getElem (by omega)
    obtain ⟨d1, d2, d3, d4⟩ := hC.2.2 i _ hm
    have nx := ih (i + 1) M1 ⟨rfl, by omega⟩ (by omega)
    rw [sm_s] at nx
    have ek : kAt L x i = if (L[i]'(by omega)).1 = x then 1 else 0 := by unfold kAt; rw [hm]
    rw [ek] at nx
    rw [Rn_bnd, Rn_gA o.1, Rn_bnd, rn_lI (by omega), o.2.2.2.2.2.1, d1]
    refine ⟨by omega, Rn_cs Iff.rfl (fun g1 => ?_) (fun g1 => ?_)⟩
    · rw [if_pos g1] at nx
      rw [nL1, nI_add, nI_add]; exact nx
    · rw [if_neg g1] at nx
      rw [nL1, nI_add]; exact nx
theorem cModeNumber (o : CdO M h) (hC : isCC M h L) (hl : L.length ≤ 41) {j : Nat} (hj : j < 2147483648) {z : Int32} {Q : Int32 → Mm → Prop} : Rn (fX0_modeNumber h (nI j) z) M Q ↔ Q (mdV L j z) M := by
  refine Rn_det ?_
  unfold fX0_modeNumber mdV
  rw [if_neg (nI_pos hj), Rn_bnd, Rn_gI, hC.1]
  refine Rn_cs (nlt hj (by omega)) (fun g => ?_) (fun g => ?_)
  · have hm : L[j]? = some (L[j]'g) := List.getElem?_eq_getElem g
    obtain ⟨d1, d2, d3, d4⟩ := hC.2.2 j _ hm
    obtain ⟨o2, o3, o4, o5, o6, l1, l2, l3, l4⟩ := o
    rw [hm]
    refine Rn_cs (d := z = nI 0) Iff.rfl (fun g1 => ?_) (fun g1 => ?_)
    · rw [Rn_bnd, Rn_gA o2, Rn_bnd, rn_lI hj, l1, Rn_rtn, d1]
      exact ⟨by omega, by show _ = if z = nI 0 then _ else _; rw [if_pos g1], rfl⟩
    · refine Rn_cs (d := z = nI 1) Iff.rfl (fun g2 => ?_) (fun g2 => ?_)
      · rw [Rn_bnd, Rn_gA o3, Rn_bnd, rn_lI hj, l2, Rn_rtn, d2]
        exact ⟨by omega, by show _ = if z = nI 0 then _ else if z = nI 1 then _ else _; rw [if_neg g1, if_pos g2], rfl⟩
      · refine Rn_cs (d := z = nI 2) Iff.rfl (fun g3 => ?_) (fun g3 => ?_)
        · rw [Rn_bnd, Rn_gA o4, Rn_bnd, rn_lI hj, l3, Rn_rtn, d3]
          exact ⟨by omega, by show _ = if z = nI 0 then _ else if z = nI 1 then _ else if z = nI 2 then _ else _; rw [if_neg g1, if_neg g2, if_pos g3], rfl⟩
        · rw [Rn_bnd, Rn_gA o5, Rn_bnd, rn_lI hj, l4, Rn_rtn, d4]
          exact ⟨by omega, by show _ = if z = nI 0 then _ else if z = nI 1 then _ else if z = nI 2 then _ else _; rw [if_neg g1, if_neg g2, if_neg g3], rfl⟩
  · rw [Rn_rtn, List.getElem?_eq_none (by omega)]; exact ⟨rfl, rfl⟩
end CCodeQ
theorem cEvery {l e : Nat} (hl : l < 1000) (he : e < 1000) {M : Mm} {Q : Int32 → Mm → Prop} : Rn (fX7_isEvery (nI l) (nI e)) M Q ↔ Q (nI (bN (decide (0 < e ∧ l % e = 0)))) M := by
  refine Rn_det ?_
  unfold fX7_isEvery
  refine Rn_cs (show nI e ≤ 0 ↔ e ≤ 0 from nle (b := 0) (by omega) (by omega)) (fun g => ?_) (fun g => ?_)
  · rw [Rn_grd, Rn_rtn]
    have : ¬ (0 < e ∧ l % e = 0) := by omega
    refine ⟨by decide, ?_, rfl⟩
    simp [this]; rfl
  · rw [Rn_grd]
    refine ⟨?_, ?_⟩
    · have : ¬ nI e = 0 := by rw [nL0, neq (by omega) (by omega)]; omega
      simpa using this
    · rw [pk_rem (by omega) (by omega) (by omega)]
      refine Rn_cs (d := l % e = 0) (by rw [nL0, neq (by have := Nat.mod_lt l (show e > 0 by omega); omega) (by omega)]) (fun h => ?_) (fun h => ?_)
      · rw [Rn_grd, Rn_rtn]
        have : 0 < e ∧ l % e = 0 := by omega
        refine ⟨by decide, ?_, rfl⟩
        simp [this]; rfl
      · rw [Rn_grd, Rn_rtn]
        have : ¬ (0 < e ∧ l % e = 0) := by omega
        refine ⟨by decide, ?_, rfl⟩
        simp [this]; rfl
theorem xCo_Pg (a b : Nat) (z : xPgH 1 a b = true) : xCo 16 a b = false := by
  unfold xPgH at z; unfold xCo
  simp at z ⊢; omega
def cdl (P : Pg) (l : Nat) : List Md := cod (Pw P) (Pr P l) (Pu P l)
theorem cdl_len {P : Pg} (hw : wfP P) (l : Nat) : (cdl P l).length ≤ 41 := by
  have := cod_len (Pw P) (Pr P l) (Pu P l)
  have := hw.2.1
  unfold cdl; omega
section CQ
variable {M : Mm} {P : Pg}
theorem cW (hP : isPgC M 1 P) {Q : Int32 → Mm → Prop} : Rn (gI 1 0) M Q ↔ Q (nI (Pw P)) M := by rw [Rn_gI, hP.1]
theorem cN (hP : isPgC M 1 P) {Q : Int32 → Mm → Prop} : Rn (gI 1 1) M Q ↔ Q (nI (PL P)) M := by rw [Rn_gI, hP.2.1]
theorem cRowL (hM : CO M) (hP : isPgC M 1 P) (hw : wfP P) {l : Nat} (hl : l < PL P) {Q : Int64 → Mm → Prop} : Rn (fX2_rowAt 1 (nI l)) M Q ↔ Q (lN (Pr P l)) M := by rw [cRowAt hM.p1 hP hw, rwA_n hw hl]
theorem cRowU (hM : CO M) (hP : isPgC M 1 P) (hw : wfP P) {l : Nat} (hl : l < PL P) {Q : Int64 → Mm → Prop} : Rn (fX2_rowAt 1 (nI l - 1)) M Q ↔ Q (lN (Pu P l)) M := by rw [cRowAt hM.p1 hP hw, rwA_u hw hl]
theorem cCodeLine (hM : CO M) (hP : isPgC M 1 P) (hw : wfP P) {l : Nat} (hl : l < PL P) : Rn (fX7_codeLine 0 (nI l)) M (fun _ M' => XF (xCo 16) M M' ∧ isCC M' 16 (cdl P l)) := by
  unfold fX7_codeLine
  rw [Rn_bnd, cA0_4 hM, Rn_bnd, cA0_0 hM, Rn_bnd, cRowL hM hP hw hl, Rn_bnd, cA0_0 hM, Rn_bnd, cRowU hM hP hw hl, Rn_bnd, cA0_0 hM, Rn_bnd, cW hP, Rn_bnd]
  refine (cMake hM.c16 hw.2.1 (hw.2.2.2.1 l hl) (Pu_lt hw hl)).mono ?_
  rintro - M1 ⟨x1, c1⟩
  rw [Rn_rtn]; exact ⟨x1, c1⟩
theorem cAlone (hM : CO M) (hP : isPgC M 1 P) (hw : wfP P) {l : Nat} (hl : l < PL P) {α : Type} {F : Int32 → Mm → Option (α × Mm)} {Q : α → Mm → Prop} : Rn (bnd (gA 0 0) fun v2 => bnd (fX2_rowAt v2 (nI l)) fun v3 => bnd (gA 0 0) fun v4 => bnd (gI v4 0) fun v5 => bnd (fX7_aloneBits v3 v5) F) M Q ↔ Rn (F (nI (aBt P l))) M Q := by
  rw [Rn_bnd, cA0_0 hM, Rn_bnd, cRowL hM hP hw hl, Rn_bnd, cA0_0 hM, Rn_bnd, cW hP, Rn_bnd, fAlone hw.2.1 (hw.2.2.2.1 l hl)]; rfl
theorem cIsMark (hM : CO M) (hP : isPgC M 1 P) (hw : wfP P) {l : Nat} (hl : l < PL P) : Rn (fX7_isMark 0 (nI l)) M (fun a M' => a = nI (bN (isMk P l)) ∧ XF (xCo 16) M M' ∧ (isCC M 16 (cdl P l) → isCC M' 16 (cdl P l))) := by
  have hl20 := hw.2.2.1
  have he := hw.2.2.2.2.2.1
  have ht1 := hw.2.2.2.2.2.2.1
  unfold fX7_isMark
  rw [Rn_bnd, cA0_0 hM, Rn_bnd, cA1_4 hM, Rn_bnd, nL0, rn_lI (by omega), cL4 hM, hP.2.2.2.2 0 (by omega)]
  refine ⟨by omega, ?_⟩
  rw [Rn_bnd, cEvery (by omega) (by omega)]
  refine Rn_cs (bN_0 _) (fun g => ?_) (fun g => ?_)
  · have g : ¬ l % Pt P 0 = 0 := by
      have : ¬ (0 < Pt P 0 ∧ l % Pt P 0 = 0) := by simpa using g
      omega
    rw [Rn_bnd, cA0_0 hM, Rn_bnd, cA1_4 hM, Rn_bnd, nL1, rn_lI (by omega), cL4 hM, hP.2.2.2.2 1 (by omega)]
    refine ⟨by omega, Rn_cs (d := Pt P 1 = 0) (neq (b := 0) (by omega) (by omega)) (fun h1 => ?_) (fun h1 => ?_)⟩
    · rw [Rn_grd, Rn_rtn]
      refine ⟨by decide, ?_, XF.rf, id⟩
      unfold isMk; simp [g, h1]; rfl
    · have h1 : Pt P 1 = 1 := by omega
      rw [Rn_bnd]
      refine (cCodeLine hM hP hw hl).mono ?_
      rintro - M1 ⟨x1, c1⟩
      have m1 := hM.xf x1
      have p1 := hP.xf x1 xCo_Pg
      have b1 := aBt_le hw l
      have b2 := cBt_le hw l
      rw [cAlone m1 p1 hw hl, Rn_bnd, cA0_4 m1, Rn_bnd, Rn_gI, c1.2.1]
      refine Rn_cs (d := cBt P l ≤ aBt P l) (nle (show cBt P l < 2147483648 by omega) (show aBt P l < 2147483648 by omega)) (fun h2 => ?_) (fun h2 => ?_)
      · rw [Rn_grd, Rn_rtn]
        refine ⟨by decide, ?_, x1, fun _ => c1⟩
        have : ¬ aBt P l < cBt P l := by omega
        unfold isMk; simp [g, this]; rfl
      · rw [Rn_grd, Rn_rtn]
        refine ⟨by decide, ?_, x1, fun _ => c1⟩
        have : aBt P l < cBt P l := by omega
        unfold isMk; simp [h1, this]; rfl
  · have g : 0 < Pt P 0 ∧ l % Pt P 0 = 0 := by simpa using g
    rw [Rn_grd, Rn_rtn]
    refine ⟨by decide, ?_, XF.rf, id⟩
    unfold isMk; simp [g.2]; rfl
/-! what calls need -/
theorem cNeedLine (hM : CO M) (hP : isPgC M 1 P) (hw : wfP P) {x : Int32} {Q : (Nat ⊕ Unit) → Mm → Prop} : Rn (fX7_needLine 0 x) M Q ↔ Q (if isLn (PL P) x = true then .inr () else .inl 2) M := by
  refine Rn_det ?_
  unfold fX7_needLine
  rw [Rn_bnd, cA0_0 hM, Rn_bnd, cHasLine hP hw]
  refine Rn_cs (bN_0 _) (fun g => ?_) (fun g => ?_)
  · rw [Rn_rtn, g]; exact ⟨rfl, rfl⟩
  · have g : isLn (PL P) x = true := by simpa using g
    rw [Rn_rtn, g]; exact ⟨rfl, rfl⟩
theorem cNeedDot (hM : CO M) (hP : isPgC M 1 P) (hw : wfP P) {x y : Int32} {Q : (Nat ⊕ Unit) → Mm → Prop} : Rn (fX7_needDot 0 x y) M Q ↔ Q (if isLn (PL P) x = true ∧ isLn (Pw P) y = true then .inr () else .inl 2) M := by
  refine Rn_det ?_
  have h40 := hw.2.1
  unfold fX7_needDot fX7_needDot_L26
  rw [Rn_bnd, cA0_0 hM, Rn_bnd, cHasLine hP hw]
  refine Rn_cs (bN_0 _) (fun g => ?_) (fun g => ?_)
  · rw [Rn_rtn, if_neg (by rw [g]; simp)]; exact ⟨rfl, rfl⟩
  · have g : isLn (PL P) x = true := by simpa using g
    rcases ln_lt (n := Pw P) (by omega) y with ⟨h1, h2⟩ | ⟨h1, h2, h3, _⟩ | ⟨h1, h2, h3⟩
    · rw [if_pos h1, Rn_rtn, if_neg (by rw [h2]; simp)]; exact ⟨rfl, rfl⟩
    · rw [if_neg h1, Rn_bnd, cA0_0 hM, Rn_bnd, cW hP, if_pos h2, Rn_rtn, if_pos ⟨g, h3⟩]; exact ⟨rfl, rfl⟩
    · rw [if_neg h1, Rn_bnd, cA0_0 hM, Rn_bnd, cW hP, if_neg h2, Rn_rtn, if_neg (by rw [h3]; simp)]; exact ⟨rfl, rfl⟩
theorem cNeedPlace (hM : CO M) (hP : isPgC M 1 P) (hw : wfP P) {x y : Int32} {Q : (Nat ⊕ Unit) → Mm → Prop} : Rn (fX7_needPlace 0 x y) M Q ↔ Q (if isLn (PL P) x = true ∧ ¬ y < 0 then .inr () else .inl 2) M := by
  refine Rn_det ?_
  unfold fX7_needPlace fX7_needPlace_L15
  rw [Rn_bnd, cA0_0 hM, Rn_bnd, cHasLine hP hw]
  refine Rn_cs (bN_0 _) (fun g => ?_) (fun g => ?_)
  · rw [Rn_rtn, if_neg (by rw [g]; simp)]; exact ⟨rfl, rfl⟩
  · have g : isLn (PL P) x = true := by simpa using g
    by_cases h : y < 0
    · rw [if_neg (Int32.not_le.mpr h), Rn_rtn, if_neg (fun z => z.2 h)]; exact ⟨rfl, rfl⟩
    · rw [if_pos (Int32.not_lt.mp h), Rn_rtn, if_pos ⟨g, h⟩]; exact ⟨rfl, rfl⟩
theorem cNeedColour {x : Int32} {Q : (Nat ⊕ Unit) → Mm → Prop} : Rn (fX7_needColour x) M Q ↔ Q (if isLn 2 x = true then .inr () else .inl 0) M := by
  refine Rn_det ?_
  unfold fX7_needColour fX7_needColour_L9
  rcases ln_le (n := 1) (by omega) x with ⟨h1, h2⟩ | ⟨h1, h2, h3, _⟩ | ⟨h1, h2, h3⟩
  · have h2 : isLn 2 x = false := h2
    rw [if_pos h1, Rn_rtn, h2]; exact ⟨rfl, rfl⟩
  · have h3 : isLn 2 x = true := h3
    rw [if_neg h1, nL1, if_pos h2, Rn_rtn, h3]; exact ⟨rfl, rfl⟩
  · have h3 : isLn 2 x = false := h3
    rw [if_neg h1, nL1, if_neg h2, Rn_rtn, h3]; exact ⟨rfl, rfl⟩
/-! the questions -/
theorem cDot (hM : CO M) (hP : isPgC M 1 P) (hw : wfP P) (x y : Int32) : Rn (fX7_dot 0 x y) M (fun a M' => a = xc 2 0 (spDot P x y) ∧ XF (xCo 16) M M') := by
  have h40 := hw.2.1
  have h20 := hw.2.2.1
  unfold fX7_dot spDot
  rw [Rn_bndX, cNeedDot hM hP hw]
  by_cases g : isLn (PL P) x = true ∧ isLn (Pw P) y = true
  · rw [if_pos g, if_pos g]
    obtain ⟨l, hl, rfl⟩ := isLn_t (by omega) g.1
    obtain ⟨k, hk, rfl⟩ := isLn_t (by omega) g.2
    show Rn _ M _
    rw [Rn_bnd, cA0_0 hM, Rn_bnd, cRowL hM hP hw hl, Rn_bnd, fCol h40 (hw.2.2.2.1 l hl) hk, Rn_rtn, ix_n (by omega), ix_n (by omega)]
    exact ⟨rfl, XF.rf⟩
  · rw [if_neg g, if_neg g]; exact ⟨rfl, XF.rf⟩
theorem cRunOp (hM : CO M) (hP : isPgC M 1 P) (hw : wfP P) (x y : Int32) : Rn (fX7_run 0 x y) M (fun a M' => a = xc 2 0 (spRun P x y) ∧ XF (xCo 16) M M') := by
  have h40 := hw.2.1
  have h20 := hw.2.2.1
  unfold fX7_run spRun
  rw [Rn_bndX, cNeedPlace hM hP hw]
  by_cases g : isLn (PL P) x = true ∧ ¬ y < 0
  · rw [if_pos g, if_pos g]
    obtain ⟨l, hl, rfl⟩ := isLn_t (by omega) g.1
    obtain ⟨j, hj, rfl⟩ := nI_of g.2
    show Rn _ M _
    rw [Rn_bnd, cA0_0 hM, Rn_bnd, cRowL hM hP hw hl, Rn_bnd, cA0_0 hM, Rn_bnd, cW hP, Rn_bnd, fRunAt h40 (hw.2.2.2.1 l hl) hj, Rn_rtn, ix_n (by omega), ix_n hj]
    exact ⟨rfl, XF.rf⟩
  · rw [if_neg g, if_neg g]; exact ⟨rfl, XF.rf⟩
theorem cModeOp (hM : CO M) (hP : isPgC M 1 P) (hw : wfP P) (x y z : Int32) : Rn (fX7_mode 0 x y z) M (fun a M' => a = xc 2 0 (spMode P x y z) ∧ XF (xCo 16) M M') := by
  have h20 := hw.2.2.1
  unfold fX7_mode spMode fX7_mode_L15
  rw [Rn_bndX, cNeedPlace hM hP hw]
  by_cases g : isLn (PL P) x = true ∧ ¬ y < 0
  · rw [if_pos g, if_pos g]
    obtain ⟨l, hl, rfl⟩ := isLn_t (by omega) g.1
    obtain ⟨j, hj, rfl⟩ := nI_of g.2
    show Rn _ M _
    rcases ln_le (n := 3) (by omega) z with ⟨h1, h2⟩ | ⟨h1, h2, h3, _⟩ | ⟨h1, h2, h3⟩
    · have h2 : isLn 4 z = false := h2
      rw [if_pos h1, Rn_rtn, h2]; exact ⟨rfl, XF.rf⟩
    · have h3 : isLn 4 z = true := h3
      rw [if_neg h1, nL3, if_pos h2, Rn_bnd, h3]
      refine (cCodeLine hM hP hw hl).mono ?_
      rintro - M1 ⟨x1, c1⟩
      have m1 := hM.xf x1
      rw [Rn_bnd, cA0_4 m1, Rn_bnd, cModeNumber m1.c16 c1 (cdl_len hw l) hj, Rn_rtn, ix_n (by omega), ix_n hj]
      exact ⟨rfl, x1⟩
    · have h3 : isLn 4 z = false := h3
      rw [if_neg h1, nL3, if_neg h2, Rn_rtn, h3]; exact ⟨rfl, XF.rf⟩
  · rw [if_neg g, if_neg g]; exact ⟨rfl, XF.rf⟩
theorem cReadBelow (hM : CO M) (hP : isPgC M 1 P) (hw : wfP P) (x y : Int32) : Rn (fX7_readBelow 0 x y) M (fun a M' => a = xc 2 0 (spReadBelow P x y) ∧ XF (xCo 16) M M') := by
  have h40 := hw.2.1
  have h20 := hw.2.2.1
  have p40 : 2 ^ Pw P ≤ 2 ^ 40 := pw_le h40
  unfold fX7_readBelow spReadBelow
  rw [Rn_bndX, cNeedLine hM hP hw]
  by_cases g : isLn (PL P) x = true
  · rw [if_pos g]
    obtain ⟨l, hl, rfl⟩ := isLn_t (by omega) g
    rw [ix_n (by omega)]
    show Rn _ M _
    have key : ∀ u, u < 2 ^ Pw P → rwA P y = u → Rn (fX7_readBelow_L15 0 (nI l) y) M (fun a M' => a = .inr (rbV P l u) ∧ XF (xCo 16) M M') := by
      intro u hu he
      unfold fX7_readBelow_L15
      rw [Rn_bnd]
      refine (cCodeLine hM hP hw hl).mono ?_
      rintro - M1 ⟨x1, c1⟩
      have m1 := hM.xf x1
      have p1 := hP.xf x1 xCo_Pg
      rw [Rn_bnd, cA0_4 m1, Rn_bnd, cA0_0 m1, Rn_bnd, cRowAt m1.p1 p1 hw, he, Rn_bnd, cA0_0 m1, Rn_bnd, cW p1, Rn_bnd]
      refine (cReadUnder m1.c16 h40 hu (cod_ok h40) (cdl_len hw l) c1).mono ?_
      rintro a M2 ⟨x2, rfl, hq⟩
      have m2 := m1.xf x2
      have x02 : XF (xCo 16) M M2 := x1.tr (x2.mono (xH_Co 16))
      have p2 := hP.xf x02 xCo_Pg
      unfold rbV
      show Rn _ M2 _
      cases hr : rdC (Pw P) u (cdl P l) with
      | none =>
        have hr : rdC (Pw P) u (cod (Pw P) (Pr P l) (Pu P l)) = none := hr
        rw [hr]
        show Rn (if lg_cmp (-1) (-1) = 0 then _ else _) M2 _
        rw [if_pos (by decide), Rn_rtn]; exact ⟨rfl, x02⟩
      | some q =>
        have hlt := hq q hr
        have hr : rdC (Pw P) u (cod (Pw P) (Pr P l) (Pu P l)) = some q := hr
        rw [hr]
        show Rn (if lg_cmp (lN q) (-1) = 0 then _ else _) M2 _
        have : ¬ lg_cmp (lN q) (-1) = 0 := by
          rw [lg_cmp_eq]
          intro z
          have := congrArg (fun t : Int64 => t.toBitVec.toNat) z
          have e1 : (lN q).toBitVec.toNat = q := wb_tn (by omega)
          have e2 : (-1 : Int64).toBitVec.toNat = 2 ^ 64 - 1 := by decide +kernel
          simp only [e1, e2] at this
          omega
        rw [if_neg this, Rn_bnd, cA0_0 m2, Rn_bnd, cRowL m2 p2 hw hl, Rn_bnd, show rdU (some q) = lN q from rfl, fDif h40 hlt (hw.2.2.2.1 l hl), Rn_rtn]
        exact ⟨rfl, x02⟩
    by_cases h1 : y = -1
    · subst h1
      rw [if_pos rfl, if_pos ⟨g, Or.inl rfl⟩, if_pos rfl]
      refine key 0 (Nat.two_pow_pos _) ?_
      unfold rwA isLn
      rw [if_neg (by simp)]
    · rw [if_neg h1, Rn_bndX, cNeedLine hM hP hw]
      by_cases h2 : isLn (PL P) y = true
      · rw [if_pos h2, if_pos ⟨g, Or.inr h2⟩, if_neg h1]
        obtain ⟨l2, hl2, rfl⟩ := isLn_t (by omega) h2
        rw [ix_n (by omega)]
        exact key _ (hw.2.2.2.1 l2 hl2) (rwA_n hw hl2)
      · rw [if_neg h2, if_neg (fun z => z.2.elim h1 h2)]; exact ⟨rfl, XF.rf⟩
  · rw [if_neg g, if_neg (fun z => g z.1)]; exact ⟨rfl, XF.rf⟩
end CQ

