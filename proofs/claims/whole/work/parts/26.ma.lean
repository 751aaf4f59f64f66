/-! THE REFERENCE in the pool: the object is 38, its arrays 39 to 60 -/
def moR (k : Nat) : Option Nat := [none, some 39, some 40, some 41, none, some 42, some 43, some 44, some 45, none, some 46, some 47, some 48, some 49, none, some 50, none, none, some 51, none, some 52, some 53, some 54, some 55, some 56, some 57, none, none, none, none, none, some 58, none, none, none, none, none, none, none, some 59, some 60, none].getD k none
def moL (h : Nat) : Nat := [828, 828, 8280, 1656, 2, 40, 40, 48, 48, 48, 48, 40, 44, 800, 20, 20, 20, 20, 20, 900, 37, 600].getD (h - 39) 0
def MO (M : Mm) : Prop := (∀ k, k < 42 → Mr M 38 k = moR k) ∧ ∀ h, 39 ≤ h → h ≤ 60 → Ml M h = moL h
theorem mR1 {M : Mm} (h : MO M) : Mr M 38 1 = some 39 := h.1 1 (by decide)
theorem mL39 {M : Mm} (h : MO M) : Ml M 39 = 828 := h.2 39 (by decide) (by decide)
theorem mA1 {M : Mm} (h : MO M) {Q : Nat → Mm → Prop} : Rn (gA 38 1) M Q ↔ Q 39 M := Rn_gA (mR1 h)
theorem mR2 {M : Mm} (h : MO M) : Mr M 38 2 = some 40 := h.1 2 (by decide)
theorem mL40 {M : Mm} (h : MO M) : Ml M 40 = 828 := h.2 40 (by decide) (by decide)
theorem mA2 {M : Mm} (h : MO M) {Q : Nat → Mm → Prop} : Rn (gA 38 2) M Q ↔ Q 40 M := Rn_gA (mR2 h)
theorem mR3 {M : Mm} (h : MO M) : Mr M 38 3 = some 41 := h.1 3 (by decide)
theorem mL41 {M : Mm} (h : MO M) : Ml M 41 = 8280 := h.2 41 (by decide) (by decide)
theorem mA3 {M : Mm} (h : MO M) {Q : Nat → Mm → Prop} : Rn (gA 38 3) M Q ↔ Q 41 M := Rn_gA (mR3 h)
theorem mR5 {M : Mm} (h : MO M) : Mr M 38 5 = some 42 := h.1 5 (by decide)
theorem mL42 {M : Mm} (h : MO M) : Ml M 42 = 1656 := h.2 42 (by decide) (by decide)
theorem mA5 {M : Mm} (h : MO M) {Q : Nat → Mm → Prop} : Rn (gA 38 5) M Q ↔ Q 42 M := Rn_gA (mR5 h)
theorem mR6 {M : Mm} (h : MO M) : Mr M 38 6 = some 43 := h.1 6 (by decide)
theorem mL43 {M : Mm} (h : MO M) : Ml M 43 = 2 := h.2 43 (by decide) (by decide)
theorem mA6 {M : Mm} (h : MO M) {Q : Nat → Mm → Prop} : Rn (gA 38 6) M Q ↔ Q 43 M := Rn_gA (mR6 h)
theorem mR7 {M : Mm} (h : MO M) : Mr M 38 7 = some 44 := h.1 7 (by decide)
theorem mL44 {M : Mm} (h : MO M) : Ml M 44 = 40 := h.2 44 (by decide) (by decide)
theorem mA7 {M : Mm} (h : MO M) {Q : Nat → Mm → Prop} : Rn (gA 38 7) M Q ↔ Q 44 M := Rn_gA (mR7 h)
theorem mR8 {M : Mm} (h : MO M) : Mr M 38 8 = some 45 := h.1 8 (by decide)
theorem mL45 {M : Mm} (h : MO M) : Ml M 45 = 40 := h.2 45 (by decide) (by decide)
theorem mA8 {M : Mm} (h : MO M) {Q : Nat → Mm → Prop} : Rn (gA 38 8) M Q ↔ Q 45 M := Rn_gA (mR8 h)
theorem mR10 {M : Mm} (h : MO M) : Mr M 38 10 = some 46 := h.1 10 (by decide)
theorem mL46 {M : Mm} (h : MO M) : Ml M 46 = 48 := h.2 46 (by decide) (by decide)
theorem mA10 {M : Mm} (h : MO M) {Q : Nat → Mm → Prop} : Rn (gA 38 10) M Q ↔ Q 46 M := Rn_gA (mR10 h)
theorem mR11 {M : Mm} (h : MO M) : Mr M 38 11 = some 47 := h.1 11 (by decide)
theorem mL47 {M : Mm} (h : MO M) : Ml M 47 = 48 := h.2 47 (by decide) (by decide)
theorem mA11 {M : Mm} (h : MO M) {Q : Nat → Mm → Prop} : Rn (gA 38 11) M Q ↔ Q 47 M := Rn_gA (mR11 h)
theorem mR12 {M : Mm} (h : MO M) : Mr M 38 12 = some 48 := h.1 12 (by decide)
theorem mL48 {M : Mm} (h : MO M) : Ml M 48 = 48 := h.2 48 (by decide) (by decide)
theorem mA12 {M : Mm} (h : MO M) {Q : Nat → Mm → Prop} : Rn (gA 38 12) M Q ↔ Q 48 M := Rn_gA (mR12 h)
theorem mR13 {M : Mm} (h : MO M) : Mr M 38 13 = some 49 := h.1 13 (by decide)
theorem mL49 {M : Mm} (h : MO M) : Ml M 49 = 48 := h.2 49 (by decide) (by decide)
theorem mA13 {M : Mm} (h : MO M) {Q : Nat → Mm → Prop} : Rn (gA 38 13) M Q ↔ Q 49 M := Rn_gA (mR13 h)
theorem mR15 {M : Mm} (h : MO M) : Mr M 38 15 = some 50 := h.1 15 (by decide)
theorem mL50 {M : Mm} (h : MO M) : Ml M 50 = 40 := h.2 50 (by decide) (by decide)
theorem mA15 {M : Mm} (h : MO M) {Q : Nat → Mm → Prop} : Rn (gA 38 15) M Q ↔ Q 50 M := Rn_gA (mR15 h)
theorem mR18 {M : Mm} (h : MO M) : Mr M 38 18 = some 51 := h.1 18 (by decide)
theorem mL51 {M : Mm} (h : MO M) : Ml M 51 = 44 := h.2 51 (by decide) (by decide)
theorem mA18 {M : Mm} (h : MO M) {Q : Nat → Mm → Prop} : Rn (gA 38 18) M Q ↔ Q 51 M := Rn_gA (mR18 h)
theorem mR20 {M : Mm} (h : MO M) : Mr M 38 20 = some 52 := h.1 20 (by decide)
theorem mL52 {M : Mm} (h : MO M) : Ml M 52 = 800 := h.2 52 (by decide) (by decide)
theorem mA20 {M : Mm} (h : MO M) {Q : Nat → Mm → Prop} : Rn (gA 38 20) M Q ↔ Q 52 M := Rn_gA (mR20 h)
theorem mR21 {M : Mm} (h : MO M) : Mr M 38 21 = some 53 := h.1 21 (by decide)
theorem mL53 {M : Mm} (h : MO M) : Ml M 53 = 20 := h.2 53 (by decide) (by decide)
theorem mA21 {M : Mm} (h : MO M) {Q : Nat → Mm → Prop} : Rn (gA 38 21) M Q ↔ Q 53 M := Rn_gA (mR21 h)
theorem mR22 {M : Mm} (h : MO M) : Mr M 38 22 = some 54 := h.1 22 (by decide)
theorem mL54 {M : Mm} (h : MO M) : Ml M 54 = 20 := h.2 54 (by decide) (by decide)
theorem mA22 {M : Mm} (h : MO M) {Q : Nat → Mm → Prop} : Rn (gA 38 22) M Q ↔ Q 54 M := Rn_gA (mR22 h)
theorem mR23 {M : Mm} (h : MO M) : Mr M 38 23 = some 55 := h.1 23 (by decide)
theorem mL55 {M : Mm} (h : MO M) : Ml M 55 = 20 := h.2 55 (by decide) (by decide)
theorem mA23 {M : Mm} (h : MO M) {Q : Nat → Mm → Prop} : Rn (gA 38 23) M Q ↔ Q 55 M := Rn_gA (mR23 h)
theorem mR24 {M : Mm} (h : MO M) : Mr M 38 24 = some 56 := h.1 24 (by decide)
theorem mL56 {M : Mm} (h : MO M) : Ml M 56 = 20 := h.2 56 (by decide) (by decide)
theorem mA24 {M : Mm} (h : MO M) {Q : Nat → Mm → Prop} : Rn (gA 38 24) M Q ↔ Q 56 M := Rn_gA (mR24 h)
theorem mR25 {M : Mm} (h : MO M) : Mr M 38 25 = some 57 := h.1 25 (by decide)
theorem mL57 {M : Mm} (h : MO M) : Ml M 57 = 20 := h.2 57 (by decide) (by decide)
theorem mA25 {M : Mm} (h : MO M) {Q : Nat → Mm → Prop} : Rn (gA 38 25) M Q ↔ Q 57 M := Rn_gA (mR25 h)
theorem mR31 {M : Mm} (h : MO M) : Mr M 38 31 = some 58 := h.1 31 (by decide)
theorem mL58 {M : Mm} (h : MO M) : Ml M 58 = 900 := h.2 58 (by decide) (by decide)
theorem mA31 {M : Mm} (h : MO M) {Q : Nat → Mm → Prop} : Rn (gA 38 31) M Q ↔ Q 58 M := Rn_gA (mR31 h)
theorem mR39 {M : Mm} (h : MO M) : Mr M 38 39 = some 59 := h.1 39 (by decide)
theorem mL59 {M : Mm} (h : MO M) : Ml M 59 = 37 := h.2 59 (by decide) (by decide)
theorem mA39 {M : Mm} (h : MO M) {Q : Nat → Mm → Prop} : Rn (gA 38 39) M Q ↔ Q 59 M := Rn_gA (mR39 h)
theorem mR40 {M : Mm} (h : MO M) : Mr M 38 40 = some 60 := h.1 40 (by decide)
theorem mL60 {M : Mm} (h : MO M) : Ml M 60 = 600 := h.2 60 (by decide) (by decide)
theorem mA40 {M : Mm} (h : MO M) {Q : Nat → Mm → Prop} : Rn (gA 38 40) M Q ↔ Q 60 M := Rn_gA (mR40 h)
theorem MO.sI {M : Mm} {a b : Nat} {v : Int32} (h : MO M) : MO (sI M a b v) := h
theorem MO.sJ {M : Mm} {a b : Nat} {v : Int64} (h : MO M) : MO (sJ M a b v) := h
theorem MO.xf {X : Nat → Nat → Bool} {M M1 : Mm} (h : MO M) (x : XF X M M1) : MO M1 := ⟨fun k hk => by rw [x.mr]; exact h.1 k hk, fun k h1 h2 => by rw [x.ml]; exact h.2 k h1 h2⟩
/-- a row of dots as 40 numbers -/
def isRow (f : Nat → Int32) (r : Nat) : Prop := ∀ k, k < 40 → f k = nI (bN (r.testBit k))
theorem mIn {x a b : Nat} {v lo hi : Int32} (hv : v = nI x) (hl : lo = nI a) (hh : hi = nI b) (h1 : x < 2147483648) (h2 : a < 2147483648) (h3 : b < 2147483648) {M : Mm} {Q : Int32 → Mm → Prop} : Rn (fX8_in v lo hi) M Q ↔ Q (nI (bN (decide (a ≤ x ∧ x ≤ b)))) M := by
  subst hv hl hh
  unfold fX8_in
  simp only [Rn_ite, Rn_grd, Rn_rtn, nlt h1 h2, nlt h3 h1, nL0, nL1, g00, g01, true_and]
  by_cases q1 : x < a
  · have : ¬ (a ≤ x ∧ x ≤ b) := by omega
    simp [q1, this, bN]
  · by_cases q2 : b < x
    · have : ¬ (a ≤ x ∧ x ≤ b) := by omega
      simp [q1, q2, this, bN]
    · have : a ≤ x ∧ x ≤ b := by omega
      simp [q1, q2, this, bN]
theorem mDotAt {l k : Nat} {M : Mm} {Q : Int32 → Mm → Prop} : Rn (fX8_dotAt (nI l) (nI k)) M Q ↔ Q (nI (28 + 40 * l + k)) M := by
  unfold fX8_dotAt
  simp only [Rn_rtn, nL28, nL40, pk_mul, nI_add]
theorem mIsChange {M : Mm} {u k : Nat} (hM : MO M) (hu : isRow (Mi M 44) u) (hk : k < 40) {Q : Int32 → Mm → Prop} : Rn (fX8_isChange 38 (nI k)) M Q ↔ Q (nI (bN (chg u k))) M := by
  have e1 := hu k hk
  unfold fX8_isChange fX8_isChange_L22
  have hk2 : k < 2147483648 := by omega
  by_cases h0 : k = 0
  · subst h0
    simp only [Rn_bnd, mA7 hM, rn_lI hk2, mL44 hM, Rn_ite, nL0, nL1, if_true, e1, Rn_grd, Rn_rtn, g00, g01, true_and, bN_0]
    unfold chg
    cases u.testBit 0 <;> simp [bN]
  · have e2 := hu (k - 1) (by omega)
    have n0 : ¬ nI k = nI 0 := by rw [neq hk2 (by omega)]; exact h0
    have e3 : nI k - nI 1 = nI (k - 1) := nsb (by omega)
    simp only [Rn_bnd, mA7 hM, rn_lI hk2, mL44 hM, Rn_ite, nL0, nL1, e1, if_neg n0, e3, rn_lI (show k - 1 < 2147483648 by omega), e2, Rn_grd, Rn_rtn, g00, g01, true_and, bN_eq]
    unfold chg
    have : decide (0 < k) = true := by simp; omega
    rw [this]
    have h1 : k - 1 < 40 := by omega
    cases u.testBit k <;> cases u.testBit (k - 1) <;> simp [bN, hk, h1]
theorem mCB {M : Mm} {u w q c : Nat} (hM : MO M) (hw : Mi M 38 9 = nI w) (h40 : w ≤ 40) (hu : isRow (Mi M 44) u) (hq : q ≤ w + 1) (hc : c ≤ 2) {Q : Int32 → Mm → Prop} : Rn (fX8_changeBehind 38 (pl q) (nI c)) M Q ↔ Q (nI (fb (fun k => chg u k && (bN (u.testBit k) != c)) w q)) M := by
  refine Rn_det ?_
  generalize hp : (fun k => chg u k && (bN (u.testBit k) != c)) = p
  unfold fX8_changeBehind
  simp only [Rn_bnd, Rn_rtn, nL1, pl_1]
  refine rn_loopv (F := fun n i => fX8_changeBehind_L4 n 38 (nI c) (nI i)) (fun i M' => M' = M ∧ i ≤ w + 1 ∧ fb p w i = fb p w q) (fun i => w + 1 - i) ?_ fu q M (by unfold fu; omega) ⟨rfl, hq, rfl⟩
  rintro n i M' ⟨rfl, hi, hf⟩ ih
  show Rn (fX8_changeBehind_L4 (n + 1) 38 (nI c) (nI i)) M' _
  unfold fX8_changeBehind_L4 fX8_changeBehind_L36 fX8_changeBehind_L30
  have hi2 : i < 2147483648 := by omega
  simp only [Rn_bnd, Rn_gI, hw, Rn_ite, nle (show w < 2147483648 by omega) hi2, Rn_rtn]
  by_cases h : w ≤ i
  · rw [if_pos h, if_pos h, ← hf, fb_ge_w h]; exact ⟨rfl, trivial⟩
  · rw [if_neg h, mIsChange hM hu (by omega)]
    have pe : p i = (chg u i && (bN (u.testBit i) != c)) := by rw [← hp]
    simp only [nL0, nL1, bN_0, mA7 hM, rn_lI hi2, mL44 hM, hu i (by omega), if_neg h, nI_add, neq (show bN (u.testBit i) < 2147483648 by have := bN_le (u.testBit i); omega) (show c < 2147483648 by omega)]
    by_cases hg : chg u i = false
    · rw [if_pos hg]
      exact ih (i + 1) M' ⟨rfl, by omega, (fb_next (by omega) (by rw [pe, hg]; rfl)).symm.trans hf⟩ (by omega)
    · have hg : chg u i = true := by simpa using hg
      rw [if_neg (by rw [hg]; decide)]
      refine ⟨by omega, ?_⟩
      by_cases hb : bN (u.testBit i) = c
      · rw [if_pos hb]
        exact ih (i + 1) M' ⟨rfl, by omega, (fb_next (by omega) (by rw [pe, hg, hb]; simp)).symm.trans hf⟩ (by omega)
      · rw [if_neg hb, hw, if_neg (by rw [nle (by omega) hi2]; exact h)]
        refine ⟨?_, trivial⟩
        rw [← hf, fb_at (by omega) (by rw [pe, hg]; simp [hb])]
theorem mDB {M : Mm} {r w q : Nat} (c : Bool) (hM : MO M) (hw : Mi M 38 9 = nI w) (h40 : w ≤ 40) (hr : isRow (Mi M 45) r) (hq : q ≤ w + 1) {Q : Int32 → Mm → Prop} : Rn (fX8_dotBehind 38 (pl q) (nI (bN c))) M Q ↔ Q (nI (fb (fun k => r.testBit k == c) w q)) M := by
  refine Rn_det ?_
  generalize hp : (fun k => r.testBit k == c) = p
  unfold fX8_dotBehind
  simp only [Rn_bnd, Rn_rtn, nL1, pl_1]
  refine rn_loopv (F := fun n i => fX8_dotBehind_L4 n 38 (nI (bN c)) (nI i)) (fun i M' => M' = M ∧ i ≤ w + 1 ∧ fb p w i = fb p w q) (fun i => w + 1 - i) ?_ fu q M (by unfold fu; omega) ⟨rfl, hq, rfl⟩
  rintro n i M' ⟨rfl, hi, hf⟩ ih
  show Rn (fX8_dotBehind_L4 (n + 1) 38 (nI (bN c)) (nI i)) M' _
  unfold fX8_dotBehind_L4 fX8_dotBehind_L28
  have hi2 : i < 2147483648 := by omega
  simp only [Rn_bnd, Rn_gI, hw, Rn_ite, nle (show w < 2147483648 by omega) hi2, Rn_rtn]
  by_cases h : w ≤ i
  · rw [if_pos h, if_pos h, ← hf, fb_ge_w h]; exact ⟨rfl, trivial⟩
  · have pe : p i = (r.testBit i == c) := by rw [← hp]
    simp only [mA8 hM, rn_lI hi2, mL45 hM, hr i (by omega), if_neg h, nL1, nI_add, bN_eq]
    refine ⟨by omega, ?_⟩
    by_cases hb : r.testBit i = c
    · rw [if_pos hb, hw, if_neg (by rw [nle (by omega) hi2]; exact h)]
      refine ⟨?_, trivial⟩
      rw [← hf, fb_at (by omega) (by rw [pe, hb]; simp)]
    · rw [if_neg hb]
      exact ih (i + 1) M' ⟨rfl, by omega, (fb_next (by omega) (by rw [pe]; simp [hb])).symm.trans hf⟩ (by omega)
