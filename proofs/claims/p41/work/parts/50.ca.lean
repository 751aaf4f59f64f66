/-! THE CLASS in the pool: handles 0 to 37 -/
def coR : List (Nat × Nat × Nat) := [(0, 0, 1), (0, 1, 5), (0, 2, 7), (0, 3, 8), (0, 4, 16), (0, 5, 22), (0, 6, 37), (1, 2, 2), (1, 3, 3), (1, 4, 4), (5, 2, 6), (8, 2, 9), (8, 3, 11), (8, 4, 15), (9, 4, 10), (11, 2, 12), (11, 3, 13), (11, 4, 14), (16, 2, 17), (16, 3, 18), (16, 4, 19), (16, 5, 20), (16, 6, 21), (22, 7, 23), (22, 8, 24), (22, 9, 25), (22, 10, 26), (22, 11, 27), (22, 12, 28), (22, 13, 29), (22, 14, 30), (22, 15, 31), (31, 2, 32), (31, 3, 33), (31, 4, 34), (31, 5, 35), (31, 6, 36)]
def coL : List (Nat × Nat) := [(2, 20), (3, 20), (4, 6), (6, 10), (7, 2), (10, 900), (12, 20), (13, 20), (14, 6), (17, 41), (18, 41), (19, 41), (20, 41), (23, 20), (24, 20), (25, 20), (26, 20), (27, 20), (28, 20), (29, 20), (30, 20), (32, 41), (33, 41), (34, 41), (35, 41), (37, 300)]
def CO (M : Mm) : Prop := (∀ (i : Nat) (q : Nat × Nat × Nat), coR[i]? = some q → Mr M q.1 q.2.1 = some q.2.2) ∧ ∀ (i : Nat) (q : Nat × Nat), coL[i]? = some q → Ml M q.1 = q.2
theorem cR0_0 {M : Mm} (h : CO M) : Mr M 0 0 = some 1 := h.1 0 (0, 0, 1) rfl
theorem cA0_0 {M : Mm} (h : CO M) {Q : Nat → Mm → Prop} : Rn (gA 0 0) M Q ↔ Q 1 M := Rn_gA (cR0_0 h)
theorem cR0_1 {M : Mm} (h : CO M) : Mr M 0 1 = some 5 := h.1 1 (0, 1, 5) rfl
theorem cA0_1 {M : Mm} (h : CO M) {Q : Nat → Mm → Prop} : Rn (gA 0 1) M Q ↔ Q 5 M := Rn_gA (cR0_1 h)
theorem cR0_3 {M : Mm} (h : CO M) : Mr M 0 3 = some 8 := h.1 3 (0, 3, 8) rfl
theorem cA0_3 {M : Mm} (h : CO M) {Q : Nat → Mm → Prop} : Rn (gA 0 3) M Q ↔ Q 8 M := Rn_gA (cR0_3 h)
theorem cR0_4 {M : Mm} (h : CO M) : Mr M 0 4 = some 16 := h.1 4 (0, 4, 16) rfl
theorem cA0_4 {M : Mm} (h : CO M) {Q : Nat → Mm → Prop} : Rn (gA 0 4) M Q ↔ Q 16 M := Rn_gA (cR0_4 h)
theorem cR0_5 {M : Mm} (h : CO M) : Mr M 0 5 = some 22 := h.1 5 (0, 5, 22) rfl
theorem cA0_5 {M : Mm} (h : CO M) {Q : Nat → Mm → Prop} : Rn (gA 0 5) M Q ↔ Q 22 M := Rn_gA (cR0_5 h)
theorem cR1_2 {M : Mm} (h : CO M) : Mr M 1 2 = some 2 := h.1 7 (1, 2, 2) rfl
theorem cR1_3 {M : Mm} (h : CO M) : Mr M 1 3 = some 3 := h.1 8 (1, 3, 3) rfl
theorem cA1_3 {M : Mm} (h : CO M) {Q : Nat → Mm → Prop} : Rn (gA 1 3) M Q ↔ Q 3 M := Rn_gA (cR1_3 h)
theorem cR1_4 {M : Mm} (h : CO M) : Mr M 1 4 = some 4 := h.1 9 (1, 4, 4) rfl
theorem cA1_4 {M : Mm} (h : CO M) {Q : Nat → Mm → Prop} : Rn (gA 1 4) M Q ↔ Q 4 M := Rn_gA (cR1_4 h)
theorem cR5_2 {M : Mm} (h : CO M) : Mr M 5 2 = some 6 := h.1 10 (5, 2, 6) rfl
theorem cA5_2 {M : Mm} (h : CO M) {Q : Nat → Mm → Prop} : Rn (gA 5 2) M Q ↔ Q 6 M := Rn_gA (cR5_2 h)
theorem cR8_2 {M : Mm} (h : CO M) : Mr M 8 2 = some 9 := h.1 11 (8, 2, 9) rfl
theorem cA8_2 {M : Mm} (h : CO M) {Q : Nat → Mm → Prop} : Rn (gA 8 2) M Q ↔ Q 9 M := Rn_gA (cR8_2 h)
theorem cR8_3 {M : Mm} (h : CO M) : Mr M 8 3 = some 11 := h.1 12 (8, 3, 11) rfl
theorem cA8_3 {M : Mm} (h : CO M) {Q : Nat → Mm → Prop} : Rn (gA 8 3) M Q ↔ Q 11 M := Rn_gA (cR8_3 h)
theorem cR8_4 {M : Mm} (h : CO M) : Mr M 8 4 = some 15 := h.1 13 (8, 4, 15) rfl
theorem cA8_4 {M : Mm} (h : CO M) {Q : Nat → Mm → Prop} : Rn (gA 8 4) M Q ↔ Q 15 M := Rn_gA (cR8_4 h)
theorem cR9_4 {M : Mm} (h : CO M) : Mr M 9 4 = some 10 := h.1 14 (9, 4, 10) rfl
theorem cA9_4 {M : Mm} (h : CO M) {Q : Nat → Mm → Prop} : Rn (gA 9 4) M Q ↔ Q 10 M := Rn_gA (cR9_4 h)
theorem cR11_2 {M : Mm} (h : CO M) : Mr M 11 2 = some 12 := h.1 15 (11, 2, 12) rfl
theorem cR11_3 {M : Mm} (h : CO M) : Mr M 11 3 = some 13 := h.1 16 (11, 3, 13) rfl
theorem cA11_3 {M : Mm} (h : CO M) {Q : Nat → Mm → Prop} : Rn (gA 11 3) M Q ↔ Q 13 M := Rn_gA (cR11_3 h)
theorem cR11_4 {M : Mm} (h : CO M) : Mr M 11 4 = some 14 := h.1 17 (11, 4, 14) rfl
theorem cA11_4 {M : Mm} (h : CO M) {Q : Nat → Mm → Prop} : Rn (gA 11 4) M Q ↔ Q 14 M := Rn_gA (cR11_4 h)
theorem cR16_2 {M : Mm} (h : CO M) : Mr M 16 2 = some 17 := h.1 18 (16, 2, 17) rfl
theorem cR16_3 {M : Mm} (h : CO M) : Mr M 16 3 = some 18 := h.1 19 (16, 3, 18) rfl
theorem cR16_4 {M : Mm} (h : CO M) : Mr M 16 4 = some 19 := h.1 20 (16, 4, 19) rfl
theorem cR16_5 {M : Mm} (h : CO M) : Mr M 16 5 = some 20 := h.1 21 (16, 5, 20) rfl
theorem cR16_6 {M : Mm} (h : CO M) : Mr M 16 6 = some 21 := h.1 22 (16, 6, 21) rfl
theorem cR22_7 {M : Mm} (h : CO M) : Mr M 22 7 = some 23 := h.1 23 (22, 7, 23) rfl
theorem cA22_7 {M : Mm} (h : CO M) {Q : Nat → Mm → Prop} : Rn (gA 22 7) M Q ↔ Q 23 M := Rn_gA (cR22_7 h)
theorem cR22_8 {M : Mm} (h : CO M) : Mr M 22 8 = some 24 := h.1 24 (22, 8, 24) rfl
theorem cA22_8 {M : Mm} (h : CO M) {Q : Nat → Mm → Prop} : Rn (gA 22 8) M Q ↔ Q 24 M := Rn_gA (cR22_8 h)
theorem cR22_9 {M : Mm} (h : CO M) : Mr M 22 9 = some 25 := h.1 25 (22, 9, 25) rfl
theorem cA22_9 {M : Mm} (h : CO M) {Q : Nat → Mm → Prop} : Rn (gA 22 9) M Q ↔ Q 25 M := Rn_gA (cR22_9 h)
theorem cR22_10 {M : Mm} (h : CO M) : Mr M 22 10 = some 26 := h.1 26 (22, 10, 26) rfl
theorem cA22_10 {M : Mm} (h : CO M) {Q : Nat → Mm → Prop} : Rn (gA 22 10) M Q ↔ Q 26 M := Rn_gA (cR22_10 h)
theorem cR22_11 {M : Mm} (h : CO M) : Mr M 22 11 = some 27 := h.1 27 (22, 11, 27) rfl
theorem cA22_11 {M : Mm} (h : CO M) {Q : Nat → Mm → Prop} : Rn (gA 22 11) M Q ↔ Q 27 M := Rn_gA (cR22_11 h)
theorem cR22_12 {M : Mm} (h : CO M) : Mr M 22 12 = some 28 := h.1 28 (22, 12, 28) rfl
theorem cA22_12 {M : Mm} (h : CO M) {Q : Nat → Mm → Prop} : Rn (gA 22 12) M Q ↔ Q 28 M := Rn_gA (cR22_12 h)
theorem cR22_13 {M : Mm} (h : CO M) : Mr M 22 13 = some 29 := h.1 29 (22, 13, 29) rfl
theorem cA22_13 {M : Mm} (h : CO M) {Q : Nat → Mm → Prop} : Rn (gA 22 13) M Q ↔ Q 29 M := Rn_gA (cR22_13 h)
theorem cR22_14 {M : Mm} (h : CO M) : Mr M 22 14 = some 30 := h.1 30 (22, 14, 30) rfl
theorem cA22_14 {M : Mm} (h : CO M) {Q : Nat → Mm → Prop} : Rn (gA 22 14) M Q ↔ Q 30 M := Rn_gA (cR22_14 h)
theorem cR22_15 {M : Mm} (h : CO M) : Mr M 22 15 = some 31 := h.1 31 (22, 15, 31) rfl
theorem cA22_15 {M : Mm} (h : CO M) {Q : Nat → Mm → Prop} : Rn (gA 22 15) M Q ↔ Q 31 M := Rn_gA (cR22_15 h)
theorem cR31_2 {M : Mm} (h : CO M) : Mr M 31 2 = some 32 := h.1 32 (31, 2, 32) rfl
theorem cR31_3 {M : Mm} (h : CO M) : Mr M 31 3 = some 33 := h.1 33 (31, 3, 33) rfl
theorem cR31_4 {M : Mm} (h : CO M) : Mr M 31 4 = some 34 := h.1 34 (31, 4, 34) rfl
theorem cR31_5 {M : Mm} (h : CO M) : Mr M 31 5 = some 35 := h.1 35 (31, 5, 35) rfl
theorem cR31_6 {M : Mm} (h : CO M) : Mr M 31 6 = some 36 := h.1 36 (31, 6, 36) rfl
theorem cL2 {M : Mm} (h : CO M) : Ml M 2 = 20 := h.2 0 (2, 20) rfl
theorem cL3 {M : Mm} (h : CO M) : Ml M 3 = 20 := h.2 1 (3, 20) rfl
theorem cL4 {M : Mm} (h : CO M) : Ml M 4 = 6 := h.2 2 (4, 6) rfl
theorem cL6 {M : Mm} (h : CO M) : Ml M 6 = 10 := h.2 3 (6, 10) rfl
theorem cL10 {M : Mm} (h : CO M) : Ml M 10 = 900 := h.2 5 (10, 900) rfl
theorem cL12 {M : Mm} (h : CO M) : Ml M 12 = 20 := h.2 6 (12, 20) rfl
theorem cL13 {M : Mm} (h : CO M) : Ml M 13 = 20 := h.2 7 (13, 20) rfl
theorem cL14 {M : Mm} (h : CO M) : Ml M 14 = 6 := h.2 8 (14, 6) rfl
theorem cL17 {M : Mm} (h : CO M) : Ml M 17 = 41 := h.2 9 (17, 41) rfl
theorem cL18 {M : Mm} (h : CO M) : Ml M 18 = 41 := h.2 10 (18, 41) rfl
theorem cL19 {M : Mm} (h : CO M) : Ml M 19 = 41 := h.2 11 (19, 41) rfl
theorem cL20 {M : Mm} (h : CO M) : Ml M 20 = 41 := h.2 12 (20, 41) rfl
theorem cL23 {M : Mm} (h : CO M) : Ml M 23 = 20 := h.2 13 (23, 20) rfl
theorem cL24 {M : Mm} (h : CO M) : Ml M 24 = 20 := h.2 14 (24, 20) rfl
theorem cL25 {M : Mm} (h : CO M) : Ml M 25 = 20 := h.2 15 (25, 20) rfl
theorem cL26 {M : Mm} (h : CO M) : Ml M 26 = 20 := h.2 16 (26, 20) rfl
theorem cL27 {M : Mm} (h : CO M) : Ml M 27 = 20 := h.2 17 (27, 20) rfl
theorem cL28 {M : Mm} (h : CO M) : Ml M 28 = 20 := h.2 18 (28, 20) rfl
theorem cL29 {M : Mm} (h : CO M) : Ml M 29 = 20 := h.2 19 (29, 20) rfl
theorem cL30 {M : Mm} (h : CO M) : Ml M 30 = 20 := h.2 20 (30, 20) rfl
theorem cL32 {M : Mm} (h : CO M) : Ml M 32 = 41 := h.2 21 (32, 41) rfl
theorem cL33 {M : Mm} (h : CO M) : Ml M 33 = 41 := h.2 22 (33, 41) rfl
theorem cL34 {M : Mm} (h : CO M) : Ml M 34 = 41 := h.2 23 (34, 41) rfl
theorem cL35 {M : Mm} (h : CO M) : Ml M 35 = 41 := h.2 24 (35, 41) rfl
theorem CO.sI {M : Mm} {a b : Nat} {v : Int32} (h : CO M) : CO (sI M a b v) := h
theorem CO.sJ {M : Mm} {a b : Nat} {v : Int64} (h : CO M) : CO (sJ M a b v) := h
theorem CO.xf {X : Nat → Nat → Bool} {M M1 : Mm} (h : CO M) (x : XF X M M1) : CO M1 := ⟨fun i q hq => by rw [x.mr]; exact h.1 i q hq, fun i q hq => by rw [x.ml]; exact h.2 i q hq⟩
/-! pages -/
def PgO (M : Mm) (h : Nat) : Prop := Mr M h 2 = some (h + 1) ∧ Mr M h 3 = some (h + 2) ∧ Mr M h 4 = some (h + 3) ∧ Ml M (h + 1) = 20 ∧ Ml M (h + 2) = 20 ∧ Ml M (h + 3) = 6
theorem PgO.xf {X : Nat → Nat → Bool} {M M1 : Mm} {h : Nat} (o : PgO M h) (x : XF X M M1) : PgO M1 h := by
  unfold PgO; rw [x.mr, x.ml]; exact o
theorem CO.p1 {M : Mm} (h : CO M) : PgO M 1 := ⟨cR1_2 h, cR1_3 h, cR1_4 h, cL2 h, cL3 h, cL4 h⟩
theorem CO.p11 {M : Mm} (h : CO M) : PgO M 11 := ⟨cR11_2 h, cR11_3 h, cR11_4 h, cL12 h, cL13 h, cL14 h⟩
def isPgC (M : Mm) (h : Nat) (P : Pg) : Prop := Mi M h 0 = nI (Pw P) ∧ Mi M h 1 = nI (PL P) ∧ (∀ l, l < PL P → Mj M (h + 1) l = lN (Pr P l)) ∧ (∀ l, l < 20 → Mi M (h + 2) l = nI (Ps P l)) ∧ ∀ k, k < 6 → Mi M (h + 3) k = nI (Pt P k)
def xPgH (h a _ : Nat) : Bool := decide (h ≤ a) && decide (a ≤ h + 3)
theorem isPgC.xf {X : Nat → Nat → Bool} {M M1 : Mm} {h : Nat} {P : Pg} (p : isPgC M h P) (x : XF X M M1) (q : ∀ a b, xPgH h a b = true → X a b = false) : isPgC M1 h P := by
  obtain ⟨h1, h2, h3, h4, h5⟩ := p
  have qq : ∀ a b, h ≤ a → a ≤ h + 3 → X a b = false := fun a b g1 g2 => q a b (by unfold xPgH; simp [g1, g2])
  exact ⟨by rw [x.mi (qq h 0 (by omega) (by omega))]; exact h1, by rw [x.mi (qq h 1 (by omega) (by omega))]; exact h2, fun l hl => by rw [x.mj (qq _ l (by omega) (by omega))]; exact h3 l hl, fun l hl => by rw [x.mi (qq _ l (by omega) (by omega))]; exact h4 l hl, fun l hl => by rw [x.mi (qq _ l (by omega) (by omega))]; exact h5 l hl⟩
section CPage
variable {M : Mm} {P : Pg} {h : Nat}
theorem cHasLine (hP : isPgC M h P) (hw : wfP P) {x : Int32} {Q : Int32 → Mm → Prop} : Rn (fX2_hasLine h x) M Q ↔ Q (nI (bN (isLn (PL P) x))) M := by
  refine Rn_det ?_
  have h20 := hw.2.2.1
  unfold fX2_hasLine isLn
  by_cases h1 : x < 0
  · rw [if_pos h1, Rn_grd, Rn_rtn]; refine ⟨by decide, ?_, rfl⟩; simp [h1]; rfl
  · rw [if_neg h1, Rn_bnd, Rn_gI, hP.2.1]
    by_cases h2 : x < nI (PL P)
    · rw [if_neg (Int32.not_le.mpr h2)]
      have h3 : ¬ (20 : Int32) ≤ x := by
        intro z
        have := Int32.lt_of_le_of_lt z h2
        rw [show (20 : Int32) = nI 20 from rfl, nlt (by omega) (by omega)] at this
        omega
      rw [if_neg h3, Rn_grd, Rn_rtn]; refine ⟨by decide, ?_, rfl⟩; simp [h1, h2]; rfl
    · rw [if_pos (Int32.not_lt.mp h2), Rn_grd, Rn_rtn]; refine ⟨by decide, ?_, rfl⟩; simp [h1, h2]; rfl
/-- a row, white where there is no line -/
def rwA (P : Pg) (x : Int32) : Nat := if isLn (PL P) x = true then Pr P (ix x) else 0
theorem cRowAt (o : PgO M h) (hP : isPgC M h P) (hw : wfP P) {x : Int32} {Q : Int64 → Mm → Prop} : Rn (fX2_rowAt h x) M Q ↔ Q (lN (rwA P x)) M := by
  refine Rn_det ?_
  have h20 := hw.2.2.1
  unfold fX2_rowAt
  rw [Rn_bnd, cHasLine hP hw]
  by_cases g : isLn (PL P) x = true
  · obtain ⟨l, hl, rfl⟩ := isLn_t (by omega) g
    rw [g, if_neg (by decide), Rn_bnd, Rn_gA o.1, Rn_bnd, rn_lJ (by omega), o.2.2.2.1, Rn_rtn, hP.2.2.1 l hl]
    refine ⟨by omega, ?_, rfl⟩
    unfold rwA; rw [if_pos g, ix_n (by omega)]
  · have g3 : isLn (PL P) x = false := by simpa using g
    rw [g3, if_pos (by decide), Rn_rtn]
    refine ⟨?_, rfl⟩
    unfold rwA; rw [g3, if_neg (by decide)]; rfl
theorem rwA_n {l : Nat} (hw : wfP P) (hl : l < PL P) : rwA P (nI l) = Pr P l := by
  have := hw.2.2.1
  unfold rwA; rw [if_pos (isLn_n (by omega) hl), ix_n (by omega)]
theorem rwA_u {l : Nat} (hw : wfP P) (hl : l < PL P) : rwA P (nI l - 1) = Pu P l := by
  have := hw.2.2.1
  unfold Pu
  by_cases e : l = 0
  · subst e
    rw [if_pos rfl]
    unfold rwA
    rw [show isLn (PL P) (nI 0 - 1) = false from by unfold isLn; simp; intro z; exact absurd z (by decide), if_neg (by decide)]
  · rw [if_neg e, nL1, nsb (by omega), rwA_n hw (by omega)]
theorem Pu_lt (hw : wfP P) {l : Nat} (hl : l < PL P) : Pu P l < 2 ^ Pw P := by
  unfold Pu; split
  · exact Nat.two_pow_pos _
  · exact hw.2.2.2.1 _ (by omega)
end CPage

