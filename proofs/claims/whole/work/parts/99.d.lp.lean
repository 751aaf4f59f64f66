/-! THE LAW ANSWERS 1: its loop over one state, its start -/
theorem law_loop {L : Nat} (hL : L ≤ 2560) (xs : Nat → Int32) : ∀ (n i : Nat) (M : Mm) (P : Pg) (U : List Pg) (V : Nat → Option Pg) (x : Tx) (e : Int32 × Int32) (O : List Nat), (i ≤ L ∨ i = 0) → L + 5 ≤ i + 5 * n → RC M P U V x e O → RM M P U V x e O → Ml M 61 = 1 → Rn (fL_L23 L xs n 0 38 61 (nI i)) M (fun a _ => a = 1) := by
  intro n
  induction n with
  | zero => intro i M P U V x e O hi hn; omega
  | succ n ih =>
    intro i M P U V x e O hi hn hC hM hl
    unfold fL_L23
    have e5 : (nI L - 5 : Int32).toInt = (L : Int) - 5 := pk_sub_toInt (a := L) (b := 5) (by omega) (by omega)
    refine Rn_cs (d := L < i + 5) (by rw [Int32.lt_iff_toInt_lt, e5, nI_tI (by omega)]; omega) (fun g => ?_) (fun g => ?_)
    · rw [Rn_grd, Rn_rtn]; exact ⟨by decide, rfl⟩
    have a1 : nI i + 1 = nI (i + 1) := by rw [nL1, nI_add]
    have a2 : nI i + 2 = nI (i + 2) := by rw [nL2, nI_add]
    have a3 : nI i + 3 = nI (i + 3) := by rw [nL3, nI_add]
    have a4 : nI i + 4 = nI (i + 4) := by rw [nL4, nI_add]
    have b1 : vpB (nI i + 1) L = true := by rw [a1, vpB_nI (by omega), decide_eq_true_eq]; omega
    have b2 : vpB (nI i + 2) L = true := by rw [a2, vpB_nI (by omega), decide_eq_true_eq]; omega
    have b3 : vpB (nI i + 3) L = true := by rw [a3, vpB_nI (by omega), decide_eq_true_eq]; omega
    have b4 : vpB (nI i + 4) L = true := by rw [a4, vpB_nI (by omega), decide_eq_true_eq]; omega
    have hk : ∀ (M' : Mm) (P' : Pg) (U' : List Pg) (V' : Nat → Option Pg) (x' : Tx) (e' : Int32 × Int32) (O' : List Nat), RC M' P' U' V' x' e' O' → RM M' P' U' V' x' e' O' → Ml M' 61 = 1 → Rn (fL_L23 L xs n 0 38 61 (nI i + 5)) M' (fun a _ => a = 1) := by
      intro M' P' U' V' x' e' O' h1 h2 h3
      rw [show nI i + 5 = nI (i + 5) from by rw [nL5, nI_add]]
      exact ih (i + 5) M' P' U' V' x' e' O' (Or.inl (by omega)) (by omega) h1 h2 h3
    rw [Rn_grd]
    refine ⟨by rw [vpB_nI (by omega), decide_eq_true_eq]; omega, ?_⟩
    generalize hk9 : fL_L23 L xs n 0 38 61 (nI i + 5) = k9 at hk ⊢
    refine Rn_cs Iff.rfl (fun _ => cs0 hC hM hl b1 b2 b3 b4 hk) (fun _ => ?_)
    refine Rn_cs Iff.rfl (fun _ => cs1 hC hM hl b1 b2 b3 b4 hk) (fun _ => ?_)
    refine Rn_cs Iff.rfl (fun _ => cs2 hC hM hl b1 b2 b3 b4 hk) (fun _ => ?_)
    refine Rn_cs Iff.rfl (fun _ => cs3 hC hM hl b1 b2 b3 b4 hk) (fun _ => ?_)
    refine Rn_cs Iff.rfl (fun _ => cs4 hC hM hl b1 b2 b3 b4 hk) (fun _ => ?_)
    refine Rn_cs Iff.rfl (fun _ => cs5 hC hM hl b1 b2 b3 b4 hk) (fun _ => ?_)
    refine Rn_cs Iff.rfl (fun _ => cs6 hC hM hl b1 b2 b3 b4 hk) (fun _ => ?_)
    refine Rn_cs Iff.rfl (fun _ => cs7 hC hM hl b1 b2 b3 b4 hk) (fun _ => ?_)
    refine Rn_cs Iff.rfl (fun _ => cs8 hC hM hl b1 b2 b3 b4 hk) (fun _ => ?_)
    refine Rn_cs Iff.rfl (fun _ => cs9 hC hM hl b1 b2 b3 b4 hk) (fun _ => ?_)
    refine Rn_cs Iff.rfl (fun _ => cs10 hC hM hl b1 b2 b3 b4 hk) (fun _ => ?_)
    refine Rn_cs Iff.rfl (fun _ => cs11 hC hM hl b1 b2 b3 b4 hk) (fun _ => ?_)
    refine Rn_cs Iff.rfl (fun _ => cs12 hC hM hl b1 b2 b3 b4 hk) (fun _ => ?_)
    refine Rn_cs Iff.rfl (fun _ => cs13 hC hM hl b1 b2 b3 b4 hk) (fun _ => ?_)
    refine Rn_cs Iff.rfl (fun _ => cs14 hC hM hl b1 b2 b3 b4 hk) (fun _ => ?_)
    refine Rn_cs Iff.rfl (fun _ => cs15 hC hM hl b1 b2 b3 b4 hk) (fun _ => ?_)
    refine Rn_cs Iff.rfl (fun _ => cs16 hC hM hl b1 b2 b3 b4 hk) (fun _ => ?_)
    refine Rn_cs Iff.rfl (fun _ => cs17 hC hM hl b1 b2 b3 b4 hk) (fun _ => ?_)
    refine Rn_cs Iff.rfl (fun _ => cs18 hC hM hl b1 b2 b3 b4 hk) (fun _ => ?_)
    refine Rn_cs Iff.rfl (fun _ => cs19 hC hM hl b1 b2 b3 b4 hk) (fun _ => ?_)
    refine Rn_cs Iff.rfl (fun _ => cs20 hC hM hl b1 b2 b3 b4 hk) (fun _ => ?_)
    refine Rn_cs Iff.rfl (fun _ => cs21 hC hM hl b1 b2 b3 b4 hk) (fun _ => ?_)
    refine Rn_cs Iff.rfl (fun _ => cs22 hC hM hl b1 b2 b3 b4 hk) (fun _ => ?_)
    refine Rn_cs Iff.rfl (fun _ => cs23 hC hM hl b1 b2 b3 b4 hk) (fun _ => ?_)
    refine Rn_cs Iff.rfl (fun _ => cs24 hC hM hl b1 b2 b3 b4 hk) (fun _ => ?_)
    refine Rn_cs Iff.rfl (fun _ => cs25 hC hM hl b1 b2 b3 b4 hk) (fun _ => ?_)
    refine Rn_cs Iff.rfl (fun _ => cs26 hC hM hl b1 b2 b3 b4 hk) (fun _ => ?_)
    refine Rn_cs Iff.rfl (fun _ => cs27 hC hM hl b1 b2 b3 b4 hk) (fun _ => ?_)
    refine Rn_cs Iff.rfl (fun _ => cs28 hC hM hl b1 b2 b3 b4 hk) (fun _ => ?_)
    refine Rn_cs Iff.rfl (fun _ => cs29 hC hM hl b1 b2 b3 b4 hk) (fun _ => ?_)
    refine Rn_cs Iff.rfl (fun _ => cs30 hC hM hl b1 b2 b3 b4 hk) (fun _ => ?_)
    refine Rn_cs Iff.rfl (fun _ => cs31 hC hM hl b1 b2 b3 b4 hk) (fun _ => ?_)
    refine Rn_cs Iff.rfl (fun _ => cs32 hC hM hl b1 b2 b3 b4 hk) (fun _ => ?_)
    refine Rn_cs Iff.rfl (fun _ => cs33 hC hM hl b1 b2 b3 b4 hk) (fun _ => ?_)
    refine Rn_cs Iff.rfl (fun _ => cs34 hC hM hl b1 b2 b3 b4 hk) (fun _ => ?_)
    refine Rn_cs Iff.rfl (fun _ => cs35 hC hM hl b1 b2 b3 b4 hk) (fun _ => ?_)
    refine Rn_cs Iff.rfl (fun _ => cs36 hC hM hl b1 b2 b3 b4 hk) (fun _ => ?_)
    refine Rn_cs Iff.rfl (fun _ => cs37 hC hM hl b1 b2 b3 b4 hk) (fun _ => ?_)
    exact hk M P U V x e O hC hM hl
def begD : Bool := match fX7_init 0 (nw E0 7 0) with
  | some (_, M1) => (Mn M1 == 38) && (match pre8 38 (nw M1 8 0) with
    | some (_, M2) => begB M2
    | none => false)
  | none => false
theorem begD_t : begD = true := by decide +kernel
theorem begs : ∃ M1 M2, fX7_init 0 (nw E0 7 0) = some ((), M1) ∧ Mn M1 = 38 ∧ pre8 38 (nw M1 8 0) = some ((), M2) ∧ begB M2 = true := by
  have h := begD_t
  unfold begD at h
  split at h
  · rename_i u M1 h1
    rw [Bool.and_eq_true] at h
    obtain ⟨h2, h3⟩ := h
    split at h3
    · rename_i u2 M2 h4
      exact ⟨M1, M2, h1, by simpa using h2, h4, h3⟩
    · cases h3
  · cases h
theorem law_pure {L : Nat} (hL : L ≤ 2560) (xs : Nat → Int32) : Rn (fL_law L xs) E0 (fun a _ => a = 1) := by
  obtain ⟨M1, M2, q1, n1, q2, hB⟩ := begs
  unfold begB at hB
  simp only [Bool.and_eq_true, beq_iff_eq, List.all_eq_true, List.mem_range] at hB
  obtain ⟨⟨⟨⟨⟨⟨⟨⟨⟨⟨⟨⟨⟨⟨⟨⟨⟨⟨⟨⟨⟨⟨⟨g1, g2⟩, g3⟩, g4⟩, g5⟩, g6⟩, g7⟩, g8⟩, g9⟩, g10⟩, g11⟩, g12⟩, g13⟩, g14⟩, g15⟩, g16⟩, g17⟩, g18⟩, g19⟩, g20⟩, g21⟩, g22⟩, g23⟩, g24⟩ := hB
  unfold fL_law
  have m0 : Mn E0 = 0 := rfl
  rw [Rn_bnd, Rn_nwO (by rw [m0]; unfold SB; omega), m0, Rn_bnd, Rn_fun q1, Rn_bnd, Rn_nwO (by rw [n1]; unfold SB; omega), n1, init8, bnd_as, Rn_bnd, Rn_fun q2]
  have hM2 : MO M2 := ⟨fun k hk => g15 k hk, fun h h1 h2 => by
    have := g16 (h - 39) (by omega)
    rw [show 39 + (h - 39) = h by omega] at this; exact this⟩
  rw [bnd_as, Rn_bnd]
  show Rn (fX8_begins 38 (nI 16)) M2 _
  refine (mBeginsT hM2).mono ?_
  rintro - M3 ⟨x3, F3⟩
  have m3 := hM2.xf x3
  rw [bnd_as, Rn_bnd, mA2 m3, bnd_as, Rn_bnd, mA1 m3, bnd_as, Rn_bnd]
  show Rn (fX8_copies 40 (nI 0) 39 (nI 0)) M3 _
  refine (mCopies (one := 40) (other := 39) (by decide) (by rw [mL40 m3]; omega) (by rw [mL39 m3]; omega) (by omega) (by omega)).mono ?_
  rintro - M4 ⟨x4, hk, -⟩
  have wf : wfP (pg0 16) := wf_pg0 (by omega) (by omega)
  have P4 : isPgM (Mi M4 39) (pg0 16) := F3.1.cg wf (fun k hk2 => by have := hk k hk2; rw [Nat.zero_add] at this; exact this)
  have m4 := m3.xf x4
  have n4 : Mn M4 = 61 := by rw [x4.mn, x3.mn]; exact g1
  rw [bnd_rt, Rn_bnd, Rn_nwA (by rw [n4]; unfold SB; omega), n4]
  have f3 : ∀ a b, a ≠ 40 → xFr a b = false := fun a b z => by unfold xFr; simp [z]
  have f4 : ∀ a b, a ≠ 39 → xRow 39 a b = false := fun a b z => by unfold xRow; simp [z]
  have ei : ∀ a b, a < 61 → a ≠ 39 → a ≠ 40 → Mi (nw M4 12 1) a b = Mi M2 a b := fun a b h1 h2 h3 => by
    rw [Mi_nw, if_neg (by omega), x4.mi (f4 a b h2), x3.mi (f3 a b h3)]
  have ei4 : ∀ b, Mi (nw M4 12 1) 39 b = Mi M4 39 b := fun b => by rw [Mi_nw, if_neg (by omega)]
  have er : ∀ a b, a < 61 → Mr (nw M4 12 1) a b = Mr M2 a b := fun a b h1 => by rw [Mr_nw, if_neg (by omega), x4.mr, x3.mr]
  have el : ∀ a, a < 61 → Ml (nw M4 12 1) a = Ml M2 a := fun a h1 => by rw [Ml_nw, if_neg (by omega), x4.ml, x3.ml]
  have l61 : Ml (nw M4 12 1) 61 = 1 := by rw [Ml_nw, if_pos n4.symm]
  have n5 : Mn (nw M4 12 1) = 62 := by rw [Mn_nw, n4]
  generalize nw M4 12 1 = M5 at ei ei4 er el l61 n5 ⊢
  have a1 : ∀ q ∈ coR, q.1 < 61 := by decide
  have a2 : ∀ q ∈ coL, q.1 < 61 := by decide
  have ow : ∀ i, i < 12 → owR M5 i = none := by
    intro i hi
    have := g10 i hi
    unfold owR at this ⊢
    rw [er 6 _ (by omega), er 7 _ (by omega)]; exact this
  have hCO : CO M5 := ⟨fun i q hq => by
    have h1 := List.mem_of_getElem? hq
    rw [er q.1 _ (a1 q h1)]; exact g2 q h1, fun i q hq => by
    have h1 := List.mem_of_getElem? hq
    rw [el q.1 (a2 q h1)]; exact g3 q h1⟩
  have hCP : CPg M5 (pg0 16) [] (fun _ => none) := by
    refine ⟨hCO, ⟨by rw [ei 1 0 (by omega) (by omega) (by omega)]; exact g4, by rw [ei 1 1 (by omega) (by omega) (by omega)]; exact g5, fun l hl => absurd hl (Nat.not_lt_zero _), fun l hl => by rw [ei 3 l (by omega) (by omega) (by omega)]; exact g6 l hl, fun k hk => by rw [ei 4 k (by omega) (by omega) (by omega)]; exact g7 k hk⟩, wf, ⟨0, n5, ?_, fun i p hi hp => ?_, fun i j p hi _ hp _ => ?_⟩, ⟨0, by omega, by rw [ei 5 1 (by omega) (by omega) (by omega)]; exact g9, by rw [ei 5 0 (by omega) (by omega) (by omega)]; exact g8, Nat.zero_le _, fun i Q hQ => by cases hQ⟩, fun j hj => ?_⟩
    · exact (cn_0.mpr (fun k hk => by rw [ow k hk]; rfl)).symm
    · rw [ow i hi] at hp; cases hp
    · rw [ow i hi] at hp; cases hp
    · rw [ow (10 + j) (by omega)]; rfl
  have hC : RC M5 (pg0 16) [] (fun _ => none) (fun _ => 0, 0) (0, -1) [] :=
    ⟨hCP, ⟨by rw [ei 9 0 (by omega) (by omega) (by omega)]; exact g11, Nat.zero_le _, fun i hi => absurd hi (Nat.not_lt_zero _), fun i hi => absurd hi (Nat.not_lt_zero _)⟩, by rw [ei 8 0 (by omega) (by omega) (by omega)]; exact g12, by rw [ei 8 1 (by omega) (by omega) (by omega)]; exact g13, ⟨by rw [ei 0 7 (by omega) (by omega) (by omega)]; exact g14, Nat.zero_le _, fun i hi => absurd hi (Nat.not_lt_zero _)⟩⟩
  have hM : RM M5 (pg0 16) [] (fun _ => none) (fun _ => 0, 0) (0, -1) [] := by
    refine ⟨⟨fun k hk => by rw [er 38 k (by omega)]; exact hM2.1 k hk, fun h h1 h2 => by rw [el h (by omega)]; exact hM2.2 h h1 h2⟩, ⟨P4.cg wf (fun k _ => ei4 k), wf, by rw [ei 38 4 (by omega) (by omega) (by omega)]; exact g17, Nat.zero_le _, fun i Q hQ => by cases hQ⟩, fun j hj => ?_, ⟨by rw [ei 38 32 (by omega) (by omega) (by omega)]; exact g18, Nat.zero_le _, fun i hi => absurd hi (Nat.not_lt_zero _), fun i hi => absurd hi (Nat.not_lt_zero _)⟩, fun i hi => by rw [ei 59 i (by omega) (by omega) (by omega)]; exact g22 i hi, by rw [ei 38 37 (by omega) (by omega) (by omega)]; exact g19, by rw [ei 38 38 (by omega) (by omega) (by omega)]; exact g20, ⟨by rw [ei 38 41 (by omega) (by omega) (by omega)]; exact g21, Nat.zero_le _, fun i hi => absurd hi (Nat.not_lt_zero _)⟩⟩
    show Mi M5 43 j = nI 0
    rw [ei 43 j (by omega) (by omega) (by omega)]
    rcases (show j = 0 ∨ j = 1 by omega) with rfl | rfl
    · exact g23
    · exact g24
  exact law_loop hL xs 513 0 M5 (pg0 16) [] (fun _ => none) (fun _ => 0, 0) (0, -1) [] (Or.inr rfl) (by omega) hC hM l61
