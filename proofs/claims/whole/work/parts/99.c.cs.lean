/-! THE LAW: case by case -/
theorem hh_1 : hCt [(0, 1)] (if (1 : Nat) = 1 then 0 else 0) = some (nI 1) := by decide
theorem hh_2 : hCt [(0, 1), (1, 2)] (if (1 : Nat) = 1 then 0 else 1) = some (nI 1) := by decide
theorem hh_3 : hCt [(0, 1), (1, 2)] (if (2 : Nat) = 1 then 0 else 1) = some (nI 2) := by decide
section Cases
variable {M : Mm} {P : Pg} {U : List Pg} {V : Nat → Option Pg} {x : Tx} {e : Int32 × Int32} {O : List Nat}
theorem cs0 {L : Nat} {xs : Nat → Int32} {k : Mm → Option (Int32 × Mm)} {Q : Int32 → Mm → Prop} {x4 : Int32} (hC : RC M P U V x e O) (hM : RM M P U V x e O) (hl : Ml M 61 = 1) (b1 : vpB (x4 + 1) L = true) (b2 : vpB (x4 + 2) L = true) (b3 : vpB (x4 + 3) L = true) (b4 : vpB (x4 + 4) L = true) (hk : ∀ (M' : Mm) (P' : Pg) (U' : List Pg) (V' : Nat → Option Pg) (x' : Tx) (e' : Int32 × Int32) (O' : List Nat), RC M' P' U' V' x' e' O' → RM M' P' U' V' x' e' O' → Ml M' 61 = 1 → Rn k M' Q) : Rn (fL_c0 L xs k 0 38 61 x4) M Q := by
  have hw := hC.1.2.2.1
  unfold fL_c0 fL_appendText
  rw [Rn_grd]
  refine ⟨b1, ?_⟩
  rw [Rn_bnd]
  refine (wrapC (s := (spAppend x (xs (x4 + 1).toNatClampNeg)).1) (hs := [(1, 1)]) (clT (cAppendOp hC.1.1 hC.2.1 (xs (x4 + 1).toNatClampNeg)) hC hM hl) (fun c h => by
    have hc : c = 1 := by
      unfold spAppend at h
      repeat' split at h
      all_goals first | (cases h; rfl) | (cases h)
    subst hc; exact ⟨by decide, by decide⟩)).mono ?_
  rintro v M1 ⟨w1, c1, m1, l1⟩
  rw [Rn_grd]
  refine ⟨b1, ?_⟩
  rw [Rn_bnd]
  refine (mlT (mAppendOp m1.1 m1.2.2.2.1 (xs (x4 + 1).toNatClampNeg)) m1 c1 l1).mono ?_
  rintro b M2 ⟨r2, m2, c2, l2, j2⟩
  exact tailA w1 r2 j2 l2 (hk M2 _ _ _ _ _ _ c2 m2 l2)
theorem cs1 {L : Nat} {xs : Nat → Int32} {k : Mm → Option (Int32 × Mm)} {Q : Int32 → Mm → Prop} {x4 : Int32} (hC : RC M P U V x e O) (hM : RM M P U V x e O) (hl : Ml M 61 = 1) (b1 : vpB (x4 + 1) L = true) (b2 : vpB (x4 + 2) L = true) (b3 : vpB (x4 + 3) L = true) (b4 : vpB (x4 + 4) L = true) (hk : ∀ (M' : Mm) (P' : Pg) (U' : List Pg) (V' : Nat → Option Pg) (x' : Tx) (e' : Int32 × Int32) (O' : List Nat), RC M' P' U' V' x' e' O' → RM M' P' U' V' x' e' O' → Ml M' 61 = 1 → Rn k M' Q) : Rn (fL_c1 L xs k 0 38 61 x4) M Q := by
  have hw := hC.1.2.2.1
  unfold fL_c1 fL_truncateText
  rw [Rn_grd]
  refine ⟨b1, ?_⟩
  rw [Rn_bnd]
  refine (wrapC (s := (spTrunc x (xs (x4 + 1).toNatClampNeg)).1) (hs := [(0, 1)]) (clT (cTruncOp hC.1.1 hC.2.1 (xs (x4 + 1).toNatClampNeg)) hC hM hl) (fun c h => by
    have hc : c = 1 := by
      unfold spTrunc at h
      repeat' split at h
      all_goals first | (cases h; rfl) | (cases h)
    subst hc; exact ⟨by decide, by decide⟩)).mono ?_
  rintro v M1 ⟨w1, c1, m1, l1⟩
  rw [Rn_grd]
  refine ⟨b1, ?_⟩
  rw [Rn_bnd]
  refine (mlT (mTruncOp m1.1 m1.2.2.2.1 (xs (x4 + 1).toNatClampNeg)) m1 c1 l1).mono ?_
  rintro b M2 ⟨r2, m2, c2, l2, j2⟩
  exact tailA w1 r2 j2 l2 (hk M2 _ _ _ _ _ _ c2 m2 l2)
theorem cs2 {L : Nat} {xs : Nat → Int32} {k : Mm → Option (Int32 × Mm)} {Q : Int32 → Mm → Prop} {x4 : Int32} (hC : RC M P U V x e O) (hM : RM M P U V x e O) (hl : Ml M 61 = 1) (b1 : vpB (x4 + 1) L = true) (b2 : vpB (x4 + 2) L = true) (b3 : vpB (x4 + 3) L = true) (b4 : vpB (x4 + 4) L = true) (hk : ∀ (M' : Mm) (P' : Pg) (U' : List Pg) (V' : Nat → Option Pg) (x' : Tx) (e' : Int32 × Int32) (O' : List Nat), RC M' P' U' V' x' e' O' → RM M' P' U' V' x' e' O' → Ml M' 61 = 1 → Rn k M' Q) : Rn (fL_c2 L xs k 0 38 61 x4) M Q := by
  have hw := hC.1.2.2.1
  unfold fL_c2
  rw [Rn_bnd]
  refine (clL (cLoadOp hC.1 hC.2.1) hC hM hl).mono ?_
  rintro v M1 ⟨rfl, c1, m1, l1⟩
  rw [Rn_bnd]
  refine (mlL (mLoadOp m1.1 m1.2.1 m1.2.2.2.1 m1.2.2.2.2.1) m1 c1 l1).mono ?_
  rintro b M2 ⟨rfl, m2, c2, l2, j2⟩
  rw [if_pos rfl]
  exact hk M2 _ _ _ _ _ _ c2 m2 l2
theorem cs3 {L : Nat} {xs : Nat → Int32} {k : Mm → Option (Int32 × Mm)} {Q : Int32 → Mm → Prop} {x4 : Int32} (hC : RC M P U V x e O) (hM : RM M P U V x e O) (hl : Ml M 61 = 1) (b1 : vpB (x4 + 1) L = true) (b2 : vpB (x4 + 2) L = true) (b3 : vpB (x4 + 3) L = true) (b4 : vpB (x4 + 4) L = true) (hk : ∀ (M' : Mm) (P' : Pg) (U' : List Pg) (V' : Nat → Option Pg) (x' : Tx) (e' : Int32 × Int32) (O' : List Nat), RC M' P' U' V' x' e' O' → RM M' P' U' V' x' e' O' → Ml M' 61 = 1 → Rn k M' Q) : Rn (fL_c3 L xs k 0 38 61 x4) M Q := by
  have hw := hC.1.2.2.1
  unfold fL_c3
  rw [Rn_bnd, cErrorCode hC.1.1, hC.2.2.1, Rn_bnd]
  refine (mlO (mErrC (M := M)) hM hC hl).mono ?_
  rintro b M2 ⟨rfl, m2, c2, l2, j2⟩
  rw [hM.2.2.2.2.2.1, if_pos rfl]
  exact hk M2 _ _ _ _ _ _ c2 m2 l2
theorem cs4 {L : Nat} {xs : Nat → Int32} {k : Mm → Option (Int32 × Mm)} {Q : Int32 → Mm → Prop} {x4 : Int32} (hC : RC M P U V x e O) (hM : RM M P U V x e O) (hl : Ml M 61 = 1) (b1 : vpB (x4 + 1) L = true) (b2 : vpB (x4 + 2) L = true) (b3 : vpB (x4 + 3) L = true) (b4 : vpB (x4 + 4) L = true) (hk : ∀ (M' : Mm) (P' : Pg) (U' : List Pg) (V' : Nat → Option Pg) (x' : Tx) (e' : Int32 × Int32) (O' : List Nat), RC M' P' U' V' x' e' O' → RM M' P' U' V' x' e' O' → Ml M' 61 = 1 → Rn k M' Q) : Rn (fL_c4 L xs k 0 38 61 x4) M Q := by
  have hw := hC.1.2.2.1
  unfold fL_c4
  rw [Rn_bnd, cErrorPos hC.1.1, hC.2.2.2.1, Rn_bnd]
  refine (mlO (mErrP (M := M)) hM hC hl).mono ?_
  rintro b M2 ⟨rfl, m2, c2, l2, j2⟩
  rw [hM.2.2.2.2.2.2.1, if_pos rfl]
  exact hk M2 _ _ _ _ _ _ c2 m2 l2
theorem cs5 {L : Nat} {xs : Nat → Int32} {k : Mm → Option (Int32 × Mm)} {Q : Int32 → Mm → Prop} {x4 : Int32} (hC : RC M P U V x e O) (hM : RM M P U V x e O) (hl : Ml M 61 = 1) (b1 : vpB (x4 + 1) L = true) (b2 : vpB (x4 + 2) L = true) (b3 : vpB (x4 + 3) L = true) (b4 : vpB (x4 + 4) L = true) (hk : ∀ (M' : Mm) (P' : Pg) (U' : List Pg) (V' : Nat → Option Pg) (x' : Tx) (e' : Int32 × Int32) (O' : List Nat), RC M' P' U' V' x' e' O' → RM M' P' U' V' x' e' O' → Ml M' 61 = 1 → Rn k M' Q) : Rn (fL_c5 L xs k 0 38 61 x4) M Q := by
  have hw := hC.1.2.2.1
  unfold fL_c5 fL_count
  obtain ⟨n9, hn1, hn2, hn3, -⟩ := hC.1.2.2.2.2.1
  rw [Rn_grd]
  refine ⟨b1, ?_⟩
  rw [Rn_bnd]
  refine (wrapC (s := spCount P U.length (xs (x4 + 1).toNatClampNeg)) (hs := [(0, 1)]) (clR (cCount hC.1.1 hC.1.2.1 hw hn3 (xs (x4 + 1).toNatClampNeg)) z_Co hC hM hl) (fun c h => by
    have hc : c = 1 := by
      unfold spCount at h
      repeat' split at h
      all_goals first | (cases h; rfl) | (cases h)
    subst hc; exact ⟨by decide, by decide⟩)).mono ?_
  rintro v M1 ⟨w1, c1, m1, l1⟩
  rw [Rn_grd]
  refine ⟨b1, ?_⟩
  rw [Rn_bnd]
  refine (mlR (mCount m1.1 m1.2.1.1 m1.2.1.2.1 m1.2.1.2.2.1 (xs (x4 + 1).toNatClampNeg)) m1 c1 l1).mono ?_
  rintro b M2 ⟨r2, m2, c2, l2, j2⟩
  exact tailA w1 r2 j2 l2 (hk M2 _ _ _ _ _ _ c2 m2 l2)
theorem cs6 {L : Nat} {xs : Nat → Int32} {k : Mm → Option (Int32 × Mm)} {Q : Int32 → Mm → Prop} {x4 : Int32} (hC : RC M P U V x e O) (hM : RM M P U V x e O) (hl : Ml M 61 = 1) (b1 : vpB (x4 + 1) L = true) (b2 : vpB (x4 + 2) L = true) (b3 : vpB (x4 + 3) L = true) (b4 : vpB (x4 + 4) L = true) (hk : ∀ (M' : Mm) (P' : Pg) (U' : List Pg) (V' : Nat → Option Pg) (x' : Tx) (e' : Int32 × Int32) (O' : List Nat), RC M' P' U' V' x' e' O' → RM M' P' U' V' x' e' O' → Ml M' 61 = 1 → Rn k M' Q) : Rn (fL_c6 L xs k 0 38 61 x4) M Q := by
  have hw := hC.1.2.2.1
  unfold fL_c6 fL_dot
  rw [Rn_grd]
  refine ⟨b1, ?_⟩
  rw [Rn_grd]
  refine ⟨b2, ?_⟩
  rw [Rn_bnd]
  refine (wrapC (s := spDot P (xs (x4 + 1).toNatClampNeg) (xs (x4 + 2).toNatClampNeg)) (hs := [(2, 1)]) (clR (cDot hC.1.1 hC.1.2.1 hw (xs (x4 + 1).toNatClampNeg) (xs (x4 + 2).toNatClampNeg)) z_Co hC hM hl) (fun c h => by
    have hc : c = 1 := by
      unfold spDot at h
      repeat' split at h
      all_goals first | (cases h; rfl) | (cases h)
    subst hc; exact ⟨by decide, by decide⟩)).mono ?_
  rintro v M1 ⟨w1, c1, m1, l1⟩
  rw [Rn_grd]
  refine ⟨b1, ?_⟩
  rw [Rn_grd]
  refine ⟨b2, ?_⟩
  rw [Rn_bnd]
  refine (mlR (mDot m1.1 m1.2.1.1 m1.2.1.2.1 (xs (x4 + 1).toNatClampNeg) (xs (x4 + 2).toNatClampNeg)) m1 c1 l1).mono ?_
  rintro b M2 ⟨r2, m2, c2, l2, j2⟩
  exact tailA w1 r2 j2 l2 (hk M2 _ _ _ _ _ _ c2 m2 l2)
theorem cs7 {L : Nat} {xs : Nat → Int32} {k : Mm → Option (Int32 × Mm)} {Q : Int32 → Mm → Prop} {x4 : Int32} (hC : RC M P U V x e O) (hM : RM M P U V x e O) (hl : Ml M 61 = 1) (b1 : vpB (x4 + 1) L = true) (b2 : vpB (x4 + 2) L = true) (b3 : vpB (x4 + 3) L = true) (b4 : vpB (x4 + 4) L = true) (hk : ∀ (M' : Mm) (P' : Pg) (U' : List Pg) (V' : Nat → Option Pg) (x' : Tx) (e' : Int32 × Int32) (O' : List Nat), RC M' P' U' V' x' e' O' → RM M' P' U' V' x' e' O' → Ml M' 61 = 1 → Rn k M' Q) : Rn (fL_c7 L xs k 0 38 61 x4) M Q := by
  have hw := hC.1.2.2.1
  unfold fL_c7 fL_line
  rw [Rn_grd]
  refine ⟨b1, ?_⟩
  rw [Rn_grd]
  refine ⟨b2, ?_⟩
  rw [Rn_bnd]
  refine (wrapC (s := spLine P (xs (x4 + 1).toNatClampNeg) (xs (x4 + 2).toNatClampNeg)) (hs := [(2, 1), (0, 2)]) (clR (cLineOp hC.1.1 hC.1.2.1 hw (xs (x4 + 1).toNatClampNeg) (xs (x4 + 2).toNatClampNeg)) z_Co hC hM hl) (fun c h => by
    have hc : c = 1 ∨ c = 2 := by
      unfold spLine at h
      repeat' split at h
      all_goals first | (cases h; exact Or.inl rfl) | (cases h; exact Or.inr rfl) | (cases h)
    rcases hc with rfl | rfl <;> exact ⟨by decide, by decide⟩)).mono ?_
  rintro v M1 ⟨w1, c1, m1, l1⟩
  rw [Rn_grd]
  refine ⟨b1, ?_⟩
  rw [Rn_grd]
  refine ⟨b2, ?_⟩
  rw [Rn_bnd]
  refine (mlR (mLineOp m1.1 m1.2.1.1 m1.2.1.2.1 (xs (x4 + 1).toNatClampNeg) (xs (x4 + 2).toNatClampNeg)) m1 c1 l1).mono ?_
  rintro b M2 ⟨r2, m2, c2, l2, j2⟩
  exact tailA w1 r2 j2 l2 (hk M2 _ _ _ _ _ _ c2 m2 l2)
theorem cs8 {L : Nat} {xs : Nat → Int32} {k : Mm → Option (Int32 × Mm)} {Q : Int32 → Mm → Prop} {x4 : Int32} (hC : RC M P U V x e O) (hM : RM M P U V x e O) (hl : Ml M 61 = 1) (b1 : vpB (x4 + 1) L = true) (b2 : vpB (x4 + 2) L = true) (b3 : vpB (x4 + 3) L = true) (b4 : vpB (x4 + 4) L = true) (hk : ∀ (M' : Mm) (P' : Pg) (U' : List Pg) (V' : Nat → Option Pg) (x' : Tx) (e' : Int32 × Int32) (O' : List Nat), RC M' P' U' V' x' e' O' → RM M' P' U' V' x' e' O' → Ml M' 61 = 1 → Rn k M' Q) : Rn (fL_c8 L xs k 0 38 61 x4) M Q := by
  have hw := hC.1.2.2.1
  unfold fL_c8 fL_run
  rw [Rn_grd]
  refine ⟨b1, ?_⟩
  rw [Rn_grd]
  refine ⟨b2, ?_⟩
  rw [Rn_bnd]
  refine (wrapC (s := spRun P (xs (x4 + 1).toNatClampNeg) (xs (x4 + 2).toNatClampNeg)) (hs := [(2, 1)]) (clR (cRunOp hC.1.1 hC.1.2.1 hw (xs (x4 + 1).toNatClampNeg) (xs (x4 + 2).toNatClampNeg)) z_Co hC hM hl) (fun c h => by
    have hc : c = 1 := by
      unfold spRun at h
      repeat' split at h
      all_goals first | (cases h; rfl) | (cases h)
    subst hc; exact ⟨by decide, by decide⟩)).mono ?_
  rintro v M1 ⟨w1, c1, m1, l1⟩
  rw [Rn_grd]
  refine ⟨b1, ?_⟩
  rw [Rn_grd]
  refine ⟨b2, ?_⟩
  rw [Rn_bnd]
  refine (mlR (mRunOp m1.1 m1.2.1.1 m1.2.1.2.1 (xs (x4 + 1).toNatClampNeg) (xs (x4 + 2).toNatClampNeg)) m1 c1 l1).mono ?_
  rintro b M2 ⟨r2, m2, c2, l2, j2⟩
  exact tailA w1 r2 j2 l2 (hk M2 _ _ _ _ _ _ c2 m2 l2)
theorem cs9 {L : Nat} {xs : Nat → Int32} {k : Mm → Option (Int32 × Mm)} {Q : Int32 → Mm → Prop} {x4 : Int32} (hC : RC M P U V x e O) (hM : RM M P U V x e O) (hl : Ml M 61 = 1) (b1 : vpB (x4 + 1) L = true) (b2 : vpB (x4 + 2) L = true) (b3 : vpB (x4 + 3) L = true) (b4 : vpB (x4 + 4) L = true) (hk : ∀ (M' : Mm) (P' : Pg) (U' : List Pg) (V' : Nat → Option Pg) (x' : Tx) (e' : Int32 × Int32) (O' : List Nat), RC M' P' U' V' x' e' O' → RM M' P' U' V' x' e' O' → Ml M' 61 = 1 → Rn k M' Q) : Rn (fL_c9 L xs k 0 38 61 x4) M Q := by
  have hw := hC.1.2.2.1
  unfold fL_c9 fL_mode
  rw [Rn_grd]
  refine ⟨b1, ?_⟩
  rw [Rn_grd]
  refine ⟨b2, ?_⟩
  rw [Rn_grd]
  refine ⟨b3, ?_⟩
  rw [Rn_bnd]
  refine (wrapC (s := spMode P (xs (x4 + 1).toNatClampNeg) (xs (x4 + 2).toNatClampNeg) (xs (x4 + 3).toNatClampNeg)) (hs := [(2, 1), (0, 2)]) (clR (cModeOp hC.1.1 hC.1.2.1 hw (xs (x4 + 1).toNatClampNeg) (xs (x4 + 2).toNatClampNeg) (xs (x4 + 3).toNatClampNeg)) z_Co hC hM hl) (fun c h => by
    have hc : c = 1 ∨ c = 2 := by
      unfold spMode at h
      repeat' split at h
      all_goals first | (cases h; exact Or.inl rfl) | (cases h; exact Or.inr rfl) | (cases h)
    rcases hc with rfl | rfl <;> exact ⟨by decide, by decide⟩)).mono ?_
  rintro v M1 ⟨w1, c1, m1, l1⟩
  rw [Rn_grd]
  refine ⟨b1, ?_⟩
  rw [Rn_grd]
  refine ⟨b2, ?_⟩
  rw [Rn_grd]
  refine ⟨b3, ?_⟩
  rw [Rn_bnd]
  refine (mlR (mModeOp m1.1 m1.2.1.1 m1.2.1.2.1 (xs (x4 + 1).toNatClampNeg) (xs (x4 + 2).toNatClampNeg) (xs (x4 + 3).toNatClampNeg)) m1 c1 l1).mono ?_
  rintro b M2 ⟨r2, m2, c2, l2, j2⟩
  exact tailA w1 r2 j2 l2 (hk M2 _ _ _ _ _ _ c2 m2 l2)
theorem cs10 {L : Nat} {xs : Nat → Int32} {k : Mm → Option (Int32 × Mm)} {Q : Int32 → Mm → Prop} {x4 : Int32} (hC : RC M P U V x e O) (hM : RM M P U V x e O) (hl : Ml M 61 = 1) (b1 : vpB (x4 + 1) L = true) (b2 : vpB (x4 + 2) L = true) (b3 : vpB (x4 + 3) L = true) (b4 : vpB (x4 + 4) L = true) (hk : ∀ (M' : Mm) (P' : Pg) (U' : List Pg) (V' : Nat → Option Pg) (x' : Tx) (e' : Int32 × Int32) (O' : List Nat), RC M' P' U' V' x' e' O' → RM M' P' U' V' x' e' O' → Ml M' 61 = 1 → Rn k M' Q) : Rn (fL_c10 L xs k 0 38 61 x4) M Q := by
  have hw := hC.1.2.2.1
  unfold fL_c10 fL_change
  rw [Rn_grd]
  refine ⟨b1, ?_⟩
  rw [Rn_grd]
  refine ⟨b2, ?_⟩
  rw [Rn_bnd]
  refine (wrapC (s := spChange P (xs (x4 + 1).toNatClampNeg) (xs (x4 + 2).toNatClampNeg)) (hs := [(2, 1)]) (clR (cChangeOp hC.1.1 hC.1.2.1 hw (xs (x4 + 1).toNatClampNeg) (xs (x4 + 2).toNatClampNeg)) z_Co hC hM hl) (fun c h => by
    have hc : c = 1 := by
      unfold spChange at h
      repeat' split at h
      all_goals first | (cases h; rfl) | (cases h)
    subst hc; exact ⟨by decide, by decide⟩)).mono ?_
  rintro v M1 ⟨w1, c1, m1, l1⟩
  rw [Rn_grd]
  refine ⟨b1, ?_⟩
  rw [Rn_grd]
  refine ⟨b2, ?_⟩
  rw [Rn_bnd]
  refine (mlR (mChangeOp m1.1 m1.2.1.1 m1.2.1.2.1 (xs (x4 + 1).toNatClampNeg) (xs (x4 + 2).toNatClampNeg)) m1 c1 l1).mono ?_
  rintro b M2 ⟨r2, m2, c2, l2, j2⟩
  exact tailA w1 r2 j2 l2 (hk M2 _ _ _ _ _ _ c2 m2 l2)
theorem cs11 {L : Nat} {xs : Nat → Int32} {k : Mm → Option (Int32 × Mm)} {Q : Int32 → Mm → Prop} {x4 : Int32} (hC : RC M P U V x e O) (hM : RM M P U V x e O) (hl : Ml M 61 = 1) (b1 : vpB (x4 + 1) L = true) (b2 : vpB (x4 + 2) L = true) (b3 : vpB (x4 + 3) L = true) (b4 : vpB (x4 + 4) L = true) (hk : ∀ (M' : Mm) (P' : Pg) (U' : List Pg) (V' : Nat → Option Pg) (x' : Tx) (e' : Int32 × Int32) (O' : List Nat), RC M' P' U' V' x' e' O' → RM M' P' U' V' x' e' O' → Ml M' 61 = 1 → Rn k M' Q) : Rn (fL_c11 L xs k 0 38 61 x4) M Q := by
  have hw := hC.1.2.2.1
  unfold fL_c11 fL_longest
  rw [Rn_grd]
  refine ⟨b1, ?_⟩
  rw [Rn_bnd]
  refine (wrapC (s := spLongest P (xs (x4 + 1).toNatClampNeg)) (hs := [(0, 1)]) (clR (cLongest hC.1.1 hC.1.2.1 hw (xs (x4 + 1).toNatClampNeg)) z_Co hC hM hl) (fun c h => by
    have hc : c = 1 := by
      unfold spLongest at h
      repeat' split at h
      all_goals first | (cases h; rfl) | (cases h)
    subst hc; exact ⟨by decide, by decide⟩)).mono ?_
  rintro v M1 ⟨w1, c1, m1, l1⟩
  rw [Rn_grd]
  refine ⟨b1, ?_⟩
  rw [Rn_bnd]
  refine (mlR (mLongest m1.1 m1.2.1.1 m1.2.1.2.1 (xs (x4 + 1).toNatClampNeg)) m1 c1 l1).mono ?_
  rintro b M2 ⟨r2, m2, c2, l2, j2⟩
  exact tailA w1 r2 j2 l2 (hk M2 _ _ _ _ _ _ c2 m2 l2)
theorem cs12 {L : Nat} {xs : Nat → Int32} {k : Mm → Option (Int32 × Mm)} {Q : Int32 → Mm → Prop} {x4 : Int32} (hC : RC M P U V x e O) (hM : RM M P U V x e O) (hl : Ml M 61 = 1) (b1 : vpB (x4 + 1) L = true) (b2 : vpB (x4 + 2) L = true) (b3 : vpB (x4 + 3) L = true) (b4 : vpB (x4 + 4) L = true) (hk : ∀ (M' : Mm) (P' : Pg) (U' : List Pg) (V' : Nat → Option Pg) (x' : Tx) (e' : Int32 × Int32) (O' : List Nat), RC M' P' U' V' x' e' O' → RM M' P' U' V' x' e' O' → Ml M' 61 = 1 → Rn k M' Q) : Rn (fL_c12 L xs k 0 38 61 x4) M Q := by
  have hw := hC.1.2.2.1
  unfold fL_c12 fL_runsOf
  rw [Rn_grd]
  refine ⟨b1, ?_⟩
  rw [Rn_grd]
  refine ⟨b2, ?_⟩
  rw [Rn_bnd]
  refine (wrapC (s := spRunsOf P (xs (x4 + 1).toNatClampNeg) (xs (x4 + 2).toNatClampNeg)) (hs := [(0, 1)]) (clR (cRunsOf hC.1.1 hC.1.2.1 hw (xs (x4 + 1).toNatClampNeg) (xs (x4 + 2).toNatClampNeg)) z_Co hC hM hl) (fun c h => by
    have hc : c = 1 := by
      unfold spRunsOf at h
      repeat' split at h
      all_goals first | (cases h; rfl) | (cases h)
    subst hc; exact ⟨by decide, by decide⟩)).mono ?_
  rintro v M1 ⟨w1, c1, m1, l1⟩
  rw [Rn_grd]
  refine ⟨b1, ?_⟩
  rw [Rn_grd]
  refine ⟨b2, ?_⟩
  rw [Rn_bnd]
  refine (mlR (mRunsOf m1.1 m1.2.1.1 m1.2.1.2.1 (xs (x4 + 1).toNatClampNeg) (xs (x4 + 2).toNatClampNeg)) m1 c1 l1).mono ?_
  rintro b M2 ⟨r2, m2, c2, l2, j2⟩
  exact tailA w1 r2 j2 l2 (hk M2 _ _ _ _ _ _ c2 m2 l2)
theorem cs13 {L : Nat} {xs : Nat → Int32} {k : Mm → Option (Int32 × Mm)} {Q : Int32 → Mm → Prop} {x4 : Int32} (hC : RC M P U V x e O) (hM : RM M P U V x e O) (hl : Ml M 61 = 1) (b1 : vpB (x4 + 1) L = true) (b2 : vpB (x4 + 2) L = true) (b3 : vpB (x4 + 3) L = true) (b4 : vpB (x4 + 4) L = true) (hk : ∀ (M' : Mm) (P' : Pg) (U' : List Pg) (V' : Nat → Option Pg) (x' : Tx) (e' : Int32 × Int32) (O' : List Nat), RC M' P' U' V' x' e' O' → RM M' P' U' V' x' e' O' → Ml M' 61 = 1 → Rn k M' Q) : Rn (fL_c13 L xs k 0 38 61 x4) M Q := by
  have hw := hC.1.2.2.1
  unfold fL_c13 fL_readBelow
  rw [Rn_grd]
  refine ⟨b1, ?_⟩
  rw [Rn_grd]
  refine ⟨b2, ?_⟩
  rw [Rn_bnd]
  refine (wrapC (s := spReadBelow P (xs (x4 + 1).toNatClampNeg) (xs (x4 + 2).toNatClampNeg)) (hs := [(2, 1)]) (clR (cReadBelow hC.1.1 hC.1.2.1 hw (xs (x4 + 1).toNatClampNeg) (xs (x4 + 2).toNatClampNeg)) z_Co hC hM hl) (fun c h => by
    have hc : c = 1 := by
      unfold spReadBelow at h
      repeat' split at h
      all_goals first | (cases h; rfl) | (cases h)
    subst hc; exact ⟨by decide, by decide⟩)).mono ?_
  rintro v M1 ⟨w1, c1, m1, l1⟩
  rw [Rn_grd]
  refine ⟨b1, ?_⟩
  rw [Rn_grd]
  refine ⟨b2, ?_⟩
  rw [Rn_bnd]
  refine (mlR (mReadBelow m1.1 m1.2.1.1 m1.2.1.2.1 (xs (x4 + 1).toNatClampNeg) (xs (x4 + 2).toNatClampNeg)) m1 c1 l1).mono ?_
  rintro b M2 ⟨r2, m2, c2, l2, j2⟩
  exact tailA w1 r2 j2 l2 (hk M2 _ _ _ _ _ _ c2 m2 l2)
theorem cs14 {L : Nat} {xs : Nat → Int32} {k : Mm → Option (Int32 × Mm)} {Q : Int32 → Mm → Prop} {x4 : Int32} (hC : RC M P U V x e O) (hM : RM M P U V x e O) (hl : Ml M 61 = 1) (b1 : vpB (x4 + 1) L = true) (b2 : vpB (x4 + 2) L = true) (b3 : vpB (x4 + 3) L = true) (b4 : vpB (x4 + 4) L = true) (hk : ∀ (M' : Mm) (P' : Pg) (U' : List Pg) (V' : Nat → Option Pg) (x' : Tx) (e' : Int32 × Int32) (O' : List Nat), RC M' P' U' V' x' e' O' → RM M' P' U' V' x' e' O' → Ml M' 61 = 1 → Rn k M' Q) : Rn (fL_c14 L xs k 0 38 61 x4) M Q := by
  have hw := hC.1.2.2.1
  unfold fL_c14 fL_set
  rw [Rn_grd]
  refine ⟨b1, ?_⟩
  rw [Rn_grd]
  refine ⟨b2, ?_⟩
  rw [Rn_bnd]
  refine (wrapC (s := (spSet P U (xs (x4 + 1).toNatClampNeg) (xs (x4 + 2).toNatClampNeg)).1) (hs := [(0, 1)]) (clG (cSetOp hC.1 (xs (x4 + 1).toNatClampNeg) (xs (x4 + 2).toNatClampNeg)) hC hM hl) (fun c h => by
    have hc : c = 1 := by
      unfold spSet at h
      repeat' split at h
      all_goals first | (cases h; rfl) | (cases h)
    subst hc; exact ⟨by decide, by decide⟩)).mono ?_
  rintro v M1 ⟨w1, c1, m1, l1⟩
  rw [Rn_grd]
  refine ⟨b1, ?_⟩
  rw [Rn_grd]
  refine ⟨b2, ?_⟩
  rw [Rn_bnd]
  refine (mlE (mSetOp m1.1 m1.2.1 (xs (x4 + 1).toNatClampNeg) (xs (x4 + 2).toNatClampNeg)) m1 c1 l1).mono ?_
  rintro b M2 ⟨r2, m2, c2, l2, j2⟩
  exact tailA w1 r2 j2 l2 (hk M2 _ _ _ _ _ _ c2 m2 l2)
theorem cs15 {L : Nat} {xs : Nat → Int32} {k : Mm → Option (Int32 × Mm)} {Q : Int32 → Mm → Prop} {x4 : Int32} (hC : RC M P U V x e O) (hM : RM M P U V x e O) (hl : Ml M 61 = 1) (b1 : vpB (x4 + 1) L = true) (b2 : vpB (x4 + 2) L = true) (b3 : vpB (x4 + 3) L = true) (b4 : vpB (x4 + 4) L = true) (hk : ∀ (M' : Mm) (P' : Pg) (U' : List Pg) (V' : Nat → Option Pg) (x' : Tx) (e' : Int32 × Int32) (O' : List Nat), RC M' P' U' V' x' e' O' → RM M' P' U' V' x' e' O' → Ml M' 61 = 1 → Rn k M' Q) : Rn (fL_c15 L xs k 0 38 61 x4) M Q := by
  have hw := hC.1.2.2.1
  unfold fL_c15 fL_lose
  rw [Rn_grd]
  refine ⟨b1, ?_⟩
  rw [Rn_grd]
  refine ⟨b2, ?_⟩
  rw [Rn_bnd]
  refine (wrapC (s := (spLose P U (xs (x4 + 1).toNatClampNeg) (xs (x4 + 2).toNatClampNeg)).1) (hs := [(2, 1), (0, 2)]) (clG (cLoseOp hC.1 (xs (x4 + 1).toNatClampNeg) (xs (x4 + 2).toNatClampNeg)) hC hM hl) (fun c h => by
    have hc : c = 1 ∨ c = 2 := by
      unfold spLose at h
      repeat' split at h
      all_goals first | (cases h; exact Or.inl rfl) | (cases h; exact Or.inr rfl) | (cases h)
    rcases hc with rfl | rfl <;> exact ⟨by decide, by decide⟩)).mono ?_
  rintro v M1 ⟨w1, c1, m1, l1⟩
  rw [Rn_grd]
  refine ⟨b1, ?_⟩
  rw [Rn_grd]
  refine ⟨b2, ?_⟩
  rw [Rn_bnd]
  refine (mlE (mLoseOp m1.1 m1.2.1 (xs (x4 + 1).toNatClampNeg) (xs (x4 + 2).toNatClampNeg)) m1 c1 l1).mono ?_
  rintro b M2 ⟨r2, m2, c2, l2, j2⟩
  exact tailA w1 r2 j2 l2 (hk M2 _ _ _ _ _ _ c2 m2 l2)
theorem cs16 {L : Nat} {xs : Nat → Int32} {k : Mm → Option (Int32 × Mm)} {Q : Int32 → Mm → Prop} {x4 : Int32} (hC : RC M P U V x e O) (hM : RM M P U V x e O) (hl : Ml M 61 = 1) (b1 : vpB (x4 + 1) L = true) (b2 : vpB (x4 + 2) L = true) (b3 : vpB (x4 + 3) L = true) (b4 : vpB (x4 + 4) L = true) (hk : ∀ (M' : Mm) (P' : Pg) (U' : List Pg) (V' : Nat → Option Pg) (x' : Tx) (e' : Int32 × Int32) (O' : List Nat), RC M' P' U' V' x' e' O' → RM M' P' U' V' x' e' O' → Ml M' 61 = 1 → Rn k M' Q) : Rn (fL_c16 L xs k 0 38 61 x4) M Q := by
  have hw := hC.1.2.2.1
  unfold fL_c16 fL_addLine
  rw [Rn_grd]
  refine ⟨b1, ?_⟩
  rw [Rn_grd]
  refine ⟨b2, ?_⟩
  rw [Rn_bnd]
  refine (wrapC (s := (spAdd P U (xs (x4 + 1).toNatClampNeg) (xs (x4 + 2).toNatClampNeg)).1) (hs := [(0, 1), (1, 2)]) (clG (cAddOp hC.1 (xs (x4 + 1).toNatClampNeg) (xs (x4 + 2).toNatClampNeg)) hC hM hl) (fun c h => by
    have hc : c = 1 ∨ c = 2 := by
      unfold spAdd at h
      repeat' split at h
      all_goals first | (cases h; exact Or.inl rfl) | (cases h; exact Or.inr rfl) | (cases h)
    rcases hc with rfl | rfl <;> exact ⟨by decide, by decide⟩)).mono ?_
  rintro v M1 ⟨w1, c1, m1, l1⟩
  rw [Rn_grd]
  refine ⟨b1, ?_⟩
  rw [Rn_grd]
  refine ⟨b2, ?_⟩
  rw [Rn_bnd]
  refine (mlE (mAddOp m1.1 m1.2.1 (xs (x4 + 1).toNatClampNeg) (xs (x4 + 2).toNatClampNeg)) m1 c1 l1).mono ?_
  rintro b M2 ⟨r2, m2, c2, l2, j2⟩
  exact tailA w1 r2 j2 l2 (hk M2 _ _ _ _ _ _ c2 m2 l2)
theorem cs17 {L : Nat} {xs : Nat → Int32} {k : Mm → Option (Int32 × Mm)} {Q : Int32 → Mm → Prop} {x4 : Int32} (hC : RC M P U V x e O) (hM : RM M P U V x e O) (hl : Ml M 61 = 1) (b1 : vpB (x4 + 1) L = true) (b2 : vpB (x4 + 2) L = true) (b3 : vpB (x4 + 3) L = true) (b4 : vpB (x4 + 4) L = true) (hk : ∀ (M' : Mm) (P' : Pg) (U' : List Pg) (V' : Nat → Option Pg) (x' : Tx) (e' : Int32 × Int32) (O' : List Nat), RC M' P' U' V' x' e' O' → RM M' P' U' V' x' e' O' → Ml M' 61 = 1 → Rn k M' Q) : Rn (fL_c17 L xs k 0 38 61 x4) M Q := by
  have hw := hC.1.2.2.1
  unfold fL_c17 fL_paint
  rw [Rn_grd]
  refine ⟨b1, ?_⟩
  rw [Rn_grd]
  refine ⟨b2, ?_⟩
  rw [Rn_grd]
  refine ⟨b3, ?_⟩
  rw [Rn_grd]
  refine ⟨b4, ?_⟩
  rw [Rn_bnd]
  refine (wrapC (s := (spPaint P U (xs (x4 + 1).toNatClampNeg) (xs (x4 + 2).toNatClampNeg) (xs (x4 + 3).toNatClampNeg) (xs (x4 + 4).toNatClampNeg)).1) (hs := [(2, 1), (0, 2)]) (clG (cPaintOp hC.1 (xs (x4 + 1).toNatClampNeg) (xs (x4 + 2).toNatClampNeg) (xs (x4 + 3).toNatClampNeg) (xs (x4 + 4).toNatClampNeg)) hC hM hl) (fun c h => by
    have hc : c = 1 ∨ c = 2 := by
      unfold spPaint at h
      repeat' split at h
      all_goals first | (cases h; exact Or.inl rfl) | (cases h; exact Or.inr rfl) | (cases h)
    rcases hc with rfl | rfl <;> exact ⟨by decide, by decide⟩)).mono ?_
  rintro v M1 ⟨w1, c1, m1, l1⟩
  rw [Rn_grd]
  refine ⟨b1, ?_⟩
  rw [Rn_grd]
  refine ⟨b2, ?_⟩
  rw [Rn_grd]
  refine ⟨b3, ?_⟩
  rw [Rn_grd]
  refine ⟨b4, ?_⟩
  rw [Rn_bnd]
  refine (mlE (mPaintOp m1.1 m1.2.1 (xs (x4 + 1).toNatClampNeg) (xs (x4 + 2).toNatClampNeg) (xs (x4 + 3).toNatClampNeg) (xs (x4 + 4).toNatClampNeg)) m1 c1 l1).mono ?_
  rintro b M2 ⟨r2, m2, c2, l2, j2⟩
  exact tailA w1 r2 j2 l2 (hk M2 _ _ _ _ _ _ c2 m2 l2)
theorem cs18 {L : Nat} {xs : Nat → Int32} {k : Mm → Option (Int32 × Mm)} {Q : Int32 → Mm → Prop} {x4 : Int32} (hC : RC M P U V x e O) (hM : RM M P U V x e O) (hl : Ml M 61 = 1) (b1 : vpB (x4 + 1) L = true) (b2 : vpB (x4 + 2) L = true) (b3 : vpB (x4 + 3) L = true) (b4 : vpB (x4 + 4) L = true) (hk : ∀ (M' : Mm) (P' : Pg) (U' : List Pg) (V' : Nat → Option Pg) (x' : Tx) (e' : Int32 × Int32) (O' : List Nat), RC M' P' U' V' x' e' O' → RM M' P' U' V' x' e' O' → Ml M' 61 = 1 → Rn k M' Q) : Rn (fL_c18 L xs k 0 38 61 x4) M Q := by
  have hw := hC.1.2.2.1
  unfold fL_c18 fL_shift
  rw [Rn_grd]
  refine ⟨b1, ?_⟩
  rw [Rn_grd]
  refine ⟨b2, ?_⟩
  rw [Rn_bnd]
  refine (wrapC (s := (spShift P U (xs (x4 + 1).toNatClampNeg) (xs (x4 + 2).toNatClampNeg)).1) (hs := [(2, 1), (0, 2)]) (clG (cShiftOp hC.1 (xs (x4 + 1).toNatClampNeg) (xs (x4 + 2).toNatClampNeg)) hC hM hl) (fun c h => by
    have hc : c = 1 ∨ c = 2 := by
      unfold spShift at h
      repeat' split at h
      all_goals first | (cases h; exact Or.inl rfl) | (cases h; exact Or.inr rfl) | (cases h)
    rcases hc with rfl | rfl <;> exact ⟨by decide, by decide⟩)).mono ?_
  rintro v M1 ⟨w1, c1, m1, l1⟩
  rw [Rn_grd]
  refine ⟨b1, ?_⟩
  rw [Rn_grd]
  refine ⟨b2, ?_⟩
  rw [Rn_bnd]
  refine (mlE (mShiftOp m1.1 m1.2.1 (xs (x4 + 1).toNatClampNeg) (xs (x4 + 2).toNatClampNeg)) m1 c1 l1).mono ?_
  rintro b M2 ⟨r2, m2, c2, l2, j2⟩
  exact tailA w1 r2 j2 l2 (hk M2 _ _ _ _ _ _ c2 m2 l2)
theorem cs19 {L : Nat} {xs : Nat → Int32} {k : Mm → Option (Int32 × Mm)} {Q : Int32 → Mm → Prop} {x4 : Int32} (hC : RC M P U V x e O) (hM : RM M P U V x e O) (hl : Ml M 61 = 1) (b1 : vpB (x4 + 1) L = true) (b2 : vpB (x4 + 2) L = true) (b3 : vpB (x4 + 3) L = true) (b4 : vpB (x4 + 4) L = true) (hk : ∀ (M' : Mm) (P' : Pg) (U' : List Pg) (V' : Nat → Option Pg) (x' : Tx) (e' : Int32 × Int32) (O' : List Nat), RC M' P' U' V' x' e' O' → RM M' P' U' V' x' e' O' → Ml M' 61 = 1 → Rn k M' Q) : Rn (fL_c19 L xs k 0 38 61 x4) M Q := by
  have hw := hC.1.2.2.1
  unfold fL_c19 fL_copyLine
  rw [Rn_grd]
  refine ⟨b1, ?_⟩
  rw [Rn_grd]
  refine ⟨b2, ?_⟩
  rw [Rn_bnd]
  refine (wrapC (s := (spCopy P U (xs (x4 + 1).toNatClampNeg) (xs (x4 + 2).toNatClampNeg)).1) (hs := [(2, 1), (1, 2)]) (clG (cCopyOp hC.1 (xs (x4 + 1).toNatClampNeg) (xs (x4 + 2).toNatClampNeg)) hC hM hl) (fun c h => by
    have hc : c = 1 ∨ c = 2 := by
      unfold spCopy at h
      repeat' split at h
      all_goals first | (cases h; exact Or.inl rfl) | (cases h; exact Or.inr rfl) | (cases h)
    rcases hc with rfl | rfl <;> exact ⟨by decide, by decide⟩)).mono ?_
  rintro v M1 ⟨w1, c1, m1, l1⟩
  rw [Rn_grd]
  refine ⟨b1, ?_⟩
  rw [Rn_grd]
  refine ⟨b2, ?_⟩
  rw [Rn_bnd]
  refine (mlE (mCopyOp m1.1 m1.2.1 (xs (x4 + 1).toNatClampNeg) (xs (x4 + 2).toNatClampNeg)) m1 c1 l1).mono ?_
  rintro b M2 ⟨r2, m2, c2, l2, j2⟩
  exact tailA w1 r2 j2 l2 (hk M2 _ _ _ _ _ _ c2 m2 l2)
theorem cs20 {L : Nat} {xs : Nat → Int32} {k : Mm → Option (Int32 × Mm)} {Q : Int32 → Mm → Prop} {x4 : Int32} (hC : RC M P U V x e O) (hM : RM M P U V x e O) (hl : Ml M 61 = 1) (b1 : vpB (x4 + 1) L = true) (b2 : vpB (x4 + 2) L = true) (b3 : vpB (x4 + 3) L = true) (b4 : vpB (x4 + 4) L = true) (hk : ∀ (M' : Mm) (P' : Pg) (U' : List Pg) (V' : Nat → Option Pg) (x' : Tx) (e' : Int32 × Int32) (O' : List Nat), RC M' P' U' V' x' e' O' → RM M' P' U' V' x' e' O' → Ml M' 61 = 1 → Rn k M' Q) : Rn (fL_c20 L xs k 0 38 61 x4) M Q := by
  have hw := hC.1.2.2.1
  unfold fL_c20 fL_removeLine
  rw [Rn_grd]
  refine ⟨b1, ?_⟩
  rw [Rn_bnd]
  refine (wrapC (s := (spRemove P U (xs (x4 + 1).toNatClampNeg)).1) (hs := [(2, 1)]) (clG (cRemoveOp hC.1 (xs (x4 + 1).toNatClampNeg)) hC hM hl) (fun c h => by
    have hc : c = 1 := by
      unfold spRemove at h
      repeat' split at h
      all_goals first | (cases h; rfl) | (cases h)
    subst hc; exact ⟨by decide, by decide⟩)).mono ?_
  rintro v M1 ⟨w1, c1, m1, l1⟩
  rw [Rn_grd]
  refine ⟨b1, ?_⟩
  rw [Rn_bnd]
  refine (mlE (mRemoveOp m1.1 m1.2.1 (xs (x4 + 1).toNatClampNeg)) m1 c1 l1).mono ?_
  rintro b M2 ⟨r2, m2, c2, l2, j2⟩
  exact tailA w1 r2 j2 l2 (hk M2 _ _ _ _ _ _ c2 m2 l2)
theorem cs21 {L : Nat} {xs : Nat → Int32} {k : Mm → Option (Int32 × Mm)} {Q : Int32 → Mm → Prop} {x4 : Int32} (hC : RC M P U V x e O) (hM : RM M P U V x e O) (hl : Ml M 61 = 1) (b1 : vpB (x4 + 1) L = true) (b2 : vpB (x4 + 2) L = true) (b3 : vpB (x4 + 3) L = true) (b4 : vpB (x4 + 4) L = true) (hk : ∀ (M' : Mm) (P' : Pg) (U' : List Pg) (V' : Nat → Option Pg) (x' : Tx) (e' : Int32 × Int32) (O' : List Nat), RC M' P' U' V' x' e' O' → RM M' P' U' V' x' e' O' → Ml M' 61 = 1 → Rn k M' Q) : Rn (fL_c21 L xs k 0 38 61 x4) M Q := by
  have hw := hC.1.2.2.1
  unfold fL_c21 fL_invert
  rw [Rn_grd]
  refine ⟨b1, ?_⟩
  rw [Rn_bnd]
  refine (wrapC (s := (spInvert P U (xs (x4 + 1).toNatClampNeg)).1) (hs := [(2, 1)]) (clG (cInvertOp hC.1 (xs (x4 + 1).toNatClampNeg)) hC hM hl) (fun c h => by
    have hc : c = 1 := by
      unfold spInvert at h
      repeat' split at h
      all_goals first | (cases h; rfl) | (cases h)
    subst hc; exact ⟨by decide, by decide⟩)).mono ?_
  rintro v M1 ⟨w1, c1, m1, l1⟩
  rw [Rn_grd]
  refine ⟨b1, ?_⟩
  rw [Rn_bnd]
  refine (mlE (mInvertOp m1.1 m1.2.1 (xs (x4 + 1).toNatClampNeg)) m1 c1 l1).mono ?_
  rintro b M2 ⟨r2, m2, c2, l2, j2⟩
  exact tailA w1 r2 j2 l2 (hk M2 _ _ _ _ _ _ c2 m2 l2)
theorem cs22 {L : Nat} {xs : Nat → Int32} {k : Mm → Option (Int32 × Mm)} {Q : Int32 → Mm → Prop} {x4 : Int32} (hC : RC M P U V x e O) (hM : RM M P U V x e O) (hl : Ml M 61 = 1) (b1 : vpB (x4 + 1) L = true) (b2 : vpB (x4 + 2) L = true) (b3 : vpB (x4 + 3) L = true) (b4 : vpB (x4 + 4) L = true) (hk : ∀ (M' : Mm) (P' : Pg) (U' : List Pg) (V' : Nat → Option Pg) (x' : Tx) (e' : Int32 × Int32) (O' : List Nat), RC M' P' U' V' x' e' O' → RM M' P' U' V' x' e' O' → Ml M' 61 = 1 → Rn k M' Q) : Rn (fL_c22 L xs k 0 38 61 x4) M Q := by
  have hw := hC.1.2.2.1
  unfold fL_c22 fL_swap
  rw [Rn_grd]
  refine ⟨b1, ?_⟩
  rw [Rn_grd]
  refine ⟨b2, ?_⟩
  rw [Rn_bnd]
  refine (wrapC (s := (spSwap P U (xs (x4 + 1).toNatClampNeg) (xs (x4 + 2).toNatClampNeg)).1) (hs := [(2, 1)]) (clG (cSwapOp hC.1 (xs (x4 + 1).toNatClampNeg) (xs (x4 + 2).toNatClampNeg)) hC hM hl) (fun c h => by
    have hc : c = 1 := by
      unfold spSwap at h
      repeat' split at h
      all_goals first | (cases h; rfl) | (cases h)
    subst hc; exact ⟨by decide, by decide⟩)).mono ?_
  rintro v M1 ⟨w1, c1, m1, l1⟩
  rw [Rn_grd]
  refine ⟨b1, ?_⟩
  rw [Rn_grd]
  refine ⟨b2, ?_⟩
  rw [Rn_bnd]
  refine (mlE (mSwapOp m1.1 m1.2.1 (xs (x4 + 1).toNatClampNeg) (xs (x4 + 2).toNatClampNeg)) m1 c1 l1).mono ?_
  rintro b M2 ⟨r2, m2, c2, l2, j2⟩
  exact tailA w1 r2 j2 l2 (hk M2 _ _ _ _ _ _ c2 m2 l2)
theorem cs23 {L : Nat} {xs : Nat → Int32} {k : Mm → Option (Int32 × Mm)} {Q : Int32 → Mm → Prop} {x4 : Int32} (hC : RC M P U V x e O) (hM : RM M P U V x e O) (hl : Ml M 61 = 1) (b1 : vpB (x4 + 1) L = true) (b2 : vpB (x4 + 2) L = true) (b3 : vpB (x4 + 3) L = true) (b4 : vpB (x4 + 4) L = true) (hk : ∀ (M' : Mm) (P' : Pg) (U' : List Pg) (V' : Nat → Option Pg) (x' : Tx) (e' : Int32 × Int32) (O' : List Nat), RC M' P' U' V' x' e' O' → RM M' P' U' V' x' e' O' → Ml M' 61 = 1 → Rn k M' Q) : Rn (fL_c23 L xs k 0 38 61 x4) M Q := by
  have hw := hC.1.2.2.1
  unfold fL_c23 fL_sent
  rw [Rn_grd]
  refine ⟨b1, ?_⟩
  rw [Rn_bnd]
  refine (wrapC (s := spSent P (xs (x4 + 1).toNatClampNeg)) (hs := [(0, 1)]) (clR (cSentOp hC.1.1 hC.1.2.1 hw (xs (x4 + 1).toNatClampNeg)) z_Sd hC hM hl) (fun c h => by
    have hc : c = 1 := by
      unfold spSent at h
      repeat' split at h
      all_goals first | (cases h; rfl) | (cases h)
    subst hc; exact ⟨by decide, by decide⟩)).mono ?_
  rintro v M1 ⟨w1, c1, m1, l1⟩
  rw [Rn_grd]
  refine ⟨b1, ?_⟩
  rw [Rn_bnd]
  refine (mlQ (mSentOp m1.1 m1.2.1.1 m1.2.1.2.1 (xs (x4 + 1).toNatClampNeg)) m1 c1 l1).mono ?_
  rintro b M2 ⟨r2, m2, c2, l2, j2⟩
  exact tailA w1 r2 j2 l2 (hk M2 _ _ _ _ _ _ c2 m2 l2)
theorem cs24 {L : Nat} {xs : Nat → Int32} {k : Mm → Option (Int32 × Mm)} {Q : Int32 → Mm → Prop} {x4 : Int32} (hC : RC M P U V x e O) (hM : RM M P U V x e O) (hl : Ml M 61 = 1) (b1 : vpB (x4 + 1) L = true) (b2 : vpB (x4 + 2) L = true) (b3 : vpB (x4 + 3) L = true) (b4 : vpB (x4 + 4) L = true) (hk : ∀ (M' : Mm) (P' : Pg) (U' : List Pg) (V' : Nat → Option Pg) (x' : Tx) (e' : Int32 × Int32) (O' : List Nat), RC M' P' U' V' x' e' O' → RM M' P' U' V' x' e' O' → Ml M' 61 = 1 → Rn k M' Q) : Rn (fL_c24 L xs k 0 38 61 x4) M Q := by
  have hw := hC.1.2.2.1
  unfold fL_c24 fL_sentLine
  rw [Rn_grd]
  refine ⟨b1, ?_⟩
  rw [Rn_grd]
  refine ⟨b2, ?_⟩
  rw [Rn_bnd]
  refine (wrapC (s := spSentLine P (xs (x4 + 1).toNatClampNeg) (xs (x4 + 2).toNatClampNeg)) (hs := [(2, 1), (0, 2)]) (clR (cSentLineOp hC.1.1 hC.1.2.1 hw (xs (x4 + 1).toNatClampNeg) (xs (x4 + 2).toNatClampNeg)) z_Sd hC hM hl) (fun c h => by
    have hc : c = 1 ∨ c = 2 := by
      unfold spSentLine at h
      repeat' split at h
      all_goals first | (cases h; exact Or.inl rfl) | (cases h; exact Or.inr rfl) | (cases h)
    rcases hc with rfl | rfl <;> exact ⟨by decide, by decide⟩)).mono ?_
  rintro v M1 ⟨w1, c1, m1, l1⟩
  rw [Rn_grd]
  refine ⟨b1, ?_⟩
  rw [Rn_grd]
  refine ⟨b2, ?_⟩
  rw [Rn_bnd]
  refine (mlQ (mSentLineOp m1.1 m1.2.1.1 m1.2.1.2.1 (xs (x4 + 1).toNatClampNeg) (xs (x4 + 2).toNatClampNeg)) m1 c1 l1).mono ?_
  rintro b M2 ⟨r2, m2, c2, l2, j2⟩
  exact tailA w1 r2 j2 l2 (hk M2 _ _ _ _ _ _ c2 m2 l2)
theorem cs25 {L : Nat} {xs : Nat → Int32} {k : Mm → Option (Int32 × Mm)} {Q : Int32 → Mm → Prop} {x4 : Int32} (hC : RC M P U V x e O) (hM : RM M P U V x e O) (hl : Ml M 61 = 1) (b1 : vpB (x4 + 1) L = true) (b2 : vpB (x4 + 2) L = true) (b3 : vpB (x4 + 3) L = true) (b4 : vpB (x4 + 4) L = true) (hk : ∀ (M' : Mm) (P' : Pg) (U' : List Pg) (V' : Nat → Option Pg) (x' : Tx) (e' : Int32 × Int32) (O' : List Nat), RC M' P' U' V' x' e' O' → RM M' P' U' V' x' e' O' → Ml M' 61 = 1 → Rn k M' Q) : Rn (fL_c25 L xs k 0 38 61 x4) M Q := by
  have hw := hC.1.2.2.1
  unfold fL_c25 fL_received
  rw [Rn_grd]
  refine ⟨b1, ?_⟩
  rw [Rn_grd]
  refine ⟨b2, ?_⟩
  rw [Rn_bnd]
  refine (wrapC (s := spReceived P (xs (x4 + 1).toNatClampNeg) (xs (x4 + 2).toNatClampNeg)) (hs := [(2, 1)]) (clR (cReceivedOp hC.1.1 hC.1.2.1 hw (xs (x4 + 1).toNatClampNeg) (xs (x4 + 2).toNatClampNeg)) z_Sd hC hM hl) (fun c h => by
    have hc : c = 1 := by
      unfold spReceived at h
      repeat' split at h
      all_goals first | (cases h; rfl) | (cases h)
    subst hc; exact ⟨by decide, by decide⟩)).mono ?_
  rintro v M1 ⟨w1, c1, m1, l1⟩
  rw [Rn_grd]
  refine ⟨b1, ?_⟩
  rw [Rn_grd]
  refine ⟨b2, ?_⟩
  rw [Rn_bnd]
  refine (mlQ (mReceivedOp m1.1 m1.2.1.1 m1.2.1.2.1 (xs (x4 + 1).toNatClampNeg) (xs (x4 + 2).toNatClampNeg)) m1 c1 l1).mono ?_
  rintro b M2 ⟨r2, m2, c2, l2, j2⟩
  exact tailA w1 r2 j2 l2 (hk M2 _ _ _ _ _ _ c2 m2 l2)
theorem cs26 {L : Nat} {xs : Nat → Int32} {k : Mm → Option (Int32 × Mm)} {Q : Int32 → Mm → Prop} {x4 : Int32} (hC : RC M P U V x e O) (hM : RM M P U V x e O) (hl : Ml M 61 = 1) (b1 : vpB (x4 + 1) L = true) (b2 : vpB (x4 + 2) L = true) (b3 : vpB (x4 + 3) L = true) (b4 : vpB (x4 + 4) L = true) (hk : ∀ (M' : Mm) (P' : Pg) (U' : List Pg) (V' : Nat → Option Pg) (x' : Tx) (e' : Int32 × Int32) (O' : List Nat), RC M' P' U' V' x' e' O' → RM M' P' U' V' x' e' O' → Ml M' 61 = 1 → Rn k M' Q) : Rn (fL_c26 L xs k 0 38 61 x4) M Q := by
  have hw := hC.1.2.2.1
  unfold fL_c26 fL_harm
  rw [Rn_grd]
  refine ⟨b1, ?_⟩
  rw [Rn_grd]
  refine ⟨b2, ?_⟩
  rw [Rn_bnd]
  refine (wrapC (s := spHarm P (xs (x4 + 1).toNatClampNeg) (xs (x4 + 2).toNatClampNeg)) (hs := [(2, 1), (0, 2)]) (clR (cHarmOp hC.1.1 hC.1.2.1 hw (xs (x4 + 1).toNatClampNeg) (xs (x4 + 2).toNatClampNeg)) z_Sd hC hM hl) (fun c h => by
    have hc : c = 1 ∨ c = 2 := by
      unfold spHarm at h
      repeat' split at h
      all_goals first | (cases h; exact Or.inl rfl) | (cases h; exact Or.inr rfl) | (cases h)
    rcases hc with rfl | rfl <;> exact ⟨by decide, by decide⟩)).mono ?_
  rintro v M1 ⟨w1, c1, m1, l1⟩
  rw [Rn_grd]
  refine ⟨b1, ?_⟩
  rw [Rn_grd]
  refine ⟨b2, ?_⟩
  rw [Rn_bnd]
  refine (mlQ (mHarmOp m1.1 m1.2.1.1 m1.2.1.2.1 (xs (x4 + 1).toNatClampNeg) (xs (x4 + 2).toNatClampNeg)) m1 c1 l1).mono ?_
  rintro b M2 ⟨r2, m2, c2, l2, j2⟩
  exact tailA w1 r2 j2 l2 (hk M2 _ _ _ _ _ _ c2 m2 l2)
theorem cs27 {L : Nat} {xs : Nat → Int32} {k : Mm → Option (Int32 × Mm)} {Q : Int32 → Mm → Prop} {x4 : Int32} (hC : RC M P U V x e O) (hM : RM M P U V x e O) (hl : Ml M 61 = 1) (b1 : vpB (x4 + 1) L = true) (b2 : vpB (x4 + 2) L = true) (b3 : vpB (x4 + 3) L = true) (b4 : vpB (x4 + 4) L = true) (hk : ∀ (M' : Mm) (P' : Pg) (U' : List Pg) (V' : Nat → Option Pg) (x' : Tx) (e' : Int32 × Int32) (O' : List Nat), RC M' P' U' V' x' e' O' → RM M' P' U' V' x' e' O' → Ml M' 61 = 1 → Rn k M' Q) : Rn (fL_c27 L xs k 0 38 61 x4) M Q := by
  have hw := hC.1.2.2.1
  unfold fL_c27
  rw [Rn_bnd]
  refine (clR (cWorstOp hC.1.1 hC.1.2.1 hw) z_Sd hC hM hl).mono ?_
  rintro v M1 ⟨rfl, c1, m1, l1⟩
  rw [Rn_bnd]
  refine (mlV (mWorstOp m1.1 m1.2.1.1 m1.2.1.2.1) m1 c1 l1).mono ?_
  rintro b M2 ⟨rfl, m2, c2, l2, j2⟩
  rw [if_pos rfl]
  exact hk M2 _ _ _ _ _ _ c2 m2 l2
theorem cs28 {L : Nat} {xs : Nat → Int32} {k : Mm → Option (Int32 × Mm)} {Q : Int32 → Mm → Prop} {x4 : Int32} (hC : RC M P U V x e O) (hM : RM M P U V x e O) (hl : Ml M 61 = 1) (b1 : vpB (x4 + 1) L = true) (b2 : vpB (x4 + 2) L = true) (b3 : vpB (x4 + 3) L = true) (b4 : vpB (x4 + 4) L = true) (hk : ∀ (M' : Mm) (P' : Pg) (U' : List Pg) (V' : Nat → Option Pg) (x' : Tx) (e' : Int32 × Int32) (O' : List Nat), RC M' P' U' V' x' e' O' → RM M' P' U' V' x' e' O' → Ml M' 61 = 1 → Rn k M' Q) : Rn (fL_c28 L xs k 0 38 61 x4) M Q := by
  have hw := hC.1.2.2.1
  unfold fL_c28
  rw [Rn_bnd]
  refine (clR (cBestOp hC.1.1 hC.1.2.1 hw) z_Sd hC hM hl).mono ?_
  rintro v M1 ⟨rfl, c1, m1, l1⟩
  rw [Rn_bnd]
  refine (mlV (mBestOp m1.1 m1.2.1.1 m1.2.1.2.1) m1 c1 l1).mono ?_
  rintro b M2 ⟨rfl, m2, c2, l2, j2⟩
  rw [if_pos rfl]
  exact hk M2 _ _ _ _ _ _ c2 m2 l2
theorem cs29 {L : Nat} {xs : Nat → Int32} {k : Mm → Option (Int32 × Mm)} {Q : Int32 → Mm → Prop} {x4 : Int32} (hC : RC M P U V x e O) (hM : RM M P U V x e O) (hl : Ml M 61 = 1) (b1 : vpB (x4 + 1) L = true) (b2 : vpB (x4 + 2) L = true) (b3 : vpB (x4 + 3) L = true) (b4 : vpB (x4 + 4) L = true) (hk : ∀ (M' : Mm) (P' : Pg) (U' : List Pg) (V' : Nat → Option Pg) (x' : Tx) (e' : Int32 × Int32) (O' : List Nat), RC M' P' U' V' x' e' O' → RM M' P' U' V' x' e' O' → Ml M' 61 = 1 → Rn k M' Q) : Rn (fL_c29 L xs k 0 38 61 x4) M Q := by
  have hw := hC.1.2.2.1
  unfold fL_c29
  rw [Rn_bnd]
  refine (clR (cStepsOp hC.1.1 hC.1.2.1 hw) z_Sd hC hM hl).mono ?_
  rintro v M1 ⟨rfl, c1, m1, l1⟩
  rw [Rn_bnd]
  refine (mlV (mStepsOp m1.1 m1.2.1.1 m1.2.1.2.1) m1 c1 l1).mono ?_
  rintro b M2 ⟨rfl, m2, c2, l2, j2⟩
  rw [if_pos rfl]
  exact hk M2 _ _ _ _ _ _ c2 m2 l2
theorem cs30 {L : Nat} {xs : Nat → Int32} {k : Mm → Option (Int32 × Mm)} {Q : Int32 → Mm → Prop} {x4 : Int32} (hC : RC M P U V x e O) (hM : RM M P U V x e O) (hl : Ml M 61 = 1) (b1 : vpB (x4 + 1) L = true) (b2 : vpB (x4 + 2) L = true) (b3 : vpB (x4 + 3) L = true) (b4 : vpB (x4 + 4) L = true) (hk : ∀ (M' : Mm) (P' : Pg) (U' : List Pg) (V' : Nat → Option Pg) (x' : Tx) (e' : Int32 × Int32) (O' : List Nat), RC M' P' U' V' x' e' O' → RM M' P' U' V' x' e' O' → Ml M' 61 = 1 → Rn k M' Q) : Rn (fL_c30 L xs k 0 38 61 x4) M Q := by
  have hw := hC.1.2.2.1
  unfold fL_c30
  rw [Rn_bnd]
  refine (clR (cPerDotOp hC.1.1 hC.1.2.1 hw) z_Sd hC hM hl).mono ?_
  rintro v M1 ⟨rfl, c1, m1, l1⟩
  rw [Rn_bnd]
  refine (mlV (mPerDotOp m1.1 m1.2.1.1 m1.2.1.2.1) m1 c1 l1).mono ?_
  rintro b M2 ⟨rfl, m2, c2, l2, j2⟩
  exact tailD rfl (hk M2 _ _ _ _ _ _ c2 m2 l2)
theorem cs31 {L : Nat} {xs : Nat → Int32} {k : Mm → Option (Int32 × Mm)} {Q : Int32 → Mm → Prop} {x4 : Int32} (hC : RC M P U V x e O) (hM : RM M P U V x e O) (hl : Ml M 61 = 1) (b1 : vpB (x4 + 1) L = true) (b2 : vpB (x4 + 2) L = true) (b3 : vpB (x4 + 3) L = true) (b4 : vpB (x4 + 4) L = true) (hk : ∀ (M' : Mm) (P' : Pg) (U' : List Pg) (V' : Nat → Option Pg) (x' : Tx) (e' : Int32 × Int32) (O' : List Nat), RC M' P' U' V' x' e' O' → RM M' P' U' V' x' e' O' → Ml M' 61 = 1 → Rn k M' Q) : Rn (fL_c31 L xs k 0 38 61 x4) M Q := by
  have hw := hC.1.2.2.1
  unfold fL_c31
  rw [Rn_bnd]
  refine (clR (cByAboveOp hC.1.1 hC.1.2.1 hw) z_Co hC hM hl).mono ?_
  rintro v M1 ⟨rfl, c1, m1, l1⟩
  rw [Rn_grd]
  refine ⟨nf64_f2d (nf_by P hw), ?_⟩
  rw [Rn_bnd]
  refine (mlV (mByAboveOp m1.1 m1.2.1.1 m1.2.1.2.1) m1 c1 l1).mono ?_
  rintro b M2 ⟨rfl, m2, c2, l2, j2⟩
  rw [Rn_grd]
  refine ⟨nf64_f2d (nf_by P hw), ?_⟩
  exact tailD rfl (hk M2 _ _ _ _ _ _ c2 m2 l2)
theorem cs32 {L : Nat} {xs : Nat → Int32} {k : Mm → Option (Int32 × Mm)} {Q : Int32 → Mm → Prop} {x4 : Int32} (hC : RC M P U V x e O) (hM : RM M P U V x e O) (hl : Ml M 61 = 1) (b1 : vpB (x4 + 1) L = true) (b2 : vpB (x4 + 2) L = true) (b3 : vpB (x4 + 3) L = true) (b4 : vpB (x4 + 4) L = true) (hk : ∀ (M' : Mm) (P' : Pg) (U' : List Pg) (V' : Nat → Option Pg) (x' : Tx) (e' : Int32 × Int32) (O' : List Nat), RC M' P' U' V' x' e' O' → RM M' P' U' V' x' e' O' → Ml M' 61 = 1 → Rn k M' Q) : Rn (fL_c32 L xs k 0 38 61 x4) M Q := by
  have hw := hC.1.2.2.1
  unfold fL_c32 fL_write
  rw [Rn_grd]
  refine ⟨b1, ?_⟩
  rw [Rn_bnd]
  refine (wrapC (s := (spWrite P O (xs (x4 + 1).toNatClampNeg)).1) (hs := [(2, 1)]) (clW (cWriteOp hC.1.1 hC.1.2.1 hw hC.2.2.2.2 (xs (x4 + 1).toNatClampNeg)) hC hM hl) (fun c h => by
    have hc : c = 1 := by
      unfold spWrite at h
      repeat' split at h
      all_goals first | (cases h; rfl) | (cases h)
    subst hc; exact ⟨by decide, by decide⟩)).mono ?_
  rintro v M1 ⟨w1, c1, m1, l1⟩
  rw [Rn_grd]
  refine ⟨b1, ?_⟩
  rw [Rn_bnd]
  refine (mlW (mWriteOp m1.1 m1.2.1.1 m1.2.1.2.1 m1.2.2.2.2.1 m1.2.2.2.2.2.2.2 (xs (x4 + 1).toNatClampNeg)) m1 c1 l1).mono ?_
  rintro b M2 ⟨r2, m2, c2, l2, j2⟩
  exact tailA w1 r2 j2 l2 (hk M2 _ _ _ _ _ _ c2 m2 l2)
theorem cs33 {L : Nat} {xs : Nat → Int32} {k : Mm → Option (Int32 × Mm)} {Q : Int32 → Mm → Prop} {x4 : Int32} (hC : RC M P U V x e O) (hM : RM M P U V x e O) (hl : Ml M 61 = 1) (b1 : vpB (x4 + 1) L = true) (b2 : vpB (x4 + 2) L = true) (b3 : vpB (x4 + 3) L = true) (b4 : vpB (x4 + 4) L = true) (hk : ∀ (M' : Mm) (P' : Pg) (U' : List Pg) (V' : Nat → Option Pg) (x' : Tx) (e' : Int32 × Int32) (O' : List Nat), RC M' P' U' V' x' e' O' → RM M' P' U' V' x' e' O' → Ml M' 61 = 1 → Rn k M' Q) : Rn (fL_c33 L xs k 0 38 61 x4) M Q := by
  have hw := hC.1.2.2.1
  unfold fL_c33 fL_show
  rw [Rn_grd]
  refine ⟨b1, ?_⟩
  rw [Rn_bnd]
  refine (wrapC (s := (spShow P O (xs (x4 + 1).toNatClampNeg)).1) (hs := [(2, 1)]) (clW (cShowOp hC.1.1 hC.1.2.1 hw hC.2.2.2.2 (xs (x4 + 1).toNatClampNeg)) hC hM hl) (fun c h => by
    have hc : c = 1 := by
      unfold spShow at h
      repeat' split at h
      all_goals first | (cases h; rfl) | (cases h)
    subst hc; exact ⟨by decide, by decide⟩)).mono ?_
  rintro v M1 ⟨w1, c1, m1, l1⟩
  rw [Rn_grd]
  refine ⟨b1, ?_⟩
  rw [Rn_bnd]
  refine (mlH (mShowOp m1.1 m1.2.1.1 m1.2.1.2.1 m1.2.2.2.2.2.2.2 (xs (x4 + 1).toNatClampNeg)) m1 c1 l1).mono ?_
  rintro b M2 ⟨r2, m2, c2, l2, j2⟩
  exact tailA w1 r2 j2 l2 (hk M2 _ _ _ _ _ _ c2 m2 l2)
theorem cs34 {L : Nat} {xs : Nat → Int32} {k : Mm → Option (Int32 × Mm)} {Q : Int32 → Mm → Prop} {x4 : Int32} (hC : RC M P U V x e O) (hM : RM M P U V x e O) (hl : Ml M 61 = 1) (b1 : vpB (x4 + 1) L = true) (b2 : vpB (x4 + 2) L = true) (b3 : vpB (x4 + 3) L = true) (b4 : vpB (x4 + 4) L = true) (hk : ∀ (M' : Mm) (P' : Pg) (U' : List Pg) (V' : Nat → Option Pg) (x' : Tx) (e' : Int32 × Int32) (O' : List Nat), RC M' P' U' V' x' e' O' → RM M' P' U' V' x' e' O' → Ml M' 61 = 1 → Rn k M' Q) : Rn (fL_c34 L xs k 0 38 61 x4) M Q := by
  have hw := hC.1.2.2.1
  unfold fL_c34
  rw [Rn_grd]
  refine ⟨b1, ?_⟩
  rw [Rn_bnd, cOutput hC.1.1 hC.2.2.2.2]
  rw [Rn_grd]
  refine ⟨b1, ?_⟩
  rw [Rn_bnd]
  refine (mlO (mOutput hM.1 hM.2.2.2.2.2.2.2 (xs (x4 + 1).toNatClampNeg)) hM hC hl).mono ?_
  rintro b M2 ⟨rfl, m2, c2, l2, j2⟩
  rw [if_pos rfl]
  exact hk M2 _ _ _ _ _ _ c2 m2 l2
theorem cs35 {L : Nat} {xs : Nat → Int32} {k : Mm → Option (Int32 × Mm)} {Q : Int32 → Mm → Prop} {x4 : Int32} (hC : RC M P U V x e O) (hM : RM M P U V x e O) (hl : Ml M 61 = 1) (b1 : vpB (x4 + 1) L = true) (b2 : vpB (x4 + 2) L = true) (b3 : vpB (x4 + 3) L = true) (b4 : vpB (x4 + 4) L = true) (hk : ∀ (M' : Mm) (P' : Pg) (U' : List Pg) (V' : Nat → Option Pg) (x' : Tx) (e' : Int32 × Int32) (O' : List Nat), RC M' P' U' V' x' e' O' → RM M' P' U' V' x' e' O' → Ml M' 61 = 1 → Rn k M' Q) : Rn (fL_c35 L xs k 0 38 61 x4) M Q := by
  have hw := hC.1.2.2.1
  unfold fL_c35
  rw [Rn_bnd]
  refine (clG (cUndoOp hC.1) hC hM hl).mono ?_
  rintro v M1 ⟨rfl, c1, m1, l1⟩
  rw [Rn_bnd]
  refine (mlN (mUndoOp m1.1 m1.2.1) m1 c1 l1).mono ?_
  rintro b M2 ⟨rfl, m2, c2, l2, j2⟩
  rw [if_pos rfl]
  exact hk M2 _ _ _ _ _ _ c2 m2 l2
theorem cs36 {L : Nat} {xs : Nat → Int32} {k : Mm → Option (Int32 × Mm)} {Q : Int32 → Mm → Prop} {x4 : Int32} (hC : RC M P U V x e O) (hM : RM M P U V x e O) (hl : Ml M 61 = 1) (b1 : vpB (x4 + 1) L = true) (b2 : vpB (x4 + 2) L = true) (b3 : vpB (x4 + 3) L = true) (b4 : vpB (x4 + 4) L = true) (hk : ∀ (M' : Mm) (P' : Pg) (U' : List Pg) (V' : Nat → Option Pg) (x' : Tx) (e' : Int32 × Int32) (O' : List Nat), RC M' P' U' V' x' e' O' → RM M' P' U' V' x' e' O' → Ml M' 61 = 1 → Rn k M' Q) : Rn (fL_c36 L xs k 0 38 61 x4) M Q := by
  have hw := hC.1.2.2.1
  unfold fL_c36 fL_save
  rw [Rn_grd]
  refine ⟨b1, ?_⟩
  rw [Rn_bnd]
  refine (wrapV (c := (spSave P V (xs (x4 + 1).toNatClampNeg)).1) (hs := [(0, 1)]) (clG (cSaveOp hC.1 (xs (x4 + 1).toNatClampNeg)) hC hM hl) (fun h => by
    unfold spSave at h ⊢
    split at h
    · exact absurd rfl h
    · rename_i g; rw [if_neg g]; exact hh_1)).mono ?_
  rintro v M1 ⟨w1, c1, m1, l1⟩
  rw [Rn_grd]
  refine ⟨b1, ?_⟩
  rw [Rn_bnd]
  refine (mlS (mSaveOp m1.1 m1.2.1.1 m1.2.1.2.1 m1.2.2.1 (xs (x4 + 1).toNatClampNeg)) m1 c1 l1).mono ?_
  rintro b M2 ⟨r2, m2, c2, l2, j2⟩
  exact tailV w1 r2 (hk M2 _ _ _ _ _ _ c2 m2 l2)
theorem cs37 {L : Nat} {xs : Nat → Int32} {k : Mm → Option (Int32 × Mm)} {Q : Int32 → Mm → Prop} {x4 : Int32} (hC : RC M P U V x e O) (hM : RM M P U V x e O) (hl : Ml M 61 = 1) (b1 : vpB (x4 + 1) L = true) (b2 : vpB (x4 + 2) L = true) (b3 : vpB (x4 + 3) L = true) (b4 : vpB (x4 + 4) L = true) (hk : ∀ (M' : Mm) (P' : Pg) (U' : List Pg) (V' : Nat → Option Pg) (x' : Tx) (e' : Int32 × Int32) (O' : List Nat), RC M' P' U' V' x' e' O' → RM M' P' U' V' x' e' O' → Ml M' 61 = 1 → Rn k M' Q) : Rn (fL_c37 L xs k 0 38 61 x4) M Q := by
  have hw := hC.1.2.2.1
  unfold fL_c37 fL_restore
  rw [Rn_grd]
  refine ⟨b1, ?_⟩
  rw [Rn_bnd]
  refine (wrapV (c := (spRestore P U V (xs (x4 + 1).toNatClampNeg)).1) (hs := [(0, 1), (1, 2)]) (clG (cRestoreOp hC.1 (xs (x4 + 1).toNatClampNeg)) hC hM hl) (fun h => by
    unfold spRestore at h ⊢
    split at h
    · rename_i g
      rw [if_pos g]
      cases hv : V (ix (xs (x4 + 1).toNatClampNeg)) with
      | some Z => rw [hv] at h; exact absurd rfl h
      | none => exact hh_3
    · rename_i g; rw [if_neg g]; exact hh_2)).mono ?_
  rintro v M1 ⟨w1, c1, m1, l1⟩
  rw [Rn_grd]
  refine ⟨b1, ?_⟩
  rw [Rn_bnd]
  refine (mlU (mRestOp m1.1 m1.2.1 m1.2.2.1 (xs (x4 + 1).toNatClampNeg)) m1 c1 l1).mono ?_
  rintro b M2 ⟨r2, m2, c2, l2, j2⟩
  exact tailV w1 r2 (hk M2 _ _ _ _ _ _ c2 m2 l2)
end Cases
