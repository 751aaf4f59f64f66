/-! TEXTS THAT ARE BUILT: new ones, what they tell -/
def rowT (r : Nat) : Nat → List Nat
  | 0 => []
  | k + 1 => rowT r k ++ [if r.testBit k = true then 35 else 46]
theorem rowT_l (r : Nat) : ∀ k, (rowT r k).length = k := by
  intro k
  induction k with
  | zero => rfl
  | succ k ih => show (rowT r k ++ _).length = k + 1; rw [List.length_append, ih]; rfl
section SBV
variable {M : Mm} {h a : Nat} {xs ys : List Nat} {c s : Nat}
theorem lSb0 (hM : Mn M < 900000000) (hh : h < Mn M) (k1 : Mi M h 1 = nI 0) (k3 : Mi M h 3 = nI 0) : Rw (gJ4_init_da8c8 h) M c s (fun _ M' c' s' => isSb M' h (Mn M) [] ∧ Gx (x1 h) (Mn M) M M' ∧ Mn M' = Mn M + 1 ∧ c' = c + 1 ∧ s' = s + 16 ∧ Ml M' (Mn M) = 16) := by
  unfold gJ4_init_da8c8 gJ5_init_d00df
  rw [Rw_wq]
  refine Rw_no (by decide) ?_
  rw [Rw_wq, show (16 : Int32) = nI 16 from rfl, Rw_nA (by omega) (by omega), Rw_wb, Rn_pA, Rw_wb, Rn_pZ]
  refine ⟨by decide, ?_⟩
  rw [Rw_wr, Rw_wr]
  have g : Gx (x1 h) (Mn M) M (sI (sR (nw M 10 16) h 0 (some (Mn M))) h 1 0) := (((Gx.rf (X := x1 h)).nw (Nat.le_refl _) (by rw [SB_v]; omega)).sR (fun _ => by simp [x1])).sI (fun _ => by simp [x1])
  have hne : h ≠ Mn M := by omega
  refine ⟨⟨⟨by have := g.mn; omega, ?_, sI_self, ?_⟩, ⟨hh, by show Mn M < Mn M + 1; omega, ?_⟩, ⟨Nat.zero_le _, ?_, Nat.zero_le _⟩, fun i hi => ?_, fun i hi => absurd hi (Nat.not_lt_zero _)⟩, g, rfl, rfl, rfl, ?_⟩
  · rw [Mr_sI, sR_self]
  · rw [Mi_sI, if_neg (by omega), Mi_sR, Mi_nw, if_neg hne]; exact k3
  · show Mk (nw M 10 16) (Mn M) = 10; rw [Mk_nw, if_pos rfl]
  · show Ml (nw M 10 16) (Mn M) ≤ 2040; rw [Ml_nw, if_pos rfl]; omega
  · rw [Mi_sI, if_neg (by omega), Mi_sR, Mi_nw, if_pos rfl]; decide
  · show Ml (nw M 10 16) (Mn M) = 16; rw [Ml_nw, if_pos rfl]
theorem i32s0 (x : Int32) : x - nI 0 = x := Int32.sub_zero x
theorem lSbS (hM : Mn M < 800000000) (hh : h < Mn M) (k3 : Mi M h 3 = nI 0) {st v : Nat} (ks : isSr M st v ys) (n1 : st ≠ h) (n2 : v ≠ h) (hl : ys.length ≤ 900) : Rw (gJ4_init_a7421 h st) M c s (fun _ M' c' s' => ∃ a', isSb M' h a' ys ∧ Gx (x1 h) (Mn M) M M' ∧ Mn M ≤ a' ∧ Mn M' + c ≤ Mn M + c' ∧ c ≤ c' ∧ c' ≤ c + 2 ∧ s' ≤ s + 2 * Ml M' a' ∧ (Ml M' a' = ys.length + 16 ∨ Ml M' a' ≤ 2 * ys.length)) := by
  unfold gJ4_init_a7421 gJ5_init_a7421
  rw [Rw_wq, Rw_wq, lSln ks]
  refine Rw_no (fun z => by rw [show (2147483631 : Int32) = nI 2147483631 from rfl, nle (by omega) (by omega)] at z; omega) ?_
  unfold gJ5_init_a7421_L24
  rw [Rw_wq, lSco ks.1.2.2, Rw_wb, Rn_pZ]
  refine ⟨by decide, ?_⟩
  refine Rw_yes rfl ?_
  have g0 : Gx (x1 h) (Mn M) M (sI M h 1 (nI 0)) := Gx.rf.sI (fun _ => by simp [x1])
  have e3 : Mi (sI M h 1 (nI 0)) h 3 = nI 0 := by rw [Mi_sI, if_neg (by omega)]; exact k3
  have e1 : Mi (sI M h 1 (nI 0)) h 1 = nI 0 := sI_self
  have m0 : Mn (sI M h 1 (nI 0)) = Mn M := rfl
  have ks0 := ks.gx g0 ks.1.1 (x1_f n1) ks.2.1.1 (x1_f n2)
  generalize sI M h 1 (nI 0) = M0 at g0 e3 e1 m0 ks0
  rw [Rw_wq, show (16 : Int32) = nI 16 from rfl, nI_add, Rw_nA (by omega) (by omega), Rw_wb, Rn_pA, m0]
  have g : Gx (x1 h) (Mn M) M (sR (nw M0 10 (ys.length + 16)) h 0 (some (Mn M))) := (g0.nw (by omega) (by rw [SB_v]; omega)).sR (fun _ => by simp [x1])
  have hne : h ≠ Mn M0 := by omega
  have el : Ml (sR (nw M0 10 (ys.length + 16)) h 0 (some (Mn M))) (Mn M) = ys.length + 16 := by rw [Ml_sR, Ml_nw, if_pos m0.symm]
  have k : isSb (sR (nw M0 10 (ys.length + 16)) h 0 (some (Mn M))) h (Mn M) [] := by
    refine ⟨⟨by have := g.mn; omega, sR_self, ?_, ?_⟩, ⟨hh, by show Mn M < Mn M0 + 1; omega, ?_⟩, ⟨Nat.zero_le _, ?_, Nat.zero_le _⟩, fun i hi => ?_, fun i hi => absurd hi (Nat.not_lt_zero _)⟩
    · rw [Mi_sR, Mi_nw, if_neg hne]; exact e1
    · rw [Mi_sR, Mi_nw, if_neg hne]; exact e3
    · show Mk (nw M0 10 (ys.length + 16)) (Mn M) = 10; rw [Mk_nw, if_pos m0.symm]
    · rw [el]; omega
    · rw [Mi_sR, Mi_nw, if_pos m0.symm]; decide
  have ks1 := ks.gx g ks.1.1 (x1_f n1) ks.2.1.1 (x1_f n2)
  have mm : Mn (sR (nw M0 10 (ys.length + 16)) h 0 (some (Mn M))) = Mn M + 1 := by show Mn M0 + 1 = _; omega
  generalize sR (nw M0 10 (ys.length + 16)) h 0 (some (Mn M)) = M1 at g k ks1 mm el
  unfold gJ4_append_cf1ce
  rw [Rw_wq, Rw_wq]
  refine (lApS k (by omega) ks1 n1 n2 (by show 0 + _ ≤ _; omega)).mono ?_
  rintro w M2 c2 s2 ⟨rfl, a2, k2, g2, h2, f1, f2, f3, f4, f5⟩
  rw [Rw_wr, Rw_wr, Rw_wr]
  refine ⟨a2, k2, g.tr (g2.mono (by omega) (fun q hq z => x2_f (by unfold x1 at z; simpa using z) (by omega))), by omega, by omega, by omega, by omega, by omega, ?_⟩
  have e0 : ([] ++ ys : List Nat) = ys := rfl
  rw [e0] at f5
  omega
theorem lToS (k : isSb M h a xs) (hM : Mn M < 900000000) : Rw (gJ4_toString_0e30d h) M c s (fun v M' c' s' => v = Mn M ∧ isSr M' (Mn M) (Mn M + 1) xs ∧ Gx xO (Mn M) M M' ∧ Mn M' = Mn M + 2 ∧ c' = c + 2 ∧ s' = s + 4 + xs.length) := by
  obtain ⟨⟨a1, a2, a3, a4⟩, ⟨b1, b2, b3⟩, ⟨c1, c2, c3⟩, d, e⟩ := id k
  unfold gJ4_toString_0e30d
  rw [Rw_wq, Rw_nO (by omega), Rw_wq]
  have e40 : nsl 40 = 4 := rfl
  rw [e40]
  have g1 : Gx xO (Mn M) M (nw M 40 0) := Gx.rf.nw (Nat.le_refl _) (by rw [SB_v]; omega)
  have k1 := k.gx g1 a1 rfl b2 rfl
  have m1 : Mn (nw M 40 0) = Mn M + 1 := rfl
  have el1 : Ml (nw M 40 0) a = Ml M a := by rw [Ml_nw, if_neg (by omega)]
  generalize nw M 40 0 = M1 at g1 k1 m1 el1
  unfold gJ0_init_81219 gJ0_init_db425
  rw [Rw_wq, Rw_wq]
  unfold gJ5_getValue_6d5f1
  rw [Rw_wb, Rn_gA k1.1.2.1, Rw_wr, Rw_wq]
  unfold gJ4_length_8abf5 gJ5_length_8abf5
  rw [Rw_wq, Rw_wb, Rn_gI, k1.1.2.2.2, Rw_wr, Rw_wr, Rw_wq, lLat k1.1.2.2.1]
  refine Rw_no (by decide) ?_
  rw [Rw_wb, Rn_pZ]
  refine ⟨by decide, ?_⟩
  have g2 : Gx xO (Mn M) M (sI M1 (Mn M) 1 0) := g1.sI (fun z => absurd z (Nat.lt_irrefl _))
  have k2 : isSb (sI M1 (Mn M) 1 0) h a xs := k.gx g2 a1 rfl b2 rfl
  have m2 : Mn (sI M1 (Mn M) 1 0) = Mn M + 1 := m1
  have e2 : Mi (sI M1 (Mn M) 1 0) (Mn M) 1 = nI 0 := sI_self
  have el2 : Ml (sI M1 (Mn M) 1 0) a = Ml M a := el1
  generalize sI M1 (Mn M) 1 0 = M2 at g2 k2 m2 e2 el2
  rw [Rw_wq]
  have fin : ∀ (M3 : Mm), Mn M3 = Mn M + 2 → Gx xO (Mn M) M M3 → Mi M3 (Mn M) 1 = nI 0 → Ml M3 (Mn M + 1) = xs.length → (∀ i, i < xs.length → Mi M3 (Mn M + 1) i = nI (xs.getD i 0)) → Rw (wb (pA (Mn M) 0 (Mn M + 1)) fun _ => wr ()) M3 (c + 1 + 1) (s + 4 + xs.length) (fun _ M1 c1 s1 => Rw (wr ()) M1 c1 s1 fun _ M1 c1 s1 => Rw (wr (Mn M)) M1 c1 s1 (fun v M' c' s' => v = Mn M ∧ isSr M' (Mn M) (Mn M + 1) xs ∧ Gx xO (Mn M) M M' ∧ Mn M' = Mn M + 2 ∧ c' = c + 2 ∧ s' = s + 4 + xs.length)) := by
    intro M3 m3 g3 e3 l3 i3
    rw [Rw_wb, Rn_pA, Rw_wr, Rw_wr, Rw_wr]
    refine ⟨rfl, ⟨⟨by show Mn M < Mn M3; omega, sR_self, e3⟩, ⟨by show Mn M + 1 < Mn M3; omega, l3, c3⟩, fun i hi => ⟨i3 i hi, (e i hi).2⟩⟩, g3.sR (fun z => absurd z (Nat.lt_irrefl _)), m3, rfl, rfl⟩
  unfold gJ7_copyOfRange_39247
  refine Rw_yes rfl ?_
  rw [Rw_wb, Rn_gN]
  have hl := k2.2.2.1.1
  have hl2 := k2.2.2.1.2.1
  refine Rw_cs (d := xs.length = Ml M2 a) (neq (by omega) (by omega)) (fun z => ?_) (fun z => ?_)
  · have en : nC 10 a M2 = some (Mn M2, cpy M2 10 a, 1, Ml M2 a) := by
      unfold nC
      rw [if_pos]
      rw [Bool.and_eq_true]
      exact ⟨decide_eq_true (show Mn M2 < SB by rw [SB_v]; omega), List.all_eq_true.mpr (fun i hi => k2.2.2.2.1 i (List.mem_range.mp hi))⟩
    rw [Rw_wq]
    refine ⟨_, _, _, _, en, ?_⟩
    dsimp only
    rw [Rw_wr, m2, ← z]
    refine fin (cpy M2 10 a) (by show Mn M2 + 1 = _; omega) ?_ ?_ ?_ (fun i hi => ?_)
    · have g := g2.nw (by omega) (by rw [SB_v]; omega) (kd := 10) (ln := Ml M2 a)
      refine ⟨g.1, g.2.1, g.2.2.1, fun q hq hz => ⟨?_, (g.2.2.2 q hq hz).2.1, (g.2.2.2 q hq hz).2.2⟩⟩
      rw [← (g.2.2.2 q hq hz).1]
      funext i
      show (if q = M2.1.1 then _ else _) = (if q = Mn M2 then _ else _)
      rw [if_neg (by have : Mn M2 = M2.1.1 := rfl; omega), if_neg (by omega)]
    · show (if Mn M = M2.1.1 then _ else _) = _
      rw [if_neg (by have : Mn M2 = M2.1.1 := rfl; omega)]; exact e2
    · show Ml (nw M2 10 (Ml M2 a)) (Mn M + 1) = _
      rw [Ml_nw, if_pos (by omega)]; exact z.symm
    · show (if Mn M + 1 = M2.1.1 then Mi M2 a i else _) = _
      rw [if_pos (by have : Mn M2 = M2.1.1 := rfl; omega)]; exact (k2.2.2.2.2 i hi).1
  · unfold gJ7_copyOfRange_39247_L10 gJ7_copyOfRangeByte_39247
    rw [Rw_wq, Rw_wq]
    unfold gJ7_checkLength_df160
    refine Rw_yes ((nle (a := 0) (by omega) (by omega)).mpr (Nat.zero_le _)) ?_
    rw [Rw_wr, Rw_wb, Rn_rtn, nL0, i32s0, Rw_wq, Rw_nA (by omega) (by omega), Rw_wb, Rn_gN, i32s0]
    have hne : a ≠ Mn M2 := by omega
    have f1 : Ml (nw M2 10 xs.length) a = Ml M2 a := by rw [Ml_nw, if_neg hne]
    have f2 : Ml (nw M2 10 xs.length) (Mn M2) = xs.length := by rw [Ml_nw, if_pos rfl]
    have f3 : ∀ i, Mi (nw M2 10 xs.length) a i = Mi M2 a i := fun i => by rw [Mi_nw, if_neg hne]
    rw [f1, mm_nI (by omega) (by omega), if_pos (by omega), Rw_wb, Rn_fun (cpB_eq (kd := 10) (src := a) (d := Mn M2) (n := xs.length) (dp := 0) (M := nw M2 10 xs.length) (by rw [f1]; omega) (by rw [f2]; omega) (by rw [f2]; omega) (by rw [f2]; omega) (fun i hi => by rw [f3]; exact k2.2.2.2.1 i (by omega))), Rw_wr, Rw_wr, m2]
    refine fin _ (by show Mn M2 + 1 = _; omega) ((g2.nw (by omega) (by rw [SB_v]; omega)).sCp (fun z => by omega)) ?_ ?_ (fun i hi => ?_)
    · rw [Mi_sCp, if_neg (by omega), Mi_nw, if_neg (by omega)]; exact e2
    · show Ml (nw M2 10 xs.length) (Mn M + 1) = _
      rw [Ml_nw, if_pos (by omega)]
    · rw [Mi_sCp, if_pos rfl]
      unfold va_cpy
      rw [if_pos (by omega), Nat.zero_add, Nat.sub_zero, f3]; exact (k2.2.2.2.2 i hi).1
/-- a row's signs -/
theorem lTold {w r row : Nat} (hb : isBr M row w r) (hw : w ≤ 27) (hp : Pl M c) (hc : c ≤ 790000000) : Rw (gL_told row) M c s (fun v M' c' s' => (∃ u, isSr M' v u (rowT r w) ∧ Mn M ≤ v ∧ Mn M ≤ u) ∧ Gx xO (Mn M) M M' ∧ Mn M' + c ≤ Mn M + c' ∧ c ≤ c' ∧ c' ≤ c + 4 + w ∧ s' ≤ s + 170) := by
  have hpm := hp.1
  unfold gL_told
  rw [Rw_wq, Rw_nO (by omega)]
  have e41 : nsl 41 = 4 := rfl
  have g1 : Gx xO (Mn M) M (nw M 41 0) := Gx.rf.nw (Nat.le_refl _) (by rw [SB_v]; omega)
  have i1 : Mi (nw M 41 0) (Mn M) = fun _ => 0 := by funext k; rw [Mi_nw, if_pos rfl]
  have m1 : Mn (nw M 41 0) = Mn M + 1 := rfl
  rw [e41]
  generalize nw M 41 0 = M1 at g1 i1 m1
  rw [Rw_wq]
  refine (lSb0 (h := Mn M) (by omega) (by omega) (by rw [i1]; rfl) (by rw [i1]; rfl)).mono ?_
  rintro - M2 c2 s2 ⟨k2, g2, m2, rfl, rfl, l2⟩
  have g2' : Gx xO (Mn M) M M2 := g1.tr (g2.mono (by omega) (fun q hq _ => x1_f (by omega)))
  have b2 := hb.gx g2' hb.1 rfl
  rw [Rw_wb, b2.gN]
  refine rw_loopv (F := fun n (j : Nat) => gL_told_L16 n (Mn M) row (nI w) (nI j)) (fun j M' c' s' => j ≤ w ∧ Gx xO (Mn M) M M' ∧ Mn M' + c ≤ Mn M + c' ∧ c + 2 ≤ c' ∧ c' ≤ c + 2 + j ∧ ∃ a', isSb M' (Mn M) a' (rowT r j) ∧ s' + 12 ≤ s + 2 * Ml M' a' ∧ Ml M' a' ≤ 54) (fun j => w - j) ?_ fu 0 M2 _ _ (by unfold fu; omega) ⟨Nat.zero_le _, g2', by omega, by omega, by omega, _, k2, by omega, by omega⟩
  rintro n j M3 c3 s3 ⟨hj, g3, f1, f2, f3, a3, k3, f4, f5⟩ ih
  have b3 := hb.gx g3 hb.1 rfl
  have hm3 := g3.mn
  show Rw (gL_told_L16 (n + 1) (Mn M) row (nI w) (nI j)) _ _ _ _
  unfold gL_told_L16
  refine Rw_cs (d := w ≤ j) (nle (by omega) (by omega)) (fun z => ?_) (fun z => ?_)
  · have : j = w := by omega
    subst this
    rw [Rw_wq]
    refine (lToS k3 (by omega)).mono ?_
    rintro v M4 c4 s4 ⟨rfl, k4, g4, m4, rfl, rfl⟩
    have hl := rowT_l r j
    rw [Rw_wr]
    exact ⟨⟨_, k4, by omega, by omega⟩, g3.tr (g4.mono hm3 (fun _ _ z => z)), by omega, by omega, by omega, by omega⟩
  · have hl := rowT_l r j
    have go : ∀ y : Nat, y < 128 → y = (if r.testBit j = true then 35 else 46) → Rw (gL_told_L41 (gL_told_L16 n) (Mn M) row (nI w) (nI j) (nI y) (Mn M)) M3 c3 s3 (fun v M' c' s' => (∃ u, isSr M' v u (rowT r w) ∧ Mn M ≤ v ∧ Mn M ≤ u) ∧ Gx xO (Mn M) M M' ∧ Mn M' + c ≤ Mn M + c' ∧ c ≤ c' ∧ c' ≤ c + 4 + w ∧ s' ≤ s + 170) := by
      intro y hy hy2
      unfold gL_told_L41
      rw [Rw_wq]
      refine (lApC k3 (by omega) hy (by omega)).mono ?_
      rintro v M4 c4 s4 ⟨rfl, a4, k4, g4, h4, e1, e2, e3, e4, e5⟩
      have ha := k3.2.1.1
      rw [nL1, nI_add]
      refine ih (j + 1) M4 c4 s4 ⟨by omega, g3.tr (g4.mono hm3 (fun q hq _ => x2_f (by omega) (by omega))), by omega, by omega, by omega, a4, ?_, by omega, ?_⟩ (by omega)
      · rw [hy2] at k4; exact k4
      · rw [List.length_append, hl] at e5
        have : ([y] : List Nat).length = 1 := rfl
        omega
    rw [Rw_wb, b3.lI (by omega) (by omega)]
    refine Rw_cs (d := r.testBit j = false) (bN_t _) (fun y => ?_) (fun y => ?_)
    · exact go 46 (by omega) (by rw [y]; rfl)
    · exact go 35 (by omega) (by cases q : r.testBit j with | true => rfl | false => exact absurd q y)
end SBV
