section IU
variable {M0 : Mm} {p : Nat} {P : Pg} {b : Nat → Nat} {hs hl h a : Nat} {R : List Nat} {c0 s0 : Nat} {nU : Hq} {N ag x : Nat} {G : List Nat}
/-- one answer of a line's sending beside a number of the law's -/
theorem lAskL {M : Mm} {c s l k : Nat} (ql : QL p hs hl h a R) (hP : okP P b) (hl' : l < PL P) (hk : k < 5) (kb : BS M p P nU hs hl h a R N ag x G c) {Q : Int32 → Mm → Nat → Nat → Prop} (kk : ∀ M', BS M' p P nU hs hl h a R N ag x G (c + 2) → Gx xK (Mn M) M M' → Mn M' = Mn M → Q (nI (sentLV P (sndA P (Ps P)) l k)) M' (c + 2) (s + 12)) : Rw (wcx 2 12 (fX7_sentLine 0 (nI l) (nI k))) M c s Q := by
  refine kAsk kb.1 xSd_Q (cSentLineOp kb.1.1 kb.1.2.1 kb.1.2.2.1 (nI l) (nI k)) (sentLQ P hl' hP.2.2.1 hk) (fun M2 k2 g2 n2 => ?_)
  exact kk M2 (kb.gk ql k2 g2 n2 (Nat.le_add_right _ 2)) g2 n2
theorem lLines {M : Mm} {c s : Nat} (ql : QL p hs hl h a R) (hP : okP P b) (kb : BS M p P nU hs hl h a R N ag x G c) : Rw (gL_isSent_L164 fu 0 p (nI (PL P)) (nI 0)) M c s (fun v M' c' s' => v = 1 ∧ BS M' p P nU hs hl h a R N ag x G c' ∧ Gx xK (Mn M) M M' ∧ Mn M' = Mn M ∧ c' = c + (10 + Pw P) * PL P ∧ s' = s + (60 + 6 * Pw P) * PL P) := by
  have h7 := hP.2.2.1
  have h27 := hP.2.1
  refine rw_loopv (F := fun n (l : Nat) => gL_isSent_L164 n 0 p (nI (PL P)) (nI l)) (fun l M' c' s' => l ≤ PL P ∧ BS M' p P nU hs hl h a R N ag x G c' ∧ Gx xK (Mn M) M M' ∧ Mn M' = Mn M ∧ c' = c + (10 + Pw P) * l ∧ s' = s + (60 + 6 * Pw P) * l) (fun l => PL P - l) ?_ fu 0 M c s (by unfold fu; omega) ⟨Nat.zero_le _, kb, Gx.rf, rfl, rfl, rfl⟩
  rintro n l M1 c1 s1 ⟨hl0, k1, g1, n1, rfl, rfl⟩ ih
  show Rw (gL_isSent_L164 (n + 1) 0 p (nI (PL P)) (nI l)) _ _ _ _
  unfold gL_isSent_L164
  refine Rw_cs (d := PL P ≤ l) (nle (by omega) (by omega)) (fun z => ?_) (fun z => ?_)
  · have : l = PL P := by omega
    subst this
    rw [Rw_grd, Rw_wr]
    exact ⟨by decide, rfl, k1, g1, n1, rfl, rfl⟩
  have hl' : l < PL P := by omega
  have num : ∀ {M' : Mm} {c' : Nat}, BS M' p P nU hs hl h a R N ag x G c' → (∀ {Q : Int32 → Mm → Prop}, Rn (lI x (nI l)) M' Q ↔ Q (nI (zS (sndA P (Ps P)) l)) M') ∧ (∀ {Q : Int32 → Mm → Prop}, Rn (lI (x + 1) (nI l)) M' Q ↔ Q (nI (zT (sndA P (Ps P)) l)) M') ∧ (∀ {Q : Int32 → Mm → Prop}, Rn (lI (x + 2) (nI l)) M' Q ↔ Q (nI (zC (sndA P (Ps P)) l)) M') ∧ (∀ {Q : Int32 → Mm → Prop}, Rn (lI (x + 3) (nI l)) M' Q ↔ Q (nI (zK (sndA P (Ps P)) l)) M') := by
    intro M' c' k
    obtain ⟨d1, d2, d3, d4⟩ := k.2.2.1.2.2.2.1 l hl'
    obtain ⟨-, w0, w1, w2, w3⟩ := k.2.2.1.2.2.1
    exact ⟨lI_x (f := zS (sndA P (Ps P))) w0 hl' (by omega) d1, lI_x (f := zT (sndA P (Ps P))) w1 hl' (by omega) d2, lI_x (f := zC (sndA P (Ps P))) w2 hl' (by omega) d3, lI_x (f := zK (sndA P (Ps P))) w3 hl' (by omega) d4⟩
  rw [Rw_wq]
  refine lAskL (k := 0) ql hP hl' (by omega) k1 (fun M2 k2 g2 n2 => ?_)
  rw [Rw_wb, Rn_gA k2.2.2.1.2.1.1, Rw_wb, (num k2).1]
  refine Rw_yes rfl ?_
  rw [Rw_wq]
  refine lAskL (k := 1) ql hP hl' (by omega) k2 (fun M3 k3 g3 n3 => ?_)
  rw [Rw_wb, Rn_gA k3.2.2.1.2.1.2.1, Rw_wb, (num k3).2.1]
  refine Rw_yes rfl ?_
  rw [Rw_wq]
  refine lAskL (k := 2) ql hP hl' (by omega) k3 (fun M4 k4 g4 n4 => ?_)
  rw [Rw_wb, Rn_gA k4.2.2.1.2.1.2.2.1, Rw_wb, (num k4).2.2.1]
  refine Rw_yes rfl ?_
  rw [Rw_wq]
  refine lAskL (k := 3) ql hP hl' (by omega) k4 (fun M5 k5 g5 n5 => ?_)
  rw [Rw_wq, lWrong k5.2.1 k5.2.2.1.1 (by omega) hl' hl']
  refine Rw_yes rfl ?_
  rw [Rw_wq]
  refine lAskL (k := 4) ql hP hl' (by omega) k5 (fun M6 k6 g6 n6 => ?_)
  rw [Rw_wb, Rn_gA k6.2.2.1.2.1.2.2.2, Rw_wb, (num k6).2.2.2]
  refine Rw_yes rfl ?_
  refine lRec ql hP hl' k6 (fun M7 c7 s7 k7 g7 n7 hc7 hs7 => ?_)
  have cc : ∀ {A B : Mm}, Gx xK (Mn A) A B → Mn A = Mn M → Gx xK (Mn M) A B := fun g e => g.mono (by omega) (fun _ _ z => z)
  have e1 : (10 + Pw P) * (l + 1) = (10 + Pw P) * l + (10 + Pw P) := Nat.mul_succ _ _
  have e2 : (60 + 6 * Pw P) * (l + 1) = (60 + 6 * Pw P) * l + (60 + 6 * Pw P) := Nat.mul_succ _ _
  exact ih (l + 1) M7 c7 s7 ⟨hl', k7, (((((g1.tr (cc g2 n1)).tr (cc g3 (by omega))).tr (cc g4 (by omega))).tr (cc g5 (by omega))).tr (cc g6 (by omega))).tr (cc g7 (by omega)), by omega, by omega, by omega⟩ (by omega)
end IU
