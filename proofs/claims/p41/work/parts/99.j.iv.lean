section IV
variable {p : Nat} {P : Pg} {b : Nat → Nat} {hs hl h a : Nat} {R : List Nat} {nU : Hq} {N ag x : Nat} {G : List Nat}
theorem lAskS {M : Mm} {c s k : Nat} (ql : QL p hs hl h a R) (hk : k < 10) (kb : BS M p P nU hs hl h a R N ag x G c) {Q : Int32 → Mm → Nat → Nat → Prop} (kk : ∀ M', BS M' p P nU hs hl h a R N ag x G (c + 1) → Gx xK (Mn M) M M' → Mn M' = Mn M → Q (nI (sentV P (sndA P (Ps P)) k)) M' (c + 1) (s + 6)) : Rw (wcx 1 6 (fX7_sent 0 (nI k))) M c s Q := by
  refine kAsk kb.1 xSd_Q (cSentOp kb.1.1 kb.1.2.1 kb.1.2.2.1 (nI k)) (sentQ P hk) (fun M2 k2 g2 n2 => ?_)
  exact kk M2 (kb.gk ql k2 g2 n2 (Nat.le_add_right _ 1)) g2 n2
theorem lFour {M : Mm} {c s : Nat} (ql : QL p hs hl h a R) (hP : okP P b) (kb : BS M p P nU hs hl h a R N ag x G c) : Rw (gL_isSent_L130 fu 0 p (nI (PL P)) (nI 0)) M c s (fun v M' c' s' => v = 1 ∧ BS M' p P nU hs hl h a R N ag x G c' ∧ Gx xK (Mn M) M M' ∧ Mn M' = Mn M ∧ c' = c + 4 + (10 + Pw P) * PL P ∧ s' = s + 24 + (60 + 6 * Pw P) * PL P) := by
  have h7 := hP.2.2.1
  refine rw_loopv (F := fun n (l : Nat) => gL_isSent_L130 n 0 p (nI (PL P)) (nI l)) (fun l M' c' s' => l ≤ 4 ∧ BS M' p P nU hs hl h a R N ag x G c' ∧ Gx xK (Mn M) M M' ∧ Mn M' = Mn M ∧ c' = c + l ∧ s' = s + 6 * l) (fun l => 4 - l) ?_ fu 0 M c s (by unfold fu; omega) ⟨Nat.zero_le _, kb, Gx.rf, rfl, rfl, rfl⟩
  rintro n l M1 c1 s1 ⟨hl0, k1, g1, n1, rfl, rfl⟩ ih
  show Rw (gL_isSent_L130 (n + 1) 0 p (nI (PL P)) (nI l)) _ _ _ _
  unfold gL_isSent_L130
  refine Rw_cs (d := 4 ≤ l) (nle (a := 4) (by omega) (by omega)) (fun z => ?_) (fun z => ?_)
  · have : l = 4 := by omega
    subst this
    refine (lLines ql hP k1).mono ?_
    rintro v M2 c2 s2 ⟨e1, k2, g2, n2, e2, e3⟩
    exact ⟨e1, k2, g1.tr (g2.mono (by omega) (fun _ _ z => z)), by omega, by omega, by omega⟩
  · rw [Rw_wq, show (3 : Int32) = nI 3 from rfl, nI_add]
    refine lAskS (k := 3 + l) ql (by omega) k1 (fun M2 k2 g2 n2 => ?_)
    have d5 : ∀ j, j < PL P → Mi M2 x j = nI (zS (sndA P (Ps P)) j) := fun j hj => (k2.2.2.1.2.2.2.1 j hj).1
    rw [Rw_wq, lCount (f := zS (sndA P (Ps P))) k2.2.2.1.2.1.1 k2.2.2.1.2.2.1.2.1 (by omega) d5 (fun j _ => zS3 P (Ps P) j) (show l ≤ 3 by omega)]
    have ev : sentV P (sndA P (Ps P)) (3 + l) = sm (fun j => bN (decide (zS (sndA P (Ps P)) j = l))) (PL P) := by
      unfold sentV
      rw [if_neg (by omega), if_neg (by omega), if_neg (by omega), if_neg (by omega), if_neg (by omega), if_neg (by omega), Nat.add_sub_cancel_left]
    rw [ev]
    refine Rw_yes rfl ?_
    rw [nL1, nI_add]
    exact ih (l + 1) M2 _ _ ⟨by omega, k2, g1.tr (g2.mono (by omega) (fun _ _ z => z)), by omega, by omega, by omega⟩ (by omega)
end IV
