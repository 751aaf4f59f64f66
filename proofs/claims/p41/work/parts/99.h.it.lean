/-! THE CLASS AND THE LAW'S PAGE ARE SENT ALIKE -/
section IT
variable {M0 : Mm} {p : Nat} {P : Pg} {b : Nat → Nat} {hs hl h a : Nat} {R : List Nat} {c0 s0 : Nat} {nU : Hq} {N ag x : Nat} {G : List Nat}
/-- all that holds while the class is asked -/
def BS (M : Mm) (p : Nat) (P : Pg) (nU : Hq) (hs hl h a : Nat) (R : List Nat) (N ag x : Nat) (G : List Nat) (c : Nat) : Prop := KQ M P nU ∧ QP M p P (Ps P) hs hl h a R ∧ QS M N p P (sndA P (Ps P)) ag x G ∧ Pl M c
theorem BS.gk {M M1 : Mm} {c c1 : Nat} (k : BS M p P nU hs hl h a R N ag x G c) (ql : QL p hs hl h a R) (k1 : KQ M1 P nU) (g : Gx xK (Mn M) M M1) (n : Mn M1 = Mn M) (hc : c ≤ c1) : BS M1 p P nU hs hl h a R N ag x G c1 := by
  obtain ⟨-, a2, a3, a4⟩ := k
  exact ⟨k1, a2.gk ql g, a3.gk ql.1 g, a4.go g (by omega)⟩
/-- the dots of a line that are had -/
theorem lRec {k164 : Nat → Nat → Int32 → Int32 → Mm → Option (Int32 × Mm × Nat × Nat)} {Q : Int32 → Mm → Nat → Nat → Prop} (ql : QL p hs hl h a R) (hP : okP P b) {l : Nat} (hl' : l < PL P) {M : Mm} {c s : Nat} (k : BS M p P nU hs hl h a R N ag x G c) (kk : ∀ M' c' s', BS M' p P nU hs hl h a R N ag x G c' → Gx xK (Mn M) M M' → Mn M' = Mn M → c' = c + Pw P → s' = s + 6 * Pw P → Rw (k164 0 p (nI (PL P)) (nI (l + 1))) M' c' s' Q) : Rw (gL_isSent_L259 k164 fu 0 p (nI (PL P)) (nI l) 0) M c s Q := by
  have h7 := hP.2.2.1
  have h27 := hP.2.1
  refine rw_loopv (F := fun n (j : Nat) => gL_isSent_L259 k164 n 0 p (nI (PL P)) (nI l) (nI j)) (fun j M' c' s' => j ≤ Pw P ∧ BS M' p P nU hs hl h a R N ag x G c' ∧ Gx xK (Mn M) M M' ∧ Mn M' = Mn M ∧ c' = c + j ∧ s' = s + 6 * j) (fun j => Pw P - j) ?_ fu 0 M c s (by unfold fu; omega) ⟨Nat.zero_le _, k, Gx.rf, rfl, rfl, rfl⟩
  rintro n j M1 c1 s1 ⟨hj, k1, g1, n1, rfl, rfl⟩ ih
  show Rw (gL_isSent_L259 k164 (n + 1) 0 p (nI (PL P)) (nI l) (nI j)) _ _ _ _
  unfold gL_isSent_L259
  rw [Rw_wb, Rn_gI, k1.2.1.1.2.1]
  refine Rw_cs (d := Pw P ≤ j) (nle (by omega) (by omega)) (fun z => ?_) (fun z => ?_)
  · have : j = Pw P := by omega
    rw [nL1, nI_add]
    exact kk M1 _ _ k1 g1 n1 (by omega) (by omega)
  · rw [Rw_wq]
    refine kAsk k1.1 xSd_Q (cReceivedOp k1.1.1 k1.1.2.1 k1.1.2.2.1 (nI l) (nI j)) (recQ P hl' h7 h27 (by omega)) (fun M2 k2 g2 n2 => ?_)
    have kb := k1.gk ql k2 g2 n2 (Nat.le_add_right _ 1)
    obtain ⟨y, hy⟩ := gt_some G (show l < G.length by rw [kb.2.2.1.1.2.2.1]; exact hl')
    have byy := kb.2.2.1.1.2.2.2 l y hy
    rw [Rw_wb, Rn_gA kb.2.2.1.1.1, Rw_wq, lGet kb.2.2.1.1.2.1 hy, Rw_wb, Rn_ckK byy.1 byy.2.1, Rw_wb, byy.lI (by omega) (by omega)]
    unfold gL_isSent_L299
    have go : ∀ v : Bool, (zG (sndA P (Ps P)) l).testBit j = v → Rw (if nI (bN ((zG (sndA P (Ps P)) l).testBit j)) = nI (bN v) then gL_isSent_L259 k164 n 0 p (nI (PL P)) (nI l) (nI j + 1) else wgrd ((0 : Int32) == 0 || (0 : Int32) == 1) (wr 0)) M2 (c + j + 1) (s + 6 * j + 6) Q := by
      intro v hv
      rw [hv]
      refine Rw_yes rfl ?_
      rw [nL1, nI_add]
      exact ih (j + 1) M2 _ _ ⟨by omega, kb, g1.tr (g2.mono (by omega) (fun _ _ z => z)), by omega, by omega, by omega⟩ (by omega)
    refine Rw_cs (d := (zG (sndA P (Ps P)) l).testBit j = false) (bN_t _) (fun y => ?_) (fun y => ?_)
    · exact go false y
    · have y : (zG (sndA P (Ps P)) l).testBit j = true := by cases q : (zG (sndA P (Ps P)) l).testBit j with
        | true => rfl
        | false => exact absurd q y
      exact go true y
end IT
