/-! THE CLASS AND THE LAW'S PAGE ARE ALIKE: the whole question -/
def uLk (b : Nat → Nat) (e l : Nat) : Nat := uCo b l + kAl (b l) + uMk b e l + uBi b e l + kRd 28 (bu b l) + 301
def vLk (b : Nat → Nat) (e l : Nat) : Nat := vCo b l + sAl (b l) + vMk b e l + vBi b e l + sRd 27 28 (bu b l) + 1823
theorem uCo_m (b : Nat → Nat) (l : Nat) : uCo b l ≤ 230 := by
  unfold uCo
  have := kCd_m (m := 28) (Nat.le_refl _) (bu b l)
  split <;> omega
theorem kRd_m (n : Nat) : kRd 28 n ≤ 198 := by
  unfold kRd
  have := cpC_le n
  have : 28 * (3 + cpC n) ≤ 28 * 7 := Nat.mul_le_mul (Nat.le_refl _) (by omega)
  omega
theorem uLk_m (b : Nat → Nat) (e l : Nat) : uLk b e l ≤ 1463 := by
  unfold uLk
  have h1 := uCo_m b l
  have h2 := kAl_m (b l)
  have h3 := uMk_m b e l
  have h4 := uBi_m b e l
  have h5 := kRd_m (bu b l)
  omega
section LN
variable {M0 M : Mm} {p : Nat} {P : Pg} {b : Nat → Nat} {hs hl h a : Nat} {R : List Nat} {c0 s0 c s u v : Nat} {nU : Hq} {k65 : Nat → Nat → Int32 → Int32 → Mm → Option (Int32 × Mm × Nat × Nat)} {Q : Int32 → Mm → Nat → Nat → Prop} {l : Nat}
theorem lk73 (k : LKs M0 p P nU hs hl h a R c0 s0 M c s u v) (ql : QL p hs hl h a R) (hP : okP P b) (hu : c0 + u ≤ 800000000) (hl' : l < PL P) (kk : ∀ M' c' s', LKs M0 p P nU hs hl h a R c0 s0 M' c' s' (u + uLk b (Pt P 0) l) (v + vLk b (Pt P 0) l) → Rw (k65 0 p (nI (PL P)) (nI (l + 1))) M' c' s' Q) : Rw (gL_isLike_L73 k65 fu 0 p (nI (PL P)) (nI l) (nI 0)) M c s Q := by
  have h7 := hP.2.2.1
  have h27 := hP.2.1
  have h8 := hP.1.1
  refine rw_loopv (F := fun n (j : Nat) => gL_isLike_L73 k65 n 0 p (nI (PL P)) (nI l) (nI j)) (fun j M' c' s' => j ≤ Pw P ∧ LKs M0 p P nU hs hl h a R c0 s0 M' c' s' (u + j) (v + 6 * j)) (fun j => Pw P - j) ?_ fu 0 M c s (by unfold fu; omega) ⟨Nat.zero_le _, k⟩
  rintro n j M1 c1 s1 ⟨hj, k1⟩ ih
  show Rw (gL_isLike_L73 k65 (n + 1) 0 p (nI (PL P)) (nI l) (nI j)) _ _ _ _
  unfold gL_isLike_L73
  rw [Rw_wb, Rn_gI, k1.2.1.1.2.1]
  refine Rw_cs (d := Pw P ≤ j) (nle (by omega) (by omega)) (fun z => ?_) (fun z => ?_)
  · have hc1 := k1.2.2.2.2.2.2.1
    have m1 := uCo_m b l
    have m2 := kAl_m (b l)
    have m3 := uMk_m b (Pt P 0) l
    rw [Rw_wq]
    refine (lCodeOf k1.2.1 hP hl' k1.2.2.1 (by omega)).mono ?_
    rintro hc_ M2 c2 s2 ⟨g2, e2, p2, cl2⟩
    have k2 := k1.law g2 e2 p2
    have hc2 := k2.2.2.2.2.2.2.1
    obtain ⟨x, hx, bx⟩ := k2.2.1.row hl'
    have hm1 : 38 ≤ Mn M1 := k1.1.2.2.2.2
    have hm2 : 38 ≤ Mn M2 := k2.1.2.2.2.2
    rw [Rw_wb, Rn_gA k2.2.1.1.2.2.2.2, Rw_wq, lGet k2.2.1.2.2.2.1.1 hx, Rw_wb, Rn_ckK bx.1 bx.2.1, Rw_wq]
    refine (lAlone bx h27 (by omega) k2.2.2.1 (by omega)).mono ?_
    rintro hr_ M3 c3 s3 ⟨g3, e3, p3, rl3, -⟩
    have k3 := k2.law g3 e3 p3
    have hc3 := k3.2.2.2.2.2.2.1
    have q1 := kAl_le (hP.2.2.2 l hl')
    have q2 := sAl_le (hP.2.2.2 l hl')
    have cl3 := cl2.gk hm1 (xO_K g3)
    have rl3 := rl3.mono g2.mn
    rw [Rw_wq]
    refine aLine (j := 0) k3 ql h7 hl' (by omega) (fun M4 k4 g4 => ?_)
    have hc4 := k4.2.2.2.2.2.2.1
    rw [Rw_wq]
    refine (lIsMark k4.2.1 hP hl' k4.2.2.1 (by omega)).mono ?_
    rintro w M5 c5 s5 ⟨rfl, g5, e5, p5⟩
    have k5 := k4.law g5 e5 p5
    have cl5 := (cl3.gk hm1 g4).gk hm1 (xO_K g5)
    have rl5 := (rl3.gk hm1 g4).gk hm1 (xO_K g5)
    have fin : Rw (gL_isLike_L164 k65 0 p (nI (PL P)) (nI l) hc_ hr_ (nI (bN (isMk P l))) (nI (bN (isMk P l)))) M5 c5 s5 Q := by
      refine lk164 (k5.up (u1 := u + 29 + uCo b l + kAl (b l) + uMk b (Pt P 0) l) (v1 := v + 174 + vCo b l + sAl (b l) + vMk b (Pt P 0) l) (by omega) (by omega)) ql hP (by omega) hl' hm1 cl5 rl5 _ (fun M' c' s' k' => kk M' c' s' (k'.up ?_ ?_))
      · unfold uLk; omega
      · unfold vLk; omega
    have go : ∀ y : Bool, isMk P l = y → Rw (gL_isLike_L164 k65 0 p (nI (PL P)) (nI l) hc_ hr_ (nI (bN y)) (nI (bN (isMk P l)))) M5 c5 s5 Q := by
      intro y hy
      rw [← hy]; exact fin
    refine Rw_cs (d := isMk P l = false) (bN_t _) (fun y => ?_) (fun y => ?_)
    · exact go false y
    · have y : isMk P l = true := by cases q : isMk P l with
        | true => rfl
        | false => exact absurd q y
      exact go true y
  · rw [Rw_wq]
    refine aDot k1 ql h7 h27 hl' (by omega) (fun M2 k2 g2 => ?_)
    obtain ⟨y, hy, byy⟩ := k2.2.1.row hl'
    rw [Rw_wb, Rn_gA k2.2.1.1.2.2.2.2, Rw_wq, lGet k2.2.1.2.2.2.1.1 hy, Rw_wb, Rn_ckK byy.1 byy.2.1, Rw_wb, byy.lI (by omega) (by omega)]
    have go : ∀ w : Bool, (Pr P l).testBit j = w → Rw (gL_isLike_L111 (gL_isLike_L73 k65 n) 0 p (nI (PL P)) (nI l) (nI j) (nI (bN w)) (nI (bN ((Pr P l).testBit j)))) M2 (c1 + 1) (s1 + 6) Q := by
      intro w hw
      rw [hw]
      unfold gL_isLike_L111
      refine Rw_yes rfl ?_
      rw [nL1, nI_add]
      exact ih (j + 1) M2 _ _ ⟨by omega, k2.up (by omega) (by omega)⟩ (by omega)
    refine Rw_cs (d := (Pr P l).testBit j = false) (bN_t _) (fun y => ?_) (fun y => ?_)
    · exact go false y
    · have y : (Pr P l).testBit j = true := by cases q : (Pr P l).testBit j with
        | true => rfl
        | false => exact absurd q y
      exact go true y
theorem lk65 (k : LKs M0 p P nU hs hl h a R c0 s0 M c s u v) (ql : QL p hs hl h a R) (hP : okP P b) (hu : c0 + u ≤ 790000000) : Rw (gL_isLike_L65 fu 0 p (nI (PL P)) (nI 0)) M c s (fun w M' c' s' => w = 1 ∧ LKs M0 p P nU hs hl h a R c0 s0 M' c' s' (u + sm (uLk b (Pt P 0)) (PL P)) (v + sm (vLk b (Pt P 0)) (PL P))) := by
  have h7 := hP.2.2.1
  refine rw_loopv (F := fun n (l : Nat) => gL_isLike_L65 n 0 p (nI (PL P)) (nI l)) (fun l M' c' s' => l ≤ PL P ∧ LKs M0 p P nU hs hl h a R c0 s0 M' c' s' (u + sm (uLk b (Pt P 0)) l) (v + sm (vLk b (Pt P 0)) l)) (fun l => PL P - l) ?_ fu 0 M c s (by unfold fu; omega) ⟨Nat.zero_le _, k⟩
  rintro n l M1 c1 s1 ⟨hl0, k1⟩ ih
  show Rw (gL_isLike_L65 (n + 1) 0 p (nI (PL P)) (nI l)) _ _ _ _
  unfold gL_isLike_L65
  refine Rw_cs (d := PL P ≤ l) (nle (by omega) (by omega)) (fun z => ?_) (fun z => ?_)
  · have : l = PL P := by omega
    subst this
    rw [Rw_grd, Rw_wr]
    exact ⟨by decide, rfl, k1⟩
  · have hsm : sm (uLk b (Pt P 0)) l ≤ 1463 * l := sm_le (fun i => uLk_m b _ i) l
    refine lk73 k1 ql hP (by omega) (by omega) (fun M' c' s' k' => ?_)
    exact ih (l + 1) M' c' s' ⟨by omega, k'.up (by rw [sm_s]; omega) (by rw [sm_s]; omega)⟩ (by omega)
theorem lk35 (k : LKs M0 p P nU hs hl h a R c0 s0 M c s u v) (ql : QL p hs hl h a R) (hP : okP P b) (hu : c0 + u ≤ 780000000) : Rw (gL_isLike_L35 fu 0 p (nI (PL P)) (nI 0)) M c s (fun w M' c' s' => w = 1 ∧ LKs M0 p P nU hs hl h a R c0 s0 M' c' s' (u + 6 + sm (uLk b (Pt P 0)) (PL P)) (v + 36 + sm (vLk b (Pt P 0)) (PL P))) := by
  refine rw_loopv (F := fun n (j : Nat) => gL_isLike_L35 n 0 p (nI (PL P)) (nI j)) (fun j M' c' s' => j ≤ 6 ∧ LKs M0 p P nU hs hl h a R c0 s0 M' c' s' (u + j) (v + 6 * j)) (fun j => 6 - j) ?_ fu 0 M c s (by unfold fu; omega) ⟨Nat.zero_le _, k⟩
  rintro n j M1 c1 s1 ⟨hj, k1⟩ ih
  show Rw (gL_isLike_L35 (n + 1) 0 p (nI (PL P)) (nI j)) _ _ _ _
  unfold gL_isLike_L35
  refine Rw_cs (d := 6 ≤ j) (nle (a := 6) (by omega) (by omega)) (fun z => ?_) (fun z => ?_)
  · exact (lk65 (k1.up (u1 := u + 6) (v1 := v + 36) (by omega) (by omega)) ql hP (by omega)).mono (fun w M' c' s' e => e)
  · rw [Rw_wq]
    refine aCount k1 ql (by omega) (fun M2 k2 g2 => ?_)
    rw [Rw_wb, Rn_gA k2.2.1.1.2.2.1, Rw_wb, k2.2.1.set (show j < 6 by omega)]
    have e : cntV P nU.1 j = Pt P j := by unfold cntV; rw [if_pos (by omega)]
    rw [e]
    refine Rw_yes rfl ?_
    rw [nL1, nI_add]
    exact ih (j + 1) M2 _ _ ⟨by omega, k2.up (by omega) (by omega)⟩ (by omega)
theorem lIsLike (kq : KQ M P nU) (L : QP M p P (Ps P) hs hl h a R) (ql : QL p hs hl h a R) (hP : okP P b) (hp : Pl M c) (hc : c ≤ 770000000) : Rw (gL_isLike 0 p) M c s (fun w M' c' s' => w = 1 ∧ LKs M p P nU hs hl h a R c s M' c' s' (8 + sm (uLk b (Pt P 0)) (PL P)) (48 + sm (vLk b (Pt P 0)) (PL P))) := by
  have k : LKs M p P nU hs hl h a R c s M c s 0 0 := ⟨kq, L, hp, Gx.rf, Nat.le_refl _, Nat.le_refl _, Nat.le_refl _, Nat.le_refl _⟩
  unfold gL_isLike
  rw [Rw_wb, Rn_gA L.1.2.2.2.2, Rw_wq, lSize L.2.2.2.1.1, L.2.2.2.1.2.1, Rw_wq]
  refine aCount (j := 6) k ql (by omega) (fun M2 k2 g2 => ?_)
  rw [Rw_wb, Rn_gI, k2.2.1.1.2.1]
  refine Rw_yes rfl ?_
  rw [Rw_wq]
  refine aCount (j := 7) k2 ql (by omega) (fun M3 k3 g3 => ?_)
  refine Rw_yes rfl ?_
  refine (lk35 k3 ql hP (by omega)).mono (fun w M' c' s' e => ⟨e.1, e.2.up (by omega) (by omega)⟩)
end LN
