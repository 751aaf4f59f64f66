/-! WHAT IS TOLD OF A LINE: its harm, the worst so far, its code read below another -/
theorem harmQ (P : Pg) {l : Nat} (hl : l < PL P) (h7 : PL P ≤ 7) : spHarm P (nI l) (nI 0) = .inr (nI (sm (fun i => bN (decide (0 < zWr P (sndH P l) i))) (PL P))) ∧ spHarm P (nI l) (nI 1) = .inr (nI (zWs P (sndH P l))) ∧ spHarm P (nI l) (nI 2) = .inr (lastW P (sndH P l) (PL P)) := by
  unfold spHarm
  refine ⟨?_, ?_, ?_⟩
  · rw [isLn_n (by omega) hl, if_pos rfl, isLn_n (by omega) (show 0 < 3 by omega), if_pos rfl, ix_n (by omega), if_pos rfl]
  · rw [isLn_n (by omega) hl, if_pos rfl, isLn_n (by omega) (show 1 < 3 by omega), if_pos rfl, ix_n (by omega), if_neg (by decide), if_pos rfl]
  · rw [isLn_n (by omega) hl, if_pos rfl, isLn_n (by omega) (show 2 < 3 by omega), if_pos rfl, ix_n (by omega), if_neg (by decide), if_neg (by decide)]
theorem rbQ2 {P : Pg} {l r : Nat} (hl : l < PL P) (h7 : PL P ≤ 7) (hr : r ≤ PL P) : spReadBelow P (nI l) (pl r) = .inr (rbV P l (if r = 0 then 0 else Pr P (r - 1))) := by
  unfold spReadBelow
  cases r with
  | zero => rw [if_pos ⟨isLn_n (by omega) hl, Or.inl pl_0.symm⟩, ix_n (by omega), if_pos pl_0.symm, if_pos rfl]
  | succ r =>
    have hne : ¬ nI r = (-1 : Int32) := fun e => by
      have h1 : ¬ nI r < 0 := nI_pos (by omega)
      rw [e] at h1
      exact h1 (by decide)
    rw [pl_s, if_pos ⟨isLn_n (by omega) hl, Or.inr (isLn_n (by omega) (by omega))⟩, ix_n (by omega), if_neg hne, ix_n (by omega), if_neg (by omega)]
    rfl
theorem zWr_w (P : Pg) (S : Sn) (l : Nat) : zWr P S l ≤ Pw P := cn_le _ _
theorem wrst_b {P : Pg} (h : wfP P) : ∀ n, (wrst P n).1 ≤ n ∧ (wrst P n).2 ≤ 800 := by
  intro n
  induction n with
  | zero => exact ⟨Nat.le_refl _, Nat.zero_le _⟩
  | succ n ih =>
    unfold wrst
    split
    · exact ⟨Nat.le_refl _, zWs_le h _⟩
    · exact ⟨by omega, ih.2⟩
section TM
variable {M0 M : Mm} {p : Nat} {P : Pg} {b : Nat → Nat} {hs hl h a : Nat} {R : List Nat} {c0 s0 t c s u v l : Nat} {nU : Hq} {k17 : Nat → Nat → Nat → Int32 → Int32 → Int32 → Int32 → Mm → Option (Int32 × Mm × Nat × Nat)} {Q : Int32 → Mm → Nat → Nat → Prop} {x4 x5 : Int32}
/-- the class is asked what it reads there -/
theorem lt303 (k : TS M0 p P nU hs hl h a R c0 s0 M t c s u v) (qt : QT p hs hl h a R) (h7 : PL P ≤ 7) (hl' : l < PL P) {r : Nat} (hr : r ≤ PL P) {x12 : Int32} (hx : x12 = rbV P l (if r = 0 then 0 else Pr P (r - 1))) (kk : ∀ M' c' s', TS M0 p P nU hs hl h a R c0 s0 M' t c' s' (u + 2) (v + 12) → Rw (k17 0 p 38 (nI (PL P)) x4 x5 (nI (l + 1))) M' c' s' Q) : Rw (gL_isTold_L303 k17 0 p 38 (nI (PL P)) x4 x5 (nI l) (pl r) x12) M c s Q := by
  unfold gL_isTold_L303
  rw [Rw_wq]
  refine kAsk k.1 xCo_Q (cReadBelow k.1.1 k.1.2.1 k.1.2.2.1 (nI l) (pl r)) (rbQ2 hl' h7 hr) (fun M2 k2 g2 n2 => ?_)
  refine Rw_yes hx.symm ?_
  rw [nL1, nI_add]
  exact kk M2 _ _ (k.ask qt k2 g2 n2)
/-- a row of dots beside the line's own -/
theorem lt250 (k : TS M0 p P nU hs hl h a R c0 s0 M t c s u v) (qt : QT p hs hl h a R) (h27 : Pw P ≤ 27) (h7 : PL P ≤ 7) (hl' : l < PL P) {r : Nat} (hr : r ≤ PL P) {o q : Nat} (hb : isBr M o (Pw P) q) (hx : nI (dif (Pw P) q (Pr P l)) = rbV P l (if r = 0 then 0 else Pr P (r - 1))) (kk : ∀ M' c' s', TS M0 p P nU hs hl h a R c0 s0 M' t c' s' (u + 2) (v + 12) → Rw (k17 0 p 38 (nI (PL P)) x4 x5 (nI (l + 1))) M' c' s' Q) : Rw (gL_isTold_L250 k17 fu 0 p 38 (nI (PL P)) x4 x5 (nI l) (pl r) (some o) (nI 0) (nI 0)) M c s Q := by
  refine rw_loopv (F := fun n (j : Nat) => gL_isTold_L250 k17 n 0 p 38 (nI (PL P)) x4 x5 (nI l) (pl r) (some o) (nI (cn (fun i => q.testBit i != (Pr P l).testBit i) j)) (nI j)) (fun j M' c' s' => j ≤ Pw P ∧ M' = M ∧ c' = c ∧ s' = s) (fun j => Pw P - j) ?_ fu 0 M c s (by unfold fu; omega) ⟨Nat.zero_le _, rfl, rfl, rfl⟩
  rintro n j M1 c1 s1 ⟨hj, rfl, rfl, rfl⟩ ih
  show Rw (gL_isTold_L250 k17 (n + 1) 0 p 38 (nI (PL P)) x4 x5 (nI l) (pl r) (some o) (nI (cn (fun i => q.testBit i != (Pr P l).testBit i) j)) (nI j)) _ _ _ _
  unfold gL_isTold_L250
  rw [Rw_wb, Rn_gI, k.2.1.1.2.1]
  refine Rw_cs (d := Pw P ≤ j) (nle (by omega) (by omega)) (fun z => ?_) (fun z => ?_)
  · have : j = Pw P := by omega
    subst this
    exact lt303 k qt h7 hl' hr hx kk
  · obtain ⟨y, hy, byy⟩ := k.2.1.row hl'
    rw [Rw_op1, Rw_wb, hb.lI (by omega) (by omega), Rw_wb, Rn_gA k.2.1.1.2.2.2.2, Rw_wq, lGet k.2.1.2.2.2.1.1 hy, Rw_wb, Rn_ckK byy.1 byy.2.1, Rw_wb, byy.lI (by omega) (by omega)]
    have es : cn (fun i => q.testBit i != (Pr P l).testBit i) (j + 1) = cn (fun i => q.testBit i != (Pr P l).testBit i) j + bN (q.testBit j != (Pr P l).testBit j) := rfl
    refine Rw_cs (d := q.testBit j = (Pr P l).testBit j) (bN_eq _ _) (fun w => ?_) (fun w => ?_)
    · unfold gL_isTold_L294
      rw [Rw_wb, Rn_rtn, nL0, nI_add, nL1, nI_add]
      have e0 : cn (fun i => q.testBit i != (Pr P l).testBit i) j + 0 = cn (fun i => q.testBit i != (Pr P l).testBit i) (j + 1) := by
        rw [es, w]; simp [bN]
      rw [e0]
      exact ih (j + 1) M1 c1 s1 ⟨by omega, rfl, rfl, rfl⟩ (by omega)
    · unfold gL_isTold_L294
      rw [Rw_wb, Rn_rtn, nL1, nI_add, nI_add]
      have e1 : cn (fun i => q.testBit i != (Pr P l).testBit i) j + 1 = cn (fun i => q.testBit i != (Pr P l).testBit i) (j + 1) := by
        rw [es]
        have : (q.testBit j != (Pr P l).testBit j) = true := by simp [bne, w]
        rw [this]; rfl
      rw [e1]
      exact ih (j + 1) M1 c1 s1 ⟨by omega, rfl, rfl, rfl⟩ (by omega)
theorem lt230 (k : TS M0 p P nU hs hl h a R c0 s0 M t c s u v) (qt : QT p hs hl h a R) (hP : okP P b) (hu : c0 + u ≤ 830000000) (hl' : l < PL P) {r : Nat} (hr : r ≤ PL P) {hc_ hu_ N : Nat} (cl : isCl M N hc_ (cod (Pw P) (Pr P l) (Pu P l))) (bu_ : isBr M hu_ (Pw P) (if r = 0 then 0 else Pr P (r - 1))) (kk : ∀ M' c' s', TS M0 p P nU hs hl h a R c0 s0 M' t c' s' (u + kRd 28 27 + 2) (v + sRd 27 28 27 + 12) → Rw (k17 0 p 38 (nI (PL P)) x4 x5 (nI (l + 1))) M' c' s' Q) : Rw (gL_isTold_L230 k17 0 p 38 (nI (PL P)) x4 x5 (nI l) (pl r) hu_ hc_) M c s Q := by
  have h7 := hP.2.2.1
  have h27 := hP.2.1
  have hlen := cod_len (Pw P) (Pr P l) (Pu P l)
  have hck := k.2.2.2.2.2.2.2.1
  unfold gL_isTold_L230
  rw [Rw_wq]
  refine (lRead cl bu_ h27 (cod_ok (by omega)) k.2.2.2.1 (by omega)).mono ?_
  rintro o M1 c1 s1 ⟨g1, e1, p1, f1, f2⟩
  have q0 := chU_len (if r = 0 then 0 else Pr P (r - 1)) (Pw P)
  have q1 := kRd_le (m := (cod (Pw P) (Pr P l) (Pu P l)).length) (by omega) (show _ ≤ 27 from Nat.le_trans q0 h27)
  have q2 := sRd_le h27 (m := (cod (Pw P) (Pr P l) (Pu P l)).length) (by omega) (show _ ≤ 27 from Nat.le_trans q0 h27)
  have k1 := (k.law g1 e1 p1).up (u1 := u + kRd 28 27) (v1 := v + sRd 27 28 27) (by omega) (by omega)
  cases hrd : rdC (Pw P) (if r = 0 then 0 else Pr P (r - 1)) (cod (Pw P) (Pr P l) (Pu P l)) with
  | some q =>
    obtain ⟨o1, rfl, b1, -⟩ := f1 q hrd
    rw [Rw_op1]
    unfold gL_isTold_L245
    refine lt250 k1 qt h27 h7 hl' hr b1 ?_ kk
    unfold rbV
    rw [hrd]
  | none =>
    rw [f2 hrd, Rw_op0]
    unfold gL_isTold_L245
    have h8 := hP.1.1
    show Rw (gL_isTold_L250 k17 (19999 + 1) 0 p 38 (nI (PL P)) x4 x5 (nI l) (pl r) none (-1) 0) _ _ _ _
    unfold gL_isTold_L250
    rw [Rw_wb, Rn_gI, k1.2.1.1.2.1]
    refine Rw_no (fun z => ?_) ?_
    · rw [nL0, nle (by omega) (by omega)] at z; omega
    rw [Rw_op0]
    refine lt303 k1 qt h7 hl' hr ?_ kk
    unfold rbV
    rw [hrd]
theorem lt187 (k : TS M0 p P nU hs hl h a R c0 s0 M t c s u v) (qt : QT p hs hl h a R) (hP : okP P b) (hu : c0 + u ≤ 820000000) (hl' : l < PL P) (ht : t < 900000) (kk : ∀ M' c' s', TS M0 p P nU hs hl h a R c0 s0 M' (t + 1) c' s' (u + uCo b l + 1 + kRd 28 27 + 2) (v + vCo b l + 27 + sRd 27 28 27 + 12) → Rw (k17 0 p 38 (nI (PL P)) x4 x5 (nI (l + 1))) M' c' s' Q) : Rw (gL_isTold_L187 k17 0 p 38 (nI (PL P)) x4 x5 (nI l)) M c s Q := by
  have h7 := hP.2.2.1
  have h27 := hP.2.1
  have hco := uCo_m b l
  unfold gL_isTold_L187
  rw [Rw_wq, nL1, nI_add]
  refine lNext k.2.2.1 (by omega) (by omega) (by omega) (fun M1 r hr g1 n1 o1 => ?_)
  have k1 := k.nxt qt o1 g1 n1
  have hck := k1.2.2.2.2.2.2.2.1
  rw [Rw_wb, Rn_rtn, Rw_wq]
  refine (lCodeOf k1.2.1 hP hl' k1.2.2.2.1 (by omega)).mono ?_
  rintro hc_ M2 c2 s2 ⟨g2, e2, p2, cl2⟩
  have k2 := k1.law g2 e2 p2
  have hck2 := k2.2.2.2.2.2.2.2.1
  have hpl : nI r - nI 1 = pl r := rfl
  rw [hpl]
  refine Rw_cs (d := 1 ≤ r) ((pl_ge (q := r) (w := 0) (by omega) (by omega)).trans (by omega)) (fun z => ?_) (fun z => ?_)
  · obtain ⟨x, hx, bx⟩ := k2.2.1.row (show r - 1 < PL P by omega)
    have er : pl r = nI (r - 1) := by
      have : r = (r - 1) + 1 := by omega
      rw [this, pl_s]; rfl
    rw [Rw_wb, Rn_gA k2.2.1.1.2.2.2.2, Rw_wq, er, lGet k2.2.1.2.2.2.1.1 hx, Rw_wb, Rn_ckK bx.1 bx.2.1, ← er]
    exact lt230 (k2.up (u1 := u + uCo b l + 1) (v1 := v + vCo b l + 27) (by omega) (by omega)) qt hP (by omega) hl' (by omega) cl2 (by rw [if_neg (by omega)]; exact bx) kk
  · have : r = 0 := by omega
    subst this
    have hmp := k2.2.2.2.1.1
    rw [Rw_wb, Rn_gI, k2.2.1.1.2.1, Rw_wq, Rw_nA (by omega) (by omega)]
    have g3 : Gx xO (Mn M2) M2 (nw M2 13 (Pw P)) := Gx.rf.nw (Nat.le_refl _) (by rw [SB_v]; omega)
    have b3 : isBr (nw M2 13 (Pw P)) (Mn M2) (Pw P) 0 := ⟨by show Mn M2 < Mn M2 + 1; omega, by rw [Mk_nw, if_pos rfl], by rw [Ml_nw, if_pos rfl], fun j _ => by rw [Mi_nw, if_pos rfl, Nat.zero_testBit]; rfl⟩
    have n3 : Mn (nw M2 13 (Pw P)) = Mn M2 + 1 := rfl
    have p3 : Pl (nw M2 13 (Pw P)) (c2 + 1) := k2.2.2.2.1.go g3 (by omega)
    have k3 := k2.law g3 (c1 := c2 + 1) (s1 := s2 + Pw P) (u1 := 1) (v1 := 27) ⟨by omega, by omega, by omega, by omega⟩ p3
    exact lt230 k3 qt hP (by omega) hl' (by omega) (cl2.gx g3 (Nat.le_refl _) (fun _ _ _ => rfl)) b3 kk
/-- a line's harm -/
theorem lt69 (k : TS M0 p P nU hs hl h a R c0 s0 M t c s u v) (qt : QT p hs hl h a R) (hP : okP P b) (hu : c0 + u ≤ 810000000) (hl' : l < PL P) (ht : t < 900000) {q : Nat} (sc : SC M q (pSet P 3 0) (loOne l)) (kk : ∀ M' c' s', TS M0 p P nU hs hl h a R c0 s0 M' (t + 1) c' s' (u + 6 + uCo b l + 1 + kRd 28 27 + 2) (v + 36 + vCo b l + 27 + sRd 27 28 27 + 12) → Rw (k17 0 p 38 (nI (PL P)) (pl (wrst P (l + 1)).1) (nI (wrst P (l + 1)).2) (nI (l + 1))) M' c' s' Q) : Rw (gL_isTold_L69 k17 fu 0 p 38 (nI (PL P)) (pl (wrst P l).1) (nI (wrst P l).2) (nI l) q (nI 0) (-1) (nI 0)) M c s Q := by
  have h7 := hP.2.2.1
  have h27 := hP.2.1
  refine rw_loopv (F := fun n (j : Nat) => gL_isTold_L69 k17 n 0 p 38 (nI (PL P)) (pl (wrst P l).1) (nI (wrst P l).2) (nI l) q (nI (sm (fun i => bN (decide (0 < zWr P (sndH P l) i))) j)) (lastW P (sndH P l) j) (nI j)) (fun j M' c' s' => j ≤ PL P ∧ M' = M ∧ c' = c ∧ s' = s) (fun j => PL P - j) ?_ fu 0 M c s (by unfold fu; omega) ⟨Nat.zero_le _, rfl, rfl, rfl⟩
  rintro n j M1 c1 s1 ⟨hj, rfl, rfl, rfl⟩ ih
  show Rw (gL_isTold_L69 k17 (n + 1) 0 p 38 (nI (PL P)) (pl (wrst P l).1) (nI (wrst P l).2) (nI l) q (nI (sm (fun i => bN (decide (0 < zWr P (sndH P l) i))) j)) (lastW P (sndH P l) j) (nI j)) _ _ _ _
  unfold gL_isTold_L69
  refine Rw_cs (d := PL P ≤ j) (nle (by omega) (by omega)) (fun z => ?_) (fun z => ?_)
  · have : j = PL P := by omega
    subst this
    obtain ⟨r0, r1, r2⟩ := harmQ P hl' h7
    obtain ⟨w1, w2⟩ := wrst_b hP.1 l
    have w3 : zWs P (sndH P l) ≤ 800 := zWs_le hP.1 _
    rw [Rw_wq]
    refine kAsk k.1 xSd_Q (cHarmOp k.1.1 k.1.2.1 k.1.2.2.1 (nI l) (nI 0)) r0 (fun M2 k2 g2 n2 => ?_)
    have t2 := k.ask qt k2 g2 n2 (kc := 2) (ks := 12)
    have sc2 := sc.gk g2
    refine Rw_yes rfl ?_
    rw [Rw_wq]
    refine kAsk t2.1 xSd_Q (cHarmOp t2.1.1 t2.1.2.1 t2.1.2.2.1 (nI l) (nI 1)) r1 (fun M3 k3 g3 n3 => ?_)
    have t3 := t2.ask qt k3 g3 n3 (kc := 2) (ks := 12)
    have sc3 := sc2.gk g3
    rw [Rw_wq, sc3.all h27 h7]
    refine Rw_yes rfl ?_
    rw [Rw_wq]
    refine kAsk t3.1 xSd_Q (cHarmOp t3.1.1 t3.1.2.1 t3.1.2.2.1 (nI l) (nI 2)) r2 (fun M4 k4 g4 n4 => ?_)
    have t4 := t3.ask qt k4 g4 n4 (kc := 2) (ks := 12)
    have sc4 := sc3.gk g4
    refine Rw_yes rfl ?_
    have upd : (wrst P l).1 = 0 ∨ (wrst P l).2 < zWs P (sndH P l) → Rw (gL_isTold_L176 k17 0 p 38 (nI (PL P)) (nI l) q) M4 (c1 + 2 + 2 + 2) (s1 + 12 + 12 + 12) Q := by
      intro hw
      have e : wrst P (l + 1) = (l + 1, zWs P (sndH P l)) := by
        show (if _ then _ else _) = _
        rw [if_pos hw]
      unfold gL_isTold_L176
      rw [Rw_wq, sc4.all h27 h7]
      have e1 : pl (wrst P (l + 1)).1 = nI l := by rw [e]; exact pl_s l
      have e2 : nI (wrst P (l + 1)).2 = nI (zWs P (sndH P l)) := by rw [e]
      rw [e1, e2] at kk
      exact lt187 t4 qt hP (by omega) hl' ht (fun M' c' s' k' => kk M' c' s' (k'.up (by omega) (by omega)))
    have old : ¬ ((wrst P l).1 = 0 ∨ (wrst P l).2 < zWs P (sndH P l)) → Rw (gL_isTold_L187 k17 0 p 38 (nI (PL P)) (pl (wrst P l).1) (nI (wrst P l).2) (nI l)) M4 (c1 + 2 + 2 + 2) (s1 + 12 + 12 + 12) Q := by
      intro hw
      have e : wrst P (l + 1) = wrst P l := by
        show (if _ then _ else _) = _
        rw [if_neg hw]
      rw [e] at kk
      exact lt187 t4 qt hP (by omega) hl' ht (fun M' c' s' k' => kk M' c' s' (k'.up (by omega) (by omega)))
    refine Rw_cs (d := (wrst P l).1 = 0) ((pl_lt (q := (wrst P l).1) (w := 0) (by omega) (by omega)).trans (by omega)) (fun y => ?_) (fun y => ?_)
    · exact upd (Or.inl y)
    · rw [Rw_wq, sc4.all h27 h7]
      refine Rw_cs (d := zWs P (sndH P l) ≤ (wrst P l).2) (nle (a := zWs P (sndH P l)) (by omega) (by omega)) (fun x => ?_) (fun x => ?_)
      · exact old (fun e => e.elim y (fun e => by omega))
      · exact upd (Or.inr (by omega))
  · have hj' : j < PL P := by omega
    have hb1 := zWr_w P (sndH P l) j
    have es : sm (fun i => bN (decide (0 < zWr P (sndH P l) i))) (j + 1) = sm (fun i => bN (decide (0 < zWr P (sndH P l) i))) j + bN (decide (0 < zWr P (sndH P l) j)) := rfl
    have el : lastW P (sndH P l) (j + 1) = if 0 < zWr P (sndH P l) j then nI j else lastW P (sndH P l) j := rfl
    have e0 : pSet P 3 0 = pSet P 3 0 := rfl
    have hc : (nI (zWr P (sndH P l) j) ≤ 0) ↔ zWr P (sndH P l) j = 0 := (nle (b := 0) (by omega) (by omega)).trans Nat.le_zero
    rw [Rw_wq, sc.wr h27 (show j < PL (pSet P 3 0) from hj')]
    refine Rw_cs (d := zWr P (sndH P l) j = 0) hc (fun y => ?_) (fun y => ?_)
    · unfold gL_isTold_L92
      rw [Rw_wb, Rn_rtn, Rw_wq, sc.wr h27 (show j < PL (pSet P 3 0) from hj')]
      refine Rw_yes (hc.mpr y) ?_
      unfold gL_isTold_L112
      rw [nL0, nI_add, nL1, nI_add]
      have := ih (j + 1) M1 c1 s1 ⟨by omega, rfl, rfl, rfl⟩ (by omega)
      rw [es, el, if_neg (by omega), decide_eq_false (show ¬ 0 < zWr P (sndH P l) j by omega)] at this
      exact this
    · unfold gL_isTold_L92
      rw [Rw_wb, Rn_rtn, Rw_wq, sc.wr h27 (show j < PL (pSet P 3 0) from hj')]
      refine Rw_no (fun z => y (hc.mp z)) ?_
      unfold gL_isTold_L112
      rw [nL1, nI_add, nI_add]
      have := ih (j + 1) M1 c1 s1 ⟨by omega, rfl, rfl, rfl⟩ (by omega)
      rw [es, el, if_pos (by omega), decide_eq_true (show 0 < zWr P (sndH P l) j by omega)] at this
      exact this
end TM
