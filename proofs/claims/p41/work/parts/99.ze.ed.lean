/-! THE EDITS: lines copied, taken out, swapped -/
theorem QP.lst {M M1 : Mm} {p : Nat} {P P' : Pg} {lo : Nat → Nat} {hs hl h a : Nat} {R R' : List Nat} (L : QP M p P lo hs hl h a R) (g : Gx (x2 h a) (Mn M) M M1) (n1 : p ≠ h ∧ p ≠ a) (n2 : hs ≠ h ∧ hs ≠ a) (n3 : hl ≠ h ∧ hl ≠ a) (l : isL M1 h a R') (e1 : Pw P' = Pw P) (e2 : Pt P' = Pt P) (e3 : R'.length = PL P') (hr : ∀ (i y : Nat), R'[i]? = some y → isBr M1 y (Pw P) (Pr P' i)) (hp : ∀ y, y ∈ R' → y ≠ p) : QP M1 p P' lo hs hl h a R' := by
  obtain ⟨⟨a1, a2, a3, a4, a5⟩, ⟨b1, b2, b3⟩, ⟨c1, c2, c3⟩, d, e5, e6, e7, e8, e9⟩ := L
  have hm := g.mn
  exact ⟨⟨by omega, by rw [g.mi a1 (x2_f n1.1 n1.2), e1]; exact a2, by rw [g.mr a1 (x2_f n1.1 n1.2)]; exact a3, by rw [g.mr a1 (x2_f n1.1 n1.2)]; exact a4, by rw [g.mr a1 (x2_f n1.1 n1.2)]; exact a5⟩, ⟨by omega, by rw [g.ml b1]; exact b2, fun k hk => by rw [g.mi b1 (x2_f n2.1 n2.2), e2]; exact b3 k hk⟩, ⟨by omega, by rw [g.ml c1]; exact c2, fun k hk => by rw [g.mi c1 (x2_f n3.1 n3.2)]; exact c3 k hk⟩, ⟨l, e3, fun i y hy => by rw [e1]; exact hr i y hy⟩, e5, e6, e7, e8, hp⟩
section EDU
variable {M : Mm} {p hs hl h a f fs fl fh fa : Nat} {R fR : List Nat} {Q : Pg} {nU : Hq} {S N c s e : Nat}
/-- the list has changed -/
theorem ED.lst {P' : Pg} {R' : List Nat} {M1 : Mm} {c1 : Nat} (k : ED M p hs hl h a R f fs fl fh fa fR Q nU S N c) (aE : a ≠ EB) (g : Gx (x2 h a) (Mn M) M M1) (l : isL M1 h a R') (e1 : Pw P' = Pw Q) (e2 : Pt P' = Pt Q) (e2s : Ps P' = Ps Q) (e3 : R'.length = PL P') (hr : ∀ (i y : Nat), R'[i]? = some y → isBr M1 y (Pw Q) (Pr P' i) ∧ (y ∈ R ∨ N ≤ y)) (hc : Mn M1 + c ≤ Mn M + c1) : E2 M1 p hs hl h a R' f fs fl fh fa fR Q P' nU N c1 := by
  obtain ⟨⟨k1, k2⟩, k3, k4, k5, k6, k7, k8, k9⟩ := k
  obtain ⟨q1, q2, q3, q4, q5, q6, q7, q8, q9⟩ := id k5
  have qa := q5.resolve_left aE
  have hm := g.mn
  have hx : ∀ q, q ≠ h → q ≠ a → x2 h a q = false := fun q z1 z2 => x2_f z1 z2
  have hmem : ∀ y, y ∈ R' → 38 ≤ y ∧ y < Mn M1 ∧ y ≠ p := fun y hy => by
    obtain ⟨i, hi⟩ := List.mem_iff_getElem?.mp hy
    obtain ⟨b, w⟩ := hr i y hi
    have := b.1
    rcases w with w | w
    · have := q6 y w; omega
    · omega
  refine ⟨⟨k1.gx g k1.2.2.2.2 (fun q hq => hx q (by omega) (by omega)), k2⟩, ?_, k4.qb k6 g (Nat.le_refl _) (fun q z1 z2 => hx q (by omega) (by omega)), ⟨⟨by omega, by omega, by omega, by omega, Or.inr (by omega), fun y hy => by have := hmem y hy; omega⟩, by omega⟩, k6.up hm, by omega, by rw [g.mc (by rw [SB_v, EB_v]; omega)]; exact k8, by omega, by omega⟩
  have := k3.lst (P' := P') (lo := Ps Q) g ⟨Ne.symm k3.2.2.2.2.2.2.1, by omega⟩ (by omega) (by omega) l e1 e2 e3 (fun i y hy => (hr i y hy).1) (fun y hy => (hmem y hy).2.2)
  rw [e2s]; exact this
theorem lCopyE (k : ED M p hs hl h a R f fs fl fh fa fR Q nU S N c) (pc : PC Q e) (hc : c + 100 + uE e ≤ 700000000) {l to : Nat} (hl' : l < PL Q) (ht : to ≤ PL Q) : Rw (wb (gA p 3) fun v75 => wb (gA p 3) fun v76 => wq (gJx4a65c_get_915e3 v76 (nI l)) fun h77 => wb (ckK 13 h77) fun _ => wq (nC 13 h77) fun h78 => wq (gJx4a65c_add_7a177 v75 (nI to) h78) fun _ => wq (wcx 6 63 (fX7_copyLine 0 (nI l) (nI to))) fun v79 => wb (gA p 3) fun v80 => wq (gJx4a65c_size_8abf5 v80) fun v81 => if (v79 : Int32) = v81 then gL_law_L1056 0 p f else wgrd ((0 : Int32) == 0 || (0 : Int32) == 1) (wr 0)) M c s (fun v _ c' s' => v = 1 ∧ c' ≤ c + 20 + uE e ∧ s' ≤ s + 200 + vE e) := by
  obtain ⟨⟨hw8, -, -, hrow, -⟩, h27, h7, -⟩ := id pc.1
  have hpl := pc.2.1
  have qd := k.2.2.2.1
  have hh := qd.2.2.2.1
  have hSN := qd.2.2.2.2.2.2.2.2
  obtain ⟨y, hy, byy⟩ := k.q.row hl'
  have k6 := k.2.2.2.2.2
  have hRl : R.length = PL Q := k.q.2.2.2.1.2.1
  rw [Rw_wb, Rn_gA k.q.1.2.2.2.2, Rw_wb, Rn_gA k.q.1.2.2.2.2, Rw_wq, lGet k.q.2.2.2.1.1 hy, Rw_wb, Rn_ckK byy.1 byy.2.1, Rw_wq]
  refine (lClone byy (by omega)).mono ?_
  rintro x M1 c1 s1 ⟨rfl, g1, n1, b1, rfl, rfl⟩
  have k1 := k.go (c1 := c + 1) g1 (fun _ _ => rfl) (by omega)
  have aE := (k1.q.2.2.2.1.1.at hy).1
  have qa := qd.2.2.2.2.1.resolve_left aE
  rw [Rw_wq]
  refine (lIns k1.q.2.2.2.1.1 (by omega) (by omega) (by omega) (to := to) (x := Mn M) (by omega)).mono ?_
  rintro - M2 c2 s2 ⟨rfl, rfl, n2, g2, l2⟩
  have hrs : ∀ (i z : Nat), (insA R to (Mn M))[i]? = some z → isBr M2 z (Pw Q) (Pr (pIns Q to (Pr Q l)) i) ∧ (z ∈ R ∨ N ≤ z) := by
    intro i z hz
    rw [insA_at (by omega)] at hz
    have old : ∀ i' r', R[i']? = some z → r' = Pr Q i' → isBr M2 z (Pw Q) r' ∧ (z ∈ R ∨ N ≤ z) := by
      rintro i' r' h1 rfl
      have b := k1.q.2.2.2.1.2.2 i' z h1
      have hzS := qd.2.2.2.2.2.1 z (List.mem_of_getElem? h1)
      refine ⟨b.gx g2 b.1 (x2_f (by omega) (fun e => ?_)), Or.inl (List.mem_of_getElem? h1)⟩
      have w1 := k1.q.2.2.2.1.1.k15 aE
      have w2 := b.2.1
      rw [e, w1] at w2; cases w2
    by_cases q : i < to
    · rw [if_pos q] at hz
      exact old i _ hz (by show (if i < to then Pr Q i else _) = _; rw [if_pos q])
    · rw [if_neg q] at hz
      by_cases w : i = to
      · rw [if_pos w] at hz
        cases hz
        have er : Pr (pIns Q to (Pr Q l)) i = Pr Q l := by
          show (if i < to then Pr Q i else if i = to then Pr Q l else Pr Q (i - 1)) = _
          rw [if_neg q, if_pos w]
        rw [er]
        exact ⟨b1.gx g2 b1.1 (x2_f (by omega) (by omega)), Or.inr (by omega)⟩
      · rw [if_neg w] at hz
        exact old (i - 1) _ hz (by show (if i < to then Pr Q i else if i = to then Pr Q l else Pr Q (i - 1)) = _; rw [if_neg q, if_neg w])
  have k2 := k1.lst (P' := pIns Q to (Pr Q l)) (c1 := c + 1) aE g2 l2 rfl rfl rfl (by rw [insA_l (by omega)]; show R.length + 1 = PL Q + 1; omega) hrs (by omega)
  have esp : spCopy Q [] (nI l) (nI to) = (.inr (nI (PL Q + 1)), (pIns Q to (Pr Q l), pushU [] Q)) := by
    unfold spCopy
    rw [if_pos ⟨isLn_n (by omega) hl', isLn_n (by omega) (by omega)⟩, if_pos (by omega), ix_n (by omega), ix_n (by omega)]
  rw [Rw_wq]
  refine (eFin (v := nI (PL Q + 1)) (x := 2) (y := 1) k2 pc (by omega) rfl (by show PL Q + 1 ≤ 7; omega) rfl rfl (by omega) (fun B V hC => by
    have := cCopyOp hC (nI l) (nI to)
    rw [esp] at this; exact this)).mono ?_
  rintro w M3 c3 s3 ⟨rfl, L3, fin⟩
  rw [Rw_wb, Rn_gA L3.1.2.2.2.2, Rw_wq, lSize L3.2.2.2.1.1, L3.2.2.2.1.2.1]
  refine Rw_yes rfl (fin.mono ?_)
  rintro v M4 c4 s4 ⟨r1, r2, r3⟩
  exact ⟨r1, by omega, by omega⟩
theorem lRemE (k : ED M p hs hl h a R f fs fl fh fa fR Q nU S N c) (pc : PC Q e) (hc : c + 100 + uE e ≤ 700000000) {l : Nat} (hl' : l < PL Q) : Rw (wb (gA p 3) fun v67 => wq (gJx4a65c_remove_915e3 v67 (nI l)) fun h68 => wb (ckK 13 h68) fun _ => wq (wcx 5 57 (fX7_removeLine 0 (nI l))) fun v69 => wb (gA p 3) fun v70 => wq (gJx4a65c_size_8abf5 v70) fun v71 => if (v69 : Int32) = v71 then gL_law_L1056 0 p f else wgrd ((0 : Int32) == 0 || (0 : Int32) == 1) (wr 0)) M c s (fun v _ c' s' => v = 1 ∧ c' ≤ c + 20 + uE e ∧ s' ≤ s + 200 + vE e) := by
  obtain ⟨⟨hw8, -, -, hrow, -⟩, h27, h7, -⟩ := id pc.1
  have hpl := pc.2.1
  have qd := k.2.2.2.1
  have hh := qd.2.2.2.1
  obtain ⟨y, hy, byy⟩ := k.q.row hl'
  have hRl : R.length = PL Q := k.q.2.2.2.1.2.1
  have aE := (k.q.2.2.2.1.1.at hy).1
  have qa := qd.2.2.2.2.1.resolve_left aE
  rw [Rw_wb, Rn_gA k.q.1.2.2.2.2, Rw_wq]
  refine (lRem k.q.2.2.2.1.1 (by omega) (by omega) hy).mono ?_
  rintro x M2 c2 s2 ⟨rfl, rfl, rfl, n2, g2, l2⟩
  have keep : ∀ i z, R[i]? = some z → isBr M2 z (Pw Q) (Pr Q i) := by
    intro i z hz
    have b := k.q.2.2.2.1.2.2 i z hz
    have hzS := qd.2.2.2.2.2.1 z (List.mem_of_getElem? hz)
    refine b.gx g2 b.1 (x2_f (by omega) (fun e => ?_))
    have w1 := k.q.2.2.2.1.1.k15 aE
    have w2 := b.2.1
    rw [e, w1] at w2; cases w2
  have hrs : ∀ (i z : Nat), (delA R l)[i]? = some z → isBr M2 z (Pw Q) (Pr (pDel Q l) i) ∧ (z ∈ R ∨ N ≤ z) := by
    intro i z hz
    rw [delA_at (by omega)] at hz
    by_cases q : i < l
    · rw [if_pos q] at hz
      have er : Pr (pDel Q l) i = Pr Q i := by show (if i < l then Pr Q i else Pr Q (i + 1)) = _; rw [if_pos q]
      rw [er]
      exact ⟨keep i z hz, Or.inl (List.mem_of_getElem? hz)⟩
    · rw [if_neg q] at hz
      have er : Pr (pDel Q l) i = Pr Q (i + 1) := by show (if i < l then Pr Q i else Pr Q (i + 1)) = _; rw [if_neg q]
      rw [er]
      exact ⟨keep (i + 1) z hz, Or.inl (List.mem_of_getElem? hz)⟩
  have k2 := k.lst (P' := pDel Q l) (c1 := c2) aE g2 l2 rfl rfl rfl (by rw [delA_l (by omega)]; show R.length - 1 = PL Q - 1; omega) hrs (by omega)
  have by2 := keep l x hy
  rw [Rw_wb, Rn_ckK by2.1 by2.2.1]
  have esp : spRemove Q [] (nI l) = (.inr (nI (PL Q - 1)), (pDel Q l, pushU [] Q)) := by
    unfold spRemove
    rw [isLn_n (by omega) hl', if_pos rfl, ix_n (by omega)]
  rw [Rw_wq]
  refine (eFin (v := nI (PL Q - 1)) (x := 2) (y := 0) k2 pc (by omega) rfl (by show PL Q - 1 ≤ 7; omega) rfl rfl (by omega) (fun B V hC => by
    have := cRemoveOp hC (nI l)
    rw [esp] at this; exact this)).mono ?_
  rintro w M3 c3 s3 ⟨rfl, L3, fin⟩
  rw [Rw_wb, Rn_gA L3.1.2.2.2.2, Rw_wq, lSize L3.2.2.2.1.1, L3.2.2.2.1.2.1]
  refine Rw_yes rfl (fin.mono ?_)
  rintro v M4 c4 s4 ⟨r1, r2, r3⟩
  exact ⟨r1, by omega, by omega⟩
theorem lSwapE (k : ED M p hs hl h a R f fs fl fh fa fR Q nU S N c) (pc : PC Q e) (hc : c + 100 + uE e ≤ 700000000) {l o yl : Nat} (hl' : l < PL Q) (ho : o < PL Q) (hyl : R[l]? = some yl) : Rw (gL_law_L959 fu 0 p f (nI l) (nI o) yl (nI 0) (nI 0)) M c s (fun v _ c' s' => v = 1 ∧ c' ≤ c + 20 + uE e ∧ s' ≤ s + 200 + vE e) := by
  obtain ⟨⟨hw8, -, -, hrow, -⟩, h27, h7, -⟩ := id pc.1
  have hpl := pc.2.1
  have qd := k.2.2.2.1
  have hh := qd.2.2.2.1
  have k6 := k.2.2.2.2.2
  have hRl : R.length = PL Q := k.q.2.2.2.1.2.1
  have aE := (k.q.2.2.2.1.1.at hyl).1
  have qa := qd.2.2.2.2.1.resolve_left aE
  have byl := k.q.2.2.2.1.2.2 l yl hyl
  obtain ⟨yo, hyo, byo⟩ := k.q.row ho
  refine rw_loopv (F := fun n (j : Nat) => gL_law_L959 n 0 p f (nI l) (nI o) yl (nI (cn (fun i => (Pr Q l).testBit i != (Pr Q o).testBit i) j)) (nI j)) (fun j M' c' s' => j ≤ Pw Q ∧ M' = M ∧ c' = c ∧ s' = s) (fun j => Pw Q - j) ?_ fu 0 M c s (by unfold fu; omega) ⟨Nat.zero_le _, rfl, rfl, rfl⟩
  rintro n j M1 c1 s1 ⟨hj, rfl, rfl, rfl⟩ ih
  show Rw (gL_law_L959 (n + 1) 0 p f (nI l) (nI o) yl (nI (cn (fun i => (Pr Q l).testBit i != (Pr Q o).testBit i) j)) (nI j)) _ _ _ _
  unfold gL_law_L959
  rw [Rw_wb, Rn_gI, k.q.1.2.1]
  refine Rw_cs (d := Pw Q ≤ j) (nle (by omega) (by omega)) (fun z => ?_) (fun z => ?_)
  · have : j = Pw Q := by omega
    subst this
    have hyoS := qd.2.2.2.2.2.1 yo (List.mem_of_getElem? hyo)
    have hylS := qd.2.2.2.2.2.1 yl (List.mem_of_getElem? hyl)
    have hpS := qd.1
    rw [Rw_wb, Rn_gA k.q.1.2.2.2.2, Rw_wb, Rn_gA k.q.1.2.2.2.2, Rw_wq, lGet k.q.2.2.2.1.1 hyo, Rw_wb, Rn_ckK byo.1 byo.2.1, Rw_wq]
    refine lSet k.q.2.2.2.1.1 hyl ?_
    have L1 := k.q.setR (l := l) (x := yo) (r := Pr Q o) hl' byo (by omega) (by omega)
    have g1 : Gx (x2 h a) (Mn M1) M1 (sR M1 a l (some yo)) := Gx.rf.sR (fun _ => by simp [x2])
    have bl1 : isBr (sR M1 a l (some yo)) yl (Pw Q) (Pr Q l) := byl
    have m1 : Mn (sR M1 a l (some yo)) = Mn M1 := rfl
    generalize sR M1 a l (some yo) = M2 at L1 g1 bl1 m1
    obtain ⟨u, hu⟩ := gt_some (R.set l yo) (show o < (R.set l yo).length by rw [List.length_set]; omega)
    rw [Rw_wb, Rn_gA L1.1.2.2.2.2, Rw_wq]
    refine lSet L1.2.2.2.1.1 hu ?_
    have L2 := L1.setR (l := o) (x := yl) (r := Pr Q l) ho bl1 (by omega) (by omega)
    have g2 : Gx (x2 h a) (Mn M1) M1 (sR M2 a o (some yl)) := g1.sR (fun _ => by simp [x2])
    have m2 : Mn (sR M2 a o (some yl)) = Mn M1 := m1
    generalize sR M2 a o (some yl) = M3 at L2 g2 m2
    have mem : ∀ y, y ∈ (R.set l yo).set o yl → y ∈ R := fun y hy => by
      rcases List.mem_or_eq_of_mem_set hy with w | w
      · rcases List.mem_or_eq_of_mem_set w with w | w
        · exact w
        · rw [w]; exact List.mem_of_getElem? hyo
      · rw [w]; exact List.mem_of_getElem? hyl
    have k3 : E2 M3 p hs hl h a ((R.set l yo).set o yl) f fs fl fh fa fR Q (pRow (pRow Q l (Pr Q o)) o (Pr Q l)) nU N c1 :=
      k.lst (P' := pRow (pRow Q l (Pr Q o)) o (Pr Q l)) (c1 := c1) aE g2 L2.2.2.2.1.1 rfl rfl rfl L2.2.2.2.1.2.1 (fun i y hy => ⟨L2.2.2.2.1.2.2 i y hy, Or.inl (mem y (List.mem_of_getElem? hy))⟩) (by omega)
    have esp : spSwap Q [] (nI l) (nI o) = (.inr (nI (dif (Pw Q) (Pr Q l) (Pr Q o))), (pRow (pRow Q l (Pr Q o)) o (Pr Q l), pushU [] Q)) := by
      unfold spSwap
      rw [if_pos ⟨isLn_n (by omega) hl', isLn_n (by omega) ho⟩, ix_n (by omega), ix_n (by omega)]
    rw [Rw_wq]
    refine (eFin (v := nI (dif (Pw Q) (Pr Q l) (Pr Q o))) (x := 2) (y := 0) k3 pc (by omega) rfl h7 rfl rfl (by omega) (fun B V hC => by
      have := cSwapOp hC (nI l) (nI o)
      rw [esp] at this; exact this)).mono ?_
    rintro w M4 c4 s4 ⟨rfl, -, fin⟩
    refine Rw_yes rfl (fin.mono ?_)
    rintro v M5 c5 s5 ⟨r1, r2, r3⟩
    exact ⟨r1, by omega, by omega⟩
  · rw [Rw_wb, byl.lI (by omega) (by omega), Rw_wb, Rn_gA k.q.1.2.2.2.2, Rw_wq, lGet k.q.2.2.2.1.1 hyo, Rw_wb, Rn_ckK byo.1 byo.2.1, Rw_wb, byo.lI (by omega) (by omega)]
    have go : ∀ d : Bool, d = ((Pr Q l).testBit j != (Pr Q o).testBit j) → Rw (gL_law_L998 (gL_law_L959 n) 0 p f (nI l) (nI o) yl (nI j) (nI (bN d)) (nI (cn (fun i => (Pr Q l).testBit i != (Pr Q o).testBit i) j))) M1 c1 s1 (fun v _ c' s' => v = 1 ∧ c' ≤ c1 + 20 + uE e ∧ s' ≤ s1 + 200 + vE e) := by
      intro d hd
      unfold gL_law_L998
      rw [Rw_wb, Rn_rtn, nI_add, nL1, nI_add]
      have ec : cn (fun i => (Pr Q l).testBit i != (Pr Q o).testBit i) j + bN d = cn (fun i => (Pr Q l).testBit i != (Pr Q o).testBit i) (j + 1) := by rw [cn_s, hd]
      rw [ec]
      exact ih (j + 1) M1 _ _ ⟨by omega, rfl, rfl, rfl⟩ (by omega)
    refine Rw_cs (d := (Pr Q l).testBit j = (Pr Q o).testBit j) (bN_eq _ _) (fun w => ?_) (fun w => ?_)
    · exact go false (by rw [w]; simp)
    · exact go true (by simp [bne, w])
end EDU
