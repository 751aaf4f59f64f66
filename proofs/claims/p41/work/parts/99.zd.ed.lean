/-! THE EDITS: painted, copied, taken out, turned, swapped -/
theorem pRow_pRow (Q : Pg) (l r r' : Nat) : pRow (pRow Q l r) l r' = pRow Q l r' := by
  have : updN (updN (Pr Q) l r) l r' = updN (Pr Q) l r' := by
    funext i
    by_cases q : i = l
    · subst q; rw [updN_s, updN_s]
    · rw [updN_n q, updN_n q, updN_n q]
  show (Pw Q, PL Q, updN (updN (Pr Q) l r) l r', Ps Q, Pt Q) = (Pw Q, PL Q, updN (Pr Q) l r', Ps Q, Pt Q)
  rw [this]
theorem pRow_self (Q : Pg) (l : Nat) : pRow Q l (Pr Q l) = Q := by
  have : updN (Pr Q) l (Pr Q l) = Pr Q := by
    funext i
    by_cases q : i = l
    · subst q; rw [updN_s]
    · rw [updN_n q]
  show (Pw Q, PL Q, updN (Pr Q) l (Pr Q l), Ps Q, Pt Q) = Q
  rw [this]; rfl
/-- the law's page is another one already, the class's is not -/
def E2 (M : Mm) (p hs hl h a : Nat) (R : List Nat) (f fs fl fh fa : Nat) (fR : List Nat) (Q P' : Pg) (nU : Hq) (N c : Nat) : Prop :=
  (KQ M Q nU ∧ nonH nU) ∧ QP M p P' (Ps P') hs hl h a R ∧ QP M f Q (Ps Q) fs fl fh fa fR ∧ (QB p hs hl h a R 38 (Mn M) ∧ p < N) ∧ QB f fs fl fh fa fR N (Mn M) ∧ (Mn M + 160 ≤ c ∧ Ml M EB = 0 ∧ N ≤ Mn M ∧ 39 ≤ N)
section EDT
variable {M : Mm} {p hs hl h a f fs fl fh fa : Nat} {R fR : List Nat} {Q P' : Pg} {nU : Hq} {S N c s e : Nat}
theorem ED.two (k : ED M p hs hl h a R f fs fl fh fa fR Q nU S N c) : E2 M p hs hl h a R f fs fl fh fa fR Q Q nU N c := by
  obtain ⟨k1, k2, k3, k4, k5, k6, k7, k8⟩ := k
  exact ⟨k1, k2, k3, ⟨k4.qb k8, by have := k4.1; have := k4.2.2.2.2.2.2.2.2; omega⟩, k5, k6, k7, k8, by have := k4.1; have := k4.2.2.2.2.2.2.2.2; omega⟩
theorem eFin {kc ks : Nat} {Fop : Mm → Option ((Nat ⊕ Int32) × Mm)} {v : Int32} {x y : Nat} (k : E2 M p hs hl h a R f fs fl fh fa fR Q P' nU N c) (pc : PC Q e) (hc : c + 50 + uE e ≤ 700000000) (e1 : Pw P' = Pw Q) (e2 : PL P' ≤ 7) (e3 : Ps P' = Ps Q) (e4 : Pt P' = Pt Q) (hk : kc ≤ 20) (hh : ∀ (B : Nat × Nat) (V : Nat → Option Pg), CPg B M Q [] V → Rn Fop M (fun r M' => cE B x y (.inr v, (P', pushU [] Q)) V r M M')) : Rw (wcx kc ks Fop) M c s (fun w M' c' s' => w = v ∧ QP M' p P' (Ps P') hs hl h a R ∧ Rw (gL_law_L1056 0 p f) M' c' s' (fun v _ c' s' => v = 1 ∧ c' ≤ c + kc + uE e ∧ s' ≤ s + ks + vE e)) := by
  obtain ⟨⟨k1, k2⟩, k3, k4, ⟨k5, k6⟩, k7, k8, k9, k10, k11⟩ := k
  refine (eOp (v := v) (P' := P') (x := x) (y := y) k1 k2 (by omega) hh).mono ?_
  rintro w M2 c2 s2 ⟨rfl, hC, g2, n2, rfl, rfl⟩
  have L2 := k3.qb k5 g2 (Nat.le_refl _) (fun q z1 z2 => xK_f z1)
  have F2 := k4.qb k7 g2 (Nat.le_refl _) (fun q z1 z2 => xK_f (by omega))
  exact ⟨rfl, L2, eEnd (B := (Mn M, Mn M + 48)) pc hC k10 g2.mn L2 k5 k6 (by omega) F2 k7 e1 e2 e3 e4 (by omega) (by rw [g2.mc (by rw [SB_v, EB_v]; omega)]; exact k9) (by omega)⟩
/-- dots of a line are written -/
theorem E2.dot {l y r r' j : Nat} {v : Int32} (k : E2 M p hs hl h a R f fs fl fh fa fR Q (pRow Q l r) nU N c) (qd : QD p hs hl h a R S N) (hy : R[l]? = some y) (hb : isBr (sI M y j v) y (Pw Q) r') : E2 (sI M y j v) p hs hl h a R f fs fl fh fa fR Q (pRow Q l r') nU N c := by
  obtain ⟨⟨k1, k2⟩, k3, k4, k5, k6, k7, k8, k9, k10⟩ := k
  have g : Gx (x1 y) (Mn M) M (sI M y j v) := Gx.rf.sI (fun _ => by simp [x1])
  have hyS := qd.2.2.2.2.2.1 y (List.mem_of_getElem? hy)
  have hp := qd.1
  have L := k3.upR (M1 := sI M y j v) qd hy rfl rfl (fun q hq => up2_ne hq) hb
  rw [pRow_pRow] at L
  exact ⟨⟨k1.gx g k1.2.2.2.2 (fun q hq => x1_f (by omega)), k2⟩, L, k4.qb k6 g (Nat.le_refl _) (fun q z1 z2 => x1_f (by omega)), k5, k6, k7, k8, k9, k10⟩
theorem E2.row {l r : Nat} (k : E2 M p hs hl h a R f fs fl fh fa fR Q (pRow Q l r) nU N c) (hl' : l < PL Q) : ∃ y, R[l]? = some y ∧ isBr M y (Pw Q) r := by
  obtain ⟨y, hy, b⟩ := k.2.1.row (show l < PL (pRow Q l r) from hl')
  refine ⟨y, hy, ?_⟩
  have : Pr (pRow Q l r) l = r := updN_s _ _ _
  rw [this] at b; exact b
theorem c2B_b (b : Bool) : c2B (nI (bN b)) = b := by cases b <;> decide
theorem isL2_b (b : Bool) : isLn 2 (nI (bN b)) = true := by cases b <;> decide
theorem lPaint (k : ED M p hs hl h a R f fs fl fh fa fR Q nU S N c) (pc : PC Q e) (hc : c + 100 + uE e ≤ 700000000) {l fr to : Nat} {cl : Bool} (hl' : l < PL Q) (hf : fr ≤ to) (ht : to ≤ Pw Q) : Rw (gL_law_L615 fu 0 p f (nI l) (nI fr) (nI to) (nI (bN cl)) (nI 0) (nI fr)) M c s (fun v _ c' s' => v = 1 ∧ c' ≤ c + 20 + uE e ∧ s' ≤ s + 200 + vE e) := by
  obtain ⟨⟨hw8, -, -, hrow, -⟩, h27, h7, -⟩ := id pc.1
  have hr := hrow l hl'
  have qd := k.2.2.2.1
  have e0 : cn (fun i => decide (fr ≤ i) && ((Pr Q l).testBit i != cl)) fr = 0 := by
    have : ∀ m, m ≤ fr → cn (fun i => decide (fr ≤ i) && ((Pr Q l).testBit i != cl)) m = 0 := by
      intro m
      induction m with
      | zero => intro _; rfl
      | succ m ih =>
        intro hm
        rw [cn_s, ih (by omega), decide_eq_false (show ¬ fr ≤ m by omega)]; rfl
    exact this fr (Nat.le_refl _)
  suffices hh : Rw (gL_law_L615 fu 0 p f (nI l) (nI fr) (nI to) (nI (bN cl)) (nI (cn (fun i => decide (fr ≤ i) && ((Pr Q l).testBit i != cl)) fr)) (nI fr)) M c s (fun v _ c' s' => v = 1 ∧ c' ≤ c + 20 + uE e ∧ s' ≤ s + 200 + vE e) by
    rw [e0] at hh; exact hh
  refine rw_loopv (F := fun n (j : Nat) => gL_law_L615 n 0 p f (nI l) (nI fr) (nI to) (nI (bN cl)) (nI (cn (fun i => decide (fr ≤ i) && ((Pr Q l).testBit i != cl)) j)) (nI j)) (fun j M' c' s' => fr ≤ j ∧ j ≤ to ∧ c' = c ∧ s' = s ∧ E2 M' p hs hl h a R f fs fl fh fa fR Q (pRow Q l (pntG (Pr Q l) fr j cl)) nU N c) (fun j => to - j) ?_ fu fr M c s (by unfold fu; omega) ⟨Nat.le_refl _, hf, rfl, rfl, by
    have e : pntG (Pr Q l) fr fr cl = Pr Q l := by
      apply Nat.eq_of_testBit_eq
      intro i
      rw [pntG_bit (Nat.le_refl _), if_neg (by omega)]
    rw [e, pRow_self]; exact k.two⟩
  rintro n j M1 c1 s1 ⟨hj0, hj, rfl, rfl, k1⟩ ih
  show Rw (gL_law_L615 (n + 1) 0 p f (nI l) (nI fr) (nI to) (nI (bN cl)) (nI (cn (fun i => decide (fr ≤ i) && ((Pr Q l).testBit i != cl)) j)) (nI j)) _ _ _ _
  unfold gL_law_L615
  refine Rw_cs (d := to ≤ j) (nle (by omega) (by omega)) (fun z => ?_) (fun z => ?_)
  · have : j = to := by omega
    subst this
    have edif : dif (Pw Q) (Pr Q l) (pntG (Pr Q l) fr j cl) = cn (fun i => decide (fr ≤ i) && ((Pr Q l).testBit i != cl)) j := by
      have key : ∀ m, j ≤ m → cn (fun i => (Pr Q l).testBit i != (pntG (Pr Q l) fr j cl).testBit i) m = cn (fun i => decide (fr ≤ i) && ((Pr Q l).testBit i != cl)) j := by
        intro m hm
        induction m with
        | zero =>
          have : j = 0 := by omega
          subst this; rfl
        | succ m ih2 =>
          by_cases q : j = m + 1
          · subst q
            refine cn_cgr (fun i hi => ?_)
            rw [pntG_bit hf]
            by_cases w : fr ≤ i
            · rw [if_pos ⟨w, hi⟩]; simp [w]
            · rw [if_neg (by omega)]; simp [w]
          · rw [cn_s, ih2 (by omega), pntG_bit hf, if_neg (by omega)]
            simp [bN]
      exact key (Pw Q) ht
    have esp : spPaint Q [] (nI l) (nI fr) (nI j) (nI (bN cl)) = (.inr (nI (dif (Pw Q) (Pr Q l) (pntG (Pr Q l) fr j cl))), (pRow Q l (pntG (Pr Q l) fr j cl), pushU [] Q)) := by
      unfold spPaint
      rw [isLn_n (by omega) hl', if_pos rfl, if_pos ⟨⟨isLn_n (by omega) (by omega), fun q => by rw [nlt (by omega) (by omega)] at q; omega, fun q => by rw [nlt (by omega) (by omega)] at q; omega⟩, isL2_b cl⟩, ix_n (by omega), ix_n (by omega), ix_n (by omega), c2B_b]
    have go : Rw (gL_law_L692 0 p f (nI (cn (fun i => decide (fr ≤ i) && ((Pr Q l).testBit i != cl)) j)) (nI (bN cl)) (nI j) (nI fr) (nI l) 0) M1 c1 s1 (fun v _ c' s' => v = 1 ∧ c' ≤ c1 + 20 + uE e ∧ s' ≤ s1 + 200 + vE e) := by
      unfold gL_law_L692
      rw [Rw_wq]
      refine (eFin (v := nI (dif (Pw Q) (Pr Q l) (pntG (Pr Q l) fr j cl))) (x := 2) (y := 0) k1 pc (by omega) rfl h7 rfl rfl (by omega) (fun B V hC => by
        have := cPaintOp hC (nI l) (nI fr) (nI j) (nI (bN cl))
        rw [esp] at this; exact this)).mono ?_
      rintro w M2 c2 s2 ⟨rfl, -, fin⟩
      refine Rw_yes (by rw [edif]) (fin.mono ?_)
      rintro v M3 c3 s3 ⟨r1, r2, r3⟩
      exact ⟨r1, by omega, by omega⟩
    refine Rw_cs (d := cl = false) (bN_t _) (fun y => ?_) (fun y => ?_)
    · rw [y] at go ⊢; exact go
    · have y : cl = true := by cases cl with | true => rfl | false => exact absurd rfl y
      rw [y] at go ⊢; exact go
  · have hjt : j < to := by omega
    obtain ⟨y, hy, by1⟩ := k1.row hl'
    rw [Rw_wb, Rn_gA k1.2.1.1.2.2.2.2, Rw_wq, lGet k1.2.1.2.2.2.1.1 hy, Rw_wb, Rn_ckK by1.1 by1.2.1, Rw_wb, by1.lI (by omega) (by omega)]
    have ebit : (pntG (Pr Q l) fr j cl).testBit j = (Pr Q l).testBit j := by rw [pntG_bit hj0, if_neg (by omega)]
    rw [ebit]
    have go : ∀ d : Bool, d = ((Pr Q l).testBit j != cl) → Rw (gL_law_L649 (gL_law_L615 n) 0 p f (nI l) (nI fr) (nI to) (nI (bN cl)) (nI j) (nI (bN d)) (nI (cn (fun i => decide (fr ≤ i) && ((Pr Q l).testBit i != cl)) j))) M1 c1 s1 (fun v _ c' s' => v = 1 ∧ c' ≤ c1 + 20 + uE e ∧ s' ≤ s1 + 200 + vE e) := by
      intro d hd
      unfold gL_law_L649
      rw [Rw_wb, Rn_rtn, nI_add, Rw_wb, Rn_gA k1.2.1.1.2.2.2.2, Rw_wq, lGet k1.2.1.2.2.2.1.1 hy, Rw_wb, Rn_ckK by1.1 by1.2.1, Rw_wb, rn_aZ (by omega) (by cases cl <;> simp [bN]), by1.2.2.1]
      refine ⟨by omega, ?_⟩
      have ec : cn (fun i => decide (fr ≤ i) && ((Pr Q l).testBit i != cl)) j + bN d = cn (fun i => decide (fr ≤ i) && ((Pr Q l).testBit i != cl)) (j + 1) := by
        rw [cn_s, hd]; simp [hj0]
      rw [ec, nL1, nI_add]
      have hb2 : isBr (sI M1 y j (nI (bN cl))) y (Pw Q) (pntG (Pr Q l) fr (j + 1) cl) := by
        refine ⟨by1.1, by1.2.1, by1.2.2.1, fun i hi => ?_⟩
        rw [Mi_sI, pntG_bit (by omega)]
        by_cases q : i = j
        · subst q; rw [if_pos ⟨rfl, rfl⟩, if_pos ⟨hj0, by omega⟩]
        · rw [if_neg (fun w => q w.2), by1.2.2.2 i hi, pntG_bit hj0]
          by_cases w : fr ≤ i ∧ i < j
          · rw [if_pos w, if_pos (by omega)]
          · rw [if_neg w, if_neg (by omega)]
      exact ih (j + 1) _ _ _ ⟨by omega, by omega, rfl, rfl, k1.dot qd hy hb2⟩ (by omega)
    refine Rw_cs (d := (Pr Q l).testBit j = cl) (bN_eq _ _) (fun w => ?_) (fun w => ?_)
    · exact go false (by rw [w]; simp)
    · exact go true (by simp [bne, w])
theorem lInv (k : ED M p hs hl h a R f fs fl fh fa fR Q nU S N c) (pc : PC Q e) (hc : c + 100 + uE e ≤ 700000000) {l : Nat} (hl' : l < PL Q) : Rw (gL_law_L829 fu 0 p f (nI l) (nI 0) (nI 0)) M c s (fun v _ c' s' => v = 1 ∧ c' ≤ c + 20 + uE e ∧ s' ≤ s + 200 + vE e) := by
  obtain ⟨⟨hw8, -, -, hrow, -⟩, h27, h7, -⟩ := id pc.1
  have hr := hrow l hl'
  have qd := k.2.2.2.1
  refine rw_loopv (F := fun n (j : Nat) => gL_law_L829 n 0 p f (nI l) (nI (cn (fun i => !(Pr Q l).testBit i) j)) (nI j)) (fun j M' c' s' => j ≤ Pw Q ∧ c' = c ∧ s' = s ∧ E2 M' p hs hl h a R f fs fl fh fa fR Q (pRow Q l (ofB (fun i => if i < j then !(Pr Q l).testBit i else (Pr Q l).testBit i) (Pw Q))) nU N c) (fun j => Pw Q - j) ?_ fu 0 M c s (by unfold fu; omega) ⟨Nat.zero_le _, rfl, rfl, by
    have e : ofB (fun i => if i < 0 then !(Pr Q l).testBit i else (Pr Q l).testBit i) (Pw Q) = Pr Q l := by
      have : (fun i => if i < 0 then !(Pr Q l).testBit i else (Pr Q l).testBit i) = (fun i => (Pr Q l).testBit i) := by funext i; rw [if_neg (Nat.not_lt_zero _)]
      rw [this, ofB_self hr]
    rw [e, pRow_self]; exact k.two⟩
  rintro n j M1 c1 s1 ⟨hj, rfl, rfl, k1⟩ ih
  show Rw (gL_law_L829 (n + 1) 0 p f (nI l) (nI (cn (fun i => !(Pr Q l).testBit i) j)) (nI j)) _ _ _ _
  unfold gL_law_L829
  have hw : Mi M1 p 0 = nI (Pw Q) := k1.2.1.1.2.1
  rw [Rw_wb, Rn_gI, hw]
  refine Rw_cs (d := Pw Q ≤ j) (nle (by omega) (by omega)) (fun z => ?_) (fun z => ?_)
  · have : j = Pw Q := by omega
    subst this
    have einv : ofB (fun i => if i < Pw Q then !(Pr Q l).testBit i else (Pr Q l).testBit i) (Pw Q) = inv (Pw Q) (Pr Q l) := by
      apply Nat.eq_of_testBit_eq
      intro i
      rw [ofB_bit, inv_bit]
      by_cases q : i < Pw Q
      · rw [if_pos q]; simp [q]
      · rw [if_neg q, Nat.testBit_lt_two_pow (Nat.lt_of_lt_of_le hr (Nat.pow_le_pow_right (by decide) (by omega)))]; simp [q]
    rw [einv] at k1
    have eb : blk (Pw Q) (inv (Pw Q) (Pr Q l)) = cn (fun i => !(Pr Q l).testBit i) (Pw Q) := cn_cgr (fun i hi => by rw [inv_bit, if_pos hi])
    have esp : spInvert Q [] (nI l) = (.inr (nI (blk (Pw Q) (inv (Pw Q) (Pr Q l)))), (pRow Q l (inv (Pw Q) (Pr Q l)), pushU [] Q)) := by
      unfold spInvert
      rw [isLn_n (by omega) hl', if_pos rfl, ix_n (by omega)]
    rw [Rw_wq]
    refine (eFin (v := nI (blk (Pw Q) (inv (Pw Q) (Pr Q l)))) (x := 2) (y := 0) k1 pc (by omega) rfl h7 rfl rfl (by omega) (fun B V hC => by
      have := cInvertOp hC (nI l)
      rw [esp] at this; exact this)).mono ?_
    rintro w M2 c2 s2 ⟨rfl, -, fin⟩
    refine Rw_yes (by rw [eb]) (fin.mono ?_)
    rintro v M3 c3 s3 ⟨r1, r2, r3⟩
    exact ⟨r1, by omega, by omega⟩
  · have hjw : j < Pw Q := by omega
    obtain ⟨y, hy, by1⟩ := k1.row hl'
    rw [Rw_wb, Rn_gA k1.2.1.1.2.2.2.2, Rw_wq, lGet k1.2.1.2.2.2.1.1 hy, Rw_wb, Rn_ckK by1.1 by1.2.1, Rw_wb, Rn_gA k1.2.1.1.2.2.2.2, Rw_wq, lGet k1.2.1.2.2.2.1.1 hy, Rw_wb, Rn_ckK by1.1 by1.2.1, Rw_wb, by1.lI (by omega) (by omega), ofB_bit, if_neg (Nat.lt_irrefl _), decide_eq_true hjw, Bool.true_and]
    have go : ∀ d : Bool, d = !(Pr Q l).testBit j → Rw (gL_law_L875 (gL_law_L829 n) 0 p f (nI l) (nI (cn (fun i => !(Pr Q l).testBit i) j)) (nI j) (nI (bN d)) (nI j) y) M1 c1 s1 (fun v _ c' s' => v = 1 ∧ c' ≤ c1 + 20 + uE e ∧ s' ≤ s1 + 200 + vE e) := by
      intro d hd
      unfold gL_law_L875
      rw [Rw_wb, rn_aZ (by omega) (by cases d <;> simp [bN]), by1.2.2.1]
      refine ⟨hjw, ?_⟩
      have hb2 : isBr (sI M1 y j (nI (bN d))) y (Pw Q) (ofB (fun i => if i < j + 1 then !(Pr Q l).testBit i else (Pr Q l).testBit i) (Pw Q)) := by
        have := br_up (c := d) (k := j) by1
        have e : (fun i => if i < j + 1 then !(Pr Q l).testBit i else (Pr Q l).testBit i) = upB (fun i => if i < j then !(Pr Q l).testBit i else (Pr Q l).testBit i) j d := by
          funext i
          unfold upB
          by_cases q : i = j
          · subst q; rw [if_pos (by omega), if_pos rfl, hd]
          · rw [if_neg q]
            show (if i < j + 1 then !(Pr Q l).testBit i else (Pr Q l).testBit i) = (if i < j then !(Pr Q l).testBit i else (Pr Q l).testBit i)
            by_cases w : i < j
            · rw [if_pos w, if_pos (by omega)]
            · rw [if_neg w, if_neg (by omega)]
        rw [e]; exact this
      have k2 := k1.dot qd hy hb2
      have e2 : Mi (sI M1 y j (nI (bN d))) y j = nI (bN d) := sI_self
      have l2 : Ml (sI M1 y j (nI (bN d))) y = Pw Q := by1.2.2.1
      generalize sI M1 y j (nI (bN d)) = M2 at k2 hb2 e2 l2
      rw [Rw_wb, Rn_gA k2.2.1.1.2.2.2.2, Rw_wq, lGet k2.2.1.2.2.2.1.1 hy, Rw_wb, Rn_ckK hb2.1 hb2.2.1, Rw_wb, rn_lI (by omega), l2, e2]
      refine ⟨hjw, ?_⟩
      have fin : ∀ x : Bool, x = d → Rw (gL_law_L901 (gL_law_L829 n) 0 p f (nI l) (nI j) (nI (bN x)) (nI (cn (fun i => !(Pr Q l).testBit i) j))) M2 c1 s1 (fun v _ c' s' => v = 1 ∧ c' ≤ c1 + 20 + uE e ∧ s' ≤ s1 + 200 + vE e) := by
        rintro x rfl
        unfold gL_law_L901
        rw [Rw_wb, Rn_rtn, nI_add, nL1, nI_add]
        have ec : cn (fun i => !(Pr Q l).testBit i) j + bN x = cn (fun i => !(Pr Q l).testBit i) (j + 1) := by rw [cn_s, hd]
        rw [ec]
        exact ih (j + 1) M2 _ _ ⟨by omega, rfl, rfl, k2⟩ (by omega)
      refine Rw_cs (d := d = false) (bN_t _) (fun w => ?_) (fun w => ?_)
      · exact fin false w.symm
      · exact fin true (by cases d with | true => rfl | false => exact absurd rfl w)
    refine Rw_cs (d := (Pr Q l).testBit j = false) (bN_t _) (fun w => ?_) (fun w => ?_)
    · exact go true (by rw [w]; rfl)
    · exact go false (by cases q : (Pr Q l).testBit j with | true => rfl | false => exact absurd q w)
end EDT
