/-! THE EDITS: what holds before them, the class's call, a page with another row -/
def QD (p hs hl h a : Nat) (R : List Nat) (S N : Nat) : Prop := (39 ≤ p ∧ p < S) ∧ (39 ≤ hs ∧ hs < S) ∧ (39 ≤ hl ∧ hl < S) ∧ (39 ≤ h ∧ h < S) ∧ (a = EB ∨ (S < a ∧ a < N)) ∧ (∀ y, y ∈ R → S < y ∧ y < N) ∧ R.Nodup ∧ (hs ≠ hl ∧ hs ≠ h ∧ hl ≠ h) ∧ S < N
def nonH (nU : Hq) : Prop := nU.1 = 0 ∧ nU.2.1 < 10 ∧ (∀ i, i < 10 → nU.2.2.1 i = none) ∧ ∀ i, i < 2 → nU.2.2.2 i = none
def ED (M : Mm) (p hs hl h a : Nat) (R : List Nat) (f fs fl fh fa : Nat) (fR : List Nat) (Q : Pg) (nU : Hq) (S N c : Nat) : Prop :=
  (KQ M Q nU ∧ nonH nU) ∧ QP M p Q (Ps Q) hs hl h a R ∧ QP M f Q (Ps Q) fs fl fh fa fR ∧ QD p hs hl h a R S N ∧ QB f fs fl fh fa fR N (Mn M) ∧ (Mn M + 160 ≤ c ∧ Ml M EB = 0 ∧ N ≤ Mn M)
def PC (Q : Pg) (e : Nat) : Prop := okP Q b0 ∧ (1 ≤ PL Q ∧ PL Q ≤ 6) ∧ (∀ l, l < 20 → Ps Q l ≤ 3) ∧ Pt Q 3 ≤ 4 ∧ Pt Q 0 = e
theorem QB.up {p hs hl h a : Nat} {R : List Nat} {N1 N2 N3 : Nat} (q : QB p hs hl h a R N1 N2) (h2 : N2 ≤ N3) : QB p hs hl h a R N1 N3 := by
  obtain ⟨q1, q2, q3, q4, q5, q6⟩ := q
  exact ⟨by omega, by omega, by omega, by omega, q5.imp id (fun z => by omega), fun y hy => by have := q6 y hy; omega⟩
theorem QD.qb {p hs hl h a : Nat} {R : List Nat} {S N N2 : Nat} (q : QD p hs hl h a R S N) (h2 : N ≤ N2) : QB p hs hl h a R 38 N2 := by
  obtain ⟨q1, q2, q3, q4, q5, q6, q7, q8, q9⟩ := q
  exact ⟨by omega, by omega, by omega, by omega, q5.imp id (fun z => by omega), fun y hy => by have := q6 y hy; omega⟩
/-- a row of the list is another one -/
theorem QP.setR {M : Mm} {p : Nat} {P : Pg} {lo : Nat → Nat} {hs hl h a : Nat} {R : List Nat} (L : QP M p P lo hs hl h a R) {l x r : Nat} (hl' : l < PL P) (hx : isBr M x (Pw P) r) (hxp : x ≠ p) (hah : a ≠ h) : QP (sR M a l (some x)) p (pRow P l r) lo hs hl h a (R.set l x) := by
  obtain ⟨⟨a1, a2, a3, a4, a5⟩, b, c, ⟨d1, d2, d3⟩, e1, e2, e3, e4, e5⟩ := L
  obtain ⟨o, ho⟩ := gt_some R (show l < R.length by omega)
  have rp : ∀ k, Mr (sR M a l (some x)) p k = Mr M p k := fun k => by rw [Mr_sR, if_neg (fun z => e4 z.1.symm)]
  refine ⟨⟨a1, a2, by rw [rp]; exact a3, by rw [rp]; exact a4, by rw [rp]; exact a5⟩, b, c, ⟨d1.set ho x hah, by rw [List.length_set]; exact d2, fun i y hy => ?_⟩, e1, e2, e3, e4, fun y hy => ?_⟩
  · show isBr M y (Pw P) (updN (Pr P) l r i)
    by_cases q : i = l
    · rw [q, List.getElem?_set_self (by omega)] at hy
      cases hy
      rw [q, updN_s]; exact hx
    · rw [List.getElem?_set_ne (Ne.symm q)] at hy
      rw [updN_n q]; exact d3 i y hy
  · rcases List.mem_or_eq_of_mem_set hy with w | w
    · exact e5 y w
    · rw [w]; exact hxp
/-- the dots of a row are others -/
theorem QP.upR {M M1 : Mm} {p : Nat} {P : Pg} {lo : Nat → Nat} {hs hl h a : Nat} {R : List Nat} {S N : Nat} (L : QP M p P lo hs hl h a R) (qd : QD p hs hl h a R S N) {l y r : Nat} (hy : R[l]? = some y) (h1 : M1.1 = M.1) (h2 : Mr M1 = Mr M) (h3 : ∀ q, q ≠ y → Mi M1 q = Mi M q) (hb : isBr M1 y (Pw P) r) : QP M1 p (pRow P l r) lo hs hl h a R := by
  obtain ⟨⟨a1, a2, a3, a4, a5⟩, ⟨b1, b2, b3⟩, ⟨c1, c2, c3⟩, ⟨d1, d2, d3⟩, e1, e2, e3, e4, e5⟩ := L
  obtain ⟨q1, q2, q3, q4, q5, q6, q7, q8, q9⟩ := qd
  have em : Mn M1 = Mn M := by unfold Mn; rw [h1]
  have ek : Mk M1 = Mk M := by unfold Mk; rw [h1]
  have el : Ml M1 = Ml M := by unfold Ml; rw [h1]
  have hyS := q6 y (List.mem_of_getElem? hy)
  refine ⟨⟨by omega, by rw [h3 p (by omega)]; exact a2, by rw [h2]; exact a3, by rw [h2]; exact a4, by rw [h2]; exact a5⟩, ⟨by omega, by rw [el]; exact b2, fun k hk => by rw [h3 hs (by omega)]; exact b3 k hk⟩, ⟨by omega, by rw [el]; exact c2, fun k hk => by rw [h3 hl (by omega)]; exact c3 k hk⟩, ⟨?_, d2, fun i x hx => ?_⟩, e1, e2, e3, e4, e5⟩
  · obtain ⟨l1, l2, l3, l4, l5⟩ := d1
    exact ⟨by omega, by rw [ek]; exact l2, by rw [h3 h (by omega)]; exact l3, by rw [h2]; exact l4, by rw [em, ek, el, h2]; exact l5⟩
  · show isBr M1 x (Pw P) (updN (Pr P) l r i)
    by_cases q : i = l
    · subst q
      rw [hy] at hx; cases hx
      rw [updN_s]; exact hb
    · rw [updN_n q]
      obtain ⟨r1, r2, r3, r4⟩ := d3 i x hx
      have hne : x ≠ y := fun e => by
        subst e
        have li := (List.getElem?_eq_some_iff.mp hx).1
        exact q ((List.getElem?_inj li q7).mp (hx.trans hy.symm))
      exact ⟨by omega, by rw [ek]; exact r2, by rw [el]; exact r3, fun k hk => by rw [h3 x hne]; exact r4 k hk⟩
section EDS
variable {M : Mm} {p hs hl h a f fs fl fh fa : Nat} {R fR : List Nat} {Q : Pg} {nU : Hq} {S N c s e : Nat}
theorem ED.go (k : ED M p hs hl h a R f fs fl fh fa fR Q nU S N c) {M1 : Mm} {c1 : Nat} {X : Nat → Bool} (g : Gx X (Mn M) M M1) (hX : ∀ q, q < 38 ∨ (39 ≤ q ∧ q < Mn M) → X q = false) (hc : Mn M1 + c ≤ Mn M + c1) : ED M1 p hs hl h a R f fs fl fh fa fR Q nU S N c1 := by
  obtain ⟨⟨k1, k2⟩, k3, k4, k5, k6, k7, k8, k9⟩ := k
  have hm := g.mn
  have hN : 39 ≤ N := by have := k5.1; have := k5.2.2.2.2.2.2.2.2; omega
  refine ⟨⟨k1.gx g k1.2.2.2.2 (fun q hq => hX q (Or.inl hq)), k2⟩, k3.qb (N1 := 39) (N2 := N) ?_ g k9 (fun q z1 z2 => hX q (Or.inr ⟨z1, by omega⟩)), k4.qb k6 g (Nat.le_refl _) (fun q z1 z2 => hX q (Or.inr ⟨by omega, z2⟩)), k5, k6.up hm, by omega, ?_, by omega⟩
  · obtain ⟨q1, q2, q3, q4, q5, q6, q7, q8, q9⟩ := k5
    exact ⟨by omega, by omega, by omega, by omega, q5.imp id (fun z => by omega), fun y hy => by have := q6 y hy; omega⟩
  · rw [g.mc (by rw [SB_v, EB_v]; omega)]; exact k8
theorem ED.q (k : ED M p hs hl h a R f fs fl fh fa fR Q nU S N c) : QP M p Q (Ps Q) hs hl h a R := k.2.1
/-- the class's call -/
theorem eOp {kc ks : Nat} {Fop : Mm → Option ((Nat ⊕ Int32) × Mm)} {v : Int32} {P' : Pg} {x y : Nat} (kq : KQ M Q nU) (hn : nonH nU) (hM : Mn M + 48 ≤ 900000000) (hh : ∀ (B : Nat × Nat) (V : Nat → Option Pg), CPg B M Q [] V → Rn Fop M (fun r M' => cE B x y (.inr v, (P', pushU [] Q)) V r M M')) : Rw (wcx kc ks Fop) M c s (fun w M' c' s' => w = v ∧ CPg (Mn M, Mn M + 48) M' P' [Q] (fun _ => none) ∧ Gx xK (Mn M) M M' ∧ Mn M' ≤ Mn M + 48 ∧ c' = c + kc ∧ s' = s + ks) := by
  have hC : CPg (Mn M, Mn M + 48) M Q [] (fun _ => none) := kq.cpg hn.1 hn.2.1 hn.2.2.1 hn.2.2.2 kq.2.2.2.2 (Nat.le_refl _) (Nat.le_refl _) hM
  refine Rw_cx ((hh _ _ hC).mono ?_)
  rintro r M' ⟨rfl, g, hC'⟩
  have hC' : CPg (Mn M, Mn M + 48) M' P' [Q] (fun _ => none) := hC'
  refine ⟨v, rfl, rfl, hC', g.gk (Nat.le_refl _) (fun a b z1 z2 => by unfold xEc; simp; omega), ?_, rfl, rfl⟩
  obtain ⟨m, -, -, h, -⟩ := hC'.2.2.2.1
  have h : Mn M' + 4 * (12 - m) ≤ min (Mn M + 48) 900000000 := h
  have h := Nat.le_trans h (Nat.min_le_left _ _)
  exact Nat.le_trans (Nat.le_add_right _ _) h
/-- the end, behind an edit -/
theorem eEnd {M' : Mm} {P' : Pg} {a' : Nat} {R' : List Nat} {B : Nat × Nat} {V : Nat → Option Pg} (pc : PC Q e) (hC : CPg B M' P' [Q] V) (hB1 : N ≤ B.1) (hB : B.1 ≤ Mn M') (L : QP M' p P' (Ps P') hs hl h a' R') (qb : QB p hs hl h a' R' 38 B.1) (pN : p < N) (hN : 38 ≤ N) (F : QP M' f Q (Ps Q) fs fl fh fa fR) (qf : QB f fs fl fh fa fR N B.1) (e1 : Pw P' = Pw Q) (e2 : PL P' ≤ 7) (e3 : Ps P' = Ps Q) (e4 : Pt P' = Pt Q) (hp : Mn M' + 100 ≤ c) (hE : Ml M' EB = 0) (hc : c + uE e ≤ 700000000) : Rw (gL_law_L1056 0 p f) M' c s (fun v _ c' s' => v = 1 ∧ c' ≤ c + uE e ∧ s' ≤ s + vE e) := by
  obtain ⟨p1, p2, p3, p4, p5⟩ := pc
  have h27 := p1.2.1
  have hP : okP P' b7 := ⟨hC.2.2.1, by omega, e2, fun l _ => Nat.le_trans (chU_len _ _) (by rw [e1]; exact h27)⟩
  exact lEnd hC L qb pN F qf hN hB hP e2 p1 p2.2 (by rw [e3]; exact p3) p3 (by rw [e4]; exact p4) p4 (by rw [e4]; exact p5) p5 hp hE hc
/-! moved -/
theorem by_3 : ∀ k, k < 28 → ∀ b, b < 9 → nI k - (nI b - 4) = nI (k + 8 - b) - nI 4 := by decide +kernel
theorem by_4 : ∀ m, m < 4 → (nI m - nI 4 < 0) := by decide
theorem by_5 : ∀ b, b < 9 → (¬ nI b - 4 < -40) ∧ (¬ 40 < nI b - 4) ∧ (b < 4 → nI b - 4 < 0 ∧ ix (-(nI b - 4)) = 4 - b) ∧ (4 ≤ b → ¬ nI b - 4 < 0 ∧ ix (nI b - 4) = b - 4) := by decide +kernel
def shE (r b w k : Nat) : Bool := decide (4 ≤ k + 8 - b) && (decide (k + 8 - b - 4 < w) && r.testBit (k + 8 - b - 4))
theorem shE_bit {r b w k : Nat} (hr : r < 2 ^ w) (hb : b < 9) (hk : k < w) : (shR w r (nI b - 4)).testBit k = shE r b w k := by
  obtain ⟨-, -, y1, y2⟩ := by_5 b hb
  unfold shR shE
  have out : ∀ j, (decide (j < w) && r.testBit j) = r.testBit j := fun j => by
    by_cases z : j < w
    · simp [z]
    · rw [Nat.testBit_lt_two_pow (Nat.lt_of_lt_of_le hr (Nat.pow_le_pow_right (by decide) (by omega)))]; simp
  by_cases q : b < 4
  · obtain ⟨z1, z2⟩ := y1 q
    rw [if_pos z1, z2, Nat.testBit_div_two_pow, out, decide_eq_true (show 4 ≤ k + 8 - b by omega), Bool.true_and]
    congr 1; omega
  · obtain ⟨z1, z2⟩ := y2 (by omega)
    rw [if_neg z1, z2, Nat.testBit_mod_two_pow, Nat.testBit_mul_two_pow, out, decide_eq_true hk, Bool.true_and]
    by_cases z : b - 4 ≤ k
    · rw [decide_eq_true (show k ≥ b - 4 from z), decide_eq_true (show 4 ≤ k + 8 - b by omega), show k + 8 - b - 4 = k - (b - 4) by omega]
    · rw [decide_eq_false (show ¬ k ≥ b - 4 from z), decide_eq_false (show ¬ 4 ≤ k + 8 - b by omega)]; rfl
theorem cn_cgr {p q : Nat → Bool} : ∀ {n : Nat}, (∀ i, i < n → p i = q i) → cn p n = cn q n := by
  intro n
  induction n with
  | zero => intro _; rfl
  | succ n ih =>
    intro h
    rw [cn_s, cn_s, ih (fun i hi => h i (by omega)), h n (by omega)]
theorem lShift (k : ED M p hs hl h a R f fs fl fh fa fR Q nU S N c) (pc : PC Q e) (hc : c + 100 + uE e ≤ 700000000) {l b x : Nat} (hl' : l < PL Q) (hb : b < 9) (hx : isBr M x (Pw Q) 0) (hxN : N ≤ x) (hxf : x ≠ f ∧ x ≠ fs ∧ x ≠ fl ∧ x ≠ fh ∧ x ∉ fR) : Rw (gL_law_L442 fu 0 p f (nI l) (nI b - 4) x (nI 0) (nI 0)) M c s (fun v _ c' s' => v = 1 ∧ c' ≤ c + 20 + uE e ∧ s' ≤ s + 200 + vE e) := by
  obtain ⟨⟨hw8, -, -, hrow, -⟩, h27, h7, -⟩ := id pc.1
  have hr := hrow l hl'
  -- the row while it is made
  refine rw_loopv (F := fun n (j : Nat) => gL_law_L442 n 0 p f (nI l) (nI b - 4) x (nI (cn (shE (Pr Q l) b (Pw Q)) j)) (nI j)) (fun j M' c' s' => j ≤ Pw Q ∧ c' = c ∧ s' = s ∧ ED M' p hs hl h a R f fs fl fh fa fR Q nU S N c ∧ isBr M' x (Pw Q) (ofB (fun i => decide (i < j) && shE (Pr Q l) b (Pw Q) i) (Pw Q))) (fun j => Pw Q - j) ?_ fu 0 M c s (by unfold fu; omega) ⟨Nat.zero_le _, rfl, rfl, k, by
    have e : (fun i => decide (i < 0) && shE (Pr Q l) b (Pw Q) i) = (fun _ => false) := by funext i; simp
    rw [e, ofB_0]; exact hx⟩
  rintro n j M1 c1 s1 ⟨hj, rfl, rfl, k1, b1⟩ ih
  show Rw (gL_law_L442 (n + 1) 0 p f (nI l) (nI b - 4) x (nI (cn (shE (Pr Q l) b (Pw Q)) j)) (nI j)) _ _ _ _
  unfold gL_law_L442
  obtain ⟨y, hy, byy⟩ := k1.q.row hl'
  rw [Rw_wb, Rn_gI, k1.q.1.2.1]
  refine Rw_cs (d := Pw Q ≤ j) (nle (by omega) (by omega)) (fun z => ?_) (fun z => ?_)
  · have : j = Pw Q := by omega
    subst this
    obtain ⟨z1, z2, -, -⟩ := by_5 b hb
    have esp : spShift Q [] (nI l) (nI b - 4) = (.inr (nI (blk (Pw Q) (shR (Pw Q) (Pr Q l) (nI b - 4)))), (pRow Q l (shR (Pw Q) (Pr Q l) (nI b - 4)), pushU [] Q)) := by
      unfold spShift
      rw [isLn_n (by omega) hl', if_pos rfl, if_pos ⟨z1, z2⟩, ix_n (by omega)]
    rw [Rw_wq]
    refine (eOp (v := nI (blk (Pw Q) (shR (Pw Q) (Pr Q l) (nI b - 4)))) (P' := pRow Q l (shR (Pw Q) (Pr Q l) (nI b - 4))) (x := 2) (y := 0) k1.1.1 k1.1.2 (by have := k1.2.2.2.2.2.1; omega) (fun B V hC => by
      have := cShiftOp hC (nI l) (nI b - 4)
      rw [esp] at this; exact this)).mono ?_
    rintro w M2 c2 s2 ⟨rfl, hC, g2, n2, rfl, rfl⟩
    have ecn : cn (shE (Pr Q l) b (Pw Q)) (Pw Q) = blk (Pw Q) (shR (Pw Q) (Pr Q l) (nI b - 4)) := cn_cgr (fun i hi => (shE_bit hr hb hi).symm)
    refine Rw_yes (by rw [ecn]) ?_
    have hm := k1.2.2.2.2.2
    have L2 : QP M2 p Q (Ps Q) hs hl h a R := k1.q.qb (k1.2.2.2.1.qb hm.2.2) g2 (Nat.le_refl _) (fun q z1 z2 => xK_f z1)
    have hN39 : 39 ≤ N := by have := k1.2.2.2.1.1; have := k1.2.2.2.1.2.2.2.2.2.2.2.2; omega
    have F2 : QP M2 f Q (Ps Q) fs fl fh fa fR := k1.2.2.1.qb k1.2.2.2.2.1 g2 (Nat.le_refl _) (fun q z1 z2 => xK_f (by omega))
    have b2 : isBr M2 x (Pw Q) (shR (Pw Q) (Pr Q l) (nI b - 4)) := by
      have := b1.gx g2 b1.1 (xK_f (by omega))
      refine ⟨this.1, this.2.1, this.2.2.1, fun i hi => ?_⟩
      rw [this.2.2.2 i hi, ofB_bit, shE_bit hr hb hi]; simp [hi]
    obtain ⟨y2, hy2⟩ := gt_some R (show l < R.length by rw [L2.2.2.2.1.2.1]; exact hl')
    have aE := (L2.2.2.2.1.1.at hy2).1
    have qd := k1.2.2.2.1
    have qa := qd.2.2.2.2.1.resolve_left aE
    have hSN := qd.2.2.2.2.2.2.2.2
    have hh := qd.2.2.2.1
    rw [Rw_wb, Rn_gA L2.1.2.2.2.2, Rw_wq]
    refine lSet L2.2.2.2.1.1 hy2 ?_
    have L3 := L2.setR hl' b2 (by have := qd.1; omega) (by omega)
    have g3 : Gx (x1 a) (Mn M2) M2 (sR M2 a l (some x)) := Gx.rf.sR (fun _ => by simp [x1])
    obtain ⟨n0, -, kq2⟩ := hC.kq
    have kq3 := kq2.gx g3 kq2.2.2.2.2 (fun q hq => x1_f (by omega))
    have hC3 := hC.of kq2 kq3 g3 (fun q z1 z2 => x1_f (by have z1 : Mn M1 ≤ q := z1; omega)) (T := Mn M2 + 48) (Nat.le_refl _) (by show Mn M2 + 48 ≤ _; omega)
    have F3 : QP (sR M2 a l (some x)) f Q (Ps Q) fs fl fh fa fR := F2.qb (k1.2.2.2.2.1) g3 g2.mn (fun q z1 z2 => x1_f (by omega))
    have qb3 : QB p hs hl h a (R.set l x) 38 (Mn M1) := by
      obtain ⟨q1, q2, q3, q4, q5, q6⟩ := qd.qb hm.2.2
      refine ⟨q1, q2, q3, q4, q5, fun u hu => ?_⟩
      rcases List.mem_or_eq_of_mem_set hu with w | w
      · exact q6 u w
      · rw [w]; exact ⟨by omega, b1.1⟩
    refine (eEnd (B := (Mn M1, Mn M2 + 48)) pc hC3 hm.2.2 g2.mn L3 qb3 (by have := qd.1; omega) (by omega) F3 k1.2.2.2.2.1 rfl (by show PL Q ≤ 7; exact h7) rfl rfl (by show Mn M2 + 100 ≤ c1 + 5; omega) (by show Ml M2 EB = 0; rw [g2.mc (by rw [SB_v, EB_v]; omega)]; exact hm.2.1) (by omega)).mono ?_
    rintro v M4 c4 s4 ⟨r1, r2, r3⟩
    exact ⟨r1, by omega, by omega⟩
  · have hjw : j < Pw Q := by omega
    rw [by_3 j (by omega) b hb]
    have st : ∀ v : Bool, shE (Pr Q l) b (Pw Q) j = v → Rw (gL_law_L501 (gL_law_L442 n) 0 p f (nI l) (nI b - 4) x (nI (cn (shE (Pr Q l) b (Pw Q)) j)) (nI j) (nI (bN v)) (nI j) x) M1 c1 s1 (fun v _ c' s' => v = 1 ∧ c' ≤ c1 + 20 + uE e ∧ s' ≤ s1 + 200 + vE e) := by
      intro v hv
      unfold gL_law_L501
      rw [Rw_wb, rn_aZ (by omega) (by cases v <;> simp [bN])]
      refine ⟨by rw [b1.2.2.1]; exact hjw, ?_⟩
      have k2 : ED (sI M1 x j (nI (bN v))) p hs hl h a R f fs fl fh fa fR Q nU S N c1 := by
        obtain ⟨⟨u1, u2⟩, u3, u4, u5, u6, u7⟩ := id k1
        have g : Gx (x1 x) (Mn M1) M1 (sI M1 x j (nI (bN v))) := Gx.rf.sI (fun _ => by simp [x1])
        have hN39 : 39 ≤ N := by have := u5.1; have := u5.2.2.2.2.2.2.2.2; omega
        refine ⟨⟨u1.gx g u1.2.2.2.2 (fun q hq => x1_f (by omega)), u2⟩, u3.qb (u5.qb (Nat.le_refl _)) g u7.2.2 (fun q z1 z2 => x1_f (by omega)), u4.gn g (x1_f (Ne.symm hxf.1)) (x1_f (Ne.symm hxf.2.1)) (x1_f (Ne.symm hxf.2.2.1)) (x1_f (Ne.symm hxf.2.2.2.1)) (fun z => x1_f (fun e => ?_)) (fun y hy => x1_f (fun e => hxf.2.2.2.2 (e ▸ hy))), u5, u6, u7⟩
        have h1 := u4.2.2.2.1.1.k15 z
        have h2 := b1.2.1
        rw [e, h2] at h1; cases h1
      have e1 : (fun i => decide (i < j + 1) && shE (Pr Q l) b (Pw Q) i) = upB (fun i => decide (i < j) && shE (Pr Q l) b (Pw Q) i) j v := by
        funext i
        unfold upB
        by_cases q : i = j
        · subst q; rw [if_pos rfl, hv]; simp
        · rw [if_neg q]
          have : decide (i < j + 1) = decide (i < j) := by
            by_cases y : i < j
            · simp [y]; omega
            · simp [y]; omega
          rw [this]
      have b2 : isBr (sI M1 x j (nI (bN v))) x (Pw Q) (ofB (fun i => decide (i < j + 1) && shE (Pr Q l) b (Pw Q) i) (Pw Q)) := by
        rw [e1]; exact br_up b1
      have ri : Mi (sI M1 x j (nI (bN v))) x j = nI (bN v) := sI_self
      have eL : Ml (sI M1 x j (nI (bN v))) x = Pw Q := b1.2.2.1
      generalize sI M1 x j (nI (bN v)) = M2 at k2 b2 ri eL
      rw [Rw_wb, rn_lI (by omega), eL, ri]
      refine ⟨hjw, ?_⟩
      have fin : ∀ y : Bool, y = v → Rw (gL_law_L517 (gL_law_L442 n) 0 p f (nI l) (nI b - 4) x (nI j) (nI (bN y)) (nI (cn (shE (Pr Q l) b (Pw Q)) j))) M2 c1 s1 (fun v _ c' s' => v = 1 ∧ c' ≤ c1 + 20 + uE e ∧ s' ≤ s1 + 200 + vE e) := by
        rintro y rfl
        unfold gL_law_L517
        rw [Rw_wb, Rn_rtn, nI_add, nL1, nI_add]
        have ec : cn (shE (Pr Q l) b (Pw Q)) j + bN y = cn (shE (Pr Q l) b (Pw Q)) (j + 1) := by rw [cn_s, hv]
        rw [ec]
        exact ih (j + 1) M2 c1 s1 ⟨by omega, rfl, rfl, k2, b2⟩ (by omega)
      refine Rw_cs (d := v = false) (bN_t _) (fun w => ?_) (fun w => ?_)
      · exact fin false w.symm
      · exact fin true (by cases v with | true => rfl | false => exact absurd rfl w)
    by_cases h2 : j + 8 - b < 4
    · have sv : shE (Pr Q l) b (Pw Q) j = false := by unfold shE; rw [decide_eq_false (by omega)]; rfl
      refine Rw_yes (by_4 _ h2) ?_
      exact st false sv
    · have em : nI (j + 8 - b) - nI 4 = nI (j + 8 - b - 4) := nsb (by omega)
      rw [em]
      refine Rw_no (nI_pos (by omega)) ?_
      rw [Rw_wb, Rn_gI, k1.q.1.2.1]
      refine Rw_cs (d := Pw Q ≤ j + 8 - b - 4) (nle (by omega) (by omega)) (fun w => ?_) (fun w => ?_)
      · have sv : shE (Pr Q l) b (Pw Q) j = false := by unfold shE; rw [decide_eq_false (show ¬ j + 8 - b - 4 < Pw Q by omega)]; simp
        exact st false sv
      · have sv : shE (Pr Q l) b (Pw Q) j = (Pr Q l).testBit (j + 8 - b - 4) := by unfold shE; rw [decide_eq_true (show 4 ≤ j + 8 - b by omega), decide_eq_true (show j + 8 - b - 4 < Pw Q by omega)]; simp
        rw [Rw_wb, Rn_gA k1.q.1.2.2.2.2, Rw_wq, lGet k1.q.2.2.2.1.1 hy, Rw_wb, Rn_ckK byy.1 byy.2.1, Rw_wb, byy.lI (by omega) (by omega)]
        refine Rw_cs (d := (Pr Q l).testBit (j + 8 - b - 4) = false) (bN_t _) (fun u => ?_) (fun u => ?_)
        · exact st false (sv.trans u)
        · exact st true (sv.trans (by cases q : (Pr Q l).testBit (j + 8 - b - 4) with | true => rfl | false => exact absurd q u))
end EDS
