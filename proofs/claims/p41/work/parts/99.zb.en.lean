/-! BEHIND THE EDIT: alike, sent, undone, alike, sent -/
theorem XG.gk {X : Nat → Nat → Bool} {M M' : Mm} (x : XG X M M') {N : Nat} (hN : N ≤ Mn M) (hX : ∀ a b, 38 ≤ a → a < N → X a b = false) : Gx xK N M M' := by
  obtain ⟨⟨x1, x2, x3⟩, x4⟩ := x
  refine ⟨x1, x2, x3, fun h hh hz => ?_⟩
  have h38 : 38 ≤ h := by unfold xK at hz; simpa using hz
  obtain ⟨-, y2, y3⟩ := x4 h (by omega)
  exact ⟨funext fun k => (y2 k (hX h k h38 hh)).1, funext fun k => (y2 k (hX h k h38 hh)).2, y3 (by omega) (by omega)⟩
def hqM (M : Mm) (U : List Pg) (n : Nat) : Hq := (U.length, n, Mr M 6, Mr M 7)
theorem CPg.kq {B : Nat × Nat} {M : Mm} {P : Pg} {U : List Pg} {V : Nat → Option Pg} (h : CPg B M P U V) : ∃ n, n < 10 ∧ KQ M P (hqM M U n) := by
  obtain ⟨c1, c2, c3, c4, ⟨n, n1, n2, n3, -⟩, c6⟩ := h
  have := c4.b
  exact ⟨n, n1, c1, c2, c3, ⟨n3, n2, rfl, rfl⟩, by omega⟩
theorem KQ.cpg {M : Mm} {P : Pg} {nU : Hq} (k : KQ M P nU) (h0 : nU.1 = 0) (h1 : nU.2.1 < 10) (h6 : ∀ i, i < 10 → nU.2.2.1 i = none) (h7 : ∀ i, i < 2 → nU.2.2.2 i = none) {B : Nat × Nat} (b1 : 38 ≤ B.1) (b2 : B.1 ≤ Mn M) (b3 : Mn M + 48 ≤ B.2) (b4 : Mn M + 48 ≤ 900000000) : CPg B M P [] (fun _ => none) := by
  obtain ⟨k1, k2, k3, ⟨k4, k5, k6, k7⟩, k8⟩ := k
  have ho : ∀ i, i < 12 → owR M i = none := fun i hi => by
    unfold owR
    by_cases q : i < 10
    · rw [if_pos q, k6]; exact h6 i q
    · rw [if_neg q, k7]; exact h7 _ (by omega)
  refine ⟨k1, k2, k3, ⟨cn (fun i => (owR M i).isSome) 12, b2, b1, by omega, rfl, fun i p hi hp => ?_, fun i j p q hi _ hp _ _ => ?_⟩, ⟨nU.2.1, h1, k5, by rw [k4, h0]; rfl, Nat.zero_le _, fun i Q hQ => ?_⟩, fun j hj => ho (10 + j) (by omega)⟩
  · rw [ho i hi] at hp; cases hp
  · rw [ho i hi] at hp; cases hp
  · simp at hQ
theorem isPgC.gx2 {X : Nat → Bool} {n h : Nat} {M M1 : Mm} {P : Pg} (p : isPgC M h P) (g : Gx X n M M1) (hn : h + 3 < n) (hX : ∀ q, h ≤ q → q ≤ h + 3 → X q = false) : isPgC M1 h P := by
  obtain ⟨h1, h2, h3, h4, h5⟩ := p
  have e : ∀ q, h ≤ q → q ≤ h + 3 → Mi M1 q = Mi M q ∧ Mj M1 q = Mj M q := fun q z1 z2 => ⟨(g.2.2.2 q (by omega) (hX q z1 z2)).1, (g.2.2.2 q (by omega) (hX q z1 z2)).2.1⟩
  exact ⟨by rw [(e h (by omega) (by omega)).1]; exact h1, by rw [(e h (by omega) (by omega)).1]; exact h2, fun l hl => by rw [(e _ (by omega) (by omega)).2]; exact h3 l hl, fun l hl => by rw [(e _ (by omega) (by omega)).1]; exact h4 l hl, fun l hl => by rw [(e _ (by omega) (by omega)).1]; exact h5 l hl⟩
/-- the law's things change: the class's pages stay -/
theorem CPg.of {B : Nat × Nat} {Ma Mb : Mm} {P : Pg} {U : List Pg} {V : Nat → Option Pg} (h : CPg B Ma P U V) {nU : Hq} (ka : KQ Ma P nU) (kb : KQ Mb P nU) {X : Nat → Bool} (g : Gx X (Mn Ma) Ma Mb) (hX : ∀ q, B.1 ≤ q → q < Mn Ma → X q = false) {T : Nat} (hT : Mn Mb + 48 ≤ T) (hT2 : Mn Mb + 48 ≤ 900000000) : CPg (B.1, T) Mb P U V := by
  obtain ⟨c1, c2, c3, c4, c5, c6⟩ := h
  obtain ⟨-, -, -, ⟨a4, a5, a6, a7⟩, -⟩ := ka
  obtain ⟨b1, b2, b3, ⟨b4, b5, b6, b7⟩, -⟩ := kb
  have e : owR Mb = owR Ma := funext (owR_mr (b6.trans a6.symm) (b7.trans a7.symm))
  have hm := g.mn
  have pg : ∀ p Q, B.1 ≤ p → p + 4 ≤ Mn Ma → isPgC Ma p Q → isPgC Mb p Q := fun p Q z1 z2 z3 => z3.gx2 g (by omega) (fun q y1 y2 => hX q (by omega) (by omega))
  refine ⟨b1, b2, c3, ?_, ?_, ?_⟩
  · obtain ⟨m, h1, h1b, h1c, h2, h3, h4⟩ := c4
    refine ⟨m, by show B.1 ≤ _; omega, h1b, by show _ ≤ min T 900000000; omega, by rw [e]; exact h2, fun i p hi hp => ?_, by rw [e]; exact h4⟩
    rw [e] at hp
    obtain ⟨p1, p2, o1, o2, o3, o4, o5, o6⟩ := h3 i p hi hp
    have er := (g.2.2.2 p (by omega) (hX p p1 (by omega))).2.2
    exact ⟨p1, by omega, by rw [er]; exact o1, by rw [er]; exact o2, by rw [er]; exact o3, by rw [g.ml (by omega)]; exact o4, by rw [g.ml (by omega)]; exact o5, by rw [g.ml (by omega)]; exact o6⟩
  · obtain ⟨n, n1, n2, n3, n4, n5⟩ := c5
    refine ⟨n, n1, ?_, ?_, n4, fun i Q hQ => ?_⟩
    · rw [b5, ← a5]; exact n2
    · rw [b4, ← a4]; exact n3
    · obtain ⟨p, p1, p2, p3⟩ := n5 i Q hQ
      have := c4.pg (Nat.lt_of_lt_of_le (Nat.mod_lt _ (by decide)) (by decide)) p1
      exact ⟨p, by rw [e]; exact p1, pg p Q this.1 this.2.1 p2, p3⟩
  · intro j hj
    have := c6 j hj
    rw [e]
    revert this
    cases V j with
    | none => exact id
    | some Q =>
      rintro ⟨p, p1, p2, p3⟩
      have := c4.pg (by omega) p1
      exact ⟨p, p1, pg p Q this.1 this.2.1 p2, p3⟩
def b0 (l : Nat) : Nat := if 6 * (l + 1) ≤ 27 then 6 * (l + 1) else 27
def b7 (_ : Nat) : Nat := 27
section EN
variable {M : Mm} {p : Nat} {P : Pg} {b : Nat → Nat} {hs hl h a : Nat} {R : List Nat} {nU : Hq} {c s : Nat}
theorem sentB {n tu tv : Nat} (kq : KQ M P nU) (L : QP M p P (Ps P) hs hl h a R) (ql : QL p hs hl h a R) (hP : okP P b) (hp : Pl M c) (hc : c ≤ 800000000) (h3 : ∀ l, l < 20 → Ps P l ≤ 3) (h4 : Pt P 3 ≤ 4) (hn : PL P ≤ n) : Rw (gL_isSent 0 p) M c s (fun v M' c' s' => v = 1 ∧ KQ M' P nU ∧ QP M' p P (Ps P) hs hl h a R ∧ Pl M' c' ∧ Gx (xP p) (Mn M) M M' ∧ Mn M' + c ≤ Mn M + c' ∧ c ≤ c' ∧ c' ≤ c + 23 + US b (Pt P 0) 4 3 tu n + 37 * n ∧ s' ≤ s + 73 + VS b (Pt P 0) 4 3 tv n + 253 * n) := by
  have h7 := hP.2.2.1
  have h27 := hP.2.1
  refine (lIsSent (tu := tu) (tv := tv) kq L ql hP hp (by omega)).mono ?_
  rintro v M' c' s' ⟨e1, e2, e3, e4, e5, e6, e7, c1, s1, ok, f1, f2⟩
  obtain ⟨g1, g2⟩ := sOk_u (st := 4) (m := 3) (n := n) ok (fun j hj => h3 j (by omega)) h4 hn
  have m1 : (10 + Pw P) * PL P ≤ 37 * n := Nat.mul_le_mul (by omega) hn
  have m2 : (60 + 6 * Pw P) * PL P ≤ 222 * n := Nat.mul_le_mul (by omega) hn
  exact ⟨e1, e2, e3, e4, e5, e6, e7, by omega, by omega⟩
end EN
def uE (e : Nat) : Nat := (8 + sm (uLk b7 e) 7) + (23 + US b7 e 4 3 (uX b7 e 5) 7 + 37 * 7) + (8 + sm (uLk b0 e) 6) + (23 + US b0 e 4 3 (uX b0 e 4) 6 + 37 * 6)
def vE (e : Nat) : Nat := (48 + sm (vLk b7 e) 7) + (73 + VS b7 e 4 3 (vX b7 e 5) 7 + 253 * 7) + (48 + sm (vLk b0 e) 6) + (73 + VS b0 e 4 3 (vX b0 e 4) 6 + 253 * 6)
/-- a page of the law, its things between N1 and N2 -/
def QB (p hs hl h a : Nat) (R : List Nat) (N1 N2 : Nat) : Prop := (N1 ≤ p ∧ p < N2) ∧ (N1 ≤ hs ∧ hs < N2) ∧ (N1 ≤ hl ∧ hl < N2) ∧ (N1 ≤ h ∧ h < N2) ∧ (a = EB ∨ (N1 ≤ a ∧ a < N2)) ∧ ∀ y, y ∈ R → N1 ≤ y ∧ y < N2
theorem QB.ql {p hs hl h a : Nat} {R : List Nat} {N1 N2 : Nat} (q : QB p hs hl h a R N1 N2) (h38 : 38 ≤ N1) : QL p hs hl h a R := by
  obtain ⟨q1, q2, q3, q4, q5, q6⟩ := q
  exact ⟨by omega, by omega, by omega, by omega, q5.imp id (fun z => by omega), fun y hy => by have := q6 y hy; omega⟩
theorem QP.qb {M M1 : Mm} {p : Nat} {P : Pg} {lo : Nat → Nat} {hs hl h a : Nat} {R : List Nat} (L : QP M p P lo hs hl h a R) {N1 N2 : Nat} (q : QB p hs hl h a R N1 N2) {X : Nat → Bool} {n : Nat} (x : Gx X n M M1) (hn : N2 ≤ n) (hX : ∀ q, N1 ≤ q → q < N2 → X q = false) : QP M1 p P lo hs hl h a R := by
  obtain ⟨q1, q2, q3, q4, q5, q6⟩ := q
  obtain ⟨⟨a1, a2, a3, a4, a5⟩, ⟨b1, b2, b3⟩, ⟨c1, c2, c3⟩, ⟨d1, d2, d3⟩, e1, e2, e3, e4, e5⟩ := L
  have hm := x.mn
  refine ⟨⟨by omega, by rw [x.mi (by omega) (hX p q1.1 q1.2)]; exact a2, by rw [x.mr (by omega) (hX p q1.1 q1.2)]; exact a3, by rw [x.mr (by omega) (hX p q1.1 q1.2)]; exact a4, by rw [x.mr (by omega) (hX p q1.1 q1.2)]; exact a5⟩, ⟨by omega, by rw [x.ml b1]; exact b2, fun k hk => by rw [x.mi (by omega) (hX hs q2.1 q2.2)]; exact b3 k hk⟩, ⟨by omega, by rw [x.ml c1]; exact c2, fun k hk => by rw [x.mi (by omega) (hX hl q3.1 q3.2)]; exact c3 k hk⟩, ⟨d1.gx x (by omega) (hX h q4.1 q4.2) (fun z => by have := q5.resolve_left z; exact ⟨by omega, hX a this.1 this.2⟩), d2, fun l y hy => ?_⟩, e1, e2, e3, e4, e5⟩
  have hy6 := q6 y (List.mem_of_getElem? hy)
  have := d3 l y hy
  exact this.gx x (by omega) (hX y hy6.1 hy6.2)
theorem lEnd {M : Mm} {p f : Nat} {P Q : Pg} {hs hl h a fs fl fh fa : Nat} {R fR : List Nat} {V : Nat → Option Pg} {B : Nat × Nat} {N c s e : Nat} (hC : CPg B M P [Q] V) (L : QP M p P (Ps P) hs hl h a R) (qb : QB p hs hl h a R 38 B.1) (pN : p < N) (F : QP M f Q (Ps Q) fs fl fh fa fR) (qf : QB f fs fl fh fa fR N B.1) (hN : 38 ≤ N) (hB : B.1 ≤ Mn M) (hP : okP P b7) (h7 : PL P ≤ 7) (hQ : okP Q b0) (h6 : PL Q ≤ 6) (h3 : ∀ l, l < 20 → Ps P l ≤ 3) (h3q : ∀ l, l < 20 → Ps Q l ≤ 3) (h4 : Pt P 3 ≤ 4) (h4q : Pt Q 3 ≤ 4) (he : Pt P 0 = e) (heq : Pt Q 0 = e) (hp : Mn M + 100 ≤ c) (hE : Ml M EB = 0) (hc : c + uE e ≤ 700000000) : Rw (gL_law_L1056 0 p f) M c s (fun v _ c' s' => v = 1 ∧ c' ≤ c + uE e ∧ s' ≤ s + vE e) := by
  have d1 : uE e = (8 + sm (uLk b7 e) 7) + (23 + US b7 e 4 3 (uX b7 e 5) 7 + 37 * 7) + (8 + sm (uLk b0 e) 6) + (23 + US b0 e 4 3 (uX b0 e 4) 6 + 37 * 6) := rfl
  have d2 : vE e = (48 + sm (vLk b7 e) 7) + (73 + VS b7 e 4 3 (vX b7 e 5) 7 + 253 * 7) + (48 + sm (vLk b0 e) 6) + (73 + VS b0 e 4 3 (vX b0 e 4) 6 + 253 * 6) := rfl
  have s1 : sm (uLk b7 e) (PL P) ≤ sm (uLk b7 e) 7 := sm_mono h7
  have s2 : sm (vLk b7 e) (PL P) ≤ sm (vLk b7 e) 7 := sm_mono h7
  have s3 : sm (uLk b0 e) (PL Q) ≤ sm (uLk b0 e) 6 := sm_mono h6
  have s4 : sm (vLk b0 e) (PL Q) ≤ sm (vLk b0 e) 6 := sm_mono h6
  obtain ⟨n0, hn0, kq⟩ := hC.kq
  unfold gL_law_L1056
  rw [Rw_wq]
  refine (lIsLike kq L (qb.ql (Nat.le_refl _)) hP ⟨by omega, hE⟩ (by omega)).mono ?_
  rintro v M1 c1 t1 ⟨rfl, k1, k2, k3, k4, k5, k6, k7, k8⟩
  rw [he] at k7 k8
  refine Rw_no (by decide) ?_
  rw [Rw_wq]
  have hm1 := k4.mn
  refine (sentB (n := 7) (tu := uX b7 e 5) (tv := vX b7 e 5) k1 k2 (qb.ql (Nat.le_refl _)) hP k3 (by omega) h3 h4 h7).mono ?_
  rintro v M2 c2 t2 ⟨rfl, l1, l2, l3, l4, l5, l6, l7, l8⟩
  rw [he] at l7 l8
  refine Rw_no (by decide) ?_
  have hm2 := l4.mn
  have g12 : Gx (xP p) (Mn M) M M2 := (k4.mono (Nat.le_refl _) (fun q _ z => xP_K z)).tr (l4.mono hm1 (fun _ _ z => z))
  have hC2 : CPg (B.1, Mn M2 + 48) M2 P [Q] V := hC.of kq l1 g12 (fun q z1 z2 => xP_f (by have := hC.2.2.2.1.b; omega) (by have := qb.1; omega)) (Nat.le_refl _) (by have := l3.1; omega)
  have F2 : QP M2 f Q (Ps Q) fs fl fh fa fR := F.qb qf g12 hB (fun q z1 z2 => xP_f (by omega) (by omega))
  rw [Rw_wq, Rw_cc]
  refine (cUndoOp hC2).mono ?_
  rintro r M3 ⟨hr, g3, hC3⟩
  have er : r = 0 := hr
  have hC3 : CPg (B.1, Mn M2 + 48) M3 Q [] V := hC3
  have gk3 : Gx xK B.1 M2 M3 := g3.gk (by omega) (fun x y z1 z2 => by unfold xEc; simp; omega)
  have F3 : QP M3 f Q (Ps Q) fs fl fh fa fR := F2.qb qf gk3 (Nat.le_refl _) (fun q z1 _ => xK_f (by omega))
  have hm3 : Mn M3 ≤ Mn M2 + 48 := by
    obtain ⟨m, -, -, h, -⟩ := hC3.2.2.2.1
    have h : Mn M3 + 4 * (12 - m) ≤ min (Mn M2 + 48) 900000000 := h
    have h := Nat.le_trans h (Nat.min_le_left _ _)
    exact Nat.le_trans (Nat.le_add_right _ _) h
  have p3 : Pl M3 c2 := ⟨by omega, by rw [gk3.mc (by rw [SB_v, EB_v]; omega)]; exact l3.2⟩
  obtain ⟨n3, -, kq3⟩ := hC3.kq
  refine Rw_yes er ?_
  rw [Rw_wq]
  refine (lIsLike kq3 F3 (qf.ql hN) hQ p3 (by omega)).mono ?_
  rintro v M4 c4 t4 ⟨rfl, m1, m2, m3, m4, m5, m6, m7, m8⟩
  rw [heq] at m7 m8
  refine Rw_no (by decide) ?_
  rw [Rw_wq]
  refine (sentB (n := 6) (tu := uX b0 e 4) (tv := vX b0 e 4) m1 m2 (qf.ql hN) hQ m3 (by omega) h3q h4q h6).mono ?_
  rintro v M5 c5 t5 ⟨rfl, o1, o2, o3, o4, o5, o6, o7, o8⟩
  rw [heq] at o7 o8
  refine Rw_no (by decide) ?_
  rw [Rw_grd, Rw_wr]
  exact ⟨by decide, rfl, by omega, by omega⟩
