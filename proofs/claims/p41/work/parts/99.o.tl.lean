/-! WHAT IS TOLD OF OTHER SENDINGS: copies of the page, sent -/
def xT (q : Nat) : Bool := decide (q < 39)
theorem xT_f {q : Nat} (h : 39 ≤ q) : xT q = false := by unfold xT; simp; exact h
theorem xT_K {q : Nat} (h : xT q = false) : xK q = false := by unfold xT at h; simp at h; exact xK_f (by omega)
theorem xT_1 {q : Nat} (h : xT q = false) : x1 38 q = false := by unfold xT at h; simp at h; exact x1_f (by omega)
/-- the law's page lies behind the class's things and behind what draws -/
def QT (p hs hl h a : Nat) (R : List Nat) : Prop := 39 ≤ p ∧ 39 ≤ hs ∧ 39 ≤ hl ∧ 39 ≤ h ∧ (a = EB ∨ 39 ≤ a) ∧ ∀ y, y ∈ R → 39 ≤ y
theorem QT.ql {p hs hl h a : Nat} {R : List Nat} (q : QT p hs hl h a R) : QL p hs hl h a R := by
  obtain ⟨q1, q2, q3, q4, q5, q6⟩ := q
  exact ⟨by omega, by omega, by omega, by omega, q5.imp id (fun z => by omega), fun y hy => by have := q6 y hy; omega⟩
theorem QP.gn {M M1 : Mm} {p : Nat} {P : Pg} {lo : Nat → Nat} {hs hl h a : Nat} {R : List Nat} (L : QP M p P lo hs hl h a R) {X : Nat → Bool} (x : Gx X (Mn M) M M1) (x1 : X p = false) (x2 : X hs = false) (x3 : X hl = false) (x4 : X h = false) (x5 : a ≠ EB → X a = false) (x6 : ∀ y, y ∈ R → X y = false) : QP M1 p P lo hs hl h a R := by
  obtain ⟨⟨a1, a2, a3, a4, a5⟩, ⟨b1, b2, b3⟩, ⟨c1, c2, c3⟩, ⟨d1, d2, d3⟩, e1, e2, e3, e4, e5⟩ := L
  have hm := x.mn
  refine ⟨⟨by omega, by rw [x.mi a1 x1]; exact a2, by rw [x.mr a1 x1]; exact a3, by rw [x.mr a1 x1]; exact a4, by rw [x.mr a1 x1]; exact a5⟩, ⟨by omega, by rw [x.ml b1]; exact b2, fun k hk => by rw [x.mi b1 x2]; exact b3 k hk⟩, ⟨by omega, by rw [x.ml c1]; exact c2, fun k hk => by rw [x.mi c1 x3]; exact c3 k hk⟩, ⟨d1.gx x d1.1 x4 (fun z => ⟨d1.lt z, x5 z⟩), d2, fun l y hy => ?_⟩, e1, e2, e3, e4, e5⟩
  have := d3 l y hy
  exact this.gx x this.1 (x6 y (List.mem_of_getElem? hy))
theorem QP.gt {M M1 : Mm} {p : Nat} {P : Pg} {lo : Nat → Nat} {hs hl h a : Nat} {R : List Nat} (L : QP M p P lo hs hl h a R) (q : QT p hs hl h a R) (x : Gx xT (Mn M) M M1) : QP M1 p P lo hs hl h a R :=
  L.gn x (xT_f q.1) (xT_f q.2.1) (xT_f q.2.2.1) (xT_f q.2.2.2.1) (fun z => xT_f (q.2.2.2.2.1.resolve_left z)) (fun y hy => xT_f (q.2.2.2.2.2 y hy))
/-- another setting -/
theorem QP.setT {M : Mm} {p : Nat} {P : Pg} {lo : Nat → Nat} {hs hl h a : Nat} {R : List Nat} (L : QP M p P lo hs hl h a R) {k v : Nat} (z1 : hs ≠ hl) (z2 : hs ≠ h) (z3 : a = EB ∨ hs ≠ a) (z4 : ∀ y, y ∈ R → hs ≠ y) : QP (sI M hs k (nI v)) p (pSet P k v) lo hs hl h a R := by
  obtain ⟨⟨a1, a2, a3, a4, a5⟩, ⟨b1, b2, b3⟩, ⟨c1, c2, c3⟩, ⟨d1, d2, d3⟩, e1, e2, e3, e4, e5⟩ := L
  have hn : ∀ q, q ≠ hs → Mi (sI M hs k (nI v)) q = Mi M q := fun q hq => up2_ne hq
  refine ⟨⟨a1, by rw [hn p (Ne.symm e1)]; exact a2, a3, a4, a5⟩, ⟨b1, b2, fun j hj => ?_⟩, ⟨c1, c2, fun j hj => by rw [hn hl (Ne.symm z1)]; exact c3 j hj⟩, ⟨?_, d2, fun l y hy => ?_⟩, e1, e2, e3, e4, e5⟩
  · show Mi (sI M hs k (nI v)) hs j = nI (updN (Pt P) k v j)
    rw [Mi_sI]
    unfold updN
    by_cases q : j = k
    · rw [if_pos ⟨rfl, q⟩, if_pos q]
    · rw [if_neg (fun z => q z.2), if_neg q]; exact b3 j hj
  · obtain ⟨l1, l2, l3, l4, l5⟩ := d1
    exact ⟨l1, l2, by rw [hn h (Ne.symm z2)]; exact l3, l4, l5⟩
  · obtain ⟨r1, r2, r3, r4⟩ := d3 l y hy
    exact ⟨r1, r2, r3, fun j hj => by rw [hn y (Ne.symm (z4 y (List.mem_of_getElem? hy)))]; exact r4 j hj⟩
/-- other losses: a new row of numbers, one line that is lost -/
theorem QP.newL {M : Mm} {p : Nat} {P : Pg} {lo : Nat → Nat} {hs hl h a : Nat} {R : List Nat} (L : QP M p P lo hs hl h a R) (hn : Mn M < 1000000000) {l : Nat} : QP (sI (sR (nw M 11 20) p 2 (some (Mn M))) (Mn M) l (nI 1)) p P (loOne l) hs (Mn M) h a R := by
  obtain ⟨⟨a1, a2, a3, a4, a5⟩, ⟨b1, b2, b3⟩, ⟨c1, c2, c3⟩, ⟨d1, d2, d3⟩, e1, e2, e3, e4, e5⟩ := L
  have g : Gx (x1 p) (Mn M) M (sI (sR (nw M 11 20) p 2 (some (Mn M))) (Mn M) l (nI 1)) := (((Gx.rf (X := x1 p)).nw (Nat.le_refl _) (by rw [SB_v]; exact hn)).sR (fun _ => by simp [x1])).sI (fun z => absurd z (Nat.lt_irrefl _))
  have hm := g.mn
  have rr : ∀ j, j ≠ 2 → Mr (sI (sR (nw M 11 20) p 2 (some (Mn M))) (Mn M) l (nI 1)) p j = Mr M p j := fun j hj => by
    rw [Mr_sI, Mr_sR, if_neg (fun z => hj z.2), Mr_nw, if_neg (by omega)]
  refine ⟨⟨by omega, ?_, by rw [rr 1 (by omega)]; exact a3, ?_, by rw [rr 3 (by omega)]; exact a5⟩, ⟨by omega, by rw [g.ml b1]; exact b2, fun k hk => by rw [g.mi b1 (x1_f e1)]; exact b3 k hk⟩, ⟨by show Mn M < Mn M + 1; omega, ?_, fun k hk => ?_⟩, ⟨d1.gx g d1.1 (x1_f e3) (fun z => ⟨d1.lt z, x1_f e4⟩), d2, fun l' y hy => ?_⟩, e1, by omega, e3, e4, e5⟩
  · rw [Mi_sI, if_neg (by omega), Mi_sR, Mi_nw, if_neg (by omega)]; exact a2
  · rw [Mr_sI, Mr_sR, if_pos ⟨rfl, rfl⟩]
  · rw [Ml_sI, Ml_sR, Ml_nw, if_pos rfl]
  · rw [Mi_sI]
    unfold loOne
    by_cases q : k = l
    · rw [if_pos ⟨rfl, q⟩, if_pos q]
    · rw [if_neg (fun z => q z.2), if_neg q, Mi_sR, Mi_nw, if_pos rfl]; rfl
  · have := d3 l' y hy
    exact this.gx g this.1 (x1_f (e5 y (List.mem_of_getElem? hy)))
theorem sm_le_lt {f g : Nat → Nat} : ∀ {n : Nat}, (∀ i, i < n → f i ≤ g i) → sm f n ≤ sm g n := by
  intro n
  induction n with
  | zero => intro _; exact Nat.le_refl _
  | succ n ih =>
    intro h
    rw [sm_s, sm_s]
    have := ih (fun i hi => h i (by omega))
    have := h n (by omega)
    omega
/-! what a sending has made at most: st steps back, m lost sendings of a line, n lines -/
def US (b : Nat → Nat) (e st m t n : Nat) : Nat := sm (uF b e) n + st * t + sm (fun j => m * (uX b e j - t)) n
def VS (b : Nat → Nat) (e st m t n : Nat) : Nat := sm (vF b e) n + st * t + sm (fun j => m * (vX b e j - t)) n
theorem sOk_u {P : Pg} {lo b : Nat → Nat} {S : Sn} {c1 s1 tu tv c s st m n : Nat} (h : sOk P lo b S (PL P) c1 s1 tu tv c s) (hlo : ∀ j, j < PL P → lo j ≤ m) (hst : Pt P 3 ≤ st) (hn : PL P ≤ n) : c ≤ c1 + US b (Pt P 0) st m tu n ∧ s ≤ s1 + VS b (Pt P 0) st m tv n := by
  obtain ⟨z1, z2, -, z4⟩ := h
  have hz : zP S ≤ st := Nat.le_trans z1.1 hst
  have m1 : zP S * tu ≤ st * tu := Nat.mul_le_mul hz (Nat.le_refl _)
  have m2 : zP S * tv ≤ st * tv := Nat.mul_le_mul hz (Nat.le_refl _)
  have k1 : sm (fun j => zK S j * (uX b (Pt P 0) j - tu)) (PL P) ≤ sm (fun j => m * (uX b (Pt P 0) j - tu)) n :=
    Nat.le_trans (sm_le_lt (fun j hj => Nat.mul_le_mul (Nat.le_trans (z2 j).2 (hlo j hj)) (Nat.le_refl _))) (sm_mono hn)
  have k2 : sm (fun j => zK S j * (vX b (Pt P 0) j - tv)) (PL P) ≤ sm (fun j => m * (vX b (Pt P 0) j - tv)) n :=
    Nat.le_trans (sm_le_lt (fun j hj => Nat.mul_le_mul (Nat.le_trans (z2 j).2 (hlo j hj)) (Nat.le_refl _))) (sm_mono hn)
  have f1 : sm (uF b (Pt P 0)) (PL P) ≤ sm (uF b (Pt P 0)) n := sm_mono hn
  have f2 : sm (vF b (Pt P 0)) (PL P) ≤ sm (vF b (Pt P 0)) n := sm_mono hn
  have w1 : sm (uW b (Pt P 0)) (PL P) ≤ sm (uF b (Pt P 0)) (PL P) := sm_lef (fun i => uW_F b _ i) _
  have w2 : sm (vW b (Pt P 0)) (PL P) ≤ sm (vF b (Pt P 0)) (PL P) := sm_lef (fun i => vW_F b _ i) _
  unfold US VS
  rcases z4 with ⟨-, u1, u2⟩ | ⟨-, u1, u2⟩
  · exact ⟨by omega, by omega⟩
  · exact ⟨by omega, by omega⟩
/-! a copy that has been sent -/
def SC (M : Mm) (q : Nat) (P : Pg) (lo : Nat → Nat) : Prop := ∃ hs hl h a R N ag x G, QP M q P lo hs hl h a R ∧ QL q hs hl h a R ∧ QS M N q P (sndA P lo) ag x G
theorem SC.gk {M M1 : Mm} {q : Nat} {P : Pg} {lo : Nat → Nat} (k : SC M q P lo) (g : Gx xK (Mn M) M M1) : SC M1 q P lo := by
  obtain ⟨hs, hl, h, a, R, N, ag, x, G, L, ql, Z⟩ := k
  exact ⟨hs, hl, h, a, R, N, ag, x, G, L.gk ql g, ql, Z.gk ql.1 g⟩
theorem SC.all {M : Mm} {q : Nat} {P : Pg} {lo : Nat → Nat} (k : SC M q P lo) (h27 : Pw P ≤ 27) (h7 : PL P ≤ 7) {c s : Nat} {Q : Int32 → Mm → Nat → Nat → Prop} : Rw (gX9_allWrong q) M c s Q ↔ Q (nI (zWs P (sndA P lo))) M c s := by
  obtain ⟨hs, hl, h, a, R, N, ag, x, G, L, ql, Z⟩ := k
  exact lAllWrong L Z.1 (by omega) (by omega)
theorem SC.wr {M : Mm} {q : Nat} {P : Pg} {lo : Nat → Nat} (k : SC M q P lo) (h27 : Pw P ≤ 27) {l : Nat} (hl' : l < PL P) {c s : Nat} {Q : Int32 → Mm → Nat → Nat → Prop} : Rw (gX9_wrong q (nI l)) M c s Q ↔ Q (nI (zWr P (sndA P lo) l)) M c s := by
  obtain ⟨hs, hl, h, a, R, N, ag, x, G, L, ql, Z⟩ := k
  exact lWrong L Z.1 (by omega) hl' hl'
theorem SC.bits {M : Mm} {q : Nat} {P : Pg} {lo : Nat → Nat} (k : SC M q P lo) {Q : Int32 → Mm → Prop} : Rn (gI q 9) M Q ↔ Q (nI (zA (sndA P lo))) M := by
  obtain ⟨hs, hl, h, a, R, N, ag, x, G, L, ql, Z⟩ := k
  rw [Rn_gI, Z.2.2.2.2.1.1]
def TS (M0 : Mm) (p : Nat) (P : Pg) (nU : Hq) (hs hl h a : Nat) (R : List Nat) (c0 s0 : Nat) (M : Mm) (t c s u v : Nat) : Prop :=
  KQ M P nU ∧ QP M p P (Ps P) hs hl h a R ∧ isTo M t ∧ Pl M c ∧ Gx xT (Mn M0) M0 M ∧ Mn M + c0 ≤ Mn M0 + c ∧ c0 ≤ c ∧ c ≤ c0 + u ∧ s ≤ s0 + v
section TL
variable {M0 M : Mm} {p : Nat} {P : Pg} {b : Nat → Nat} {hs hl h a : Nat} {R : List Nat} {c0 s0 t c s u v tu tv : Nat} {nU : Hq}
theorem TS.law (k : TS M0 p P nU hs hl h a R c0 s0 M t c s u v) {M1 : Mm} {c1 s1 u1 v1 : Nat} (g : Gx xO (Mn M) M M1) (e : Cs M c s M1 c1 s1 u1 v1) (p1 : Pl M1 c1) : TS M0 p P nU hs hl h a R c0 s0 M1 t c1 s1 (u + u1) (v + v1) := by
  obtain ⟨k1, k2, k3, k4, k5, k6, k7, k8, k9⟩ := k
  obtain ⟨e1, e2, e3, e4⟩ := e
  have hm := k5.mn
  exact ⟨k1.gx g k1.2.2.2.2 (fun _ _ => rfl), k2.go g, k3.gx g k3.1 rfl, p1, k5.tr (g.mono hm (fun _ _ _ => rfl)), by omega, by omega, by omega, by omega⟩
theorem TS.ask (k : TS M0 p P nU hs hl h a R c0 s0 M t c s u v) (qt : QT p hs hl h a R) {M1 : Mm} {kc ks : Nat} (k1 : KQ M1 P nU) (g : Gx xK (Mn M) M M1) (n : Mn M1 = Mn M) : TS M0 p P nU hs hl h a R c0 s0 M1 t (c + kc) (s + ks) (u + kc) (v + ks) := by
  obtain ⟨-, k2, k3, k4, k5, k6, k7, k8, k9⟩ := k
  have hm := k5.mn
  exact ⟨k1, k2.gk qt.ql g, k3.gx g k3.1 (xK_f (Nat.le_refl _)), k4.go g (by omega), k5.tr (g.mono hm (fun _ _ z => xT_K z)), by omega, by omega, by omega, by omega⟩
theorem TS.nxt (k : TS M0 p P nU hs hl h a R c0 s0 M t c s u v) (qt : QT p hs hl h a R) {M1 : Mm} {t1 : Nat} (o : isTo M1 t1) (g : Gx (x1 38) (Mn M) M M1) (n : Mn M1 = Mn M) : TS M0 p P nU hs hl h a R c0 s0 M1 t1 c s u v := by
  obtain ⟨k1, k2, k3, k4, k5, k6, k7, k8, k9⟩ := k
  have hm := k5.mn
  have g' : Gx xT (Mn M) M M1 := g.mono (Nat.le_refl _) (fun _ _ z => xT_1 z)
  exact ⟨k1.gx g k1.2.2.2.2 (fun q hq => x1_f (by omega)), k2.gt qt g', o, k4.go g (by omega), k5.tr (g'.mono hm (fun _ _ z => z)), by omega, by omega, by omega, by omega⟩
theorem TS.up (k : TS M0 p P nU hs hl h a R c0 s0 M t c s u v) {u1 v1 : Nat} (hu : u ≤ u1) (hv : v ≤ v1) : TS M0 p P nU hs hl h a R c0 s0 M t c s u1 v1 := by
  obtain ⟨k1, k2, k3, k4, k5, k6, k7, k8, k9⟩ := k
  exact ⟨k1, k2, k3, k4, k5, k6, k7, by omega, by omega⟩
/-- a copy with another setting, sent -/
theorem tVar (k : TS M0 p P nU hs hl h a R c0 s0 M t c s u v) (hP : okP P b) (h6 : PL P ≤ 6) (h3 : ∀ l, l < 20 → Ps P l ≤ 3) (hu : c0 + u ≤ 830000000) {j w st : Nat} (hj : j < 6) (hP' : okP (pSet P j w) b) (hst : Pt (pSet P j w) 3 ≤ st) {F : Nat → Mm → Option (Int32 × Mm × Nat × Nat)} {Q : Int32 → Mm → Nat → Nat → Prop} (kk : ∀ M' c' s' q, TS M0 p P nU hs hl h a R c0 s0 M' t c' s' (u + 28 + US b (Pt (pSet P j w) 0) st 3 tu 6) (v + 461 + VS b (Pt (pSet P j w) 0) st 3 tv 6) → SC M' q (pSet P j w) (Ps P) → Rw (F q) M' c' s' Q) : Rw (wq (gX9_copy p) fun h4 => wb (gA h4 1) fun v5 => wb (aI v5 (nI j) (nI w)) fun _ => wq (gX9_send h4) fun _ => F h4) M c s Q := by
  have h27 := hP.2.1
  have h38 := k.1.2.2.2.2
  have hck := k.2.2.2.2.2.2.2.1
  rw [Rw_wq]
  refine (lCopy k.2.1 h27 (by omega) k.2.2.2.1 (by omega)).mono ?_
  rintro q M1 c1 s1 ⟨rfl, g1, p1, e1, a', R', L1, ha', hR'⟩
  have hc1 := e1.2.2.1
  have hmp := p1.1
  have hm1 := L1.1.1
  rw [Rw_wb, Rn_gA L1.1.2.2.1, Rw_wb, rn_aI (by omega), L1.2.1.2.1]
  refine ⟨hj, ?_⟩
  have hEn : EB = 1000000500 := EB_v
  have L2 : QP (sI M1 (Mn M + 4) j (nI w)) (Mn M) (pSet P j w) (Ps P) (Mn M + 4) (Mn M + 5) (Mn M + 3) a' R' := L1.setT (by omega) (by omega) (ha'.imp id (fun z => by omega)) (fun y hy => by have := hR' y hy; omega)
  have g2 : Gx xO (Mn M) M (sI M1 (Mn M + 4) j (nI w)) := g1.sI (fun z => by omega)
  have p2 : Pl (sI M1 (Mn M + 4) j (nI w)) c1 := p1
  have n2 : Mn (sI M1 (Mn M + 4) j (nI w)) = Mn M1 := rfl
  generalize sI M1 (Mn M + 4) j (nI w) = M2 at L2 g2 p2 n2
  rw [Rw_wq]
  refine (lSend (tu := tu) (tv := tv) L2 hP' (fun l hl => Nat.le_trans (h3 l hl) (by omega)) p2 (by omega)).mono ?_
  rintro - M3 c3 s3 ⟨ag, x, G, g3, q3, p3, n3, e3, ok3⟩
  have L3 := g3.qp L2 rfl
  have g03 : Gx xO (Mn M) M M3 := g2.tr (g3.1.mono (by omega) (fun q hq _ => x1_f (by omega)))
  obtain ⟨b1, b2⟩ := sOk_u (n := 6) (m := 3) ok3 (fun l hl => h3 l (by have : PL (pSet P j w) = PL P := rfl; omega)) hst (show PL P ≤ 6 from h6)
  have ePL : PL (pSet P j w) = PL P := rfl
  rw [ePL] at b2
  obtain ⟨e11, e12, e13, e14⟩ := e1
  refine kk M3 c3 s3 (Mn M) ((k.law g03 (u1 := 28 + US b (Pt (pSet P j w) 0) st 3 tu 6) (v1 := 461 + VS b (Pt (pSet P j w) 0) st 3 tv 6) ⟨by omega, by omega, by omega, by omega⟩ p3).up (by omega) (by omega)) ⟨_, _, _, _, _, _, _, _, _, L3, ⟨by omega, by omega, by omega, by omega, ha'.imp id (fun z => by omega), fun y hy => by have := hR' y hy; omega⟩, q3⟩
/-- a copy with one line that is lost and no steps back, sent -/
theorem tOne (k : TS M0 p P nU hs hl h a R c0 s0 M t c s u v) (hP : okP P b) (h6 : PL P ≤ 6) (hu : c0 + u ≤ 830000000) {l : Nat} (hl' : l < PL P) (hP' : okP (pSet P 3 0) b) {F : Nat → Mm → Option (Int32 × Mm × Nat × Nat)} {Q : Int32 → Mm → Nat → Nat → Prop} (kk : ∀ M' c' s' q, TS M0 p P nU hs hl h a R c0 s0 M' t c' s' (u + 29 + US b (Pt P 0) 0 1 tu 6) (v + 481 + VS b (Pt P 0) 0 1 tv 6) → SC M' q (pSet P 3 0) (loOne l) → Rw (F q) M' c' s' Q) : Rw (wq (gX9_copy p) fun h40 => wq (nA 11 (nI 20)) fun h41 => wb (pA h40 2 h41) fun _ => wb (gA h40 2) fun v42 => wb (aI v42 (nI l) (nI 1)) fun _ => wb (gA h40 1) fun v43 => wb (aI v43 (nI 3) (nI 0)) fun _ => wq (gX9_send h40) fun _ => F h40) M c s Q := by
  have h27 := hP.2.1
  have h38 := k.1.2.2.2.2
  have hck := k.2.2.2.2.2.2.2.1
  rw [Rw_wq]
  refine (lCopy k.2.1 h27 (by omega) k.2.2.2.1 (by omega)).mono ?_
  rintro q M1 c1 s1 ⟨rfl, g1, p1, e1, a', R', L1, ha', hR'⟩
  have hc1 := e1.2.2.1
  have hmp := p1.1
  have hm1 := L1.1.1
  have hEn : EB = 1000000500 := EB_v
  rw [Rw_wq, Rw_nA (by omega) (by omega), Rw_wb, Rn_pA, Rw_wb, Rn_gA sR_self, Rw_wb, rn_aI (by omega)]
  have eml : Ml (sR (nw M1 11 20) (Mn M) 2 (some (Mn M1))) (Mn M1) = 20 := by rw [Ml_sR, Ml_nw, if_pos rfl]
  rw [eml]
  refine ⟨by omega, ?_⟩
  have L2 := L1.newL (l := l) (by omega)
  have g2 : Gx xO (Mn M) M (sI (sR (nw M1 11 20) (Mn M) 2 (some (Mn M1))) (Mn M1) l (nI 1)) := ((g1.nw (by omega) (by rw [SB_v]; omega)).sR (fun z => absurd z (Nat.lt_irrefl _))).sI (fun z => by omega)
  have n2 : Mn (sI (sR (nw M1 11 20) (Mn M) 2 (some (Mn M1))) (Mn M1) l (nI 1)) = Mn M1 + 1 := rfl
  have p2 : Pl (sI (sR (nw M1 11 20) (Mn M) 2 (some (Mn M1))) (Mn M1) l (nI 1)) (c1 + 1) := k.2.2.2.1.go g2 (by have := e1.1; omega)
  have hRm : ∀ y, y ∈ R' → y < Mn M1 := fun y hy => by
    obtain ⟨i, hi⟩ := List.mem_iff_getElem?.mp hy
    exact (L1.2.2.2.1.2.2 i y hi).1
  have hm3 := L1.2.2.2.1.1.1
  have hm4 := L1.2.1.1
  generalize sI (sR (nw M1 11 20) (Mn M) 2 (some (Mn M1))) (Mn M1) l (nI 1) = M2 at L2 g2 p2 n2
  rw [Rw_wb, Rn_gA L2.1.2.2.1, Rw_wb, rn_aI (by omega), L2.2.1.2.1]
  refine ⟨by omega, ?_⟩
  have L3 : QP (sI M2 (Mn M + 4) 3 (nI 0)) (Mn M) (pSet P 3 0) (loOne l) (Mn M + 4) (Mn M1) (Mn M + 3) a' R' := L2.setT (by omega) (by omega) (ha'.imp id (fun z => by omega)) (fun y hy => by have := hR' y hy; omega)
  have g3 : Gx xO (Mn M) M (sI M2 (Mn M + 4) 3 (nI 0)) := g2.sI (fun z => by omega)
  have p3 : Pl (sI M2 (Mn M + 4) 3 (nI 0)) (c1 + 1) := p2
  have n3 : Mn (sI M2 (Mn M + 4) 3 (nI 0)) = Mn M1 + 1 := n2
  generalize sI M2 (Mn M + 4) 3 (nI 0) = M3 at L3 g3 p3 n3
  rw [Rw_wq]
  refine (lSend (tu := tu) (tv := tv) L3 hP' (fun i hi => loOne5 l i hi) p3 (by omega)).mono ?_
  rintro - M4 c4 s4 ⟨ag, x, G, g4, q4, p4, n4, e4, ok4⟩
  have L4 := g4.qp L3 rfl
  have g04 : Gx xO (Mn M) M M4 := g3.tr (g4.1.mono (by omega) (fun q hq _ => x1_f (by omega)))
  obtain ⟨b1, b2⟩ := sOk_u (n := 6) (m := 1) (st := 0) ok4 (fun i _ => by unfold loOne; split <;> omega) (Nat.le_refl _) (show PL P ≤ 6 from h6)
  have ePL : PL (pSet P 3 0) = PL P := rfl
  have ePt : Pt (pSet P 3 0) 0 = Pt P 0 := rfl
  rw [ePL] at b2
  rw [ePt] at b1 b2
  obtain ⟨e11, e12, e13, e14⟩ := e1
  refine kk M4 c4 s4 (Mn M) ((k.law g04 (u1 := 29 + US b (Pt P 0) 0 1 tu 6) (v1 := 481 + VS b (Pt P 0) 0 1 tv 6) ⟨by omega, by omega, by omega, by omega⟩ p4).up (by omega) (by omega)) ⟨_, _, _, _, _, _, _, _, _, L4, ⟨by omega, by omega, by omega, by omega, ha'.imp id (fun z => by omega), fun y hy => by have := hR' y hy; omega⟩, q4⟩
end TL
