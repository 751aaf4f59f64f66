/-! THE CLASS AND THE LAW'S PAGE ARE ALIKE: what holds while they are asked -/
theorem lineQ (P : Pg) {l k : Nat} (hl : l < PL P) (h7 : PL P ≤ 7) (hk : k < 12) : spLine P (nI l) (nI k) = .inr (nI (lineV P l k)) := by
  unfold spLine
  rw [isLn_n (by omega) hl, if_pos rfl, isLn_n (by omega) hk, if_pos rfl, ix_n (by omega), ix_n (by omega)]
theorem countQ (P : Pg) (nU : Hq) {k : Nat} (hk : k < 13) : spCount P nU.1 (nI k) = .inr (nI (cntV P nU.1 k)) := by
  unfold spCount
  rw [isLn_n (by omega) hk, if_pos rfl, ix_n (by omega)]
theorem dotQ (P : Pg) {l k : Nat} (hl : l < PL P) (h7 : PL P ≤ 7) (hw : Pw P ≤ 27) (hk : k < Pw P) : spDot P (nI l) (nI k) = .inr (nI (bN ((Pr P l).testBit k))) := by
  unfold spDot
  rw [if_pos ⟨isLn_n (by omega) hl, isLn_n (by omega) hk⟩, ix_n (by omega), ix_n (by omega)]
theorem runQ (P : Pg) {l j : Nat} (hl : l < PL P) (h7 : PL P ≤ 7) (hj : j < 1000) : spRun P (nI l) (nI j) = .inr (rnV (runs (Pw P) (Pr P l)) j) := by
  unfold spRun
  rw [if_pos ⟨isLn_n (by omega) hl, nI_pos (by omega)⟩, ix_n (by omega), ix_n (by omega)]
theorem modeQ (P : Pg) {l j k : Nat} (hl : l < PL P) (h7 : PL P ≤ 7) (hj : j < 1000) (hk : k < 4) : spMode P (nI l) (nI j) (nI k) = .inr (mdV (cod (Pw P) (Pr P l) (Pu P l)) j (nI k)) := by
  unfold spMode
  rw [if_pos ⟨isLn_n (by omega) hl, nI_pos (by omega)⟩, isLn_n (by omega) hk, if_pos rfl, ix_n (by omega), ix_n (by omega)]
theorem mdV_at {L : List Md} {j : Nat} {m : Md} (h : L[j]? = some m) : mdV L j (nI 0) = m.1 ∧ mdV L j (nI 1) = m.2.1 ∧ mdV L j (nI 2) = m.2.2.1 ∧ mdV L j (nI 3) = m.2.2.2 := by
  unfold mdV
  rw [h]
  refine ⟨if_pos rfl, ?_, ?_, ?_⟩
  · exact (if_neg (by decide)).trans (if_pos rfl)
  · exact (if_neg (by decide)).trans ((if_neg (by decide)).trans (if_pos rfl))
  · exact (if_neg (by decide)).trans ((if_neg (by decide)).trans (if_neg (by decide)))
theorem dif_self (w r : Nat) : dif w r r = 0 := by
  have : ∀ n, cn (fun k => r.testBit k != r.testBit k) n = 0 := by
    intro n
    induction n with
    | zero => rfl
    | succ n ih =>
      unfold cn at ih ⊢
      rw [sm_s, ih]; simp [bN]
  exact this w
theorem rbQ {P : Pg} (hw : wfP P) {l : Nat} (hl : l < PL P) (h7 : PL P ≤ 7) : spReadBelow P (nI l) (pl l) = .inr (nI 0) := by
  have hr := hw.2.2.2.1 l hl
  have key : rbV P l (Pu P l) = nI 0 := by
    unfold rbV
    rw [rt_C hw.2.1 hr]
    show nI (dif (Pw P) (Pr P l) (Pr P l)) = nI 0
    rw [dif_self]
  unfold spReadBelow
  cases l with
  | zero =>
    rw [if_pos ⟨isLn_n (by omega) hl, Or.inl pl_0.symm⟩, ix_n (by omega), if_pos pl_0.symm]
    exact congrArg Sum.inr key
  | succ l =>
    have hne : ¬ nI l = (-1 : Int32) := fun e => by
      have h1 : ¬ nI l < 0 := nI_pos (by omega)
      rw [e] at h1
      exact h1 (by decide)
    rw [pl_s, if_pos ⟨isLn_n (by omega) hl, Or.inr (isLn_n (by omega) (by omega))⟩, ix_n (by omega), if_neg hne, ix_n (by omega)]
    refine congrArg Sum.inr ?_
    rw [← key]
    unfold Pu
    rw [if_neg (by omega)]; rfl
theorem runs_128 {w r : Nat} (hw : w ≤ 27) : ∀ y, y ∈ runs w r → y < 128 := by
  have : ∀ n f cl, ∀ y, y ∈ rL w r n f cl → y < 128 := by
    intro n
    induction n with
    | zero => intro f cl y hy; cases hy
    | succ n ih =>
      intro f cl y hy
      rw [rL_s] at hy
      rcases List.mem_cons.mp hy with e | e
      · have : rT w r f cl ≤ w := fb_le _ _ _
        omega
      · split at e
        · exact ih _ _ y e
        · cases e
  exact fun y hy => this _ _ _ y hy
theorem xO_K {M M1 : Mm} {n : Nat} (g : Gx xO n M M1) : Gx xK n M M1 := g.mono (Nat.le_refl _) (fun _ _ _ => rfl)
theorem isCl.gk {M M1 : Mm} {N h : Nat} {L : List Md} (k : isCl M N h L) (hN : 38 ≤ N) (g : Gx xK (Mn M) M M1) : isCl M1 N h L := k.gx g (Nat.le_refl _) (fun q hq _ => xK_f (by omega))
theorem isRl.gk {M M1 : Mm} {N h : Nat} {L : List Nat} (k : isRl M N h L) (hN : 38 ≤ N) (g : Gx xK (Mn M) M M1) : isRl M1 N h L := k.gx g (Nat.le_refl _) (fun q hq _ => xK_f (by omega))
theorem isBr.gk {M M1 : Mm} {h w r : Nat} (k : isBr M h w r) (hN : 38 ≤ h) (g : Gx xK (Mn M) M M1) : isBr M1 h w r := k.gx g k.1 (xK_f hN)
/-- all that holds while the class is asked; made: u cells, v places -/
def LKs (M0 : Mm) (p : Nat) (P : Pg) (nU : Hq) (hs hl h a : Nat) (R : List Nat) (c0 s0 : Nat) (M : Mm) (c s u v : Nat) : Prop :=
  KQ M P nU ∧ QP M p P (Ps P) hs hl h a R ∧ Pl M c ∧ Gx xK (Mn M0) M0 M ∧ Mn M + c0 ≤ Mn M0 + c ∧ c0 ≤ c ∧ c ≤ c0 + u ∧ s ≤ s0 + v
section LK
variable {M0 M : Mm} {p : Nat} {P : Pg} {b : Nat → Nat} {hs hl h a : Nat} {R : List Nat} {c0 s0 c s u v : Nat} {nU : Hq}
theorem LKs.law (k : LKs M0 p P nU hs hl h a R c0 s0 M c s u v) {M1 : Mm} {c1 s1 u1 v1 : Nat} (g : Gx xO (Mn M) M M1) (e : Cs M c s M1 c1 s1 u1 v1) (p1 : Pl M1 c1) : LKs M0 p P nU hs hl h a R c0 s0 M1 c1 s1 (u + u1) (v + v1) := by
  obtain ⟨k1, k2, k3, k4, k5, k6, k7, k8⟩ := k
  obtain ⟨e1, e2, e3, e4⟩ := e
  have hm := k4.mn
  exact ⟨k1.gx g k1.2.2.2.2 (fun _ _ => rfl), k2.go g, p1, k4.tr ((xO_K g).mono hm (fun _ _ z => z)), by omega, by omega, by omega, by omega⟩
theorem LKs.ask (k : LKs M0 p P nU hs hl h a R c0 s0 M c s u v) (ql : QL p hs hl h a R) {M1 : Mm} {kc ks : Nat} (k1 : KQ M1 P nU) (g : Gx xK (Mn M) M M1) (n : Mn M1 = Mn M) : LKs M0 p P nU hs hl h a R c0 s0 M1 (c + kc) (s + ks) (u + kc) (v + ks) := by
  obtain ⟨-, k2, k3, k4, k5, k6, k7, k8⟩ := k
  have hm := k4.mn
  exact ⟨k1, k2.gk ql g, k3.go g (by omega), k4.tr (g.mono hm (fun _ _ z => z)), by omega, by omega, by omega, by omega⟩
theorem LKs.up (k : LKs M0 p P nU hs hl h a R c0 s0 M c s u v) {u1 v1 : Nat} (hu : u ≤ u1) (hv : v ≤ v1) : LKs M0 p P nU hs hl h a R c0 s0 M c s u1 v1 := by
  obtain ⟨k1, k2, k3, k4, k5, k6, k7, k8⟩ := k
  exact ⟨k1, k2, k3, k4, k5, k6, by omega, by omega⟩
theorem aLine (k : LKs M0 p P nU hs hl h a R c0 s0 M c s u v) (ql : QL p hs hl h a R) (h7 : PL P ≤ 7) {l j : Nat} (hl' : l < PL P) (hj : j < 12) {Q : Int32 → Mm → Nat → Nat → Prop} (kk : ∀ M', LKs M0 p P nU hs hl h a R c0 s0 M' (c + 2) (s + 12) (u + 2) (v + 12) → Gx xK (Mn M) M M' → Q (nI (lineV P l j)) M' (c + 2) (s + 12)) : Rw (wcx 2 12 (fX7_line 0 (nI l) (nI j))) M c s Q :=
  kAsk k.1 xCo_Q (cLineOp k.1.1 k.1.2.1 k.1.2.2.1 (nI l) (nI j)) (lineQ P hl' h7 hj) (fun M2 k2 g2 n2 => kk M2 (k.ask ql k2 g2 n2) g2)
theorem aCount (k : LKs M0 p P nU hs hl h a R c0 s0 M c s u v) (ql : QL p hs hl h a R) {j : Nat} (hj : j < 13) {Q : Int32 → Mm → Nat → Nat → Prop} (kk : ∀ M', LKs M0 p P nU hs hl h a R c0 s0 M' (c + 1) (s + 6) (u + 1) (v + 6) → Gx xK (Mn M) M M' → Q (nI (cntV P nU.1 j)) M' (c + 1) (s + 6)) : Rw (wcx 1 6 (fX7_count 0 (nI j))) M c s Q :=
  kAsk k.1 xCo_Q (cCount k.1.1 k.1.2.1 k.1.2.2.1 k.1.2.2.2.1.1 (nI j)) (countQ P nU hj) (fun M2 k2 g2 n2 => kk M2 (k.ask ql k2 g2 n2) g2)
theorem aDot (k : LKs M0 p P nU hs hl h a R c0 s0 M c s u v) (ql : QL p hs hl h a R) (h7 : PL P ≤ 7) (hw : Pw P ≤ 27) {l j : Nat} (hl' : l < PL P) (hj : j < Pw P) {Q : Int32 → Mm → Nat → Nat → Prop} (kk : ∀ M', LKs M0 p P nU hs hl h a R c0 s0 M' (c + 1) (s + 6) (u + 1) (v + 6) → Gx xK (Mn M) M M' → Q (nI (bN ((Pr P l).testBit j))) M' (c + 1) (s + 6)) : Rw (wcx 1 6 (fX7_dot 0 (nI l) (nI j))) M c s Q :=
  kAsk k.1 xCo_Q (cDot k.1.1 k.1.2.1 k.1.2.2.1 (nI l) (nI j)) (dotQ P hl' h7 hw hj) (fun M2 k2 g2 n2 => kk M2 (k.ask ql k2 g2 n2) g2)
theorem aRun (k : LKs M0 p P nU hs hl h a R c0 s0 M c s u v) (ql : QL p hs hl h a R) (h7 : PL P ≤ 7) {l j : Nat} (hl' : l < PL P) (hj : j < 1000) {Q : Int32 → Mm → Nat → Nat → Prop} (kk : ∀ M', LKs M0 p P nU hs hl h a R c0 s0 M' (c + 1) (s + 6) (u + 1) (v + 6) → Gx xK (Mn M) M M' → Q (rnV (runs (Pw P) (Pr P l)) j) M' (c + 1) (s + 6)) : Rw (wcx 1 6 (fX7_run 0 (nI l) (nI j))) M c s Q :=
  kAsk k.1 xCo_Q (cRunOp k.1.1 k.1.2.1 k.1.2.2.1 (nI l) (nI j)) (runQ P hl' h7 hj) (fun M2 k2 g2 n2 => kk M2 (k.ask ql k2 g2 n2) g2)
theorem aMode (k : LKs M0 p P nU hs hl h a R c0 s0 M c s u v) (ql : QL p hs hl h a R) (h7 : PL P ≤ 7) {l j z : Nat} (hl' : l < PL P) (hj : j < 1000) (hz : z < 4) {Q : Int32 → Mm → Nat → Nat → Prop} (kk : ∀ M', LKs M0 p P nU hs hl h a R c0 s0 M' (c + 2) (s + 12) (u + 2) (v + 12) → Gx xK (Mn M) M M' → Q (mdV (cod (Pw P) (Pr P l) (Pu P l)) j (nI z)) M' (c + 2) (s + 12)) : Rw (wcx 2 12 (fX7_mode 0 (nI l) (nI j) (nI z))) M c s Q :=
  kAsk k.1 xCo_Q (cModeOp k.1.1 k.1.2.1 k.1.2.2.1 (nI l) (nI j) (nI z)) (modeQ P hl' h7 hj hz) (fun M2 k2 g2 n2 => kk M2 (k.ask ql k2 g2 n2) g2)
/-- what has been read back, beside the row -/
theorem lk454 {k65 : Nat → Nat → Int32 → Int32 → Mm → Option (Int32 × Mm × Nat × Nat)} {Q : Int32 → Mm → Nat → Nat → Prop} (k : LKs M0 p P nU hs hl h a R c0 s0 M c s u v) (ql : QL p hs hl h a R) (hP : okP P b) {l r : Nat} (hl' : l < PL P) (hb : isBr M r (Pw P) (Pr P l)) (kk : ∀ M' c' s', LKs M0 p P nU hs hl h a R c0 s0 M' c' s' (u + 2) (v + 12) → Rw (k65 0 p (nI (PL P)) (nI (l + 1))) M' c' s' Q) : Rw (gL_isLike_L454 k65 fu 0 p (nI (PL P)) (nI l) (some r) (nI 0)) M c s Q := by
  have h7 := hP.2.2.1
  have h27 := hP.2.1
  refine rw_loopv (F := fun n (j : Nat) => gL_isLike_L454 k65 n 0 p (nI (PL P)) (nI l) (some r) (nI j)) (fun j M' c' s' => j ≤ Pw P ∧ M' = M ∧ c' = c ∧ s' = s) (fun j => Pw P - j) ?_ fu 0 M c s (by unfold fu; omega) ⟨Nat.zero_le _, rfl, rfl, rfl⟩
  rintro n j M1 c1 s1 ⟨hj, rfl, rfl, rfl⟩ ih
  show Rw (gL_isLike_L454 k65 (n + 1) 0 p (nI (PL P)) (nI l) (some r) (nI j)) _ _ _ _
  unfold gL_isLike_L454
  rw [Rw_wb, Rn_gI, k.2.1.1.2.1]
  refine Rw_cs (d := Pw P ≤ j) (nle (by omega) (by omega)) (fun z => ?_) (fun z => ?_)
  · rw [Rw_wq]
    refine kAsk k.1 xCo_Q (cReadBelow k.1.1 k.1.2.1 k.1.2.2.1 (nI l) (pl l)) (rbQ k.1.2.2.1 hl' h7) (fun M2 k2 g2 n2 => ?_)
    refine Rw_yes rfl ?_
    rw [nL1, nI_add]
    exact kk M2 _ _ (k.ask ql k2 g2 n2)
  · obtain ⟨y, hy, byy⟩ := k.2.1.row hl'
    rw [Rw_wb, Rn_nn, Rw_wb, hb.lI (by omega) (by omega), Rw_wb, Rn_gA k.2.1.1.2.2.2.2, Rw_wq, lGet k.2.1.2.2.2.1.1 hy, Rw_wb, Rn_ckK byy.1 byy.2.1, Rw_wb, byy.lI (by omega) (by omega)]
    refine Rw_yes rfl ?_
    rw [nL1, nI_add]
    exact ih (j + 1) M1 c1 s1 ⟨by omega, rfl, rfl, rfl⟩ (by omega)
end LK
