/-! THE CLASS AND THE LAW'S PAGE ARE SENT ALIKE: the whole question -/
def xP (p q : Nat) : Bool := xK q || q == p
theorem xP_K {p q : Nat} (h : xP p q = false) : xK q = false := by unfold xP at h; simp at h; exact h.1
theorem xP_n {p q : Nat} (h : xP p q = false) : q ≠ p := by unfold xP at h; simp at h; exact h.2
theorem xP_f {p q : Nat} (h : 38 ≤ q) (n : q ≠ p) : xP p q = false := by unfold xP; rw [xK_f h]; simp [n]
theorem sm_zO (n : Nat) : sm (zT zO) n = 0 := by
  induction n with
  | zero => rfl
  | succ n ih => rw [sm_s, ih]; rfl
theorem zT_all (P : Pg) (lo : Nat → Nat) : sm (zT (sndA P lo)) (PL P) = zD (sndA P lo) := zT_sum lo 1000 zO 0 (Nat.zero_le _) (sm_zO _)
section KS
variable {p : Nat} {P : Pg} {b : Nat → Nat} {hs hl h a : Nat} {R : List Nat} {tu tv : Nat} {nU : Hq}
theorem lTimes {M : Mm} {c s N ag x : Nat} {G : List Nat} (ql : QL p hs hl h a R) (hP : okP P b) (kb : BS M p P nU hs hl h a R N ag x G c) : Rw (gL_isSent_L28 fu 0 p (nI (PL P)) (nI 0) (x + 1) (nI (PL P)) (nI 0)) M c s (fun v M' c' s' => v = 1 ∧ BS M' p P nU hs hl h a R N ag x G c' ∧ Gx xK (Mn M) M M' ∧ Mn M' = Mn M ∧ c' = c + 10 + (10 + Pw P) * PL P ∧ s' = s + 60 + (60 + 6 * Pw P) * PL P) := by
  have h7 := hP.2.2.1
  have h27 := hP.2.1
  refine rw_loopv (F := fun n (k : Nat) => gL_isSent_L28 n 0 p (nI (PL P)) (nI (sm (zT (sndA P (Ps P))) k)) (x + 1) (nI (PL P)) (nI k)) (fun k M' c' s' => k ≤ PL P ∧ M' = M ∧ c' = c ∧ s' = s) (fun k => PL P - k) ?_ fu 0 M c s (by unfold fu; omega) ⟨Nat.zero_le _, rfl, rfl, rfl⟩
  rintro n k M1 c1 s1 ⟨hk, rfl, rfl, rfl⟩ ih
  show Rw (gL_isSent_L28 (n + 1) 0 p (nI (PL P)) (nI (sm (zT (sndA P (Ps P))) k)) (x + 1) (nI (PL P)) (nI k)) _ _ _ _
  unfold gL_isSent_L28
  refine Rw_cs (d := PL P ≤ k) (nle (by omega) (by omega)) (fun z => ?_) (fun z => ?_)
  · have : k = PL P := by omega
    subst this
    rw [Rw_wq]
    refine lAskS (k := 0) ql (by omega) kb (fun M2 k2 g2 n2 => ?_)
    rw [Rw_wb, Rn_gI, k2.2.2.1.2.2.2.2.1.1]
    refine Rw_yes rfl ?_
    rw [Rw_wq]
    refine lAskS (k := 1) ql (by omega) k2 (fun M3 k3 g3 n3 => ?_)
    rw [zT_all]
    refine Rw_yes rfl ?_
    rw [Rw_wq]
    refine lAskS (k := 2) ql (by omega) k3 (fun M4 k4 g4 n4 => ?_)
    rw [Rw_wb, Rn_gI, k4.2.2.1.2.2.2.2.1.2.1]
    refine Rw_yes rfl ?_
    rw [Rw_wq]
    refine lAskS (k := 7) ql (by omega) k4 (fun M5 k5 g5 n5 => ?_)
    rw [Rw_wq, lAllWrong k5.2.1 k5.2.2.1.1 (by omega) (by omega)]
    refine Rw_yes rfl ?_
    rw [Rw_wq]
    refine lAskS (k := 8) ql (by omega) k5 (fun M6 k6 g6 n6 => ?_)
    rw [Rw_wb, Rn_gI, k6.2.2.1.2.2.2.2.1.2.2.1]
    refine Rw_yes rfl ?_
    rw [Rw_wq]
    refine lAskS (k := 9) ql (by omega) k6 (fun M7 k7 g7 n7 => ?_)
    rw [Rw_wb, Rn_gI, k7.2.2.1.2.2.2.2.1.2.2.2]
    refine Rw_yes rfl ?_
    refine (lFour ql hP k7).mono ?_
    rintro v M8 c8 s8 ⟨e1, k8, g8, n8, e2, e3⟩
    have cc : ∀ {A B : Mm}, Gx xK (Mn A) A B → Mn A = Mn M1 → Gx xK (Mn M1) A B := fun g e => g.mono (by omega) (fun _ _ z => z)
    exact ⟨e1, k8, (((((g2.tr (cc g3 n2)).tr (cc g4 (by omega))).tr (cc g5 (by omega))).tr (cc g6 (by omega))).tr (cc g7 (by omega))).tr (cc g8 (by omega)), by omega, by omega, by omega⟩
  · have d := (kb.2.2.1.2.2.2.1 k (by omega)).2.1
    rw [Rw_wb, lI_x (f := zT (sndA P (Ps P))) kb.2.2.1.2.2.1.2.2.1 (show k < PL P by omega) (by omega) d, Rw_wb, Rn_rtn, nI_add, nL1, nI_add]
    exact ih (k + 1) M1 c1 s1 ⟨by omega, rfl, rfl, rfl⟩ (by omega)
theorem lIsSent {M : Mm} {c s : Nat} (kq : KQ M P nU) (L : QP M p P (Ps P) hs hl h a R) (ql : QL p hs hl h a R) (hP : okP P b) (hp : Pl M c) (hc : c ≤ 840000000) : Rw (gL_isSent 0 p) M c s (fun v M' c' s' => v = 1 ∧ KQ M' P nU ∧ QP M' p P (Ps P) hs hl h a R ∧ Pl M' c' ∧ Gx (xP p) (Mn M) M M' ∧ Mn M' + c ≤ Mn M + c' ∧ c ≤ c' ∧ ∃ c1 s1, sOk P (Ps P) b (sndA P (Ps P)) (PL P) (c + 13) (s + 13 + 31 * PL P) tu tv c1 s1 ∧ c' = c1 + 10 + (10 + Pw P) * PL P ∧ s' = s1 + 60 + (60 + 6 * Pw P) * PL P) := by
  have h38 := kq.2.2.2.2
  have hpM := L.1.1
  unfold gL_isSent
  rw [Rw_wq]
  refine (lSend (tu := tu) (tv := tv) L hP (fun l hl => hP.1.2.2.2.2.1 l hl) hp (by omega)).mono ?_
  rintro - M1 c1 s1 ⟨ag, x, G, g1, q1, p1, n1, e1, ok1⟩
  have L1 := g1.qp L rfl
  have kq1 : KQ M1 P nU := kq.gx g1.1 h38 (fun q hq => x1_f (by have := ql.1; omega))
  have hm := g1.1.mn
  rw [Rw_wb, Rn_gA L1.1.2.2.2.2, Rw_wq, lSize L1.2.2.2.1.1, L1.2.2.2.1.2.1, Rw_wb, Rn_gA q1.2.1.2.1, Rw_wb, Rn_gN, q1.2.2.1.2.2.1]
  refine (lTimes ql hP ⟨kq1, L1, q1, p1⟩).mono ?_
  rintro v M2 c2 s2 ⟨e2, k2, g2, n2, e3, e4⟩
  refine ⟨e2, k2.1, k2.2.1, k2.2.2.2, (g1.1.mono (Nat.le_refl _) (fun q _ z => x1_f (xP_n z))).tr (g2.mono hm (fun q _ z => xP_K z)), ?_, ?_, c1, s1, ok1, e3, e4⟩
  · rw [n2, e3]
    have : 0 ≤ (10 + Pw P) * PL P := Nat.zero_le _
    omega
  · rw [e3]
    omega
end KS
