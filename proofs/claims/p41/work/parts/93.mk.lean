/-! MARKS, BITS, WRONG DOTS -/
theorem Rw_re4 {β γ : Type} {G : Mm → Option (Nat × Mm × Nat × Nat)} {C : Nat → Mm → Option (Unit × Mm)} {A : Nat → Mm → Option (Nat × Mm × Nat × Nat)} {B' : Nat → Mm → Option (β × Mm × Nat × Nat)} {k : β → Mm → Option (γ × Mm × Nat × Nat)} {M : Mm} {c s : Nat} {Q : β → Mm → Nat → Nat → Prop} {Q' : γ → Mm → Nat → Nat → Prop} (h : Rw (wq G fun h5 => wb (C h5) fun _ => wq (A h5) fun h6 => B' h6) M c s Q) (hk : ∀ v M' c' s', Q v M' c' s' → Rw (k v) M' c' s' Q') : Rw (wq G fun h5 => wb (C h5) fun _ => wq (A h5) fun h6 => wq (B' h6) k) M c s Q' := by
  rw [Rw_wq] at h ⊢
  refine h.mono (fun x M1 c1 s1 h1 => ?_)
  rw [Rw_wb] at h1 ⊢
  refine Rn.mono h1 (fun y M2 h2 => ?_)
  rw [Rw_wq] at h2 ⊢
  refine h2.mono (fun z M3 c3 s3 h3 => ?_)
  rw [Rw_wq]
  exact h3.mono hk
section MK
variable {M : Mm} {p : Nat} {P : Pg} {lo b : Nat → Nat} {hs hl h a : Nat} {R : List Nat} {c s : Nat}
theorem QP.set (L : QP M p P lo hs hl h a R) {k : Nat} (hk : k < 6) {Q : Int32 → Mm → Prop} : Rn (lI hs (nI k)) M Q ↔ Q (nI (Pt P k)) M := by
  rw [rn_lI (by omega), L.2.1.2.1, L.2.1.2.2 k hk]
  exact ⟨fun z => z.2, fun z => ⟨hk, z⟩⟩
theorem QP.loss (L : QP M p P lo hs hl h a R) {l : Nat} (hk : l < 20) {Q : Int32 → Mm → Prop} : Rn (lI hl (nI l)) M Q ↔ Q (nI (lo l)) M := by
  rw [rn_lI (by omega), L.2.2.1.2.1, L.2.2.1.2.2 l hk]
  exact ⟨fun z => z.2, fun z => ⟨hk, z⟩⟩
theorem bN_t (v : Bool) : nI (bN v) = 0 ↔ v = false := by cases v <;> decide
theorem lIsMark (L : QP M p P lo hs hl h a R) (hP : okP P b) {l : Nat} (hl' : l < PL P) (hp : Pl M c) (hc : c ≤ 869000000) : Rw (gX9_isMark p (nI l)) M c s (fun v M' c' s' => v = nI (bN (isMk P l)) ∧ Gx xO (Mn M) M M' ∧ Cs M c s M' c' s' (uMk b (Pt P 0) l) (vMk b (Pt P 0) l) ∧ Pl M' c') := by
  have hP0 := hP
  obtain ⟨hw, h27, h7, hb⟩ := hP
  have t0 := hw.2.2.2.2.2.1
  have t1 := hw.2.2.2.2.2.2.1
  unfold gX9_isMark gX9_isMark_L49
  rw [Rw_wb, Rn_gA L.1.2.2.1, Rw_wb, show (0 : Int32) = nI 0 from rfl, L.set (by omega), Rw_grd]
  refine ⟨?_, ?_⟩
  · have : ¬ nI (Pt P 0) = nI 0 := by rw [neq (by omega) (by omega)]; omega
    simpa using this
  rw [pk_rem (by omega) (by omega) (by omega)]
  have hmod := Nat.mod_lt l (show Pt P 0 > 0 by omega)
  refine Rw_cs (d := l % Pt P 0 = 0) (neq (by omega) (by omega)) (fun z => ?_) (fun z => ?_)
  · rw [Rw_grd, Rw_wr]
    have e : isMk P l = true := by unfold isMk; simp [z]
    rw [e]
    exact ⟨by decide, rfl, Gx.rf, ⟨by omega, by omega, by omega, by omega⟩, hp⟩
  · have hl0 : l ≠ 0 := fun e => by rw [e, Nat.zero_mod] at z; exact z rfl
    rw [Rw_wb, Rn_gA L.1.2.2.1, Rw_wb, show (1 : Int32) = nI 1 from rfl, L.set (by omega)]
    refine Rw_cs (d := Pt P 1 = 1) (neq (by omega) (by omega)) (fun y => ?_) (fun y => ?_)
    · rw [Rw_wb, Rn_gA L.1.2.2.2.2]
      refine Rw_re4 (lAloneOf L hP0 hl' hp (by omega)) ?_
      rintro v M1 c1 s1 ⟨rfl, g1, ⟨e1, e2, e3, e4⟩, p1⟩
      have k3 := kAl_m (b l)
      refine Rw_re (lCodeBits (L.go g1) hP0 hl' p1 (by omega)) ?_
      rintro v M2 c2 s2 ⟨rfl, g2, ⟨f1, f2, f3, f4⟩, p2⟩
      have ab := aBt_le hw l
      have cb := cBt_le hw l
      have hcs : Cs M c s M2 c2 s2 (uMk b (Pt P 0) l) (vMk b (Pt P 0) l) := by
        unfold uMk vMk
        rw [if_neg z, if_neg z]
        exact ⟨by omega, by omega, by omega, by omega⟩
      have g12 := g1.tr (g2.mono g1.mn (fun _ _ z => z))
      refine Rw_cs (d := cBt P l ≤ aBt P l) (nle (by omega) (by omega)) (fun x => ?_) (fun x => ?_)
      · rw [Rw_grd, Rw_wr]
        have e : isMk P l = false := by unfold isMk; simp [z, y]; omega
        rw [e]
        exact ⟨by decide, rfl, g12, hcs, p2⟩
      · rw [Rw_grd, Rw_wr]
        have e : isMk P l = true := by unfold isMk; simp [z, y]; omega
        rw [e]
        exact ⟨by decide, rfl, g12, hcs, p2⟩
    · rw [Rw_grd, Rw_wr]
      have e : isMk P l = false := by unfold isMk; simp [z, y]
      rw [e]
      exact ⟨by decide, rfl, Gx.rf, ⟨by omega, by omega, by omega, by omega⟩, hp⟩
theorem uMk_m (b : Nat → Nat) (e l : Nat) : uMk b e l ≤ 243 := by
  unfold uMk uCo
  have := kAl_m (b l)
  have := kCd_m (m := 28) (Nat.le_refl _) (bu b l)
  repeat' split
  all_goals omega
theorem uBi_m (b : Nat → Nat) (e l : Nat) : uBi b e l ≤ 480 := by
  unfold uBi
  have := uMk_m b e l
  have := kAl_m (b l)
  have h3 : uCo b l ≤ 230 := by
    unfold uCo
    have := kCd_m (m := 28) (Nat.le_refl _) (bu b l)
    split <;> omega
  split <;> omega
theorem lBitsOfL (L : QP M p P lo hs hl h a R) (hP : okP P b) {l : Nat} (hl' : l < PL P) (hp : Pl M c) (hc : c ≤ 868000000) : Rw (gX9_bitsOf p (nI l)) M c s (fun v M' c' s' => v = nI (sBt P l) ∧ Gx xO (Mn M) M M' ∧ Cs M c s M' c' s' (uBi b (Pt P 0) l) (vBi b (Pt P 0) l) ∧ Pl M' c') := by
  unfold gX9_bitsOf
  rw [Rw_wq]
  refine (lIsMark L hP hl' hp (by omega)).mono ?_
  rintro v M1 c1 s1 ⟨rfl, g1, ⟨e1, e2, e3, e4⟩, p1⟩
  have um := uMk_m b (Pt P 0) l
  have L1 := L.go g1
  refine Rw_cs (d := isMk P l = false) (bN_t _) (fun z => ?_) (fun z => ?_)
  · refine Rw_re (lCodeBits L1 hP hl' p1 (by omega)) ?_
    rintro v M2 c2 s2 ⟨rfl, g2, ⟨f1, f2, f3, f4⟩, p2⟩
    rw [Rw_wr]
    have hl0 : ¬ l % Pt P 0 = 0 := fun e => by
      unfold isMk at z; simp [e] at z
    refine ⟨by unfold sBt; rw [z]; rfl, g1.tr (g2.mono g1.mn (fun _ _ z => z)), ⟨by omega, by omega, ?_, ?_⟩, p2⟩
    · unfold uBi; rw [if_neg hl0]; omega
    · unfold vBi; rw [if_neg hl0]; omega
  · rw [Rw_wb, Rn_gA L1.1.2.2.2.2]
    refine Rw_re4 (lAloneOf L1 hP hl' p1 (by omega)) ?_
    rintro v M2 c2 s2 ⟨rfl, g2, ⟨f1, f2, f3, f4⟩, p2⟩
    rw [Rw_wr]
    have z : isMk P l = true := by cases q : isMk P l with
      | true => rfl
      | false => exact absurd q z
    refine ⟨by unfold sBt; rw [z]; rfl, g1.tr (g2.mono g1.mn (fun _ _ z => z)), ⟨by omega, by omega, ?_, ?_⟩, p2⟩
    · unfold uBi; split <;> omega
    · unfold vBi; split <;> omega
/-- what has been got so far -/
def QG (M : Mm) (p w : Nat) (g : Nat → Nat) (n hg ag : Nat) (G : List Nat) : Prop := Mr M p 4 = some hg ∧ isL M hg ag G ∧ G.length = n ∧ ∀ (l x : Nat), G[l]? = some x → isBr M x w (g l)
theorem lWrong (L : QP M p P lo hs hl h a R) {g : Nat → Nat} {n hg ag : Nat} {G : List Nat} (hG : QG M p (Pw P) g n hg ag G) (hw : Pw P ≤ 40) {l : Nat} (hl' : l < PL P) (hl2 : l < n) {Q : Int32 → Mm → Nat → Nat → Prop} : Rw (gX9_wrong p (nI l)) M c s Q ↔ Q (nI (dif (Pw P) (g l) (Pr P l))) M c s := by
  refine Rw_det ?_
  obtain ⟨x, hx, bx⟩ := L.row hl'
  obtain ⟨y, hy⟩ := gt_some G (show l < G.length by rw [hG.2.2.1]; exact hl2)
  have byy := hG.2.2.2 l y hy
  unfold gX9_wrong
  refine rw_loopv (F := fun n (k : Nat) => gX9_wrong_L4 n p (nI l) (nI (cn (fun k => (g l).testBit k != (Pr P l).testBit k) k)) (nI k)) (fun k M' c' s' => k ≤ Pw P ∧ M' = M ∧ c' = 0 ∧ s' = 0) (fun k => Pw P - k) ?_ fu 0 M 0 0 (by unfold fu; omega) ⟨Nat.zero_le _, rfl, rfl, rfl⟩
  rintro n k M1 c1 s1 ⟨hk, rfl, rfl, rfl⟩ ih
  show Rw (gX9_wrong_L4 (n + 1) p (nI l) (nI (cn (fun k => (g l).testBit k != (Pr P l).testBit k) k)) (nI k)) _ _ _ _
  unfold gX9_wrong_L4
  rw [Rw_wb, Rn_gI, L.1.2.1]
  refine Rw_cs (d := Pw P ≤ k) (nle (by omega) (by omega)) (fun z => ?_) (fun z => ?_)
  · have : k = Pw P := by omega
    rw [Rw_wr, this]; exact ⟨rfl, rfl, rfl, rfl⟩
  · rw [Rw_wb, Rn_gA hG.1, Rw_wq, lGet hG.2.1 hy, Rw_wb, Rn_ckK byy.1 byy.2.1, Rw_wb, byy.lI (by omega) hw, Rw_wb, Rn_gA L.1.2.2.2.2, Rw_wq, lGet L.2.2.2.1.1 hx, Rw_wb, Rn_ckK bx.1 bx.2.1, Rw_wb, bx.lI (by omega) hw]
    unfold gX9_wrong_L47
    have go : ∀ v : Bool, ((g l).testBit k != (Pr P l).testBit k) = v → Rw (wb (rtn (nI (cn (fun k => (g l).testBit k != (Pr P l).testBit k) k) + nI (bN v))) fun v1 => gX9_wrong_L4 n p (nI l) v1 (nI k + 1)) M1 0 0 (fun a M' c s => a = nI (dif (Pw P) (g l) (Pr P l)) ∧ M' = M1 ∧ c = 0 ∧ s = 0) := by
      intro v hv
      rw [Rw_wb, Rn_rtn, nI_add, nL1, nI_add]
      have e : cn (fun k => (g l).testBit k != (Pr P l).testBit k) k + bN v = cn (fun k => (g l).testBit k != (Pr P l).testBit k) (k + 1) := by rw [cn_s, hv]
      rw [e]
      exact ih (k + 1) M1 0 0 ⟨by omega, rfl, rfl, rfl⟩ (by omega)
    refine Rw_cs (d := (g l).testBit k = (Pr P l).testBit k) (bN_eq _ _) (fun y => ?_) (fun y => ?_)
    · exact go false (by simp [y])
    · exact go true (by simp [y])
theorem lAllWrong (L : QP M p P lo hs hl h a R) {g : Nat → Nat} {hg ag : Nat} {G : List Nat} (hG : QG M p (Pw P) g (PL P) hg ag G) (hw : Pw P ≤ 40) (hn : PL P ≤ 20) {Q : Int32 → Mm → Nat → Nat → Prop} : Rw (gX9_allWrong p) M c s Q ↔ Q (nI (sm (fun l => dif (Pw P) (g l) (Pr P l)) (PL P))) M c s := by
  refine Rw_det ?_
  unfold gX9_allWrong
  refine rw_loopv (F := fun n (k : Nat) => gX9_allWrong_L4 n p (nI (sm (fun l => dif (Pw P) (g l) (Pr P l)) k)) (nI k)) (fun k M' c' s' => k ≤ PL P ∧ M' = M ∧ c' = 0 ∧ s' = 0) (fun k => PL P - k) ?_ fu 0 M 0 0 (by unfold fu; omega) ⟨Nat.zero_le _, rfl, rfl, rfl⟩
  rintro n k M1 c1 s1 ⟨hk, rfl, rfl, rfl⟩ ih
  show Rw (gX9_allWrong_L4 (n + 1) p (nI (sm (fun l => dif (Pw P) (g l) (Pr P l)) k)) (nI k)) _ _ _ _
  unfold gX9_allWrong_L4
  rw [Rw_wb, Rn_gA L.1.2.2.2.2, Rw_wq, lSize L.2.2.2.1.1, L.2.2.2.1.2.1]
  refine Rw_cs (d := PL P ≤ k) (nle (by omega) (by omega)) (fun z => ?_) (fun z => ?_)
  · have : k = PL P := by omega
    rw [Rw_wr, this]; exact ⟨rfl, rfl, rfl, rfl⟩
  · rw [Rw_wq, lWrong L hG hw (by omega) (by omega), Rw_wb, Rn_rtn, nI_add, nL1, nI_add, ← sm_s]
    exact ih (k + 1) M1 0 0 ⟨by omega, rfl, rfl, rfl⟩ (by omega)
theorem lCount {x5 n : Nat} {f : Nat → Nat} (h5 : Mr M p 5 = some x5) (hl5 : Ml M x5 = n) (hn : n ≤ 20) (hf : ∀ l, l < n → Mi M x5 l = nI (f l)) (hf3 : ∀ l, l < n → f l ≤ 3) {k : Nat} (hk : k ≤ 3) {Q : Int32 → Mm → Nat → Nat → Prop} : Rw (gX9_count p (nI k)) M c s Q ↔ Q (nI (sm (fun l => bN (decide (f l = k))) n)) M c s := by
  refine Rw_det ?_
  unfold gX9_count
  rw [Rw_wb, Rn_gA h5, Rw_wb, Rn_gN, hl5]
  refine rw_loopv (F := fun m (j : Nat) => gX9_count_L14 m (nI k) (nI (sm (fun l => bN (decide (f l = k))) j)) x5 (nI n) (nI j)) (fun j M' c' s' => j ≤ n ∧ M' = M ∧ c' = 0 ∧ s' = 0) (fun j => n - j) ?_ fu 0 M 0 0 (by unfold fu; omega) ⟨Nat.zero_le _, rfl, rfl, rfl⟩
  rintro m j M1 c1 s1 ⟨hj, rfl, rfl, rfl⟩ ih
  show Rw (gX9_count_L14 (m + 1) (nI k) (nI (sm (fun l => bN (decide (f l = k))) j)) x5 (nI n) (nI j)) _ _ _ _
  unfold gX9_count_L14
  refine Rw_cs (d := n ≤ j) (nle (by omega) (by omega)) (fun z => ?_) (fun z => ?_)
  · have : j = n := by omega
    rw [Rw_wr, this]; exact ⟨rfl, rfl, rfl, rfl⟩
  · rw [Rw_wb, rn_lI (by omega), hl5]
    refine ⟨by omega, ?_⟩
    rw [hf j (by omega)]
    have h3 := hf3 j (by omega)
    unfold gX9_count_L39
    have go : ∀ v : Bool, decide (f j = k) = v → Rw (wb (rtn (nI (sm (fun l => bN (decide (f l = k))) j) + nI (bN v))) fun v1 => gX9_count_L14 m (nI k) v1 x5 (nI n) (nI j + 1)) M1 0 0 (fun a M' c s => a = nI (sm (fun l => bN (decide (f l = k))) n) ∧ M' = M1 ∧ c = 0 ∧ s = 0) := by
      intro v hv
      rw [Rw_wb, Rn_rtn, nI_add, nL1, nI_add]
      have e : sm (fun l => bN (decide (f l = k))) j + bN v = sm (fun l => bN (decide (f l = k))) (j + 1) := by rw [sm_s, hv]
      rw [e]
      exact ih (j + 1) M1 0 0 ⟨by omega, rfl, rfl, rfl⟩ (by omega)
    refine Rw_cs (d := f j = k) (neq (by omega) (by omega)) (fun y => ?_) (fun y => ?_)
    · exact go true (by simp [y])
    · exact go false (by simp [y])
end MK
