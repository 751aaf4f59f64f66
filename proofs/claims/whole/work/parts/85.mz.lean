/-! THE REFERENCE: errors, words, numbers -/
def xEr (a b : Nat) : Bool := a == 38 && (b == 37 || b == 38)
def gd (M : Mm) : Prop := Mi M 38 37 = nI 0 ∧ Mi M 38 38 = -1
def erS (M : Mm) (e : Nat × Nat) : Prop := Mi M 38 37 = nI e.1 ∧ Mi M 38 38 = nI e.2 ∧ 1 ≤ e.1 ∧ e.1 ≤ 5
theorem gd.xf {X : Nat → Nat → Bool} {M M1 : Mm} (h : gd M) (f : XF X M M1) (z : X 38 37 = false) (z2 : X 38 38 = false) : gd M1 := ⟨by rw [f.mi z]; exact h.1, by rw [f.mi z2]; exact h.2⟩
theorem erS.xf {X : Nat → Nat → Bool} {M M1 : Mm} {e : Nat × Nat} (h : erS M e) (f : XF X M M1) (z : X 38 37 = false) (z2 : X 38 38 = false) : erS M1 e := ⟨by rw [f.mi z]; exact h.1, by rw [f.mi z2]; exact h.2.1, h.2.2⟩
theorem erS.n0 {M : Mm} {e : Nat × Nat} (h : erS M e) : ¬ Mi M 38 37 = 0 := by
  rw [h.1, nL0, neq (by have := h.2.2.2; omega) (by omega)]; have := h.2.2.1; omega
theorem erS.gt {M : Mm} {e : Nat × Nat} (h : erS M e) : 0 < Mi M 38 37 := by
  rw [h.1, nL0, nlt (by omega) (by have := h.2.2.2; omega)]; have := h.2.2.1; omega
theorem erS.le {M : Mm} {e : Nat × Nat} (h : erS M e) : ¬ Mi M 38 37 ≤ 0 := Int32.not_le.mpr h.gt
theorem wd_le (x : Tx) (p : Nat) : wd x p ≤ 9 := by unfold wd; repeat' split
                                                    all_goals omega
def wdI (w : Nat) : Int32 := if w = 9 then -1 else nI w
theorem mInW {w lo hi : Nat} (hw : w ≤ 9) (h8 : hi ≤ 8) {l h : Int32} (hl : l = nI lo) (hh : h = nI hi) (hlo : lo ≤ 100) {M : Mm} {Q : Int32 → Mm → Prop} : Rn (fX8_in (wdI w) l h) M Q ↔ Q (nI (bN (decide (lo ≤ w ∧ w ≤ hi)))) M := by
  unfold wdI
  by_cases g : w = 9
  · rw [if_pos g, decide_eq_false (by omega)]
    subst hl hh
    unfold fX8_in
    have : (-1 : Int32) < nI lo := by
      rw [Int32.lt_iff_toInt_lt, nI_tI (by omega), show (-1 : Int32).toInt = -1 from by decide]; omega
    rw [if_pos this, Rn_grd, Rn_rtn]
    exact ⟨fun z => z.2, fun z => ⟨by decide, z⟩⟩
  · rw [if_neg g]; exact mIn rfl hl hh (by omega) (by omega) (by omega)
section MWo
variable {M : Mm} {x : Tx} {p : Nat} {e : Nat × Nat}
theorem mMustT {b c : Int32} (h : ¬ b = 0) {Q : Unit → Mm → Prop} : Rn (fX8_must 38 b c) M Q ↔ Q () M := by
  unfold fX8_must; rw [if_neg h, Rn_rtn]
theorem mMustE (h : erS M e) {b c : Int32} {Q : Unit → Mm → Prop} : Rn (fX8_must 38 b c) M Q ↔ Q () M := by
  unfold fX8_must
  by_cases g : b = 0
  · rw [if_pos g, Rn_bnd, Rn_gI, if_neg h.n0, Rn_rtn]
  · rw [if_neg g, Rn_rtn]
theorem mMustF (g : gd M) {s c : Nat} (hs : Mi M 38 34 = nI s) (h1 : 1 ≤ c) (h5 : c ≤ 5) {Q : Unit → Mm → Prop} (k : ∀ M1, XF xEr M M1 → erS M1 (c, s) → Q () M1) : Rn (fX8_must 38 0 (nI c)) M Q := by
  unfold fX8_must
  have e1 : Mi (sI M 38 37 (nI c)) 38 34 = nI s := by rw [Mi_sI, if_neg (by omega)]; exact hs
  rw [if_pos rfl, Rn_bnd, Rn_gI, g.1, if_pos (by decide), Rn_bnd, Rn_pI, Rn_bnd, Rn_gI, e1, Rn_bnd, Rn_pI, Rn_rtn]
  exact k _ ((XF.rf.sI rfl).sI rfl) ⟨by rw [Mi_sI, if_neg (by omega), sI_self], sI_self, h1, h5⟩
theorem mGoE (h : erS M e) {Q : Unit → Mm → Prop} : Rn (fX8_goesOn 38) M Q ↔ Q () M := by
  unfold fX8_goesOn
  rw [Rn_bnd, Rn_gI, if_neg h.n0, Rn_rtn]
theorem mGo (hM : MO M) (hx : isTxM M x) (hk : mTk M x p) (g : gd M) {Q : Unit → Mm → Prop} (k : ∀ M1, XF xMt M M1 → MO M1 → isTxM M1 x → mTk M1 x (tkE x p) → gd M1 → Q () M1) : Rn (fX8_goesOn 38) M Q := by
  unfold fX8_goesOn
  rw [Rn_bnd, Rn_gI, g.1, if_pos (by decide), Rn_bnd]
  refine (mAdv hM hx (tkE_le hx.2.2.2 p) hk.1).mono ?_
  rintro - M1 ⟨x1, k1⟩
  rw [Rn_rtn]
  exact k M1 x1 (hM.xf x1) (hx.mt x1) k1 (g.xf x1 rfl rfl)
/-! words -/
def wOff (w : Nat) : Nat := [0, 5, 11, 17, 21, 26, 31, 33, 35, 37].getD w 0
def wB : List Nat := [108, 105, 110, 101, 32, 97, 108, 111, 110, 101, 32, 97, 98, 111, 118, 101, 32, 115, 101, 116, 32, 108, 111, 115, 115, 32, 119, 105, 100, 101, 32, 112, 32, 118, 32, 104, 32]
def isWd (M : Mm) : Prop := ∀ i, i < 37 → Mi M 59 i = nI (wB.getD i 0)
theorem isWd.xf {X : Nat → Nat → Bool} {M1 : Mm} (h : isWd M) (f : XF X M M1) (z : ∀ i, X 59 i = false) : isWd M1 := fun i hi => by rw [f.mi (z i)]; exact h i hi
theorem wB_ok : ∀ w, w < 9 → wOff w + (wds.getD w []).length + 1 = wOff (w + 1) ∧ wOff w + (wds.getD w []).length < 37 ∧ wB.getD (wOff w + (wds.getD w []).length) 0 = 32 ∧ ∀ j, j < (wds.getD w []).length → wB.getD (wOff w + j) 0 = (wds.getD w []).getD j 0 ∧ (wds.getD w []).getD j 0 ≠ 32 ∧ (wds.getD w []).getD j 0 < 128 := by decide +kernel
theorem mWordAt (hM : MO M) (hx : isTxM M x) (hk : mTk M x p) (hW : isWd M) (h1 : tkK x p = 1) {w : Nat} (hw : w < 9) {k4 : Nat → Int32 → Int32 → Mm → Option (Int32 × Mm)} {Q : Int32 → Mm → Prop} (kt : wdIs x p w = true → Q (nI w) M) (kf : wdIs x p w = false → Rn (k4 38 (nI (wOff (w + 1))) (nI (w + 1))) M Q) : Rn (fX8_wordHere_L23 k4 fu 38 (nI (wOff w)) (nI w) 0 1) M Q := by
  have h9 := hx.2.1
  have hb := hx.2.2.2
  have el := tkE_le hb p
  have eg := tkE_gt hb (p := p) (by omega)
  obtain ⟨o1, o2, o3, o4⟩ := wB_ok w hw
  have hl : ∀ w, w < 9 → (wds.getD w []).length < 10 := by decide
  have hl := hl w hw
  have hof : ∀ w, w < 9 → wOff w < 40 := by decide
  have hof := hof w hw
  generalize hLW : wds.getD w [] = L at o1 o2 o3 o4 hl
  have wis : wdIs x p w = true ↔ (tkE x p - tkS x p = L.length ∧ ∀ j, j < tkE x p - tkS x p → x.1 (tkS x p + j) = L.getD j 0) := by
    unfold wdIs
    rw [hLW, decide_eq_true h1, Bool.true_and, decide_eq_true_eq]
    exact sl_eq
  show Rn (fX8_wordHere_L23 k4 fu 38 (nI (wOff w)) (nI w) (nI 0) (nI (bN true))) M Q
  refine rn_loopv (F := fun n (s : Nat × Bool) => fX8_wordHere_L23 k4 n 38 (nI (wOff w)) (nI w) (nI s.1) (nI (bN s.2))) (fun s M' => M' = M ∧ s.1 ≤ L.length ∧ (s.2 = true ↔ ∀ i, i < s.1 → tkS x p + i < tkE x p ∧ x.1 (tkS x p + i) = L.getD i 0)) (fun s => L.length - s.1) ?_ fu (0, true) M (by show L.length - 0 < fu; unfold fu; omega) ⟨rfl, Nat.zero_le _, fun _ i hi => absurd hi (Nat.not_lt_zero _), fun _ => rfl⟩
  rintro n ⟨j, b⟩ M1 ⟨rfl, hj, hI⟩ ih
  have hj : j ≤ L.length := hj
  have hI : b = true ↔ ∀ i, i < j → tkS x p + i < tkE x p ∧ x.1 (tkS x p + i) = L.getD i 0 := hI
  show Rn (fX8_wordHere_L23 k4 (n + 1) 38 (nI (wOff w)) (nI w) (nI j) (nI (bN b))) M1 Q
  have no : ¬ (wdIs x p w = true) → Rn (fX8_wordHere_L109 k4 38 (nI (wOff w)) (nI w) (nI j)) M1 Q → Rn (fX8_wordHere_L109 k4 38 (nI (wOff w)) (nI w) (nI j)) M1 Q := fun _ h => h
  unfold fX8_wordHere_L23
  rw [Rn_bnd, mA39 hM, nI_add, Rn_bnd, rn_lI (by omega), mL59 hM]
  refine ⟨by omega, ?_⟩
  rw [hW _ (by omega)]
  by_cases hjl : j = L.length
  · rw [hjl, o3, if_pos (by decide)]
    have go : wdIs x p w = false → Rn (fX8_wordHere_L109 k4 38 (nI (wOff w)) (nI w) (nI L.length)) M1 Q := by
      intro z
      unfold fX8_wordHere_L109
      rw [Rn_bnd, Rn_rtn, nL1, nI_add, nI_add, nI_add, show wOff w + (L.length + 1) = wOff (w + 1) by omega]
      exact kf z
    refine Rn_cs (bN_0 b) (fun q => ?_) (fun q => ?_)
    · refine go ?_
      cases hwd : wdIs x p w with
      | false => rfl
      | true =>
        have hwd := wis.mp hwd
        have : b = true := hI.mpr (fun i hi => ⟨by omega, hwd.2 i (by omega)⟩)
        rw [this] at q; cases q
    · have q : b = true := by simpa using q
      rw [Rn_bnd, Rn_gI, hk.1, Rn_bnd, Rn_gI, hk.2.1, nsb (by omega)]
      refine Rn_cs (neq (by omega) (by omega)) (fun g => ?_) (fun g => ?_)
      · rw [Rn_rtn]
        exact kt (wis.mpr ⟨g, fun i hi => ((hI.mp q) i (by omega)).2⟩)
      · refine go ?_
        cases hwd : wdIs x p w with
        | false => rfl
        | true => exact absurd (wis.mp hwd).1 g
  · obtain ⟨q1, q2, q3⟩ := o4 j (by omega)
    have nx : ∀ b' : Bool, (b' = true ↔ ∀ i, i < j + 1 → tkS x p + i < tkE x p ∧ x.1 (tkS x p + i) = L.getD i 0) → Rn (fX8_wordHere_L81 (fX8_wordHere_L23 k4 n) 38 (nI (wOff w)) (nI w) (nI j) (nI (bN b'))) M1 Q := by
      intro b' hb'
      unfold fX8_wordHere_L81
      rw [nL1, nI_add]
      exact ih (j + 1, b') M1 ⟨rfl, (by show j + 1 ≤ L.length; omega), hb'⟩ (by show L.length - (j + 1) < L.length - j; omega)
    have nf : ¬ (∀ i, i < j + 1 → tkS x p + i < tkE x p ∧ x.1 (tkS x p + i) = L.getD i 0) → Rn (fX8_wordHere_L80 (fX8_wordHere_L23 k4 n) 38 (nI (wOff w)) (nI w) (nI j)) M1 Q := by
      intro z
      exact nx false ⟨(fun y => by cases y), (fun y => absurd y z)⟩
    rw [q1]
    refine Rn_cs (show nI (L.getD j 0) = 32 ↔ L.getD j 0 = 32 from neq (b := 32) (by omega) (by omega)) (fun z => absurd z q2) (fun _ => ?_)
    refine Rn_cs (bN_0 b) (fun q => ?_) (fun q => ?_)
    · refine nf (fun z => ?_)
      have : b = true := hI.mpr (fun i hi => z i (by omega))
      rw [this] at q; cases q
    · have q : b = true := by simpa using q
      rw [Rn_bnd, Rn_gI, hk.2.1, Rn_bnd, Rn_gI, hk.1, nI_add]
      refine Rn_cs (nle (by omega) (by omega)) (fun g => ?_) (fun g => ?_)
      · refine nf (fun z => ?_)
        have := (z j (by omega)).1; omega
      · have hlt : tkS x p + j < x.2 := by omega
        rw [Rn_bnd, mA31 hM, Rn_bnd, Rn_gI, hk.2.1, Rn_bnd, nI_add, rn_lI (by omega), mL58 hM]
        refine ⟨by omega, ?_⟩
        rw [Rn_bnd, mA39 hM, Rn_bnd, rn_lI (by omega), mL59 hM]
        refine ⟨by omega, ?_⟩
        rw [hW _ (by omega), q1, hx.2.2.1 _ hlt]
        refine Rn_cs (sb_eq (hb _ hlt) q3) (fun y => ?_) (fun y => ?_)
        · refine nx true ⟨fun _ i hi => ?_, fun _ => rfl⟩
          by_cases z : i = j
          · rw [z]; exact ⟨by omega, y⟩
          · exact hI.mp q i (by omega)
        · exact nf (fun z => y (z j (by omega)).2)
theorem mWord (hM : MO M) (hx : isTxM M x) (hk : mTk M x p) (hW : isWd M) {Q : Int32 → Mm → Prop} : Rn (fX8_wordHere 38) M Q ↔ Q (wdI (wd x p)) M := by
  refine Rn_det ?_
  have k6 : tkK x p ≤ 6 := srt_le _
  have s6 := srM_le k6
  have s1 : srM (tkK x p) = 1 ↔ tkK x p = 1 := by unfold srM; repeat' split
                                                  all_goals omega
  unfold fX8_wordHere
  show Rn (fX8_wordHere_L4 fu 38 (nI (wOff 0)) (nI 0)) M _
  refine rn_loopv (F := fun n w => fX8_wordHere_L4 n 38 (nI (wOff w)) (nI w)) (fun w M' => M' = M ∧ w ≤ 9 ∧ ∀ v, v < w → wdIs x p v = false) (fun w => 9 - w) ?_ fu 0 M (by unfold fu; omega) ⟨rfl, Nat.zero_le _, fun v hv => absurd hv (Nat.not_lt_zero _)⟩
  rintro n w M1 ⟨rfl, hw, hall⟩ ih
  show Rn (fX8_wordHere_L4 (n + 1) 38 (nI (wOff w)) (nI w)) M1 _
  unfold fX8_wordHere_L4
  rw [Rn_bnd, Rn_gI, hk.2.2.1]
  refine Rn_cs ((show nI (srM (tkK x p)) = 1 ↔ srM (tkK x p) = 1 from neq (b := 1) (by omega) (by omega)).trans s1) (fun g => ?_) (fun g => ?_)
  · refine Rn_cs (show (9 : Int32) ≤ nI w ↔ 9 ≤ w from nle (a := 9) (by omega) (by omega)) (fun q => ?_) (fun q => ?_)
    · rw [Rn_rtn]
      have : wd x p = 9 := by unfold wd; simp [hall 0 (by omega), hall 1 (by omega), hall 2 (by omega), hall 3 (by omega), hall 4 (by omega), hall 5 (by omega), hall 6 (by omega), hall 7 (by omega), hall 8 (by omega)]
      rw [this]; exact ⟨rfl, rfl⟩
    · refine mWordAt hM hx hk hW g (by omega) (fun z => ?_) (fun z => ?_)
      · rw [(wd_w (by omega)).mpr z]
        exact ⟨by unfold wdI; rw [if_neg (by omega)], rfl⟩
      · exact ih (w + 1) M1 ⟨rfl, by omega, fun v hv => by
          by_cases y : v = w
          · rw [y]; exact z
          · exact hall v (by omega)⟩ (by omega)
  · rw [Rn_rtn]
    have : wd x p = 9 := by
      rcases Nat.eq_or_lt_of_le (wd_le x p) with z | z
      · exact z
      · exact absurd (wd_k (by omega)) g
    rw [this]; exact ⟨rfl, rfl⟩
/-! numbers -/
theorem tk_inM (hx : isTxM M x) {p i : Nat} (hk : tkK x p = 1 ∨ tkK x p = 2 ∨ tkK x p = 3) (h1 : tkS x p ≤ i) (h2 : i < tkE x p) : srt (x.1 i) = tkK x p := by
  have e : tkE x p = fb (fun j => srt (x.1 j) != tkK x p) x.2 (tkS x p) := by unfold tkE; rw [if_neg (by omega), if_pos (by omega)]
  rw [e] at h2
  have := fb_no (p := fun j => srt (x.1 j) != tkK x p) h1 h2
  simpa using this
theorem nuM_ok (hx : isTxM M x) (h2 : tkK x p = 2) : (nuM x p = dcv x p ∨ (10000 < nuM x p ∧ 10000 < dcv x p)) ∧ nuM x p ≤ 100100 :=
  dvM_n x (tkS x p) (tkE x p - tkS x p) (fun i hi => (tk_inM hx (Or.inr (Or.inl h2)) (by omega) (by omega)).trans h2)
theorem mLooksE (h : erS M e) {lo hi : Int32} {Q : Int32 → Mm → Prop} : Rn (fX8_looks 38 lo hi) M Q ↔ Q lo M := by
  refine Rn_det ?_
  have l43 : ∀ b, Rn (fX8_looks_L43 38 lo b 38) M (fun a M' => a = lo ∧ M' = M) := by
    intro b
    unfold fX8_looks_L43
    rw [Rn_bnd, mMustE h, Rn_bnd, Rn_gI, if_neg h.le, Rn_rtn]; exact ⟨rfl, rfl⟩
  have l14 : ∀ b, Rn (fX8_looks_L14 38 lo hi b 38) M (fun a M' => a = lo ∧ M' = M) := by
    intro b
    unfold fX8_looks_L14 fX8_looks_L38
    rw [Rn_bnd, mMustE h, Rn_bnd, Rn_gI, if_pos h.gt]; exact l43 1
  unfold fX8_looks
  rw [Rn_bnd, Rn_gI]
  exact Rn_cs Iff.rfl (fun _ => l14 1) (fun _ => l14 0)
theorem mReadsE (h : erS M e) {lo hi : Int32} {Q : Int32 → Mm → Prop} : Rn (fX8_reads 38 lo hi) M Q ↔ Q lo M := by
  refine Rn_det ?_
  unfold fX8_reads
  rw [Rn_bnd, mLooksE h, Rn_bnd, mGoE h, Rn_rtn]; exact ⟨rfl, rfl⟩
theorem mLooks (hx : isTxM M x) (hk : mTk M x p) (g : gd M) {lo hi : Nat} (hlo : lo < 10000) (hhi : hi < 10000) {Q : Int32 → Mm → Prop} (kI : ∀ e, pNum x p lo hi = .inl e → ∀ M1, XF xEr M M1 → erS M1 e → Q (nI lo) M1) (kR : tkK x p = 2 → lo ≤ dcv x p → dcv x p ≤ hi → Q (nI (dcv x p)) M) : Rn (fX8_looks 38 (nI lo) (nI hi)) M Q := by
  have k6 : tkK x p ≤ 6 := srt_le _
  have s6 := srM_le k6
  have s2 : srM (tkK x p) = 2 ↔ tkK x p = 2 := by unfold srM; repeat' split
                                                  all_goals omega
  unfold fX8_looks
  rw [Rn_bnd, Rn_gI, hk.2.2.1]
  refine Rn_cs ((show nI (srM (tkK x p)) = 2 ↔ srM (tkK x p) = 2 from neq (b := 2) (by omega) (by omega)).trans s2) (fun h2 => ?_) (fun h2 => ?_)
  · obtain ⟨n1, n2⟩ := nuM_ok hx h2
    have iff : (lo ≤ nuM x p ∧ nuM x p ≤ hi) ↔ (lo ≤ dcv x p ∧ dcv x p ≤ hi) := by omega
    unfold fX8_looks_L14
    rw [Rn_bnd, mMustT (by decide), Rn_bnd, Rn_gI, g.1, if_neg (by decide), Rn_bnd, Rn_gI, hk.2.2.2 h2, Rn_bnd, mIn rfl rfl rfl (by omega) (by omega) (by omega)]
    refine Rn_cs (bN_0 _) (fun q => ?_) (fun q => ?_)
    · have q : ¬ (lo ≤ dcv x p ∧ dcv x p ≤ hi) := by rw [← iff]; simpa using q
      unfold fX8_looks_L43
      rw [Rn_bnd]
      refine mMustF (c := 2) g hk.2.1 (by omega) (by omega) (fun M1 x1 e1 => ?_)
      rw [Rn_bnd, Rn_gI, if_neg e1.le, Rn_rtn]
      exact kI _ (by unfold pNum; rw [if_pos h2, if_neg q]) M1 x1 e1
    · have q : lo ≤ dcv x p ∧ dcv x p ≤ hi := by rw [← iff]; simpa using q
      unfold fX8_looks_L38 fX8_looks_L43
      rw [Rn_bnd, mMustT (by decide), Rn_bnd, Rn_gI, g.1, if_pos (by decide), Rn_bnd, Rn_gI, hk.2.2.2 h2, Rn_rtn, show nuM x p = dcv x p by omega]
      exact kR h2 q.1 q.2
  · unfold fX8_looks_L14
    rw [Rn_bnd]
    refine mMustF (c := 1) g hk.2.1 (by omega) (by omega) (fun M1 x1 e1 => ?_)
    unfold fX8_looks_L38 fX8_looks_L43
    rw [Rn_bnd, Rn_gI, if_pos e1.gt, Rn_bnd, mMustE e1, Rn_bnd, Rn_gI, if_neg e1.le, Rn_rtn]
    exact kI _ (by unfold pNum; rw [if_neg h2]) M1 x1 e1
theorem mReadsN (hM : MO M) (hx : isTxM M x) (hk : mTk M x p) (g : gd M) {lo hi : Nat} (hlo : lo < 10000) (hhi : hi < 10000) {Q : Int32 → Mm → Prop} (kI : ∀ e, pNum x p lo hi = .inl e → ∀ M1, XF xEr M M1 → erS M1 e → Q (nI lo) M1) (kR : tkK x p = 2 → lo ≤ dcv x p → dcv x p ≤ hi → ∀ M1, XF xMt M M1 → MO M1 → isTxM M1 x → mTk M1 x (tkE x p) → gd M1 → Q (nI (dcv x p)) M1) : Rn (fX8_reads 38 (nI lo) (nI hi)) M Q := by
  unfold fX8_reads
  rw [Rn_bnd]
  refine mLooks hx hk g hlo hhi (fun e he M1 x1 e1 => ?_) (fun h2 h3 h4 => ?_)
  · rw [Rn_bnd, mGoE e1, Rn_rtn]; exact kI e he M1 x1 e1
  · rw [Rn_bnd]
    refine mGo hM hx hk g (fun M1 x1 m1 t1 k1 g1 => ?_)
    rw [Rn_rtn]; exact kR h2 h3 h4 M1 x1 m1 t1 k1 g1
end MWo
