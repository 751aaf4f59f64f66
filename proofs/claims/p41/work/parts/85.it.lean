/-! WALKS OVER LISTS, NUMBERS IN LISTS, ROWS OF DOTS -/
/-- what a call has made: kc cells and ks places at most -/
abbrev Cs (M : Mm) (c s : Nat) (M' : Mm) (c' s' kc ks : Nat) : Prop := Mn M' + c ≤ Mn M + c' ∧ c ≤ c' ∧ c' ≤ c + kc ∧ s' ≤ s + ks
def Pl (M : Mm) (c : Nat) : Prop := Mn M ≤ c ∧ Ml M EB = 0
theorem Pl.go {X : Nat → Bool} {n : Nat} {M M' : Mm} {c c' : Nat} (h : Pl M c) (x : Gx X n M M') (hc : Mn M' + c ≤ Mn M + c') : Pl M' c' := by
  obtain ⟨h1, h2⟩ := h
  refine ⟨by omega, ?_⟩
  rw [x.mc (by rw [SB_v, EB_v]; omega)]; exact h2
def isIt (M : Mm) (it h cur : Nat) : Prop := it < Mn M ∧ Mr M it 3 = some h ∧ Mi M it 0 = nI cur ∧ Mi M it 2 = Mi M h 0
theorem isIt.gx {X : Nat → Bool} {n : Nat} {M M1 : Mm} {it h cur : Nat} (i : isIt M it h cur) (x : Gx X n M M1) (h1 : it < n) (h2 : X it = false) (h3 : h < n) (h4 : X h = false) : isIt M1 it h cur := by
  obtain ⟨i1, i2, i3, i4⟩ := i
  exact ⟨Nat.lt_of_lt_of_le i1 x.mn, by rw [x.mr h1 h2]; exact i2, by rw [x.mi h1 h2]; exact i3, by rw [x.mi h1 h2, x.mi h3 h4]; exact i4⟩
theorem itNew {M : Mm} {h : Nat} (hh : h < Mn M) (hn : Mn M < 1000000000) {c s : Nat} : Rw (gJx4a65c_iterator_32c93 h) M c s (fun it M' c' s' => it = Mn M ∧ Mn M' = Mn M + 1 ∧ c' = c + 1 ∧ s' = s + 4 ∧ Gx xO (Mn M) M M' ∧ isIt M' it h 0) := by
  unfold gJx4a65c_iterator_32c93
  rw [Rw_wq, Rw_nO hn, Rw_wq]
  unfold gJx35411_init_45d68
  rw [Rw_wb, Rn_pA, Rw_wb, Rn_pI, Rw_wb, Rn_gA (r := h) (by rw [Mr_sI, sR_self]), Rw_wb, Rn_gI, Rw_wb, Rn_pI, Rw_wr, Rw_wr]
  refine ⟨rfl, rfl, rfl, rfl, ?_, ?_, ?_, ?_, ?_⟩
  · exact (((Gx.rf.nw (Nat.le_refl _) hn).sR (fun z => absurd z (Nat.lt_irrefl _))).sI (fun z => absurd z (Nat.lt_irrefl _))).sI (fun z => absurd z (Nat.lt_irrefl _))
  · show Mn M < Mn M + 1; omega
  · rw [Mr_sI, Mr_sI, sR_self]
  · rw [Mi_sI, if_neg (by omega), Mi_sI, if_neg (by omega), Mi_sR, Mi_nw, if_pos rfl]; rfl
  · rw [sI_self, Mi_sI (a := h), if_neg (by omega), Mi_sI (a := h), if_neg (by omega), Mi_sI (a := h), if_neg (by omega)]
theorem itMore {M : Mm} {it h a cur : Nat} {xs : List Nat} (i : isIt M it h cur) (l : isL M h a xs) (hc : cur < xs.length) {c s : Nat} {Q : Int32 → Mm → Nat → Nat → Prop} : Rw (gJx35411_hasNext_aae02 it) M c s Q ↔ Q 1 M c s := by
  have := l.len
  refine Rw_det ?_
  unfold gJx35411_hasNext_aae02
  rw [Rw_wb, Rn_gI, i.2.2.1, Rw_wb, Rn_gA i.2.1, Rw_wb, Rn_gI, l.2.2.1]
  refine Rw_no (fun z => ?_) ?_
  · rw [neq (by omega) (by omega)] at z; omega
  · rw [Rw_grd, Rw_wr]; exact ⟨by decide, rfl, rfl, rfl, rfl⟩
theorem itEnd {M : Mm} {it h a cur : Nat} {xs : List Nat} (i : isIt M it h cur) (l : isL M h a xs) (hc : cur = xs.length) {c s : Nat} {Q : Int32 → Mm → Nat → Nat → Prop} : Rw (gJx35411_hasNext_aae02 it) M c s Q ↔ Q 0 M c s := by
  refine Rw_det ?_
  unfold gJx35411_hasNext_aae02
  rw [Rw_wb, Rn_gI, i.2.2.1, Rw_wb, Rn_gA i.2.1, Rw_wb, Rn_gI, l.2.2.1, hc]
  refine Rw_yes rfl ?_
  rw [Rw_grd, Rw_wr]; exact ⟨by decide, rfl, rfl, rfl, rfl⟩
theorem itNext {M : Mm} {it h a cur r : Nat} {xs : List Nat} (i : isIt M it h cur) (l : isL M h a xs) (e : xs[cur]? = some r) (hne : it ≠ h) {c s : Nat} {Q : Nat → Mm → Nat → Nat → Prop} (k : ∀ M', Gx (x1 it) (Mn M) M M' → Mn M' = Mn M → isIt M' it h (cur + 1) → Q r M' c s) : Rw (gJx35411_next_0502b it) M c s Q := by
  obtain ⟨b0, b1, b2, b3, b4, b5, b6⟩ := l.at e
  have b7 : Ml M a < 1000 := by
    obtain ⟨-, -, -, -, ⟨q, -⟩ | ⟨-, -, -, q, -⟩⟩ := l
    · exact absurd q b0
    · rw [q]; unfold cpL; repeat' split
      all_goals omega
  have cm : ∀ {Q : Unit → Mm → Nat → Nat → Prop}, Rw (gJx35411_checkForComodification_da8c8 it) M c s Q ↔ Q () M c s := by
    intro Q
    refine Rw_det ?_
    unfold gJx35411_checkForComodification_da8c8
    rw [Rw_wb, Rn_gA i.2.1, Rw_wb, Rn_gI, Rw_wb, Rn_gI, i.2.2.2]
    refine Rw_yes rfl ?_
    rw [Rw_wr]; exact ⟨rfl, rfl, rfl, rfl⟩
  unfold gJx35411_next_0502b
  rw [Rw_wq, cm, Rw_wb, Rn_gI, i.2.2.1, Rw_wb, Rn_gA i.2.1, Rw_wb, Rn_gI, l.2.2.1]
  refine Rw_yes ((nlt (by omega) (by omega)).mpr b5) ?_
  rw [Rw_wb, Rn_gA i.2.1, Rw_wb, Rn_gA l.2.2.2.1, Rw_wb, Rn_gN]
  refine Rw_yes ((nlt (by omega) (by omega)).mpr b3) ?_
  rw [Rw_wb, Rn_pI, Rw_wb, Rn_pI, Rw_grd]
  refine ⟨by simp [b0], ?_⟩
  rw [Rw_wb, rn_lA (r := r) (by omega) (by rw [Ml_sI, Ml_sI]; exact b3) (by rw [Mr_sI, Mr_sI]; exact b4), Rw_wr]
  refine k _ ((Gx.rf.sI (fun _ => by simp [x1])).sI (fun _ => by simp [x1])) rfl ⟨i.1, i.2.1, ?_, ?_⟩
  · rw [Mi_sI, if_neg (by omega), sI_self, nL1, nI_add]
  · rw [Mi_sI, if_neg (by omega), Mi_sI, if_neg (by omega), Mi_sI, if_neg (by omega), Mi_sI, if_neg (fun z => hne z.1.symm)]; exact i.2.2.2
/-- small numbers in lists -/
def bx (n : Nat) : Nat := IB + (n + 128)
theorem bxv_bx {n : Nat} (h : n < 128) : bxv (bx n) = nI n := by
  have e : ∀ n, n < 128 → vb_c (n + 128) = nI n := by decide
  unfold bxv bx
  rw [Nat.add_sub_cancel_left]; exact e n h
theorem bVal {n : Nat} (h : n < 128) {M : Mm} {c s : Nat} {Q : Nat → Mm → Nat → Nat → Prop} : Rw (gJ6_valueOf_2dffe (nI n)) M c s Q ↔ Q (bx n) M c s := by
  refine Rw_det ?_
  unfold gJ6_valueOf_2dffe
  have e1 : ∀ n, n < 128 → ¬ nI n < (-128) ∧ ¬ 127 < nI n ∧ nI n + 128 = nI (n + 128) := by decide
  obtain ⟨e1, e2, e3⟩ := e1 n h
  refine Rw_no e1 (Rw_no e2 ?_)
  have e4 : tC (nI n + 128) M = some (bx n, M) := by
    unfold tC
    rw [e3, vpB_nI (by omega), nI_clamp (by omega), if_pos (by simp; omega)]; rfl
  rw [Rw_wb, Rn_fun e4, Rw_wr]; exact ⟨rfl, rfl, rfl, rfl⟩
theorem bCk {n : Nat} (h : n < 128) {M : Mm} {Q : Unit → Mm → Prop} : Rn (ckI (bx n)) M Q ↔ Q () M := Rn_ckI (by unfold bx; omega) (by unfold bx; omega)
theorem bInt {n : Nat} (h : n < 128) {M : Mm} {c s : Nat} {Q : Int32 → Mm → Nat → Nat → Prop} : Rw (gJ6_intValue_8abf5 (bx n)) M c s Q ↔ Q (nI n) M c s := by
  unfold gJ6_intValue_8abf5
  rw [Rw_wr, bxv_bx h]
/-- a row of dots -/
def isBr (M : Mm) (h w r : Nat) : Prop := h < Mn M ∧ Mk M h = 13 ∧ Ml M h = w ∧ ∀ k, k < w → Mi M h k = nI (bN (r.testBit k))
theorem isBr.gx {X : Nat → Bool} {n : Nat} {M M1 : Mm} {h w r : Nat} (b : isBr M h w r) (x : Gx X n M M1) (h1 : h < n) (h2 : X h = false) : isBr M1 h w r := by
  obtain ⟨b1, b2, b3, b4⟩ := b
  exact ⟨Nat.lt_of_lt_of_le b1 x.mn, by rw [x.mk b1]; exact b2, by rw [x.ml b1]; exact b3, by rw [x.mi h1 h2]; exact b4⟩
theorem isBr.lI {M : Mm} {h w r : Nat} (b : isBr M h w r) {k : Nat} (hk : k < w) (hw : w ≤ 40) {Q : Int32 → Mm → Prop} : Rn (lI h (nI k)) M Q ↔ Q (nI (bN (r.testBit k))) M := by
  rw [rn_lI (by omega), b.2.2.1, b.2.2.2 k hk]
  exact ⟨fun z => z.2, fun z => ⟨hk, z⟩⟩
theorem isBr.gN {M : Mm} {h w r : Nat} (b : isBr M h w r) {Q : Int32 → Mm → Prop} : Rn (gN h) M Q ↔ Q (nI w) M := by
  rw [Rn_gN, b.2.2.1]
theorem bN_eq (a b : Bool) : nI (bN a) = nI (bN b) ↔ a = b := by cases a <;> cases b <;> decide
theorem bN_not (b : Bool) : (nI (bN b) = 0 → nI (bN (!b)) = 1) ∧ (¬ nI (bN b) = 0 → nI (bN (!b)) = 0) := by cases b <;> decide
/-- the next dot of a colour -/
theorem lFind {M : Mm} {h w r q : Nat} {b : Bool} (hb : isBr M h w r) (hw : w ≤ 40) (hq : q ≤ 41) {c s : Nat} {Q : Int32 → Mm → Nat → Nat → Prop} : Rw (gL_find h (pl q) (nI (bN b))) M c s Q ↔ Q (nI (fb (fun k => r.testBit k == b) w q)) M c s := by
  refine Rw_det ?_
  unfold gL_find
  rw [Rw_wb, Rn_rtn, nL1, pl_1]
  refine rw_loopv (F := fun n k => gL_find_L4 n h (nI (bN b)) (nI k)) (fun k M' c s => M' = M ∧ c = 0 ∧ s = 0 ∧ k ≤ 41 ∧ fb (fun k => r.testBit k == b) w k = fb (fun k => r.testBit k == b) w q) (fun k => 42 - k) ?_ fu q M 0 0 (by unfold fu; omega) ⟨rfl, rfl, rfl, hq, rfl⟩
  rintro n k M1 c1 s1 ⟨rfl, rfl, rfl, hk, he⟩ ih
  show Rw (gL_find_L4 (n + 1) h (nI (bN b)) (nI k)) _ _ _ _
  unfold gL_find_L4
  rw [Rw_wb, hb.gN]
  refine Rw_cs (d := w ≤ k) (nle (by omega) (by omega)) (fun z => ?_) (fun z => ?_)
  · rw [Rw_wb, hb.gN, Rw_wr]
    refine ⟨?_, rfl, rfl, rfl⟩
    rw [← he, fb_ge_w z]
  · rw [Rw_wb, hb.lI (by omega) hw]
    refine Rw_cs (d := r.testBit k = b) (bN_eq _ _) (fun y => ?_) (fun y => ?_)
    · rw [Rw_wr]
      refine ⟨?_, rfl, rfl, rfl⟩
      rw [← he, fb_at (by omega) (by simp [y])]
    · rw [nL1, nI_add]
      refine ih (k + 1) _ _ _ ⟨rfl, rfl, rfl, by omega, ?_⟩ (by omega)
      exact (fb_next (p := fun k => r.testBit k == b) (by omega) (by simp [y])).symm.trans he
