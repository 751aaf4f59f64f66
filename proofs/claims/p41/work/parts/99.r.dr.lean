/-! A DRAWN ROW -/
theorem br_up {M : Mm} {h w k : Nat} {f : Nat → Bool} {c : Bool} (b : isBr M h w (ofB f w)) : isBr (sI M h k (nI (bN c))) h w (ofB (upB f k c) w) := by
  obtain ⟨b1, b2, b3, b4⟩ := b
  refine ⟨b1, b2, b3, fun j hj => ?_⟩
  rw [Mi_sI, ofB_bit]
  unfold upB
  by_cases q : j = k
  · rw [if_pos ⟨rfl, q⟩, if_pos q]; simp [hj]
  · rw [if_neg (fun z => q z.2), if_neg q, b4 j hj, ofB_bit]
theorem ofB_cg {f g : Nat → Bool} : ∀ {w : Nat}, (∀ k, k < w → f k = g k) → ofB f w = ofB g w := by
  intro w h
  apply Nat.eq_of_testBit_eq
  intro i
  rw [ofB_bit, ofB_bit]
  by_cases z : i < w
  · rw [h i z]
  · simp [z]
theorem ofB_self {r w : Nat} (h : r < 2 ^ w) : ofB (fun k => r.testBit k) w = r := by
  apply Nat.eq_of_testBit_eq
  intro i
  rw [ofB_bit]
  by_cases z : i < w
  · simp [z]
  · have : r.testBit i = false := Nat.testBit_lt_two_pow (Nat.lt_of_lt_of_le h (Nat.pow_le_pow_right (by decide) (by omega)))
    rw [this]; simp
theorem br_new {M : Mm} {w : Nat} : isBr (nw M 13 w) (Mn M) w 0 := ⟨by show Mn M < Mn M + 1; omega, by rw [Mk_nw, if_pos rfl], by rw [Ml_nw, if_pos rfl], fun k _ => by rw [Mi_nw, if_pos rfl, Nat.zero_testBit]; rfl⟩
theorem ofB_0 (w : Nat) : ofB (fun _ => false) w = 0 := by
  apply Nat.eq_of_testBit_eq
  intro i
  rw [ofB_bit, Nat.zero_testBit]; simp
theorem by_1 : ∀ k, k < 28 → ∀ b, b < 5 → nI k - (nI b - 2) = nI (k + 4 - b) - nI 2 := by decide +kernel
theorem by_2 : ∀ m, m < 2 → (nI m - nI 2 < 0) := by decide
/-- what holds while a row is drawn -/
def DR (M0 : Mm) (t0 h w : Nat) (M : Mm) (c s c0 s0 d : Nat) (g : Nat → Bool) : Prop := Gx (x1 38) (Mn M0) M0 M ∧ (∃ t, isTo M t ∧ t ≤ t0 + d) ∧ isBr M h w (ofB g w) ∧ Mn M = Mn M0 + 1 ∧ c = c0 + 1 ∧ s = s0 + w
section DRW
variable {M0 : Mm} {t0 h w c0 s0 : Nat}
theorem DR.mono0 {M : Mm} {c s d d' : Nat} {g : Nat → Bool} (k : DR M0 t0 h w M c s c0 s0 d g) (hd : d ≤ d') : DR M0 t0 h w M c s c0 s0 d' g := by
  obtain ⟨g1, ⟨t, o, ht'⟩, k2⟩ := k
  exact ⟨g1, ⟨t, o, by omega⟩, k2⟩
theorem DR.nx {M : Mm} {c s d m : Nat} {g : Nat → Bool} (k : DR M0 t0 h w M c s c0 s0 d g) (h38 : 38 < Mn M0) (hh : h = Mn M0) (ht : t0 + d < 1000000) (hm : 0 < m) (hm2 : m < 1000000) {Q : Int32 → Mm → Nat → Nat → Prop} (kk : ∀ M' r, r < m → DR M0 t0 h w M' c s c0 s0 (d + 1) g → Q (nI r) M' c s) : Rw (gX10_next 38 (nI m)) M c s Q := by
  obtain ⟨g1, ⟨t, o, ht'⟩, b, n, e1, e2⟩ := k
  refine lNext o (by omega) hm hm2 (fun M' r hr gg nn oo => kk M' r hr ⟨g1.tr (gg.mono g1.mn (fun _ _ z => z)), ⟨t + 1, oo, by omega⟩, b.gx gg b.1 (x1_f (by omega)), by omega, e1, e2⟩)
theorem DR.up {M : Mm} {c s d k : Nat} {g : Nat → Bool} {cl : Bool} (r : DR M0 t0 h w M c s c0 s0 d g) (h38 : 38 < Mn M0) (hh : h = Mn M0) : DR M0 t0 h w (sI M h k (nI (bN cl))) c s c0 s0 d (upB g k cl) := by
  obtain ⟨g1, ⟨t, o, ht'⟩, b, n, e1, e2⟩ := r
  have o' : isTo (sI M h k (nI (bN cl))) t := by
    obtain ⟨o1, o2, o3, o4⟩ := o
    exact ⟨o1, o2, by rw [Mi_sI, if_neg (by omega)]; exact o3, o4⟩
  exact ⟨g1.sI (fun z => by omega), ⟨t, o', ht'⟩, br_up b, n, e1, e2⟩
/-- one span is painted -/
theorem dr102 {k70 : Nat → Nat → Int32 → Mm → Option (Nat × Mm × Nat × Nat)} {Q : Nat → Mm → Nat → Nat → Prop} {M : Mm} {c s d fr B : Nat} {g : Nat → Bool} {cl : Bool} {x4 : Int32} (k : DR M0 t0 h w M c s c0 s0 d g) (h38 : 38 < Mn M0) (hh : h = Mn M0) (hw : w ≤ 27) (ht : t0 + d < 900000) (hfr : fr < w) (hB : brn g w ≤ B) (kk : ∀ M' c' s' g', DR M0 t0 h w M' c' s' c0 s0 (d + 28) g' → brn g' w ≤ B + 1 → Rw (k70 38 h (x4 + (-1))) M' c' s' Q) : Rw (gL_drawnRow_L102 k70 fu 38 h x4 (nI fr) (nI (bN cl)) (nI fr)) M c s Q := by
  refine rw_loopv (F := fun n (e : Nat) => gL_drawnRow_L102 k70 n 38 h x4 (nI fr) (nI (bN cl)) (nI e)) (fun e M' c' s' => fr ≤ e ∧ e ≤ w ∧ ∃ g', DR M0 t0 h w M' c' s' c0 s0 (d + (e - fr)) g' ∧ ((e = fr ∧ brn g' w ≤ B) ∨ (fr < e ∧ brn g' w ≤ B + 1 ∧ g' (e - 1) = cl))) (fun e => w - e) ?_ fu fr M c s (by unfold fu; omega) ⟨Nat.le_refl _, by omega, g, k.mono0 (by omega), Or.inl ⟨rfl, hB⟩⟩
  rintro n e M1 c1 s1 ⟨he1, he2, g1, k1, hg1⟩ ih
  show Rw (gL_drawnRow_L102 k70 (n + 1) 38 h x4 (nI fr) (nI (bN cl)) (nI e)) _ _ _ _
  unfold gL_drawnRow_L102
  rw [Rw_wb, k1.2.2.1.gN, Rw_wq]
  refine k1.nx (m := 9) h38 hh (by omega) (by omega) (by omega) (fun M2 r hr k2 => ?_)
  rw [nL1, nI_add, nI_add, mm_nI (by omega) (by omega)]
  have hmin : (if fr + 1 + r < w then fr + 1 + r else w) ≤ w := by split <;> omega
  have hb1 : brn g1 w ≤ B + 1 := by
    rcases hg1 with ⟨-, h1⟩ | ⟨-, h1, -⟩ <;> omega
  refine Rw_cs (d := (if fr + 1 + r < w then fr + 1 + r else w) ≤ e) (nle (by omega) (by omega)) (fun z => ?_) (fun z => ?_)
  · exact kk M2 c1 s1 g1 (k2.mono0 (by omega)) hb1
  · have hew : e < w := by omega
    rw [Rw_wb, rn_aZ (by omega) (by cases cl <;> simp [bN])]
    refine ⟨by rw [k2.2.2.1.2.2.1]; exact hew, ?_⟩
    rw [nI_add]
    refine ih (e + 1) _ c1 s1 ⟨by omega, by omega, upB g1 e cl, (k2.up h38 hh).mono0 (by omega), Or.inr ⟨by omega, ?_, ?_⟩⟩ (by omega)
    · have hs := brn_set g1 e cl w
      rcases hg1 with ⟨h1, h2⟩ | ⟨h1, h2, h3⟩
      · have : (if 0 < e ∧ g1 (e - 1) = cl then 0 else 1) ≤ 1 := by split <;> omega
        omega
      · rw [if_pos ⟨by omega, h3⟩] at hs; omega
    · show (if e + 1 - 1 = e then cl else g1 (e + 1 - 1)) = cl
      rw [if_pos (by omega)]
theorem dr70 {M : Mm} {c s d m B : Nat} {g : Nat → Bool} (k : DR M0 t0 h w M c s c0 s0 d g) (h38 : 38 < Mn M0) (hh : h = Mn M0) (hw : w ≤ 27) (hw1 : 0 < w) (ht : t0 + d + 100 < 900000) (hm : m ≤ 3) (hB : brn g w + m ≤ B) : Rw (gL_drawnRow_L70 fu 38 h (pl m)) M c s (fun v M' c' s' => v = h ∧ ∃ g', DR M0 t0 h w M' c' s' c0 s0 (d + 30 * m) g' ∧ brn g' w ≤ B) := by
  refine rw_loopv (F := fun n (j : Nat) => gL_drawnRow_L70 n 38 h (pl j)) (fun j M' c' s' => j ≤ m ∧ ∃ g', DR M0 t0 h w M' c' s' c0 s0 (d + 30 * (m - j)) g' ∧ brn g' w + j ≤ B) (fun j => j) ?_ fu m M c s (by unfold fu; omega) ⟨Nat.le_refl _, g, k.mono0 (by omega), hB⟩
  rintro n j M1 c1 s1 ⟨hj, g1, k1, hg1⟩ ih
  show Rw (gL_drawnRow_L70 (n + 1) 38 h (pl j)) _ _ _ _
  unfold gL_drawnRow_L70
  refine Rw_cs (d := j = 0) ((pl_lt (q := j) (w := 0) (by omega) (by omega)).trans (by omega)) (fun z => ?_) (fun z => ?_)
  · subst z
    rw [Rw_wr]
    exact ⟨rfl, g1, k1, by omega⟩
  · obtain ⟨j, rfl⟩ : ∃ i, j = i + 1 := ⟨j - 1, by omega⟩
    rw [Rw_wb, k1.2.2.1.gN, Rw_wq]
    refine k1.nx h38 hh (by omega) hw1 (by omega) (fun M2 r hr k2 => ?_)
    rw [Rw_wq]
    refine k2.nx (m := 2) h38 hh (by omega) (by omega) (by omega) (fun M3 r3 hr3 k3 => ?_)
    have go : ∀ cl : Bool, Rw (gL_drawnRow_L96 (gL_drawnRow_L70 n) 38 h (pl (j + 1)) (nI r) (nI (bN cl))) M3 c1 s1 (fun v M' c' s' => v = h ∧ ∃ g', DR M0 t0 h w M' c' s' c0 s0 (d + 30 * m) g' ∧ brn g' w ≤ B) := by
      intro cl
      unfold gL_drawnRow_L96
      refine dr102 (B := B - (j + 1)) k3 h38 hh hw (by omega) hr (by omega) (fun M' c' s' g' k' hb' => ?_)
      rw [pl_s, pl_m1]
      exact ih j M' c' s' ⟨by omega, g', k'.mono0 (by omega), by omega⟩ (by omega)
    refine Rw_cs (d := r3 = 0) (neq (b := 0) (by omega) (by omega)) (fun y => ?_) (fun y => ?_)
    · exact go true
    · exact go false
/-- the whole row -/
theorem lDrawn {M : Mm} {t r ab c s : Nat} (o : isTo M t) (hb : isBr M ab w r) (hr : r < 2 ^ w) (hab : ab ≠ 38) (hw : w ≤ 27) (hw1 : 0 < w) (ht : t < 800000) (hp : Pl M c) (hc : c ≤ 850000000) : Rw (gL_drawnRow 38 ab) M c s (fun v M' c' s' => v = Mn M ∧ Gx (x1 38) (Mn M) M M' ∧ Mn M' = Mn M + 1 ∧ c' = c + 1 ∧ s' = s + w ∧ (∃ t', isTo M' t' ∧ t' ≤ t + 100) ∧ ∃ r', r' < 2 ^ w ∧ isBr M' (Mn M) w r' ∧ brn (fun j => r'.testBit j) w ≤ brn (fun j => r.testBit j) w + 3) := by
  have h38 := o.1
  have hpm := hp.1
  unfold gL_drawnRow
  rw [Rw_wb, hb.gN, Rw_wq, Rw_nA (by omega) (by omega)]
  have g1 : Gx (x1 38) (Mn M) M (nw M 13 w) := Gx.rf.nw (Nat.le_refl _) (by rw [SB_v]; omega)
  have g0 : Gx xO (Mn M) M (nw M 13 w) := Gx.rf.nw (Nat.le_refl _) (by rw [SB_v]; omega)
  have k1 : DR M t (Mn M) w (nw M 13 w) (c + 1) (s + w) c s 0 (fun _ => false) := ⟨g1, ⟨t, o.gx g0 h38 rfl, Nat.le_refl _⟩, by rw [ofB_0]; exact br_new, rfl, rfl, rfl⟩
  have hb1 : isBr (nw M 13 w) ab w r := hb.gx g0 hb.1 rfl
  generalize nw M 13 w = M1 at k1 hb1
  rw [Rw_wq]
  refine k1.nx (m := 5) h38 rfl (by omega) (by omega) (by omega) (fun M2 b hb5 k2 => ?_)
  rw [Rw_wb, Rn_rtn]
  have hf : ∀ k, w ≤ k → r.testBit k = false := fun k hk => Nat.testBit_lt_two_pow (Nat.lt_of_lt_of_le hr (Nat.pow_le_pow_right (by decide) hk))
  have key : ∀ (M' : Mm) (d : Nat) (g : Nat → Bool), DR M t (Mn M) w M' (c + 1) (s + w) c s d g → isBr M' ab w r := by
    intro M' d g k'
    exact hb.gx k'.1 hb.1 (x1_f hab)
  refine rw_loopv (F := fun n (k : Nat) => gL_drawnRow_L16 n 38 ab (Mn M) (nI b - 2) (nI k)) (fun k M' c' s' => k ≤ w ∧ c' = c + 1 ∧ s' = s + w ∧ DR M t (Mn M) w M' (c + 1) (s + w) c s 1 (fun j => decide (j < k) && shD (fun i => r.testBit i) b w j)) (fun k => w - k) ?_ fu 0 M2 (c + 1) (s + w) (by unfold fu; omega) ⟨Nat.zero_le _, rfl, rfl, by
    have e : (fun j => decide (j < 0) && shD (fun i => r.testBit i) b w j) = (fun _ => false) := by funext j; simp
    rw [e]; exact k2⟩
  rintro n k M3 c3 s3 ⟨hk, rfl, rfl, k3⟩ ih
  have b3 := key M3 _ _ k3
  show Rw (gL_drawnRow_L16 (n + 1) 38 ab (Mn M) (nI b - 2) (nI k)) _ _ _ _
  unfold gL_drawnRow_L16
  rw [Rw_wb, k3.2.2.1.gN]
  refine Rw_cs (d := w ≤ k) (nle (by omega) (by omega)) (fun z => ?_) (fun z => ?_)
  · have : k = w := by omega
    subst this
    rw [Rw_wq]
    refine k3.nx (m := 3) h38 rfl (by omega) (by omega) (by omega) (fun M4 m hm k4 => ?_)
    have e0 : brn (fun j => decide (j < k) && shD (fun i => r.testBit i) b k j) k = brn (shD (fun i => r.testBit i) b k) k := brn_cg (fun j hj => by simp [hj])
    have e1 := brn_shD (fun i => r.testBit i) (w := k) (b := b) (by omega) hf
    have ep : nI m = pl (m + 1) := (pl_s m).symm
    rw [ep]
    refine (dr70 (B := brn (fun j => r.testBit j) k + 3) k4 h38 rfl hw hw1 (by omega) (show m + 1 ≤ 3 by omega) (by omega)).mono ?_
    rintro v M5 c5 s5 ⟨rfl, g5, k5, hb5'⟩
    refine ⟨rfl, k5.1, k5.2.2.2.1, k5.2.2.2.2.1, k5.2.2.2.2.2, ?_, ofB g5 k, ofB_lt g5 k, k5.2.2.1, ?_⟩
    · obtain ⟨t', o', h'⟩ := k5.2.1
      exact ⟨t', o', by omega⟩
    · have : brn (fun j => (ofB g5 k).testBit j) k = brn g5 k := brn_cg (fun j hj => by rw [ofB_bit]; simp [hj])
      omega
  · have hkw : k < w := by omega
    rw [by_1 k (by omega) b (by omega)]
    have st : ∀ v : Bool, shD (fun i => r.testBit i) b w k = v → Rw (gL_drawnRow_L56 (gL_drawnRow_L16 n) 38 ab (Mn M) (nI b - 2) (nI k) (nI (bN v)) (nI k) (Mn M)) M3 (c + 1) (s + w) (fun v M' c' s' => v = Mn M ∧ Gx (x1 38) (Mn M) M M' ∧ Mn M' = Mn M + 1 ∧ c' = c + 1 ∧ s' = s + w ∧ (∃ t', isTo M' t' ∧ t' ≤ t + 100) ∧ ∃ r', r' < 2 ^ w ∧ isBr M' (Mn M) w r' ∧ brn (fun j => r'.testBit j) w ≤ brn (fun j => r.testBit j) w + 3) := by
      intro v hv
      unfold gL_drawnRow_L56
      rw [Rw_wb, rn_aZ (by omega) (by cases v <;> simp [bN])]
      refine ⟨by rw [k3.2.2.1.2.2.1]; exact hkw, ?_⟩
      rw [nL1, nI_add]
      refine ih (k + 1) _ _ _ ⟨by omega, rfl, rfl, ?_⟩ (by omega)
      have e : (fun j => decide (j < k + 1) && shD (fun i => r.testBit i) b w j) = upB (fun j => decide (j < k) && shD (fun i => r.testBit i) b w j) k v := by
        funext j
        unfold upB
        by_cases q : j = k
        · subst q; rw [if_pos rfl, hv]; simp
        · rw [if_neg q]
          have : decide (j < k + 1) = decide (j < k) := by
            by_cases y : j < k
            · simp [y]; omega
            · simp [y]; omega
          rw [this]
      rw [e]
      exact k3.up h38 rfl
    by_cases h2 : k + 4 - b < 2
    · have sv : shD (fun i => r.testBit i) b w k = false := by unfold shD; rw [decide_eq_false (by omega)]; rfl
      refine Rw_yes (by_2 _ h2) ?_
      exact st false sv
    · have em : nI (k + 4 - b) - nI 2 = nI (k + 4 - b - 2) := nsb (by omega)
      rw [em]
      refine Rw_no (nI_pos (by omega)) ?_
      rw [Rw_wb, k3.2.2.1.gN]
      refine Rw_cs (d := w ≤ k + 4 - b - 2) (nle (by omega) (by omega)) (fun y => ?_) (fun y => ?_)
      · have sv : shD (fun i => r.testBit i) b w k = false := by unfold shD; rw [decide_eq_false (show ¬ k + 4 - b < w + 2 by omega)]; simp
        exact st false sv
      · have sv : shD (fun i => r.testBit i) b w k = r.testBit (k + 4 - b - 2) := by unfold shD; rw [decide_eq_true (show 2 ≤ k + 4 - b by omega), decide_eq_true (show k + 4 - b < w + 2 by omega)]; simp
        rw [Rw_wb, b3.lI (by omega) (by omega)]
        refine Rw_cs (d := r.testBit (k + 4 - b - 2) = false) (bN_t _) (fun x => ?_) (fun x => ?_)
        · exact st false (sv.trans x)
        · exact st true (sv.trans (by cases q : r.testBit (k + 4 - b - 2) with | true => rfl | false => exact absurd q x))
end DRW
