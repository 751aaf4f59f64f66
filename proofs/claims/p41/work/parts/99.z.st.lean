/-! THE DRAWN PAGE AND ITS TEXT ARE MADE: settings, losses -/
def mostL (j : Nat) : Nat := [8, 2, 2, 5, 100, 100].getD j 0
def isM6 (M : Mm) (m sb : Nat) : Prop := sb < m ∧ m < Mn M ∧ Mk M m = 11 ∧ Ml M m = 6 ∧ ∀ j, j < 6 → Mi M m j = nI (mostL j)
theorem isM6.gx {M M1 : Mm} {m sb : Nat} (k : isM6 M m sb) {X : Nat → Bool} {n : Nat} (g : Gx X n M M1) (hn : m < n) (hX : X m = false) : isM6 M1 m sb := by
  obtain ⟨k1, k2, k3, k4, k5⟩ := k
  have hm := g.mn
  exact ⟨k1, by omega, by rw [g.mk k2]; exact k3, by rw [g.ml k2]; exact k4, fun j hj => by rw [g.mi hn hX]; exact k5 j hj⟩
theorem pSt_cg {P : Pg} {vs vs' : Nat → Nat} : ∀ {n : Nat}, (∀ l, l < n → vs l = vs' l) → pSt P vs n = pSt P vs' n := by
  intro n
  induction n with
  | zero => intro _; rfl
  | succ n ih =>
    intro h
    show pSet (pSt P vs n) n (vs n) = pSet (pSt P vs' n) n (vs' n)
    rw [ih (fun l hl => h l (by omega)), h n (by omega)]
theorem pLs_cg {P : Pg} {vs vs' : Nat → Nat} : ∀ {n : Nat}, (∀ l, l < n → vs l = vs' l) → pLs P vs n = pLs P vs' n := by
  intro n
  induction n with
  | zero => intro _; rfl
  | succ n ih =>
    intro h
    show pLose (pLs P vs n) n (vs n) = pLose (pLs P vs' n) n (vs' n)
    rw [ih (fun l hl => h l (by omega)), h n (by omega)]
theorem most_b : ∀ j, j < 6 → 0 < mostL j ∧ mostL j ≤ 100 ∧ (j = 0 → mostL j = 8) ∧ (j = 1 → mostL j = 2) ∧ (j = 2 → mostL j = 2) ∧ (j = 3 → mostL j = 5) := by decide
theorem los_v : ∀ r, r < 6 → mmax 0 (nI r - 2) = nI (r - 2) := by decide
section LQ
variable {M : Mm} {t p hs hl h a sb ab : Nat} {P : Pg} {R xs : List Nat} {c s : Nat} {Q : Int32 → Mm → Nat → Nat → Prop}
theorem isM6.gtx {M' : Mm} {m : Nat} (m6 : isM6 M m sb) (k : BL M t p hs hl h a sb ab P R xs c) (g : Gx (x2 sb ab) (Mn M) M M') : isM6 M' m sb := by
  obtain ⟨k1, k2, k3, k4, k5⟩ := id m6
  refine m6.gx g k2 (x2_f (by omega) (fun e => ?_))
  have h1 := k.bb.2.1
  rw [← e, k3] at h1; cases h1
theorem l181 {m6 : Nat} (k : BL M t p hs hl h a sb ab P R xs c) (hm6 : isM6 M m6 sb) (hxs : xs.length ≤ 250) (ht : t + 1000 < 800000) (hc : c ≤ 710000000) (kk : ∀ M' c' s' t' ab' vs, BL M' t' p hs hl h a sb ab' (pSt P vs 6) R (xs ++ foldT (fun i => tSet i (vs i)) 6) c' → (∀ j, j < 6 → stLo j ≤ vs j ∧ vs j ≤ stHi j) → vs 3 ≤ 4 → t' ≤ t + 6 → c ≤ c' → c' ≤ c + 30 → s' + 2 * Ml M ab ≤ s + 2 * Ml M' ab' → Rw (gL_law_L258 fu 38 0 p sb 0) M' c' s' Q) : Rw (gL_law_L181 fu 38 0 p sb m6 (nI 0)) M c s Q := by
  refine rw_loopv (F := fun m (i : Nat) => gL_law_L181 m 38 0 p sb m6 (nI i)) (fun i M' c' s' => i ≤ 6 ∧ ∃ t' ab' vs, BL M' t' p hs hl h a sb ab' (pSt P vs i) R (xs ++ foldT (fun i => tSet i (vs i)) i) c' ∧ isM6 M' m6 sb ∧ (∀ j, j < i → stLo j ≤ vs j ∧ vs j ≤ stHi j ∧ (j = 3 → vs j ≤ 4)) ∧ t' ≤ t + i ∧ c ≤ c' ∧ c' ≤ c + 5 * i ∧ s' + 2 * Ml M ab ≤ s + 2 * Ml M' ab') (fun i => 6 - i) ?_ fu 0 M c s (by unfold fu; omega) ⟨Nat.zero_le _, t, ab, fun _ => 0, by rw [show xs ++ foldT (fun i => tSet i 0) 0 = xs from List.append_nil xs]; exact k, hm6, fun l hl => absurd hl (Nat.not_lt_zero _), by omega, Nat.le_refl _, by omega, by omega⟩
  rintro m i M1 c1 s1 ⟨hi, t1, ab1, vs, k1, m1, hvs, ht1, f1, f2, f3⟩ ih
  show Rw (gL_law_L181 (m + 1) 38 0 p sb m6 (nI i)) _ _ _ _
  unfold gL_law_L181
  refine Rw_cs (d := 6 ≤ i) (nle (a := 6) (by omega) (by omega)) (fun z => ?_) (fun z => ?_)
  · have : i = 6 := by omega
    subst this
    exact kk M1 c1 s1 t1 ab1 vs k1 (fun j hj => ⟨(hvs j hj).1, (hvs j hj).2.1⟩) ((hvs 3 (by omega)).2.2 rfl) ht1 f1 (by omega) f3
  · have hi6 : i < 6 := by omega
    obtain ⟨b1, b2, b3, b4, b5, b6⟩ := most_b i hi6
    have hlen : (xs ++ foldT (fun i => tSet i (vs i)) i).length ≤ 250 + 10 * i := by
      rw [List.length_append]
      have := foldT_len (f := fun i => tSet i (vs i)) (m := 10) (n := i) (fun l _ => tSet_l _ _)
      omega
    have hsb := k1.2.2.2.2.2.1
    have h39 := k1.2.2.2.2.1
    rw [Rw_wb, Rn_gA k1.2.1.1.2.2.1, Rw_wb, rn_lI (by omega), m1.2.2.2.1]
    refine ⟨hi6, ?_⟩
    rw [m1.2.2.2.2 i hi6, Rw_wq]
    refine lNext k1.1.2 (by omega) b1 (by omega) (fun M2 r hr g2 n2 o2 => ?_)
    have k2 := k1.nx (c1 := c1) g2 o2 (by omega)
    have m2 := m1.gx g2 m1.2.1 (x1_f (by have := m1.1; omega))
    have ml2 : Ml M2 ab1 = Ml M1 ab1 := g2.ml k1.bb.1
    -- the value
    have go : ∀ v : Nat, stLo i ≤ v → v ≤ stHi i → (i = 3 → v ≤ 4) → v < 100 → ∀ (x y : Int32), y + x = nI v → Rw (gL_law_L213 (gL_law_L181 m) 38 0 p sb m6 (nI i) x y (nI i) hs) M2 c1 s1 Q := by
      intro v v1 v2 v3 v4 x y hxy
      unfold gL_law_L213
      rw [hxy, Rw_wb, rn_aI (by omega), k2.2.1.2.1.2.1]
      refine ⟨hi6, ?_⟩
      have k3 := k2.stI (j := i) (v := v)
      have m3 : isM6 (sI M2 hs i (nI v)) m6 sb := m2.gx (Gx.rf (X := x1 hs) (n := Mn M2) (M := M2) |>.sI (fun _ => by simp [x1])) m2.2.1 (x1_f (by have := m2.1; omega))
      have ml3 : Ml (sI M2 hs i (nI v)) ab1 = Ml M1 ab1 := ml2
      generalize sI M2 hs i (nI v) = M3 at k3 m3 ml3
      have e12 : (wK 12).length = 4 := rfl
      have dk := dec2_2 i
      have dv := dec2_2 v
      refine k3.apK (j := 12) (by omega) (by omega) (by omega) (by omega) (fun M4 c4 s4 ab4 k4 g4 y1 y2 y3 => ?_)
      refine k4.apN (y := i) (by omega) (by omega) (by rw [List.length_append, e12]; omega) (fun M5 c5 s5 ab5 k5 g5 z1 z2 z3 => ?_)
      refine k5.apC (y := 32) (by omega) (by omega) (by rw [List.length_append, List.length_append, e12]; omega) (fun M6 c6 s6 ab6 k6 g6 w1 w2 w3 => ?_)
      have pv : Pt (pSet (pSt P vs i) i v) i = v := updN_s _ _ _
      rw [Rw_wb, Rn_gA k6.2.1.1.2.2.1, Rw_wb, k6.2.1.set hi6, pv]
      have e1 : ([32] : List Nat).length = 1 := rfl
      refine k6.apN (y := v) (by omega) v4 (by rw [List.length_append, List.length_append, List.length_append, e12, e1]; omega) (fun M7 c7 s7 ab7 k7 g7 q1 q2 q3 => ?_)
      refine k7.apC (y := 59) (by omega) (by omega) (by rw [List.length_append, List.length_append, List.length_append, List.length_append, e12, e1]; omega) (fun M8 c8 s8 ab8 k8 g8 r1 r2 r3 => ?_)
      have m8 := ((((m3.gtx k3 g4).gtx k4 g5).gtx k5 g6).gtx k6 g7).gtx k7 g8
      rw [nL1, nI_add]
      have ers : ∀ l, l < i → vs l = updN vs i v l := fun l hl => (updN_n (by omega)).symm
      have eP : pSt P (updN vs i v) (i + 1) = pSet (pSt P vs i) i v := by
        show pSet (pSt P (updN vs i v) i) i (updN vs i v i) = _
        rw [updN_s, ← pSt_cg ers]
      have eX : xs ++ foldT (fun j => tSet j (updN vs i v j)) (i + 1) = xs ++ foldT (fun j => tSet j (vs j)) i ++ wK 12 ++ dec2 i ++ [32] ++ dec2 v ++ [59] := by
        show xs ++ (foldT (fun j => tSet j (updN vs i v j)) i ++ tSet i (updN vs i v i)) = _
        rw [updN_s, ← foldT_cg (f := fun j => tSet j (vs j)) (fun l hl => by rw [ers l hl])]
        unfold tSet
        simp only [List.append_assoc]
      refine ih (i + 1) M8 c8 s8 ⟨by omega, t1 + 1, ab8, updN vs i v, ?_, m8, fun j hj => ?_, by omega, by omega, by omega, by omega⟩ (by omega)
      · rw [eP, eX]; exact k8
      · by_cases q : j = i
        · rw [q, updN_s]; exact ⟨v1, v2, v3⟩
        · rw [updN_n q]; exact hvs j (by omega)
    refine Rw_cs (d := i = 0) (neq (b := 0) (by omega) (by omega)) (fun y => ?_) (fun y => ?_)
    · have h8 := b3 y
      subst y
      exact go (r + 1) (by show 1 ≤ r + 1; omega) (by show r + 1 ≤ 8; omega) (fun q => by omega) (by omega) 1 (nI r) (by rw [nL1, nI_add])
    · have hlo : stLo i = 0 := by unfold stLo; rw [if_neg y]
      have hhi : r ≤ stHi i ∧ (i = 3 → r ≤ 4) := by
        have : i = 1 ∨ i = 2 ∨ i = 3 ∨ i = 4 ∨ i = 5 := by omega
        rcases this with rfl | rfl | rfl | rfl | rfl
        · have := b4 rfl; exact ⟨by show r ≤ 1; omega, fun q => by omega⟩
        · have := b5 rfl; exact ⟨by show r ≤ 1; omega, fun q => by omega⟩
        · have := b6 rfl; exact ⟨by show r ≤ 9; omega, fun _ => by omega⟩
        · exact ⟨by show r ≤ 99; omega, fun q => by omega⟩
        · exact ⟨by show r ≤ 99; omega, fun q => by omega⟩
      exact go r (by omega) hhi.1 hhi.2 (by omega) 0 (nI r) (by rw [nL0, nI_add]; rfl)
/-- what comes behind the losses -/
theorem l258 {n : Nat} {Z : Mm → Option (Int32 × Mm × Nat × Nat)} (hZ : ∀ m, ∀ i, gL_law_L258 (m + 1) 38 0 p sb (nI i) = (wb (gA p 3) fun v47 => wq (gJx4a65c_size_8abf5 v47) fun v48 => if v48 ≤ nI i then Z else wb (gA p 2) fun v92 => wq (gX10_next 38 6) fun v93 => wb (aI v92 (nI i) (mmax 0 (v93 - 2))) fun _ => wq (gJ4_append_15ec4_k sb (SB + 13)) fun h94 => wq (gJ4_append_bf812 h94 (nI i)) fun h95 => wq (gJ4_append_cf468 h95 32) fun h96 => wb (gA p 2) fun v97 => wb (lI v97 (nI i)) fun v98 => wq (gJ4_append_bf812 h96 v98) fun h99 => wq (gJ4_append_cf468 h99 59) fun h100 => gL_law_L258 m 38 0 p sb (nI i + 1))) (k : BL M t p hs hl h a sb ab P R xs c) (hn : PL P = n) (hn6 : n ≤ 6) (hxs : xs.length ≤ 350) (ht : t + 1000 < 800000) (hc : c ≤ 720000000) (kk : ∀ M' c' s' t' ab' ls, BL M' t' p hs hl h a sb ab' (pLs P ls n) R (xs ++ foldT (fun i => tLoss i (ls i)) n) c' → (∀ j, j < n → ls j ≤ 3) → t' ≤ t + 6 → c ≤ c' → c' ≤ c + 30 → s' + 2 * Ml M ab ≤ s + 2 * Ml M' ab' → Rw Z M' c' s' Q) : Rw (gL_law_L258 fu 38 0 p sb (nI 0)) M c s Q := by
  refine rw_loopv (F := fun m (i : Nat) => gL_law_L258 m 38 0 p sb (nI i)) (fun i M' c' s' => i ≤ n ∧ ∃ t' ab' vs, BL M' t' p hs hl h a sb ab' (pLs P vs i) R (xs ++ foldT (fun i => tLoss i (vs i)) i) c' ∧ (∀ j, j < i → vs j ≤ 3) ∧ t' ≤ t + i ∧ c ≤ c' ∧ c' ≤ c + 5 * i ∧ s' + 2 * Ml M ab ≤ s + 2 * Ml M' ab') (fun i => n - i) ?_ fu 0 M c s (by unfold fu; omega) ⟨Nat.zero_le _, t, ab, fun _ => 0, by rw [show xs ++ foldT (fun i => tLoss i 0) 0 = xs from List.append_nil xs]; exact k, fun l hl => absurd hl (Nat.not_lt_zero _), by omega, Nat.le_refl _, by omega, by omega⟩
  rintro m i M1 c1 s1 ⟨hi, t1, ab1, vs, k1, hvs, ht1, f1, f2, f3⟩ ih
  show Rw (gL_law_L258 (m + 1) 38 0 p sb (nI i)) _ _ _ _
  rw [hZ]
  obtain ⟨p1, p2, p3, p4, p5⟩ := pLs_p P vs i
  rw [Rw_wb, Rn_gA k1.2.1.1.2.2.2.2, Rw_wq, lSize k1.2.1.2.2.2.1.1, k1.2.1.2.2.2.1.2.1, p2, hn]
  refine Rw_cs (d := n ≤ i) (nle (by omega) (by omega)) (fun z => ?_) (fun z => ?_)
  · have : i = n := by omega
    subst this
    exact kk M1 c1 s1 t1 ab1 vs k1 hvs (by omega) f1 (by omega) f3
  · have hi6 : i < n := by omega
    have hlen : (xs ++ foldT (fun i => tLoss i (vs i)) i).length ≤ 350 + 11 * i := by
      rw [List.length_append]
      have := foldT_len (f := fun i => tLoss i (vs i)) (m := 11) (n := i) (fun l _ => tLoss_l _ _)
      omega
    have hsb := k1.2.2.2.2.2.1
    have h39 := k1.2.2.2.2.1
    rw [Rw_wb, Rn_gA k1.2.1.1.2.2.2.1, Rw_wq]
    refine lNext (m := 6) k1.1.2 (by omega) (by omega) (by omega) (fun M2 r hr g2 n2 o2 => ?_)
    have k2 := k1.nx (c1 := c1) g2 o2 (by omega)
    have ml2 : Ml M2 ab1 = Ml M1 ab1 := g2.ml k1.bb.1
    rw [los_v r hr, Rw_wb, rn_aI (by omega), k2.2.1.2.2.1.2.1]
    refine ⟨by omega, ?_⟩
    obtain ⟨v, hv⟩ : ∃ v, v = r - 2 := ⟨_, rfl⟩
    rw [← hv]
    have k3 := k2.lsI (j := i) (v := v)
    have ml3 : Ml (sI M2 hl i (nI v)) ab1 = Ml M1 ab1 := ml2
    generalize sI M2 hl i (nI v) = M3 at k3 ml3
    have e12 : (wK 13).length = 5 := rfl
    have dk := dec2_2 i
    have dv := dec2_2 v
    refine k3.apK (j := 13) (by omega) (by omega) (by omega) (by omega) (fun M4 c4 s4 ab4 k4 g4 y1 y2 y3 => ?_)
    refine k4.apN (y := i) (by omega) (by omega) (by rw [List.length_append, e12]; omega) (fun M5 c5 s5 ab5 k5 g5 z1 z2 z3 => ?_)
    refine k5.apC (y := 32) (by omega) (by omega) (by rw [List.length_append, List.length_append, e12]; omega) (fun M6 c6 s6 ab6 k6 g6 w1 w2 w3 => ?_)
    have pv : Ps (pLose (pLs P vs i) i v) i = v := updN_s _ _ _
    rw [Rw_wb, Rn_gA k6.2.1.1.2.2.2.1, Rw_wb, k6.2.1.loss (by omega), pv]
    have e1 : ([32] : List Nat).length = 1 := rfl
    refine k6.apN (y := v) (by omega) (by omega) (by rw [List.length_append, List.length_append, List.length_append, e12, e1]; omega) (fun M7 c7 s7 ab7 k7 g7 q1 q2 q3 => ?_)
    refine k7.apC (y := 59) (by omega) (by omega) (by rw [List.length_append, List.length_append, List.length_append, List.length_append, e12, e1]; omega) (fun M8 c8 s8 ab8 k8 g8 r1 r2 r3 => ?_)
    rw [nL1, nI_add]
    have ers : ∀ l, l < i → vs l = updN vs i v l := fun l hl => (updN_n (by omega)).symm
    have eP : pLs P (updN vs i v) (i + 1) = pLose (pLs P vs i) i v := by
      show pLose (pLs P (updN vs i v) i) i (updN vs i v i) = _
      rw [updN_s, ← pLs_cg ers]
    have eX : xs ++ foldT (fun j => tLoss j (updN vs i v j)) (i + 1) = xs ++ foldT (fun j => tLoss j (vs j)) i ++ wK 13 ++ dec2 i ++ [32] ++ dec2 v ++ [59] := by
      show xs ++ (foldT (fun j => tLoss j (updN vs i v j)) i ++ tLoss i (updN vs i v i)) = _
      rw [updN_s, ← foldT_cg (f := fun j => tLoss j (vs j)) (fun l hl => by rw [ers l hl])]
      unfold tLoss
      simp only [List.append_assoc]
    refine ih (i + 1) M8 c8 s8 ⟨by omega, t1 + 1, ab8, updN vs i v, ?_, fun j hj => ?_, by omega, by omega, by omega, by omega⟩ (by omega)
    · rw [eP, eX]; exact k8
    · by_cases q : j = i
      · rw [q, updN_s]; omega
      · rw [updN_n q]; exact hvs j (by omega)
end LQ
