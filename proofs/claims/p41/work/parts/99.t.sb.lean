/-! TEXTS THAT ARE BUILT: words, numbers, other texts -/
/-- a String h, its bytes v -/
def isSr (M : Mm) (h v : Nat) (xs : List Nat) : Prop := (h < Mn M ∧ Mr M h 0 = some v ∧ Mi M h 1 = nI 0) ∧ (v < Mn M ∧ Ml M v = xs.length ∧ xs.length ≤ 1000) ∧ ∀ i, i < xs.length → Mi M v i = nI (xs.getD i 0) ∧ xs.getD i 0 < 128
theorem isSr.gx {X : Nat → Bool} {n : Nat} {M M1 : Mm} {h v : Nat} {xs : List Nat} (k : isSr M h v xs) (x : Gx X n M M1) (h1 : h < n) (h2 : X h = false) (h3 : v < n) (h4 : X v = false) : isSr M1 h v xs := by
  obtain ⟨⟨a1, a2, a3⟩, ⟨b1, b2, b3⟩, e⟩ := k
  have hm := x.mn
  exact ⟨⟨by omega, by rw [x.mr h1 h2]; exact a2, by rw [x.mi h1 h2]; exact a3⟩, ⟨by omega, by rw [x.ml b1]; exact b2, b3⟩, fun i hi => by rw [x.mi h3 h4]; exact e i hi⟩
/-- the law's words -/
def wK (j : Nat) : List Nat := [[119, 105, 100, 101, 32], [59], [108, 105, 110, 101, 32], [115, 101, 116, 32], [108, 111, 115, 115, 32]].getD (j - 9) []
theorem wK_s : ∀ j, j < 14 → 9 ≤ j → sW.getD j [] = (wK j).map nI ∧ (wK j).length ≤ 5 ∧ ∀ i, i < (wK j).length → (wK j).getD i 0 < 128 := by decide
theorem sb_in4 {i : Nat} (h : i < 14) : sbB (SB + i) = true := by
  unfold sbB
  rw [Bool.and_eq_true, decide_eq_true_eq, decide_eq_true_eq]
  exact ⟨by omega, by omega⟩
section SBU
variable {M : Mm} {h a : Nat} {xs ys : List Nat} {c s : Nat}
theorem isSb.cp (k : isSb M h a xs) {f : Nat → Int32} (hk : ys.length + xs.length ≤ Ml M a) (hn : xs.length + ys.length ≤ 1000) (hf : ∀ i, i < ys.length → f i = nI (ys.getD i 0) ∧ ys.getD i 0 < 128) : isSb (sI (sCp M a f 0 xs.length ys.length) h 3 (nI (xs.length + ys.length))) h a (xs ++ ys) := by
  have hne : a ≠ h := by have := k.2.1.1; omega
  refine k.put rfl rfl hk hn (fun i hi => (hf i hi).2) (fun i hi => ?_) (fun i hi => ?_) (fun i hi => ?_) ?_ ?_
  · rw [Mi_sI, if_neg (by omega), Mi_sCp, if_pos rfl]
    unfold va_cpy
    rw [if_neg (by omega)]
  · rw [Mi_sI, if_neg (by omega), Mi_sCp, if_pos rfl]
    unfold va_cpy
    rw [if_pos (by omega), Nat.zero_add, Nat.add_sub_cancel_left]
    exact (hf i hi).1
  · rw [Mi_sI, if_neg (by omega), Mi_sCp, if_pos rfl]
    unfold va_cpy
    rw [if_neg (by omega)]
  · rw [Mi_sI, if_neg (by omega), Mi_sCp, if_neg (by omega)]
  · rw [Mi_sI, if_pos ⟨rfl, rfl⟩]
theorem gxA {M M1 : Mm} {a1 : Nat} (g : Gx (x1 h) (Mn M) M M1) (h1 : a1 = a ∨ Mn M ≤ a1) {f : Nat → Int32} {n k : Nat} {w : Int32} : Gx (x2 h a) (Mn M) M (sI (sCp M1 a1 f 0 n k) h 3 w) := by
  have gg : Gx (x2 h a) (Mn M) M M1 := g.mono (Nat.le_refl _) (fun q _ z => by unfold x1; unfold x2 at z; simp at z ⊢; exact z.1)
  refine (gg.sCp (fun z => ?_)).sI (fun _ => by simp [x2])
  rcases h1 with w | w
  · simp [x2, w]
  · omega
theorem lCoK {j : Nat} (hj : j < 14) {Q : Int32 → Mm → Nat → Nat → Prop} : Rw (gJ0_coder_7d493_k (SB + j)) M c s Q ↔ Q (nI 0) M c s := by
  refine Rw_det ?_
  unfold gJ0_coder_7d493_k
  refine Rw_no (by decide) ?_
  rw [Rw_grd]
  refine ⟨sb_in4 hj, ?_⟩
  rw [Rw_grd, Rw_wr]
  exact ⟨by decide, rfl, rfl, rfl, rfl⟩
theorem cpK_eq {j n : Nat} {M : Mm} {d : Nat} (hj : j < 14) (hj9 : 9 ≤ j) (h2 : n + (wK j).length ≤ Ml M d) (h4 : Ml M d < 100000) : cpK (SB + j) (nI 0) d (nI n) (nI (wK j).length) M = some ((), sCp M d (stF (SB + j)) 0 n (wK j).length) := by
  obtain ⟨w1, w2, w3⟩ := wK_s j hj hj9
  unfold cpK
  have e0 : (nI 0).toNatClampNeg = 0 := rfl
  have ed : (nI n).toNatClampNeg = n := nI_clamp (by omega)
  have en : (nI (wK j).length).toNatClampNeg = (wK j).length := nI_clamp (by omega)
  have z1 : ¬ nI n < 0 := nI_pos (by omega)
  have z2 : ¬ nI (wK j).length < 0 := nI_pos (by omega)
  have el : (sW.getD ((SB + j) % 1000) []).length = (wK j).length := by rw [SB_mod (by omega), w1, List.length_map]
  rw [ed, en, e0, el, if_pos]
  rw [Bool.and_eq_true]
  refine ⟨?_, List.all_eq_true.mpr (fun i hi => ?_)⟩
  · unfold okCp
    rw [ed, en, e0]
    rw [decide_eq_true (show ¬ nI 0 < 0 by decide), decide_eq_true z1, decide_eq_true z2, decide_eq_true (show 0 + (wK j).length ≤ (wK j).length by omega), decide_eq_true h2]; rfl
  · have hi := List.mem_range.mp hi
    unfold stF
    rw [SB_mod (by omega), w1, Nat.zero_add, map_at _ hi]
    exact fit10 (w3 i hi)
/-- a word -/
theorem lApK (k : isSb M h a xs) (hM : Mn M < 900000000) {j : Nat} (hj : j < 14) (hj9 : 9 ≤ j) (hl : xs.length + 5 ≤ 1000) : Rw (gJ4_append_15ec4_k h (SB + j)) M c s (fun v M' c' s' => v = h ∧ SbA M h a (xs ++ wK j) c s M' c' s') := by
  obtain ⟨w1, w2, w3⟩ := wK_s j hj hj9
  have eN : stN (SB + j) = nI (wK j).length := by unfold stN; rw [SB_mod (by omega), w1, List.length_map]; rfl
  unfold gJ4_append_15ec4_k gJ5_append_cf1ce_k
  rw [Rw_wq, Rw_op1, Rw_grd]
  refine ⟨sb_in4 hj, ?_⟩
  rw [Rw_wq]
  unfold gJ0_length_8abf5_k
  rw [Rw_grd]
  refine ⟨sb_in4 hj, ?_⟩
  rw [Rw_grd]
  refine ⟨sb_in4 hj, ?_⟩
  rw [Rw_grd]
  refine ⟨sb_in4 hj, ?_⟩
  rw [Rw_wq, lCoK hj, Rw_wr, ← nL0, sr0, eN, Rw_wb, Rn_gI, k.1.2.2.2, nI_add, Rw_wq]
  refine (lEns k hM (n := xs.length + (wK j).length) (by omega) (by omega)).mono ?_
  rintro - M1 c1 s1 ⟨a1, k1, e1, e2, g1, h1, f1, f2, f3, f4⟩
  rw [Rw_wb, Rn_gI, k1.1.2.2.2, Rw_wq]
  unfold gJ5_putStringAt_47b60_k
  rw [Rw_wq]
  unfold gJ5_inflateIfNeededFor_a7421_k
  refine Rw_no (by decide) ?_
  rw [Rw_wb, Rn_gI, k1.1.2.2.1, Rw_grd]
  refine ⟨sb_in4 hj, ?_⟩
  rw [Rw_wq, lCoK hj]
  refine Rw_yes rfl ?_
  rw [Rw_wr, Rw_wb, Rn_gA k1.1.2.1, Rw_wb, Rn_gI, k1.1.2.2.1, Rw_grd]
  refine ⟨sb_in4 hj, ?_⟩
  rw [Rw_wq]
  unfold gJ0_getBytes_840e7_k
  rw [Rw_grd]
  refine ⟨sb_in4 hj, ?_⟩
  rw [Rw_wq, lCoK hj]
  refine Rw_yes rfl ?_
  rw [Rw_grd]
  refine ⟨sb_in4 hj, ?_⟩
  rw [Rw_grd]
  refine ⟨sb_in4 hj, ?_⟩
  rw [Rw_grd]
  refine ⟨sb_in4 hj, ?_⟩
  rw [Rw_grd]
  refine ⟨sb_in4 hj, ?_⟩
  have c2 := k1.2.2.1.2.1
  have ecp : cpK (SB + j) 0 a1 (nI xs.length <<< (nI 0 &&& 31)) (stN (SB + j)) M1 = some ((), sCp M1 a1 (stF (SB + j)) 0 xs.length (wK j).length) := by
    rw [← nL0, sh0, eN, nL0]
    exact cpK_eq hj hj9 (by omega) (by omega)
  rw [Rw_wb, Rn_fun ecp, Rw_wr, Rw_wr, Rw_wb, Rn_gI, Mi_sCp, if_neg (by have := k1.2.1.1; omega), k1.1.2.2.2, Rw_wb, Rn_pI, Rw_wr, Rw_wr, nI_add]
  refine ⟨rfl, a1, k1.cp (by omega) (by omega) (fun i hi => ⟨?_, w3 i hi⟩), gxA g1 h1, h1, f1, f2, f3, f4, by rw [List.length_append]; exact e2⟩
  unfold stF
  rw [SB_mod (by omega), w1, map_at _ hi]
theorem lSco {h : Nat} (k : Mi M h 1 = nI 0) {Q : Int32 → Mm → Nat → Nat → Prop} : Rw (gJ0_coder_7d493 h) M c s Q ↔ Q (nI 0) M c s := by
  refine Rw_det ?_
  unfold gJ0_coder_7d493
  refine Rw_no (by decide) ?_
  rw [Rw_wb, Rn_gI, k, Rw_grd, Rw_wr]
  exact ⟨by decide, rfl, rfl, rfl, rfl⟩
theorem lSln {st v : Nat} (k : isSr M st v xs) {Q : Int32 → Mm → Nat → Nat → Prop} : Rw (gJ0_length_8abf5 st) M c s Q ↔ Q (nI xs.length) M c s := by
  refine Rw_det ?_
  unfold gJ0_length_8abf5
  rw [Rw_wb, Rn_gA k.1.2.1, Rw_wb, Rn_gN, k.2.1.2.1, Rw_wq, lSco k.1.2.2, Rw_wr, ← nL0, sr0]
  exact ⟨rfl, rfl, rfl, rfl⟩
theorem nch8 : ∀ y, y < 128 → i2c (nI y &&& 255) = nI y ∧ nCh (nI y) = true := by decide +kernel
theorem lSch {st v i : Nat} (k : isSr M st v xs) (hi : i < xs.length) {Q : Int32 → Mm → Nat → Nat → Prop} : Rw (gJ0_charAt_5068e st (nI i)) M c s Q ↔ Q (nI (xs.getD i 0)) M c s := by
  refine Rw_det ?_
  obtain ⟨e1, e2⟩ := k.2.2 i hi
  obtain ⟨n1, n2⟩ := nch8 _ e2
  have hl := k.2.1.2.2
  unfold gJ0_charAt_5068e gJ0_isLatin1_aae02
  rw [Rw_wq]
  refine Rw_no (by decide) ?_
  rw [Rw_wb, Rn_gI]
  refine Rw_yes k.1.2.2 ?_
  rw [Rw_grd, Rw_wr]
  refine ⟨by decide, ?_⟩
  refine Rw_no (by decide) ?_
  rw [Rw_wb, Rn_gA k.1.2.1, Rw_wq]
  unfold gJ1_charAt_3b067 gJ0_checkIndex_df160 gJ3_checkIndex_8e157
  rw [Rw_wb, Rn_gN, k.2.1.2.1, Rw_wq, Rw_wq]
  refine Rw_no (nI_pos (by omega)) (Rw_yes ((nlt (by omega) (by omega)).mpr hi) ?_)
  rw [Rw_wr, Rw_wr, Rw_wb, rn_lI (by omega), k.2.1.2.1, e1, n1, Rw_grd, Rw_wr, Rw_grd, Rw_wr]
  exact ⟨hi, n2, n2, rfl, rfl, rfl, rfl⟩
/-- another text -/
theorem lApS (k : isSb M h a xs) (hM : Mn M < 900000000) {st v : Nat} (ks : isSr M st v ys) (n1 : st ≠ h) (n2 : v ≠ h) (hl : xs.length + ys.length ≤ 1000) : Rw (gJ4_append_15ec4 h st) M c s (fun w M' c' s' => w = h ∧ SbA M h a (xs ++ ys) c s M' c' s') := by
  unfold gJ4_append_15ec4 gJ5_append_cf1ce
  rw [Rw_wq, Rw_op1, Rw_wq, lSln ks, Rw_wb, Rn_gI, k.1.2.2.2, nI_add, Rw_wq]
  refine (lEns k hM (n := xs.length + ys.length) (by omega) (by omega)).mono ?_
  rintro - M1 c1 s1 ⟨a1, k1, e1, e2, g1, h1, f1, f2, f3, f4⟩
  have ks1 := ks.gx g1 ks.1.1 (x1_f n1) ks.2.1.1 (x1_f n2)
  rw [Rw_wb, Rn_gI, k1.1.2.2.2, Rw_wq]
  unfold gJ5_putStringAt_47b60
  rw [Rw_wq]
  unfold gJ5_inflateIfNeededFor_a7421
  refine Rw_no (by decide) ?_
  rw [Rw_wb, Rn_gI, k1.1.2.2.1, Rw_wq, lSco ks1.1.2.2]
  refine Rw_yes rfl ?_
  rw [Rw_wr, Rw_wb, Rn_gA k1.1.2.1, Rw_wb, Rn_gI, k1.1.2.2.1, Rw_wq]
  unfold gJ0_getBytes_840e7
  rw [Rw_wq, lSco ks1.1.2.2]
  refine Rw_yes rfl ?_
  have c2 := k1.2.2.1.2.1
  have c3 := ks1.2.1.2.1
  rw [Rw_wb, Rn_gA ks1.1.2.1, Rw_wb, Rn_gA ks1.1.2.1, Rw_wb, Rn_gN, c3]
  have ecp : cpB 10 v 0 a1 (nI xs.length <<< (nI 0 &&& 31)) (nI ys.length) M1 = some ((), sCp M1 a1 (Mi M1 v) 0 xs.length ys.length) := by
    rw [← nL0, sh0, nL0]
    exact cpB_eq (by omega) (by omega) (by omega) (by omega) (fun i hi => by rw [(ks1.2.2 i hi).1]; exact fit10 (ks1.2.2 i hi).2)
  rw [Rw_wb, Rn_fun ecp, Rw_wr, Rw_wr, Rw_wb, Rn_gI, Mi_sCp, if_neg (by have := k1.2.1.1; omega), k1.1.2.2.2, Rw_wb, Rn_pI, Rw_wr, Rw_wr, nI_add]
  exact ⟨rfl, a1, k1.cp (by omega) (by omega) (fun i hi => ks1.2.2 i hi), gxA g1 h1, h1, f1, f2, f3, f4, by rw [List.length_append]; exact e2⟩
/-! numbers of at most two digits -/
def dec2 (v : Nat) : List Nat := if v < 10 then [48 + v] else [48 + v / 10, 48 + v % 10]
theorem dg1 : ∀ v, v < 100 → (-nI v ≤ (-10 : Int32) ↔ 10 ≤ v) ∧ ¬ (-nI v ≤ 10 * (-10 : Int32)) ∧ (-100 : Int32) < -nI v ∧ ((-9 : Int32) ≤ -nI v ↔ v < 10) ∧ -(-nI v) = nI v := by decide +kernel
theorem dg2 : ∀ v, v < 100 → dgT 0 v = nI (48 + v % 10) ∧ dgT 1 v = nI (48 + v / 10) := by decide +kernel
theorem dec2_l (v : Nat) : (dec2 v).length = if v < 10 then 1 else 2 := by unfold dec2; split <;> rfl
theorem lSize10 {v : Nat} (hv : v < 100) {Q : Int32 → Mm → Nat → Nat → Prop} : Rw (gJ6_stringSize_0f7a4 (nI v)) M c s Q ↔ Q (nI (dec2 v).length) M c s := by
  refine Rw_det ?_
  obtain ⟨d1, d2, -⟩ := dg1 v hv
  unfold gJ6_stringSize_0f7a4
  refine Rw_no (nI_pos (by omega)) ?_
  rw [Rw_wb, Rn_rtn]
  unfold gJ6_stringSize_0f7a4_L11
  show Rw (gJ6_stringSize_0f7a4_L16 (19998 + 1 + 1) (-nI v) 0 (-10) 1) _ _ _ _
  unfold gJ6_stringSize_0f7a4_L16
  refine Rw_no (by decide) ?_
  refine Rw_cs (d := 10 ≤ v) d1 (fun z => ?_) (fun z => ?_)
  · rw [Rw_wb, Rn_rtn]
    unfold gJ6_stringSize_0f7a4_L16
    refine Rw_no (by decide) (Rw_no d2 ?_)
    rw [Rw_wr, dec2_l, if_neg (by omega)]
    exact ⟨by decide, rfl, rfl, rfl⟩
  · rw [Rw_wr, dec2_l, if_pos (by omega)]
    exact ⟨by decide, rfl, rfl, rfl⟩
theorem lTd {v j : Nat} (hv : v < 100) {Q : Int32 → Mm → Prop} : Rn (tD j (nI v)) M Q ↔ Q (dgT j v) M := by
  refine Rn_fun ?_
  unfold tD
  rw [vpB_nI (by omega), nI_clamp (by omega), if_pos (by simpa using hv)]
theorem lApN (k : isSb M h a xs) (hM : Mn M < 900000000) {v : Nat} (hv : v < 100) (hl : xs.length + 2 < 1000) : Rw (gJ4_append_bf812 h (nI v)) M c s (fun w M' c' s' => w = h ∧ SbA M h a (xs ++ dec2 v) c s M' c' s') := by
  obtain ⟨d1, d2, d3, d4, d5⟩ := dg1 v hv
  obtain ⟨t0, t1⟩ := dg2 v hv
  have hd := dec2_l v
  unfold gJ4_append_bf812 gJ5_append_c97b9
  rw [Rw_wq, Rw_wb, Rn_gI, k.1.2.2.2, Rw_wq, lSize10 hv, Rw_wb, Rn_rtn, nI_add, Rw_wq]
  have hd2 : (dec2 v).length ≤ 2 ∧ 1 ≤ (dec2 v).length := by rw [hd]; split <;> omega
  refine (lEns k hM (n := xs.length + (dec2 v).length) (by omega) (by omega)).mono ?_
  rintro - M1 c1 s1 ⟨a1, k1, e1, e2, g1, h1, f1, f2, f3, f4⟩
  rw [Rw_wq, lLat k1.1.2.2.1]
  refine Rw_no (by decide) ?_
  rw [Rw_wb, Rn_gA k1.1.2.1, Rw_wq]
  unfold gJ6_getChars_ba4f3
  refine Rw_yes ((nle (a := 0) (by omega) (by omega)).mpr (Nat.zero_le _)) ?_
  unfold gJ6_getChars_ba4f3_L12
  refine Rw_yes rfl ?_
  rw [Rw_wb, Rn_rtn]
  show Rw (gJ6_getChars_ba4f3_L22 (19999 + 1) (-nI v) a1 (nI (xs.length + (dec2 v).length)) 0) _ _ _ _
  unfold gJ6_getChars_ba4f3_L22
  refine Rw_yes d3 ?_
  have c2 := k1.2.2.1.2.1
  have hne : a1 ≠ h := by have := k1.2.1.1; omega
  have gg : Gx (x2 h a) (Mn M) M M1 := g1.mono (Nat.le_refl _) (fun q _ z => by unfold x1; unfold x2 at z; simp at z ⊢; exact z.1)
  have hX : a1 < Mn M → x2 h a a1 = true := fun z => by
    rcases h1 with w | w
    · simp [x2, w]
    · omega
  rw [d5, Rw_wb, lTd hv, t0, Rw_wb, nI_m1 (by omega) (by omega), rn_aB (by omega), (byt (show 48 + v % 10 < 128 by omega)).2]
  refine ⟨by omega, ?_⟩
  refine Rw_cs (d := v < 10) d4 (fun z => ?_) (fun z => ?_)
  · unfold gJ6_getChars_ba4f3_L104
    rw [if_pos z] at hd
    refine Rw_yes rfl ?_
    rw [Rw_wr, Rw_wb, Rn_pI, Rw_wr, Rw_wr]
    have ed : dec2 v = [48 + v] := by unfold dec2; rw [if_pos z]
    refine ⟨rfl, a1, ?_, (gg.sI hX).sI (fun _ => by simp [x2]), h1, f1, f2, f3, f4, by rw [List.length_append]; exact e2⟩
    refine k1.put rfl rfl (by show _ ≤ Ml M1 a1; omega) (by omega) (fun i hi => ?_) (fun i hi => ?_) (fun i hi => ?_) (fun i hi => ?_) ?_ ?_
    · have : i = 0 := by omega
      subst this; rw [ed]; show 48 + v < 128; omega
    · rw [Mi_sI, if_neg (by omega), Mi_sI, if_neg (by omega)]
    · have : i = 0 := by omega
      subst this
      rw [Mi_sI, if_neg (by omega), Mi_sI, if_pos ⟨rfl, by omega⟩, ed]
      show nI (48 + v % 10) = nI (48 + v)
      rw [Nat.mod_eq_of_lt z]
    · rw [Mi_sI, if_neg (by omega), Mi_sI, if_neg (by omega)]
    · rw [Mi_sI, if_neg (by omega), Mi_sI, if_neg (by omega)]
    · rw [Mi_sI, if_pos ⟨rfl, rfl⟩]
  · rw [if_neg z] at hd
    rw [Rw_wb, lTd hv, t1, Rw_wb, nI_m1 (by omega) (by omega), rn_aB (by omega), (byt (show 48 + v / 10 < 128 by omega)).2]
    refine ⟨by show _ < Ml M1 a1; omega, ?_⟩
    unfold gJ6_getChars_ba4f3_L104
    refine Rw_yes rfl ?_
    rw [Rw_wr, Rw_wb, Rn_pI, Rw_wr, Rw_wr]
    have ed : dec2 v = [48 + v / 10, 48 + v % 10] := by unfold dec2; rw [if_neg z]
    refine ⟨rfl, a1, ?_, ((gg.sI hX).sI hX).sI (fun _ => by simp [x2]), h1, f1, f2, f3, f4, by rw [List.length_append]; exact e2⟩
    refine k1.put rfl rfl (by show _ ≤ Ml M1 a1; omega) (by omega) (fun i hi => ?_) (fun i hi => ?_) (fun i hi => ?_) (fun i hi => ?_) ?_ ?_
    · have : i = 0 ∨ i = 1 := by omega
      rcases this with rfl | rfl
      · rw [ed]; show 48 + v / 10 < 128; omega
      · rw [ed]; show 48 + v % 10 < 128; omega
    · rw [Mi_sI, if_neg (by omega), Mi_sI, if_neg (by omega), Mi_sI, if_neg (by omega)]
    · have : i = 0 ∨ i = 1 := by omega
      rcases this with rfl | rfl
      · rw [Mi_sI, if_neg (by omega), Mi_sI, if_pos ⟨rfl, by omega⟩, ed]; rfl
      · rw [Mi_sI, if_neg (by omega), Mi_sI, if_neg (by omega), Mi_sI, if_pos ⟨rfl, by omega⟩, ed]; rfl
    · rw [Mi_sI, if_neg (by omega), Mi_sI, if_neg (by omega), Mi_sI, if_neg (by omega)]
    · rw [Mi_sI, if_neg (by omega), Mi_sI, if_neg (by omega), Mi_sI, if_neg (by omega)]
    · rw [Mi_sI, if_pos ⟨rfl, rfl⟩]
end SBU
