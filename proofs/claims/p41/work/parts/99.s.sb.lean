/-! TEXTS THAT ARE BUILT -/
theorem sh0 (x : Int32) : x <<< ((0 : Int32) &&& 31) = x := by
  have : ((0 : Int32) &&& 31) = 0 := by decide
  rw [this]; simp
theorem sr0 (x : Int32) : x >>> ((0 : Int32) &&& 31) = x := by
  have : ((0 : Int32) &&& 31) = 0 := by decide
  rw [this]; simp
theorem mx_nI {a b : Nat} (ha : a < 2147483648) (hb : b < 2147483648) : mmax (nI a) (nI b) = nI (if a < b then b else a) := by
  unfold mmax
  by_cases h : a < b
  · rw [if_pos ((nlt ha hb).mpr h), if_pos h]
  · rw [if_neg (fun z => h ((nlt ha hb).mp z)), if_neg h]
theorem fit10 {y : Nat} (h : y < 128) : fitK 10 (nI y) = true := by
  have : ∀ y, y < 128 → fitK 10 (nI y) = true := by decide +kernel
  exact this y h
theorem byt {y : Nat} (h : y < 128) : (i2b (nI y)).toInt8.toInt32 = nI y ∧ (nI y).toInt8.toInt32 = nI y := by
  have : ∀ y, y < 128 → (i2b (nI y)).toInt8.toInt32 = nI y ∧ (nI y).toInt8.toInt32 = nI y := by decide +kernel
  exact this y h
/-- a StringBuilder h, its bytes a -/
def isSb (M : Mm) (h a : Nat) (xs : List Nat) : Prop :=
  (h < Mn M ∧ Mr M h 0 = some a ∧ Mi M h 1 = nI 0 ∧ Mi M h 3 = nI xs.length) ∧ (h < a ∧ a < Mn M ∧ Mk M a = 10) ∧ (xs.length ≤ Ml M a ∧ Ml M a ≤ 2040 ∧ xs.length ≤ 1000) ∧ (∀ i, i < Ml M a → fitK 10 (Mi M a i) = true) ∧ ∀ i, i < xs.length → Mi M a i = nI (xs.getD i 0) ∧ xs.getD i 0 < 128
theorem isSb.gx {X : Nat → Bool} {n : Nat} {M M1 : Mm} {h a : Nat} {xs : List Nat} (k : isSb M h a xs) (x : Gx X n M M1) (h1 : h < n) (h2 : X h = false) (h3 : a < n) (h4 : X a = false) : isSb M1 h a xs := by
  obtain ⟨⟨a1, a2, a3, a4⟩, ⟨b1, b2, b3⟩, ⟨c1, c2, c3⟩, d, e⟩ := k
  have hm := x.mn
  refine ⟨⟨by omega, by rw [x.mr h1 h2]; exact a2, by rw [x.mi h1 h2]; exact a3, by rw [x.mi h1 h2]; exact a4⟩, ⟨b1, by omega, by rw [x.mk b2]; exact b3⟩, ⟨by rw [x.ml b2]; exact c1, by rw [x.ml b2]; exact c2, c3⟩, fun i hi => ?_, fun i hi => ?_⟩
  · rw [x.mi h3 h4]; rw [x.ml b2] at hi; exact d i hi
  · rw [x.mi h3 h4]; exact e i hi
/-- what an appending leaves -/
def SbA (M : Mm) (h a : Nat) (xs : List Nat) (c s : Nat) (M' : Mm) (c' s' : Nat) : Prop :=
  ∃ a', isSb M' h a' xs ∧ Gx (x2 h a) (Mn M) M M' ∧ (a' = a ∨ Mn M ≤ a') ∧ Mn M' + c ≤ Mn M + c' ∧ c ≤ c' ∧ c' ≤ c + 1 ∧ s' + 2 * Ml M a ≤ s + 2 * Ml M' a' ∧ (Ml M' a' = Ml M a ∨ Ml M' a' ≤ 2 * xs.length)
/-- bytes behind the last are written, their number -/
theorem isSb.put {M M1 : Mm} {h a : Nat} {xs ys : List Nat} (k : isSb M h a xs) (h1 : M1.1 = M.1) (h2 : Mr M1 = Mr M) (hk : ys.length + xs.length ≤ Ml M a) (hn : xs.length + ys.length ≤ 1000) (hy : ∀ i, i < ys.length → ys.getD i 0 < 128) (i1 : ∀ i, i < xs.length → Mi M1 a i = Mi M a i) (i2 : ∀ i, i < ys.length → Mi M1 a (xs.length + i) = nI (ys.getD i 0)) (i3 : ∀ i, xs.length + ys.length ≤ i → Mi M1 a i = Mi M a i) (j1 : Mi M1 h 1 = Mi M h 1) (j3 : Mi M1 h 3 = nI (xs.length + ys.length)) : isSb M1 h a (xs ++ ys) := by
  obtain ⟨⟨a1, a2, a3, a4⟩, ⟨b1, b2, b3⟩, ⟨c1, c2, c3⟩, d, e⟩ := k
  have em : Mn M1 = Mn M := by unfold Mn; rw [h1]
  have ek : Mk M1 = Mk M := by unfold Mk; rw [h1]
  have el : Ml M1 = Ml M := by unfold Ml; rw [h1]
  have eL : (xs ++ ys).length = xs.length + ys.length := List.length_append
  have all : ∀ i, i < xs.length + ys.length → Mi M1 a i = nI ((xs ++ ys).getD i 0) ∧ (xs ++ ys).getD i 0 < 128 := by
    intro i hi
    by_cases z : i < xs.length
    · have : (xs ++ ys).getD i 0 = xs.getD i 0 := by
        rw [List.getD_eq_getElem?_getD, List.getElem?_append_left z, ← List.getD_eq_getElem?_getD]
      rw [this, i1 i z]; exact e i z
    · have : (xs ++ ys).getD i 0 = ys.getD (i - xs.length) 0 := by
        rw [List.getD_eq_getElem?_getD, List.getElem?_append_right (by omega), ← List.getD_eq_getElem?_getD]
      rw [this]
      have := i2 (i - xs.length) (by omega)
      have e2 : xs.length + (i - xs.length) = i := by omega
      rw [e2] at this
      exact ⟨this, hy _ (by omega)⟩
  refine ⟨⟨by omega, by rw [h2]; exact a2, by rw [j1]; exact a3, by rw [j3, eL]⟩, ⟨b1, by omega, by rw [ek]; exact b3⟩, ⟨by rw [el, eL]; omega, by rw [el]; exact c2, by omega⟩, fun i hi => ?_, fun i hi => ?_⟩
  · by_cases z : i < xs.length + ys.length
    · rw [(all i z).1]; exact fit10 (all i z).2
    · rw [i3 i (by omega)]; rw [el] at hi; exact d i hi
  · rw [eL] at hi; exact all i hi
section SBT
variable {M : Mm} {h a : Nat} {xs : List Nat} {c s : Nat}
theorem cpB_eq {kd src d n : Nat} {M : Mm} (h1 : n ≤ Ml M src) (h2 : n ≤ Ml M d) {dp : Nat} (h3 : dp + n ≤ Ml M d) (h4 : Ml M d < 100000) (hf : ∀ i, i < n → fitK kd (Mi M src i) = true) : cpB kd src (nI 0) d (nI dp) (nI n) M = some ((), sCp M d (Mi M src) 0 dp n) := by
  unfold cpB
  have e0 : (nI 0).toNatClampNeg = 0 := rfl
  have ed : (nI dp).toNatClampNeg = dp := nI_clamp (by omega)
  have en : (nI n).toNatClampNeg = n := nI_clamp (by omega)
  rw [ed, en, e0, if_pos]
  rw [Bool.and_eq_true]
  refine ⟨?_, List.all_eq_true.mpr (fun i hi => ?_)⟩
  · unfold okCp
    have z1 : ¬ nI dp < 0 := nI_pos (by omega)
    have z2 : ¬ nI n < 0 := nI_pos (by omega)
    rw [ed, en, e0]
    rw [decide_eq_true (show ¬ nI 0 < 0 by decide), decide_eq_true z1, decide_eq_true z2, decide_eq_true (show 0 + n ≤ Ml M src by omega), decide_eq_true h3]; rfl
  · rw [Nat.zero_add]; exact hf i (List.mem_range.mp hi)
theorem Mi_sCp {M : Mm} {d sp dp n x i : Nat} {f : Nat → Int32} : Mi (sCp M d f sp dp n) x i = if x = d then va_cpy f (Mi M d) sp dp n i else Mi M x i := rfl
theorem Gx.sCp {X : Nat → Bool} {n : Nat} {M M1 : Mm} (g : Gx X n M M1) {d sp dp k : Nat} {f : Nat → Int32} (z : d < n → X d = true) : Gx X n M (sCp M1 d f sp dp k) := by
  refine ⟨g.1, g.2.1, g.2.2.1, fun q hq hz => ?_⟩
  have a1 := g.2.2.2 q hq hz
  refine ⟨?_, a1.2.1, a1.2.2⟩
  have : q ≠ d := fun e => by subst e; rw [z hq] at hz; cases hz
  rw [← a1.1]
  funext i
  rw [Mi_sCp, if_neg this]
theorem lEns (k : isSb M h a xs) (hM : Mn M < 900000000) {n : Nat} (hn : xs.length ≤ n) (hn2 : n ≤ 1000) : Rw (gJ5_ensureCapacityInternal_d00df h (nI n)) M c s (fun _ M' c' s' => ∃ a', isSb M' h a' xs ∧ n ≤ Ml M' a' ∧ (Ml M' a' = Ml M a ∨ Ml M' a' ≤ 2 * n) ∧ Gx (x1 h) (Mn M) M M' ∧ (a' = a ∨ Mn M ≤ a') ∧ Mn M' + c ≤ Mn M + c' ∧ c ≤ c' ∧ c' ≤ c + 1 ∧ s' + 2 * Ml M a ≤ s + 2 * Ml M' a') := by
  obtain ⟨⟨a1, a2, a3, a4⟩, ⟨b1, b2, b3⟩, ⟨c1, c2, c3⟩, d, e⟩ := id k
  unfold gJ5_ensureCapacityInternal_d00df
  rw [Rw_wb, Rn_gA a2, Rw_wb, Rn_gN, Rw_wb, Rn_gI, a3, Rw_wb, Rn_rtn, ← nL0, sr0]
  refine Rw_cs (d := n ≤ Ml M a) ?_ (fun z => ?_) (fun z => ?_)
  · by_cases q : n ≤ Ml M a
    · have : nI n - nI (Ml M a) ≤ 0 := by
        have e1 : nI (Ml M a) - nI n = nI (Ml M a - n) := nsb q
        have e2 : nI n - nI (Ml M a) = - nI (Ml M a - n) := by rw [← e1, Int32.neg_sub]
        rw [e2]
        have hk : ∀ y, y < 2100 → - nI y ≤ 0 := by decide +kernel
        exact hk _ (by omega)
      exact ⟨fun _ => q, fun _ => this⟩
    · rw [nsb (by omega)]
      exact ⟨fun y => by rw [nL0, nle (by omega) (by omega)] at y; omega, fun y => absurd y q⟩
  · rw [Rw_wr]
    exact ⟨a, k, z, Or.inl rfl, Gx.rf, Or.inl rfl, Nat.le_refl _, Nat.le_refl _, by omega, Nat.le_refl _⟩
  · rw [Rw_wb, Rn_gA a2, Rw_wq]
    unfold gJ5_newCapacity_0f7a4
    rw [Rw_wb, Rn_gA a2, Rw_wb, Rn_gN, Rw_wb, Rn_gI, a3, Rw_wb, Rn_rtn, ← nL0, sh0, Rw_wb, Rn_rtn, Rw_wb, Rn_gI, a3, ← nL0, sh0, nsb (by omega), nL2, nI_add, Rw_wq]
    unfold gJ8_newLength_cabcc
    rw [mx_nI (by omega) (by omega), nI_add]
    have hcap : ∃ C, Ml M a + (if n - Ml M a < Ml M a + 2 then Ml M a + 2 else n - Ml M a) = C ∧ 2 * Ml M a < C ∧ n ≤ C ∧ C ≤ 2 * n ∧ C ≤ 2040 := ⟨_, rfl, by split <;> omega, by split <;> omega, by split <;> omega, by split <;> omega⟩
    obtain ⟨C, eC, h1, h2, h3, h4⟩ := hcap
    rw [eC, Rw_wb, Rn_rtn]
    refine Rw_no (fun y => by rw [nL0, nle (by omega) (by omega)] at y; omega) ?_
    refine Rw_no (fun y => by rw [show (2147483639 : Int32) = nI 2147483639 from rfl, nlt (by omega) (by omega)] at y; omega) ?_
    rw [Rw_wr]
    refine Rw_no (fun y => by rw [show (2147483647 : Int32) = nI 2147483647 from rfl, neq (by omega) (by omega)] at y; omega) ?_
    rw [Rw_wb, Rn_gI, a3, Rw_wr, ← nL0, sr0, Rw_wb, Rn_gI, a3, ← nL0, sh0, Rw_wq]
    unfold gJ7_copyOf_9075b
    rw [Rw_wb, Rn_gN]
    refine Rw_no (fun y => by rw [neq (by omega) (by omega)] at y; omega) ?_
    rw [Rw_wq, Rw_nA (by omega) (by omega), Rw_wb, Rn_gN]
    have hne : a ≠ Mn M := by omega
    have e1 : Ml (nw M 10 C) a = Ml M a := by rw [Ml_nw, if_neg hne]
    have e2 : Ml (nw M 10 C) (Mn M) = C := by rw [Ml_nw, if_pos rfl]
    have e3 : ∀ i, Mi (nw M 10 C) a i = Mi M a i := fun i => by rw [Mi_nw, if_neg hne]
    rw [e1, mm_nI (by omega) (by omega), if_neg (by omega), Rw_wb, nL0, Rn_fun (cpB_eq (kd := 10) (src := a) (d := Mn M) (n := Ml M a) (dp := 0) (M := nw M 10 C) (by rw [e1]; exact Nat.le_refl _) (by rw [e2]; omega) (by rw [e2]; omega) (by rw [e2]; omega) (fun i hi => by rw [e3]; exact d i hi)), Rw_wr, Rw_wb, Rn_pA, Rw_wr]
    have g : Gx (x1 h) (Mn M) M (sR (sCp (nw M 10 C) (Mn M) (Mi (nw M 10 C) a) 0 0 (Ml M a)) h 0 (some (Mn M))) := (((Gx.rf (X := x1 h)).nw (Nat.le_refl _) (by rw [SB_v]; omega)).sCp (fun z => absurd z (Nat.lt_irrefl _))).sR (fun _ => by simp [x1])
    have hh : h ≠ Mn M := by omega
    refine ⟨Mn M, ⟨⟨by have := g.mn; omega, sR_self, ?_, ?_⟩, ⟨by omega, by show Mn M < Mn M + 1; omega, ?_⟩, ⟨?_, ?_, c3⟩, fun i hi => ?_, fun i hi => ?_⟩, ?_, ?_, g, Or.inr (Nat.le_refl _), by show Mn M + 1 + c ≤ _; omega, by omega, by omega, ?_⟩
    · rw [Mi_sR, Mi_sCp, if_neg hh, Mi_nw, if_neg hh]; exact a3
    · rw [Mi_sR, Mi_sCp, if_neg hh, Mi_nw, if_neg hh]; exact a4
    · show Mk (nw M 10 C) (Mn M) = 10; rw [Mk_nw, if_pos rfl]
    · show _ ≤ Ml (nw M 10 C) (Mn M); rw [e2]; omega
    · show Ml (nw M 10 C) (Mn M) ≤ _; rw [e2]; omega
    · rw [Mi_sR, Mi_sCp, if_pos rfl]
      unfold va_cpy
      by_cases q : i < Ml M a
      · rw [if_pos (by omega), Nat.zero_add, Nat.sub_zero, e3]; exact d i q
      · rw [if_neg (by omega), Mi_nw, if_pos rfl]; rfl
    · rw [Mi_sR, Mi_sCp, if_pos rfl]
      unfold va_cpy
      rw [if_pos (by omega), Nat.zero_add, Nat.sub_zero, e3]; exact e i hi
    · show n ≤ Ml (nw M 10 C) (Mn M); rw [e2]; exact h2
    · right; show Ml (nw M 10 C) (Mn M) ≤ _; rw [e2]; exact h3
    · show s + C + _ ≤ s + 2 * Ml (nw M 10 C) (Mn M); rw [e2]; omega
theorem lLat (k : Mi M h 1 = nI 0) {Q : Int32 → Mm → Nat → Nat → Prop} : Rw (gJ5_isLatin1_aae02 h) M c s Q ↔ Q 1 M c s := by
  refine Rw_det ?_
  unfold gJ5_isLatin1_aae02
  refine Rw_no (by decide) ?_
  rw [Rw_wb, Rn_gI]
  refine Rw_yes k ?_
  rw [Rw_grd, Rw_wr]
  exact ⟨by decide, rfl, rfl, rfl, rfl⟩
/-- one more sign -/
theorem lApC (k : isSb M h a xs) (hM : Mn M < 900000000) {y : Nat} (hy : y < 128) (hl : xs.length + 1 ≤ 1000) : Rw (gJ4_append_cf468 h (nI y)) M c s (fun v M' c' s' => v = h ∧ SbA M h a (xs ++ [y]) c s M' c' s') := by
  unfold gJ4_append_cf468 gJ5_append_3fe6f
  rw [Rw_wq, Rw_wb, Rn_gI, k.1.2.2.2, nL1, nI_add, Rw_wq]
  refine (lEns k hM (n := xs.length + 1) (by omega) hl).mono ?_
  rintro - M1 c1 s1 ⟨a1, k1, e1, e2, g1, h1, f1, f2, f3, f4⟩
  rw [Rw_wq, lLat k1.1.2.2.1]
  refine Rw_no (by decide) ?_
  rw [Rw_wq]
  unfold gJ1_canEncode_fc78d
  refine Rw_no (fun z => by rw [show (255 : Int32) = nI 255 from rfl, nlt (by omega) (by omega)] at z; omega) ?_
  rw [Rw_grd, Rw_wr]
  refine ⟨by decide, ?_⟩
  refine Rw_no (by decide) ?_
  rw [Rw_wb, Rn_gA k1.1.2.1, Rw_wb, Rn_gI, k1.1.2.2.2, Rw_wb, Rn_pI, nI_add, Rw_wb, rn_aB (by omega)]
  refine ⟨by show xs.length < Ml M1 a1; omega, ?_⟩
  rw [Rw_wr, Rw_wr, (byt hy).1]
  have hne : a1 ≠ h := by have := k1.2.1.1; omega
  refine ⟨rfl, a1, ?_, ?_, h1, f1, f2, f3, f4, by rw [List.length_append]; exact e2⟩
  · refine k1.put (ys := [y]) rfl rfl (by show 1 + _ ≤ _; omega) hl (fun i hi => ?_) (fun i hi => ?_) (fun i hi => ?_) (fun i hi => ?_) ?_ ?_
    · have : i = 0 := by have : ([y] : List Nat).length = 1 := rfl; omega
      subst this; exact hy
    · rw [Mi_sI, if_neg (by omega), Mi_sI, if_neg (by omega)]
    · have : i = 0 := by have : ([y] : List Nat).length = 1 := rfl; omega
      subst this
      rw [Mi_sI, if_pos ⟨rfl, rfl⟩]; rfl
    · have : ([y] : List Nat).length = 1 := rfl
      rw [Mi_sI, if_neg (by omega), Mi_sI, if_neg (by omega)]
    · rw [Mi_sI, if_neg (by omega), Mi_sI, if_neg (by omega)]
    · rw [Mi_sI, if_neg (by omega), Mi_sI, if_pos ⟨rfl, rfl⟩]; rfl
  · have gg : Gx (x2 h a) (Mn M) M M1 := g1.mono (Nat.le_refl _) (fun q _ z => by unfold x1; unfold x2 at z; simp at z ⊢; exact z.1)
    refine (gg.sI (fun _ => by simp [x2])).sI (fun z => ?_)
    rcases h1 with w | w
    · simp [x2, w]
    · omega
end SBT
