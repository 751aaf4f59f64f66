/-! THE CLASS: a code is made and read -/
def CdO (M : Mm) (h : Nat) : Prop := Mr M h 2 = some (h + 1) ∧ Mr M h 3 = some (h + 2) ∧ Mr M h 4 = some (h + 3) ∧ Mr M h 5 = some (h + 4) ∧ Mr M h 6 = some (h + 5) ∧ Ml M (h + 1) = 41 ∧ Ml M (h + 2) = 41 ∧ Ml M (h + 3) = 41 ∧ Ml M (h + 4) = 41
theorem CdO.xf {X : Nat → Nat → Bool} {M M1 : Mm} {h : Nat} (o : CdO M h) (x : XF X M M1) : CdO M1 h := by
  unfold CdO; rw [x.mr, x.ml]; exact o
theorem CO.c16 {M : Mm} (h : CO M) : CdO M 16 := ⟨cR16_2 h, cR16_3 h, cR16_4 h, cR16_5 h, cR16_6 h, cL17 h, cL18 h, cL19 h, cL20 h⟩
theorem CO.c31 {M : Mm} (h : CO M) : CdO M 31 := ⟨cR31_2 h, cR31_3 h, cR31_4 h, cR31_5 h, cR31_6 h, cL32 h, cL33 h, cL34 h, cL35 h⟩
def isCC (M : Mm) (h : Nat) (L : List Md) : Prop := Mi M h 0 = nI L.length ∧ Mi M h 1 = nI (mS L) ∧ isCd (Mi M (h + 1)) (Mi M (h + 2)) (Mi M (h + 3)) (Mi M (h + 4)) L
def xCo (h a _ : Nat) : Bool := decide (h ≤ a) && decide (a ≤ h + 5)
theorem xCo_t {h a b : Nat} (h1 : h ≤ a) (h2 : a ≤ h + 5) : xCo h a b = true := by unfold xCo; simp [h1, h2]
theorem xH_Co (h a b : Nat) (z : xCo h a b = false) : xH (h + 5) a b = false := by
  unfold xCo at z; unfold xH
  simp at z ⊢; omega
section CCode
variable {M : Mm} {h w r u : Nat}
theorem cPut (o : CdO M h) {L : List Md} (hc : isCC M h L) (hL : L.length < 41) {q : Nat} {c : Bool} (hr : isR0 M (h + 5) w u q c) {q' : Nat} (hq' : q' ≤ w) {a b d : Int32} : Rn (fX0_putMode h a b d (nI q')) M (fun _ M' => XF (xCo h) M M' ∧ Mi M' h 1 = Mi M h 1 ∧ Mi M' h 0 = nI (L.length + 1) ∧ isCd (Mi M' (h + 1)) (Mi M' (h + 2)) (Mi M' (h + 3)) (Mi M' (h + 4)) (L ++ [(a, b, d, nI q')]) ∧ isR0 M' (h + 5) w u (q' + 1) c) := by
  obtain ⟨o2, o3, o4, o5, o6, l1, l2, l3, l4⟩ := o
  obtain ⟨c0, c1, cd⟩ := hc
  obtain ⟨r1, r2, r3, r5, r6, r7⟩ := hr
  unfold fX0_putMode
  have e0 : Mi (sI M (h + 5) 1 (nI q')) h 0 = nI L.length := by rw [Mi_sI, if_neg (by omega)]; exact c0
  rw [Rn_bnd, Rn_gA o6, Rn_bnd, Rn_pI, Rn_bnd, Rn_gI, e0]
  rw [if_neg (by rw [nL0, nlt (by omega) (by omega)]; omega), Rn_bnd, Rn_gI, e0]
  rw [if_pos (by rw [nL41, nlt (by omega) (by omega)]; exact hL)]
  rw [Rn_bnd, Rn_gA (show Mr (sI M (h + 5) 1 (nI q')) h 2 = some (h + 1) from o2), Rn_bnd, Rn_gI, Mi_sI, if_neg (by omega), c0, Rn_bnd, rn_aI (by omega)]
  refine ⟨by show _ < Ml M (h + 1); rw [l1]; exact hL, ?_⟩
  rw [Rn_bnd, Rn_gA (show Mr (sI (sI M (h + 5) 1 (nI q')) (h + 1) L.length a) h 3 = some (h + 2) from o3), Rn_bnd, Rn_gI, Mi_sI, if_neg (by omega), Mi_sI, if_neg (by omega), c0, Rn_bnd, rn_aI (by omega)]
  refine ⟨by show _ < Ml M (h + 2); rw [l2]; exact hL, ?_⟩
  rw [Rn_bnd, Rn_gA (show Mr (sI (sI (sI M (h + 5) 1 (nI q')) (h + 1) L.length a) (h + 2) L.length b) h 4 = some (h + 3) from o4), Rn_bnd, Rn_gI, Mi_sI, if_neg (by omega), Mi_sI, if_neg (by omega), Mi_sI, if_neg (by omega), c0, Rn_bnd, rn_aI (by omega)]
  refine ⟨by show _ < Ml M (h + 3); rw [l3]; exact hL, ?_⟩
  rw [Rn_bnd, Rn_gA (show Mr (sI (sI (sI (sI M (h + 5) 1 (nI q')) (h + 1) L.length a) (h + 2) L.length b) (h + 3) L.length d) h 5 = some (h + 4) from o5), Rn_bnd, Rn_gI, Mi_sI, if_neg (by omega), Mi_sI, if_neg (by omega), Mi_sI, if_neg (by omega), Mi_sI, if_neg (by omega), c0, Rn_bnd, rn_aI (by omega)]
  refine ⟨by show _ < Ml M (h + 4); rw [l4]; exact hL, ?_⟩
  rw [Rn_bnd, Rn_gI, Mi_sI, if_neg (by omega), Mi_sI, if_neg (by omega), Mi_sI, if_neg (by omega), Mi_sI, if_neg (by omega), Mi_sI, if_neg (by omega), c0, Rn_bnd, Rn_pI, Rn_rtn, nL1, nI_add]
  have X : ∀ a b, h ≤ a → a ≤ h + 5 → xCo h a b = true := fun a b h1 h2 => xCo_t h1 h2
  refine ⟨(((((XF.rf.sI (X _ _ (by omega) (by omega))).sI (X _ _ (by omega) (by omega))).sI (X _ _ (by omega) (by omega))).sI (X _ _ (by omega) (by omega))).sI (X _ _ (by omega) (by omega))).sI (X _ _ (by omega) (by omega)), ?_, ?_, ?_, ?_⟩
  · simp only [Mi_sI]; simp
  · exact sI_self
  · refine isCd_add cd ?_ ?_ ?_ ?_ ?_ ?_ ?_ ?_
    · intro i hi; simp only [Mi_sI]; simp; omega
    · intro i hi; simp only [Mi_sI]; simp; omega
    · intro i hi; simp only [Mi_sI]; simp; omega
    · intro i hi; simp only [Mi_sI]; simp; omega
    · simp only [Mi_sI]; simp
    · simp only [Mi_sI]; simp
    · simp only [Mi_sI]; simp
    · simp only [Mi_sI]; simp
  · refine ⟨?_, ?_, ?_, r5, r6, by omega⟩
    · simp only [Mi_sI]; simp; exact r1
    · simp only [Mi_sI]; simp; exact (pl_s q').symm
    · simp only [Mi_sI]; simp; exact r3
theorem cNB {x : Int32} {M : Mm} {Q : Int32 → Mm → Prop} : Rn (fX7_numberBits x) M Q ↔ Q (nI (nbI x)) M := by
  unfold fX7_numberBits nbI
  by_cases h : 8 ≤ x
  · rw [if_pos h, if_pos h, Rn_rtn]; rfl
  · rw [if_neg h, if_neg h, Rn_rtn]; rfl
theorem cVB {x : Int32} {M : Mm} {Q : Int32 → Mm → Prop} {y z : Int32} : Rn (fX0_verticalBits x) M Q ↔ Q (nI (mB (nI 1, x, y, z))) M := by
  refine Rn_det ?_
  have e : mB (nI 1, x, y, z) = (if (if 0 ≤ x then x else -x) = nI 0 then 1 else if (if 0 ≤ x then x else -x) = nI 1 then 3 else if (if 0 ≤ x then x else -x) = nI 2 then 6 else 7) := by
    unfold mB; rw [if_neg (by show ¬ nI 1 = nI 0; decide), if_neg (by show ¬ nI 1 = nI 2; decide)]
  have ma : mabs x = if 0 ≤ x then x else -x := by unfold mabs; rw [Int32.zero_sub]
  rw [e]
  unfold fX0_verticalBits
  rw [ma]
  refine Rn_cs (d := (if 0 ≤ x then x else -x) = nI 0) Iff.rfl (fun g => ?_) (fun g => ?_)
  · rw [Rn_rtn, if_pos g]; exact ⟨rfl, rfl⟩
  · refine Rn_cs (d := (if 0 ≤ x then x else -x) = nI 1) Iff.rfl (fun g1 => ?_) (fun g1 => ?_)
    · rw [Rn_rtn, if_neg g, if_pos g1]; exact ⟨rfl, rfl⟩
    · refine Rn_cs (d := (if 0 ≤ x then x else -x) = nI 2) Iff.rfl (fun g2 => ?_) (fun g2 => ?_)
      · rw [Rn_rtn, if_neg g, if_neg g1, if_pos g2]; exact ⟨rfl, rfl⟩
      · rw [Rn_rtn, if_neg g, if_neg g1, if_neg g2]; exact ⟨rfl, rfl⟩
theorem cAdd (o : CdO M h) (h40 : w ≤ 40) (hr : r < 2 ^ w) {L : List Md} (hc : isCC M h L) (hL : L.length < 41) {q : Nat} {c : Bool} (hq : q ≤ w) (h0 : isR0 M (h + 5) w u q c) (hk : isLk M (h + 5) w u q c) : Rn (fX0_addMode h (lN r) (nI w)) M (fun _ M' => XF (xCo h) M M' ∧ isCC M' h (L ++ [(cStep w r u q c).1]) ∧ isR0 M' (h + 5) w u (cStep w r u q c).2.1 (cStep w r u q c).2.2) := by
  have X : ∀ a b, h ≤ a → a ≤ h + 5 → xCo h a b = true := fun a b h1 h2 => xCo_t h1 h2
  obtain ⟨o2, o3, o4, o5, o6, l1, l2, l3, l4⟩ := id o
  obtain ⟨r1, r2, r3, r5, r6, r7⟩ := id h0
  have p40 : 2 ^ w ≤ 2 ^ 40 := pw_le h40
  have hr64 : r < 2 ^ 64 := by omega
  have a2 := sA_le w r q c
  have a1 := sA_ge (r := r) (c := c) hq
  have b2 := sB_le w u q c
  have d2 := sD_le w u (sB w u q c)
  have e2 := sE_le w r (sA w r q c) c
  have e1 := sE_ge (r := r) (c := c) a2
  -- the end of each way: bits are added
  have fin : ∀ (M1 : Mm) (k a b : Int32) (q' : Nat) (c2 : Bool), cStep w r u q c = ((k, a, b, nI q'), q' + 1, c2) → XF (xCo h) M M1 → Mi M1 h 1 = nI (mS L) → Mi M1 h 0 = nI (L.length + 1) → isCd (Mi M1 (h + 1)) (Mi M1 (h + 2)) (Mi M1 (h + 3)) (Mi M1 (h + 4)) (L ++ [(k, a, b, nI q')]) → isR0 M1 (h + 5) w u (q' + 1) c2 → (XF (xCo h) M (sI M1 h 1 (nI (mS L + mB (k, a, b, nI q')))) ∧ isCC (sI M1 h 1 (nI (mS L + mB (k, a, b, nI q')))) h (L ++ [(cStep w r u q c).1]) ∧ isR0 (sI M1 h 1 (nI (mS L + mB (k, a, b, nI q')))) (h + 5) w u (cStep w r u q c).2.1 (cStep w r u q c).2.2) := by
    intro M1 k a b q' c2 he x1 m1 n1 cd rr
    rw [he]
    refine ⟨x1.sI (X _ _ (by omega) (by omega)), ⟨?_, ?_, ?_⟩, ?_⟩
    · rw [Mi_sI, if_neg (by omega), n1, List.length_append]; rfl
    · rw [sI_self, mS_add]
    · have ne : ∀ d, d ≠ h → Mi (sI M1 h 1 (nI (mS L + mB (k, a, b, nI q')))) d = Mi M1 d := fun d hd => by funext z; rw [Mi_sI, if_neg (fun t => hd t.1)]
      rw [ne _ (by omega), ne _ (by omega), ne _ (by omega), ne _ (by omega)]; exact cd
    · obtain ⟨t1, t2, t3, t5, t6, t7⟩ := rr
      exact ⟨by rw [Mi_sI, if_neg (by omega)]; exact t1, by rw [Mi_sI, if_neg (by omega)]; exact t2, by rw [Mi_sI, if_neg (by omega)]; exact t3, t5, t6, t7⟩
  have key : ∀ y : Nat, y < 2 ^ 64 → (∀ k, k < w → y.testBit k = (r.testBit k == c)) → Rn (fX0_addMode_L19 h (nI w) (lN y)) M (fun _ M' => XF (xCo h) M M' ∧ isCC M' h (L ++ [(cStep w r u q c).1]) ∧ isR0 M' (h + 5) w u (cStep w r u q c).2.1 (cStep w r u q c).2.2) := by
    intro y hy hyb
    have hs : y % 2 ^ w < 2 ^ w := Nat.mod_lt _ (Nat.two_pow_pos w)
    have sb : ∀ k, k < w → (y % 2 ^ w).testBit k = (r.testBit k == c) := fun k hk => by rw [Nat.testBit_mod_two_pow, hyb k hk]; simp [hk]
    generalize hsd : y % 2 ^ w = sm1 at hs sb
    have ho : (sm1 ^^^ (2 ^ 64 - 1)) % 2 ^ w < 2 ^ w := Nat.mod_lt _ (Nat.two_pow_pos w)
    have ob : ∀ k, k < w → ((sm1 ^^^ (2 ^ 64 - 1)) % 2 ^ w).testBit k = (r.testBit k == !c) := fun k hk => by
      rw [Nat.testBit_mod_two_pow, Nat.testBit_xor, Nat.testBit_two_pow_sub_one, sb k hk]
      have : k < 64 := by omega
      simp [hk, this]
      cases r.testBit k <;> cases c <;> rfl
    have em : lN y &&& lN (2 ^ w - 1) = lN sm1 := by rw [wb_mask hy (by omega), hsd]
    have eo : (lN sm1 ^^^ (-1)) &&& lN (2 ^ w - 1) = lN ((sm1 ^^^ (2 ^ 64 - 1)) % 2 ^ w) := by
      rw [show (-1 : Int64) = lN (2 ^ 64 - 1) from by decide +kernel, lN_xr (by omega) (by decide), wb_mask (Nat.xor_lt_two_pow (by omega) (by decide)) (by omega)]
    generalize (sm1 ^^^ (2 ^ 64 - 1)) % 2 ^ w = ot at ho ob eo
    have eA : fb (fun k => ot.testBit k) w q = sA w r q c := fb_cg (fun k _ hk => ob k hk)
    have eE : fb (fun k => sm1.testBit k) w (sA w r q c + 1) = sE w r (sA w r q c) c := fb_cg (fun k _ hk => sb k hk)
    unfold fX0_addMode_L19
    rw [Rn_bnd, fAll (by omega), Rn_bnd, Rn_rtn, em, Rn_bnd, fAll (by omega), Rn_bnd, Rn_rtn, eo, Rn_bnd, Rn_gA o6, Rn_bnd, Rn_gI, r2, Rn_bnd, fFB h40 ho (by omega), eA, Rn_bnd, Rn_gA o6, Rn_bnd, Rn_gI, hk.1, Rn_bnd, Rn_rtn, Rn_bnd, Rn_gA o6, Rn_bnd, Rn_gI, hk.2]
    refine Rn_cs (nle (by omega) (by omega)) (fun g => ?_) (fun g => ?_)
    · have c1 : nI (sA w r q c) - nI (sB w u q c) < -3 ↔ sA w r q c + 3 < sB w u q c := by
        rw [Int32.lt_iff_toInt_lt, pk_sub_toInt (by omega) (by omega), show (-3 : Int32).toInt = -3 from by decide]; omega
      have c2 : 3 < nI (sA w r q c) - nI (sB w u q c) ↔ sB w u q c + 3 < sA w r q c := by
        rw [Int32.lt_iff_toInt_lt, pk_sub_toInt (by omega) (by omega), show (3 : Int32).toInt = 3 from by decide]; omega
      have hori : ¬ (sA w r q c ≤ sB w u q c + 3 ∧ sB w u q c ≤ sA w r q c + 3) → Rn (fX0_addMode_L167 h (nI w) (lN sm1) (nI (sA w r q c))) M (fun _ M' => XF (xCo h) M M' ∧ isCC M' h (L ++ [(cStep w r u q c).1]) ∧ isR0 M' (h + 5) w u (cStep w r u q c).2.1 (cStep w r u q c).2.2) := by
        intro g3
        have est : cStep w r u q c = ((nI 2, nI (sA w r q c - (q - 1)), nI (sE w r (sA w r q c) c - sA w r q c), nI (sE w r (sA w r q c) c)), sE w r (sA w r q c) c + 1, c) := by
          unfold cStep; rw [if_neg (by omega), if_neg g3]
        have k2 : Rn (fX0_addMode_L190 h (nI w) (lN sm1) (nI (sA w r q c)) (nI (q - 1)) (nI (sA w r q c))) M (fun _ M' => XF (xCo h) M M' ∧ isCC M' h (L ++ [(cStep w r u q c).1]) ∧ isR0 M' (h + 5) w u (cStep w r u q c).2.1 (cStep w r u q c).2.2) := by
          unfold fX0_addMode_L190
          rw [Rn_bnd, Rn_rtn, nsb (by omega), Rn_bnd, ← pl_s (sA w r q c), fFB h40 hs (by omega), eE, pl_s, nsb e1, Rn_bnd]
          refine (cPut o hc hL h0 e2).mono ?_
          rintro - M1 ⟨x1, m1, n1, cd, rr⟩
          rw [Rn_bnd, Rn_gI, m1, hc.2.1, Rn_bnd, cNB, Rn_bnd, cNB, Rn_bnd, Rn_pI, Rn_rtn, nL3, nI_add, nI_add, nI_add]
          have := fin M1 (nI 2) _ _ _ c est x1 (by rw [m1]; exact hc.2.1) n1 cd rr
          have eb : mB (nI 2, nI (sA w r q c - (q - 1)), nI (sE w r (sA w r q c) c - sA w r q c), nI (sE w r (sA w r q c) c)) = 3 + nbI (nI (sA w r q c - (q - 1))) + nbI (nI (sE w r (sA w r q c) c - sA w r q c)) := by
            unfold mB; rw [if_neg (by show ¬ nI 2 = nI 0; decide), if_pos rfl]
          rw [eb] at this
          exact this
        unfold fX0_addMode_L167
        rw [Rn_bnd, Rn_gA o6, Rn_bnd, Rn_gI, r2]
        refine Rn_cs (pl_0ge (by omega)) (fun g4 => ?_) (fun g4 => ?_)
        · rw [Rn_bnd, Rn_gA o6, Rn_bnd, Rn_gI, r2]
          rw [pl_p g4] at k2; exact k2
        · rw [show nI (q - 1) = 0 from by rw [show q - 1 = 0 by omega]; rfl] at k2; exact k2
      refine Rn_cs c1 (fun g1 => hori (by omega)) (fun g1 => ?_)
      refine Rn_cs c2 (fun g2 => hori (by omega)) (fun g2 => ?_)
      have est : cStep w r u q c = ((nI 1, nI (sA w r q c) - nI (sB w u q c), nI 0, nI (sA w r q c)), sA w r q c + 1, !c) := by
        unfold cStep; rw [if_neg (by omega), if_pos (by omega)]
      rw [Rn_bnd]
      refine (cPut o hc hL h0 a2).mono ?_
      rintro - M1 ⟨x1, m1, n1, cd, rr⟩
      have o1 := o.xf x1
      rw [Rn_bnd, Rn_gI, m1, hc.2.1, Rn_bnd, cVB (y := nI 0) (z := nI (sA w r q c)), Rn_bnd, Rn_pI, nI_add]
      have ha : ∀ v, Mr (sI M1 h 1 v) h 6 = some (h + 5) := fun v => o1.2.2.2.2.1
      have ec : ∀ v, Mi (sI M1 h 1 v) (h + 5) 2 = nI (bN c) := fun v => by rw [Mi_sI, if_neg (by omega)]; exact rr.2.2.1
      rw [Rn_bnd, Rn_gA (ha _), Rn_bnd, Rn_gA (ha _), Rn_bnd, Rn_gI, ec]
      have z : ∀ c2 : Bool, c2 = !c → Rn (fX0_addMode_L161 (nI (bN c2)) (h + 5)) (sI M1 h 1 (nI (mS L + mB (nI 1, nI (sA w r q c) - nI (sB w u q c), nI 0, nI (sA w r q c))))) (fun _ M' => XF (xCo h) M M' ∧ isCC M' h (L ++ [(cStep w r u q c).1]) ∧ isR0 M' (h + 5) w u (cStep w r u q c).2.1 (cStep w r u q c).2.2) := by
        rintro c2 rfl
        unfold fX0_addMode_L161
        rw [Rn_bnd, Rn_pZ]
        refine ⟨bN_g _, ?_⟩
        rw [Rn_rtn]
        rw [est]
        obtain ⟨t1, t2, t3, t5, t6, t7⟩ := rr
        have ne : ∀ (v v' : Int32) (d : Nat), d ≠ h → d ≠ h + 5 → Mi (sI (sI M1 h 1 v) (h + 5) 2 v') d = Mi M1 d := fun v v' d hd hd' => by funext z; rw [Mi_sI, if_neg (fun t => hd' t.1), Mi_sI, if_neg (fun t => hd t.1)]
        refine ⟨(x1.sI (X _ _ (by omega) (by omega))).sI (X _ _ (by omega) (by omega)), ⟨?_, ?_, ?_⟩, ?_, ?_, ?_, t5, t6, t7⟩
        · rw [Mi_sI, if_neg (by omega), Mi_sI, if_neg (by omega), n1, List.length_append]; rfl
        · rw [Mi_sI, if_neg (by omega), sI_self, mS_add]
        · rw [ne _ _ _ (by omega) (by omega), ne _ _ _ (by omega) (by omega), ne _ _ _ (by omega) (by omega), ne _ _ _ (by omega) (by omega)]; exact cd
        · rw [Mi_sI, if_neg (by omega), Mi_sI, if_neg (by omega)]; exact t1
        · rw [Mi_sI, if_neg (by omega), Mi_sI, if_neg (by omega)]; exact t2
        · rw [sI_self]
      refine Rn_cs (bN_0 c) (fun g3 => ?_) (fun g3 => ?_)
      · exact z true (by rw [g3]; rfl)
      · exact z false (by rw [show c = true by simpa using g3]; rfl)
    · have est : cStep w r u q c = ((nI 0, nI 0, nI 0, nI (sD w u (sB w u q c))), sD w u (sB w u q c) + 1, c) := by
        unfold cStep; rw [if_pos (by omega)]
      rw [Rn_bnd, Rn_gA o6, Rn_bnd, Rn_gI, hk.2, Rn_bnd, show (0 : Int32) = nI 0 from rfl]
      refine (cPut o hc hL h0 d2).mono ?_
      rintro - M1 ⟨x1, m1, n1, cd, rr⟩
      rw [Rn_bnd, Rn_gI, m1, hc.2.1, Rn_bnd, Rn_pI, Rn_rtn, nL4, nI_add]
      exact fin M1 (nI 0) _ _ _ c est x1 (by rw [m1]; exact hc.2.1) n1 cd rr
  unfold fX0_addMode
  rw [Rn_bnd, Rn_gA o6, Rn_bnd, Rn_gI, r3]
  refine Rn_cs (bN_0 c) (fun g => ?_) (fun g => ?_)
  · rw [show (-1 : Int64) = lN (2 ^ 64 - 1) from by decide +kernel, lN_xr hr64 (by decide)]
    refine key _ (Nat.xor_lt_two_pow hr64 (by decide)) (fun k hk => ?_)
    rw [Nat.testBit_xor, Nat.testBit_two_pow_sub_one, g]
    have : k < 64 := by omega
    simp [this]
  · have g : c = true := by simpa using g
    exact key r hr64 (fun k hk => by rw [g]; simp)
end CCode

