/-! THE REFERENCE'S CODES -/
def xK (h k : Nat) : Bool := (h == 38 && k == 14) || (decide (46 ≤ h) && decide (h ≤ 49))
def xR (h k : Nat) : Bool := (h == 38 && k == 19) || h == 51
def xD (h k : Nat) : Bool := (h == 38 && (k == 16 || k == 17)) || h == 50
def xL (h k : Nat) : Bool := (h == 38 && k == 9) || h == 44 || h == 45
def xCd (h k : Nat) : Bool := xK h k || xR h k || xD h k || xL h k
theorem xK_Cd (a b : Nat) (h : xCd a b = false) : xK a b = false := by unfold xCd at h; cases e : xK a b <;> simp [e] at h ⊢
theorem xR_Cd (a b : Nat) (h : xCd a b = false) : xR a b = false := by unfold xCd at h; cases e : xR a b <;> simp [e] at h ⊢
theorem xD_Cd (a b : Nat) (h : xCd a b = false) : xD a b = false := by unfold xCd at h; cases e : xD a b <;> simp [e] at h ⊢
theorem xL_Cd (a b : Nat) (h : xCd a b = false) : xL a b = false := by unfold xCd at h; cases e : xL a b <;> simp [e] at h ⊢
theorem mLeast {q : Nat} (hq : q < 2147483648) {M : Mm} {Q : Int32 → Mm → Prop} : Rn (fX8_least0 (pl q)) M Q ↔ Q (nI (q - 1)) M := by
  unfold fX8_least0
  rw [nL0]
  by_cases h : 0 + 1 ≤ q
  · rw [if_pos ((pl_ge hq (by omega)).mpr h), Rn_rtn]
    obtain ⟨k, rfl⟩ : ∃ k, q = k + 1 := ⟨q - 1, by omega⟩
    rw [pl_s]; rfl
  · rw [if_neg (fun z => h ((pl_ge hq (by omega)).mp z)), Rn_rtn, show q - 1 = 0 by omega]
theorem mIn3 {a b : Nat} (ha : a ≤ 100) (hb : b ≤ 100) {M : Mm} {Q : Int32 → Mm → Prop} : Rn (fX8_in (nI a - nI b) (-3) 3) M Q ↔ Q (nI (bN (decide (a ≤ b + 3 ∧ b ≤ a + 3)))) M := by
  have e1 : (nI a - nI b).toInt = (a : Int) - b := pk_sub_toInt (by omega) (by omega)
  have e2 : nI a - nI b < -3 ↔ a + 3 < b := by rw [Int32.lt_iff_toInt_lt, e1, show (-3 : Int32).toInt = -3 from by decide]; omega
  have e3 : 3 < nI a - nI b ↔ b + 3 < a := by rw [Int32.lt_iff_toInt_lt, e1, show (3 : Int32).toInt = 3 from by decide]; omega
  unfold fX8_in
  simp only [Rn_ite, Rn_grd, Rn_rtn, e2, e3, nL0, nL1, g00, g01, true_and]
  by_cases q1 : a + 3 < b
  · have : ¬ (a ≤ b + 3 ∧ b ≤ a + 3) := by omega
    simp [q1, this, bN]
  · by_cases q2 : b + 3 < a
    · have : ¬ (a ≤ b + 3 ∧ b ≤ a + 3) := by omega
      simp [q1, q2, this, bN]
    · have : a ≤ b + 3 ∧ b ≤ a + 3 := by omega
      simp [q1, q2, this, bN]
theorem mAdds {M : Mm} {n : Nat} (hM : MO M) (hn : Mi M 38 14 = nI n) (h48 : n < 48) {a b c d : Int32} {Q : Unit → Mm → Prop} : Rn (fX8_adds 38 a b c d) M Q ↔ Q () (sI (sI (sI (sI (sI M 46 n a) 47 n b) 48 n c) 49 n d) 38 14 (nI (n + 1))) := by
  unfold fX8_adds
  have f : ∀ {h k v x}, h ≠ 38 → Mi x 38 14 = nI n → Mi (sI x h k v) 38 14 = nI n := by
    intro h k v x hh hx
    rw [Mi_sI, if_neg (by omega)]; exact hx
  rw [Rn_bnd, mA10 hM, Rn_bnd, Rn_gI, hn, Rn_bnd, rn_aI (by omega), mL46 hM]
  rw [Rn_bnd, mA11 hM.sI, Rn_bnd, Rn_gI, f (by decide) hn, Rn_bnd, rn_aI (by omega), mL47 hM.sI]
  rw [Rn_bnd, mA12 hM.sI.sI, Rn_bnd, Rn_gI, f (by decide) (f (by decide) hn), Rn_bnd, rn_aI (by omega), mL48 hM.sI.sI]
  rw [Rn_bnd, mA13 hM.sI.sI.sI, Rn_bnd, Rn_gI, f (by decide) (f (by decide) (f (by decide) hn)), Rn_bnd, rn_aI (by omega), mL49 hM.sI.sI.sI]
  rw [Rn_bnd, Rn_gI, f (by decide) (f (by decide) (f (by decide) (f (by decide) hn))), Rn_bnd, Rn_pI, Rn_rtn, nL1, nI_add]
  simp [h48]
theorem fb_2 (u w i : Nat) : fb (fun k => chg u k && (bN (u.testBit k) != 2)) w i = fb (fun k => chg u k) w i := by
  congr 1
  funext k
  cases u.testBit k <;> simp [bN]
theorem mDBa {M : Mm} {r w q : Nat} (c : Bool) (hM : MO M) (hw : Mi M 38 9 = nI w) (h40 : w ≤ 40) (hr : isRow (Mi M 45) r) (hq : q ≤ w + 1) {Q : Int32 → Mm → Prop} : Rn (fX8_dotBehind 38 (pl q) (1 - nI (bN c))) M Q ↔ Q (nI (sA w r q c)) M := by
  rw [nL1, bN_1]; exact mDB (!c) hM hw h40 hr hq
theorem mDBe {M : Mm} {r w a : Nat} (c : Bool) (hM : MO M) (hw : Mi M 38 9 = nI w) (h40 : w ≤ 40) (hr : isRow (Mi M 45) r) (ha : a ≤ w) {Q : Int32 → Mm → Prop} : Rn (fX8_dotBehind 38 (nI a) (nI (bN c))) M Q ↔ Q (nI (sE w r a c)) M := by
  rw [← pl_s]; exact mDB c hM hw h40 hr (by omega)
theorem mCBb {M : Mm} {u w q : Nat} (c : Bool) (hM : MO M) (hw : Mi M 38 9 = nI w) (h40 : w ≤ 40) (hu : isRow (Mi M 44) u) (hq : q ≤ w + 1) {Q : Int32 → Mm → Prop} : Rn (fX8_changeBehind 38 (pl q) (nI (bN c))) M Q ↔ Q (nI (sB w u q c)) M :=
  mCB hM hw h40 hu hq (by have := bN_le c; omega)
theorem mCBd {M : Mm} {u w b : Nat} (hM : MO M) (hw : Mi M 38 9 = nI w) (h40 : w ≤ 40) (hu : isRow (Mi M 44) u) (hb : b ≤ w) {Q : Int32 → Mm → Prop} : Rn (fX8_changeBehind 38 (nI b) 2) M Q ↔ Q (nI (sD w u b)) M := by
  rw [← pl_s, show (2 : Int32) = nI 2 from rfl, mCB hM hw h40 hu (by omega) (Nat.le_refl 2), fb_2]; rfl
theorem mCodes {M : Mm} {w r u : Nat} (hM : MO M) (hw : Mi M 38 9 = nI w) (h40 : w ≤ 40) (hr : isRow (Mi M 45) r) (hu : isRow (Mi M 44) u) : Rn (fX8_codes 38) M (fun _ M' => XF xK M M' ∧ Mi M' 38 14 = nI (cod w r u).length ∧ isCd (Mi M' 46) (Mi M' 47) (Mi M' 48) (Mi M' 49) (cod w r u)) := by
  unfold fX8_codes
  rw [Rn_bnd, Rn_pI, show (-1 : Int32) = pl 0 from pl_0, show (0 : Int32) = nI (bN false) from rfl]
  refine rn_loopv (F := fun n (s : Nat × Bool) => fX8_codes_L9 n 38 (pl s.1) (nI (bN s.2))) (fun s M' => ∃ L, XF xK M M' ∧ Mi M' 38 14 = nI L.length ∧ isCd (Mi M' 46) (Mi M' 47) (Mi M' 48) (Mi M' 49) L ∧ L ++ cRest w r u s.1 s.2 = cod w r u ∧ L.length ≤ s.1 ∧ s.1 ≤ w + 1) (fun s => w + 1 - s.1) ?_ fu (0, false) _ (by show w + 1 - 0 < fu; unfold fu; omega) ⟨[], XF.rf.sI rfl, by rw [Mi_sI, if_pos ⟨rfl, rfl⟩]; rfl, isCd_nil _ _ _ _, rfl, Nat.le_refl _, Nat.zero_le _⟩
  rintro n ⟨q, c⟩ M1 ⟨L, hx, hn, hc, hL, hl, hq⟩ ih
  have hq : q ≤ w + 1 := hq
  have hl : L.length ≤ q := hl
  show Rn (fX8_codes_L9 (n + 1) 38 (pl q) (nI (bN c))) M1 _
  have hM1 := hM.xf hx
  have hw1 : Mi M1 38 9 = nI w := by rw [hx.mi rfl]; exact hw
  have hr1 : isRow (Mi M1 45) r := by rw [hx.row (fun _ => rfl)]; exact hr
  have hu1 : isRow (Mi M1 44) u := by rw [hx.row (fun _ => rfl)]; exact hu
  unfold fX8_codes_L9
  rw [Rn_bnd, Rn_gI, hw1]
  refine Rn_cs (pl_eq (by omega) (by omega)) (fun h => ?_) (fun h => ?_)
  · rw [Rn_rtn]
    subst h
    rw [cRest_end, List.append_nil] at hL
    rw [← hL]
    exact ⟨hx, hn, hc⟩
  · have hqw : q ≤ w := by omega
    have hs := cStep_q (r := r) (u := u) (c := c) hqw
    rw [cRest_s hqw] at hL
    have a2 := sA_le w r q c
    have a1 := sA_ge (r := r) (c := c) hqw
    have b2 := sB_le w u q c
    have d2 := sD_le w u (sB w u q c)
    have e2 := sE_le w r (sA w r q c) c
    rw [Rn_bnd, mDBa c hM1 hw1 h40 hr1 hq, Rn_bnd, mCBb c hM1 hw1 h40 hu1 hq, Rn_bnd, Rn_gI, hw1]
    have key : Rn (fX8_codes_L57 (fX8_codes_L9 n) 38 (pl q) (nI (bN c)) (nI (sA w r q c)) (nI (sB w u q c)) (nI (sD w u (sB w u q c)))) M1 (fun _ M' => XF xK M M' ∧ Mi M' 38 14 = nI (cod w r u).length ∧ isCd (Mi M' 46) (Mi M' 47) (Mi M' 48) (Mi M' 49) (cod w r u)) := by
      have fin : ∀ (a b c' d : Int32) (q' : Nat) (c2 : Bool), cStep w r u q c = ((a, b, c', d), q', c2) → Rn (fX8_codes_L9 n 38 (pl q') (nI (bN c2))) (sI (sI (sI (sI (sI M1 46 L.length a) 47 L.length b) 48 L.length c') 49 L.length d) 38 14 (nI (L.length + 1))) (fun _ M' => XF xK M M' ∧ Mi M' 38 14 = nI (cod w r u).length ∧ isCd (Mi M' 46) (Mi M' 47) (Mi M' 48) (Mi M' 49) (cod w r u)) := by
        intro a b c' d q' c2 he
        rw [he] at hs hL
        refine ih (q', c2) _ ⟨L ++ [(a, b, c', d)], ((((hx.sI rfl).sI rfl).sI rfl).sI rfl).sI rfl, ?_, ?_, ?_, ?_, hs.2⟩ (by show w + 1 - q' < w + 1 - q; have z : q < q' := hs.1; omega)
        · rw [Mi_sI, if_pos ⟨rfl, rfl⟩, List.length_append]; rfl
        · refine isCd_add hc ?_ ?_ ?_ ?_ ?_ ?_ ?_ ?_
          · intro i hi; simp [Mi_sI]; omega
          · intro i hi; simp [Mi_sI]; omega
          · intro i hi; simp [Mi_sI]; omega
          · intro i hi; simp [Mi_sI]; omega
          · simp [Mi_sI]
          · simp [Mi_sI]
          · simp [Mi_sI]
          · simp [Mi_sI]
        · rw [List.append_assoc]; exact hL
        · rw [List.length_append]; have z : q < q' := hs.1; show L.length + 1 ≤ q'; omega
      unfold fX8_codes_L57 fX8_codes_L156
      refine Rn_cs (nle (by omega) (by omega)) (fun hD => ?_) (fun hD => ?_)
      · rw [Rn_bnd, mIn3 (by omega) (by omega), nL0]
        by_cases h3 : sA w r q c ≤ sB w u q c + 3 ∧ sB w u q c ≤ sA w r q c + 3
        · rw [if_neg (by rw [bN_0]; simp [h3]), Rn_bnd, mAdds hM1 hn (by omega), Rn_bnd, Rn_rtn, nL1, bN_1, ← pl_s (sA w r q c)]
          refine fin (nI 1) _ _ _ _ _ ?_
          unfold cStep
          rw [if_neg (by omega), if_pos h3, pl_s]
        · rw [if_pos (by rw [bN_0]; simp only [decide_eq_false_iff_not]; exact h3), Rn_bnd, Rn_gI, hw1]
          have key2 : Rn (fX8_codes_L134 (fX8_codes_L9 n) 38 (pl q) (nI (bN c)) (nI (sA w r q c)) (nI (sE w r (sA w r q c) c))) M1 (fun _ M' => XF xK M M' ∧ Mi M' 38 14 = nI (cod w r u).length ∧ isCd (Mi M' 46) (Mi M' 47) (Mi M' 48) (Mi M' 49) (cod w r u)) := by
            have e1 := sE_ge (r := r) (c := c) a2
            unfold fX8_codes_L134 fX8_codes_L156
            rw [Rn_bnd, mLeast (by omega), Rn_bnd, nsb (by omega), nsb e1, show (2 : Int32) = nI 2 from rfl, mAdds hM1 hn (by omega), ← pl_s (sE w r (sA w r q c) c)]
            refine fin _ _ _ _ _ _ ?_
            unfold cStep
            rw [if_neg (by omega), if_neg h3, pl_s]
          refine Rn_cs (neq (by omega) (by omega)) (fun hA => ?_) (fun hA => ?_)
          · rw [Rn_bnd, Rn_gI, hw1]
            have : sE w r (sA w r q c) c = w := by unfold sE; rw [fb_ge_w (by omega)]
            rw [this] at key2
            exact key2
          · rw [Rn_bnd, mDBe c hM1 hw1 h40 hr1 a2]
            exact key2
      · rw [Rn_bnd, show (0 : Int32) = nI 0 from rfl, mAdds hM1 hn (by omega), ← pl_s (sD w u (sB w u q c))]
        refine fin _ _ _ _ _ _ ?_
        unfold cStep
        rw [if_pos (by omega), pl_s]
    refine Rn_cs (neq (by omega) (by omega)) (fun hB => ?_) (fun hB => ?_)
    · have : sD w u (sB w u q c) = w := by unfold sD; rw [fb_ge_w (by omega)]
      rw [this] at key
      rw [Rn_bnd, Rn_gI, hw1]
      exact key
    · rw [Rn_bnd, mCBd hM1 hw1 h40 hu1 b2]
      exact key
