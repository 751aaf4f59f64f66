/-! THE REFERENCE over new handles; its text, byte by byte -/
theorem MO.xg {X : Nat → Nat → Bool} {M M1 : Mm} (h : MO M) (hn : 62 ≤ Mn M) (x : XG X M M1) : MO M1 := by
  refine ⟨fun k hk => ?_, fun a h1 h2 => ?_⟩
  · rw [(x.2 38 (by omega)).2.2 (by omega) (by omega)]; exact h.1 k hk
  · rw [(x.2 a (by omega)).1]; exact h.2 a h1 h2
def isTxM (M : Mm) (x : Tx) : Prop := Mi M 38 32 = nI x.2 ∧ x.2 ≤ 900 ∧ (∀ i, i < x.2 → Mi M 58 i = (nI (x.1 i)).toInt8.toInt32) ∧ ∀ i, i < x.2 → x.1 i < 256
theorem sb_and : ∀ b, b < 256 → (nI b).toInt8.toInt32 &&& 255 = nI b := by decide +kernel
theorem sb_eq {b c : Nat} (hb : b < 256) (hc : c < 128) : (nI b).toInt8.toInt32 = nI c ↔ b = c := by
  constructor
  · intro h
    have h1 := sb_and b hb
    have h2 : ∀ c, c < 128 → nI c &&& 255 = nI c := by decide +kernel
    rw [h, h2 c hc, neq (by omega) (by omega)] at h1
    exact h1.symm
  · rintro rfl
    have h3 : ∀ c, c < 128 → (nI c).toInt8.toInt32 = nI c := by decide +kernel
    exact h3 b hc
theorem isTxM.xf {X : Nat → Nat → Bool} {M M1 : Mm} {x : Tx} (h : isTxM M x) (f : XF X M M1) (z : X 38 32 = false) (z2 : ∀ i, X 58 i = false) : isTxM M1 x :=
  ⟨by rw [f.mi z]; exact h.1, h.2.1, fun i hi => by rw [f.mi (z2 i)]; exact h.2.2.1 i hi, h.2.2.2⟩
/-- the reference's sorts: semicolon 4, minus 5 -/
def srM (k : Nat) : Nat := if k = 4 then 5 else if k = 5 then 4 else k
section MText
variable {M : Mm} {x : Tx}
theorem mSee (hM : MO M) (hx : isTxM M x) {i : Nat} (hi : i < 2147483648) (hp : Mi M 38 33 = nI i) {Q : Int32 → Mm → Prop} : Rn (fX8_see 38) M Q ↔ Q (bI (bAt x i)) M := by
  refine Rn_det ?_
  obtain ⟨h0, h9, hb, h256⟩ := hx
  unfold fX8_see bI bAt
  rw [Rn_bnd, Rn_gI, hp, Rn_bnd, Rn_gI, h0]
  refine Rn_cs (nle (by omega) hi) (fun g => ?_) (fun g => ?_)
  · rw [Rn_rtn, if_neg (show ¬ i < x.2 by omega), if_pos rfl]; exact ⟨rfl, rfl⟩
  · have := h256 i (by omega)
    rw [if_pos (show i < x.2 by omega), if_neg (show ¬ x.1 i = 256 by omega), Rn_bnd, mA31 hM, Rn_bnd, Rn_gI, hp, Rn_bnd, rn_lI hi, mL58 hM, Rn_rtn, hb i (by omega), sb_and _ this]
    exact ⟨by omega, rfl, rfl⟩
theorem mSort {b : Nat} (hb : b ≤ 256) {Q : Int32 → Mm → Prop} : Rn (fX8_sortOf (bI b)) M Q ↔ Q (nI (srM (srt b))) M := by
  refine Rn_det ?_
  unfold fX8_sortOf bI
  by_cases h : b = 256
  · rw [if_pos h, if_pos rfl, Rn_rtn, h]; exact ⟨rfl, rfl⟩
  · rw [if_neg h, if_neg (ne_m1 (by omega)), Rn_bnd, mIn (x := b) (a := 97) (b := 122) (lo := 97) (hi := 122) rfl rfl rfl (by omega) (by omega) (by omega)]
    refine Rn_cs (bN_0 _) (fun g => ?_) (fun g => ?_)
    · have g : ¬ (97 ≤ b ∧ b ≤ 122) := by simpa using g
      have e1 : srt b = if 48 ≤ b ∧ b ≤ 57 then 2 else if b = 46 ∨ b = 35 then 3 else if b = 45 then 4 else if b = 59 then 5 else 6 := by unfold srt; rw [if_neg h, if_neg g]
      rw [e1, Rn_bnd, mIn (x := b) (a := 48) (b := 57) (lo := 48) (hi := 57) rfl rfl rfl (by omega) (by omega) (by omega)]
      refine Rn_cs (bN_0 _) (fun g1 => ?_) (fun g1 => ?_)
      · have g1 : ¬ (48 ≤ b ∧ b ≤ 57) := by simpa using g1
        rw [if_neg g1]
        unfold fX8_sortOf_L45
        refine Rn_cs (show nI b = 46 ↔ b = 46 from neq (b := 46) (by omega) (by omega)) (fun q => ?_) (fun q => ?_)
        · rw [Rn_rtn, if_pos (Or.inl q)]; exact ⟨rfl, rfl⟩
        refine Rn_cs (show nI b = 35 ↔ b = 35 from neq (b := 35) (by omega) (by omega)) (fun q1 => ?_) (fun q1 => ?_)
        · rw [Rn_rtn, if_pos (Or.inr q1)]; exact ⟨rfl, rfl⟩
        rw [if_neg (show ¬ (b = 46 ∨ b = 35) by omega)]
        refine Rn_cs (show nI b = 59 ↔ b = 59 from neq (b := 59) (by omega) (by omega)) (fun q2 => ?_) (fun q2 => ?_)
        · rw [Rn_rtn, if_neg (by omega), if_pos q2]; exact ⟨rfl, rfl⟩
        refine Rn_cs (show nI b = 45 ↔ b = 45 from neq (b := 45) (by omega) (by omega)) (fun q3 => ?_) (fun q3 => ?_)
        · rw [Rn_rtn, if_pos q3]; exact ⟨rfl, rfl⟩
        · rw [Rn_rtn, if_neg q3, if_neg q2]; exact ⟨rfl, rfl⟩
      · have g1 : 48 ≤ b ∧ b ≤ 57 := by simpa using g1
        rw [Rn_rtn, if_pos g1]; exact ⟨rfl, rfl⟩
    · have g : 97 ≤ b ∧ b ≤ 122 := by simpa using g
      have e1 : srt b = 1 := by unfold srt; rw [if_neg h, if_pos g]
      rw [Rn_rtn, e1]; exact ⟨rfl, rfl⟩
end MText
