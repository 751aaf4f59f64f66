/-! THE REFERENCE over new handles; its text, byte by byte -/
theorem MO.xg {X : Nat → Nat → Bool} {M M1 : Mm} (h : MO M) (hn : 62 ≤ Mn M) (x : XG X M M1) : MO M1 := by
  refine ⟨fun k hk => ?_, fun a h1 h2 => ?_⟩
  · rw [(x.2 38 (by omega)).2.2 (by omega) (by omega)]; exact h.1 k hk
  · rw [(x.2 a (by omega)).1]; exact h.2 a h1 h2
def isTxM (M : Mm) (x : Tx) : Prop := Mi M 38 32 = nI x.2 ∧ x.2 ≤ 900 ∧ (∀ i, i < x.2 → Mi M 58 i &&& 255 = nI (x.1 i)) ∧ ∀ i, i < x.2 → x.1 i < 256
/-- the reference's sorts: semicolon 4, minus 5 -/
def srM (k : Nat) : Nat := if k = 4 then 5 else if k = 5 then 4 else k
section MText
variable {M : Mm} {x : Tx}
theorem mSee (hM : MO M) (hx : isTxM M x) {i : Nat} (hi : i < 2147483648) (hp : Mi M 38 33 = nI i) {Q : Int32 → Mm → Prop} : Rn (fX8_see 38) M Q ↔ Q (bI (bAt x i)) M := by
  refine Rn_det ?_
  obtain ⟨h0, h9, hb, h256⟩ := hx
  unfold fX8_see bI bAt
  rw [Rn_bnd, Rn_gI, hp, Rn_bnd, Rn_gI, h0]
  refine Rn_cs (nle (by omega) hi) (fun g => ?_) (fun g => ?_)
  · rw [Rn_rtn, if_neg (show ¬ i < x.2 by omega), if_pos rfl]; exact ⟨rfl, rfl⟩
  · have := h256 i (by omega)
    rw [if_pos (show i < x.2 by omega), if_neg (show ¬ x.1 i = 256 by omega), Rn_bnd, mA31 hM, Rn_bnd, Rn_gI, hp, Rn_bnd, rn_lI hi, mL58 hM, Rn_rtn, hb i (by omega)]
    exact ⟨by omega, rfl, rfl⟩
end MText
