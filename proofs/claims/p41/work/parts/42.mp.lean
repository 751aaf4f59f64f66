/-! THE REFERENCE: calls on sending -/
theorem zS_le3 (P : Pg) (lo : Nat → Nat) : ∀ n s l, (∀ i, zS s i ≤ 3) → ∀ i, zS (sndN P lo n s l) i ≤ 3 := by
  intro n
  induction n with
  | zero => intro s l h i; exact h i
  | succ n ih =>
    intro s l h i
    unfold sndN
    split
    · have hf : ∀ how, how = 1 ∨ how = 2 → ∀ i, zS (zFail P l how (zPut P l s)).1 i ≤ 3 := by
        intro how hh i
        unfold zFail
        split
        · exact h i
        · exact updN_le h (by omega) i
      refine ih _ _ ?_ i
      intro i
      unfold snd1
      split
      · exact hf 1 (Or.inl rfl) i
      · split
        · exact updN_le h (by split <;> omega) i
        · exact hf 2 (Or.inr rfl) i
    · exact h i
theorem zS3 (P : Pg) (lo : Nat → Nat) (i : Nat) : zS (sndA P lo) i ≤ 3 := zS_le3 P lo 1000 zO 0 (fun _ => Nat.zero_le _) i
theorem sndN_ok {P : Pg} (h : wfP P) (lo : Nat → Nat) : ∀ n s l, zOk P s l → l ≤ PL P → ∃ l', zOk P (sndN P lo n s l) l' := by
  intro n
  induction n with
  | zero => intro s l hs _; exact ⟨l, hs⟩
  | succ n ih =>
    intro s l hs hl
    unfold sndN
    split
    · rename_i hl2
      have k := (snd1_ok (lo := lo) h hl2 hs).1
      exact ih _ _ k k.2.1
    · exact ⟨l, hs⟩
theorem sndA_b {P : Pg} (h : wfP P) (lo : Nat → Nat) : zA (sndA P lo) ≤ 1000000 := by
  obtain ⟨l, k⟩ := sndN_ok h lo 1000 zO 0 (zOk_0 h) (Nat.zero_le _)
  have h1 := k.1
  have h2 := h.2.2.2.2.2.2.2.2.1
  have h3 := k.2.2.1
  have h4 := k.2.2.2.1
  show zA (sndN P lo 1000 zO 0) ≤ _
  omega
theorem zWs_le {P : Pg} (h : wfP P) (s : Sn) : zWs P s ≤ 800 := by
  have h1 := sm_le (g := fun l => zWr P s l) (b := Pw P) (fun l => cn_le _ _) (PL P)
  have h2 := h.2.1
  have h3 := h.2.2.1
  have h4 : Pw P * PL P ≤ 40 * 20 := Nat.mul_le_mul h2 h3
  show sm (fun l => zWr P s l) (PL P) ≤ 800
  omega
section MSendC
variable {M : Mm} {P : Pg}
theorem loOne5 (l : Nat) : ∀ i, i < 20 → loOne l i ≤ 5 := fun i _ => by unfold loOne; split <;> omega
end MSendC

