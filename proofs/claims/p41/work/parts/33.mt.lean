/-! THE REFERENCE: reading a code -/
theorem vm3 {x : Nat} (h : x ≤ 6) : ix (nI x - nI 3 + nI 3) = x := by
  rw [Int32.sub_add_cancel, ix_n (by omega)]
theorem v_le {y q : Nat} (hy : y < 1000) (hq : q < 1000) : nI y - nI 3 ≤ pl q ↔ y < q + 3 := by
  rw [Int32.le_iff_toInt_le, pk_sub_toInt (by omega) (by omega), pl_toInt (by omega)]; omega
theorem v_lw {y w : Nat} (hy : y < 1000) (hw : w < 1000) : nI y - nI 3 ≤ nI w ↔ y ≤ w + 3 := by
  rw [Int32.le_iff_toInt_le, pk_sub_toInt (by omega) (by omega), nI_tI (by omega)]; omega
theorem cod_ok {w r u : Nat} (h40 : w ≤ 40) : ∀ m, m ∈ cod w r u → mdOk m := by
  have : ∀ n q c, q ≤ w + 1 → ∀ m, m ∈ cList w r u n q c → mdOk m := by
    intro n
    induction n with
    | zero => intro q c _ m hm; cases hm
    | succ n ih =>
      intro q c hq m hm
      unfold cList at hm
      by_cases h : q = w + 1
      · rw [if_pos h] at hm; cases hm
      · rw [if_neg h] at hm
        have hqw : q ≤ w := by omega
        rcases List.mem_cons.mp hm with rfl | hm
        · have a2 := sA_le w r q c
          have b2 := sB_le w u q c
          have e2 := sE_le w r (sA w r q c) c
          unfold cStep
          split
          · exact Or.inl rfl
          · split
            · rename_i h1 h2
              refine Or.inr (Or.inl ⟨rfl, sA w r q c + 3 - sB w u q c, by omega, ?_⟩)
              show nI (sA w r q c) - nI (sB w u q c) = _
              apply Int32.toInt_inj.mp
              rw [pk_sub_toInt (by omega) (by omega), pk_sub_toInt (by omega) (by omega)]
              omega
            · exact Or.inr (Or.inr ⟨rfl, _, _, by omega, by omega, rfl, rfl⟩)
        · exact ih _ _ (cStep_q hqw).2 m hm
  exact this _ _ _ (Nat.zero_le _)
section MReading
variable {M : Mm} {w u : Nat}
end MReading
section MReadE
variable {M : Mm} {P : Pg}
end MReadE

