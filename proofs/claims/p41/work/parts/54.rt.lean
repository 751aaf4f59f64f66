/-! THE CLASS: below its own line a code gives the line -/
theorem pnt_r {r f t : Nat} {c : Bool} (h : f ≤ t) (hb : ∀ k, f ≤ k → k < t → r.testBit k = c) : pnt (r % 2 ^ f) f t c = r % 2 ^ t := by
  apply Nat.eq_of_testBit_eq
  intro k
  rw [pnt_bit h (Nat.mod_lt _ (Nat.two_pow_pos f)), Nat.testBit_mod_two_pow, Nat.testBit_mod_two_pow]
  by_cases g : f ≤ k ∧ k < t
  · rw [if_pos g, hb k g.1 g.2]; simp [g.2]
  · rw [if_neg g]
    by_cases g1 : k < f
    · have : k < t := by omega
      simp [g1, this]
    · have : ¬ k < t := by omega
      simp [g1, this]
theorem rt_s {w r u q : Nat} {c : Bool} (h40 : w ≤ 40) (hq : q ≤ w) (hc : 1 ≤ q → r.testBit (q - 1) = c) : rStep w u (cStep w r u q c).1 (q, c, r % 2 ^ (q - 1)) = some ((cStep w r u q c).2.1, (cStep w r u q c).2.2, r % 2 ^ ((cStep w r u q c).2.1 - 1)) ∧ ((cStep w r u q c).2.1 ≤ w → r.testBit ((cStep w r u q c).2.1 - 1) = (cStep w r u q c).2.2) := by
  have a1 := sA_ge (r := r) (c := c) hq
  have a2 := sA_le w r q c
  have b1 := sB_ge (u := u) (c := c) hq
  have b2 := sB_le w u q c
  have d2 := sD_le w u (sB w u q c)
  have d1 := sD_ge (u := u) b2
  have e1 := sE_ge (r := r) (c := c) a2
  have e2 := sE_le w r (sA w r q c) c
  have ba : ∀ k, q - 1 ≤ k → k < sA w r q c → r.testBit k = c := by
    intro k h1 h2
    by_cases g : q ≤ k
    · have := fb_no (p := fun k => r.testBit k == !c) g h2
      revert this; cases r.testBit k <;> cases c <;> simp
    · have : k = q - 1 := by omega
      subst this; exact hc (by omega)
  have bA : sA w r q c < w → r.testBit (sA w r q c) = !c := by
    intro g
    have := fb_yes (p := fun k => r.testBit k == !c) g
    exact eq_of_beq this
  have be : ∀ k, sA w r q c ≤ k → k < sE w r (sA w r q c) c → r.testBit k = !c := by
    intro k h1 h2
    by_cases g : k = sA w r q c
    · subst g; exact bA (by omega)
    · have := fb_no (p := fun k => r.testBit k == c) (show sA w r q c + 1 ≤ k by omega) h2
      revert this; cases r.testBit k <;> cases c <;> simp
  unfold cStep rStep
  by_cases g : sD w u (sB w u q c) < sA w r q c
  · rw [if_pos g, if_neg (by show ¬ q = w + 1; omega), if_pos rfl]
    refine ⟨?_, fun _ => ba _ (by show q - 1 ≤ sD w u (sB w u q c); omega) g⟩
    show some (sD w u (sB w u q c) + 1, c, pnt (r % 2 ^ (q - 1)) (q - 1) (sD w u (sB w u q c)) c) = some (sD w u (sB w u q c) + 1, c, r % 2 ^ (sD w u (sB w u q c)))
    rw [pnt_r (by omega) (fun k h1 h2 => ba k h1 (by omega))]
  · rw [if_neg g]
    by_cases g1 : sA w r q c ≤ sB w u q c + 3 ∧ sB w u q c ≤ sA w r q c + 3
    · rw [if_pos g1, if_neg (by show ¬ q = w + 1; omega), if_neg (by show ¬ nI 1 = nI 0; decide), if_pos rfl]
      have ei : ix (nI (sA w r q c) - nI (sB w u q c) + nI 3) = sA w r q c + 3 - sB w u q c := by
        have : nI (sA w r q c) - nI (sB w u q c) + nI 3 = nI (sA w r q c + 3) - nI (sB w u q c) := by
          rw [← nI_add]; simp only [Int32.sub_eq_add_neg, Int32.add_assoc, Int32.add_comm]
        rw [this, nsb (by omega), ix_n (by omega)]
      show (if sB w u q c + ix (nI (sA w r q c) - nI (sB w u q c) + nI 3) < q + 3 ∨ w + 3 < sB w u q c + ix (nI (sA w r q c) - nI (sB w u q c) + nI 3) then none else some (sB w u q c + ix (nI (sA w r q c) - nI (sB w u q c) + nI 3) - 3 + 1, !c, pnt (r % 2 ^ (q - 1)) (q - 1) (sB w u q c + ix (nI (sA w r q c) - nI (sB w u q c) + nI 3) - 3) c)) = some (sA w r q c + 1, !c, r % 2 ^ (sA w r q c)) ∧ (sA w r q c + 1 ≤ w → r.testBit (sA w r q c) = !c)
      rw [ei, show sB w u q c + (sA w r q c + 3 - sB w u q c) = sA w r q c + 3 by omega, if_neg (by omega), show sA w r q c + 3 - 3 = sA w r q c by omega, pnt_r (by omega) (fun k h1 h2 => ba k h1 h2)]
      exact ⟨rfl, fun h => bA (by omega)⟩
    · rw [if_neg g1, if_neg (by show ¬ q = w + 1; omega), if_neg (by show ¬ nI 2 = nI 0; decide), if_neg (by show ¬ nI 2 = nI 1; decide)]
      show (if q - 1 + ix (nI (sA w r q c - (q - 1))) + ix (nI (sE w r (sA w r q c) c - sA w r q c)) + 1 ≤ q ∨ w < q - 1 + ix (nI (sA w r q c - (q - 1))) + ix (nI (sE w r (sA w r q c) c - sA w r q c)) then none else some (q - 1 + ix (nI (sA w r q c - (q - 1))) + ix (nI (sE w r (sA w r q c) c - sA w r q c)) + 1, c, pnt (pnt (r % 2 ^ (q - 1)) (q - 1) (q - 1 + ix (nI (sA w r q c - (q - 1)))) c) (q - 1 + ix (nI (sA w r q c - (q - 1)))) (q - 1 + ix (nI (sA w r q c - (q - 1))) + ix (nI (sE w r (sA w r q c) c - sA w r q c))) (!c))) = some (sE w r (sA w r q c) c + 1, c, r % 2 ^ (sE w r (sA w r q c) c)) ∧ (sE w r (sA w r q c) c + 1 ≤ w → r.testBit (sE w r (sA w r q c) c) = c)
      rw [ix_n (by omega), ix_n (by omega), show q - 1 + (sA w r q c - (q - 1)) = sA w r q c by omega, show sA w r q c + (sE w r (sA w r q c) c - sA w r q c) = sE w r (sA w r q c) c by omega, if_neg (by omega), pnt_r (by omega) ba, pnt_r e1 be]
      refine ⟨rfl, fun h => ?_⟩
      have := fb_yes (p := fun k => r.testBit k == c) (w := w) (i := sA w r q c + 1) (show sE w r (sA w r q c) c < w by omega)
      exact eq_of_beq this
theorem rt_l {w r u : Nat} (h40 : w ≤ 40) : ∀ n q c, w + 1 - q ≤ n → q ≤ w + 1 → (1 ≤ q → q ≤ w → r.testBit (q - 1) = c) → ∃ c', rdL w u (cRest w r u q c) (q, c, r % 2 ^ (q - 1)) = some (w + 1, c', r % 2 ^ w) := by
  intro n
  induction n with
  | zero =>
    intro q c h1 h2 _
    have : q = w + 1 := by omega
    subst this
    rw [cRest_end]; exact ⟨c, rfl⟩
  | succ n ih =>
    intro q c h1 h2 h3
    by_cases g : q = w + 1
    · subst g; rw [cRest_end]; exact ⟨c, rfl⟩
    · have hq : q ≤ w := by omega
      obtain ⟨s1, s2⟩ := rt_s (u := u) h40 hq (fun z => h3 z hq)
      obtain ⟨q1, q2⟩ := cStep_q (r := r) (u := u) (c := c) hq
      rw [cRest_s hq]
      obtain ⟨c', hc'⟩ := ih (cStep w r u q c).2.1 (cStep w r u q c).2.2 (by omega) q2 (fun _ z => s2 z)
      refine ⟨c', ?_⟩
      show (match rStep w u (cStep w r u q c).1 (q, c, r % 2 ^ (q - 1)) with | some s' => rdL w u (cRest w r u (cStep w r u q c).2.1 (cStep w r u q c).2.2) s' | none => none) = _
      rw [s1]; exact hc'
theorem rt_C {w r u : Nat} (h40 : w ≤ 40) (hr : r < 2 ^ w) : rdC w u (cod w r u) = some r := by
  obtain ⟨c', h⟩ := rt_l (r := r) (u := u) h40 (w + 1) 0 false (by omega) (by omega) (fun z => by omega)
  have e : r % 2 ^ (0 - 1) = 0 := Nat.mod_one r
  rw [e] at h
  unfold rdC cod
  rw [h]
  show (if w + 1 = w + 1 then some (r % 2 ^ w) else none) = some r
  rw [if_pos rfl, Nat.mod_eq_of_lt hr]

