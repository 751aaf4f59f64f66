/-! LISTS: one more in the midst, one less -/
theorem cpR_eq {M : Mm} {a sp dp n : Nat} (h1 : sp + n ≤ Ml M a) (h2 : dp + n ≤ Ml M a) (h3 : Ml M a < 100000) : cpR a (nI sp) a (nI dp) (nI n) M = some ((), cpQ M a (Mr M a) sp dp n) := by
  unfold cpR
  have e1 : (nI sp).toNatClampNeg = sp := nI_clamp (by omega)
  have e2 : (nI dp).toNatClampNeg = dp := nI_clamp (by omega)
  have e3 : (nI n).toNatClampNeg = n := nI_clamp (by omega)
  have z1 : ¬ nI sp < 0 := nI_pos (by omega)
  have z2 : ¬ nI dp < 0 := nI_pos (by omega)
  have z3 : ¬ nI n < 0 := nI_pos (by omega)
  rw [e1, e2, e3, if_pos]
  unfold okCp
  rw [e1, e2, e3, decide_eq_true z1, decide_eq_true z2, decide_eq_true z3, decide_eq_true h1, decide_eq_true h2]; rfl
theorem Mr_cpQ {M : Mm} {d sp dp n x i : Nat} {f : Nat → Option Nat} : Mr (cpQ M d f sp dp n) x i = if x = d then va_cpy f (Mr M d) sp dp n i else Mr M x i := rfl
theorem Gx.cpQ {X : Nat → Bool} {n : Nat} {M M1 : Mm} (g : Gx X n M M1) {d sp dp k : Nat} {f : Nat → Option Nat} (z : d < n → X d = true) : Gx X n M (cpQ M1 d f sp dp k) := by
  refine ⟨g.1, g.2.1, g.2.2.1, fun q hq hz => ?_⟩
  have a1 := g.2.2.2 q hq hz
  refine ⟨a1.1, a1.2.1, ?_⟩
  have : q ≠ d := fun e => by subst e; rw [z hq] at hz; cases hz
  rw [← a1.2.2]
  funext i
  rw [Mr_cpQ, if_neg this]
/-- what stands behind one that is put in, one that is taken out -/
def insA (xs : List Nat) (to x : Nat) : List Nat := xs.take to ++ x :: xs.drop to
def delA (xs : List Nat) (l : Nat) : List Nat := xs.take l ++ xs.drop (l + 1)
theorem insA_l {xs : List Nat} {to x : Nat} (h : to ≤ xs.length) : (insA xs to x).length = xs.length + 1 := by
  unfold insA
  rw [List.length_append, List.length_cons, List.length_take, List.length_drop]; omega
theorem insA_at {xs : List Nat} {to x i : Nat} (h : to ≤ xs.length) : (insA xs to x)[i]? = if i < to then xs[i]? else if i = to then some x else xs[i - 1]? := by
  unfold insA
  have hl : (xs.take to).length = to := by rw [List.length_take]; omega
  by_cases q : i < to
  · rw [if_pos q, List.getElem?_append_left (by omega), List.getElem?_take_of_lt q]
  · rw [if_neg q, List.getElem?_append_right (by omega), hl]
    by_cases z : i = to
    · rw [if_pos z, z, Nat.sub_self]; rfl
    · rw [if_neg z]
      have e : i - to = (i - to - 1) + 1 := by omega
      rw [e, List.getElem?_cons_succ, List.getElem?_drop]
      congr 1; omega
theorem delA_l {xs : List Nat} {l : Nat} (h : l < xs.length) : (delA xs l).length = xs.length - 1 := by
  unfold delA
  rw [List.length_append, List.length_take, List.length_drop]; omega
theorem delA_at {xs : List Nat} {l i : Nat} (h : l < xs.length) : (delA xs l)[i]? = if i < l then xs[i]? else xs[i + 1]? := by
  unfold delA
  have hl : (xs.take l).length = l := by rw [List.length_take]; omega
  by_cases q : i < l
  · rw [if_pos q, List.getElem?_append_left (by omega), List.getElem?_take_of_lt q]
  · rw [if_neg q, List.getElem?_append_right (by omega), hl, List.getElem?_drop]
    congr 1; omega
section LI
variable {M : Mm} {h a : Nat} {xs : List Nat} {c s : Nat}
theorem cpL10 : ∀ n, n ≤ 10 → cpL n = 10 := by decide
theorem lIns (l : isL M h a xs) (h1 : 1 ≤ xs.length) (h9 : xs.length ≤ 9) (hah : a ≠ h) {to x : Nat} (ht : to ≤ xs.length) : Rw (gJx4a65c_add_7a177 h (nI to) x) M c s (fun _ M' c' s' => c' = c ∧ s' = s ∧ Mn M' = Mn M ∧ Gx (x2 h a) (Mn M) M M' ∧ isL M' h a (insA xs to x)) := by
  obtain ⟨l1, l2, l3, l4, l5⟩ := id l
  rcases l5 with ⟨-, e⟩ | ⟨b0, b1, b2, b3, b4, b5⟩
  · rw [e] at h1; exact absurd h1 (by decide)
  have e10 : Ml M a = 10 := by rw [b3]; exact cpL10 _ (by omega)
  unfold gJx4a65c_add_7a177
  rw [Rw_wq]
  unfold gJx4a65c_rangeCheckForAdd_d00df
  rw [Rw_wb, Rn_gI, l3]
  refine Rw_no (fun z => by rw [nlt (by omega) (by omega)] at z; omega) (Rw_yes ((nle (a := 0) (by omega) (by omega)).mpr (Nat.zero_le _)) ?_)
  rw [Rw_wr, Rw_wb, Rn_gI, Rw_wb, Rn_pI, Rw_wb, Rn_gI, Mi_sI, if_neg (by omega), l3, Rw_wb, Rn_gA (M := sI M h 0 _) (by rw [Mr_sI]; exact l4), Rw_wb, Rn_gN, Ml_sI, e10]
  refine Rw_no (fun z => by rw [neq (by omega) (by omega)] at z; omega) ?_
  unfold gJx4a65c_add_7a177_L38
  have g0 : Gx (x2 h a) (Mn M) M (sI M h 0 (Mi M h 0 + 1)) := Gx.rf.sI (fun _ => by simp [x2])
  have i0 : ∀ k, k ≠ 0 → Mi (sI M h 0 (Mi M h 0 + 1)) h k = Mi M h k := fun k hk => by rw [Mi_sI, if_neg (fun z => hk z.2)]
  have r0 : Mr (sI M h 0 (Mi M h 0 + 1)) = Mr M := rfl
  have n0 : (sI M h 0 (Mi M h 0 + 1)).1 = M.1 := rfl
  generalize sI M h 0 (Mi M h 0 + 1) = M0 at g0 i0 r0 n0
  have el : Ml M0 a = 10 := by unfold Ml; rw [n0]; exact e10
  rw [Rw_grd]
  refine ⟨by simp [b0], ?_⟩
  rw [Rw_grd]
  refine ⟨by simp [b0], ?_⟩
  rw [nL1, nI_add, nsb ht, Rw_wb, Rn_fun (cpR_eq (by omega) (by omega) (by omega)), Rw_grd]
  refine ⟨by simp [b0], ?_⟩
  rw [Rw_wb, rn_aA (by omega)]
  refine ⟨by show to < Ml M0 a; omega, ?_⟩
  rw [Rw_wb, Rn_pI, Rw_wr, nI_add]
  refine ⟨rfl, rfl, by show M0.1.1 = M.1.1; rw [n0], ((g0.cpQ (fun _ => by simp [x2])).sR (fun _ => by simp [x2])).sI (fun _ => by simp [x2]), ?_⟩
  have em : Mn (sI (sR (cpQ M0 a (Mr M0 a) to (to + 1) (xs.length - to)) a to (some x)) h 2 (nI (xs.length + 1))) = Mn M := by show M0.1.1 = M.1.1; rw [n0]
  refine ⟨by rw [em]; exact l1, by show Mk M0 h = 44; unfold Mk; rw [n0]; exact l2, by rw [sI_self, insA_l ht], ?_, Or.inr ⟨b0, by rw [em]; exact b1, by show Mk M0 a = 15; unfold Mk; rw [n0]; exact b2, ?_, by rw [insA_l ht]; omega, fun i y hy => ?_⟩⟩
  · rw [Mr_sI, Mr_sR, if_neg (fun z => hah z.1.symm), Mr_cpQ, if_neg (Ne.symm hah), r0]; exact l4
  · show Ml M0 a = _
    rw [el, insA_l ht, cpL10 _ (by omega)]
  · rw [insA_at ht] at hy
    rw [Mr_sI, Mr_sR]
    by_cases q : i = to
    · rw [if_pos ⟨rfl, q⟩]
      rw [if_neg (by omega), if_pos q] at hy; exact hy
    · rw [if_neg (fun z => q z.2), Mr_cpQ, if_pos rfl, r0]
      unfold va_cpy
      by_cases z : i < to
      · rw [if_neg (by omega)]
        rw [if_pos z] at hy; exact b5 i y hy
      · rw [if_neg z, if_neg q] at hy
        have hi : i - 1 < xs.length := (List.getElem?_eq_some_iff.mp hy).1
        rw [if_pos (by omega), show to + (i - (to + 1)) = i - 1 by omega]
        exact b5 _ y hy
theorem rn_aN {d i : Nat} {M : Mm} {Q : Unit → Mm → Prop} (hi : i < 2147483648) (hl : i < Ml M d) : Rn (aN d (nI i)) M Q ↔ Q () (sR M d i none) := by
  refine Rn_fun ?_
  unfold aN
  rw [vpB_nI hi, nI_clamp hi, if_pos (by simpa using hl)]
theorem lRem (l : isL M h a xs) (h9 : xs.length ≤ 10) (hah : a ≠ h) {j x : Nat} (hj : xs[j]? = some x) : Rw (gJx4a65c_remove_915e3 h (nI j)) M c s (fun v M' c' s' => v = x ∧ c' = c ∧ s' = s ∧ Mn M' = Mn M ∧ Gx (x2 h a) (Mn M) M M' ∧ isL M' h a (delA xs j)) := by
  obtain ⟨c0, c1, c2, c3, c4, c5, c6⟩ := l.at hj
  obtain ⟨l1, l2, l3, l4, l5⟩ := id l
  rcases l5 with ⟨e, -⟩ | ⟨b0, b1, b2, b3, b4, b5⟩
  · exact absurd e c0
  have e10 : Ml M a = 10 := by rw [b3]; exact cpL10 _ (by omega)
  unfold gJx4a65c_remove_915e3
  rw [Rw_wb, Rn_gI, l3, Rw_wq, lCheck c5 (by omega), Rw_wb, Rn_gA l4, Rw_grd]
  refine ⟨by simp [b0], ?_⟩
  rw [Rw_wb, rn_lA (by omega) c3 c4, Rw_grd]
  refine ⟨by simp [b0], ?_⟩
  rw [Rw_wq]
  unfold gJx4a65c_fastRemove_b59b0
  rw [Rw_wb, Rn_gI, Rw_wb, Rn_pI, Rw_wb, Rn_gI, Mi_sI, if_neg (by omega), l3, Rw_wb, Rn_rtn, nL1, nsb (by omega)]
  have g0 : Gx (x2 h a) (Mn M) M (sI M h 0 (Mi M h 0 + nI 1)) := Gx.rf.sI (fun _ => by simp [x2])
  have r0 : Mr (sI M h 0 (Mi M h 0 + nI 1)) = Mr M := rfl
  have n0 : (sI M h 0 (Mi M h 0 + nI 1)).1 = M.1 := rfl
  generalize sI M h 0 (Mi M h 0 + nI 1) = M0 at g0 r0 n0
  have el : Ml M0 a = 10 := by unfold Ml; rw [n0]; exact e10
  have fin : ∀ M1 : Mm, Gx (x2 h a) (Mn M) M M1 → M1.1 = M.1 → Mr M1 h 1 = some a → (∀ i, i < xs.length - 1 → Mr M1 a i = if i < j then Mr M a i else Mr M a (i + 1)) → Rw (gJx4a65c_fastRemove_b59b0_L34 h a (nI (xs.length - 1))) M1 c s (fun _ M2 c2 s2 => Rw (wr x) M2 c2 s2 (fun v M' c' s' => v = x ∧ c' = c ∧ s' = s ∧ Mn M' = Mn M ∧ Gx (x2 h a) (Mn M) M M' ∧ isL M' h a (delA xs j))) := by
    intro M1 g1 n1 r1 k1
    have el1 : Ml M1 a = 10 := by unfold Ml; rw [n1]; exact e10
    unfold gJx4a65c_fastRemove_b59b0_L34
    rw [Rw_wb, Rn_pI, Rw_wb, rn_aN (by omega) (by show _ < Ml M1 a; omega), Rw_wr, Rw_wr]
    have em : Mn (sR (sI M1 h 2 (nI (xs.length - 1))) a (xs.length - 1) none) = Mn M := by show M1.1.1 = M.1.1; rw [n1]
    refine ⟨rfl, rfl, rfl, em, (g1.sI (fun _ => by simp [x2])).sR (fun _ => by simp [x2]), ⟨by rw [em]; exact l1, by show Mk M1 h = 44; unfold Mk; rw [n1]; exact l2, by rw [Mi_sR, sI_self, delA_l c5], ?_, Or.inr ⟨b0, by rw [em]; exact b1, by show Mk M1 a = 15; unfold Mk; rw [n1]; exact b2, ?_, by rw [delA_l c5]; omega, fun i y hy => ?_⟩⟩⟩
    · rw [Mr_sR, if_neg (fun z => hah z.1.symm), Mr_sI]; exact r1
    · show Ml M1 a = _
      rw [el1, delA_l c5, cpL10 _ (by omega)]
    · have hi : i < (delA xs j).length := (List.getElem?_eq_some_iff.mp hy).1
      rw [delA_l c5] at hi
      rw [delA_at c5] at hy
      rw [Mr_sR, if_neg (by omega), Mr_sI, k1 i hi]
      by_cases q : i < j
      · rw [if_pos q] at hy ⊢; exact b5 i y hy
      · rw [if_neg q] at hy ⊢; exact b5 (i + 1) y hy
  refine Rw_cs (d := xs.length - 1 ≤ j) (nle (by omega) (by omega)) (fun z => ?_) (fun z => ?_)
  · refine fin M0 g0 n0 (by rw [r0]; exact l4) (fun i hi => ?_)
    rw [if_pos (by omega), r0]
  · rw [nI_add, nsb (by omega), Rw_wb, Rn_fun (cpR_eq (by omega) (by omega) (by omega))]
    refine fin _ (g0.cpQ (fun _ => by simp [x2])) n0 ?_ (fun i hi => ?_)
    · rw [Mr_cpQ, if_neg (Ne.symm hah), r0]; exact l4
    · rw [Mr_cpQ, if_pos rfl, r0]
      unfold va_cpy
      by_cases q : i < j
      · rw [if_neg (by omega), if_pos q]
      · rw [if_pos (by omega), if_neg q, show j + 1 + (i - j) = i + 1 by omega]
end LI
