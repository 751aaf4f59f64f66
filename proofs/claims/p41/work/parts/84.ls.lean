/-! LISTS: what an ArrayList holds -/
def cpL (n : Nat) : Nat := if n ≤ 10 then 10 else if n ≤ 15 then 15 else if n ≤ 22 then 22 else 33
/-- what a list of n has made: arrays, their places -/
def cpC (n : Nat) : Nat := if n = 0 then 0 else if n ≤ 10 then 1 else if n ≤ 15 then 2 else if n ≤ 22 then 3 else 4
def cpS (n : Nat) : Nat := if n = 0 then 0 else if n ≤ 10 then 10 else if n ≤ 15 then 25 else if n ≤ 22 then 47 else 80
def isL (M : Mm) (h a : Nat) (xs : List Nat) : Prop := h < Mn M ∧ Mk M h = 44 ∧ Mi M h 2 = nI xs.length ∧ Mr M h 1 = some a ∧ ((a = EB ∧ xs = []) ∨ (a ≠ EB ∧ a < Mn M ∧ Mk M a = 15 ∧ Ml M a = cpL xs.length ∧ xs.length ≤ 33 ∧ ∀ i x, xs[i]? = some x → Mr M a i = some x))
theorem EB_v : EB = 1000000500 := rfl
theorem IB_v : IB = 1000001000 := rfl
theorem isL.len {M : Mm} {h a : Nat} {xs : List Nat} (l : isL M h a xs) : xs.length ≤ 33 := by
  obtain ⟨-, -, -, -, ⟨-, e⟩ | ⟨-, -, -, -, e, -⟩⟩ := l
  · rw [e]; exact Nat.zero_le _
  · exact e
theorem isL.gx {X : Nat → Bool} {n : Nat} {M M1 : Mm} {h a : Nat} {xs : List Nat} (l : isL M h a xs) (x : Gx X n M M1) (h1 : h < n) (h2 : X h = false) (h3 : a ≠ EB → a < n ∧ X a = false) : isL M1 h a xs := by
  obtain ⟨l1, l2, l3, l4, l5⟩ := l
  refine ⟨Nat.lt_of_lt_of_le l1 x.mn, by rw [x.mk l1]; exact l2, by rw [x.mi h1 h2]; exact l3, by rw [x.mr h1 h2]; exact l4, ?_⟩
  rcases l5 with l5 | ⟨b0, b1, b2, b3, b4, b5⟩
  · exact Or.inl l5
  · obtain ⟨h3, h4⟩ := h3 b0
    exact Or.inr ⟨b0, Nat.lt_of_lt_of_le b1 x.mn, by rw [x.mk b1]; exact b2, by rw [x.ml b1]; exact b3, b4, fun i y hy => by rw [x.mr h3 h4]; exact b5 i y hy⟩
theorem isL.at {M : Mm} {h a : Nat} {xs : List Nat} (l : isL M h a xs) {j r : Nat} (e : xs[j]? = some r) : a ≠ EB ∧ a < Mn M ∧ Mk M a = 15 ∧ j < Ml M a ∧ Mr M a j = some r ∧ j < xs.length ∧ xs.length ≤ 33 := by
  have hj : j < xs.length := (List.getElem?_eq_some_iff.mp e).1
  obtain ⟨-, -, -, -, ⟨-, q⟩ | ⟨b0, b1, b2, b3, b4, b5⟩⟩ := l
  · rw [q] at hj; exact absurd hj (Nat.not_lt_zero _)
  · refine ⟨b0, b1, b2, ?_, b5 j r e, hj, b4⟩
    rw [b3]; unfold cpL; repeat' split
    all_goals omega
theorem Rw_det {α : Type} {F : Mm → Option (α × Mm × Nat × Nat)} {M M0 : Mm} {v : α} (h : Rw F M 0 0 (fun a M' c s => a = v ∧ M' = M0 ∧ c = 0 ∧ s = 0)) {c0 s0 : Nat} {Q : α → Mm → Nat → Nat → Prop} : Rw F M c0 s0 Q ↔ Q v M0 c0 s0 := by
  obtain ⟨a, M', c, s, e, rfl, rfl, hc, hs⟩ := h
  have hc : c = 0 := by omega
  have hs : s = 0 := by omega
  subst hc hs
  constructor
  · rintro ⟨b, M1, c, s, e1, q⟩; rw [e] at e1; cases e1; exact q
  · intro q; exact ⟨a, _, _, _, e, q⟩
theorem lSize {M : Mm} {h a : Nat} {xs : List Nat} (l : isL M h a xs) {c s : Nat} {Q : Int32 → Mm → Nat → Nat → Prop} : Rw (gJx4a65c_size_8abf5 h) M c s Q ↔ Q (nI xs.length) M c s := by
  unfold gJx4a65c_size_8abf5
  rw [Rw_wb, Rn_gI, Rw_wr, l.2.2.1]
theorem lCheck {j n : Nat} (hj : j < n) (hn : n < 2147483648) {M : Mm} {c s : Nat} {Q : Int32 → Mm → Nat → Nat → Prop} : Rw (gJ15_checkIndex_7cf53 (nI j) (nI n)) M c s Q ↔ Q (nI j) M c s := by
  refine Rw_det ?_
  unfold gJ15_checkIndex_7cf53
  rw [Rw_wq]
  unfold gJ3_checkIndex_8e157
  refine Rw_no (nI_pos (by omega)) (Rw_yes ((nlt (by omega) (by omega)).mpr hj) ?_)
  rw [Rw_wr, Rw_wr]
  exact ⟨rfl, rfl, rfl, rfl⟩
theorem lElem {M : Mm} {h a : Nat} {xs : List Nat} (l : isL M h a xs) {j r : Nat} (e : xs[j]? = some r) {c s : Nat} {Q : Nat → Mm → Nat → Nat → Prop} : Rw (gJx4a65c_elementData_915e3 h (nI j)) M c s Q ↔ Q r M c s := by
  obtain ⟨b0, b1, b2, b3, b4, b5, b6⟩ := l.at e
  unfold gJx4a65c_elementData_915e3
  rw [Rw_wb, Rn_gA l.2.2.2.1, Rw_grd, Rw_wb, rn_lA (by omega) b3 b4, Rw_wr]
  simp [b0]
theorem lGet {M : Mm} {h a : Nat} {xs : List Nat} (l : isL M h a xs) {j r : Nat} (e : xs[j]? = some r) {c s : Nat} {Q : Nat → Mm → Nat → Nat → Prop} : Rw (gJx4a65c_get_915e3 h (nI j)) M c s Q ↔ Q r M c s := by
  obtain ⟨b0, b1, b2, b3, b4, b5, b6⟩ := l.at e
  unfold gJx4a65c_get_915e3
  rw [Rw_wb, Rn_gI, l.2.2.1, Rw_wq, lCheck b5 (by omega), Rw_wq, lElem l e, Rw_wr]
theorem Mk_nw {M : Mm} {kd n a : Nat} : Mk (nw M kd n) a = if a = Mn M then kd else Mk M a := rfl
theorem Mk_sI {M : Mm} {h k : Nat} {v : Int32} : Mk (sI M h k v) = Mk M := rfl
theorem Mk_sR {M : Mm} {h k : Nat} {v : Option Nat} : Mk (sR M h k v) = Mk M := rfl
theorem sR_self {M : Mm} {a b : Nat} {v : Option Nat} : Mr (sR M a b v) a b = v := by rw [Mr_sR, if_pos ⟨rfl, rfl⟩]
/-- a new list -/
theorem lNew {α : Type} {M : Mm} (hn : Mn M < 1000000000) {G : Nat → Mm → Option (α × Mm × Nat × Nat)} {c s : Nat} {Q : α → Mm → Nat → Nat → Prop} (k : ∀ M', Gx xO (Mn M) M M' → Mn M' = Mn M + 1 → isL M' (Mn M) EB [] → Rw (G (Mn M)) M' (c + 1) (s + 3) Q) : Rw (wq (nO 44) fun h => wq (gJx4a65c_init_da8c8 h) fun _ => G h) M c s Q := by
  rw [Rw_wq, Rw_nO hn, Rw_wq]
  unfold gJx4a65c_init_da8c8
  rw [Rw_wq]
  unfold gJxc12de_init_da8c8
  rw [Rw_wq]
  unfold gJxa1e45_init_da8c8
  rw [Rw_wr, Rw_wb, Rn_pI, Rw_wr, Rw_wb, Rn_pA, Rw_wr]
  refine k _ ?_ rfl ⟨?_, ?_, ?_, ?_, Or.inl ⟨rfl, rfl⟩⟩
  · exact ((Gx.rf.nw (Nat.le_refl _) hn).sI (fun z => absurd z (Nat.lt_irrefl _))).sR (fun z => absurd z (Nat.lt_irrefl _))
  · show Mn M < Mn M + 1; omega
  · rw [Mk_sR, Mk_sI, Mk_nw, if_pos rfl]
  · rw [Mi_sR, Mi_sI, if_neg (by omega), Mi_nw, if_pos rfl]; rfl
  · rw [sR_self]
theorem cpL_ge (n : Nat) (h : n ≤ 33) : n ≤ cpL n := by
  unfold cpL; repeat' split
  all_goals omega
theorem lGrow3 : ∀ n, n = 10 ∨ n = 15 ∨ n = 22 → (nI n + mmax (nI n + 1 - nI n) (nI n >>> (1 &&& 31))) = nI (cpL (n + 1)) := by
  rintro n (rfl | rfl | rfl) <;> decide
/-- the array in which the next one finds its place -/
def lRoom (M : Mm) (h a n : Nat) (xs : List Nat) (M' : Mm) (a' c s c' s' : Nat) : Prop := Gx (x1 h) (Mn M) M M' ∧ c' = c + 1 ∧ s' = s + cpL (n + 1) ∧ Mn M' = Mn M + 1 ∧ a' = Mn M ∧ Mi M' h = Mi M h ∧ Mr M' h 1 = some a' ∧ Mk M' a' = 15 ∧ Ml M' a' = cpL (n + 1) ∧ ∀ i x, xs[i]? = some x → Mr M' a' i = some x
theorem lGrow {M : Mm} {h a : Nat} {xs : List Nat} (l : isL M h a xs) (hE : Ml M EB = 0) (hn : Mn M < 1000000000) (hf : xs.length = Ml M a) (hx : xs.length < 33) {c s : Nat} : Rw (gJx4a65c_grow_d5877 h) M c s (fun a' M' c' s' => lRoom M h a xs.length xs M' a' c s c' s') := by
  obtain ⟨l1, l2, l3, l4, l5⟩ := l
  unfold gJx4a65c_grow_d5877
  rw [Rw_wb, Rn_gI, l3, Rw_wq]
  unfold gJx4a65c_grow_92f84
  rw [Rw_wb, Rn_gA l4, Rw_wb, Rn_gN]
  have hne : h ≠ Mn M := by omega
  rcases l5 with ⟨e, rfl⟩ | ⟨b0, b1, b2, b3, b4, b5⟩
  · subst e
    rw [hE]
    refine Rw_no (by decide) ?_
    rw [Rw_wb, Rn_gA l4]
    refine Rw_yes rfl ?_
    have e10 : mmax 10 (nI ([] : List Nat).length + 1) = nI 10 := by decide
    rw [e10, Rw_wq, Rw_nA hn (by omega), Rw_wb, Rn_pA, Rw_wr, Rw_wr]
    refine ⟨(Gx.rf.nw (Nat.le_refl _) hn).sR (fun _ => by simp [x1]), rfl, rfl, rfl, rfl, ?_, sR_self, ?_, ?_, fun i x hi => by simp at hi⟩
    · funext k; rw [Mi_sR, Mi_nw, if_neg hne]
    · rw [Mk_sR, Mk_nw, if_pos rfl]
    · rw [Ml_sR, Ml_nw, if_pos rfl]; rfl
  · have hc : xs.length = 10 ∨ xs.length = 15 ∨ xs.length = 22 := by
      rw [b3] at hf
      revert hf; unfold cpL; repeat' split
      all_goals omega
    have hk : cpL (xs.length + 1) ≤ 33 ∧ xs.length < cpL (xs.length + 1) := by
      unfold cpL; repeat' split
      all_goals omega
    rw [← hf]
    refine Rw_yes (show (0 : Int32) < nI xs.length from (nlt (a := 0) (by omega) (by omega)).mpr (by omega)) ?_
    unfold gJx4a65c_grow_92f84_L20
    rw [Rw_wq]
    unfold gJ8_newLength_cabcc
    rw [Rw_wb, lGrow3 _ hc, Rn_rtn]
    refine Rw_no (show ¬ nI (cpL (xs.length + 1)) ≤ nI 0 from fun z => by rw [nle (by omega) (by omega)] at z; omega) ?_
    refine Rw_no (show ¬ nI 2147483639 < nI (cpL (xs.length + 1)) from fun z => by rw [nlt (by omega) (by omega)] at z; omega) ?_
    rw [Rw_wr, Rw_wb, Rn_gA l4, Rw_grd]
    refine ⟨by simp [b0], ?_⟩
    rw [Rw_wq]
    unfold gJ7_copyOf_1904c
    rw [Rw_wq]
    unfold gJ7_copyOf_6403c
    rw [Rw_wq, Rw_nA hn (by omega), Rw_wb, Rn_gN]
    have hna : a ≠ Mn M := by omega
    have e1 : Ml (nw M 15 (cpL (xs.length + 1))) a = xs.length := by rw [Ml_nw, if_neg hna, hf]
    have e2 : mmin (nI xs.length) (nI (cpL (xs.length + 1))) = nI xs.length := by
      rw [mm_nI (by omega) (by omega), if_neg (by omega)]
    rw [e1, e2]
    have e3 : Ml (nw M 15 (cpL (xs.length + 1))) (Mn M) = cpL (xs.length + 1) := by rw [Ml_nw, if_pos rfl]
    have ecp : cpR a 0 (Mn M) 0 (nI xs.length) (nw M 15 (cpL (xs.length + 1))) = some ((), cpQ (nw M 15 (cpL (xs.length + 1))) (Mn M) (Mr (nw M 15 (cpL (xs.length + 1))) a) 0 0 xs.length) := by
      unfold cpR
      rw [e1, e3, nI_clamp (by omega), if_pos]
      · rfl
      · unfold okCp
        have z : ¬ nI xs.length < 0 := nI_pos (by omega)
        rw [nI_clamp (by omega)]
        simp [z]; omega
    rw [Rw_wb, Rn_fun ecp, Rw_wr, Rw_wr, Rw_wb, Rn_pA, Rw_wr, Rw_wr]
    refine ⟨?_, rfl, rfl, rfl, rfl, ?_, sR_self, ?_, ?_, fun i x hi => ?_⟩
    · refine Gx.sR ?_ (fun _ => by simp [x1])
      have g := Gx.rf (X := x1 h) (n := Mn M) (M := M) |>.nw (Nat.le_refl _) hn (kd := 15) (ln := cpL (xs.length + 1))
      refine ⟨g.1, g.2.1, g.2.2.1, fun q hq hz => ⟨(g.2.2.2 q hq hz).1, (g.2.2.2 q hq hz).2.1, ?_⟩⟩
      rw [← (g.2.2.2 q hq hz).2.2]
      funext b
      show (if q = Mn M then _ else _) = _
      rw [if_neg (by omega)]; rfl
    · funext k; rw [Mi_sR]
      show Mi (nw M 15 (cpL (xs.length + 1))) h k = _
      rw [Mi_nw, if_neg hne]
    · rw [Mk_sR]; show Mk (nw M 15 (cpL (xs.length + 1))) (Mn M) = 15; rw [Mk_nw, if_pos rfl]
    · rw [Ml_sR]; exact e3
    · rw [Mr_sR, if_neg (by omega)]
      have hi' : i < xs.length := (List.getElem?_eq_some_iff.mp hi).1
      show (if Mn M = Mn M then va_cpy (Mr (nw M 15 (cpL (xs.length + 1))) a) _ 0 0 xs.length i else _) = _
      rw [if_pos rfl]
      unfold va_cpy
      rw [if_pos (by omega), Mr_nw, if_neg hna]
      have : 0 + (i - 0) = i := by omega
      rw [this]
      exact b5 i x hi
theorem cpS_up {n : Nat} (h : n < 33) : cpS (n + 1) = cpS n + (if n = 0 ∨ n = cpL n then cpL (n + 1) else 0) := by
  have : ∀ n, n < 33 → cpS (n + 1) = cpS n + (if n = 0 ∨ n = cpL n then cpL (n + 1) else 0) := by decide
  exact this n h
theorem cpC_up {n : Nat} (h : n < 33) : cpC (n + 1) = cpC n + (if n = 0 ∨ n = cpL n then 1 else 0) := by
  have : ∀ n, n < 33 → cpC (n + 1) = cpC n + (if n = 0 ∨ n = cpL n then 1 else 0) := by decide
  exact this n h
theorem cpL_up {n : Nat} (h : n < 33) (h2 : n ≠ cpL n) : cpL (n + 1) = cpL n := by
  have : ∀ n, n < 33 → n ≠ cpL n → cpL (n + 1) = cpL n := by decide
  exact this n h h2
/-- one more in a list; a list that has room for ten and none in it (by remove) has made its array already -/
theorem lAdd {M : Mm} {h a : Nat} {xs : List Nat} (l : isL M h a xs) (hE : Ml M EB = 0) (hn : Mn M < 1000000000) (hx : xs.length < 33) (x : Nat) {c s : Nat} : Rw (gJx4a65c_add_9ea2d h x) M c s (fun r M' c' s' => r = 1 ∧ Gx (x2 h a) (Mn M) M M' ∧ c' + cpC xs.length ≤ c + cpC (xs.length + 1) ∧ s' + cpS xs.length ≤ s + cpS (xs.length + 1) ∧ Mn M' + c ≤ Mn M + c' ∧ c ≤ c' ∧ ∃ a', isL M' h a' (xs ++ [x]) ∧ a' ≠ EB ∧ ((a' = a ∧ a ≠ EB) ∨ a' = Mn M)) := by
  have l' := l
  obtain ⟨l1, l2, l3, l4, l5⟩ := l
  unfold gJx4a65c_add_9ea2d
  rw [Rw_wb, Rn_gI, Rw_wb, Rn_pI, Rw_wb, Rn_gA (M := sI M h 0 _) (by rw [Mr_sI]; exact l4), Rw_wb, Rn_gI, Mi_sI, if_neg (by omega), l3, Rw_wq]
  have g0 : Gx (x1 h) (Mn M) M (sI M h 0 (Mi M h 0 + 1)) := Gx.rf.sI (fun _ => by simp [x1])
  have L0 : isL (sI M h 0 (Mi M h 0 + 1)) h a xs := by
    refine ⟨l1, l2, ?_, l4, ?_⟩
    · rw [Mi_sI, if_neg (by omega)]; exact l3
    · rcases l5 with l5 | l5
      · exact Or.inl l5
      · exact Or.inr l5
  have e0 : Ml (sI M h 0 (Mi M h 0 + 1)) = Ml M := rfl
  have n0 : Mn (sI M h 0 (Mi M h 0 + 1)) = Mn M := rfl
  generalize sI M h 0 (Mi M h 0 + 1) = M0 at g0 L0 e0 n0
  unfold gJx4a65c_add_72be8
  rw [Rw_wb, Rn_gN, e0]
  have hsb : SB = 1000000000 := rfl
  have heb : EB = 1000000500 := rfl
  have hla : Ml M a = xs.length ∨ (a ≠ EB ∧ xs.length < Ml M a ∧ Ml M a = cpL xs.length) := by
    rcases l5 with ⟨e, rfl⟩ | ⟨b0, b1, b2, b3, b4, b5⟩
    · left; rw [e, hE]; rfl
    · have := cpL_ge xs.length b4
      by_cases q : Ml M a = xs.length
      · exact Or.inl q
      · exact Or.inr ⟨b0, by omega, b3⟩
  have hla' : Ml M a < 2147483648 := by
    rcases l5 with ⟨e, -⟩ | ⟨b0, b1, b2, b3, b4, b5⟩
    · rw [e, hE]; decide
    · rw [b3]; unfold cpL; repeat' split
      all_goals omega
  have tail : ∀ (M1 : Mm) (a1 c1 s1 : Nat), Gx (x2 h a) (Mn M) M M1 → a1 ≠ EB → a1 < Mn M1 → Mk M1 a1 = 15 → Ml M1 a1 = cpL (xs.length + 1) → (∀ i y, xs[i]? = some y → Mr M1 a1 i = some y) → Mr M1 h 1 = some a1 → a1 ≠ h → ((a1 = a ∧ a ≠ EB) ∨ a1 = Mn M) → c1 + cpC xs.length ≤ c + cpC (xs.length + 1) → s1 + cpS xs.length ≤ s + cpS (xs.length + 1) → Mn M1 + c ≤ Mn M + c1 → c ≤ c1 → Rw (gJx4a65c_add_72be8_L11 h x a1 (nI xs.length)) M1 c1 s1 (fun r M' c' s' => Rw (wgrd ((1 : Int32) == 0 || (1 : Int32) == 1) (wr (1 : Int32))) M' c' s' (fun r M' c' s' => r = 1 ∧ Gx (x2 h a) (Mn M) M M' ∧ c' + cpC xs.length ≤ c + cpC (xs.length + 1) ∧ s' + cpS xs.length ≤ s + cpS (xs.length + 1) ∧ Mn M' + c ≤ Mn M + c' ∧ c ≤ c' ∧ ∃ a', isL M' h a' (xs ++ [x]) ∧ a' ≠ EB ∧ ((a' = a ∧ a ≠ EB) ∨ a' = Mn M))) := by
    intro M1 a1 c1 s1 x1' q1 q2 q3 q4 q5 q6 q7 q8 q9 q10 q11 q12
    have hlt : xs.length < cpL (xs.length + 1) := by
      have := cpL_ge (xs.length + 1) (by omega); omega
    unfold gJx4a65c_add_72be8_L11
    rw [Rw_grd]
    refine ⟨by simp [q1], ?_⟩
    rw [Rw_wb, rn_aA (by omega), q4]
    refine ⟨hlt, ?_⟩
    rw [Rw_wb, Rn_pI, Rw_wr, Rw_grd]
    refine ⟨by decide, ?_⟩
    rw [Rw_wr]
    refine ⟨rfl, ?_, q9, q10, q11, q12, a1, ⟨?_, ?_, ?_, ?_, Or.inr ⟨q1, q2, q3, ?_, ?_, fun i y hy => ?_⟩⟩, q1, q8⟩
    · refine (x1'.sR (fun z => ?_)).sI (fun _ => by simp [x2])
      rcases q8 with q8 | q8
      · simp [x2, q8.1]
      · omega
    · exact Nat.lt_of_lt_of_le l1 x1'.mn
    · show Mk M1 h = 44; rw [x1'.mk l1]; exact l2
    · rw [sI_self, nL1, nI_add, List.length_append]; rfl
    · rw [Mr_sI, Mr_sR, if_neg (fun z => q7 z.1.symm)]; exact q6
    · rw [List.length_append]; exact q4
    · rw [List.length_append]; show xs.length + 1 ≤ 33; omega
    · rw [Mr_sI, Mr_sR]
      by_cases z : i = xs.length
      · subst z; rw [if_pos ⟨rfl, rfl⟩]
        rw [List.getElem?_append_right (Nat.le_refl _), Nat.sub_self] at hy
        simpa using hy
      · rw [if_neg (fun w => z w.2)]
        have hi := (List.getElem?_eq_some_iff.mp hy).1
        rw [List.length_append] at hi
        rw [List.getElem?_append_left (show i < xs.length from by have : [x].length = 1 := rfl; omega)] at hy
        exact q5 i y hy
  refine Rw_cs (d := xs.length = Ml M a) (neq (by omega) (by omega)) (fun q => ?_) (fun q => ?_)
  · rw [Rw_wq]
    refine (lGrow L0 (by rw [e0]; exact hE) (by omega) (by rw [e0]; exact q) hx).mono ?_
    rintro a1 M1 c1 s1 ⟨w1, rfl, rfl, w2, rfl, w3, w4, w5, w6, w7⟩
    have g1 : Gx (x2 h a) (Mn M) M M1 := (g0.mono (Nat.le_refl _) (fun q _ z => by unfold x1; unfold x2 at z; simp at z ⊢; exact z.1)).tr (w1.mono (by omega) (fun q _ z => by unfold x1; unfold x2 at z; simp at z ⊢; exact z.1))
    refine tail M1 (Mn M0) (c + 1) (s + cpL (xs.length + 1)) g1 (by rw [n0]; omega) (by omega) w5 w6 w7 w4 (by omega) (Or.inr n0) ?_ ?_ (by omega) (by omega)
    · rw [cpC_up hx]
      have : (if xs.length = 0 ∨ xs.length = cpL xs.length then 1 else 0) = 1 := by
        rw [if_pos]
        rcases l5 with ⟨e, rfl⟩ | ⟨b0, b1, b2, b3, b4, b5⟩
        · left; rfl
        · right; rw [← b3]; exact q
      omega
    · rw [cpS_up hx]
      have : (if xs.length = 0 ∨ xs.length = cpL xs.length then cpL (xs.length + 1) else 0) = cpL (xs.length + 1) := by
        rw [if_pos]
        rcases l5 with ⟨e, rfl⟩ | ⟨b0, b1, b2, b3, b4, b5⟩
        · left; rfl
        · right; rw [← b3]; exact q
      omega
  · obtain ⟨b0, b1, b2⟩ : a ≠ EB ∧ xs.length < Ml M a ∧ Ml M a = cpL xs.length := by
      rcases hla with z | z
      · exact absurd z.symm q
      · exact z
    rcases l5 with ⟨e, -⟩ | ⟨-, d1, d2, d3, d4, d5⟩
    · exact absurd e b0
    have g1 : Gx (x2 h a) (Mn M) M M0 := g0.mono (Nat.le_refl _) (fun q _ z => by unfold x1; unfold x2 at z; simp at z ⊢; exact z.1)
    have hah : a ≠ h := fun z => by rw [z, l2] at d2; cases d2
    obtain ⟨-, -, -, o4, o5⟩ := L0
    rcases o5 with ⟨e, -⟩ | ⟨-, o1, o2, o3, -, o6⟩
    · exact absurd e b0
    refine tail M0 a c s g1 b0 o1 o2 ?_ o6 o4 hah (Or.inl ⟨rfl, b0⟩) ?_ ?_ (by omega) (Nat.le_refl _)
    · rw [o3, cpL_up hx (by omega)]
    · rw [cpC_up hx]; omega
    · rw [cpS_up hx]; omega
