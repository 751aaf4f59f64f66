/-! THE CLASS: keep, undo, save, restore -/
theorem Rn_opc_s {α : Type} {r : Nat} {F : Mm → Option (α × Mm)} {G : Nat → Mm → Option (α × Mm)} {M : Mm} {Q : α → Mm → Prop} : Rn (opc (some r) F G) M Q ↔ Rn (G r) M Q := Iff.rfl
theorem Rn_opc_n {α : Type} {F : Mm → Option (α × Mm)} {G : Nat → Mm → Option (α × Mm)} {M : Mm} {Q : α → Mm → Prop} : Rn (opc none F G) M Q ↔ Rn F M Q := Iff.rfl
theorem isSa1.xf {B : Nat × Nat} {X : Nat → Nat → Bool} {M M' : Mm} {i : Nat} (hi : i < 12) (hd : CD B M) {o : Option Pg} (h : isSa1 M (owR M i) o) (x : XF X M M') (q : ∀ p, owR M i = some p → ∀ a b, p ≤ a → a ≤ p + 3 → X a b = false) : isSa1 M' (owR M' i) o := by
  have e : owR M' i = owR M i := owR_mr (by rw [x.mr]) (by rw [x.mr]) i
  rw [e]
  cases o with
  | none => exact h
  | some Q =>
    obtain ⟨p, p1, p2, p3⟩ := h
    exact ⟨p, p1, p2.xf x (fun a b z => q p p1 a b (by unfold xPgH at z; simp at z; omega) (by unfold xPgH at z; simp at z; omega)), p3⟩
theorem mm_nI {a b : Nat} (ha : a < 2147483648) (hb : b < 2147483648) : mmin (nI a) (nI b) = nI (if b < a then b else a) := by
  unfold mmin
  by_cases h : b < a
  · rw [if_pos ((nlt hb ha).mpr h), if_pos h]
  · rw [if_neg (fun z => h ((nlt hb ha).mp z)), if_neg h]
theorem xPgH_0 {p a b : Nat} (h : a < p ∨ p + 3 < a) : xPgH p a b = false := by unfold xPgH; simp; omega
section CHist
variable {M : Mm} {P : Pg} {U : List Pg} {V : Nat → Option Pg}
theorem pushU_at {U : List Pg} {P : Pg} (hl : U.length ≤ 10) {n : Nat} (hn : n < 10) {i : Nat} {Q : Pg} (h : (pushU U P)[i]? = some Q) : (Q = P ∧ ((n + 1) % 10 + 10 - (pushU U P).length + i) % 10 = n) ∨ (∃ i', U[i']? = some Q ∧ ((n + 1) % 10 + 10 - (pushU U P).length + i) % 10 = (n + 10 - U.length + i') % 10 ∧ (n + 10 - U.length + i') % 10 ≠ n) := by
  unfold pushU at h ⊢
  by_cases g : U.length = 10
  · rw [if_pos g] at h ⊢
    have e : (U.tail ++ [P]).length = 10 := by rw [List.length_append, List.length_tail]; show _ + 1 = 10; omega
    rw [e]
    have t : U.tail.length = 9 := by rw [List.length_tail]; omega
    by_cases g1 : i < 9
    · right
      rw [List.getElem?_append_left (by omega), List.getElem?_tail] at h
      exact ⟨i + 1, h, by omega, by omega⟩
    · have : i = 9 := by
        have : i < (U.tail ++ [P]).length := by
          rcases Nat.lt_or_ge i (U.tail ++ [P]).length with q | q
          · exact q
          · rw [List.getElem?_eq_none q] at h; cases h
        omega
      subst this
      left
      rw [List.getElem?_append_right (by omega), t] at h
      have h : some P = some Q := h
      cases h
      exact ⟨rfl, by omega⟩
  · rw [if_neg g] at h ⊢
    have e : (U ++ [P]).length = U.length + 1 := by rw [List.length_append]; rfl
    rw [e]
    by_cases g1 : i < U.length
    · right
      rw [List.getElem?_append_left g1] at h
      exact ⟨i, h, by omega, by omega⟩
    · have : i = U.length := by
        have : i < (U ++ [P]).length := by
          rcases Nat.lt_or_ge i (U ++ [P]).length with q | q
          · exact q
          · rw [List.getElem?_eq_none q] at h; cases h
        omega
      subst this
      left
      rw [List.getElem?_append_right (by omega), Nat.sub_self] at h
      have h : some P = some Q := h
      cases h
      exact ⟨rfl, by omega⟩
theorem pushU_l (hl : U.length ≤ 10) : nI (pushU U P).length = nI (if 10 < U.length + 1 then 10 else U.length + 1) := by
  unfold pushU
  by_cases g : U.length = 10
  · rw [if_pos g, if_pos (by omega), List.length_append, List.length_tail, g]; rfl
  · rw [if_neg g, if_neg (by omega), List.length_append]; rfl
/-- a page is copied into a slot that has one -/
theorem cKeepB {B : Nat × Nat} (h1 : CO M) (h2 : isPgC M 1 P) (hw : wfP P) (hd : CD B M) (hh : isHi M U) (hs : isSa M V) {n p : Nat} (hn : Mi M 5 1 = nI n) (hn10 : n < 10) (hp : owR M n = some p) : Rn (fX1_keep_L45 5 1) M (fun _ M' => XG (xEc B) M M' ∧ CPg B M' P (pushU U P) V) := by
  obtain ⟨p1, p2, p3⟩ := hd.pg (by omega) hp
  obtain ⟨b1, b2⟩ := hd.b
  have r : Mr M 6 n = some p := by unfold owR at hp; rw [if_pos hn10] at hp; exact hp
  unfold fX1_keep_L45
  rw [Rn_bnd, cA5_2 h1, Rn_bnd, Rn_gI, hn, Rn_bnd, rn_lQ (by omega), cL6 h1]
  refine ⟨hn10, ?_⟩
  rw [Rn_bnd, r, Rn_nn, Rn_bnd]
  refine (cCopyFrom p3 h1.p1 h2 (by omega) hw).mono ?_
  rintro - M1 ⟨x1, q1⟩
  have c1 := h1.xf x1
  have d1 := hd.xf x1
  have pg1 := h2.xf x1 (fun a b z => xPgH_0 (by unfold xPgH at z; simp at z; omega))
  have n1 : Mi M1 5 1 = nI n := by rw [x1.mi (xPgH_0 (by omega))]; exact hn
  have e1 : owR M1 = owR M := funext (owR_mr (by rw [x1.mr]) (by rw [x1.mr]))
  obtain ⟨n', hn', hn1, hl, hl10, hU⟩ := hh
  have : n' = n := by
    rw [hn] at hn1
    exact ((neq (by omega) (by omega)).mp hn1).symm
  subst this
  have l1 : Mi M1 5 0 = nI U.length := by rw [x1.mi (xPgH_0 (by omega))]; exact hl
  have last : ∀ v, v = nI ((n' + 1) % 10) → Rn (fX1_keep_L80 5 v 5) M1 (fun _ M' => XG (xEc B) M M' ∧ CPg B M' P (pushU U P) V) := by
    rintro v rfl
    unfold fX1_keep_L80
    have e : Mi (sI M1 5 1 (nI ((n' + 1) % 10))) 5 0 = nI U.length := by rw [Mi_sI, if_neg (by omega)]; exact l1
    rw [Rn_bnd, Rn_pI, Rn_bnd, Rn_gI, e, Rn_bnd, Rn_pI, Rn_rtn, nL1, nI_add, nL10, mm_nI (by omega) (by omega), ← pushU_l (P := P) hl10]
    have x2 : XF (fun a _ => decide (a = 5)) M1 (sI (sI M1 5 1 (nI ((n' + 1) % 10))) 5 0 (nI (pushU U P).length)) := (XF.rf.sI (by simp)).sI (by simp)
    have f1 : Mi (sI (sI M1 5 1 (nI ((n' + 1) % 10))) 5 0 (nI (pushU U P).length)) 5 1 = nI ((n' + 1) % 10) := by rw [Mi_sI, if_neg (by omega), sI_self]
    have f0 : Mi (sI (sI M1 5 1 (nI ((n' + 1) % 10))) 5 0 (nI (pushU U P).length)) 5 0 = nI (pushU U P).length := sI_self
    generalize sI (sI M1 5 1 (nI ((n' + 1) % 10))) 5 0 (nI (pushU U P).length) = M2 at x2 f1 f0
    have x5 : ∀ a b : Nat, a ≠ 5 → (fun (a _ : Nat) => decide (a = 5)) a b = false := fun a b z => by simp [z]
    have e2 : owR M2 = owR M := by rw [← e1]; exact funext (owR_mr (by rw [x2.mr]) (by rw [x2.mr]))
    have X1 : XF (xEc B) M M1 := x1.mono (fun a b z => xPgH_0 (by unfold xEc at z; simp at z; omega))
    have X2 : XF (xEc B) M1 M2 := x2.mono (fun a b z => by unfold xEc at z; simp at z ⊢; omega)
    refine ⟨(X1.tr X2).xg, c1.xf x2, pg1.xf x2 (fun a b z => x5 a b (by unfold xPgH at z; simp at z; omega)), hw, d1.xf x2, ?_, ?_⟩
    · refine ⟨(n' + 1) % 10, Nat.mod_lt _ (by decide), f1, f0, pushU_len hl10 P, fun i Q hQ => ?_⟩
      rw [e2]
      rcases pushU_at hl10 hn' hQ with ⟨rfl, e⟩ | ⟨i', hi', e, ne⟩
      · rw [e]
        exact ⟨p, hp, q1.xf x2 (fun a b z => x5 a b (by unfold xPgH at z; simp at z; omega)), hw⟩
      · rw [e]
        obtain ⟨p', y1, y2, y3⟩ := hU i' Q hi'
        have dj := hd.dj (i := n') (by omega) (Nat.lt_of_lt_of_le (Nat.mod_lt _ (by decide)) (by decide)) hp y1 (fun z => ne z.symm)
        have p62 := hd.pg (Nat.lt_of_lt_of_le (Nat.mod_lt _ (by decide)) (by decide)) y1
        exact ⟨p', y1, (y2.xf x1 (fun a b z => xPgH_0 (by unfold xPgH at z; simp at z; omega))).xf x2 (fun a b z => x5 a b (by unfold xPgH at z; simp at z; omega)), y3⟩
    · intro j hj
      refine isSa1.xf (by omega) d1 (isSa1.xf (by omega) hd (hs j hj) x1 (fun p' hp' a b z1 z2 => ?_)) x2 (fun p' hp' a b z1 z2 => ?_)
      · have := hd.dj (i := n') (by omega) (by omega) hp hp' (by omega)
        exact xPgH_0 (by omega)
      · rw [e1] at hp'
        have := hd.pg (by omega) hp'
        exact x5 a b (by omega)
  rw [Rn_bnd, Rn_gI, n1]
  refine Rn_cs (show (10 : Int32) ≤ nI n' + 1 ↔ 10 ≤ n' + 1 from by rw [nL1, nI_add]; exact nle (a := 10) (by omega) (by omega)) (fun g => ?_) (fun g => ?_)
  · exact last 0 (by rw [show (n' + 1) % 10 = 0 by omega]; rfl)
  · rw [Rn_bnd, Rn_gI, n1]
    refine last _ ?_
    rw [nL1, nI_add]; congr 1; omega
theorem cKeep {B : Nat × Nat} (h : CPg B M P U V) : Rn (fX1_keep 5 1) M (fun _ M' => XG (xEc B) M M' ∧ CPg B M' P (pushU U P) V) := by
  obtain ⟨c1, c2, c3, c4, c5, c6⟩ := id h
  have hB9 := c4.b
  obtain ⟨b1, b2⟩ := c4.b
  obtain ⟨n, hn, hn1, _⟩ := id c5
  unfold fX1_keep
  rw [Rn_bnd, Rn_gI, hn1, if_neg (nI_pos (by omega)), Rn_bnd, Rn_gI, hn1, if_pos (by rw [nL10, nlt (by omega) (by omega)]; exact hn), Rn_bnd, cA5_2 c1, Rn_bnd, Rn_gI, hn1, Rn_bnd, rn_lQ (by omega), cL6 c1]
  refine ⟨hn, ?_⟩
  have ow : owR M n = Mr M 6 n := by unfold owR; rw [if_pos hn]
  cases hr : Mr M 6 n with
  | some p =>
    rw [Rn_opc_s]
    exact cKeepB c1 c2 c3 c4 c5 c6 hn1 hn (by rw [ow]; exact hr)
  | none =>
    rw [Rn_opc_n, Rn_bnd, cA5_2 c1, Rn_bnd, Rn_gI, hn1]
    have np := cNewPage b2.1
    rw [Rn_bnd] at np
    rw [Rn_bnd]
    refine np.mono ?_
    intro a M0 h0
    rw [Rn_bnd] at h0 ⊢
    refine h0.mono ?_
    rintro - M1 h1
    rw [Rn_rtn] at h1
    obtain ⟨rfl, n1, n2, n3, n4⟩ := h1
    obtain ⟨y1, y2, y3, y4, y5, y6, y7⟩ := cNewAt h (i := n) (a := 6) (k := n) (by omega) (Or.inl ⟨rfl, rfl, hn⟩) (by rw [ow]; exact hr) n1 n2 n3
    rw [Rn_bnd, rn_aA (by omega), (n1.2 6 (by omega)).1, cL6 c1]
    refine ⟨hn, ?_⟩
    have i5 : Mi (sR M1 6 n (some (Mn M))) 5 1 = nI n := by rw [Mi_sR, (n1.2 5 (by omega)).2.1]; exact hn1
    refine (cKeepB y2 y3 c3 y4 y5 (fun j hj => y6 j hj (by omega)) i5 hn y7).mono ?_
    rintro - M2 ⟨z1, z2⟩
    exact ⟨y1.tr z1, z2⟩
theorem cUndoOp {B : Nat × Nat} (h : CPg B M P U V) : Rn (fX7_undo 0) M (fun r M' => r = (spUndo P U).1 ∧ XG (xEc B) M M' ∧ CPg B M' (spUndo P U).2.1 (spUndo P U).2.2 V) := by
  obtain ⟨c1, c2, c3, c4, c5, c6⟩ := id h
  have hB9 := c4.b
  obtain ⟨b1, b2⟩ := c4.b
  obtain ⟨n, hn, hn1, hl, hl10, hU⟩ := id c5
  unfold fX7_undo fX1_takeBack
  rw [Rn_bnd, cA0_1 c1, Rn_bnd, cA0_0 c1, Rn_bnd, Rn_bnd, Rn_gI, hn1]
  have key : Rn (fX1_takeBack_L18 5 1 (nI ((n + 9) % 10))) M (fun r M' => (r = 0 ∧ U.length = 0 ∧ M' = M) ∨ (r = 1 ∧ 0 < U.length ∧ Mi M' 5 0 = nI (U.length - 1) ∧ XG (xEc B) M M' ∧ CPg B M' (spUndo P U).2.1 (spUndo P U).2.2 V)) := by
    unfold fX1_takeBack_L18
    rw [Rn_bnd, Rn_gI, hl]
    refine Rn_cs (show nI U.length ≤ 0 ↔ U.length ≤ 0 from nle (b := 0) (by omega) (by omega)) (fun g => ?_) (fun g => ?_)
    · rw [Rn_grd, Rn_rtn]; exact ⟨by decide, Or.inl ⟨rfl, by omega, rfl⟩⟩
    · obtain ⟨Q, hQ⟩ : ∃ Q, U[U.length - 1]? = some Q := ⟨_, List.getElem?_eq_getElem (by omega)⟩
      have eu : spUndo P U = (nI (U.length - 1), (Q, U.take (U.length - 1))) := by unfold spUndo; rw [hQ]
      rw [eu]
      obtain ⟨p, p1, p2, p3⟩ := hU _ Q hQ
      have es : (n + 10 - U.length + (U.length - 1)) % 10 = (n + 9) % 10 := by omega
      rw [es] at p1
      have m10 : (n + 9) % 10 < 10 := Nat.mod_lt _ (by decide)
      obtain ⟨o1, o2, o3⟩ := c4.pg (by omega) p1
      have r : Mr M 6 ((n + 9) % 10) = some p := by unfold owR at p1; rw [if_pos m10] at p1; exact p1
      rw [if_neg (by rw [nL10, nle (by omega) (by omega)]; omega), Rn_bnd, cA5_2 c1, Rn_bnd, rn_lQ (by omega), cL6 c1]
      refine ⟨m10, ?_⟩
      rw [r, Rn_opc_s, Rn_bnd, cA5_2 c1, Rn_bnd, rn_lQ (by omega), cL6 c1]
      refine ⟨m10, ?_⟩
      rw [r, Rn_bnd, Rn_nn, Rn_bnd]
      refine (cCopyFrom c1.p1 o3 p2 (by omega) p3).mono ?_
      rintro - M1 ⟨x1, q1⟩
      have l1 : Mi (sI M1 5 1 (nI ((n + 9) % 10))) 5 0 = nI U.length := by rw [Mi_sI, if_neg (by omega), x1.mi (xPgH_0 (by omega))]; exact hl
      rw [Rn_bnd, Rn_pI, Rn_bnd, Rn_gI, l1, Rn_bnd, Rn_pI, nL1, nsb (by omega), Rn_grd, Rn_rtn]
      have x2 : XF (fun a _ => decide (a = 5)) M1 (sI (sI M1 5 1 (nI ((n + 9) % 10))) 5 0 (nI (U.length - 1))) := (XF.rf.sI (by simp)).sI (by simp)
      have f1 : Mi (sI (sI M1 5 1 (nI ((n + 9) % 10))) 5 0 (nI (U.length - 1))) 5 1 = nI ((n + 9) % 10) := by rw [Mi_sI, if_neg (by omega), sI_self]
      have f0 : Mi (sI (sI M1 5 1 (nI ((n + 9) % 10))) 5 0 (nI (U.length - 1))) 5 0 = nI (U.length - 1) := sI_self
      generalize sI (sI M1 5 1 (nI ((n + 9) % 10))) 5 0 (nI (U.length - 1)) = M2 at x2 f1 f0
      have x5 : ∀ a b : Nat, a ≠ 5 → (fun (a _ : Nat) => decide (a = 5)) a b = false := fun a b z => by simp [z]
      have X1 : XF (xEc B) M M1 := x1.mono (fun a b z => xPgH_0 (by unfold xEc at z; simp at z; omega))
      have X2 : XF (xEc B) M1 M2 := x2.mono (fun a b z => by unfold xEc at z; simp at z ⊢; omega)
      have e2 : owR M2 = owR M := by
        rw [show owR M2 = owR M1 from funext (owR_mr (by rw [x2.mr]) (by rw [x2.mr]))]
        exact funext (owR_mr (by rw [x1.mr]) (by rw [x1.mr]))
      have d1 := c4.xf x1
      refine ⟨by decide, Or.inr ⟨rfl, by omega, f0, (X1.tr X2).xg, (c1.xf x1).xf x2, q1.xf x2 (fun a b z => x5 a b (by unfold xPgH at z; simp at z; omega)), p3, d1.xf x2, ?_, ?_⟩⟩
      · have tl : (U.take (U.length - 1)).length = U.length - 1 := by rw [List.length_take]; omega
        refine ⟨(n + 9) % 10, m10, f1, by show _ = nI (U.take (U.length - 1)).length; rw [tl]; exact f0, by show (U.take (U.length - 1)).length ≤ 10; rw [tl]; omega, fun i Q' hQ' => ?_⟩
        have hQ' : (U.take (U.length - 1))[i]? = some Q' := hQ'
        show ∃ p, owR M2 (((n + 9) % 10 + 10 - (U.take (U.length - 1)).length + i) % 10) = some p ∧ _
        rw [tl, e2]
        have hi : i < U.length - 1 := by
          rcases Nat.lt_or_ge i (U.length - 1) with z | z
          · exact z
          · rw [List.getElem?_eq_none (by rw [tl]; exact z)] at hQ'; cases hQ'
        rw [List.getElem?_take_of_lt hi] at hQ'
        obtain ⟨p', y1, y2, y3⟩ := hU i Q' hQ'
        rw [show ((n + 9) % 10 + 10 - (U.length - 1) + i) % 10 = (n + 10 - U.length + i) % 10 by omega]
        have p62 := c4.pg (Nat.lt_of_lt_of_le (Nat.mod_lt _ (by decide)) (by decide)) y1
        exact ⟨p', y1, (y2.xf x1 (fun a b z => xPgH_0 (by unfold xPgH at z; simp at z; omega))).xf x2 (fun a b z => x5 a b (by unfold xPgH at z; simp at z; omega)), y3⟩
      · intro j hj
        have e1 : owR M1 = owR M := funext (owR_mr (by rw [x1.mr]) (by rw [x1.mr]))
        refine isSa1.xf (by omega) d1 (isSa1.xf (by omega) c4 (c6 j hj) x1 (fun p' hp' a b z1 z2 => ?_)) x2 (fun p' hp' a b z1 z2 => ?_)
        · have := c4.pg (by omega) hp'
          exact xPgH_0 (by omega)
        · rw [e1] at hp'
          have := c4.pg (by omega) hp'
          exact x5 a b (by omega)
  have fin : ∀ v, v = nI ((n + 9) % 10) → Rn (fX1_takeBack_L18 5 1 v) M (fun a M1 => Rn (if a = 0 then rtn (-1) else bnd (gA 0 1) fun v4 => bnd (gI v4 0) fun v5 => rtn v5) M1 (fun r M' => r = (spUndo P U).1 ∧ XG (xEc B) M M' ∧ CPg B M' (spUndo P U).2.1 (spUndo P U).2.2 V)) := by
    rintro v rfl
    refine key.mono ?_
    rintro a M1 (⟨rfl, h0, rfl⟩ | ⟨rfl, h0, f0, x1, cp⟩)
    · rw [if_pos rfl, Rn_rtn]
      have e : spUndo P U = (-1, (P, U)) := by unfold spUndo; rw [List.getElem?_eq_none (by omega)]
      rw [e]; exact ⟨rfl, XG.rf, h⟩
    · rw [if_neg (by decide), Rn_bnd, cA0_1 cp.1, Rn_bnd, Rn_gI, f0, Rn_rtn]
      obtain ⟨Q, hQ⟩ : ∃ Q, U[U.length - 1]? = some Q := ⟨_, List.getElem?_eq_getElem (by omega)⟩
      exact ⟨by unfold spUndo; rw [hQ], x1, cp⟩
  refine Rn_cs (show nI n ≤ 0 ↔ n ≤ 0 from nle (b := 0) (by omega) (by omega)) (fun g => ?_) (fun g => ?_)
  · exact fin 9 (by rw [show (n + 9) % 10 = 9 by omega]; rfl)
  · rw [Rn_bnd, Rn_gI, hn1]
    exact fin _ (by rw [nL1, nsb (by omega)]; congr 1; omega)
end CHist

