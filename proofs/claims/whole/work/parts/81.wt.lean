/-! THE CLASS: a code by the line above is written; write, show -/
theorem dgS_le (v : Int32) : (dgS v).length ≤ 3 := by
  unfold dgS
  split
  · have := dg_le (ix v); omega
  · have := dg_le (ix (-v)); show (dg (ix (-v))).length + 1 ≤ 3; omega
theorem dgS_2 {n : Nat} (hn : n < 2147483648) : (dgS (nI n)).length ≤ 2 := by rw [dgS_n hn]; exact dg_le n
theorem wrMode_le {m : Md} (h : mdOk m) : (wrMode m).length ≤ 6 := by
  unfold wrMode
  rcases h with h | ⟨h, -⟩ | ⟨h, a, b, ha, hb, e1, e2⟩
  · rw [if_pos h]; show 1 ≤ 6; omega
  · rw [if_neg (by rw [h]; decide), if_pos h]
    have := dgS_le m.2.1
    show (dgS m.2.1).length + 1 ≤ 6; omega
  · rw [if_neg (by rw [h]; decide), if_neg (by rw [h]; decide), e1, e2]
    have h1 := dgS_2 (n := a) (by omega)
    have h2 := dgS_2 (n := b) (by omega)
    show (dgS (nI a) ++ 32 :: dgS (nI b)).length + 1 ≤ 6
    rw [List.length_append, List.length_cons]; omega
theorem wrModes_le (L : List Md) (h : ∀ m, m ∈ L → mdOk m) : (wrModes L).length ≤ 7 * L.length := by
  induction L with
  | nil => exact Nat.le_refl _
  | cons a t ih =>
    have h1 := wrMode_le (h a (by simp))
    have h2 := ih (fun m hm => h m (List.mem_cons_of_mem _ hm))
    show (32 :: wrMode a ++ wrModes t).length ≤ 7 * (t.length + 1)
    rw [List.length_append, List.length_cons]; omega
section CWt
variable {M : Mm} {P : Pg} {O : List Nat}
theorem cWriteMode (hM : CO M) (ho : isOut M O) {L : List Md} (hC : isCC M 16 L) (hl : L.length ≤ 41) {j : Nat} {m : Md} (hm : L[j]? = some m) (hok : mdOk m) (hlen : O.length + 7 ≤ 300) : Rn (fX7_writeMode 0 (nI j)) M (fun _ M' => XF xOu M M' ∧ isOut M' (O ++ wrMode m)) := by
  have hj : j < L.length := by
    rcases Nat.lt_or_ge j L.length with q | q
    · exact q
    · rw [List.getElem?_eq_none q] at hm; cases hm
  have v0 : mdV L j 0 = m.1 := by unfold mdV; rw [hm]; rfl
  have v1 : mdV L j 1 = m.2.1 := by unfold mdV; rw [hm]; rfl
  have v2 : mdV L j 2 = m.2.2.1 := by unfold mdV; rw [hm]; rfl
  have cc : ∀ M1, XF xOu M M1 → isCC M1 16 L := fun M1 x1 => hC.xf x1 (fun a b h1 h2 => by unfold xOu; simp; omega)
  -- behind the first sign
  have rest : ∀ (c : Nat) (O' : List Nat), c < 128 → (m.1 = nI 0 → O' = [c]) → (m.1 = nI 1 → O' = c :: dgS m.2.1) → (m.1 = nI 2 → O' = c :: (dgS m.2.1 ++ 32 :: dgS m.2.2.1)) → Rn (fX7_writeMode_L32 0 (nI j) m.1 (nI c) 0) M (fun _ M' => XF xOu M M' ∧ isOut M' (O ++ O')) := by
    intro c O' hc h0 h1 h2
    unfold fX7_writeMode_L32 fX7_writeMode_L52
    rw [Rn_bnd]
    refine (cPutSign hM ho hc (by omega)).mono ?_
    rintro - M1 ⟨x1, o1⟩
    have m1 := hM.xf x1
    have l1 : (O ++ [c]).length = O.length + 1 := by rw [List.length_append]; rfl
    rcases hok with h | ⟨h, x, hx, e1⟩ | ⟨h, a, b, ha, hb, e1, e2⟩
    · rw [h, if_pos (by decide), if_neg (by decide), Rn_rtn]
      rw [h0 h]; exact ⟨x1, o1⟩
    · rw [h, if_neg (by decide), Rn_bnd, cA0_4 m1, Rn_bnd, cModeNumber m1.c16 (cc M1 x1) hl (by omega), v1, Rn_bnd]
      have hv : -100 < m.2.1.toInt ∧ m.2.1.toInt < 100 := by
        rw [e1, show nI x - nI 3 = nI x - 3 from rfl]
        have := pk_sub_toInt (a := x) (b := 3) (by omega) (by omega)
        have e : (nI x - 3 : Int32).toInt = (x : Int) - 3 := this
        omega
      refine (cPutNumber m1 o1 hv (by omega)).mono ?_
      rintro - M2 ⟨x2, o2⟩
      rw [if_neg (by decide), Rn_rtn, h1 h]
      rw [List.append_assoc] at o2
      exact ⟨x1.tr x2, o2⟩
    · rw [h, if_neg (by decide), Rn_bnd, cA0_4 m1, Rn_bnd, cModeNumber m1.c16 (cc M1 x1) hl (by omega), v1, Rn_bnd]
      have hv : -100 < m.2.1.toInt ∧ m.2.1.toInt < 100 := by rw [e1, nI_tI (by omega)]; omega
      have hv2 : -100 < m.2.2.1.toInt ∧ m.2.2.1.toInt < 100 := by rw [e2, nI_tI (by omega)]; omega
      refine (cPutNumber m1 o1 hv (by omega)).mono ?_
      rintro - M2 ⟨x2, o2⟩
      have X2 := x1.tr x2
      have m2 := hM.xf X2
      have dl := dgS_2 (n := a) (by omega)
      rw [← e1] at dl
      have l2 : (O ++ [c] ++ dgS m.2.1).length ≤ O.length + 3 := by rw [List.length_append, l1]; omega
      rw [if_pos (by decide), Rn_bnd, show (32 : Int32) = nI 32 from rfl]
      refine (cPutSign m2 o2 (by omega) (by omega)).mono ?_
      rintro - M3 ⟨x3, o3⟩
      have X3 := X2.tr x3
      have m3 := hM.xf X3
      rw [Rn_bnd, cA0_4 m3, Rn_bnd, cModeNumber m3.c16 (cc M3 X3) hl (by omega), v2, Rn_bnd]
      refine (cPutNumber m3 o3 hv2 (by rw [List.length_append]; show _ + 1 + 3 ≤ 300; omega)).mono ?_
      rintro - M4 ⟨x4, o4⟩
      rw [Rn_rtn, h2 h]
      rw [List.append_assoc, List.append_assoc, List.append_assoc] at o4
      exact ⟨X3.tr x4, o4⟩
  unfold fX7_writeMode wrMode
  rw [Rn_bnd, cA0_4 hM, Rn_bnd, cModeNumber hM.c16 hC hl (by omega), v0]
  refine Rn_cs (d := m.1 = nI 0) Iff.rfl (fun g => ?_) (fun g => ?_)
  · rw [if_pos g]
    exact rest 112 _ (by omega) (fun _ => rfl) (fun z => by rw [g] at z; exact absurd z (by decide)) (fun z => by rw [g] at z; exact absurd z (by decide))
  · rw [if_neg g]
    refine Rn_cs (d := m.1 = nI 1) Iff.rfl (fun g1 => ?_) (fun g1 => ?_)
    · rw [if_pos g1]
      exact rest 118 _ (by omega) (fun z => absurd z g) (fun _ => rfl) (fun z => by rw [g1] at z; exact absurd z (by decide))
    · rw [if_neg g1]
      exact rest 104 _ (by omega) (fun z => absurd z g) (fun z => absurd z g1) (fun _ => rfl)
theorem cWriteAbove (hM : CO M) (ho : isOut M []) {L : List Md} (hC : isCC M 16 L) (hl : L.length ≤ 41) (hok : ∀ m, m ∈ L → mdOk m) : Rn (fX7_writeAbove 0) M (fun _ M' => XF xOu M M' ∧ isOut M' ([97, 98, 111, 118, 101] ++ wrModes L)) := by
  unfold fX7_writeAbove
  rw [Rn_bnd]
  refine (cPutWord hM ho (i := 10) (L := [97, 98, 111, 118, 101]) (by omega) rfl (by decide) (by decide)).mono ?_
  rintro - M1 ⟨x1, o1⟩
  refine rn_loopv (F := fun n j => fX7_writeAbove_L9 n 0 (nI j)) (fun j M' => XF xOu M M' ∧ isOut M' ([97, 98, 111, 118, 101] ++ wrModes (L.take j)) ∧ j ≤ L.length) (fun j => L.length - j) ?_ fu 0 M1 (by unfold fu; omega) ⟨x1, by rw [List.take_zero]; exact o1, Nat.zero_le _⟩
  rintro n j M2 ⟨x2, o2, hj⟩ ih
  have m2 := hM.xf x2
  have cc : ∀ M1, XF xOu M M1 → isCC M1 16 L := fun M1 x1 => hC.xf x1 (fun a b h1 h2 => by unfold xOu; simp; omega)
  show Rn (fX7_writeAbove_L9 (n + 1) 0 (nI j)) M2 _
  unfold fX7_writeAbove_L9
  rw [Rn_bnd, cA0_4 m2, Rn_bnd, Rn_gI, (cc M2 x2).1]
  refine Rn_cs (nle (by omega) (by omega)) (fun q => ?_) (fun q => ?_)
  · rw [Rn_rtn]
    rw [List.take_of_length_le q] at o2
    exact ⟨x2, o2⟩
  · have tl : (L.take j).length = j := by rw [List.length_take]; omega
    have wl := wrModes_le (L.take j) (fun m hm => hok m (List.mem_of_mem_take hm))
    rw [tl] at wl
    have ol : ([97, 98, 111, 118, 101] ++ wrModes (L.take j)).length ≤ 5 + 7 * j := by rw [List.length_append]; show 5 + _ ≤ _; omega
    rw [Rn_bnd, show (32 : Int32) = nI 32 from rfl]
    refine (cPutSign m2 o2 (by omega) (by omega)).mono ?_
    rintro - M3 ⟨x3, o3⟩
    have X3 := x2.tr x3
    have hm : L[j]? = some (L[j]'(by omega)) := List.getElem?_eq_getElem (by omega)
    rw [Rn_bnd]
    refine (cWriteMode (hM.xf X3) o3 (cc M3 X3) hl hm (hok _ (List.getElem_mem _)) (by rw [List.length_append]; show _ + 1 + 7 ≤ 300; omega)).mono ?_
    rintro - M4 ⟨x4, o4⟩
    rw [nL1, nI_add]
    refine ih (j + 1) M4 ⟨X3.tr x4, ?_, by omega⟩ (by omega)
    have et : L.take (j + 1) = L.take j ++ [L[j]'(by omega)] := by rw [List.take_succ, hm]; rfl
    rw [et, wrModes_app, ← List.append_assoc]
    rw [List.append_assoc] at o4
    show isOut M4 (_ ++ (32 :: wrMode (L[j]'(by omega)) ++ []))
    rw [List.append_nil]; exact o4
end CWt
