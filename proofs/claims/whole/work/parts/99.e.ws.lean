/-! THE START: what the claim's premises give the walk -/
abbrev FLT : List Cond := flatC (Jvm.Cond.and given_1 narrow_1)
def tmS (i : Nat) : Term := .string (sK.getD i ("", 0, "")).1 (sK.getD i ("", 0, "")).2.1
def vlS (i : Nat) : Term := .field (tmS i) "java/lang/String" "value" "[B"
theorem ws_ex : ∀ i, i < 28 → Cond.exactly (tmS i) "java/lang/String" ∈ FLT := by decide +kernel
theorem ws_sr : ∀ i, i < 28 → Cond.stringRef (sK.getD i ("", 0, "")).1 (sK.getD i ("", 0, "")).2.1 (sK.getD i ("", 0, "")).2.2 ∈ lw_tbl := by decide +kernel
theorem ws_co : ∀ i, i < 11 → Cond.eq (.field (tmS i) "java/lang/String" "coder" "B") (.int 0) ∈ FLT := by decide +kernel
theorem ws_ar : ∀ i, i < 11 → Cond.arrayOf (vlS i) .byte ∈ FLT := by decide +kernel
theorem ws_le : ∀ i, i < 11 → Cond.eq (.length (vlS i)) (.int (Int32.ofNat (sW.getD i []).length)) ∈ FLT := by decide +kernel
theorem ws_el : ∀ i, i < 11 → ∀ j, j < (sW.getD i []).length → Cond.eq (.elem (vlS i) (.int (Int32.ofNat j))) (.int ((sW.getD i []).getD j 0)) ∈ FLT := by decide +kernel
theorem ws_ln : ∀ i, i < 11 → (sW.getD i []).length < 2 ^ 31 := by decide +kernel
def tmT (j : Nat) : Term := .static "DotRuns" (sS.getD j ("", [])).1 "[I"
theorem wt_ar : ∀ j, j < 3 → Cond.arrayOf (tmT j) .int ∈ FLT := by decide +kernel
theorem wt_le : ∀ j, j < 3 → Cond.eq (.length (tmT j)) (.int (Int32.ofNat 6)) ∈ FLT := by decide +kernel
theorem wt_el : ∀ j, j < 3 → ∀ k, k < 6 → Cond.eq (.elem (tmT j) (.int (Int32.ofNat k))) (.int ((sS.getD j ("", [])).2.getD k 0)) ∈ FLT := by decide +kernel
theorem wt_ly : ∀ j, j < 3 → Cond.laysStatic "DotRuns" (sS.getD j ("", [])).1 "[I" ∈ lw_tbl := by decide +kernel
theorem wn_m : ∀ q ∈ nMw, Cond.methodLinkNest q.1 q.2.1 q.2.2.1 q.2.2.2 ∈ lw_tbl := by decide +kernel
theorem wn_f : ∀ q ∈ nFw, Cond.fieldLinkNest q.1 q.2.1 q.2.2.1 q.2.2.2.1 q.2.2.2.2.1 q.2.2.2.2.2 ∈ lw_tbl := by decide +kernel
theorem wn_c : ∀ q ∈ xcN, Cond.castable q q ∈ lw_tbl := by decide +kernel
theorem wn_d : ∀ q ∈ ycN, Cond.declares (Bundle.initS q) ∈ lw_tbl := by decide +kernel
theorem cst_start {args : Array Value} {s : State} {A : Nat → Prop} (b : Nat) (hts : ∀ w ∈ lw_tbl, w.before args s = true) (hgv : (Jvm.Cond.and given_1 narrow_1).before args s = true) (hA : ∀ a : Nat, a < s.heap.size → ¬ A a) : ∃ ad0 : Nat → Nat, ad0 (SB + 400) = b ∧ Cst ad0 A s := by
  have hs : ∀ w ∈ FLT, w.before args s = true := flat_of_before _ hgv
  have h0 : ∀ i : Nat, ∃ q : Nat × Nat, i < 28 → (tmS i).eval args s none [] s = some (.ref q.1) ∧ (i < 11 → va_O "java/lang/String" q.1 A s s.heap ∧ va_OF "java/lang/String" "coder" "B" (.int 0) q.1 A s s.heap ∧ va_OF "java/lang/String" "value" "[B" (.ref q.2) q.1 A s s.heap ∧ va_T .byte q.2 (sW.getD i []).length (fun j => .int ((sW.getD i []).getD j 0)) A s s.heap) := by
    intro i
    by_cases hi : i < 28
    · obtain ⟨a, c, cA, kA, q1, q2, q3, q4, q5, q6, -⟩ := Cond.exactly_spec (args := args) (first := s) (o := none) (s := s) (idx := []) (t := tmS i) (cls := "java/lang/String") (hs _ (ws_ex i hi))
      by_cases hj : i < 11
      · obtain ⟨t, ht, hT⟩ := va_Tof (tm := vlS i) (f := fun j => .int ((sW.getD i []).getD j 0)) (A := A) (ws_ln i hj) (hs _ (ws_ar i hj)) (va_eqt (hs _ (ws_le i hj))) (fun j hj' => va_eqt (hs _ (ws_el i hj j hj'))) hA
        exact ⟨(a, t), fun _ => ⟨q1, fun _ => ⟨⟨cA, q3, q5, by rw [q6]; exact q2, hA a (Array.getElem?_eq_some_iff.mp q3).1⟩, vk_OFof q1 (va_eqt (hs _ (ws_co i hj))) hA, vk_OFof q1 ht hA, hT⟩⟩⟩
      · exact ⟨(a, 0), fun _ => ⟨q1, fun h => absurd h hj⟩⟩
    · exact ⟨(0, 0), fun h => absurd h hi⟩
  have h1 : ∀ j : Nat, ∃ t : Nat, j < 3 → va_Z "DotRuns" (sS.getD j ("", [])).1 "[I" (.ref t) A s s.heap ∧ va_T .int t 6 (fun k => .int ((sS.getD j ("", [])).2.getD k 0)) A s s.heap := by
    intro j
    by_cases hj : j < 3
    · obtain ⟨t, ht, hT⟩ := va_Tof (tm := tmT j) (N := 6) (f := fun k => .int ((sS.getD j ("", [])).2.getD k 0)) (A := A) (by decide) (hs _ (wt_ar j hj)) (va_eqt (hs _ (wt_le j hj))) (fun k hk => va_eqt (hs _ (wt_el j hj k hk))) hA
      exact ⟨t, fun _ => ⟨va_Zref (hts _ (wt_ly j hj)) (hts _ (by decide +kernel)) ht hA, hT⟩⟩
    · exact ⟨0, fun h => absurd h hj⟩
  obtain ⟨ad, had⟩ := Classical.axiomOfChoice h0
  obtain ⟨tb, htb⟩ := Classical.axiomOfChoice h1
  have hz : va_Zq pcN "SIOOBE_FORMATTER" pcD A s s.heap := va_Zqof (hts _ (by decide +kernel)) (hts _ (by decide +kernel)) (hs _ (by decide +kernel)) hA
  obtain ⟨fm, hfm⟩ : ∃ t : Nat, va_Z pcN "SIOOBE_FORMATTER" pcD .null A s s.heap ∨ va_Z pcN "SIOOBE_FORMATTER" pcD (.ref t) A s s.heap := by
    rcases hz with hz | ⟨t, hz⟩
    · exact ⟨0, Or.inl hz⟩
    · exact ⟨t, Or.inr hz⟩
  let ad0 : Nat → Nat := fun h => if h < SB + 100 then (ad (h - SB)).1 else if h < SB + 200 then tb (h - (SB + 100)) else if h < SB + 300 then (ad (h - (SB + 200))).2 else if h = SB + 300 then fm else b
  have e0 : ∀ i, i < 28 → ad0 (SB + i) = (ad i).1 := fun i hi => by
    show (if SB + i < SB + 100 then _ else _) = _
    rw [if_pos (by omega), show SB + i - SB = i by omega]
  have e1 : ∀ j, j < 3 → ad0 (SB + 100 + j) = tb j := fun j hj => by
    show (if SB + 100 + j < SB + 100 then _ else if SB + 100 + j < SB + 200 then _ else _) = _
    rw [if_neg (by omega), if_pos (by omega), show SB + 100 + j - (SB + 100) = j by omega]
  have e2 : ∀ i, i < 11 → ad0 (SB + 200 + i) = (ad i).2 := fun i hi => by
    show (if SB + 200 + i < SB + 100 then _ else if SB + 200 + i < SB + 200 then _ else if SB + 200 + i < SB + 300 then _ else _) = _
    rw [if_neg (by omega), if_neg (by omega), if_pos (by omega), show SB + 200 + i - (SB + 200) = i by omega]
  have e3 : ad0 (SB + 300) = fm := by
    show (if SB + 300 < SB + 100 then _ else if SB + 300 < SB + 200 then _ else if SB + 300 < SB + 300 then _ else if SB + 300 = SB + 300 then _ else _) = _
    rw [if_neg (by omega), if_neg (by omega), if_neg (by omega), if_pos rfl]
  have e4 : ad0 (SB + 400) = b := by
    show (if SB + 400 < SB + 100 then _ else if SB + 400 < SB + 200 then _ else if SB + 400 < SB + 300 then _ else if SB + 400 = SB + 300 then _ else _) = _
    rw [if_neg (by omega), if_neg (by omega), if_neg (by omega), if_neg (by omega)]
  refine ⟨ad0, e4, fun i q hq => ?_, fun i w hw => ?_, fun j q hq => ?_, ?_, ?_, ?_, ?_, ?_, fun q hq => ?_, fun q hq => ?_, fun q hq => ?_, fun q hq => ?_⟩
  · have hi : i < 28 := (List.getElem?_eq_some_iff.mp hq).1
    have hg : sK.getD i ("", 0, "") = q := by rw [List.getD_eq_getElem?_getD, hq]; rfl
    have ha := (had i hi).1
    have hr := hts _ (ws_sr i hi)
    rw [e0 i hi]
    unfold tmS at ha
    rw [hg] at ha hr
    exact vk_R.of hr ha
  · have hi : i < 11 := (List.getElem?_eq_some_iff.mp hw).1
    have hg : sW.getD i [] = w := by rw [List.getD_eq_getElem?_getD, hw]; rfl
    have ha := (had i (by omega)).2 hi
    rw [e0 i (by omega), e2 i hi]
    rw [hg] at ha
    exact ha
  · have hj : j < 3 := (List.getElem?_eq_some_iff.mp hq).1
    have hg : sS.getD j ("", []) = q := by rw [List.getD_eq_getElem?_getD, hq]; rfl
    have ha := htb j hj
    rw [e1 j hj]
    rw [hg] at ha
    exact ha
  · exact va_Zof (hts _ (by decide +kernel)) (hts _ (by decide +kernel)) (va_eqi (hs _ (by decide +kernel))) hA
  · rw [e3]; exact hfm
  · exact vx_Zqof (hts _ (by decide +kernel)) (hts _ (by decide +kernel)) (hs _ (by decide +kernel)) hA
  · exact vx_Zqof (hts _ (by decide +kernel)) (hts _ (by decide +kernel)) (hs _ (by decide +kernel)) hA
  · exact va_AO.of (hts _ (by decide +kernel))
  · exact va_Nw.of rfl (hts _ (wn_m q hq))
  · exact va_Nw.of rfl (hts _ (wn_f q hq))
  · exact va_Nw.of rfl (hts _ (wn_c q hq))
  · exact va_Nw.of rfl (hts _ (wn_d q hq))
theorem nca_start {args : Array Value} {s : State} (hgv : (Jvm.Cond.and given_1 narrow_1).before args s = true) : NcA s := by
  have hs : ∀ w ∈ FLT, w.before args s = true := flat_of_before _ hgv
  exact ⟨va_Nc.of (hs _ (by decide +kernel)), va_Nc.of (hs _ (by decide +kernel)), va_Nc.of (hs _ (by decide +kernel))⟩
theorem arr_start {args : Array Value} {s : State} {ty : FieldType} (hty : match ty with | .object _ => False | _ => True) (h : (Cond.arrayClass ty).before args s = true) : ∃ cA : ClassId, ArrOfT s cA ty ∧ va_RA s cA ty := by
  obtain ⟨c, k, comp, h1, h2, h3⟩ := Cond.arrayClass_spec h
  refine ⟨c, fun n z => ⟨(fun k h => by cases h), k, h2, comp, h3⟩, ?_⟩
  cases ty with
  | object C => cases hty
  | _ => exact h1
theorem pgs_start {args : Array Value} {s : State} {C : String} (h : (Cond.arrayOver (.object C)).before args s = true) : ∃ cA : ClassId, ArrOfT s cA (.object C) ∧ va_RA s cA (.object C) := by
  obtain ⟨comp, c, k, h1, h2, h3, h4, h5⟩ := Cond.arrayOver_spec h
  exact ⟨c, fun n z => ⟨(fun k h => by cases h), k, h3, comp, h4⟩, k, comp, h3, h4, h1, h5⟩
theorem cls_start {args : Array Value} {s : State} (hts : ∀ w ∈ lw_tbl, w.before args s = true) : ∃ (D : va_G) (g : Nat → ClassId), va_K D vwCl (tyG g) s := by
  have htw : ∀ w ∈ TW, w.before args s = true := fun w hw => hts w (List.mem_filter.mp hw).1
  have hK : ∀ c : Nat, ∃ q : ClassId × (Nat → Nat), ∀ r : vw_C, vwCl[c]? = some r → u_Kn s r.1 r.2.1 r.2.2 q.1 q.2 := by
    intro c
    have fin : ∀ {C : String} {T : u_T} {N : Nat}, vwCl[c]? = some (C, T, N) → (∃ (cC : ClassId) (iS : Nat → Nat), u_Kn s C T N cC iS) → ∃ q : ClassId × (Nat → Nat), ∀ r : vw_C, vwCl[c]? = some r → u_Kn s r.1 r.2.1 r.2.2 q.1 q.2 := by
      intro C T N hc hk
      obtain ⟨cC, iS, hk⟩ := hk
      refine ⟨(cC, iS), fun r hr => ?_⟩
      rw [hc] at hr
      cases hr
      exact hk
    match c with
    | 0 => exact fin clX0.1 (u_known (n := 7) htw clX0.2.1 (hts _ (by decide +kernel)))
    | 1 => exact fin clX1.1 (u_known (n := 3) htw clX1.2.1 (hts _ (by decide +kernel)))
    | 2 => exact fin clX2.1 (u_known (n := 5) htw clX2.2.1 (hts _ (by decide +kernel)))
    | 3 => exact fin clX3.1 (u_known (n := 5) htw clX3.2.1 (hts _ (by decide +kernel)))
    | 4 => exact fin clX4.1 (u_known (n := 8) htw clX4.2.1 (hts _ (by decide +kernel)))
    | 5 => exact fin clX5.1 (u_known (n := 16) htw clX5.2.1 (hts _ (by decide +kernel)))
    | 6 => exact fin clX6.1 (u_known (n := 5) htw clX6.2.1 (hts _ (by decide +kernel)))
    | 7 => exact fin clX7.1 (u_known (n := 8) htw clX7.2.1 (hts _ (by decide +kernel)))
    | 8 => exact fin clX8.1 (u_known (n := 42) htw clX8.2.1 (hts _ (by decide +kernel)))
    | c + 9 => exact ⟨(0, fun _ => 0), fun r hr => by simp [vwCl] at hr⟩
  obtain ⟨d, hd⟩ := Classical.axiomOfChoice hK
  obtain ⟨g0, a0, r0⟩ := arr_start (ty := .byte) trivial (hts _ (by decide +kernel))
  obtain ⟨g1, a1, r1⟩ := arr_start (ty := .int) trivial (hts _ (by decide +kernel))
  obtain ⟨g2, a2, r2⟩ := arr_start (ty := .long) trivial (hts _ (by decide +kernel))
  obtain ⟨g3, a3, r3⟩ := arr_start (ty := .boolean) trivial (hts _ (by decide +kernel))
  obtain ⟨g4, a4, r4⟩ := pgs_start (C := "DotRuns$Page") (hts _ (by decide +kernel))
  refine ⟨(fun c => (d c).1, fun c => (d c).2), fun k => if k = 10 then g0 else if k = 11 then g1 else if k = 12 then g2 else if k = 13 then g3 else g4, fun c q hq => hd c q hq, fun k q hq => ?_⟩
  match k, hq with
  | 0, hq => cases hq; exact ⟨a0, r0⟩
  | 1, hq => cases hq; exact ⟨a1, r1⟩
  | 2, hq => cases hq; exact ⟨a2, r2⟩
  | 3, hq => cases hq; exact ⟨a3, r3⟩
  | 4, hq => cases hq; exact ⟨a4, r4⟩
  | k + 5, hq => simp [tyG] at hq
