/-! THE START: what the claim's premises give the walk -/
abbrev FLT : List Cond := flatC (Jvm.Cond.and given_1 narrow_1)
def tmS (i : Nat) : Term := .string (sK.getD i ("", 0, "")).1 (sK.getD i ("", 0, "")).2.1
def vlS (i : Nat) : Term := .field (tmS i) "java/lang/String" "value" "[B"
theorem ws_ex : ∀ i, i < 25 → Cond.exactly (tmS i) "java/lang/String" ∈ FLT := by decide +kernel
theorem ws_sr : ∀ i, i < 25 → Cond.stringRef (sK.getD i ("", 0, "")).1 (sK.getD i ("", 0, "")).2.1 (sK.getD i ("", 0, "")).2.2 ∈ lw_tbl := by decide +kernel
/-- where the words' bytes stand among the premises -/
def ixW (i : Nat) : Nat := [277, 285, 293, 303, 314, 327, 341, 352, 364, 847, 876, 902, 933, 964].getD i 0
theorem wi_co : ∀ i, i < 14 → FLT[ixW i - 3]? = some (Cond.eq (.field (tmS i) "java/lang/String" "coder" "B") (.int 0)) := by decide +kernel
theorem wi_ar : ∀ i, i < 14 → FLT[ixW i - 2]? = some (Cond.arrayOf (vlS i) .byte) := by decide +kernel
theorem wi_le : ∀ i, i < 14 → FLT[ixW i - 1]? = some (Cond.eq (.length (vlS i)) (.int (Int32.ofNat (sW.getD i []).length))) := by decide +kernel
theorem wi_el : ∀ i, i < 14 → ∀ j, j < (sW.getD i []).length → FLT[ixW i + j]? = some (Cond.eq (.elem (vlS i) (.int (Int32.ofNat j))) (.int ((sW.getD i []).getD j 0))) := by decide +kernel
theorem ws_co (i : Nat) (h : i < 14) : Cond.eq (.field (tmS i) "java/lang/String" "coder" "B") (.int 0) ∈ FLT := List.mem_of_getElem? (wi_co i h)
theorem ws_ar (i : Nat) (h : i < 14) : Cond.arrayOf (vlS i) .byte ∈ FLT := List.mem_of_getElem? (wi_ar i h)
theorem ws_le (i : Nat) (h : i < 14) : Cond.eq (.length (vlS i)) (.int (Int32.ofNat (sW.getD i []).length)) ∈ FLT := List.mem_of_getElem? (wi_le i h)
theorem ws_el (i : Nat) (h : i < 14) (j : Nat) (hj : j < (sW.getD i []).length) : Cond.eq (.elem (vlS i) (.int (Int32.ofNat j))) (.int ((sW.getD i []).getD j 0)) ∈ FLT := List.mem_of_getElem? (wi_el i h j hj)
theorem ws_ln : ∀ i, i < 14 → (sW.getD i []).length < 2 ^ 31 := by decide +kernel
def tmT (j : Nat) : Term := .static "DotRuns" (sS.getD j ("", [])).1 "[I"
theorem wt_ar : ∀ j, j < 3 → Cond.arrayOf (tmT j) .int ∈ FLT := by decide +kernel
theorem wt_le : ∀ j, j < 3 → Cond.eq (.length (tmT j)) (.int (Int32.ofNat 6)) ∈ FLT := by decide +kernel
theorem wt_el : ∀ j, j < 3 → ∀ k, k < 6 → Cond.eq (.elem (tmT j) (.int (Int32.ofNat k))) (.int ((sS.getD j ("", [])).2.getD k 0)) ∈ FLT := by decide +kernel
theorem wt_ly : ∀ j, j < 3 → Cond.laysStatic "DotRuns" (sS.getD j ("", [])).1 "[I" ∈ lw_tbl := by decide +kernel
theorem wn_m : ∀ q ∈ nMw, Cond.methodLinkNest q.1 q.2.1 q.2.2.1 q.2.2.2 ∈ lw_tbl := by decide +kernel
theorem wn_f : ∀ q ∈ nFw, Cond.fieldLinkNest q.1 q.2.1 q.2.2.1 q.2.2.2.1 q.2.2.2.2.1 q.2.2.2.2.2 ∈ lw_tbl := by decide +kernel
theorem wn_c : ∀ q ∈ xcN, Cond.castable q q ∈ lw_tbl := by decide +kernel
theorem wn_d : ∀ q ∈ ycN, Cond.declares (Bundle.initS q) ∈ lw_tbl := by decide +kernel
def tmD (j : Nat) : Term := .static inN (dgN j) "[B"
theorem wd_ar : ∀ j, j < 2 → Cond.arrayOf (tmD j) .byte ∈ FLT := by decide +kernel
theorem wd_le : ∀ j, j < 2 → Cond.eq (.length (tmD j)) (.int (Int32.ofNat 100)) ∈ FLT := by decide +kernel
theorem wi_d0 : ∀ k, k < 100 → FLT[50 + k]? = some (Cond.eq (.elem (tmD 0) (.int (Int32.ofNat k))) (.int (dgT 0 k))) := by decide +kernel
theorem wi_d1 : ∀ k, k < 100 → FLT[153 + k]? = some (Cond.eq (.elem (tmD 1) (.int (Int32.ofNat k))) (.int (dgT 1 k))) := by decide +kernel
theorem wd_el (j : Nat) (hj : j < 2) (k : Nat) (hk : k < 100) : Cond.eq (.elem (tmD j) (.int (Int32.ofNat k))) (.int (dgT j k)) ∈ FLT := by
  match j, hj with
  | 0, _ => exact List.mem_of_getElem? (wi_d0 k hk)
  | 1, _ => exact List.mem_of_getElem? (wi_d1 k hk)
  | j + 2, hj => exact absurd hj (by omega)
theorem wd_ly : ∀ j, j < 2 → Cond.laysStatic inN (dgN j) "[B" ∈ lw_tbl := by decide +kernel
theorem wn_ca : ∀ q ∈ caN, Cond.castable q.1 q.2 ∈ lw_tbl := by decide +kernel
theorem wn_if : ∀ q ∈ itF, Cond.declares q.1 ∈ lw_tbl ∧ Cond.interfaceMethod q.1.cls q.1.cls q.1.name q.1.desc ∈ lw_tbl ∧ Cond.publicMethod q.2 ∈ lw_tbl ∧ Cond.unhidden itN q.1.name q.1.desc ∈ lw_tbl ∧ Cond.castable itN q.1.cls ∈ lw_tbl := by decide +kernel
def tmC : Term := .static "java/lang/Integer$IntegerCache" "cache" "[Ljava/lang/Integer;"
def tmE : Term := .static "java/util/ArrayList" "DEFAULTCAPACITY_EMPTY_ELEMENTDATA" "[Ljava/lang/Object;"
theorem csl_start {args : Array Value} {s : State} {A : Nat → Prop} {b L : Nat} {xs : Nat → Int32} (hts : ∀ w ∈ lw_tbl, w.before args s = true) (hs : ∀ w ∈ FLT, w.before args s = true) (hA : ∀ a : Nat, a < s.heap.size → ¬ A a) (hX : va_X b L xs s s.heap) (hbl : b < s.heap.size) : ∃ (dg ic : Nat → Nat) (eb cch mir : Nat), ∀ ad0 : Nat → Nat, (∀ j, j < 2 → ad0 (SB + 103 + j) = dg j) → ad0 (SB + 501) = cch → (∀ k, ad0 (IB + k) = ic k) → ad0 EB = eb → ad0 MB = mir → ad0 (SB + 400) = b → CsL ad0 A s (L, xs) := by
  have h1 : ∀ j : Nat, ∃ t : Nat, j < 2 → va_Z inN (dgN j) "[B" (.ref t) A s s.heap ∧ va_T .byte t 100 (fun k => .int (dgT j k)) A s s.heap := by
    intro j
    by_cases hj : j < 2
    · obtain ⟨t, ht, hT⟩ := va_Tof (tm := tmD j) (N := 100) (f := fun k => .int (dgT j k)) (A := A) (by decide) (hs _ (wd_ar j hj)) (va_eqt (hs _ (wd_le j hj))) (fun k hk => va_eqt (hs _ (wd_el j hj k hk))) hA
      exact ⟨t, fun _ => ⟨va_Zref (hts _ (wd_ly j hj)) (hts _ (by decide +kernel)) ht hA, hT⟩⟩
    · exact ⟨0, fun h => absurd h hj⟩
  obtain ⟨dg, hdg⟩ := Classical.axiomOfChoice h1
  obtain ⟨ic, hic, hel⟩ := vb_Cof (st := tmC) (A := A) rfl (va_eqt (hs _ (by decide +kernel))) (hs _ (by decide +kernel)) hA
  obtain ⟨cch, hcc, hcT⟩ := va_Tof (tm := tmC) (ty := .object inN) (N := 256) (f := fun k => .ref (ic k)) (A := A) (by decide) (hs _ (by decide +kernel)) (va_eqt (hs _ (by decide +kernel))) (fun k hk => hel k hk) hA
  obtain ⟨eb, heb, heT⟩ := va_Tof (tm := tmE) (ty := .object objN) (N := 0) (f := fun _ => .null) (A := A) (by decide) (hs _ (by decide +kernel)) (va_eqt (hs _ (by decide +kernel))) (fun k hk => absurd hk (Nat.not_lt_zero _)) hA
  obtain ⟨mir, hmi⟩ := va_Mi.of (C := "[Ljava/lang/Object;") (hs _ (by decide +kernel))
  refine ⟨dg, ic, eb, cch, mir, fun ad0 a1 a2 a3 a4 a5 a6 => ⟨fun j hj => ?_, ?_, ⟨?_, ?_, ?_⟩, ⟨?_, ?_⟩, ?_, va_AO.of (hts _ (by decide +kernel)), fun q hq => va_Nw.of rfl (hts _ (wn_ca q hq)), fun q hq => ?_, ?_⟩⟩
  · rw [a1 j hj]; exact hdg j hj
  · exact va_Zof (hts _ (by decide +kernel)) (hts _ (by decide +kernel)) (va_eqi (hs _ (by decide +kernel))) hA
  · rw [a2]; exact va_Zref (hts _ (by decide +kernel)) (hts _ (by decide +kernel)) hcc hA
  · rw [a2, show (fun k => Value.ref (ad0 (IB + k))) = (fun k => Value.ref (ic k)) from funext fun k => by rw [a3]]; exact hcT
  · rw [show (fun k => ad0 (IB + k)) = ic from funext a3]; exact hic
  · rw [a4]; exact va_Zref (hts _ (by decide +kernel)) (hts _ (by decide +kernel)) heb hA
  · rw [a4]; exact heT
  · rw [a5]; exact hmi
  · obtain ⟨q1, q2, q3, q4, q5⟩ := wn_if q hq
    exact va_Fw.of (hts _ q1) (hts _ q2) (hts _ q3) (hts _ q4) (hts _ q5)
  · rw [a6]
    obtain ⟨scr, x1, x2, x3, x4, x5⟩ := hX
    exact ⟨scr, x1, x2, x3, Nat.le_of_eq x4.symm, by show scr.slots.size.toInt32 = Int32.ofNat L; rw [x4], x5, hA b hbl⟩
theorem cst_start {args : Array Value} {s : State} {A : Nat → Prop} {b L : Nat} {xs : Nat → Int32} (hts : ∀ w ∈ lw_tbl, w.before args s = true) (hgv : (Jvm.Cond.and given_1 narrow_1).before args s = true) (hA : ∀ a : Nat, a < s.heap.size → ¬ A a) (hX : va_X b L xs s s.heap) (hbl : b < s.heap.size) : ∃ ad0 : Nat → Nat, ad0 (SB + 400) = b ∧ Cst ad0 A s (L, xs) := by
  have hs : ∀ w ∈ FLT, w.before args s = true := flat_of_before _ hgv
  have h0 : ∀ i : Nat, ∃ q : Nat × Nat, i < 25 → (tmS i).eval args s none [] s = some (.ref q.1) ∧ (i < 14 → va_O "java/lang/String" q.1 A s s.heap ∧ va_OF "java/lang/String" "coder" "B" (.int 0) q.1 A s s.heap ∧ va_OF "java/lang/String" "value" "[B" (.ref q.2) q.1 A s s.heap ∧ va_T .byte q.2 (sW.getD i []).length (fun j => .int ((sW.getD i []).getD j 0)) A s s.heap) := by
    intro i
    by_cases hi : i < 25
    · obtain ⟨a, c, cA, kA, q1, q2, q3, q4, q5, q6, -⟩ := Cond.exactly_spec (args := args) (first := s) (o := none) (s := s) (idx := []) (t := tmS i) (cls := "java/lang/String") (hs _ (ws_ex i hi))
      by_cases hj : i < 14
      · obtain ⟨t, ht, hT⟩ := va_Tof (tm := vlS i) (f := fun j => .int ((sW.getD i []).getD j 0)) (A := A) (ws_ln i hj) (hs _ (ws_ar i hj)) (va_eqt (hs _ (ws_le i hj))) (fun j hj' => va_eqt (hs _ (ws_el i hj j hj'))) hA
        exact ⟨(a, t), fun _ => ⟨q1, fun _ => ⟨⟨cA, q3, q5, by rw [q6]; exact q2, hA a (Array.getElem?_eq_some_iff.mp q3).1⟩, vk_OFof q1 (va_eqt (hs _ (ws_co i hj))) hA, vk_OFof q1 ht hA, hT⟩⟩⟩
      · exact ⟨(a, 0), fun _ => ⟨q1, fun h => absurd h hj⟩⟩
    · exact ⟨(0, 0), fun h => absurd h hi⟩
  have h1 : ∀ j : Nat, ∃ t : Nat, j < 3 → va_Z "DotRuns" (sS.getD j ("", [])).1 "[I" (.ref t) A s s.heap ∧ va_T .int t 6 (fun k => .int ((sS.getD j ("", [])).2.getD k 0)) A s s.heap := by
    intro j
    by_cases hj : j < 3
    · obtain ⟨t, ht, hT⟩ := va_Tof (tm := tmT j) (N := 6) (f := fun k => .int ((sS.getD j ("", [])).2.getD k 0)) (A := A) (by decide) (hs _ (wt_ar j hj)) (va_eqt (hs _ (wt_le j hj))) (fun k hk => va_eqt (hs _ (wt_el j hj k hk))) hA
      exact ⟨t, fun _ => ⟨va_Zref (hts _ (wt_ly j hj)) (hts _ (by decide +kernel)) ht hA, hT⟩⟩
    · exact ⟨0, fun h => absurd h hj⟩
  obtain ⟨ad, had⟩ := Classical.axiomOfChoice h0
  obtain ⟨tb, htb⟩ := Classical.axiomOfChoice h1
  have hz : va_Zq pcN "SIOOBE_FORMATTER" pcD A s s.heap := va_Zqof (hts _ (by decide +kernel)) (hts _ (by decide +kernel)) (hs _ (by decide +kernel)) hA
  obtain ⟨fm, hfm⟩ : ∃ t : Nat, va_Z pcN "SIOOBE_FORMATTER" pcD .null A s s.heap ∨ va_Z pcN "SIOOBE_FORMATTER" pcD (.ref t) A s s.heap := by
    rcases hz with hz | ⟨t, hz⟩
    · exact ⟨0, Or.inl hz⟩
    · exact ⟨t, Or.inr hz⟩
  obtain ⟨dg, ic, eb, cch, mir, hcsl⟩ := csl_start hts hs hA hX hbl
  let ad0 : Nat → Nat := fun h => if h < SB + 100 then (ad (h - SB)).1 else if h < SB + 103 then tb (h - (SB + 100)) else if h < SB + 200 then dg (h - (SB + 103)) else if h < SB + 300 then (ad (h - (SB + 200))).2 else if h < SB + 400 then fm else if h < SB + 500 then b else if h < SB + 501 then eb else if h < SB + 600 then cch else if h < SB + 1000 then mir else ic (h - (SB + 1000))
  have e0 : ∀ i, i < 25 → ad0 (SB + i) = (ad i).1 := fun i hi => by
    show (if SB + i < SB + 100 then _ else _) = _
    rw [if_pos (by omega), show SB + i - SB = i by omega]
  have e1 : ∀ j, j < 3 → ad0 (SB + 100 + j) = tb j := fun j hj => by
    show (if SB + 100 + j < SB + 100 then _ else if SB + 100 + j < SB + 103 then _ else _) = _
    rw [if_neg (by omega), if_pos (by omega), show SB + 100 + j - (SB + 100) = j by omega]
  have e1d : ∀ j, j < 2 → ad0 (SB + 103 + j) = dg j := fun j hj => by
    show (if SB + 103 + j < SB + 100 then _ else if SB + 103 + j < SB + 103 then _ else if SB + 103 + j < SB + 200 then _ else _) = _
    rw [if_neg (by omega), if_neg (by omega), if_pos (by omega), show SB + 103 + j - (SB + 103) = j by omega]
  have e2 : ∀ i, i < 14 → ad0 (SB + 200 + i) = (ad i).2 := fun i hi => by
    show (if SB + 200 + i < SB + 100 then _ else if SB + 200 + i < SB + 103 then _ else if SB + 200 + i < SB + 200 then _ else if SB + 200 + i < SB + 300 then _ else _) = _
    rw [if_neg (by omega), if_neg (by omega), if_neg (by omega), if_pos (by omega), show SB + 200 + i - (SB + 200) = i by omega]
  have e3 : ad0 (SB + 300) = fm := by
    show (if SB + 300 < SB + 100 then _ else if SB + 300 < SB + 103 then _ else if SB + 300 < SB + 200 then _ else if SB + 300 < SB + 300 then _ else if SB + 300 < SB + 400 then _ else _) = _
    rw [if_neg (by omega), if_neg (by omega), if_neg (by omega), if_neg (by omega), if_pos (by omega)]
  have e4 : ad0 (SB + 400) = b := by
    show (if SB + 400 < SB + 100 then _ else if SB + 400 < SB + 103 then _ else if SB + 400 < SB + 200 then _ else if SB + 400 < SB + 300 then _ else if SB + 400 < SB + 400 then _ else if SB + 400 < SB + 500 then _ else _) = _
    rw [if_neg (by omega), if_neg (by omega), if_neg (by omega), if_neg (by omega), if_neg (by omega), if_pos (by omega)]
  have e5 : ad0 EB = eb := by
    show (if SB + 500 < SB + 100 then _ else if SB + 500 < SB + 103 then _ else if SB + 500 < SB + 200 then _ else if SB + 500 < SB + 300 then _ else if SB + 500 < SB + 400 then _ else if SB + 500 < SB + 500 then _ else if SB + 500 < SB + 501 then _ else _) = _
    rw [if_neg (by omega), if_neg (by omega), if_neg (by omega), if_neg (by omega), if_neg (by omega), if_neg (by omega), if_pos (by omega)]
  have e6 : ad0 (SB + 501) = cch := by
    show (if SB + 501 < SB + 100 then _ else if SB + 501 < SB + 103 then _ else if SB + 501 < SB + 200 then _ else if SB + 501 < SB + 300 then _ else if SB + 501 < SB + 400 then _ else if SB + 501 < SB + 500 then _ else if SB + 501 < SB + 501 then _ else if SB + 501 < SB + 600 then _ else _) = _
    rw [if_neg (by omega), if_neg (by omega), if_neg (by omega), if_neg (by omega), if_neg (by omega), if_neg (by omega), if_neg (by omega), if_pos (by omega)]
  have e7 : ad0 MB = mir := by
    show (if SB + 600 < SB + 100 then _ else if SB + 600 < SB + 103 then _ else if SB + 600 < SB + 200 then _ else if SB + 600 < SB + 300 then _ else if SB + 600 < SB + 400 then _ else if SB + 600 < SB + 500 then _ else if SB + 600 < SB + 501 then _ else if SB + 600 < SB + 600 then _ else if SB + 600 < SB + 1000 then _ else _) = _
    rw [if_neg (by omega), if_neg (by omega), if_neg (by omega), if_neg (by omega), if_neg (by omega), if_neg (by omega), if_neg (by omega), if_neg (by omega), if_pos (by omega)]
  have e8 : ∀ k, ad0 (IB + k) = ic k := fun k => by
    show (if SB + 1000 + k < SB + 100 then _ else if SB + 1000 + k < SB + 103 then _ else if SB + 1000 + k < SB + 200 then _ else if SB + 1000 + k < SB + 300 then _ else if SB + 1000 + k < SB + 400 then _ else if SB + 1000 + k < SB + 500 then _ else if SB + 1000 + k < SB + 501 then _ else if SB + 1000 + k < SB + 600 then _ else if SB + 1000 + k < SB + 1000 then _ else _) = _
    rw [if_neg (by omega), if_neg (by omega), if_neg (by omega), if_neg (by omega), if_neg (by omega), if_neg (by omega), if_neg (by omega), if_neg (by omega), if_neg (by omega), show IB + k - (SB + 1000) = k from Nat.add_sub_cancel_left _ _]
  refine ⟨ad0, e4, fun i q hq => ?_, fun i w hw => ?_, fun j q hq => ?_, ?_, ?_, ?_, ?_, ?_, fun q hq => ?_, fun q hq => ?_, fun q hq => ?_, fun q hq => ?_, ?_, ?_⟩
  · have hi : i < 25 := (List.getElem?_eq_some_iff.mp hq).1
    have hg : sK.getD i ("", 0, "") = q := by rw [List.getD_eq_getElem?_getD, hq]; rfl
    have ha := (had i hi).1
    have hr := hts _ (ws_sr i hi)
    rw [e0 i hi]
    unfold tmS at ha
    rw [hg] at ha hr
    exact vk_R.of hr ha
  · have hi : i < 14 := (List.getElem?_eq_some_iff.mp hw).1
    have hg : sW.getD i [] = w := by rw [List.getD_eq_getElem?_getD, hw]; rfl
    have ha := (had i (by omega)).2 hi
    rw [e0 i (by omega), e2 i hi]
    rw [hg] at ha
    exact ha
  · have hj : j < 3 := (List.getElem?_eq_some_iff.mp hq).1
    have hg : sS.getD j ("", []) = q := by rw [List.getD_eq_getElem?_getD, hq]; rfl
    have ha := htb j hj
    rw [e1 j hj]
    rw [hg] at ha
    exact ha
  · exact va_Zof (hts _ (by decide +kernel)) (hts _ (by decide +kernel)) (va_eqi (hs _ (by decide +kernel))) hA
  · rw [e3]; exact hfm
  · exact vx_Zqof (hts _ (by decide +kernel)) (hts _ (by decide +kernel)) (hs _ (by decide +kernel)) hA
  · exact vx_Zqof (hts _ (by decide +kernel)) (hts _ (by decide +kernel)) (hs _ (by decide +kernel)) hA
  · exact va_AO.of (hts _ (by decide +kernel))
  · exact va_Nw.of rfl (hts _ (wn_m q hq))
  · exact va_Nw.of rfl (hts _ (wn_f q hq))
  · exact va_Nw.of rfl (hts _ (wn_c q hq))
  · exact va_Nw.of rfl (hts _ (wn_d q hq))
  · exact va_Nw.of rfl (hts _ (by decide +kernel))
  · exact hcsl ad0 e1d e6 e8 e5 e7 e4
/-- private methods of the class above, as a StringBuilder's -/
theorem sel_sb {y : MethodName} {s : State} {args : Array Value} (hsame : (Cond.sameMethod y.cls y.cls y.name y.desc).before args s = true) (hins : (Cond.instantiable "java/lang/StringBuilder" 4).before args s = true) (hpriv : (Cond.privateMethod y).before args s = true) (hinst : (Cond.instanceMethod y).before args s = true) : (Cond.selects "java/lang/StringBuilder" y y).before args s = true := by
  obtain ⟨c, k, hc, -⟩ := Cond.instantiable_spec hins
  obtain ⟨mk, methM, hnamed, hmethM, -, -⟩ := Cond.instanceMethod_spec hinst
  obtain ⟨cR, ck, r, hcR, hck, hni, hfound, hn2⟩ := Cond.sameMethod_found hsame
  have hrm : r = mk := Option.some.inj (hn2.symm.trans hnamed)
  subst hrm
  have hcls : r.cls = cR := Option.some.inj ((findClass_of_methodNamed hnamed).symm.trans hcR)
  have hsel : selectMethod {} s.vm c r = .method r := selectMethod_private hmethM (Cond.privateMethod_at hpriv r methM hnamed hmethM)
  simp only [Cond.before, Cond.holds, Cond.value, hc, hfound, hnamed, hsel, hcls, hck]
  simp; exact hni
theorem wp_v : ∀ y ∈ pvN, Cond.sameMethod y.cls y.cls y.name y.desc ∈ lw_tbl ∧ Cond.privateMethod y ∈ lw_tbl ∧ Cond.instanceMethod y ∈ lw_tbl := by decide +kernel
theorem htw_start {args : Array Value} {s : State} (hts : ∀ w ∈ lw_tbl, w.before args s = true) : ∀ w ∈ TW, w.before args s = true := by
  intro w hw
  rcases List.mem_append.mp (List.mem_filter.mp hw).1 with h | h
  · exact hts w h
  · obtain ⟨y, hy, rfl⟩ := List.mem_map.mp h
    obtain ⟨h1, h2, h3⟩ := wp_v y hy
    exact sel_sb (hts _ h1) (hts _ (by decide +kernel)) (hts _ h2) (hts _ h3)
theorem arr_start {args : Array Value} {s : State} {ty : FieldType} (hty : match ty with | .object _ => False | _ => True) (h : (Cond.arrayClass ty).before args s = true) : ∃ cA : ClassId, ArrOfT s cA ty ∧ va_RA s cA ty := by
  obtain ⟨c, k, comp, h1, h2, h3⟩ := Cond.arrayClass_spec h
  refine ⟨c, fun n z => ⟨(fun k h => by cases h), k, h2, comp, h3⟩, ?_⟩
  cases ty with
  | object C => cases hty
  | _ => exact h1
theorem pgs_start {args : Array Value} {s : State} {C : String} (h : (Cond.arrayOver (.object C)).before args s = true) : ∃ cA : ClassId, ArrOfT s cA (.object C) ∧ va_RA s cA (.object C) := by
  obtain ⟨comp, c, k, h1, h2, h3, h4, h5⟩ := Cond.arrayOver_spec h
  exact ⟨c, fun n z => ⟨(fun k h => by cases h), k, h3, comp, h4⟩, k, comp, h3, h4, h1, h5⟩
theorem cls_start {args : Array Value} {s : State} (hts : ∀ w ∈ lw_tbl, w.before args s = true) : ∃ (D : va_G) (g : Nat → ClassId), va_K D vwCl (tyG g) s := by
  have htw : ∀ w ∈ TW, w.before args s = true := htw_start hts
  have hK : ∀ c : Nat, ∃ q : ClassId × (Nat → Nat), ∀ r : vw_C, vwCl[c]? = some r → u_Kn s r.1 r.2.1 r.2.2 q.1 q.2 := by
    intro c
    have fin : ∀ {C : String} {T : u_T} {N : Nat}, vwCl[c]? = some (C, T, N) → (∃ (cC : ClassId) (iS : Nat → Nat), u_Kn s C T N cC iS) → ∃ q : ClassId × (Nat → Nat), ∀ r : vw_C, vwCl[c]? = some r → u_Kn s r.1 r.2.1 r.2.2 q.1 q.2 := by
      intro C T N hc hk
      obtain ⟨cC, iS, hk⟩ := hk
      refine ⟨(cC, iS), fun r hr => ?_⟩
      rw [hc] at hr
      cases hr
      exact hk
    match c with
    | 0 => exact fin clJ0.1 (u_known (n := 4) htw clJ0.2.1 (hts _ (by decide +kernel)))
    | 1 => exact fin clJ4.1 (u_known (n := 4) htw clJ4.2.1 (hts _ (by decide +kernel)))
    | 2 => exact fin (C := RJ6) (T := TJ6) (N := 1) rfl (u_known (n := 1) htw (uw_of (by decide +kernel)) (hts _ (by decide +kernel)))
    | 3 => exact fin clJx35411.1 (u_known (n := 4) htw clJx35411.2.1 (hts _ (by decide +kernel)))
    | 4 => exact fin clJx4a65c.1 (u_known (n := 3) htw clJx4a65c.2.1 (hts _ (by decide +kernel)))
    | 5 => exact fin clX0.1 (u_known (n := 7) htw clX0.2.1 (hts _ (by decide +kernel)))
    | 6 => exact fin clX1.1 (u_known (n := 3) htw clX1.2.1 (hts _ (by decide +kernel)))
    | 7 => exact fin clX2.1 (u_known (n := 5) htw clX2.2.1 (hts _ (by decide +kernel)))
    | 8 => exact fin clX3.1 (u_known (n := 5) htw clX3.2.1 (hts _ (by decide +kernel)))
    | 9 => exact fin clX4.1 (u_known (n := 8) htw clX4.2.1 (hts _ (by decide +kernel)))
    | 10 => exact fin clX5.1 (u_known (n := 16) htw clX5.2.1 (hts _ (by decide +kernel)))
    | 11 => exact fin clX6.1 (u_known (n := 5) htw clX6.2.1 (hts _ (by decide +kernel)))
    | 12 => exact fin clX7.1 (u_known (n := 8) htw clX7.2.1 (hts _ (by decide +kernel)))
    | 13 => exact fin clX8.1 (u_known (n := 4) htw clX8.2.1 (hts _ (by decide +kernel)))
    | 14 => exact fin clX9.1 (u_known (n := 13) htw clX9.2.1 (hts _ (by decide +kernel)))
    | 15 => exact fin clX10.1 (u_known (n := 2) htw clX10.2.1 (hts _ (by decide +kernel)))
    | c + 16 => exact ⟨(0, fun _ => 0), fun r hr => by simp [vwCl] at hr⟩
  obtain ⟨d, hd⟩ := Classical.axiomOfChoice hK
  obtain ⟨g0, a0, r0⟩ := arr_start (ty := .byte) trivial (hts _ (by decide +kernel))
  obtain ⟨g1, a1, r1⟩ := arr_start (ty := .int) trivial (hts _ (by decide +kernel))
  obtain ⟨g2, a2, r2⟩ := arr_start (ty := .long) trivial (hts _ (by decide +kernel))
  obtain ⟨g3, a3, r3⟩ := arr_start (ty := .boolean) trivial (hts _ (by decide +kernel))
  obtain ⟨g4, a4, r4⟩ := pgs_start (C := "DotRuns$Page") (hts _ (by decide +kernel))
  obtain ⟨g5, a5, r5⟩ := pgs_start (C := "java/lang/Object") (hts _ (by decide +kernel))
  refine ⟨(fun c => (d c).1, fun c => (d c).2), fun k => if k = 10 then g0 else if k = 11 then g1 else if k = 12 then g2 else if k = 13 then g3 else if k = 14 then g4 else g5, fun c q hq => hd c q hq, fun k q hq => ?_⟩
  match k, hq with
  | 0, hq => cases hq; exact ⟨a0, r0⟩
  | 1, hq => cases hq; exact ⟨a1, r1⟩
  | 2, hq => cases hq; exact ⟨a2, r2⟩
  | 3, hq => cases hq; exact ⟨a3, r3⟩
  | 4, hq => cases hq; exact ⟨a4, r4⟩
  | 5, hq => cases hq; exact ⟨a5, r5⟩
  | k + 6, hq => simp [tyG] at hq
