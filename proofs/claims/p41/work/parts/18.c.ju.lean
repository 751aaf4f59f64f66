/-! WHAT IS MADE; COPIES -/
def nO (c : Nat) : Mm → Option (Nat × Mm × Nat × Nat) := fun M => if decide (Mn M < SB) = true then some (Mn M, nw M c 0, 1, nsl c) else none
def nA (kd : Nat) (n : Int32) : Mm → Option (Nat × Mm × Nat × Nat) := fun M => if (decide (Mn M < SB) && (decide (¬ n < 0) && decide (n.toNatClampNeg ≤ 100000))) = true then some (Mn M, nw M kd n.toNatClampNeg, 1, n.toNatClampNeg) else none
/-- a new array with the ints of h -/
def cpy (M : Mm) (kd h : Nat) : Mm := ((nw M kd (Ml M h)).1, (fun a b => if a = M.1.1 then Mi M h b else M.2.1 a b), (nw M kd (Ml M h)).2.2)
def fitK (kd : Nat) (v : Int32) : Bool := if kd = 13 then fits .boolean (.int v) else if kd = 10 then fits .byte (.int v) else fits .int (.int v)
def nC (kd h : Nat) : Mm → Option (Nat × Mm × Nat × Nat) := fun M => if (decide (Mn M < SB) && (List.range (Ml M h)).all (fun i => fitK kd (Mi M h i))) = true then some (Mn M, cpy M kd h, 1, Ml M h) else none
/-- arraycopy of ints, out of a row f -/
def sCp (M : Mm) (d : Nat) (f : Nat → Int32) (sp dp n : Nat) : Mm := (M.1, (fun a b => if a = d then va_cpy f (Mi M d) sp dp n b else M.2.1 a b), M.2.2)
def okCp (sp dp n : Int32) (ls ld : Nat) : Bool := decide (¬ sp < 0) && (decide (¬ dp < 0) && (decide (¬ n < 0) && (decide (sp.toNatClampNeg + n.toNatClampNeg ≤ ls) && decide (dp.toNatClampNeg + n.toNatClampNeg ≤ ld))))
def cpB (kd h : Nat) (sp : Int32) (d : Nat) (dp n : Int32) : Mm → Option (Unit × Mm) := fun M => if (okCp sp dp n (Ml M h) (Ml M d) && (List.range n.toNatClampNeg).all (fun i => fitK kd (Mi M h (sp.toNatClampNeg + i)))) = true then some ((), sCp M d (Mi M h) sp.toNatClampNeg dp.toNatClampNeg n.toNatClampNeg) else none
def stF (h : Nat) (j : Nat) : Int32 := (sW.getD (h % 1000) []).getD j 0
def cpK (h : Nat) (sp : Int32) (d : Nat) (dp n : Int32) : Mm → Option (Unit × Mm) := fun M => if (okCp sp dp n (sW.getD (h % 1000) []).length (Ml M d) && (List.range n.toNatClampNeg).all (fun i => fitK 10 (stF h (sp.toNatClampNeg + i)))) = true then some ((), sCp M d (stF h) sp.toNatClampNeg dp.toNatClampNeg n.toNatClampNeg) else none
def cpQ (M : Mm) (d : Nat) (f : Nat → Option Nat) (sp dp n : Nat) : Mm := (M.1, M.2.1, M.2.2.1, (fun a b => if a = d then va_cpy f (Mr M d) sp dp n b else M.2.2.2 a b))
def cpR (h : Nat) (sp : Int32) (d : Nat) (dp n : Int32) : Mm → Option (Unit × Mm) := fun M => if okCp sp dp n (Ml M h) (Ml M d) = true then some ((), cpQ M d (Mr M h) sp.toNatClampNeg dp.toNatClampNeg n.toNatClampNeg) else none
section JuRows
variable {α β : Type} {κ : Cx} {own : String} {cc : ByteArray} {nL fr mc ms lc : Nat} {fin : α → Mm → Prop} {pc : Nat} {l l' : List (Option TV)} {st : List TV} {F F1 F2 : Mm → Option (α × Mm × Nat × Nat)} {ci N : Nat} {C : String} {T : u_T} {ty : Nat → FieldType}

theorem N_new (hc : Jc κ own cc nL fr mc ms lc) (hcl : ClOk ci C T N ty) (hdv : ∀ j, j < N → defaultValue (ty j) = dv ci j) {index : Nat} (h1 : Cond.classLink own index C ∈ TW) (h2 : Cond.instantiable C N ∈ TW) (h3 : Cond.initialized C ∈ TW) (hd : decode cc pc = .ok (.new index, 3)) {G1 : Nat → Mm → Option (α × Mm × Nat × Nat)} (kk : ∀ h, Jw κ (wM κ) nL fin (pc + 3) l ((ci, .ref h) :: st) (G1 h)) : Jw κ (wM κ) nL fin pc l st (wq (nO ci) G1) := by
  obtain ⟨⟨p, l9, e, R, s, m, args, below, meth, c⟩, ⟨D, g, A, Q⟩, M0, ad0⟩ := κ
  obtain ⟨hx, hb, hml, hown, hts, hK, hA, hst9, hlk, hR⟩ := hc
  subst hR
  intro M ad H locs ls a M' kc ks cs ss hF hfin hcc hss hW hl hst
  obtain ⟨hP, hD, hS, hM, hn, hC, hex, hea⟩ := id hW
  obtain ⟨hc1, hin, htyo, hnm, hN, h9⟩ := hcl
  obtain ⟨r9, M1, c1, s1, c2, s2, q1, hF, hkc, hks⟩ := wq_some hF
  unfold nO at q1
  split at q1
  case isFalse => cases q1
  case isTrue hlt9 =>
  cases q1
  have hlt : Mn M < SB := of_decide_eq_true hlt9
  rw [hN] at hks
  have hcc : cs + kc ≤ mc := hcc
  have hss : ss + ks ≤ ms := hss
  have hcells : cs + 1 ≤ mc := by omega
  have hslots : ss + N ≤ ms := by omega
  refine va_new (fs := (List.range N).map (dv ci)) hx hb hts hin ty htyo hown (hts _ h1) (hts _ h2) (hts _ h3) hK hP hD hS hA hc1 (fun j hj => ?_) hcells hslots hd (fun q H1 hP1 hD1 hS1 => ?_)
  · rw [hdv j hj]
    show _ = ((List.range N).map (dv ci)).getD j .null
    rw [List.getD_eq_getElem?_getD, List.getElem?_map, List.getElem?_range hj]
    rfl
  have hpush : wl g ad M ++ [(q, .inr (kno ci, (List.range N).map (dv ci)))] = wl g (va_up ad (Mn M) q) (nw M ci 0) := by
    refine wl_push g ad _ (M' := nw M ci 0) rfl (va_up_self _ _ _) ?_ (fun i hi => nw_old g hM hlt ci 0 q hi)
    have e1 : Mk (nw M ci 0) (Mn M) = ci := va_up_self _ _ _
    rw [ce_obj g _ e1 h9]
    refine congrArg (fun x => Sum.inr (kno ci, x)) ?_
    unfold fl
    rw [e1, hN]
    exact List.map_congr_left (fun k _ => nw_sv _ M)
  replace hP1 := (congrArg (fun z => va_P D vwCl z H1) hpush).mp hP1
  replace hD1 := (congrArg (fun z => va_D A z) hpush).mp hD1
  have hA1 : exA (Mn M) ad (va_up ad (Mn M) q) := exA_up (Nat.le_refl _) hlt q
  have e9 : trS (va_up ad (Mn M) q) ((ci, .ref (Mn M)) :: st) = .ref q :: trS ad st := by
    rw [← trS_ex (κ := ((p, l9, e, _, s, m, args, below, meth, c), (D, g, A, Q), M0, ad0)) hn hA1 hst]
    show Value.ref (va_up ad (Mn M) q (Mn M)) :: _ = _
    rw [va_up_self]; rfl
  rw [← e9]
  exact kk (Mn M) (nw M ci 0) _ H1 locs ls a M' c2 s2 (cs + 1) (ss + N) hF hfin (show cs + 1 + c2 ≤ mc by omega) (show ss + N + s2 ≤ ms by omega) ⟨hP1, hD1, hS1, okM_nw hlt hM ci 0, hlt, hC.go (State.WarmedH.refl s) (fun _ _ _ => rfl) (fun _ z => z) (fun x hx => va_up_ne _ _ (by omega)), hex.tr (ex_nw M ci 0), exA.tr hex.1 hea hA1⟩ (lvk_ex (κ := ((p, l9, e, _, s, m, args, below, meth, c), (D, g, A, Q), M0, ad0)) hn (ex_nw M ci 0) hA1 hl) (okS_cons (fun z hz => by cases hz; exact okH_of (M := nw M ci 0) (Nat.lt_succ_self _) (va_up_self _ _ _) (by omega)) (okS_ex (κ := ((p, l9, e, _, s, m, args, below, meth, c), (D, g, A, Q), M0, ad0)) (ex_nw M ci 0) hst))
theorem N_newa10 (hc : Jc κ own cc nL fr mc ms lc) {n : Int32} (hw : Cond.arrayClass .byte ∈ TW) (hd : decode cc pc = .ok (.newarray .byte, 2)) {G1 : Nat → Mm → Option (α × Mm × Nat × Nat)} (kk : ∀ h, Jw κ (wM κ) nL fin (pc + 2) l ((10, .ref h) :: st) (G1 h)) : Jw κ (wM κ) nL fin pc l ((0, .int n) :: st) (wq (nA 10 n) G1) := by
  obtain ⟨⟨p, l9, e, R, s, m, args, below, meth, c⟩, ⟨D, g, A, Q⟩, M0, ad0⟩ := κ
  obtain ⟨hx, hb, hml, hown, hts, hK, hA, hst9, hlk, hR⟩ := hc
  subst hR
  intro M ad H locs ls a M' kc ks cs ss hF hfin hcc hss hW hl hst
  obtain ⟨hP, hD, hS, hM, hn, hC, hex, hea⟩ := id hW
  obtain ⟨r9, M1, c1, s1, c2, s2, q1, hF, hkc, hks⟩ := wq_some hF
  unfold nA at q1
  split at q1
  case isFalse => cases q1
  case isTrue hlt9 =>
  cases q1
  rw [Bool.and_eq_true, Bool.and_eq_true, decide_eq_true_eq, decide_eq_true_eq, decide_eq_true_eq] at hlt9
  obtain ⟨hlt, hn9, hbd⟩ := hlt9
  obtain ⟨N9, hN9⟩ : ∃ N9, n.toNatClampNeg = N9 := ⟨_, rfl⟩
  rw [hN9] at hbd hF hks
  have hcc : cs + kc ≤ mc := hcc
  have hss : ss + ks ≤ ms := hss
  have hcells : cs + 1 ≤ mc := by omega
  have hslots : ss + N9 ≤ ms := by omega
  have hst := okS_tl hst
  refine va_newa (atype := .byte) hx hb (hts _ hw) rfl hK hP hD hS hA (a0 := (N9, .inl (fun _ => 0))) (fun _ => rfl) hn9 hN9 (by show N9 * 1 ≤ 536870912; omega) hcells hslots hd (fun q cA H1 hK1 hP1 hD1 hS1 => ?_)
  have hcA : cA = g 10 := by
    have k1 : s.vm.findClass ("[" ++ FieldType.toString .byte) = some cA := (hK1.2 6 (cA, .byte) rfl).2
    have k2 : s.vm.findClass ("[" ++ FieldType.toString .byte) = some (g 10) := (hK.2 0 (g 10, .byte) rfl).2
    exact Option.some.inj (k1.symm.trans k2)
  subst hcA
  have hpush : wl g ad M ++ [(q, .inl (g 10, (N9, .inl (fun _ => 0))))] = wl g (va_up ad (Mn M) q) (nw M 10 N9) := by
    refine wl_push g ad _ (M' := nw M 10 N9) rfl (va_up_self _ _ _) ?_ (fun i hi => nw_old g hM hlt 10 N9 q hi)
    have e1 : Mk (nw M 10 N9) (Mn M) = 10 := va_up_self _ _ _
    have e2 : Ml (nw M 10 N9) (Mn M) = N9 := va_up_self _ _ _
    have e3 : Mi (nw M 10 N9) (Mn M) = fun _ => 0 := by funext k; show (if Mn M = Mn M then (0 : Int32) else _) = 0; rw [if_pos rfl]
    rw [ce_int g _ e1 (Or.inl rfl), e2, e3]
  replace hP1 := (congrArg (fun z => va_P D vwCl z H1) hpush).mp hP1
  replace hD1 := (congrArg (fun z => va_D A z) hpush).mp hD1
  have hA1 : exA (Mn M) ad (va_up ad (Mn M) q) := exA_up (Nat.le_refl _) hlt q
  have e9 : trS (va_up ad (Mn M) q) ((10, .ref (Mn M)) :: st) = .ref q :: trS ad st := by
    rw [← trS_ex (κ := ((p, l9, e, _, s, m, args, below, meth, c), (D, g, A, Q), M0, ad0)) hn hA1 hst]
    show Value.ref (va_up ad (Mn M) q (Mn M)) :: _ = _
    rw [va_up_self]; rfl
  have kk2 := kk (Mn M) (nw M 10 N9) _ H1 locs ls a M' c2 s2 (cs + 1) (ss + N9) hF hfin (show cs + 1 + c2 ≤ mc by omega) (show ss + N9 + s2 ≤ ms by omega) ⟨hP1, hD1, hS1, okM_nw hlt hM 10 N9, hlt, hC.go (State.WarmedH.refl s) (fun _ _ _ => rfl) (fun _ z => z) (fun x hx => va_up_ne _ _ (by omega)), hex.tr (ex_nw M 10 N9), exA.tr hex.1 hea hA1⟩ (lvk_ex (κ := ((p, l9, e, _, s, m, args, below, meth, c), (D, g, A, Q), M0, ad0)) hn (ex_nw M 10 N9) hA1 hl) (okS_cons (fun z hz => by cases hz; exact okH_of (M := nw M 10 N9) (Nat.lt_succ_self _) (va_up_self _ _ _) (by omega)) (okS_ex (κ := ((p, l9, e, _, s, m, args, below, meth, c), (D, g, A, Q), M0, ad0)) (ex_nw M 10 N9) hst))
  rw [e9] at kk2
  exact kk2
theorem N_newa11 (hc : Jc κ own cc nL fr mc ms lc) {n : Int32} (hw : Cond.arrayClass .int ∈ TW) (hd : decode cc pc = .ok (.newarray .int, 2)) {G1 : Nat → Mm → Option (α × Mm × Nat × Nat)} (kk : ∀ h, Jw κ (wM κ) nL fin (pc + 2) l ((11, .ref h) :: st) (G1 h)) : Jw κ (wM κ) nL fin pc l ((0, .int n) :: st) (wq (nA 11 n) G1) := by
  obtain ⟨⟨p, l9, e, R, s, m, args, below, meth, c⟩, ⟨D, g, A, Q⟩, M0, ad0⟩ := κ
  obtain ⟨hx, hb, hml, hown, hts, hK, hA, hst9, hlk, hR⟩ := hc
  subst hR
  intro M ad H locs ls a M' kc ks cs ss hF hfin hcc hss hW hl hst
  obtain ⟨hP, hD, hS, hM, hn, hC, hex, hea⟩ := id hW
  obtain ⟨r9, M1, c1, s1, c2, s2, q1, hF, hkc, hks⟩ := wq_some hF
  unfold nA at q1
  split at q1
  case isFalse => cases q1
  case isTrue hlt9 =>
  cases q1
  rw [Bool.and_eq_true, Bool.and_eq_true, decide_eq_true_eq, decide_eq_true_eq, decide_eq_true_eq] at hlt9
  obtain ⟨hlt, hn9, hbd⟩ := hlt9
  obtain ⟨N9, hN9⟩ : ∃ N9, n.toNatClampNeg = N9 := ⟨_, rfl⟩
  rw [hN9] at hbd hF hks
  have hcc : cs + kc ≤ mc := hcc
  have hss : ss + ks ≤ ms := hss
  have hcells : cs + 1 ≤ mc := by omega
  have hslots : ss + N9 ≤ ms := by omega
  have hst := okS_tl hst
  refine va_newa (atype := .int) hx hb (hts _ hw) rfl hK hP hD hS hA (a0 := (N9, .inl (fun _ => 0))) (fun _ => rfl) hn9 hN9 (by show N9 * 4 ≤ 536870912; omega) hcells hslots hd (fun q cA H1 hK1 hP1 hD1 hS1 => ?_)
  have hcA : cA = g 11 := by
    have k1 : s.vm.findClass ("[" ++ FieldType.toString .int) = some cA := (hK1.2 6 (cA, .int) rfl).2
    have k2 : s.vm.findClass ("[" ++ FieldType.toString .int) = some (g 11) := (hK.2 1 (g 11, .int) rfl).2
    exact Option.some.inj (k1.symm.trans k2)
  subst hcA
  have hpush : wl g ad M ++ [(q, .inl (g 11, (N9, .inl (fun _ => 0))))] = wl g (va_up ad (Mn M) q) (nw M 11 N9) := by
    refine wl_push g ad _ (M' := nw M 11 N9) rfl (va_up_self _ _ _) ?_ (fun i hi => nw_old g hM hlt 11 N9 q hi)
    have e1 : Mk (nw M 11 N9) (Mn M) = 11 := va_up_self _ _ _
    have e2 : Ml (nw M 11 N9) (Mn M) = N9 := va_up_self _ _ _
    have e3 : Mi (nw M 11 N9) (Mn M) = fun _ => 0 := by funext k; show (if Mn M = Mn M then (0 : Int32) else _) = 0; rw [if_pos rfl]
    rw [ce_int g _ e1 (Or.inr (Or.inl rfl)), e2, e3]
  replace hP1 := (congrArg (fun z => va_P D vwCl z H1) hpush).mp hP1
  replace hD1 := (congrArg (fun z => va_D A z) hpush).mp hD1
  have hA1 : exA (Mn M) ad (va_up ad (Mn M) q) := exA_up (Nat.le_refl _) hlt q
  have e9 : trS (va_up ad (Mn M) q) ((11, .ref (Mn M)) :: st) = .ref q :: trS ad st := by
    rw [← trS_ex (κ := ((p, l9, e, _, s, m, args, below, meth, c), (D, g, A, Q), M0, ad0)) hn hA1 hst]
    show Value.ref (va_up ad (Mn M) q (Mn M)) :: _ = _
    rw [va_up_self]; rfl
  have kk2 := kk (Mn M) (nw M 11 N9) _ H1 locs ls a M' c2 s2 (cs + 1) (ss + N9) hF hfin (show cs + 1 + c2 ≤ mc by omega) (show ss + N9 + s2 ≤ ms by omega) ⟨hP1, hD1, hS1, okM_nw hlt hM 11 N9, hlt, hC.go (State.WarmedH.refl s) (fun _ _ _ => rfl) (fun _ z => z) (fun x hx => va_up_ne _ _ (by omega)), hex.tr (ex_nw M 11 N9), exA.tr hex.1 hea hA1⟩ (lvk_ex (κ := ((p, l9, e, _, s, m, args, below, meth, c), (D, g, A, Q), M0, ad0)) hn (ex_nw M 11 N9) hA1 hl) (okS_cons (fun z hz => by cases hz; exact okH_of (M := nw M 11 N9) (Nat.lt_succ_self _) (va_up_self _ _ _) (by omega)) (okS_ex (κ := ((p, l9, e, _, s, m, args, below, meth, c), (D, g, A, Q), M0, ad0)) (ex_nw M 11 N9) hst))
  rw [e9] at kk2
  exact kk2
theorem N_newa13 (hc : Jc κ own cc nL fr mc ms lc) {n : Int32} (hw : Cond.arrayClass .boolean ∈ TW) (hd : decode cc pc = .ok (.newarray .boolean, 2)) {G1 : Nat → Mm → Option (α × Mm × Nat × Nat)} (kk : ∀ h, Jw κ (wM κ) nL fin (pc + 2) l ((13, .ref h) :: st) (G1 h)) : Jw κ (wM κ) nL fin pc l ((0, .int n) :: st) (wq (nA 13 n) G1) := by
  obtain ⟨⟨p, l9, e, R, s, m, args, below, meth, c⟩, ⟨D, g, A, Q⟩, M0, ad0⟩ := κ
  obtain ⟨hx, hb, hml, hown, hts, hK, hA, hst9, hlk, hR⟩ := hc
  subst hR
  intro M ad H locs ls a M' kc ks cs ss hF hfin hcc hss hW hl hst
  obtain ⟨hP, hD, hS, hM, hn, hC, hex, hea⟩ := id hW
  obtain ⟨r9, M1, c1, s1, c2, s2, q1, hF, hkc, hks⟩ := wq_some hF
  unfold nA at q1
  split at q1
  case isFalse => cases q1
  case isTrue hlt9 =>
  cases q1
  rw [Bool.and_eq_true, Bool.and_eq_true, decide_eq_true_eq, decide_eq_true_eq, decide_eq_true_eq] at hlt9
  obtain ⟨hlt, hn9, hbd⟩ := hlt9
  obtain ⟨N9, hN9⟩ : ∃ N9, n.toNatClampNeg = N9 := ⟨_, rfl⟩
  rw [hN9] at hbd hF hks
  have hcc : cs + kc ≤ mc := hcc
  have hss : ss + ks ≤ ms := hss
  have hcells : cs + 1 ≤ mc := by omega
  have hslots : ss + N9 ≤ ms := by omega
  have hst := okS_tl hst
  refine va_newa (atype := .boolean) hx hb (hts _ hw) rfl hK hP hD hS hA (a0 := (N9, .inl (fun _ => 0))) (fun _ => rfl) hn9 hN9 (by show N9 * 1 ≤ 536870912; omega) hcells hslots hd (fun q cA H1 hK1 hP1 hD1 hS1 => ?_)
  have hcA : cA = g 13 := by
    have k1 : s.vm.findClass ("[" ++ FieldType.toString .boolean) = some cA := (hK1.2 6 (cA, .boolean) rfl).2
    have k2 : s.vm.findClass ("[" ++ FieldType.toString .boolean) = some (g 13) := (hK.2 3 (g 13, .boolean) rfl).2
    exact Option.some.inj (k1.symm.trans k2)
  subst hcA
  have hpush : wl g ad M ++ [(q, .inl (g 13, (N9, .inl (fun _ => 0))))] = wl g (va_up ad (Mn M) q) (nw M 13 N9) := by
    refine wl_push g ad _ (M' := nw M 13 N9) rfl (va_up_self _ _ _) ?_ (fun i hi => nw_old g hM hlt 13 N9 q hi)
    have e1 : Mk (nw M 13 N9) (Mn M) = 13 := va_up_self _ _ _
    have e2 : Ml (nw M 13 N9) (Mn M) = N9 := va_up_self _ _ _
    have e3 : Mi (nw M 13 N9) (Mn M) = fun _ => 0 := by funext k; show (if Mn M = Mn M then (0 : Int32) else _) = 0; rw [if_pos rfl]
    rw [ce_int g _ e1 (Or.inr (Or.inr rfl)), e2, e3]
  replace hP1 := (congrArg (fun z => va_P D vwCl z H1) hpush).mp hP1
  replace hD1 := (congrArg (fun z => va_D A z) hpush).mp hD1
  have hA1 : exA (Mn M) ad (va_up ad (Mn M) q) := exA_up (Nat.le_refl _) hlt q
  have e9 : trS (va_up ad (Mn M) q) ((13, .ref (Mn M)) :: st) = .ref q :: trS ad st := by
    rw [← trS_ex (κ := ((p, l9, e, _, s, m, args, below, meth, c), (D, g, A, Q), M0, ad0)) hn hA1 hst]
    show Value.ref (va_up ad (Mn M) q (Mn M)) :: _ = _
    rw [va_up_self]; rfl
  have kk2 := kk (Mn M) (nw M 13 N9) _ H1 locs ls a M' c2 s2 (cs + 1) (ss + N9) hF hfin (show cs + 1 + c2 ≤ mc by omega) (show ss + N9 + s2 ≤ ms by omega) ⟨hP1, hD1, hS1, okM_nw hlt hM 13 N9, hlt, hC.go (State.WarmedH.refl s) (fun _ _ _ => rfl) (fun _ z => z) (fun x hx => va_up_ne _ _ (by omega)), hex.tr (ex_nw M 13 N9), exA.tr hex.1 hea hA1⟩ (lvk_ex (κ := ((p, l9, e, _, s, m, args, below, meth, c), (D, g, A, Q), M0, ad0)) hn (ex_nw M 13 N9) hA1 hl) (okS_cons (fun z hz => by cases hz; exact okH_of (M := nw M 13 N9) (Nat.lt_succ_self _) (va_up_self _ _ _) (by omega)) (okS_ex (κ := ((p, l9, e, _, s, m, args, below, meth, c), (D, g, A, Q), M0, ad0)) (ex_nw M 13 N9) hst))
  rw [e9] at kk2
  exact kk2
theorem N_newa15 (hc : Jc κ own cc nL fr mc ms lc) {n : Int32} {index : Nat} (hw : Cond.classLink own index "java/lang/Object" ∈ TW) (hd : decode cc pc = .ok (.anewarray index, 3)) {G1 : Nat → Mm → Option (α × Mm × Nat × Nat)} (kk : ∀ h, Jw κ (wM κ) nL fin (pc + 3) l ((15, .ref h) :: st) (G1 h)) : Jw κ (wM κ) nL fin pc l ((0, .int n) :: st) (wq (nA 15 n) G1) := by
  obtain ⟨⟨p, l9, e, R, s, m, args, below, meth, c⟩, ⟨D, g, A, Q⟩, M0, ad0⟩ := κ
  obtain ⟨hx, hb, hml, hown, hts, hK, hA, hst9, hlk, hR⟩ := hc
  subst hR
  intro M ad H locs ls a M' kc ks cs ss hF hfin hcc hss hW hl hst
  obtain ⟨hP, hD, hS, hM, hn, hC, hex, hea⟩ := id hW
  obtain ⟨r9, M1, c1, s1, c2, s2, q1, hF, hkc, hks⟩ := wq_some hF
  unfold nA at q1
  split at q1
  case isFalse => cases q1
  case isTrue hlt9 =>
  cases q1
  rw [Bool.and_eq_true, Bool.and_eq_true, decide_eq_true_eq, decide_eq_true_eq, decide_eq_true_eq] at hlt9
  obtain ⟨hlt, hn9, hbd⟩ := hlt9
  obtain ⟨N9, hN9⟩ : ∃ N9, n.toNatClampNeg = N9 := ⟨_, rfl⟩
  rw [hN9] at hbd hF hks
  have hcc : cs + kc ≤ mc := hcc
  have hss : ss + ks ≤ ms := hss
  have hcells : cs + 1 ≤ mc := by omega
  have hslots : ss + N9 ≤ ms := by omega
  have hst := okS_tl hst
  refine va_newq hx hb hown (hts _ hw) (csl hC).2.2.2.2.2.1 hK hP hD hS hA hn9 hN9 (by show N9 * 4 ≤ 536870912; omega) hcells hslots hd (fun q cA H1 hK1 hP1 hD1 hS1 => ?_)
  have hcA : cA = g 15 := by
    obtain ⟨_, _, _, _, _, k1⟩ := (hK1.2 6 (cA, .object "java/lang/Object") rfl).2
    obtain ⟨_, _, _, _, _, k2⟩ := (hK.2 5 (g 15, .object "java/lang/Object") rfl).2
    exact Option.some.inj (k1.symm.trans k2)
  subst hcA
  have hpush : wl g ad M ++ [(q, .inl (g 15, N9, .inr (.inr (.inr (.inr (fun _ => none))))))] = wl g (va_up ad (Mn M) q) (nw M 15 N9) := by
    refine wl_push g ad _ (M' := nw M 15 N9) rfl (va_up_self _ _ _) ?_ (fun i hi => nw_old g hM hlt 15 N9 q hi)
    have e1 : Mk (nw M 15 N9) (Mn M) = 15 := va_up_self _ _ _
    have e2 : Ml (nw M 15 N9) (Mn M) = N9 := va_up_self _ _ _
    have e3 : Mr (nw M 15 N9) (Mn M) = fun _ => none := by funext k; show (if Mn M = Mn M then (none : Option Nat) else _) = none; rw [if_pos rfl]
    rw [ce_objs g _ e1, e2, e3]
    rfl
  replace hP1 := (congrArg (fun z => va_P D vwCl z H1) hpush).mp hP1
  replace hD1 := (congrArg (fun z => va_D A z) hpush).mp hD1
  have hA1 : exA (Mn M) ad (va_up ad (Mn M) q) := exA_up (Nat.le_refl _) hlt q
  have e9 : trS (va_up ad (Mn M) q) ((15, .ref (Mn M)) :: st) = .ref q :: trS ad st := by
    rw [← trS_ex (κ := ((p, l9, e, _, s, m, args, below, meth, c), (D, g, A, Q), M0, ad0)) hn hA1 hst]
    show Value.ref (va_up ad (Mn M) q (Mn M)) :: _ = _
    rw [va_up_self]; rfl
  have kk2 := kk (Mn M) (nw M 15 N9) _ H1 locs ls a M' c2 s2 (cs + 1) (ss + N9) hF hfin (show cs + 1 + c2 ≤ mc by omega) (show ss + N9 + s2 ≤ ms by omega) ⟨hP1, hD1, hS1, okM_nw hlt hM 15 N9, hlt, hC.go (State.WarmedH.refl s) (fun _ _ _ => rfl) (fun _ z => z) (fun x hx => va_up_ne _ _ (by omega)), hex.tr (ex_nw M 15 N9), exA.tr hex.1 hea hA1⟩ (lvk_ex (κ := ((p, l9, e, _, s, m, args, below, meth, c), (D, g, A, Q), M0, ad0)) hn (ex_nw M 15 N9) hA1 hl) (okS_cons (fun z hz => by cases hz; exact okH_of (M := nw M 15 N9) (Nat.lt_succ_self _) (va_up_self _ _ _) (by omega)) (okS_ex (κ := ((p, l9, e, _, s, m, args, below, meth, c), (D, g, A, Q), M0, ad0)) (ex_nw M 15 N9) hst))
  rw [e9] at kk2
  exact kk2
theorem N_objInit (hc : Jc κ own cc nL fr mc ms lc) {index k h : Nat} (h1 : Cond.methodLink own index Lib.objectInit ∈ TW) (h2 : Cond.instanceMethod Lib.objectInit ∈ TW) (h3 : Cond.code Lib.objectInit ⟨#[0xb1]⟩ 1 none ∈ TW) (hfr : 1 ≤ fr) (hlc : 20 ≤ lc) (hs8 : (st.map (fun q => q.2.category)).sum ≤ 8) (hd : decode cc pc = .ok (.invokespecial index, 3)) (kk : Jw κ (wM κ) nL fin (pc + 3) l st F) : Jw κ (wM κ) nL fin pc l ((k, .ref h) :: st) F := by
  obtain ⟨⟨p, l9, e, R, s, m, args, below, meth, c⟩, ⟨D, g, A, Q⟩, M0, ad0⟩ := κ
  obtain ⟨hx, hb, hml, hown, hts, hK, hA, hst9, hlk, hR⟩ := hc
  subst hR
  intro M ad H locs ls a M' kc ks cs ss hF hfin hcc hss hW hl hst
  obtain ⟨hP, hD, hS, hM, hn, hC, hex, hea⟩ := id hW
  have h8 := lv_room (m := m) (pc := pc) (ls := ls) (rest := trS ad ((k, .ref h) :: st)) (st := trS ad st) (by rw [cat_tr]; exact hs8)
  refine W.objInit hx hb hown (hts _ h1) (hts _ h2) (hts _ h3) rfl (by rw [hml]; exact hl.1.1) rfl hd hfr (Nat.le_trans (Nat.add_le_add_right h8 12) hlc) ?_
  refine W.eq (g2 := F0 m (pc + 3) ls (trS ad st)) rfl ?_
  exact kk M ad H locs ls a M' kc ks cs ss hF hfin hcc hss hW hl (okS_tl hst)
theorem N_clone13 (hc : Jc κ own cc nL fr mc ms lc) {index h : Nat} (h1 : Cond.methodLink own index ⟨"[Z", "clone", "()Ljava/lang/Object;"⟩ ∈ TW) (h2 : Cond.sameMethod "[Z" "java/lang/Object" "clone" "()Ljava/lang/Object;" ∈ TW) (h3 : Cond.native ⟨"java/lang/Object", "clone", "()Ljava/lang/Object;"⟩ ∈ TW) (h4 : Cond.instanceMethod ⟨"java/lang/Object", "clone", "()Ljava/lang/Object;"⟩ ∈ TW) (h5 : Cond.selects "[Z" ⟨"[Z", "clone", "()Ljava/lang/Object;"⟩ ⟨"java/lang/Object", "clone", "()Ljava/lang/Object;"⟩ ∈ TW) (hfr : 1 ≤ fr) (hlc : 22 ≤ lc) (hs8 : (st.map (fun q => q.2.category)).sum ≤ 8) (hd : decode cc pc = .ok (.invokevirtual index, 3)) {G1 : Nat → Mm → Option (α × Mm × Nat × Nat)} (kk : ∀ v, Jw κ (wM κ) nL fin (pc + 3) l ((13, .ref v) :: st) (G1 v)) : Jw κ (wM κ) nL fin pc l ((13, .ref h) :: st) (wq (nC 13 h) G1) := by
  obtain ⟨⟨p, l9, e, R, s, m, args, below, meth, c⟩, ⟨D, g, A, Q⟩, M0, ad0⟩ := κ
  obtain ⟨hx, hb, hml, hown, hts, hK, hA, hst9, hlk, hR⟩ := hc
  subst hR
  intro M ad H locs ls a M' kc ks cs ss hF hfin hcc hss hW hl hst
  obtain ⟨hP, hD, hS, hM, hn, hC, hex, hea⟩ := id hW
  obtain ⟨hh, hkd9⟩ : h < Mn M ∧ Mk M h = 13 := (okS_hd hst h rfl).at (by omega)
  have he := (wl_get g ad hh).trans (congrArg (fun x => some (ad h, x)) (ce_int g ad hkd9 (Or.inr (Or.inr rfl))))
  obtain ⟨r9, M1, c1, s1, c2, s2, q1, hF, hkc, hks⟩ := wq_some hF
  unfold nC at q1
  split at q1
  case isFalse => cases q1
  case isTrue hin =>
  cases q1
  rw [Bool.and_eq_true, decide_eq_true_eq, List.all_eq_true] at hin
  obtain ⟨hlt, hfit⟩ := hin
  have hst := okS_tl hst
  have hcc : cs + kc ≤ mc := hcc
  have hss : ss + ks ≤ ms := hss
  have h8 : ((trS ad st).map fun v => v.category).sum ≤ 8 := by rw [cat_tr]; exact hs8
  refine va_clone (ad := "[Z") (ty := .boolean) hx hb (by rw [hml]; exact hl.1.1.symm) hown (hts _ h1) (hts _ h2) (hts _ h3) (hts _ h4) (hts _ h5) (cs_ca hC (by decide)) hK hP hD hS hA h 3 he rfl (hK.2 3 (g 13, .boolean) rfl).2 (fun i v hv => ?_) hfr (by show ((trS ad st).map fun v => v.category).sum + 14 ≤ lc; omega) (show cs + 1 ≤ mc by omega) (show ss + Ml M h ≤ ms by omega) hd (fun q H1 hK1 hP1 hD1 hS1 => ?_)
  · have hv : (arrV (g 13) (Ml M h) (fun j => .int (Mi M h j))).slots[i]? = some v := hv
    by_cases hi : i < Ml M h
    · rw [arrV_read _ _ hi] at hv
      cases hv
      have := hfit i (List.mem_range.mpr hi)
      simpa [fitK] using this
    · exfalso
      have hsz : i < (arrV (g 13) (Ml M h) (fun j => .int (Mi M h j))).slots.size := (Array.getElem?_eq_some_iff.mp hv).1
      rw [arrV_size] at hsz
      exact hi hsz
  have hpush : wl g ad M ++ [(q, .inl (g 13, Ml M h, .inl (Mi M h)))] = wl g (va_up ad (Mn M) q) (cpy M 13 h) := by
    refine wl_push g ad _ (M' := cpy M 13 h) rfl (va_up_self _ _ _) ?_ (fun i hi => ?_)
    · have e1 : Mk (cpy M 13 h) (Mn M) = 13 := va_up_self _ _ _
      have e2 : Ml (cpy M 13 h) (Mn M) = Ml M h := va_up_self _ _ _
      have e3 : Mi (cpy M 13 h) (Mn M) = Mi M h := by funext k; show (if Mn M = Mn M then Mi M h k else _) = _; rw [if_pos rfl]
      rw [ce_int g _ e1 (Or.inr (Or.inr rfl)), e2, e3]
    · have hne : i ≠ Mn M := Nat.ne_of_lt hi
      obtain ⟨k1, k2⟩ := nw_old g hM hlt 13 (Ml M h) q hi
      refine ⟨k1, ?_⟩
      rw [← k2]
      refine ce_ex (ad := va_up ad (Mn M) q) (M := nw M 13 (Ml M h)) (M' := cpy M 13 h) rfl rfl ?_ rfl rfl (fun _ _ _ => rfl)
      funext k
      show (if i = Mn M then Mi M h k else _) = (if i = Mn M then (0 : Int32) else _)
      rw [if_neg hne, if_neg hne]
  replace hP1 := (congrArg (fun z => va_P D vwCl z H1) hpush).mp hP1
  replace hD1 := (congrArg (fun z => va_D A z) hpush).mp hD1
  have hA1 : exA (Mn M) ad (va_up ad (Mn M) q) := exA_up (Nat.le_refl _) hlt q
  have e9 : trS (va_up ad (Mn M) q) ((13, .ref (Mn M)) :: st) = .ref q :: trS ad st := by
    rw [← trS_ex (κ := ((p, l9, e, _, s, m, args, below, meth, c), (D, g, A, Q), M0, ad0)) hn hA1 hst]
    show Value.ref (va_up ad (Mn M) q (Mn M)) :: _ = _
    rw [va_up_self]; rfl
  have hexc : exM M (cpy M 13 h) := ex_nw M 13 (Ml M h)
  have hMc : okM (cpy M 13 h) := okM_nw hlt hM 13 (Ml M h)
  have kk2 := kk (Mn M) (cpy M 13 h) _ H1 locs ls a M' c2 s2 (cs + 1) (ss + Ml M h) hF hfin (show cs + 1 + c2 ≤ mc by omega) (show ss + Ml M h + s2 ≤ ms by omega) ⟨hP1, hD1, hS1, hMc, hlt, hC.go (State.WarmedH.refl s) (fun _ _ _ => rfl) (fun _ z => z) (fun x hx => va_up_ne _ _ (by omega)), hex.tr hexc, exA.tr hex.1 hea hA1⟩ (lvk_ex (κ := ((p, l9, e, _, s, m, args, below, meth, c), (D, g, A, Q), M0, ad0)) hn hexc hA1 hl) (okS_cons (fun z hz => by cases hz; exact okH_of (M := cpy M 13 h) (Nat.lt_succ_self _) (va_up_self _ _ _) (by omega)) (okS_ex (κ := ((p, l9, e, _, s, m, args, below, meth, c), (D, g, A, Q), M0, ad0)) hexc hst))
  rw [e9] at kk2
  exact kk2
theorem N_clone11 (hc : Jc κ own cc nL fr mc ms lc) {index h : Nat} (h1 : Cond.methodLink own index ⟨"[I", "clone", "()Ljava/lang/Object;"⟩ ∈ TW) (h2 : Cond.sameMethod "[I" "java/lang/Object" "clone" "()Ljava/lang/Object;" ∈ TW) (h3 : Cond.native ⟨"java/lang/Object", "clone", "()Ljava/lang/Object;"⟩ ∈ TW) (h4 : Cond.instanceMethod ⟨"java/lang/Object", "clone", "()Ljava/lang/Object;"⟩ ∈ TW) (h5 : Cond.selects "[I" ⟨"[I", "clone", "()Ljava/lang/Object;"⟩ ⟨"java/lang/Object", "clone", "()Ljava/lang/Object;"⟩ ∈ TW) (hfr : 1 ≤ fr) (hlc : 22 ≤ lc) (hs8 : (st.map (fun q => q.2.category)).sum ≤ 8) (hd : decode cc pc = .ok (.invokevirtual index, 3)) {G1 : Nat → Mm → Option (α × Mm × Nat × Nat)} (kk : ∀ v, Jw κ (wM κ) nL fin (pc + 3) l ((11, .ref v) :: st) (G1 v)) : Jw κ (wM κ) nL fin pc l ((11, .ref h) :: st) (wq (nC 11 h) G1) := by
  obtain ⟨⟨p, l9, e, R, s, m, args, below, meth, c⟩, ⟨D, g, A, Q⟩, M0, ad0⟩ := κ
  obtain ⟨hx, hb, hml, hown, hts, hK, hA, hst9, hlk, hR⟩ := hc
  subst hR
  intro M ad H locs ls a M' kc ks cs ss hF hfin hcc hss hW hl hst
  obtain ⟨hP, hD, hS, hM, hn, hC, hex, hea⟩ := id hW
  obtain ⟨hh, hkd9⟩ : h < Mn M ∧ Mk M h = 11 := (okS_hd hst h rfl).at (by omega)
  have he := (wl_get g ad hh).trans (congrArg (fun x => some (ad h, x)) (ce_int g ad hkd9 (Or.inr (Or.inl rfl))))
  obtain ⟨r9, M1, c1, s1, c2, s2, q1, hF, hkc, hks⟩ := wq_some hF
  unfold nC at q1
  split at q1
  case isFalse => cases q1
  case isTrue hin =>
  cases q1
  rw [Bool.and_eq_true, decide_eq_true_eq, List.all_eq_true] at hin
  obtain ⟨hlt, hfit⟩ := hin
  have hst := okS_tl hst
  have hcc : cs + kc ≤ mc := hcc
  have hss : ss + ks ≤ ms := hss
  have h8 : ((trS ad st).map fun v => v.category).sum ≤ 8 := by rw [cat_tr]; exact hs8
  refine va_clone (ad := "[I") (ty := .int) hx hb (by rw [hml]; exact hl.1.1.symm) hown (hts _ h1) (hts _ h2) (hts _ h3) (hts _ h4) (hts _ h5) (cs_ca hC (by decide)) hK hP hD hS hA h 1 he rfl (hK.2 1 (g 11, .int) rfl).2 (fun i v hv => ?_) hfr (by show ((trS ad st).map fun v => v.category).sum + 14 ≤ lc; omega) (show cs + 1 ≤ mc by omega) (show ss + Ml M h ≤ ms by omega) hd (fun q H1 hK1 hP1 hD1 hS1 => ?_)
  · have hv : (arrV (g 11) (Ml M h) (fun j => .int (Mi M h j))).slots[i]? = some v := hv
    by_cases hi : i < Ml M h
    · rw [arrV_read _ _ hi] at hv
      cases hv
      have := hfit i (List.mem_range.mpr hi)
      simpa [fitK] using this
    · exfalso
      have hsz : i < (arrV (g 11) (Ml M h) (fun j => .int (Mi M h j))).slots.size := (Array.getElem?_eq_some_iff.mp hv).1
      rw [arrV_size] at hsz
      exact hi hsz
  have hpush : wl g ad M ++ [(q, .inl (g 11, Ml M h, .inl (Mi M h)))] = wl g (va_up ad (Mn M) q) (cpy M 11 h) := by
    refine wl_push g ad _ (M' := cpy M 11 h) rfl (va_up_self _ _ _) ?_ (fun i hi => ?_)
    · have e1 : Mk (cpy M 11 h) (Mn M) = 11 := va_up_self _ _ _
      have e2 : Ml (cpy M 11 h) (Mn M) = Ml M h := va_up_self _ _ _
      have e3 : Mi (cpy M 11 h) (Mn M) = Mi M h := by funext k; show (if Mn M = Mn M then Mi M h k else _) = _; rw [if_pos rfl]
      rw [ce_int g _ e1 (Or.inr (Or.inl rfl)), e2, e3]
    · have hne : i ≠ Mn M := Nat.ne_of_lt hi
      obtain ⟨k1, k2⟩ := nw_old g hM hlt 11 (Ml M h) q hi
      refine ⟨k1, ?_⟩
      rw [← k2]
      refine ce_ex (ad := va_up ad (Mn M) q) (M := nw M 11 (Ml M h)) (M' := cpy M 11 h) rfl rfl ?_ rfl rfl (fun _ _ _ => rfl)
      funext k
      show (if i = Mn M then Mi M h k else _) = (if i = Mn M then (0 : Int32) else _)
      rw [if_neg hne, if_neg hne]
  replace hP1 := (congrArg (fun z => va_P D vwCl z H1) hpush).mp hP1
  replace hD1 := (congrArg (fun z => va_D A z) hpush).mp hD1
  have hA1 : exA (Mn M) ad (va_up ad (Mn M) q) := exA_up (Nat.le_refl _) hlt q
  have e9 : trS (va_up ad (Mn M) q) ((11, .ref (Mn M)) :: st) = .ref q :: trS ad st := by
    rw [← trS_ex (κ := ((p, l9, e, _, s, m, args, below, meth, c), (D, g, A, Q), M0, ad0)) hn hA1 hst]
    show Value.ref (va_up ad (Mn M) q (Mn M)) :: _ = _
    rw [va_up_self]; rfl
  have hexc : exM M (cpy M 11 h) := ex_nw M 11 (Ml M h)
  have hMc : okM (cpy M 11 h) := okM_nw hlt hM 11 (Ml M h)
  have kk2 := kk (Mn M) (cpy M 11 h) _ H1 locs ls a M' c2 s2 (cs + 1) (ss + Ml M h) hF hfin (show cs + 1 + c2 ≤ mc by omega) (show ss + Ml M h + s2 ≤ ms by omega) ⟨hP1, hD1, hS1, hMc, hlt, hC.go (State.WarmedH.refl s) (fun _ _ _ => rfl) (fun _ z => z) (fun x hx => va_up_ne _ _ (by omega)), hex.tr hexc, exA.tr hex.1 hea hA1⟩ (lvk_ex (κ := ((p, l9, e, _, s, m, args, below, meth, c), (D, g, A, Q), M0, ad0)) hn hexc hA1 hl) (okS_cons (fun z hz => by cases hz; exact okH_of (M := cpy M 11 h) (Nat.lt_succ_self _) (va_up_self _ _ _) (by omega)) (okS_ex (κ := ((p, l9, e, _, s, m, args, below, meth, c), (D, g, A, Q), M0, ad0)) hexc hst))
  rw [e9] at kk2
  exact kk2
theorem N_clone10 (hc : Jc κ own cc nL fr mc ms lc) {index h : Nat} (h1 : Cond.methodLink own index ⟨"[B", "clone", "()Ljava/lang/Object;"⟩ ∈ TW) (h2 : Cond.sameMethod "[B" "java/lang/Object" "clone" "()Ljava/lang/Object;" ∈ TW) (h3 : Cond.native ⟨"java/lang/Object", "clone", "()Ljava/lang/Object;"⟩ ∈ TW) (h4 : Cond.instanceMethod ⟨"java/lang/Object", "clone", "()Ljava/lang/Object;"⟩ ∈ TW) (h5 : Cond.selects "[B" ⟨"[B", "clone", "()Ljava/lang/Object;"⟩ ⟨"java/lang/Object", "clone", "()Ljava/lang/Object;"⟩ ∈ TW) (hfr : 1 ≤ fr) (hlc : 22 ≤ lc) (hs8 : (st.map (fun q => q.2.category)).sum ≤ 8) (hd : decode cc pc = .ok (.invokevirtual index, 3)) {G1 : Nat → Mm → Option (α × Mm × Nat × Nat)} (kk : ∀ v, Jw κ (wM κ) nL fin (pc + 3) l ((10, .ref v) :: st) (G1 v)) : Jw κ (wM κ) nL fin pc l ((10, .ref h) :: st) (wq (nC 10 h) G1) := by
  obtain ⟨⟨p, l9, e, R, s, m, args, below, meth, c⟩, ⟨D, g, A, Q⟩, M0, ad0⟩ := κ
  obtain ⟨hx, hb, hml, hown, hts, hK, hA, hst9, hlk, hR⟩ := hc
  subst hR
  intro M ad H locs ls a M' kc ks cs ss hF hfin hcc hss hW hl hst
  obtain ⟨hP, hD, hS, hM, hn, hC, hex, hea⟩ := id hW
  obtain ⟨hh, hkd9⟩ : h < Mn M ∧ Mk M h = 10 := (okS_hd hst h rfl).at (by omega)
  have he := (wl_get g ad hh).trans (congrArg (fun x => some (ad h, x)) (ce_int g ad hkd9 (Or.inl rfl)))
  obtain ⟨r9, M1, c1, s1, c2, s2, q1, hF, hkc, hks⟩ := wq_some hF
  unfold nC at q1
  split at q1
  case isFalse => cases q1
  case isTrue hin =>
  cases q1
  rw [Bool.and_eq_true, decide_eq_true_eq, List.all_eq_true] at hin
  obtain ⟨hlt, hfit⟩ := hin
  have hst := okS_tl hst
  have hcc : cs + kc ≤ mc := hcc
  have hss : ss + ks ≤ ms := hss
  have h8 : ((trS ad st).map fun v => v.category).sum ≤ 8 := by rw [cat_tr]; exact hs8
  refine va_clone (ad := "[B") (ty := .byte) hx hb (by rw [hml]; exact hl.1.1.symm) hown (hts _ h1) (hts _ h2) (hts _ h3) (hts _ h4) (hts _ h5) (cs_ca hC (by decide)) hK hP hD hS hA h 0 he rfl (hK.2 0 (g 10, .byte) rfl).2 (fun i v hv => ?_) hfr (by show ((trS ad st).map fun v => v.category).sum + 14 ≤ lc; omega) (show cs + 1 ≤ mc by omega) (show ss + Ml M h ≤ ms by omega) hd (fun q H1 hK1 hP1 hD1 hS1 => ?_)
  · have hv : (arrV (g 10) (Ml M h) (fun j => .int (Mi M h j))).slots[i]? = some v := hv
    by_cases hi : i < Ml M h
    · rw [arrV_read _ _ hi] at hv
      cases hv
      have := hfit i (List.mem_range.mpr hi)
      simpa [fitK] using this
    · exfalso
      have hsz : i < (arrV (g 10) (Ml M h) (fun j => .int (Mi M h j))).slots.size := (Array.getElem?_eq_some_iff.mp hv).1
      rw [arrV_size] at hsz
      exact hi hsz
  have hpush : wl g ad M ++ [(q, .inl (g 10, Ml M h, .inl (Mi M h)))] = wl g (va_up ad (Mn M) q) (cpy M 10 h) := by
    refine wl_push g ad _ (M' := cpy M 10 h) rfl (va_up_self _ _ _) ?_ (fun i hi => ?_)
    · have e1 : Mk (cpy M 10 h) (Mn M) = 10 := va_up_self _ _ _
      have e2 : Ml (cpy M 10 h) (Mn M) = Ml M h := va_up_self _ _ _
      have e3 : Mi (cpy M 10 h) (Mn M) = Mi M h := by funext k; show (if Mn M = Mn M then Mi M h k else _) = _; rw [if_pos rfl]
      rw [ce_int g _ e1 (Or.inl rfl), e2, e3]
    · have hne : i ≠ Mn M := Nat.ne_of_lt hi
      obtain ⟨k1, k2⟩ := nw_old g hM hlt 10 (Ml M h) q hi
      refine ⟨k1, ?_⟩
      rw [← k2]
      refine ce_ex (ad := va_up ad (Mn M) q) (M := nw M 10 (Ml M h)) (M' := cpy M 10 h) rfl rfl ?_ rfl rfl (fun _ _ _ => rfl)
      funext k
      show (if i = Mn M then Mi M h k else _) = (if i = Mn M then (0 : Int32) else _)
      rw [if_neg hne, if_neg hne]
  replace hP1 := (congrArg (fun z => va_P D vwCl z H1) hpush).mp hP1
  replace hD1 := (congrArg (fun z => va_D A z) hpush).mp hD1
  have hA1 : exA (Mn M) ad (va_up ad (Mn M) q) := exA_up (Nat.le_refl _) hlt q
  have e9 : trS (va_up ad (Mn M) q) ((10, .ref (Mn M)) :: st) = .ref q :: trS ad st := by
    rw [← trS_ex (κ := ((p, l9, e, _, s, m, args, below, meth, c), (D, g, A, Q), M0, ad0)) hn hA1 hst]
    show Value.ref (va_up ad (Mn M) q (Mn M)) :: _ = _
    rw [va_up_self]; rfl
  have hexc : exM M (cpy M 10 h) := ex_nw M 10 (Ml M h)
  have hMc : okM (cpy M 10 h) := okM_nw hlt hM 10 (Ml M h)
  have kk2 := kk (Mn M) (cpy M 10 h) _ H1 locs ls a M' c2 s2 (cs + 1) (ss + Ml M h) hF hfin (show cs + 1 + c2 ≤ mc by omega) (show ss + Ml M h + s2 ≤ ms by omega) ⟨hP1, hD1, hS1, hMc, hlt, hC.go (State.WarmedH.refl s) (fun _ _ _ => rfl) (fun _ z => z) (fun x hx => va_up_ne _ _ (by omega)), hex.tr hexc, exA.tr hex.1 hea hA1⟩ (lvk_ex (κ := ((p, l9, e, _, s, m, args, below, meth, c), (D, g, A, Q), M0, ad0)) hn hexc hA1 hl) (okS_cons (fun z hz => by cases hz; exact okH_of (M := cpy M 10 h) (Nat.lt_succ_self _) (va_up_self _ _ _) (by omega)) (okS_ex (κ := ((p, l9, e, _, s, m, args, below, meth, c), (D, g, A, Q), M0, ad0)) hexc hst))
  rw [e9] at kk2
  exact kk2
theorem fit_K {kd : Nat} {v : Int32} (h : fitK kd v = true) (hk : kd = 10 ∨ kd = 11 ∨ kd = 13) : (kd = 10 → fits .byte (.int v) = true) ∧ (kd = 13 → fits .boolean (.int v) = true) ∧ (kd = 11 → fits .int (.int v) = true) := by
  refine ⟨fun q => ?_, fun q => ?_, fun q => ?_⟩ <;> subst q <;> simpa [fitK] using h
theorem ac_room {x lc : Nat} (h8 : x ≤ 8) (hlc : 100 ≤ lc) : x + (nativeFrameWords "java/lang/System" "arraycopy" 5 + 11) ≤ lc := by
  have e9 : nativeFrameWords "java/lang/System" "arraycopy" 5 ≤ 60 := by decide
  omega
theorem sCp_set (g : Nat → ClassId) (ad : Nat → Nat) {M : Mm} {d : Nat} (hkd : Mk M d = 10) (f : Nat → Int32) (sp dp n : Nat) : (wl g ad M).set d (ad d, .inl (g 10, Ml M d, .inl (va_cpy f (Mi M d) sp dp n))) = wl g ad (sCp M d f sp dp n) := by
  have hne : ∀ i, i ≠ d → Mi (sCp M d f sp dp n) i = Mi M i := fun i hi => by funext k; show (if i = d then _ else _) = _; rw [if_neg hi]; rfl
  refine wl_set g ad (M' := sCp M d f sp dp n) rfl ?_ (fun j hj => ce_ex (ad := ad) (ad' := ad) rfl rfl (hne j hj) rfl rfl (fun _ _ _ => rfl))
  rw [ce_int g ad (M := sCp M d f sp dp n) hkd (Or.inl rfl)]
  have e1 : Mi (sCp M d f sp dp n) d = va_cpy f (Mi M d) sp dp n := by funext k; show (if d = d then _ else _) = _; rw [if_pos rfl]
  rw [e1]
  rfl
theorem ex_cp (M : Mm) (d : Nat) (f : Nat → Int32) (sp dp n : Nat) : exM M (sCp M d f sp dp n) := ⟨Nat.le_refl _, fun _ _ => rfl, rfl⟩
theorem ex_cq (M : Mm) (d : Nat) (f : Nat → Option Nat) (sp dp n : Nat) : exM M (cpQ M d f sp dp n) := ⟨Nat.le_refl _, fun _ _ => rfl, rfl⟩
theorem N_cpB (hc : Jc κ own cc nL fr mc ms lc) {index h d : Nat} {sp dp n : Int32} (h1 : Cond.methodLink own index arraycopyName ∈ TW) (h2 : Cond.native arraycopyName ∈ TW) (h3 : Cond.static arraycopyName ∈ TW) (h4 : Cond.initialized "java/lang/System" ∈ TW) (hfr : 1 ≤ fr) (hlc : 100 ≤ lc) (hs8 : (st.map (fun q => q.2.category)).sum ≤ 8) (hd : decode cc pc = .ok (.invokestatic index, 3)) (kk : Jw κ (wM κ) nL fin (pc + 3) l st F) : Jw κ (wM κ) nL fin pc l ((0, .int n) :: (0, .int dp) :: (10, .ref d) :: (0, .int sp) :: (10, .ref h) :: st) (wb (cpB 10 h sp d dp n) (fun _ => F)) := by
  obtain ⟨⟨p, l9, e, R, s, m, args, below, meth, c⟩, ⟨D, g, A, Q⟩, M0, ad0⟩ := κ
  obtain ⟨hx, hb, hml, hown, hts, hK, hA, hst9, hlk, hR⟩ := hc
  subst hR
  intro M ad H locs ls a M' kc ks cs ss hF hfin hcc hss hW hl hst
  obtain ⟨hP, hD, hS, hM, hn, hC, hex, hea⟩ := id hW
  obtain ⟨hd1, hd2⟩ : d < Mn M ∧ Mk M d = 10 := (okS_hd (okS_tl (okS_tl hst)) d rfl).at (by omega)
  have hed := (wl_get g ad hd1).trans (congrArg (fun x => some (ad d, x)) (ce_int g ad hd2 (Or.inl rfl)))
  obtain ⟨hh, hkd9⟩ : h < Mn M ∧ Mk M h = 10 := (okS_hd (okS_tl (okS_tl (okS_tl (okS_tl hst)))) h rfl).at (by omega)
  have he := (wl_get g ad hh).trans (congrArg (fun x => some (ad h, x)) (ce_int g ad hkd9 (Or.inl rfl)))
  obtain ⟨r, M1, q1, hF⟩ := wb_some hF
  unfold cpB at q1
  split at q1
  case isFalse => cases q1
  case isTrue hin =>
  cases q1
  rw [Bool.and_eq_true, List.all_eq_true] at hin
  obtain ⟨hin1, hin2⟩ := hin
  unfold okCp at hin1
  simp only [Bool.and_eq_true, decide_eq_true_eq] at hin1
  obtain ⟨g1, g2, g3, g4, g5⟩ := hin1
  have h8 : ((trS ad st).map fun v => v.category).sum ≤ 8 := by rw [cat_tr]; exact hs8
  have hset := sCp_set g ad hd2 (Mi M h) sp.toNatClampNeg dp.toNatClampNeg n.toNatClampNeg
  refine va_copyi hx hb (by rw [hml]; exact hl.1.1.symm) hown (hts _ h1) (hts _ h2) (hts _ h3) (hts _ h4) hK hP hD hS h d 0 0 he hed rfl rfl rfl g1 g2 g3 g4 g5 (fun i hi => (fit_K (hin2 i (List.mem_range.mpr hi)) (Or.inl rfl)).1 rfl) hfr (ac_room h8 hlc) hd (fun H1 locs1 hP1 hD1 hS1 => ?_)
  replace hP1 := (congrArg (fun z => va_P D vwCl z H1) hset).mp hP1
  replace hD1 := (congrArg (fun z => va_D A z) hset).mp hD1
  exact kk (sCp M d (Mi M h) sp.toNatClampNeg dp.toNatClampNeg n.toNatClampNeg) ad H1 locs1 ls a M' kc ks cs ss hF hfin hcc hss ⟨hP1, hD1, hS1, hM, hn, hC, hex.tr (ex_cp M d _ _ _ _), hea⟩ (lvk_st (κ := ((p, l9, e, _, s, m, args, below, meth, c), (D, g, A, Q), M0, ad0)) (ex_cp M d _ _ _ _) hl) (okS_ex (κ := ((p, l9, e, _, s, m, args, below, meth, c), (D, g, A, Q), M0, ad0)) (ex_cp M d _ _ _ _) (okS_tl (okS_tl (okS_tl (okS_tl (okS_tl hst))))))
theorem N_cpK (hc : Jc κ own cc nL fr mc ms lc) {index h d : Nat} {sp dp n : Int32} (h1 : Cond.methodLink own index arraycopyName ∈ TW) (h2 : Cond.native arraycopyName ∈ TW) (h3 : Cond.static arraycopyName ∈ TW) (h4 : Cond.initialized "java/lang/System" ∈ TW) (hfr : 1 ≤ fr) (hlc : 100 ≤ lc) (hs8 : (st.map (fun q => q.2.category)).sum ≤ 8) (hd : decode cc pc = .ok (.invokestatic index, 3)) (kk : Jw κ (wM κ) nL fin (pc + 3) l st F) : Jw κ (wM κ) nL fin pc l ((0, .int n) :: (0, .int dp) :: (10, .ref d) :: (0, .int sp) :: (22, .ref (h + 200)) :: st) (wgrd (sbB h) <| wb (cpK h sp d dp n) (fun _ => F)) := by
  obtain ⟨⟨p, l9, e, R, s, m, args, below, meth, c⟩, ⟨D, g, A, Q⟩, M0, ad0⟩ := κ
  obtain ⟨hx, hb, hml, hown, hts, hK, hA, hst9, hlk, hR⟩ := hc
  subst hR
  intro M ad H locs ls a M' kc ks cs ss hF hfin hcc hss hW hl hst
  obtain ⟨hP, hD, hS, hM, hn, hC, hex, hea⟩ := id hW
  obtain ⟨hd1, hd2⟩ : d < Mn M ∧ Mk M d = 10 := (okS_hd (okS_tl (okS_tl hst)) d rfl).at (by omega)
  have hed := (wl_get g ad hd1).trans (congrArg (fun x => some (ad d, x)) (ce_int g ad hd2 (Or.inl rfl)))
  obtain ⟨hq, hF⟩ := wgrd_some hF
  obtain ⟨i9, b9, rfl, hb9, he9⟩ := sbB_at hq
  obtain ⟨r, M1, q1, hF⟩ := wb_some hF
  unfold cpK at q1
  split at q1
  case isFalse => cases q1
  case isTrue hin =>
  cases q1
  rw [Bool.and_eq_true, List.all_eq_true] at hin
  obtain ⟨hin1, hin2⟩ := hin
  rw [← he9] at hin1
  unfold okCp at hin1
  simp only [Bool.and_eq_true, decide_eq_true_eq] at hin1
  obtain ⟨g1, g2, g3, g4, g5⟩ := hin1
  have h8 : ((trS ad st).map fun v => v.category).sum ≤ 8 := by rw [cat_tr]; exact hs8
  obtain ⟨-, -, -, hT⟩ := hC.2.1 i9 b9 hb9
  have hT2 : va_T .byte (ad (SB + i9 + 200)) b9.length (fun j => .int (stF (SB + i9) j)) A s s.heap := by
    have e1 : SB + i9 + 200 = SB + 200 + i9 := by omega
    have e2 : (fun j => Value.int (stF (SB + i9) j)) = fun j => Value.int (b9.getD j 0) := by funext j; unfold stF; rw [← he9]
    rw [e1, e2]; exact hT
  have hset := sCp_set g ad hd2 (stF (SB + i9)) sp.toNatClampNeg dp.toNatClampNeg n.toNatClampNeg
  refine vk_copyt hx hb (by rw [hml]; exact hl.1.1.symm) hown (hts _ h1) (hts _ h2) (hts _ h3) (hts _ h4) hK hP hD hS hT2 d 0 hed rfl g1 g2 g3 g4 g5 (fun i hi => (fit_K (hin2 i (List.mem_range.mpr hi)) (Or.inl rfl)).1 rfl) hfr (ac_room h8 hlc) hd (fun H1 locs1 hP1 hD1 hS1 => ?_)
  replace hP1 := (congrArg (fun z => va_P D vwCl z H1) hset).mp hP1
  replace hD1 := (congrArg (fun z => va_D A z) hset).mp hD1
  exact kk (sCp M d (stF (SB + i9)) sp.toNatClampNeg dp.toNatClampNeg n.toNatClampNeg) ad H1 locs1 ls a M' kc ks cs ss hF hfin hcc hss ⟨hP1, hD1, hS1, hM, hn, hC, hex.tr (ex_cp M d _ _ _ _), hea⟩ (lvk_st (κ := ((p, l9, e, _, s, m, args, below, meth, c), (D, g, A, Q), M0, ad0)) (ex_cp M d _ _ _ _) hl) (okS_ex (κ := ((p, l9, e, _, s, m, args, below, meth, c), (D, g, A, Q), M0, ad0)) (ex_cp M d _ _ _ _) (okS_tl (okS_tl (okS_tl (okS_tl (okS_tl hst))))))
theorem va_cpy_map (ad : Nat → Nat) (f g : Nat → Option Nat) (sp dp n : Nat) : (fun j => (va_cpy f g sp dp n j).map ad) = va_cpy (fun j => (f j).map ad) (fun j => (g j).map ad) sp dp n := by
  funext j
  unfold va_cpy
  split <;> rfl
theorem cpQ_set (g : Nat → ClassId) (ad : Nat → Nat) {M : Mm} {d : Nat} (hkd : Mk M d = 15) (f : Nat → Option Nat) (sp dp n : Nat) : (wl g ad M).set d (ad d, .inl (g 15, Ml M d, .inr (.inr (.inr (.inr (va_cpy (fun j => (f j).map ad) (fun j => (Mr M d j).map ad) sp dp n)))))) = wl g ad (cpQ M d f sp dp n) := by
  have hne : ∀ i, i ≠ d → Mr (cpQ M d f sp dp n) i = Mr M i := fun i hi => by funext k; show (if i = d then _ else _) = _; rw [if_neg hi]; rfl
  refine wl_set g ad (M' := cpQ M d f sp dp n) rfl ?_ (fun j hj => ce_ex (ad := ad) (ad' := ad) rfl rfl rfl rfl (hne j hj) (fun _ _ _ => rfl))
  rw [ce_objs g ad (M := cpQ M d f sp dp n) hkd]
  have e1 : Mr (cpQ M d f sp dp n) d = va_cpy f (Mr M d) sp dp n := by funext k; show (if d = d then _ else _) = _; rw [if_pos rfl]
  rw [e1, va_cpy_map]
  rfl
theorem N_cpR (hc : Jc κ own cc nL fr mc ms lc) {index h d : Nat} {sp dp n : Int32} (h1 : Cond.methodLink own index arraycopyName ∈ TW) (h2 : Cond.native arraycopyName ∈ TW) (h3 : Cond.static arraycopyName ∈ TW) (h4 : Cond.initialized "java/lang/System" ∈ TW) (hfr : 1 ≤ fr) (hlc : 100 ≤ lc) (hs8 : (st.map (fun q => q.2.category)).sum ≤ 8) (hd : decode cc pc = .ok (.invokestatic index, 3)) (kk : Jw κ (wM κ) nL fin (pc + 3) l st F) : Jw κ (wM κ) nL fin pc l ((0, .int n) :: (0, .int dp) :: (15, .ref d) :: (0, .int sp) :: (15, .ref h) :: st) (wb (cpR h sp d dp n) (fun _ => F)) := by
  obtain ⟨⟨p, l9, e, R, s, m, args, below, meth, c⟩, ⟨D, g, A, Q⟩, M0, ad0⟩ := κ
  obtain ⟨hx, hb, hml, hown, hts, hK, hA, hst9, hlk, hR⟩ := hc
  subst hR
  intro M ad H locs ls a M' kc ks cs ss hF hfin hcc hss hW hl hst
  obtain ⟨hP, hD, hS, hM, hn, hC, hex, hea⟩ := id hW
  obtain ⟨hd1, hd2⟩ : d < Mn M ∧ Mk M d = 15 := (okS_hd (okS_tl (okS_tl hst)) d rfl).at (by omega)
  have hed := (wl_get g ad hd1).trans (congrArg (fun x => some (ad d, x)) (ce_objs g ad hd2))
  obtain ⟨hh, hkd9⟩ : h < Mn M ∧ Mk M h = 15 := (okS_hd (okS_tl (okS_tl (okS_tl (okS_tl hst)))) h rfl).at (by omega)
  have he := (wl_get g ad hh).trans (congrArg (fun x => some (ad h, x)) (ce_objs g ad hkd9))
  obtain ⟨r, M1, q1, hF⟩ := wb_some hF
  unfold cpR at q1
  split at q1
  case isFalse => cases q1
  case isTrue hin1 =>
  cases q1
  unfold okCp at hin1
  simp only [Bool.and_eq_true, decide_eq_true_eq] at hin1
  obtain ⟨g1, g2, g3, g4, g5⟩ := hin1
  have h8 : ((trS ad st).map fun v => v.category).sum ≤ 8 := by rw [cat_tr]; exact hs8
  have hset := cpQ_set g ad hd2 (Mr M h) sp.toNatClampNeg dp.toNatClampNeg n.toNatClampNeg
  have ha16 : ∀ x k r, x < Mn M → Mk M x = 15 → Mr M x k = some r → okH M 16 r := fun x k r q1 q2 q3 => by
    have := hM.1 x k r q1 q3
    rwa [show rkd M x k = 16 by simp [rkd, q2]] at this
  refine va_copyM hx hb (by rw [hml]; exact hl.1.1.symm) hown (hts _ h1) (hts _ h2) (hts _ h3) (hts _ h4) hK hP hD hS h d 5 5 he hed rfl rfl g1 g2 g3 g4 g5 (fun i hi y hy => ?_) hfr (ac_room h8 hlc) hd (fun H1 locs1 hP1 hD1 hS1 => ?_)
  · cases hr : Mr M h (sp.toNatClampNeg + i) with
    | none => rw [hr] at hy; cases hy
    | some r =>
      rw [hr] at hy
      cases hy
      exact any_of hC hK hP hS (ha16 h _ r hh hkd9 hr)
  replace hP1 := (congrArg (fun z => va_P D vwCl z H1) hset).mp hP1
  replace hD1 := (congrArg (fun z => va_D A z) hset).mp hD1
  have hM1 : okM (cpQ M d (Mr M h) sp.toNatClampNeg dp.toNatClampNeg n.toNatClampNeg) := by
    refine ⟨fun x k r hx hr => ?_, hM.2⟩
    by_cases q : x = d
    · subst q
      have e1 : Mr (cpQ M x (Mr M h) sp.toNatClampNeg dp.toNatClampNeg n.toNatClampNeg) x k = va_cpy (Mr M h) (Mr M x) sp.toNatClampNeg dp.toNatClampNeg n.toNatClampNeg k := by show (if x = x then _ else _) = _; rw [if_pos rfl]
      rw [e1] at hr
      have e2 : rkd (cpQ M x (Mr M h) sp.toNatClampNeg dp.toNatClampNeg n.toNatClampNeg) x k = 16 := by
        have e3 : Mk (cpQ M x (Mr M h) sp.toNatClampNeg dp.toNatClampNeg n.toNatClampNeg) x = 15 := hd2
        simp [rkd, e3]
      rw [e2]
      unfold va_cpy at hr
      split at hr
      · exact ha16 h _ r hh hkd9 hr
      · exact ha16 x _ r hd1 hd2 hr
    · have e1 : Mr (cpQ M d (Mr M h) sp.toNatClampNeg dp.toNatClampNeg n.toNatClampNeg) x k = Mr M x k := by show (if x = d then _ else _) = _; rw [if_neg q]; rfl
      rw [e1] at hr
      exact hM.1 x k r hx hr
  exact kk (cpQ M d (Mr M h) sp.toNatClampNeg dp.toNatClampNeg n.toNatClampNeg) ad H1 locs1 ls a M' kc ks cs ss hF hfin hcc hss ⟨hP1, hD1, hS1, hM1, hn, hC, hex.tr (ex_cq M d _ _ _ _), hea⟩ (lvk_st (κ := ((p, l9, e, _, s, m, args, below, meth, c), (D, g, A, Q), M0, ad0)) (ex_cq M d _ _ _ _) hl) (okS_ex (κ := ((p, l9, e, _, s, m, args, below, meth, c), (D, g, A, Q), M0, ad0)) (ex_cq M d _ _ _ _) (okS_tl (okS_tl (okS_tl (okS_tl (okS_tl hst))))))
end JuRows
