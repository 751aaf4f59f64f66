/-! NEW THINGS; CALLS; ENDS -/
def dv (c k : Nat) : Value := if skd c k = 100 then .int 0 else if skd c k = 101 then .long 0 else .null
theorem nw_sv (ad : Nat → Nat) (M : Mm) {c k : Nat} : sv ad (nw M c 0) (Mn M) k = dv c k := by
  have e1 : Mk (nw M c 0) (Mn M) = c := va_up_self _ _ _
  have e2 : Mi (nw M c 0) (Mn M) k = 0 := by show (if Mn M = Mn M then (0 : Int32) else _) = 0; rw [if_pos rfl]
  have e3 : Mj (nw M c 0) (Mn M) k = 0 := by show (if Mn M = Mn M then (0 : Int64) else _) = 0; rw [if_pos rfl]
  have e4 : Mr (nw M c 0) (Mn M) k = none := by show (if Mn M = Mn M then (none : Option Nat) else _) = none; rw [if_pos rfl]
  unfold sv dv
  rw [e1, e2, e3, e4]
  rfl
theorem nw_old (g : Nat → ClassId) {ad : Nat → Nat} {M : Mm} (hM : okM M) (hsb : Mn M < SB) (c n q : Nat) {i : Nat} (hi : i < Mn M) : va_up ad (Mn M) q i = ad i ∧ ce g (va_up ad (Mn M) q) (nw M c n) i = ce g ad M i := by
  have hne : i ≠ Mn M := Nat.ne_of_lt hi
  refine ⟨va_up_ne _ _ hne, ce_ex ((ex_nw M c n).2.1 i hi) (va_up_ne _ _ hne) ?_ ?_ ?_ (fun k r hr => va_up_ne _ _ (by have := (hM.1 i k r hi hr).rng; omega))⟩
  · funext k; show (if i = Mn M then (0 : Int32) else _) = _; rw [if_neg hne]; rfl
  · funext k; show (if i = Mn M then (0 : Int64) else _) = _; rw [if_neg hne]; rfl
  · funext k; show (if i = Mn M then (none : Option Nat) else _) = _; rw [if_neg hne]; rfl
theorem exA_up {n : Nat} {ad : Nat → Nat} {M : Mm} (hn : n ≤ Mn M) (hs : Mn M < SB) (q : Nat) : exA n ad (va_up ad (Mn M) q) := fun h hh => va_up_ne _ _ (by rcases hh with hh | hh <;> omega)
section JnRows
variable {α β : Type} {κ : Cx} {own : String} {cc : ByteArray} {nL fr mc ms lc : Nat} {fin : α → Mm → Prop} {cs ss pc : Nat} {l l' : List (Option TV)} {st : List TV} {F F1 F2 : Mm → Option (α × Mm)} {ci N : Nat} {C : String} {T : u_T} {ty : Nat → FieldType}

theorem J_new (hc : Jc κ own cc nL fr mc ms lc) (hcl : ClOk ci C T N ty) (hdv : ∀ j, j < N → defaultValue (ty j) = dv ci j) {index : Nat} (h1 : Cond.classLink own index C ∈ TW) (h2 : Cond.instantiable C N ∈ TW) (h3 : Cond.initialized C ∈ TW) (hcells : cs + 1 ≤ mc) (hslots : ss + N ≤ ms) (hd : decode cc pc = .ok (.new index, 3)) {G1 : Nat → Mm → Option (α × Mm)} (kk : ∀ h, Jg κ (wM κ) nL fin (cs + 1) (ss + N) (pc + 3) l ((ci, .ref h) :: st) (G1 h)) : Jg κ (wM κ) nL fin cs ss pc l st (bnd (nwO ci) G1) := by
  obtain ⟨⟨p, l9, e, R, s, m, args, below, meth, c⟩, ⟨D, g, A, Q⟩, M0, ad0⟩ := κ
  obtain ⟨hx, hb, hml, hown, hts, hK, hA, hst9, hlk, hR⟩ := hc
  subst hR
  intro M ad H locs ls a M' hF hfin hW hl hst
  obtain ⟨hP, hD, hS, hM, hn, hC, hex, hea⟩ := id hW
  obtain ⟨hc1, hin, htyo, hnm, hN, h9⟩ := hcl
  obtain ⟨r9, M1, q1, hF⟩ := bnd_some hF
  unfold nwO at q1
  split at q1
  case isFalse => cases q1
  case isTrue hlt9 =>
  cases q1
  have hlt : Mn M < SB := of_decide_eq_true hlt9
  refine va_new (fs := (List.range N).map (dv ci)) hx hb hts hin ty htyo hown (hts _ h1) (hts _ h2) (hts _ h3) hK hP hD hS hA hc1 (fun j hj => ?_) hcells hslots hd (fun q H1 hP1 hD1 hS1 => ?_)
  · rw [hdv j hj]
    show _ = ((List.range N).map (dv ci)).getD j .null
    rw [List.getD_eq_getElem?_getD, List.getElem?_map, List.getElem?_range hj]
    rfl
  have hpush : wl g ad M ++ [(q, .inr (kno ci, (List.range N).map (dv ci)))] = wl g (va_up ad (Mn M) q) (nw M ci 0) := by
    refine wl_push g ad _ (M' := nw M ci 0) rfl (va_up_self _ _ _) ?_ (fun i hi => nw_old g hM hlt ci 0 q hi)
    have e1 : Mk (nw M ci 0) (Mn M) = ci := va_up_self _ _ _
    rw [ce_obj g _ e1 h9]
    refine congrArg (fun x => Sum.inr (kno ci, x)) ?_
    unfold fl
    rw [e1, hN]
    exact List.map_congr_left (fun k _ => nw_sv _ M)
  replace hP1 := (congrArg (fun z => va_P D vwCl z H1) hpush).mp hP1
  replace hD1 := (congrArg (fun z => va_D A z) hpush).mp hD1
  have hA1 : exA (Mn M) ad (va_up ad (Mn M) q) := exA_up (Nat.le_refl _) hlt q
  have e9 : trS (va_up ad (Mn M) q) ((ci, .ref (Mn M)) :: st) = .ref q :: trS ad st := by
    rw [← trS_ex (κ := ((p, l9, e, _, s, m, args, below, meth, c), (D, g, A, Q), M0, ad0)) hn hA1 hst]
    show Value.ref (va_up ad (Mn M) q (Mn M)) :: _ = _
    rw [va_up_self]; rfl
  rw [← e9]
  exact kk (Mn M) (nw M ci 0) _ H1 locs ls a M' hF hfin ⟨hP1, hD1, hS1, okM_nw hlt hM ci 0, hlt, hC.go (State.WarmedH.refl s) (fun _ _ _ => rfl) (fun _ z => z) (fun x hx => va_up_ne _ _ (by omega)), hex.tr (ex_nw M ci 0), exA.tr hex.1 hea hA1⟩ (lvk_ex (κ := ((p, l9, e, _, s, m, args, below, meth, c), (D, g, A, Q), M0, ad0)) hn (ex_nw M ci 0) hA1 hl) (okS_cons (fun z hz => by cases hz; exact okH_of (M := nw M ci 0) (Nat.lt_succ_self _) (va_up_self _ _ _) (by omega)) (okS_ex (κ := ((p, l9, e, _, s, m, args, below, meth, c), (D, g, A, Q), M0, ad0)) (ex_nw M ci 0) hst))
theorem J_newa10 (hc : Jc κ own cc nL fr mc ms lc) {n : Int32} {N9 : Nat} (hw : Cond.arrayClass .byte ∈ TW) (hn9 : ¬ n < 0) (hN9 : n.toNatClampNeg = N9) (hby : N9 * componentBytes .byte ≤ 536870912) (hcells : cs + 1 ≤ mc) (hslots : ss + N9 ≤ ms) (hd : decode cc pc = .ok (.newarray .byte, 2)) {G1 : Nat → Mm → Option (α × Mm)} (kk : ∀ h, Jg κ (wM κ) nL fin (cs + 1) (ss + N9) (pc + 2) l ((10, .ref h) :: st) (G1 h)) : Jg κ (wM κ) nL fin cs ss pc l ((0, .int n) :: st) (bnd (nwA 10 N9) G1) := by
  obtain ⟨⟨p, l9, e, R, s, m, args, below, meth, c⟩, ⟨D, g, A, Q⟩, M0, ad0⟩ := κ
  obtain ⟨hx, hb, hml, hown, hts, hK, hA, hst9, hlk, hR⟩ := hc
  subst hR
  intro M ad H locs ls a M' hF hfin hW hl hst
  obtain ⟨hP, hD, hS, hM, hn, hC, hex, hea⟩ := id hW
  obtain ⟨r9, M1, q1, hF⟩ := bnd_some hF
  unfold nwA at q1
  split at q1
  case isFalse => cases q1
  case isTrue hlt9 =>
  cases q1
  have hlt : Mn M < SB := of_decide_eq_true hlt9
  have hst := okS_tl hst
  refine va_newa (atype := .byte) hx hb (hts _ hw) rfl hK hP hD hS hA (a0 := (N9, .inl (fun _ => 0))) (fun _ => rfl) hn9 hN9 hby hcells hslots hd (fun q cA H1 hK1 hP1 hD1 hS1 => ?_)
  have hcA : cA = g 10 := by
    have k1 : s.vm.findClass ("[" ++ FieldType.toString .byte) = some cA := (hK1.2 6 (cA, .byte) rfl).2
    have k2 : s.vm.findClass ("[" ++ FieldType.toString .byte) = some (g 10) := (hK.2 0 (g 10, .byte) rfl).2
    exact Option.some.inj (k1.symm.trans k2)
  subst hcA
  have hpush : wl g ad M ++ [(q, .inl (g 10, (N9, .inl (fun _ => 0))))] = wl g (va_up ad (Mn M) q) (nw M 10 N9) := by
    refine wl_push g ad _ (M' := nw M 10 N9) rfl (va_up_self _ _ _) ?_ (fun i hi => nw_old g hM hlt 10 N9 q hi)
    have e1 : Mk (nw M 10 N9) (Mn M) = 10 := va_up_self _ _ _
    have e2 : Ml (nw M 10 N9) (Mn M) = N9 := va_up_self _ _ _
    have e3 : Mi (nw M 10 N9) (Mn M) = fun _ => 0 := by funext k; show (if Mn M = Mn M then (0 : Int32) else _) = 0; rw [if_pos rfl]
    rw [ce_int g _ e1 (Or.inl rfl), e2, e3]
  replace hP1 := (congrArg (fun z => va_P D vwCl z H1) hpush).mp hP1
  replace hD1 := (congrArg (fun z => va_D A z) hpush).mp hD1
  have hA1 : exA (Mn M) ad (va_up ad (Mn M) q) := exA_up (Nat.le_refl _) hlt q
  have e9 : trS (va_up ad (Mn M) q) ((10, .ref (Mn M)) :: st) = .ref q :: trS ad st := by
    rw [← trS_ex (κ := ((p, l9, e, _, s, m, args, below, meth, c), (D, g, A, Q), M0, ad0)) hn hA1 hst]
    show Value.ref (va_up ad (Mn M) q (Mn M)) :: _ = _
    rw [va_up_self]; rfl
  have kk2 := kk (Mn M) (nw M 10 N9) _ H1 locs ls a M' hF hfin ⟨hP1, hD1, hS1, okM_nw hlt hM 10 N9, hlt, hC.go (State.WarmedH.refl s) (fun _ _ _ => rfl) (fun _ z => z) (fun x hx => va_up_ne _ _ (by omega)), hex.tr (ex_nw M 10 N9), exA.tr hex.1 hea hA1⟩ (lvk_ex (κ := ((p, l9, e, _, s, m, args, below, meth, c), (D, g, A, Q), M0, ad0)) hn (ex_nw M 10 N9) hA1 hl) (okS_cons (fun z hz => by cases hz; exact okH_of (M := nw M 10 N9) (Nat.lt_succ_self _) (va_up_self _ _ _) (by omega)) (okS_ex (κ := ((p, l9, e, _, s, m, args, below, meth, c), (D, g, A, Q), M0, ad0)) (ex_nw M 10 N9) hst))
  rw [e9] at kk2
  exact kk2
theorem J_newa11 (hc : Jc κ own cc nL fr mc ms lc) {n : Int32} {N9 : Nat} (hw : Cond.arrayClass .int ∈ TW) (hn9 : ¬ n < 0) (hN9 : n.toNatClampNeg = N9) (hby : N9 * componentBytes .int ≤ 536870912) (hcells : cs + 1 ≤ mc) (hslots : ss + N9 ≤ ms) (hd : decode cc pc = .ok (.newarray .int, 2)) {G1 : Nat → Mm → Option (α × Mm)} (kk : ∀ h, Jg κ (wM κ) nL fin (cs + 1) (ss + N9) (pc + 2) l ((11, .ref h) :: st) (G1 h)) : Jg κ (wM κ) nL fin cs ss pc l ((0, .int n) :: st) (bnd (nwA 11 N9) G1) := by
  obtain ⟨⟨p, l9, e, R, s, m, args, below, meth, c⟩, ⟨D, g, A, Q⟩, M0, ad0⟩ := κ
  obtain ⟨hx, hb, hml, hown, hts, hK, hA, hst9, hlk, hR⟩ := hc
  subst hR
  intro M ad H locs ls a M' hF hfin hW hl hst
  obtain ⟨hP, hD, hS, hM, hn, hC, hex, hea⟩ := id hW
  obtain ⟨r9, M1, q1, hF⟩ := bnd_some hF
  unfold nwA at q1
  split at q1
  case isFalse => cases q1
  case isTrue hlt9 =>
  cases q1
  have hlt : Mn M < SB := of_decide_eq_true hlt9
  have hst := okS_tl hst
  refine va_newa (atype := .int) hx hb (hts _ hw) rfl hK hP hD hS hA (a0 := (N9, .inl (fun _ => 0))) (fun _ => rfl) hn9 hN9 hby hcells hslots hd (fun q cA H1 hK1 hP1 hD1 hS1 => ?_)
  have hcA : cA = g 11 := by
    have k1 : s.vm.findClass ("[" ++ FieldType.toString .int) = some cA := (hK1.2 6 (cA, .int) rfl).2
    have k2 : s.vm.findClass ("[" ++ FieldType.toString .int) = some (g 11) := (hK.2 1 (g 11, .int) rfl).2
    exact Option.some.inj (k1.symm.trans k2)
  subst hcA
  have hpush : wl g ad M ++ [(q, .inl (g 11, (N9, .inl (fun _ => 0))))] = wl g (va_up ad (Mn M) q) (nw M 11 N9) := by
    refine wl_push g ad _ (M' := nw M 11 N9) rfl (va_up_self _ _ _) ?_ (fun i hi => nw_old g hM hlt 11 N9 q hi)
    have e1 : Mk (nw M 11 N9) (Mn M) = 11 := va_up_self _ _ _
    have e2 : Ml (nw M 11 N9) (Mn M) = N9 := va_up_self _ _ _
    have e3 : Mi (nw M 11 N9) (Mn M) = fun _ => 0 := by funext k; show (if Mn M = Mn M then (0 : Int32) else _) = 0; rw [if_pos rfl]
    rw [ce_int g _ e1 (Or.inr (Or.inl rfl)), e2, e3]
  replace hP1 := (congrArg (fun z => va_P D vwCl z H1) hpush).mp hP1
  replace hD1 := (congrArg (fun z => va_D A z) hpush).mp hD1
  have hA1 : exA (Mn M) ad (va_up ad (Mn M) q) := exA_up (Nat.le_refl _) hlt q
  have e9 : trS (va_up ad (Mn M) q) ((11, .ref (Mn M)) :: st) = .ref q :: trS ad st := by
    rw [← trS_ex (κ := ((p, l9, e, _, s, m, args, below, meth, c), (D, g, A, Q), M0, ad0)) hn hA1 hst]
    show Value.ref (va_up ad (Mn M) q (Mn M)) :: _ = _
    rw [va_up_self]; rfl
  have kk2 := kk (Mn M) (nw M 11 N9) _ H1 locs ls a M' hF hfin ⟨hP1, hD1, hS1, okM_nw hlt hM 11 N9, hlt, hC.go (State.WarmedH.refl s) (fun _ _ _ => rfl) (fun _ z => z) (fun x hx => va_up_ne _ _ (by omega)), hex.tr (ex_nw M 11 N9), exA.tr hex.1 hea hA1⟩ (lvk_ex (κ := ((p, l9, e, _, s, m, args, below, meth, c), (D, g, A, Q), M0, ad0)) hn (ex_nw M 11 N9) hA1 hl) (okS_cons (fun z hz => by cases hz; exact okH_of (M := nw M 11 N9) (Nat.lt_succ_self _) (va_up_self _ _ _) (by omega)) (okS_ex (κ := ((p, l9, e, _, s, m, args, below, meth, c), (D, g, A, Q), M0, ad0)) (ex_nw M 11 N9) hst))
  rw [e9] at kk2
  exact kk2
theorem J_newa12 (hc : Jc κ own cc nL fr mc ms lc) {n : Int32} {N9 : Nat} (hw : Cond.arrayClass .long ∈ TW) (hn9 : ¬ n < 0) (hN9 : n.toNatClampNeg = N9) (hby : N9 * componentBytes .long ≤ 536870912) (hcells : cs + 1 ≤ mc) (hslots : ss + N9 ≤ ms) (hd : decode cc pc = .ok (.newarray .long, 2)) {G1 : Nat → Mm → Option (α × Mm)} (kk : ∀ h, Jg κ (wM κ) nL fin (cs + 1) (ss + N9) (pc + 2) l ((12, .ref h) :: st) (G1 h)) : Jg κ (wM κ) nL fin cs ss pc l ((0, .int n) :: st) (bnd (nwA 12 N9) G1) := by
  obtain ⟨⟨p, l9, e, R, s, m, args, below, meth, c⟩, ⟨D, g, A, Q⟩, M0, ad0⟩ := κ
  obtain ⟨hx, hb, hml, hown, hts, hK, hA, hst9, hlk, hR⟩ := hc
  subst hR
  intro M ad H locs ls a M' hF hfin hW hl hst
  obtain ⟨hP, hD, hS, hM, hn, hC, hex, hea⟩ := id hW
  obtain ⟨r9, M1, q1, hF⟩ := bnd_some hF
  unfold nwA at q1
  split at q1
  case isFalse => cases q1
  case isTrue hlt9 =>
  cases q1
  have hlt : Mn M < SB := of_decide_eq_true hlt9
  have hst := okS_tl hst
  refine va_newa (atype := .long) hx hb (hts _ hw) rfl hK hP hD hS hA (a0 := (N9, .inr (.inl (fun _ => 0)))) (fun _ => rfl) hn9 hN9 hby hcells hslots hd (fun q cA H1 hK1 hP1 hD1 hS1 => ?_)
  have hcA : cA = g 12 := by
    have k1 : s.vm.findClass ("[" ++ FieldType.toString .long) = some cA := (hK1.2 6 (cA, .long) rfl).2
    have k2 : s.vm.findClass ("[" ++ FieldType.toString .long) = some (g 12) := (hK.2 2 (g 12, .long) rfl).2
    exact Option.some.inj (k1.symm.trans k2)
  subst hcA
  have hpush : wl g ad M ++ [(q, .inl (g 12, (N9, .inr (.inl (fun _ => 0)))))] = wl g (va_up ad (Mn M) q) (nw M 12 N9) := by
    refine wl_push g ad _ (M' := nw M 12 N9) rfl (va_up_self _ _ _) ?_ (fun i hi => nw_old g hM hlt 12 N9 q hi)
    have e1 : Mk (nw M 12 N9) (Mn M) = 12 := va_up_self _ _ _
    have e2 : Ml (nw M 12 N9) (Mn M) = N9 := va_up_self _ _ _
    have e3 : Mj (nw M 12 N9) (Mn M) = fun _ => 0 := by funext k; show (if Mn M = Mn M then (0 : Int64) else _) = 0; rw [if_pos rfl]
    rw [ce_long g _ e1, e2, e3]
  replace hP1 := (congrArg (fun z => va_P D vwCl z H1) hpush).mp hP1
  replace hD1 := (congrArg (fun z => va_D A z) hpush).mp hD1
  have hA1 : exA (Mn M) ad (va_up ad (Mn M) q) := exA_up (Nat.le_refl _) hlt q
  have e9 : trS (va_up ad (Mn M) q) ((12, .ref (Mn M)) :: st) = .ref q :: trS ad st := by
    rw [← trS_ex (κ := ((p, l9, e, _, s, m, args, below, meth, c), (D, g, A, Q), M0, ad0)) hn hA1 hst]
    show Value.ref (va_up ad (Mn M) q (Mn M)) :: _ = _
    rw [va_up_self]; rfl
  have kk2 := kk (Mn M) (nw M 12 N9) _ H1 locs ls a M' hF hfin ⟨hP1, hD1, hS1, okM_nw hlt hM 12 N9, hlt, hC.go (State.WarmedH.refl s) (fun _ _ _ => rfl) (fun _ z => z) (fun x hx => va_up_ne _ _ (by omega)), hex.tr (ex_nw M 12 N9), exA.tr hex.1 hea hA1⟩ (lvk_ex (κ := ((p, l9, e, _, s, m, args, below, meth, c), (D, g, A, Q), M0, ad0)) hn (ex_nw M 12 N9) hA1 hl) (okS_cons (fun z hz => by cases hz; exact okH_of (M := nw M 12 N9) (Nat.lt_succ_self _) (va_up_self _ _ _) (by omega)) (okS_ex (κ := ((p, l9, e, _, s, m, args, below, meth, c), (D, g, A, Q), M0, ad0)) (ex_nw M 12 N9) hst))
  rw [e9] at kk2
  exact kk2
theorem J_newa13 (hc : Jc κ own cc nL fr mc ms lc) {n : Int32} {N9 : Nat} (hw : Cond.arrayClass .boolean ∈ TW) (hn9 : ¬ n < 0) (hN9 : n.toNatClampNeg = N9) (hby : N9 * componentBytes .boolean ≤ 536870912) (hcells : cs + 1 ≤ mc) (hslots : ss + N9 ≤ ms) (hd : decode cc pc = .ok (.newarray .boolean, 2)) {G1 : Nat → Mm → Option (α × Mm)} (kk : ∀ h, Jg κ (wM κ) nL fin (cs + 1) (ss + N9) (pc + 2) l ((13, .ref h) :: st) (G1 h)) : Jg κ (wM κ) nL fin cs ss pc l ((0, .int n) :: st) (bnd (nwA 13 N9) G1) := by
  obtain ⟨⟨p, l9, e, R, s, m, args, below, meth, c⟩, ⟨D, g, A, Q⟩, M0, ad0⟩ := κ
  obtain ⟨hx, hb, hml, hown, hts, hK, hA, hst9, hlk, hR⟩ := hc
  subst hR
  intro M ad H locs ls a M' hF hfin hW hl hst
  obtain ⟨hP, hD, hS, hM, hn, hC, hex, hea⟩ := id hW
  obtain ⟨r9, M1, q1, hF⟩ := bnd_some hF
  unfold nwA at q1
  split at q1
  case isFalse => cases q1
  case isTrue hlt9 =>
  cases q1
  have hlt : Mn M < SB := of_decide_eq_true hlt9
  have hst := okS_tl hst
  refine va_newa (atype := .boolean) hx hb (hts _ hw) rfl hK hP hD hS hA (a0 := (N9, .inl (fun _ => 0))) (fun _ => rfl) hn9 hN9 hby hcells hslots hd (fun q cA H1 hK1 hP1 hD1 hS1 => ?_)
  have hcA : cA = g 13 := by
    have k1 : s.vm.findClass ("[" ++ FieldType.toString .boolean) = some cA := (hK1.2 6 (cA, .boolean) rfl).2
    have k2 : s.vm.findClass ("[" ++ FieldType.toString .boolean) = some (g 13) := (hK.2 3 (g 13, .boolean) rfl).2
    exact Option.some.inj (k1.symm.trans k2)
  subst hcA
  have hpush : wl g ad M ++ [(q, .inl (g 13, (N9, .inl (fun _ => 0))))] = wl g (va_up ad (Mn M) q) (nw M 13 N9) := by
    refine wl_push g ad _ (M' := nw M 13 N9) rfl (va_up_self _ _ _) ?_ (fun i hi => nw_old g hM hlt 13 N9 q hi)
    have e1 : Mk (nw M 13 N9) (Mn M) = 13 := va_up_self _ _ _
    have e2 : Ml (nw M 13 N9) (Mn M) = N9 := va_up_self _ _ _
    have e3 : Mi (nw M 13 N9) (Mn M) = fun _ => 0 := by funext k; show (if Mn M = Mn M then (0 : Int32) else _) = 0; rw [if_pos rfl]
    rw [ce_int g _ e1 (Or.inr (Or.inr rfl)), e2, e3]
  replace hP1 := (congrArg (fun z => va_P D vwCl z H1) hpush).mp hP1
  replace hD1 := (congrArg (fun z => va_D A z) hpush).mp hD1
  have hA1 : exA (Mn M) ad (va_up ad (Mn M) q) := exA_up (Nat.le_refl _) hlt q
  have e9 : trS (va_up ad (Mn M) q) ((13, .ref (Mn M)) :: st) = .ref q :: trS ad st := by
    rw [← trS_ex (κ := ((p, l9, e, _, s, m, args, below, meth, c), (D, g, A, Q), M0, ad0)) hn hA1 hst]
    show Value.ref (va_up ad (Mn M) q (Mn M)) :: _ = _
    rw [va_up_self]; rfl
  have kk2 := kk (Mn M) (nw M 13 N9) _ H1 locs ls a M' hF hfin ⟨hP1, hD1, hS1, okM_nw hlt hM 13 N9, hlt, hC.go (State.WarmedH.refl s) (fun _ _ _ => rfl) (fun _ z => z) (fun x hx => va_up_ne _ _ (by omega)), hex.tr (ex_nw M 13 N9), exA.tr hex.1 hea hA1⟩ (lvk_ex (κ := ((p, l9, e, _, s, m, args, below, meth, c), (D, g, A, Q), M0, ad0)) hn (ex_nw M 13 N9) hA1 hl) (okS_cons (fun z hz => by cases hz; exact okH_of (M := nw M 13 N9) (Nat.lt_succ_self _) (va_up_self _ _ _) (by omega)) (okS_ex (κ := ((p, l9, e, _, s, m, args, below, meth, c), (D, g, A, Q), M0, ad0)) (ex_nw M 13 N9) hst))
  rw [e9] at kk2
  exact kk2
theorem J_newa14 (hc : Jc κ own cc nL fr mc ms lc) {n : Int32} {N9 index : Nat} (hw : Cond.classLink own index "DotRuns$Page" ∈ TW) (hn9 : ¬ n < 0) (hN9 : n.toNatClampNeg = N9) (hby : N9 * 4 ≤ 536870912) (hcells : cs + 1 ≤ mc) (hslots : ss + N9 ≤ ms) (hd : decode cc pc = .ok (.anewarray index, 3)) {G1 : Nat → Mm → Option (α × Mm)} (kk : ∀ h, Jg κ (wM κ) nL fin (cs + 1) (ss + N9) (pc + 3) l ((14, .ref h) :: st) (G1 h)) : Jg κ (wM κ) nL fin cs ss pc l ((0, .int n) :: st) (bnd (nwA 14 N9) G1) := by
  obtain ⟨⟨p, l9, e, R, s, m, args, below, meth, c⟩, ⟨D, g, A, Q⟩, M0, ad0⟩ := κ
  obtain ⟨hx, hb, hml, hown, hts, hK, hA, hst9, hlk, hR⟩ := hc
  subst hR
  intro M ad H locs ls a M' hF hfin hW hl hst
  obtain ⟨hP, hD, hS, hM, hn, hC, hex, hea⟩ := id hW
  obtain ⟨r9, M1, q1, hF⟩ := bnd_some hF
  unfold nwA at q1
  split at q1
  case isFalse => cases q1
  case isTrue hlt9 =>
  cases q1
  have hlt : Mn M < SB := of_decide_eq_true hlt9
  have hst := okS_tl hst
  refine va_newq hx hb hown (hts _ hw) hC.2.2.2.2.2.2.2.1 hK hP hD hS hA hn9 hN9 hby hcells hslots hd (fun q cA H1 hK1 hP1 hD1 hS1 => ?_)
  have hcA : cA = g 14 := by
    obtain ⟨_, _, _, _, _, k1⟩ := (hK1.2 6 (cA, .object "DotRuns$Page") rfl).2
    obtain ⟨_, _, _, _, _, k2⟩ := (hK.2 4 (g 14, .object "DotRuns$Page") rfl).2
    exact Option.some.inj (k1.symm.trans k2)
  subst hcA
  have hpush : wl g ad M ++ [(q, .inl (g 14, N9, .inr (.inr (.inr (.inr (fun _ => none))))))] = wl g (va_up ad (Mn M) q) (nw M 14 N9) := by
    refine wl_push g ad _ (M' := nw M 14 N9) rfl (va_up_self _ _ _) ?_ (fun i hi => nw_old g hM hlt 14 N9 q hi)
    have e1 : Mk (nw M 14 N9) (Mn M) = 14 := va_up_self _ _ _
    have e2 : Ml (nw M 14 N9) (Mn M) = N9 := va_up_self _ _ _
    have e3 : Mr (nw M 14 N9) (Mn M) = fun _ => none := by funext k; show (if Mn M = Mn M then (none : Option Nat) else _) = none; rw [if_pos rfl]
    rw [ce_page g _ e1, e2, e3]
    rfl
  replace hP1 := (congrArg (fun z => va_P D vwCl z H1) hpush).mp hP1
  replace hD1 := (congrArg (fun z => va_D A z) hpush).mp hD1
  have hA1 : exA (Mn M) ad (va_up ad (Mn M) q) := exA_up (Nat.le_refl _) hlt q
  have e9 : trS (va_up ad (Mn M) q) ((14, .ref (Mn M)) :: st) = .ref q :: trS ad st := by
    rw [← trS_ex (κ := ((p, l9, e, _, s, m, args, below, meth, c), (D, g, A, Q), M0, ad0)) hn hA1 hst]
    show Value.ref (va_up ad (Mn M) q (Mn M)) :: _ = _
    rw [va_up_self]; rfl
  have kk2 := kk (Mn M) (nw M 14 N9) _ H1 locs ls a M' hF hfin ⟨hP1, hD1, hS1, okM_nw hlt hM 14 N9, hlt, hC.go (State.WarmedH.refl s) (fun _ _ _ => rfl) (fun _ z => z) (fun x hx => va_up_ne _ _ (by omega)), hex.tr (ex_nw M 14 N9), exA.tr hex.1 hea hA1⟩ (lvk_ex (κ := ((p, l9, e, _, s, m, args, below, meth, c), (D, g, A, Q), M0, ad0)) hn (ex_nw M 14 N9) hA1 hl) (okS_cons (fun z hz => by cases hz; exact okH_of (M := nw M 14 N9) (Nat.lt_succ_self _) (va_up_self _ _ _) (by omega)) (okS_ex (κ := ((p, l9, e, _, s, m, args, below, meth, c), (D, g, A, Q), M0, ad0)) (ex_nw M 14 N9) hst))
  rw [e9] at kk2
  exact kk2
theorem cat_tr (ad : Nat → Nat) (st : List TV) : ((trS ad st).map fun v => v.category) = st.map (fun q => q.2.category) := by
  unfold trS
  rw [List.map_map]
  exact List.map_congr_left (fun q _ => tr_cat ad q.2)
theorem J_objInit (hc : Jc κ own cc nL fr mc ms lc) {index k h : Nat} (h1 : Cond.methodLink own index Lib.objectInit ∈ TW) (h2 : Cond.instanceMethod Lib.objectInit ∈ TW) (h3 : Cond.code Lib.objectInit ⟨#[0xb1]⟩ 1 none ∈ TW) (hfr : 1 ≤ fr) (hlc : 20 ≤ lc) (hs8 : (st.map (fun q => q.2.category)).sum ≤ 8) (hd : decode cc pc = .ok (.invokespecial index, 3)) (kk : Jg κ (wM κ) nL fin cs ss (pc + 3) l st F) : Jg κ (wM κ) nL fin cs ss pc l ((k, .ref h) :: st) F := by
  obtain ⟨⟨p, l9, e, R, s, m, args, below, meth, c⟩, ⟨D, g, A, Q⟩, M0, ad0⟩ := κ
  obtain ⟨hx, hb, hml, hown, hts, hK, hA, hst9, hlk, hR⟩ := hc
  subst hR
  intro M ad H locs ls a M' hF hfin hW hl hst
  obtain ⟨hP, hD, hS, hM, hn, hC, hex, hea⟩ := id hW
  have h8 := lv_room (m := m) (pc := pc) (ls := ls) (rest := trS ad ((k, .ref h) :: st)) (st := trS ad st) (by rw [cat_tr]; exact hs8)
  refine W.objInit hx hb hown (hts _ h1) (hts _ h2) (hts _ h3) rfl (by rw [hml]; exact hl.1.1) rfl hd hfr (Nat.le_trans (Nat.add_le_add_right h8 12) hlc) ?_
  refine W.eq (g2 := F0 m (pc + 3) ls (trS ad st)) rfl ?_
  exact kk M ad H locs ls a M' hF hfin hW hl (okS_tl hst)
/-- what a callee asks of the heap, and what it leaves -/
def wM0 (g : Nat → ClassId) (D : va_G) (ad : Nat → Nat) (M : Mm) (U : State) : Prop := va_P D vwCl (wl g ad M) U.heap ∧ va_D (fun _ => True) (wl g ad M) ∧ va_K D vwCl (tyG g) U ∧ okM M ∧ Mn M ≤ SB ∧ Cst ad (va_A (wl g ad M) U.heap.size) U (Mx M)
def wM1 (g : Nat → ClassId) (D : va_G) (A : Nat → Prop) (M : Mm) (ad : Nat → Nat) (M' : Mm) (ad' : Nat → Nat) (t : State) : Prop := va_P D vwCl (wl g ad' M') t.heap ∧ va_D A (wl g ad' M') ∧ okM M' ∧ Mn M' ≤ SB ∧ exM M M' ∧ exA (Mn M) ad ad'
def okS0 (M : Mm) (st : List TV) : Prop := ∀ q, q ∈ st → okV M q
def rmR (fr mc ms lc : Nat) : Room := { frames := fr, cells := mc, slots := ms, locals := lc }
/-- the contract of a method that doesn't throw: F is its meaning on the arguments av -/
def Ct {β : Type} (wr : β → Option Value) (y : MethodName) (b : ByteArray) (nL' : Nat) (ret' : Option FieldType) (fr' mc' ms' lc' : Nat) (av : List TV) (Fc : Mm → Option (β × Mm)) : Prop :=
  ∀ (l : Launch) (g : Nat → ClassId) (D : va_G) (ad : Nat → Nat) (sz : Nat) (M : Mm) (r : β) (M' : Mm), l.stackTraces = false → Fc M = some (r, M') → okS0 M av →
    Met l y (wsY y b nL' ret') (rmR fr' mc' ms' lc') (va_Pc (trS ad av) (fun U => U.heap.size = sz ∧ wM0 g D ad M U)) (fun _ s0 oc t => (oc = .returned (wr r) ∧ ∃ ad', wM1 g D (va_A (wl g ad M) sz) M ad M' ad' t) ∧ va_F (va_A (wl g ad M) sz) s0 t) mc' ms' (va_A (wl g ad M) sz)
def exN : Nat → String
  | 0 => "java/lang/IllegalArgumentException"
  | 1 => "java/lang/IllegalStateException"
  | _ => "java/lang/IndexOutOfBoundsException"
/-- .. of a method that may throw: a thrown exception is its number -/
def CtX {β : Type} (wr : β → Option Value) (y : MethodName) (b : ByteArray) (nL' : Nat) (ret' : Option FieldType) (fr' mc' ms' lc' : Nat) (av : List TV) (Fc : Mm → Option ((Nat ⊕ β) × Mm)) : Prop :=
  ∀ (l : Launch) (g : Nat → ClassId) (D : va_G) (ad : Nat → Nat) (sz : Nat) (M : Mm) (r : Nat ⊕ β) (M' : Mm), l.stackTraces = false → Fc M = some (r, M') → okS0 M av →
    vx_Met l y (wsY y b nL' ret') (rmR fr' mc' ms' lc') (va_Pc (trS ad av) (fun U => U.heap.size = sz ∧ wM0 g D ad M U)) (fun _ s0 oc t => ((∃ b, r = .inr b ∧ oc = .returned (wr b)) ∧ ∃ ad', wM1 g D (va_A (wl g ad M) sz) M ad M' ad' t) ∧ va_F (va_A (wl g ad M) sz) s0 t)
      (fun E s0 t => ((∃ k, r = .inl k ∧ E = exN k) ∧ ∃ ad', wM1 g D (va_A (wl g ad M) sz) M ad M' ad' t) ∧ va_F (va_A (wl g ad M) sz) s0 t) mc' ms' (va_A (wl g ad M) sz)
theorem wM0_blind {g : Nat → ClassId} {D : va_G} {ad : Nat → Nat} {M : Mm} {sz : Nat} {av : List Value} : FrameBlind (va_Pc av (fun U => U.heap.size = sz ∧ wM0 g D ad M U)) := by
  intro a U g9 mk q
  obtain ⟨q0, q1, q2, q3, q4, q5, q6, q7⟩ := q
  exact ⟨q0, q1, q2, q3, va_K.moved (u := U) (U := U.calling g9 mk a) (Vm.Alike.refl U.vm) q4, q5, q6, q7.go (U := U.calling g9 mk a) (State.WarmedH.refl U) (fun _ _ _ => rfl) (fun _ z => z) (fun _ _ => rfl)⟩
theorem wA_sub {g : Nat → ClassId} {ad : Nat → Nat} {M : Mm} {A : Nat → Prop} {s : State} {H : Heap} {locs : List Loc} (hD : va_D A (wl g ad M)) (hS : va_S A s.heap H locs) (hA : ∀ q : Nat, s.heap.size ≤ q → A q) : ∀ q, va_A (wl g ad M) H.size q → A q := by
  intro q h
  rcases h with ⟨k, e, h⟩ | h
  · exact hD.2 k (q, e) h
  · exact hA q (Nat.le_trans hS.1 h)
theorem wM0_at {g : Nat → ClassId} {D : va_G} {ad : Nat → Nat} {M : Mm} {A : Nat → Prop} {s U : State} {H : Heap} {locs : List Loc} (hP : va_P D vwCl (wl g ad M) H) (hD : va_D A (wl g ad M)) (hS : va_S A s.heap H locs) (hA : ∀ q : Nat, s.heap.size ≤ q → A q) (hK : va_K D vwCl (tyG g) s) (hM : okM M) (hn : Mn M ≤ SB) {X : Nat × (Nat → Int32)} (hX : Mx M = X) (hC : Cst ad A s X) (hU : U.heap = H) (hW : s.WarmedH U.vm) : U.heap.size = H.size ∧ wM0 g D ad M U := by
  subst hX
  exact ⟨by rw [hU], by rw [hU]; exact hP, hD.weaken (fun _ _ _ _ => trivial), va_K.moved hW.alike hK, hM, hn, hC.go hW (fun a h1 h2 => by rw [hU]; exact hS.2.1 a h1 h2) (by rw [hU]; exact wA_sub hD hS hA) (fun _ _ => rfl)⟩
theorem vq_call {p : Program} {l : Launch} {e : Env} {R : Room} {s : State} {m : MethodId} {args : Array Value} {below : List Frame} {meth : Method} {c : Code} {H : Heap} {locs : List Loc} {cells slots : Nat} {Q : State → Prop} {pc : Nat} {ls : Array Slot} {rest st0 : List Value} {A0 A1 : Nat → Prop} {H0 : Heap} {mc ms : Nat} {free : Addr → Prop} {wv : Option Value} {Pq : State → Prop}
    (hr : va_Run p l e R s m args below meth c H locs cells slots mc ms (F0 m pc ls st0) rest (fun s0 oc t => (oc = .returned wv ∧ Pq t) ∧ va_F A1 s0 t) free) (hS : va_S A0 H0 H locs) (hA : ∀ q, q < H.size → A1 q → A0 q) (hf : ∀ q, free q → A0 q)
    (kk : ∀ (t : State) (H1 : Heap) (locs1 : List Loc), t.heap = H1 → s.vm.Alike t.vm → Pq t → H.size ≤ H1.size → (∀ q : Nat, q < H.size → ¬ A1 q → H1[q]? = H[q]?) → va_S A0 H0 H1 locs1 → W p l e R s m args below meth c H1 locs1 (cells + mc) (slots + ms) Q (F0 m (pc + 3) ls (wv.toList ++ rest))) : W p l e R s m args below meth c H locs cells slots Q (F0 m pc ls st0) := by
  intro T hT X
  obtain ⟨v, st₀, t, T', L, h0, X', hL, e1, e2, ⟨⟨hv, hp⟩, hz, hk⟩, st⟩ := hr T hT X
  cases hv
  rw [h0] at hz hk
  obtain ⟨t2, a1, b1⟩ := kk t T'.heap (locs ++ L) e1.symm (by rw [← e2]; exact X'.warmed.alike) hp (by rw [e1]; exact hz) (fun q h1 h2 => by rw [e1]; exact hk q h1 h2)
    ⟨Nat.le_trans hS.1 (by rw [e1]; exact hz), fun q h1 h2 => by rw [e1, hk q (Nat.lt_of_lt_of_le h1 hS.1) (fun z => h2 (hA q (Nat.lt_of_lt_of_le h1 hS.1) z))]; exact hS.2.1 q h1 h2, fun q hq => by
      rcases List.mem_append.mp hq with h | h
      · exact hS.2.2 q h
      · exact hf _ (hL q h)⟩ T' rfl X'
  exact ⟨t2, st t2 a1, b1⟩
/-- a method's name and descriptor: n parameters -/
def MOk (y : MethodName) (n : Nat) : Prop := y.cls ≠ "java/lang/invoke/MethodHandle" ∧ y.cls ≠ "java/lang/invoke/VarHandle" ∧ (parseMethodDescriptor y.desc).map (fun d => d.parameters.length) = some n
theorem trS_rev (ad : Nat → Nat) (As st : List TV) : trS ad (As.reverse ++ st) = (trS ad As).reverse ++ trS ad st := by
  unfold trS; rw [List.map_append, List.map_reverse]
theorem okS_app {σ : Type} {ω : Wp σ} {M : σ} {a b : List TV} (h : okS ω M (a ++ b)) : okS ω M a ∧ okS ω M b := ⟨fun q hq => h q (List.mem_append_left _ hq), fun q hq => h q (List.mem_append_right _ hq)⟩
theorem okS_rev {σ : Type} {ω : Wp σ} {M : σ} {a : List TV} (h : okS ω M a.reverse) : okS ω M a := fun q hq => h q (List.mem_reverse.mpr hq)

theorem J_callV (hc : Jc κ own cc nL fr mc ms lc) (hcl : ClOk ci C T N ty) {h : Nat} {y : MethodName} {b : ByteArray} {nL' : Nat} {ret' : Option FieldType} {fr' mc' ms' lc' index n : Nat} {As : List TV} {st0 : List TV} {Fc : Mm → Option (β × Mm)} {wr : β → Option Value} (hct : Ct wr y b nL' ret' fr' mc' ms' lc' ((ci, .ref h) :: As) Fc) (hd : decode cc pc = .ok (.invokevirtual index, 3)) (hmo : MOk y n) (hyc : y.cls = C) (hw1 : Cond.methodLink own index y ∈ TW) (hw2 : Cond.instanceMethod y ∈ TW) (hw3 : Cond.selects C y y ∈ TW) (hw4 : Cond.initialized C ∈ TW) (hc5 : Cond.code y b nL' ret' ∈ TW) (hlen : As.length = n) (hr1 : fr' + 1 ≤ fr) (hr2 : 8 + (nL' + 11) + lc' ≤ lc) (hr3 : cs + mc' ≤ mc) (hr4 : ss + ms' ≤ ms) (hs8 : (st.map (fun q => q.2.category)).sum ≤ 8) (hst0 : st0 = As.reverse ++ (ci, .ref h) :: st) {G1 : β → Mm → Option (α × Mm)} (hwr : ∀ r x, wr r ≠ some (.ref x)) (kk : ∀ r, Jg κ (wM κ) nL fin (cs + mc') (ss + ms') (pc + 3) l ((wr r).toList.map (fun v => ((0, v) : TV)) ++ st) (G1 r)) : Jg κ (wM κ) nL fin cs ss pc l st0 (bnd Fc G1) := by
  subst hst0
  obtain ⟨⟨p, l9, e, R, s, m, args, below, meth, c⟩, ⟨D, g, A, Q⟩, M0, ad0⟩ := κ
  obtain ⟨hx, hb, hml, hown, hts, hK, hA, hst9, hlk, hR⟩ := hc
  subst hR
  intro M ad H locs ls a M' hF hfin hW hl hst
  obtain ⟨hP, hD, hS, hM, hn, hC, hex, hea⟩ := id hW
  obtain ⟨r9, M1, q1, hF⟩ := bnd_some hF
  obtain ⟨hsA, hsT⟩ := okS_app hst
  have hst := okS_tl hsT
  have hsR : okW (wM ((p, l9, e, _, s, m, args, below, meth, c), (D, g, A, Q), M0, ad0)) M (ci, .ref h) := okS_hd hsT
  have hav : okS0 M ((ci, .ref h) :: As) := fun q hq => by
    rcases List.mem_cons.mp hq with rfl | hq
    · exact hsR
    · exact okS_rev hsA q hq
  have hMet := hct l9 g D ad H.size M r9 M1 hst9 q1 hav
  obtain ⟨hc1, -, -, -, -, h9⟩ := hcl
  obtain ⟨hh, hkd9⟩ : h < Mn M ∧ Mk M h = ci := (hsR h rfl).at (by omega)
  have he := (wl_get g ad hh).trans (congrArg (fun x => some (ad h, x)) (ce_obj g ad hkd9 h9))
  refine vq_call (va_runV (C := C) (b := ad h) (As := trS ad As) (rest := trS ad st) ⟨hx, hb, hml, hown, hts⟩ hMet (cwV n hts (tw_V hw1 hw2 hw3 hw4 hc5) rfl rfl rfl ⟨hyc, hmo⟩ ⟨hr1, hr2⟩) ⟨wM0_blind, va_recv hK hP hc1 he, fun U hU hW9 => ⟨rfl, wM0_at hP hD hS hA hK hM hn hex.2.2 hC hU hW9⟩⟩ rfl (by show (trS ad As).length = n; unfold trS; rw [List.length_map]; exact hlen) hl.1.1 (trS_rev ad As ((ci, .ref h) :: st)) (lv_room (by rw [cat_tr]; exact hs8)) hd ⟨hr3, hr4⟩) hS (fun q _ h => wA_sub hD hS hA q h) (wA_sub hD hS hA) (fun t H1 locs1 ht hvm hB hz1 hk1 hS1 => ?_)
  obtain ⟨ad1, hP1, hD1, hM1, hn1, hx1, ha1⟩ := hB
  rw [ht] at hP1
  have e9 : trS ad1 ((wr r9).toList.map (fun v => ((0, v) : TV)) ++ st) = (wr r9).toList ++ trS ad st := by
    have e8 := trS_ex (κ := ((p, l9, e, _, s, m, args, below, meth, c), (D, g, A, Q), M0, ad0)) hn ha1 hst
    unfold trS at e8 ⊢
    rw [List.map_append, e8]
    cases hq : wr r9 with
    | none => rfl
    | some v =>
      cases v with
      | ref x => exact absurd hq (hwr r9 x)
      | _ => rfl
  rw [← e9]
  exact kk r9 M1 ad1 H1 locs1 ls a M' hF hfin ⟨hP1, hD1.weaken (fun _ q _ h => wA_sub hD hS hA q.1 h), hS1, hM1, hn1, hC.go (State.WarmedH.refl s) (fun _ _ _ => rfl) (fun _ z => z) (fun x hx => ha1 x (Or.inr hx)), hex.tr hx1, exA.tr hex.1 hea ha1⟩ (lvk_ex (κ := ((p, l9, e, _, s, m, args, below, meth, c), (D, g, A, Q), M0, ad0)) hn hx1 ha1 hl) (fun q hq => by
    rcases List.mem_append.mp hq with hq | hq
    · obtain ⟨v, hv, rfl⟩ := List.mem_map.mp hq
      intro x hx
      have hx : v = .ref x := hx
      subst hx
      cases hw9 : wr r9 with
      | none => rw [hw9] at hv; cases hv
      | some v9 =>
        rw [hw9] at hv
        have hv : (Value.ref x) = v9 := by simpa using hv
        exact absurd (hw9.trans (congrArg some hv.symm)) (hwr r9 x)
    · exact okS_ex (κ := ((p, l9, e, _, s, m, args, below, meth, c), (D, g, A, Q), M0, ad0)) hx1 hst q hq)
theorem J_callS (hc : Jc κ own cc nL fr mc ms lc) {y : MethodName} {b : ByteArray} {nL' : Nat} {ret' : Option FieldType} {fr' mc' ms' lc' index n : Nat} {As : List TV} {st0 : List TV} {Fc : Mm → Option (β × Mm)} {wr : β → Option Value} (hct : Ct wr y b nL' ret' fr' mc' ms' lc' As Fc) (hd : decode cc pc = .ok (.invokestatic index, 3)) (hmo : MOk y n) (hw1 : Cond.methodLink own index y ∈ TW) (hw2 : Cond.static y ∈ TW) (hw4 : Cond.initialized y.cls ∈ TW) (hc5 : Cond.code y b nL' ret' ∈ TW) (hlen : As.length = n) (hr1 : fr' + 1 ≤ fr) (hr2 : 8 + (nL' + 11) + lc' ≤ lc) (hr3 : cs + mc' ≤ mc) (hr4 : ss + ms' ≤ ms) (hs8 : (st.map (fun q => q.2.category)).sum ≤ 8) (hst0 : st0 = As.reverse ++ st) {G1 : β → Mm → Option (α × Mm)} (hwr : ∀ r x, wr r ≠ some (.ref x)) (kk : ∀ r, Jg κ (wM κ) nL fin (cs + mc') (ss + ms') (pc + 3) l ((wr r).toList.map (fun v => ((0, v) : TV)) ++ st) (G1 r)) : Jg κ (wM κ) nL fin cs ss pc l st0 (bnd Fc G1) := by
  subst hst0
  obtain ⟨⟨p, l9, e, R, s, m, args, below, meth, c⟩, ⟨D, g, A, Q⟩, M0, ad0⟩ := κ
  obtain ⟨hx, hb, hml, hown, hts, hK, hA, hst9, hlk, hR⟩ := hc
  subst hR
  intro M ad H locs ls a M' hF hfin hW hl hst
  obtain ⟨hP, hD, hS, hM, hn, hC, hex, hea⟩ := id hW
  obtain ⟨r9, M1, q1, hF⟩ := bnd_some hF
  obtain ⟨hsA, hst⟩ := okS_app hst
  have hav : okS0 M As := fun q hq => okS_rev hsA q hq
  have hMet := hct l9 g D ad H.size M r9 M1 hst9 q1 hav
  refine vq_call (va_runS (As := trS ad As) (rest := trS ad st) ⟨hx, hb, hml, hown, hts⟩ hMet (va_cwS n hts (tw_S hw1 hw2 hw4 hc5) rfl rfl rfl hmo ⟨hr1, hr2⟩) ⟨wM0_blind, fun U hU hW9 => ⟨rfl, wM0_at hP hD hS hA hK hM hn hex.2.2 hC hU hW9⟩⟩ rfl (by show (trS ad As).length = n; unfold trS; rw [List.length_map]; exact hlen) hl.1.1 (trS_rev ad As st) (lv_room (by rw [cat_tr]; exact hs8)) hd ⟨hr3, hr4⟩) hS (fun q _ h => wA_sub hD hS hA q h) (wA_sub hD hS hA) (fun t H1 locs1 ht hvm hB hz1 hk1 hS1 => ?_)
  obtain ⟨ad1, hP1, hD1, hM1, hn1, hx1, ha1⟩ := hB
  rw [ht] at hP1
  have e9 : trS ad1 ((wr r9).toList.map (fun v => ((0, v) : TV)) ++ st) = (wr r9).toList ++ trS ad st := by
    have e8 := trS_ex (κ := ((p, l9, e, _, s, m, args, below, meth, c), (D, g, A, Q), M0, ad0)) hn ha1 hst
    unfold trS at e8 ⊢
    rw [List.map_append, e8]
    cases hq : wr r9 with
    | none => rfl
    | some v =>
      cases v with
      | ref x => exact absurd hq (hwr r9 x)
      | _ => rfl
  rw [← e9]
  exact kk r9 M1 ad1 H1 locs1 ls a M' hF hfin ⟨hP1, hD1.weaken (fun _ q _ h => wA_sub hD hS hA q.1 h), hS1, hM1, hn1, hC.go (State.WarmedH.refl s) (fun _ _ _ => rfl) (fun _ z => z) (fun x hx => ha1 x (Or.inr hx)), hex.tr hx1, exA.tr hex.1 hea ha1⟩ (lvk_ex (κ := ((p, l9, e, _, s, m, args, below, meth, c), (D, g, A, Q), M0, ad0)) hn hx1 ha1 hl) (fun q hq => by
    rcases List.mem_append.mp hq with hq | hq
    · obtain ⟨v, hv, rfl⟩ := List.mem_map.mp hq
      intro x hx
      have hx : v = .ref x := hx
      subst hx
      cases hw9 : wr r9 with
      | none => rw [hw9] at hv; cases hv
      | some v9 =>
        rw [hw9] at hv
        have hv : (Value.ref x) = v9 := by simpa using hv
        exact absurd (hw9.trans (congrArg some hv.symm)) (hwr r9 x)
    · exact okS_ex (κ := ((p, l9, e, _, s, m, args, below, meth, c), (D, g, A, Q), M0, ad0)) hx1 hst q hq)
theorem J_callSN (hc : Jc κ own cc nL fr mc ms lc) {y : MethodName} {b : ByteArray} {nL' : Nat} {ret' : Option FieldType} {fr' mc' ms' lc' index n : Nat} {As : List TV} {st0 : List TV} {Fc : Mm → Option (β × Mm)} {wr : β → Option Value} (hct : Ct wr y b nL' ret' fr' mc' ms' lc' As Fc) (hd : decode cc pc = .ok (.invokestatic index, 3)) (hmo : MOk y n) (hw1 : (own, index, y, "DotRuns") ∈ nMw) (hw2 : Cond.static y ∈ TW) (hw4 : Cond.initialized y.cls ∈ TW) (hc5 : Cond.code y b nL' ret' ∈ TW) (hlen : As.length = n) (hr1 : fr' + 1 ≤ fr) (hr2 : 8 + (nL' + 11) + lc' ≤ lc) (hr3 : cs + mc' ≤ mc) (hr4 : ss + ms' ≤ ms) (hs8 : (st.map (fun q => q.2.category)).sum ≤ 8) (hst0 : st0 = As.reverse ++ st) {G1 : β → Mm → Option (α × Mm)} (hwr : ∀ r x, wr r ≠ some (.ref x)) (kk : ∀ r, Jg κ (wM κ) nL fin (cs + mc') (ss + ms') (pc + 3) l ((wr r).toList.map (fun v => ((0, v) : TV)) ++ st) (G1 r)) : Jg κ (wM κ) nL fin cs ss pc l st0 (bnd Fc G1) := by
  subst hst0
  obtain ⟨⟨p, l9, e, R, s, m, args, below, meth, c⟩, ⟨D, g, A, Q⟩, M0, ad0⟩ := κ
  obtain ⟨hx, hb, hml, hown, hts, hK, hA, hst9, hlk, hR⟩ := hc
  subst hR
  intro M ad H locs ls a M' hF hfin hW hl hst
  obtain ⟨hP, hD, hS, hM, hn, hC, hex, hea⟩ := id hW
  obtain ⟨r9, M1, q1, hF⟩ := bnd_some hF
  obtain ⟨hsA, hst⟩ := okS_app hst
  have hav : okS0 M As := fun q hq => okS_rev hsA q hq
  have hMet := hct l9 g D ad H.size M r9 M1 hst9 q1 hav
  refine vq_call (va_runSN (As := trS ad As) (rest := trS ad st) ⟨hx, hb, hml, hown, hts⟩ hMet ⟨va_cnB n hts (tw_y hc5) rfl rfl rfl (hC.2.2.2.2.2.2.2.2.1 _ hw1) (hts _ hw4) hmo ⟨hr1, hr2⟩, hts _ hw2, trivial⟩ ⟨wM0_blind, fun U hU hW9 => ⟨rfl, wM0_at hP hD hS hA hK hM hn hex.2.2 hC hU hW9⟩⟩ rfl (by show (trS ad As).length = n; unfold trS; rw [List.length_map]; exact hlen) hl.1.1 (trS_rev ad As st) (lv_room (by rw [cat_tr]; exact hs8)) hd ⟨hr3, hr4⟩) hS (fun q _ h => wA_sub hD hS hA q h) (wA_sub hD hS hA) (fun t H1 locs1 ht hvm hB hz1 hk1 hS1 => ?_)
  obtain ⟨ad1, hP1, hD1, hM1, hn1, hx1, ha1⟩ := hB
  rw [ht] at hP1
  have e9 : trS ad1 ((wr r9).toList.map (fun v => ((0, v) : TV)) ++ st) = (wr r9).toList ++ trS ad st := by
    have e8 := trS_ex (κ := ((p, l9, e, _, s, m, args, below, meth, c), (D, g, A, Q), M0, ad0)) hn ha1 hst
    unfold trS at e8 ⊢
    rw [List.map_append, e8]
    cases hq : wr r9 with
    | none => rfl
    | some v =>
      cases v with
      | ref x => exact absurd hq (hwr r9 x)
      | _ => rfl
  rw [← e9]
  exact kk r9 M1 ad1 H1 locs1 ls a M' hF hfin ⟨hP1, hD1.weaken (fun _ q _ h => wA_sub hD hS hA q.1 h), hS1, hM1, hn1, hC.go (State.WarmedH.refl s) (fun _ _ _ => rfl) (fun _ z => z) (fun x hx => ha1 x (Or.inr hx)), hex.tr hx1, exA.tr hex.1 hea ha1⟩ (lvk_ex (κ := ((p, l9, e, _, s, m, args, below, meth, c), (D, g, A, Q), M0, ad0)) hn hx1 ha1 hl) (fun q hq => by
    rcases List.mem_append.mp hq with hq | hq
    · obtain ⟨v, hv, rfl⟩ := List.mem_map.mp hq
      intro x hx
      have hx : v = .ref x := hx
      subst hx
      cases hw9 : wr r9 with
      | none => rw [hw9] at hv; cases hv
      | some v9 =>
        rw [hw9] at hv
        have hv : (Value.ref x) = v9 := by simpa using hv
        exact absurd (hw9.trans (congrArg some hv.symm)) (hwr r9 x)
    · exact okS_ex (κ := ((p, l9, e, _, s, m, args, below, meth, c), (D, g, A, Q), M0, ad0)) hx1 hst q hq)
theorem J_callI (hc : Jc κ own cc nL fr mc ms lc) (h9 : obK ci) {h : Nat} {y : MethodName} {b : ByteArray} {nL' : Nat} {fr' mc' ms' lc' index n : Nat} {As : List TV} {st0 : List TV} {Fc : Mm → Option (β × Mm)} {wr : β → Option Value} (hct : Ct wr y b nL' none fr' mc' ms' lc' ((ci, .ref h) :: As) Fc) (hd : decode cc pc = .ok (.invokespecial index, 3)) (hmo : MOk y n) (hyn : y.name = "<init>") (hw1 : Cond.methodLink own index y ∈ TW) (hw2 : Cond.instanceMethod y ∈ TW) (hw4 : Cond.initialized y.cls ∈ TW) (hc5 : Cond.code y b nL' none ∈ TW) (hlen : As.length = n) (hr1 : fr' + 1 ≤ fr) (hr2 : 8 + (nL' + 11) + lc' ≤ lc) (hr3 : cs + mc' ≤ mc) (hr4 : ss + ms' ≤ ms) (hs8 : (st.map (fun q => q.2.category)).sum ≤ 8) (hst0 : st0 = As.reverse ++ (ci, .ref h) :: st) {G1 : β → Mm → Option (α × Mm)} (hwr : ∀ r x, wr r ≠ some (.ref x)) (kk : ∀ r, Jg κ (wM κ) nL fin (cs + mc') (ss + ms') (pc + 3) l ((wr r).toList.map (fun v => ((0, v) : TV)) ++ st) (G1 r)) : Jg κ (wM κ) nL fin cs ss pc l st0 (bnd Fc G1) := by
  subst hst0
  obtain ⟨⟨p, l9, e, R, s, m, args, below, meth, c⟩, ⟨D, g, A, Q⟩, M0, ad0⟩ := κ
  obtain ⟨hx, hb, hml, hown, hts, hK, hA, hst9, hlk, hR⟩ := hc
  subst hR
  intro M ad H locs ls a M' hF hfin hW hl hst
  obtain ⟨hP, hD, hS, hM, hn, hC, hex, hea⟩ := id hW
  obtain ⟨r9, M1, q1, hF⟩ := bnd_some hF
  obtain ⟨hsA, hsT⟩ := okS_app hst
  have hst := okS_tl hsT
  have hsR : okW (wM ((p, l9, e, _, s, m, args, below, meth, c), (D, g, A, Q), M0, ad0)) M (ci, .ref h) := okS_hd hsT
  have hav : okS0 M ((ci, .ref h) :: As) := fun q hq => by
    rcases List.mem_cons.mp hq with rfl | hq
    · exact hsR
    · exact okS_rev hsA q hq
  have hMet := hct l9 g D ad H.size M r9 M1 hst9 q1 hav
  refine vq_call (va_runI (b := ad h) (As := trS ad As) (rest := trS ad st) ⟨hx, hb, hml, hown, hts⟩ hMet (cwI n hts (tw_y hc5) rfl rfl rfl (hts _ hw4) (hts _ hw1) (hts _ hw2) hyn hmo ⟨hr1, hr2⟩) ⟨wM0_blind, fun U hU hW9 => ⟨rfl, wM0_at hP hD hS hA hK hM hn hex.2.2 hC hU hW9⟩⟩ rfl (by show (trS ad As).length = n; unfold trS; rw [List.length_map]; exact hlen) hl.1.1 (trS_rev ad As ((ci, .ref h) :: st)) (lv_room (by rw [cat_tr]; exact hs8)) hd ⟨hr3, hr4⟩) hS (fun q _ h => wA_sub hD hS hA q h) (wA_sub hD hS hA) (fun t H1 locs1 ht hvm hB hz1 hk1 hS1 => ?_)
  obtain ⟨ad1, hP1, hD1, hM1, hn1, hx1, ha1⟩ := hB
  rw [ht] at hP1
  have e9 : trS ad1 ((wr r9).toList.map (fun v => ((0, v) : TV)) ++ st) = (wr r9).toList ++ trS ad st := by
    have e8 := trS_ex (κ := ((p, l9, e, _, s, m, args, below, meth, c), (D, g, A, Q), M0, ad0)) hn ha1 hst
    unfold trS at e8 ⊢
    rw [List.map_append, e8]
    cases hq : wr r9 with
    | none => rfl
    | some v =>
      cases v with
      | ref x => exact absurd hq (hwr r9 x)
      | _ => rfl
  rw [← e9]
  exact kk r9 M1 ad1 H1 locs1 ls a M' hF hfin ⟨hP1, hD1.weaken (fun _ q _ h => wA_sub hD hS hA q.1 h), hS1, hM1, hn1, hC.go (State.WarmedH.refl s) (fun _ _ _ => rfl) (fun _ z => z) (fun x hx => ha1 x (Or.inr hx)), hex.tr hx1, exA.tr hex.1 hea ha1⟩ (lvk_ex (κ := ((p, l9, e, _, s, m, args, below, meth, c), (D, g, A, Q), M0, ad0)) hn hx1 ha1 hl) (fun q hq => by
    rcases List.mem_append.mp hq with hq | hq
    · obtain ⟨v, hv, rfl⟩ := List.mem_map.mp hq
      intro x hx
      have hx : v = .ref x := hx
      subst hx
      cases hw9 : wr r9 with
      | none => rw [hw9] at hv; cases hv
      | some v9 =>
        rw [hw9] at hv
        have hv : (Value.ref x) = v9 := by simpa using hv
        exact absurd (hw9.trans (congrArg some hv.symm)) (hwr r9 x)
    · exact okS_ex (κ := ((p, l9, e, _, s, m, args, below, meth, c), (D, g, A, Q), M0, ad0)) hx1 hst q hq)
theorem J_callIN (hc : Jc κ own cc nL fr mc ms lc) (h9 : obK ci) {h : Nat} {y : MethodName} {b : ByteArray} {nL' : Nat} {fr' mc' ms' lc' index n : Nat} {As : List TV} {st0 : List TV} {Fc : Mm → Option (β × Mm)} {wr : β → Option Value} (hct : Ct wr y b nL' none fr' mc' ms' lc' ((ci, .ref h) :: As) Fc) (hd : decode cc pc = .ok (.invokespecial index, 3)) (hmo : MOk y n) (hyn : y.name = "<init>") (hw1 : (own, index, y, "DotRuns") ∈ nMw) (hw2 : Cond.instanceMethod y ∈ TW) (hw4 : Cond.initialized y.cls ∈ TW) (hc5 : Cond.code y b nL' none ∈ TW) (hlen : As.length = n) (hr1 : fr' + 1 ≤ fr) (hr2 : 8 + (nL' + 11) + lc' ≤ lc) (hr3 : cs + mc' ≤ mc) (hr4 : ss + ms' ≤ ms) (hs8 : (st.map (fun q => q.2.category)).sum ≤ 8) (hst0 : st0 = As.reverse ++ (ci, .ref h) :: st) {G1 : β → Mm → Option (α × Mm)} (hwr : ∀ r x, wr r ≠ some (.ref x)) (kk : ∀ r, Jg κ (wM κ) nL fin (cs + mc') (ss + ms') (pc + 3) l ((wr r).toList.map (fun v => ((0, v) : TV)) ++ st) (G1 r)) : Jg κ (wM κ) nL fin cs ss pc l st0 (bnd Fc G1) := by
  subst hst0
  obtain ⟨⟨p, l9, e, R, s, m, args, below, meth, c⟩, ⟨D, g, A, Q⟩, M0, ad0⟩ := κ
  obtain ⟨hx, hb, hml, hown, hts, hK, hA, hst9, hlk, hR⟩ := hc
  subst hR
  intro M ad H locs ls a M' hF hfin hW hl hst
  obtain ⟨hP, hD, hS, hM, hn, hC, hex, hea⟩ := id hW
  obtain ⟨r9, M1, q1, hF⟩ := bnd_some hF
  obtain ⟨hsA, hsT⟩ := okS_app hst
  have hst := okS_tl hsT
  have hsR : okW (wM ((p, l9, e, _, s, m, args, below, meth, c), (D, g, A, Q), M0, ad0)) M (ci, .ref h) := okS_hd hsT
  have hav : okS0 M ((ci, .ref h) :: As) := fun q hq => by
    rcases List.mem_cons.mp hq with rfl | hq
    · exact hsR
    · exact okS_rev hsA q hq
  have hMet := hct l9 g D ad H.size M r9 M1 hst9 q1 hav
  refine vq_call (va_runIN (b := ad h) (As := trS ad As) (rest := trS ad st) ⟨hx, hb, hml, hown, hts⟩ hMet ⟨va_cnB n hts (tw_y hc5) rfl rfl rfl (hC.2.2.2.2.2.2.2.2.1 _ hw1) (hts _ hw4) hmo ⟨hr1, hr2⟩, hyn, hts _ hw2⟩ ⟨wM0_blind, fun U hU hW9 => ⟨rfl, wM0_at hP hD hS hA hK hM hn hex.2.2 hC hU hW9⟩⟩ rfl (by show (trS ad As).length = n; unfold trS; rw [List.length_map]; exact hlen) hl.1.1 (trS_rev ad As ((ci, .ref h) :: st)) (lv_room (by rw [cat_tr]; exact hs8)) hd ⟨hr3, hr4⟩) hS (fun q _ h => wA_sub hD hS hA q h) (wA_sub hD hS hA) (fun t H1 locs1 ht hvm hB hz1 hk1 hS1 => ?_)
  obtain ⟨ad1, hP1, hD1, hM1, hn1, hx1, ha1⟩ := hB
  rw [ht] at hP1
  have e9 : trS ad1 ((wr r9).toList.map (fun v => ((0, v) : TV)) ++ st) = (wr r9).toList ++ trS ad st := by
    have e8 := trS_ex (κ := ((p, l9, e, _, s, m, args, below, meth, c), (D, g, A, Q), M0, ad0)) hn ha1 hst
    unfold trS at e8 ⊢
    rw [List.map_append, e8]
    cases hq : wr r9 with
    | none => rfl
    | some v =>
      cases v with
      | ref x => exact absurd hq (hwr r9 x)
      | _ => rfl
  rw [← e9]
  exact kk r9 M1 ad1 H1 locs1 ls a M' hF hfin ⟨hP1, hD1.weaken (fun _ q _ h => wA_sub hD hS hA q.1 h), hS1, hM1, hn1, hC.go (State.WarmedH.refl s) (fun _ _ _ => rfl) (fun _ z => z) (fun x hx => ha1 x (Or.inr hx)), hex.tr hx1, exA.tr hex.1 hea ha1⟩ (lvk_ex (κ := ((p, l9, e, _, s, m, args, below, meth, c), (D, g, A, Q), M0, ad0)) hn hx1 ha1 hl) (fun q hq => by
    rcases List.mem_append.mp hq with hq | hq
    · obtain ⟨v, hv, rfl⟩ := List.mem_map.mp hq
      intro x hx
      have hx : v = .ref x := hx
      subst hx
      cases hw9 : wr r9 with
      | none => rw [hw9] at hv; cases hv
      | some v9 =>
        rw [hw9] at hv
        have hv : (Value.ref x) = v9 := by simpa using hv
        exact absurd (hw9.trans (congrArg some hv.symm)) (hwr r9 x)
    · exact okS_ex (κ := ((p, l9, e, _, s, m, args, below, meth, c), (D, g, A, Q), M0, ad0)) hx1 hst q hq)
end JnRows
