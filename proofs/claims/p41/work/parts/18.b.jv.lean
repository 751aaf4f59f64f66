/-! ROWS THAT READ AND WRITE THE POOL, FOR PROGRAMS THAT TELL WHAT THEY MAKE -/
/-- of the kinds that lists hold -/
theorem okH_any {M : Mm} {kv h : Nat} (hk : kv = 13 ∨ kv = 16 ∨ kv = 28 ∨ kv = 53) (o : okH M kv h) : okH M 16 h := by
  rcases hk with rfl | rfl | rfl | rfl
  · obtain ⟨a, b⟩ := o.at (by omega)
    exact Or.inr (Or.inl ⟨rfl, Or.inl ⟨a, Or.inl b⟩⟩)
  · exact o
  · rcases o with ⟨a, _⟩ | ⟨a, _⟩ | ⟨a, _⟩ | ⟨a, _⟩ | ⟨a, _⟩ | ⟨_, a, _⟩ | ⟨_, b⟩
    iterate 6 (exfalso; omega)
    exact Or.inr (Or.inl ⟨rfl, Or.inr b⟩)
  · obtain ⟨a, b⟩ := o.at (by omega)
    exact Or.inr (Or.inl ⟨rfl, Or.inl ⟨a, Or.inr b⟩⟩)
theorem okH16 {M : Mm} {h : Nat} (o : okH M 16 h) : (h < Mn M ∧ (Mk M h = 13 ∨ Mk M h = 53)) ∨ (IB ≤ h ∧ h < IB + 256) := by
  rcases o with ⟨a, _⟩ | ⟨_, b⟩ | ⟨a, _⟩ | ⟨a, _⟩ | ⟨a, _⟩ | ⟨a, _⟩ | ⟨a, _⟩
  · exfalso; omega
  · exact b
  all_goals exfalso; omega
theorem okH17 {M : Mm} {h : Nat} (o : okH M 17 h) : (h < Mn M ∧ Mk M h = 15) ∨ h = EB := by
  rcases o with ⟨a, _⟩ | ⟨a, _⟩ | ⟨_, b⟩ | ⟨a, _⟩ | ⟨a, _⟩ | ⟨a, _⟩ | ⟨a, _⟩
  · exfalso; omega
  · exfalso; omega
  · exact b
  all_goals exfalso; omega
theorem okH28 {M : Mm} {h : Nat} (o : okH M 28 h) : IB ≤ h ∧ h < IB + 256 := by
  rcases o with ⟨a, _⟩ | ⟨a, _⟩ | ⟨a, _⟩ | ⟨a, _⟩ | ⟨a, _⟩ | ⟨_, a, _⟩ | ⟨_, b⟩
  iterate 6 (exfalso; omega)
  exact b
theorem okH28_of {M : Mm} {h : Nat} (b : IB ≤ h ∧ h < IB + 256) : okH M 28 h := Or.inr (Or.inr (Or.inr (Or.inr (Or.inr (Or.inr ⟨rfl, b⟩)))))
theorem okH24_of {M : Mm} {h : Nat} (b : SB + 200 ≤ h) : okH M 24 h := Or.inr (Or.inr (Or.inr (Or.inr (Or.inr (Or.inl ⟨by omega, by omega, b⟩)))))
/-- what the law's side knows of the start -/
theorem csl {ad : Nat → Nat} {A : Nat → Prop} {U : State} {X : Nat × (Nat → Int32)} (h : Cst ad A U X) : CsL ad A U X := h.2.2.2.2.2.2.2.2.2.2.2.2.2
theorem cs_gc {ad : Nat → Nat} {A : Nat → Prop} {U : State} {X : Nat × (Nat → Int32)} (h : Cst ad A U X) : va_Nw (.declares gcY) U := h.2.2.2.2.2.2.2.2.2.2.2.2.1
theorem cs_ca {ad : Nat → Nat} {A : Nat → Prop} {U : State} {X : Nat × (Nat → Int32)} (h : Cst ad A U X) {a b : String} (q : (a, b) ∈ caN) : va_Nw (.castable a b) U := (csl h).2.2.2.2.2.2.1 _ q
/-- a thing of a list can be stored in an Object[] -/
theorem any_of {ad : Nat → Nat} {A : Nat → Prop} {s : State} {X : Nat × (Nat → Int32)} {D : va_G} {g : Nat → ClassId} {M : Mm} {H : Heap} {locs : List Loc} {h : Nat} (hC : Cst ad A s X) (hK : va_K D vwCl (tyG g) s) (hP : va_P D vwCl (wl g ad M) H) (hS : va_S A s.heap H locs) (o : okH M 16 h) : va_Any objN s H (ad h) := by
  rcases okH16 o with ⟨b, c | c⟩ | b
  · have he := (wl_get g ad b).trans (congrArg (fun x => some (ad h, x)) (ce_int g ad c (Or.inr (Or.inr rfl))))
    have h1 : H[ad h]? = some (vp_cell (g 13) (Ml M h, .inl (Mi M h))) := hP _ _ he
    have k2 : s.vm.findClass ("[" ++ FieldType.toString .boolean) = some (g 13) := (hK.2 3 (g 13, .boolean) rfl).2
    obtain ⟨kC, hkC, -⟩ := Vm.findClass_spec k2
    exact ⟨_, h1, rfl, ⟨kC, hkC⟩, fun comp hcmp => vb_asgC (C := "[Z") (cs_ca hC (by decide)) comp (g 13) hcmp k2⟩
  · have he := (wl_get g ad b).trans (congrArg (fun x => some (ad h, x)) (ce_obj g ad c (Or.inr (by decide))))
    exact va_rAny hK hP he (r := (RX8, TX8, 4)) rfl (vb_asgC (cs_ca hC (by decide)))
  · obtain ⟨k, rfl⟩ : ∃ k, h = IB + k := ⟨h - IB, by omega⟩
    obtain ⟨cell, h1, h2, h3, h4⟩ := ((csl hC).2.2.1.2.2).1 k (by omega)
    obtain ⟨kC, hkC, -⟩ := Vm.findClass_spec h3
    have hlt : ad (IB + k) < s.heap.size := (Array.getElem?_eq_some_iff.mp h1).1
    refine ⟨cell, ?_, h2, ⟨kC, hkC⟩, fun comp hcmp => vb_asgC (C := "java/lang/Integer") (cs_ca hC (by decide)) comp cell.cls hcmp h3⟩
    rw [hS.2.1 _ hlt h4]; exact h1
section JvRows
variable {α : Type} {κ : Cx} {own : String} {cc : ByteArray} {nL fr mc ms lc : Nat} {fin : α → Mm → Prop} {pc : Nat} {l l' : List (Option TV)} {st : List TV} {F F1 F2 : Mm → Option (α × Mm × Nat × Nat)} {ci N : Nat} {C : String} {T : u_T} {ty : Nat → FieldType}

theorem N_getI (hc : Jc κ own cc nL fr mc ms lc) (hcl : ClOk ci C T N ty) {k index h : Nat} (hk : k < N) (hs : skd ci k = 100) {rf : String} (hlk9 : Cond.fieldLink own index rf (T k).2.1 (T k).2.2.1 ∈ TW) (hT : (T k).1 = rf ∨ Cond.sameField rf (T k).1 (T k).2.1 (T k).2.2.1 ∈ TW) (hd : decode cc pc = .ok (.getfield index, 3)) {G1 : Int32 → Mm → Option (α × Mm × Nat × Nat)} (kk : ∀ v, Jw κ (wM κ) nL fin (pc + 3) l ((0, .int v) :: st) (G1 v)) : Jw κ (wM κ) nL fin pc l ((ci, .ref h) :: st) (wb (gI h k) G1) := by
  obtain ⟨⟨p, l9, e, R, s, m, args, below, meth, c⟩, ⟨D, g, A, Q⟩, M0, ad0⟩ := κ
  obtain ⟨hx, hb, hml, hown, hts, hK, hA, hst9, hlk, hR⟩ := hc
  intro M ad H locs ls a M' kc ks cs ss hF hfin hcc hss hW hl hst
  obtain ⟨hP, hD, hS, hM, hn, hC, hex, hea⟩ := id hW
  obtain ⟨hc1, hin, -, -, hN, h9⟩ := hcl
  obtain ⟨hh, hkd9⟩ : h < Mn M ∧ Mk M h = ci := (okS_hd hst h rfl).at (by omega)
  have he := (wl_get g ad hh).trans (congrArg (fun x => some (ad h, x)) (ce_obj g ad hkd9 h9))
  have hf : (fl ad M h)[k]? = some (sv ad M h k) := fl_get ad (by rw [hkd9, hN]; exact hk)
  have hv : sv ad M h k = .int (Mi M h k) := by simp [sv, hkd9, hs]
  rw [hv] at hf
  refine va_get hx hb hts hin hown hK hP h he hc1 k hk (hts _ hlk9) (sm_of hts hT) hf hd ?_
  exact kk _ M ad H locs ls a M' kc ks cs ss hF hfin hcc hss hW hl (okS_cons okW_i (okS_tl hst))
theorem N_getNI (hc : Jc κ own cc nL fr mc ms lc) (hcl : ClOk ci C T N ty) {k index h : Nat} (hk : k < N) (hs : skd ci k = 100) {hst0 : String} (hlk9 : (own, index, (T k).1, (T k).2.1, (T k).2.2.1, hst0) ∈ nFw) (hd : decode cc pc = .ok (.getfield index, 3)) {G1 : Int32 → Mm → Option (α × Mm × Nat × Nat)} (kk : ∀ v, Jw κ (wM κ) nL fin (pc + 3) l ((0, .int v) :: st) (G1 v)) : Jw κ (wM κ) nL fin pc l ((ci, .ref h) :: st) (wb (gI h k) G1) := by
  obtain ⟨⟨p, l9, e, R, s, m, args, below, meth, c⟩, ⟨D, g, A, Q⟩, M0, ad0⟩ := κ
  obtain ⟨hx, hb, hml, hown, hts, hK, hA, hst9, hlk, hR⟩ := hc
  intro M ad H locs ls a M' kc ks cs ss hF hfin hcc hss hW hl hst
  obtain ⟨hP, hD, hS, hM, hn, hC, hex, hea⟩ := id hW
  obtain ⟨hc1, hin, -, -, hN, h9⟩ := hcl
  obtain ⟨hh, hkd9⟩ : h < Mn M ∧ Mk M h = ci := (okS_hd hst h rfl).at (by omega)
  have he := (wl_get g ad hh).trans (congrArg (fun x => some (ad h, x)) (ce_obj g ad hkd9 h9))
  have hf : (fl ad M h)[k]? = some (sv ad M h k) := fl_get ad (by rw [hkd9, hN]; exact hk)
  have hv : sv ad M h k = .int (Mi M h k) := by simp [sv, hkd9, hs]
  rw [hv] at hf
  refine va_getN (host := hst0) (ref := (T k).1) hx hb hts hin hown hK hP h he hc1 k hk (va_Nw.use rfl (hC.2.2.2.2.2.2.2.2.2.1 _ hlk9)) (fun _ z => z) hf hd ?_
  exact kk _ M ad H locs ls a M' kc ks cs ss hF hfin hcc hss hW hl (okS_cons okW_i (okS_tl hst))
theorem N_getA (hc : Jc κ own cc nL fr mc ms lc) (hcl : ClOk ci C T N ty) {k index h : Nat} (hk : k < N) {kd : Nat} (hs : skd ci k = kd) (hkd : kd < 100) {rf : String} (hlk9 : Cond.fieldLink own index rf (T k).2.1 (T k).2.2.1 ∈ TW) (hT : (T k).1 = rf ∨ Cond.sameField rf (T k).1 (T k).2.1 (T k).2.2.1 ∈ TW) (hd : decode cc pc = .ok (.getfield index, 3)) {G1 : Nat → Mm → Option (α × Mm × Nat × Nat)} (kk : ∀ v, Jw κ (wM κ) nL fin (pc + 3) l ((kd, .ref v) :: st) (G1 v)) : Jw κ (wM κ) nL fin pc l ((ci, .ref h) :: st) (wb (gA h k) G1) := by
  obtain ⟨⟨p, l9, e, R, s, m, args, below, meth, c⟩, ⟨D, g, A, Q⟩, M0, ad0⟩ := κ
  obtain ⟨hx, hb, hml, hown, hts, hK, hA, hst9, hlk, hR⟩ := hc
  intro M ad H locs ls a M' kc ks cs ss hF hfin hcc hss hW hl hst
  obtain ⟨hP, hD, hS, hM, hn, hC, hex, hea⟩ := id hW
  obtain ⟨hc1, hin, -, -, hN, h9⟩ := hcl
  obtain ⟨hh, hkd9⟩ : h < Mn M ∧ Mk M h = ci := (okS_hd hst h rfl).at (by omega)
  have he := (wl_get g ad hh).trans (congrArg (fun x => some (ad h, x)) (ce_obj g ad hkd9 h9))
  have hf : (fl ad M h)[k]? = some (sv ad M h k) := fl_get ad (by rw [hkd9, hN]; exact hk)
  have hv : sv ad M h k = va_rf ((Mr M h k).map ad) := by
    have q1 : ¬ kd = 100 := by omega
    have q2 : ¬ kd = 101 := by omega
    simp [sv, hkd9, hs, q1, q2]
  rw [hv] at hf
  refine va_get hx hb hts hin hown hK hP h he hc1 k hk (hts _ hlk9) (sm_of hts hT) hf hd ?_
  have hrk : rkd M h k = kd := by
    have q : ¬ ci = 14 := by omega
    have q5 : ¬ ci = 15 := by omega
    simp [rkd, hkd9, hs, q, q5]
  cases hr : Mr M h k with
  | none =>
    have : wb (gA h k) G1 M = none := by simp [wb, gA, hr]
    rw [this] at hF
    cases hF
  | some r =>
    have : wb (gA h k) G1 M = G1 r M := by simp [wb, gA, hr]
    rw [this] at hF
    have r1 := hM.1 h k r hh hr
    rw [hrk] at r1
    refine kk r M ad H locs ls a M' kc ks cs ss hF hfin hcc hss hW hl (okS_cons (fun z hz => ?_) (okS_tl hst))
    cases hz
    exact r1
theorem N_getNA (hc : Jc κ own cc nL fr mc ms lc) (hcl : ClOk ci C T N ty) {k index h : Nat} (hk : k < N) {kd : Nat} (hs : skd ci k = kd) (hkd : kd < 100) {hst0 : String} (hlk9 : (own, index, (T k).1, (T k).2.1, (T k).2.2.1, hst0) ∈ nFw) (hd : decode cc pc = .ok (.getfield index, 3)) {G1 : Nat → Mm → Option (α × Mm × Nat × Nat)} (kk : ∀ v, Jw κ (wM κ) nL fin (pc + 3) l ((kd, .ref v) :: st) (G1 v)) : Jw κ (wM κ) nL fin pc l ((ci, .ref h) :: st) (wb (gA h k) G1) := by
  obtain ⟨⟨p, l9, e, R, s, m, args, below, meth, c⟩, ⟨D, g, A, Q⟩, M0, ad0⟩ := κ
  obtain ⟨hx, hb, hml, hown, hts, hK, hA, hst9, hlk, hR⟩ := hc
  intro M ad H locs ls a M' kc ks cs ss hF hfin hcc hss hW hl hst
  obtain ⟨hP, hD, hS, hM, hn, hC, hex, hea⟩ := id hW
  obtain ⟨hc1, hin, -, -, hN, h9⟩ := hcl
  obtain ⟨hh, hkd9⟩ : h < Mn M ∧ Mk M h = ci := (okS_hd hst h rfl).at (by omega)
  have he := (wl_get g ad hh).trans (congrArg (fun x => some (ad h, x)) (ce_obj g ad hkd9 h9))
  have hf : (fl ad M h)[k]? = some (sv ad M h k) := fl_get ad (by rw [hkd9, hN]; exact hk)
  have hv : sv ad M h k = va_rf ((Mr M h k).map ad) := by
    have q1 : ¬ kd = 100 := by omega
    have q2 : ¬ kd = 101 := by omega
    simp [sv, hkd9, hs, q1, q2]
  rw [hv] at hf
  refine va_getN (host := hst0) (ref := (T k).1) hx hb hts hin hown hK hP h he hc1 k hk (va_Nw.use rfl (hC.2.2.2.2.2.2.2.2.2.1 _ hlk9)) (fun _ z => z) hf hd ?_
  have hrk : rkd M h k = kd := by
    have q : ¬ ci = 14 := by omega
    have q5 : ¬ ci = 15 := by omega
    simp [rkd, hkd9, hs, q, q5]
  cases hr : Mr M h k with
  | none =>
    have : wb (gA h k) G1 M = none := by simp [wb, gA, hr]
    rw [this] at hF
    cases hF
  | some r =>
    have : wb (gA h k) G1 M = G1 r M := by simp [wb, gA, hr]
    rw [this] at hF
    have r1 := hM.1 h k r hh hr
    rw [hrk] at r1
    refine kk r M ad H locs ls a M' kc ks cs ss hF hfin hcc hss hW hl (okS_cons (fun z hz => ?_) (okS_tl hst))
    cases hz
    exact r1
theorem N_putI (hc : Jc κ own cc nL fr mc ms lc) (hcl : ClOk ci C T N ty) {k index h : Nat} (hk : k < N) (hs : skd ci k = 100) (hty : ty k = .int) {rf : String} (hlk9 : Cond.fieldLink own index rf (T k).2.1 (T k).2.2.1 ∈ TW) (hT : (T k).1 = rf ∨ Cond.sameField rf (T k).1 (T k).2.1 (T k).2.2.1 ∈ TW) (hfn : (T k).2.2.2 = false) (hd : decode cc pc = .ok (.putfield index, 3)) {v : Int32} (kk : Jw κ (wM κ) nL fin (pc + 3) l st F) : Jw κ (wM κ) nL fin pc l ((0, .int v) :: (ci, .ref h) :: st) (wb (pI h k v) (fun _ => F)) := by
  obtain ⟨⟨p, l9, e, R, s, m, args, below, meth, c⟩, ⟨D, g, A, Q⟩, M0, ad0⟩ := κ
  obtain ⟨hx, hb, hml, hown, hts, hK, hA, hst9, hlk, hR⟩ := hc
  intro M ad H locs ls a M' kc ks cs ss hF hfin hcc hss hW hl hst
  obtain ⟨hP, hD, hS, hM, hn, hC, hex, hea⟩ := id hW
  obtain ⟨hc1, hin, htyo, hnm, hN, h9⟩ := hcl
  obtain ⟨hh, hkd9⟩ : h < Mn M ∧ Mk M h = ci := (okS_hd (okS_tl hst) h rfl).at (by omega)
  have he := (wl_get g ad hh).trans (congrArg (fun x => some (ad h, x)) (ce_obj g ad hkd9 h9))
  have hset : (wl g ad M).set h (ad h, .inr (kno ci, (fl ad M h).set k (.int v))) = wl g ad (sI M h k v) := by
    refine wl_set g ad (M' := sI M h k v) rfl ?_ (fun i hi => ce_ne_sI g ad M v hi)
    rw [ce_obj g ad (M := sI M h k v) (h := h) (c := ci) hkd9 h9]
    refine congrArg (fun x => Sum.inr (kno ci, x)) (fl_set ad (M := M) (M' := sI M h k v) (h := h) (k := k) rfl ?_ (fun j hj => ?_)).symm
    · have e1 : Mk (sI M h k v) h = ci := hkd9
      have e3 : Mi (sI M h k v) h k = v := up2_eq
      simp [sv, e1, hs, e3]
    · have e1 : Mk (sI M h k v) h = Mk M h := rfl
      have e2 : Mi (sI M h k v) h j = Mi M h j := up2_ne2 hj h
      simp only [sv, e1, e2]
      rfl
  refine va_put hx hb hts hin ty htyo hnm hown hK hP hD hS h he hc1 k hk (hts _ hlk9) (sm_of hts hT) hfn (ty := .int) (by rw [htyo k hk, hty]) rfl rfl (by rw [fl_len, hkd9, hN]; exact hk) hd (fun H1 locs1 hP1 hD1 hS1 => ?_)
  replace hP1 := (congrArg (fun z => va_P D vwCl z H1) hset).mp hP1
  replace hD1 := (congrArg (fun z => va_D A z) hset).mp hD1
  exact kk (sI M h k v) ad H1 locs1 ls a M' kc ks cs ss hF hfin hcc hss ⟨hP1, hD1, hS1, okM_sI hM h k v, hn, hC, hex.tr (ex_sI M h k v), hea⟩ (lvk_st (κ := ((p, l9, e, R, s, m, args, below, meth, c), (D, g, A, Q), M0, ad0)) (ex_sI M h k v) hl) (okS_ex (κ := ((p, l9, e, R, s, m, args, below, meth, c), (D, g, A, Q), M0, ad0)) (ex_sI M h k v) (okS_tl (okS_tl hst)))
theorem N_putNI (hc : Jc κ own cc nL fr mc ms lc) (hcl : ClOk ci C T N ty) {k index h : Nat} (hk : k < N) (hs : skd ci k = 100) (hty : ty k = .int) {hst0 : String} (hlk9 : (own, index, (T k).1, (T k).2.1, (T k).2.2.1, hst0) ∈ nFw) (hfn : (T k).2.2.2 = false) (hd : decode cc pc = .ok (.putfield index, 3)) {v : Int32} (kk : Jw κ (wM κ) nL fin (pc + 3) l st F) : Jw κ (wM κ) nL fin pc l ((0, .int v) :: (ci, .ref h) :: st) (wb (pI h k v) (fun _ => F)) := by
  obtain ⟨⟨p, l9, e, R, s, m, args, below, meth, c⟩, ⟨D, g, A, Q⟩, M0, ad0⟩ := κ
  obtain ⟨hx, hb, hml, hown, hts, hK, hA, hst9, hlk, hR⟩ := hc
  intro M ad H locs ls a M' kc ks cs ss hF hfin hcc hss hW hl hst
  obtain ⟨hP, hD, hS, hM, hn, hC, hex, hea⟩ := id hW
  obtain ⟨hc1, hin, htyo, hnm, hN, h9⟩ := hcl
  obtain ⟨hh, hkd9⟩ : h < Mn M ∧ Mk M h = ci := (okS_hd (okS_tl hst) h rfl).at (by omega)
  have he := (wl_get g ad hh).trans (congrArg (fun x => some (ad h, x)) (ce_obj g ad hkd9 h9))
  have hset : (wl g ad M).set h (ad h, .inr (kno ci, (fl ad M h).set k (.int v))) = wl g ad (sI M h k v) := by
    refine wl_set g ad (M' := sI M h k v) rfl ?_ (fun i hi => ce_ne_sI g ad M v hi)
    rw [ce_obj g ad (M := sI M h k v) (h := h) (c := ci) hkd9 h9]
    refine congrArg (fun x => Sum.inr (kno ci, x)) (fl_set ad (M := M) (M' := sI M h k v) (h := h) (k := k) rfl ?_ (fun j hj => ?_)).symm
    · have e1 : Mk (sI M h k v) h = ci := hkd9
      have e3 : Mi (sI M h k v) h k = v := up2_eq
      simp [sv, e1, hs, e3]
    · have e1 : Mk (sI M h k v) h = Mk M h := rfl
      have e2 : Mi (sI M h k v) h j = Mi M h j := up2_ne2 hj h
      simp only [sv, e1, e2]
      rfl
  refine va_putN (host := hst0) (ref := (T k).1) hx hb hts hin ty htyo hnm hown hK hP hD hS h he hc1 k hk (va_Nw.use rfl (hC.2.2.2.2.2.2.2.2.2.1 _ hlk9)) (fun _ z => z) hfn (ty := .int) (by rw [htyo k hk, hty]) rfl rfl (by rw [fl_len, hkd9, hN]; exact hk) hd (fun H1 locs1 hP1 hD1 hS1 => ?_)
  replace hP1 := (congrArg (fun z => va_P D vwCl z H1) hset).mp hP1
  replace hD1 := (congrArg (fun z => va_D A z) hset).mp hD1
  exact kk (sI M h k v) ad H1 locs1 ls a M' kc ks cs ss hF hfin hcc hss ⟨hP1, hD1, hS1, okM_sI hM h k v, hn, hC, hex.tr (ex_sI M h k v), hea⟩ (lvk_st (κ := ((p, l9, e, R, s, m, args, below, meth, c), (D, g, A, Q), M0, ad0)) (ex_sI M h k v) hl) (okS_ex (κ := ((p, l9, e, R, s, m, args, below, meth, c), (D, g, A, Q), M0, ad0)) (ex_sI M h k v) (okS_tl (okS_tl hst)))
theorem N_putIF (hc : Jc κ own cc nL fr mc ms lc) (hin2 : (match κ with | ((_, _, _, _, _, _, _, _, meth, _), _, _) => meth.name) = "<init>") (hcl : ClOk ci C T N ty) {k index h : Nat} (hk : k < N) (hs : skd ci k = 100) (hty : ty k = .int) (hlk9 : Cond.fieldLink own index C (T k).2.1 (T k).2.2.1 ∈ TW) (hT : (T k).1 = C) (hfn : (T k).2.2.2 = true) (hCo : C = own) (hd : decode cc pc = .ok (.putfield index, 3)) {v : Int32} (kk : Jw κ (wM κ) nL fin (pc + 3) l st F) : Jw κ (wM κ) nL fin pc l ((0, .int v) :: (ci, .ref h) :: st) (wb (pI h k v) (fun _ => F)) := by
  obtain ⟨⟨p, l9, e, R, s, m, args, below, meth, c⟩, ⟨D, g, A, Q⟩, M0, ad0⟩ := κ
  obtain ⟨hx, hb, hml, hown, hts, hK, hA, hst9, hlk, hR⟩ := hc
  intro M ad H locs ls a M' kc ks cs ss hF hfin hcc hss hW hl hst
  obtain ⟨hP, hD, hS, hM, hn, hC, hex, hea⟩ := id hW
  obtain ⟨hc1, hin, htyo, hnm, hN, h9⟩ := hcl
  obtain ⟨hh, hkd9⟩ : h < Mn M ∧ Mk M h = ci := (okS_hd (okS_tl hst) h rfl).at (by omega)
  have he := (wl_get g ad hh).trans (congrArg (fun x => some (ad h, x)) (ce_obj g ad hkd9 h9))
  have hset : (wl g ad M).set h (ad h, .inr (kno ci, (fl ad M h).set k (.int v))) = wl g ad (sI M h k v) := by
    refine wl_set g ad (M' := sI M h k v) rfl ?_ (fun i hi => ce_ne_sI g ad M v hi)
    rw [ce_obj g ad (M := sI M h k v) (h := h) (c := ci) hkd9 h9]
    refine congrArg (fun x => Sum.inr (kno ci, x)) (fl_set ad (M := M) (M' := sI M h k v) (h := h) (k := k) rfl ?_ (fun j hj => ?_)).symm
    · have e1 : Mk (sI M h k v) h = ci := hkd9
      have e3 : Mi (sI M h k v) h k = v := up2_eq
      simp [sv, e1, hs, e3]
    · have e1 : Mk (sI M h k v) h = Mk M h := rfl
      have e2 : Mi (sI M h k v) h j = Mi M h j := up2_ne2 hj h
      simp only [sv, e1, e2]
      rfl
  refine va_putF hx hb hts hin ty htyo hnm hown hK hP hD hS h he hc1 k hk (hts _ hlk9) (by rw [hT]; exact fun _ z => z) hfn hin2 (by rw [hT]; exact hCo) (ty := .int) (by rw [htyo k hk, hty]) rfl rfl (by rw [fl_len, hkd9, hN]; exact hk) hd (fun H1 locs1 hP1 hD1 hS1 => ?_)
  replace hP1 := (congrArg (fun z => va_P D vwCl z H1) hset).mp hP1
  replace hD1 := (congrArg (fun z => va_D A z) hset).mp hD1
  exact kk (sI M h k v) ad H1 locs1 ls a M' kc ks cs ss hF hfin hcc hss ⟨hP1, hD1, hS1, okM_sI hM h k v, hn, hC, hex.tr (ex_sI M h k v), hea⟩ (lvk_st (κ := ((p, l9, e, R, s, m, args, below, meth, c), (D, g, A, Q), M0, ad0)) (ex_sI M h k v) hl) (okS_ex (κ := ((p, l9, e, R, s, m, args, below, meth, c), (D, g, A, Q), M0, ad0)) (ex_sI M h k v) (okS_tl (okS_tl hst)))
theorem N_putZ (hc : Jc κ own cc nL fr mc ms lc) (hcl : ClOk ci C T N ty) {k index h : Nat} (hk : k < N) (hs : skd ci k = 100) {t9 : FieldType} (hty : ty k = t9) (ht9 : t9 = .boolean ∨ t9 = .byte) {rf : String} (hlk9 : Cond.fieldLink own index rf (T k).2.1 (T k).2.2.1 ∈ TW) (hT : (T k).1 = rf ∨ Cond.sameField rf (T k).1 (T k).2.1 (T k).2.2.1 ∈ TW) (hfn : (T k).2.2.2 = false) (hd : decode cc pc = .ok (.putfield index, 3)) {v : Int32} (kk : Jw κ (wM κ) nL fin (pc + 3) l st F) : Jw κ (wM κ) nL fin pc l ((0, .int v) :: (ci, .ref h) :: st) (wb (pZ h k v) (fun _ => F)) := by
  obtain ⟨⟨p, l9, e, R, s, m, args, below, meth, c⟩, ⟨D, g, A, Q⟩, M0, ad0⟩ := κ
  obtain ⟨hx, hb, hml, hown, hts, hK, hA, hst9, hlk, hR⟩ := hc
  intro M ad H locs ls a M' kc ks cs ss hF hfin hcc hss hW hl hst
  obtain ⟨hP, hD, hS, hM, hn, hC, hex, hea⟩ := id hW
  obtain ⟨hc1, hin, htyo, hnm, hN, h9⟩ := hcl
  obtain ⟨hh, hkd9⟩ : h < Mn M ∧ Mk M h = ci := (okS_hd (okS_tl hst) h rfl).at (by omega)
  have he := (wl_get g ad hh).trans (congrArg (fun x => some (ad h, x)) (ce_obj g ad hkd9 h9))
  obtain ⟨u9, M1, h1, hF⟩ := wb_some hF
  have hv01 : (v == 0 || v == 1) = true := by
    unfold pZ at h1
    split at h1
    · assumption
    · cases h1
  have hM1 : M1 = sI M h k v := by
    unfold pZ at h1
    rw [if_pos hv01] at h1
    cases h1
    rfl
  subst hM1
  have hv2 : v = 0 ∨ v = 1 := by simpa using hv01
  have hset : (wl g ad M).set h (ad h, .inr (kno ci, (fl ad M h).set k (.int v))) = wl g ad (sI M h k v) := by
    refine wl_set g ad (M' := sI M h k v) rfl ?_ (fun i hi => ce_ne_sI g ad M v hi)
    rw [ce_obj g ad (M := sI M h k v) (h := h) (c := ci) hkd9 h9]
    refine congrArg (fun x => Sum.inr (kno ci, x)) (fl_set ad (M := M) (M' := sI M h k v) (h := h) (k := k) rfl ?_ (fun j hj => ?_)).symm
    · have e1 : Mk (sI M h k v) h = ci := hkd9
      have e3 : Mi (sI M h k v) h k = v := up2_eq
      simp [sv, e1, hs, e3]
    · have e1 : Mk (sI M h k v) h = Mk M h := rfl
      have e2 : Mi (sI M h k v) h j = Mi M h j := up2_ne2 hj h
      simp only [sv, e1, e2]
      rfl
  refine va_put hx hb hts hin ty htyo hnm hown hK hP hD hS h he hc1 k hk (hts _ hlk9) (sm_of hts hT) hfn (ty := t9) (by rw [htyo k hk, hty]) (by rcases ht9 with rfl | rfl <;> rcases hv2 with rfl | rfl <;> rfl) (by rcases ht9 with rfl | rfl <;> rcases hv2 with rfl | rfl <;> rfl) (by rw [fl_len, hkd9, hN]; exact hk) hd (fun H1 locs1 hP1 hD1 hS1 => ?_)
  replace hP1 := (congrArg (fun z => va_P D vwCl z H1) hset).mp hP1
  replace hD1 := (congrArg (fun z => va_D A z) hset).mp hD1
  exact kk (sI M h k v) ad H1 locs1 ls a M' kc ks cs ss hF hfin hcc hss ⟨hP1, hD1, hS1, okM_sI hM h k v, hn, hC, hex.tr (ex_sI M h k v), hea⟩ (lvk_st (κ := ((p, l9, e, R, s, m, args, below, meth, c), (D, g, A, Q), M0, ad0)) (ex_sI M h k v) hl) (okS_ex (κ := ((p, l9, e, R, s, m, args, below, meth, c), (D, g, A, Q), M0, ad0)) (ex_sI M h k v) (okS_tl (okS_tl hst)))
theorem N_putZF (hc : Jc κ own cc nL fr mc ms lc) (hin2 : (match κ with | ((_, _, _, _, _, _, _, _, meth, _), _, _) => meth.name) = "<init>") (hcl : ClOk ci C T N ty) {k index h : Nat} (hk : k < N) (hs : skd ci k = 100) {t9 : FieldType} (hty : ty k = t9) (ht9 : t9 = .boolean ∨ t9 = .byte) (hlk9 : Cond.fieldLink own index C (T k).2.1 (T k).2.2.1 ∈ TW) (hT : (T k).1 = C) (hfn : (T k).2.2.2 = true) (hCo : C = own) (hd : decode cc pc = .ok (.putfield index, 3)) {v : Int32} (kk : Jw κ (wM κ) nL fin (pc + 3) l st F) : Jw κ (wM κ) nL fin pc l ((0, .int v) :: (ci, .ref h) :: st) (wb (pZ h k v) (fun _ => F)) := by
  obtain ⟨⟨p, l9, e, R, s, m, args, below, meth, c⟩, ⟨D, g, A, Q⟩, M0, ad0⟩ := κ
  obtain ⟨hx, hb, hml, hown, hts, hK, hA, hst9, hlk, hR⟩ := hc
  intro M ad H locs ls a M' kc ks cs ss hF hfin hcc hss hW hl hst
  obtain ⟨hP, hD, hS, hM, hn, hC, hex, hea⟩ := id hW
  obtain ⟨hc1, hin, htyo, hnm, hN, h9⟩ := hcl
  obtain ⟨hh, hkd9⟩ : h < Mn M ∧ Mk M h = ci := (okS_hd (okS_tl hst) h rfl).at (by omega)
  have he := (wl_get g ad hh).trans (congrArg (fun x => some (ad h, x)) (ce_obj g ad hkd9 h9))
  obtain ⟨u9, M1, h1, hF⟩ := wb_some hF
  have hv01 : (v == 0 || v == 1) = true := by
    unfold pZ at h1
    split at h1
    · assumption
    · cases h1
  have hM1 : M1 = sI M h k v := by
    unfold pZ at h1
    rw [if_pos hv01] at h1
    cases h1
    rfl
  subst hM1
  have hv2 : v = 0 ∨ v = 1 := by simpa using hv01
  have hset : (wl g ad M).set h (ad h, .inr (kno ci, (fl ad M h).set k (.int v))) = wl g ad (sI M h k v) := by
    refine wl_set g ad (M' := sI M h k v) rfl ?_ (fun i hi => ce_ne_sI g ad M v hi)
    rw [ce_obj g ad (M := sI M h k v) (h := h) (c := ci) hkd9 h9]
    refine congrArg (fun x => Sum.inr (kno ci, x)) (fl_set ad (M := M) (M' := sI M h k v) (h := h) (k := k) rfl ?_ (fun j hj => ?_)).symm
    · have e1 : Mk (sI M h k v) h = ci := hkd9
      have e3 : Mi (sI M h k v) h k = v := up2_eq
      simp [sv, e1, hs, e3]
    · have e1 : Mk (sI M h k v) h = Mk M h := rfl
      have e2 : Mi (sI M h k v) h j = Mi M h j := up2_ne2 hj h
      simp only [sv, e1, e2]
      rfl
  refine va_putF hx hb hts hin ty htyo hnm hown hK hP hD hS h he hc1 k hk (hts _ hlk9) (by rw [hT]; exact fun _ z => z) hfn hin2 (by rw [hT]; exact hCo) (ty := t9) (by rw [htyo k hk, hty]) (by rcases ht9 with rfl | rfl <;> rcases hv2 with rfl | rfl <;> rfl) (by rcases ht9 with rfl | rfl <;> rcases hv2 with rfl | rfl <;> rfl) (by rw [fl_len, hkd9, hN]; exact hk) hd (fun H1 locs1 hP1 hD1 hS1 => ?_)
  replace hP1 := (congrArg (fun z => va_P D vwCl z H1) hset).mp hP1
  replace hD1 := (congrArg (fun z => va_D A z) hset).mp hD1
  exact kk (sI M h k v) ad H1 locs1 ls a M' kc ks cs ss hF hfin hcc hss ⟨hP1, hD1, hS1, okM_sI hM h k v, hn, hC, hex.tr (ex_sI M h k v), hea⟩ (lvk_st (κ := ((p, l9, e, R, s, m, args, below, meth, c), (D, g, A, Q), M0, ad0)) (ex_sI M h k v) hl) (okS_ex (κ := ((p, l9, e, R, s, m, args, below, meth, c), (D, g, A, Q), M0, ad0)) (ex_sI M h k v) (okS_tl (okS_tl hst)))
theorem N_putAF (hc : Jc κ own cc nL fr mc ms lc) (hin2 : (match κ with | ((_, _, _, _, _, _, _, _, meth, _), _, _) => meth.name) = "<init>") (hcl : ClOk ci C T N ty) {k index h : Nat} (hk : k < N) {kd v : Nat} (hs : skd ci k = kd) (hkl : kd < 100) (hfit : ∀ q, fits (ty k) (.ref q) = true) (hnar : ∀ q, narrow (ty k) (.ref q) = .ref q) (hlk9 : Cond.fieldLink own index C (T k).2.1 (T k).2.2.1 ∈ TW) (hT : (T k).1 = C) (hCo : C = own) (hfn : (T k).2.2.2 = true) (hd : decode cc pc = .ok (.putfield index, 3)) (kk : Jw κ (wM κ) nL fin (pc + 3) l st F) : Jw κ (wM κ) nL fin pc l ((kd, .ref v) :: (ci, .ref h) :: st) (wb (pA h k v) (fun _ => F)) := by
  obtain ⟨⟨p, l9, e, R, s, m, args, below, meth, c⟩, ⟨D, g, A, Q⟩, M0, ad0⟩ := κ
  obtain ⟨hx, hb, hml, hown, hts, hK, hA, hst9, hlk, hR⟩ := hc
  intro M ad H locs ls a M' kc ks cs ss hF hfin hcc hss hW hl hst
  obtain ⟨hP, hD, hS, hM, hn, hC, hex, hea⟩ := id hW
  obtain ⟨hc1, hin, htyo, hnm, hN, h9⟩ := hcl
  obtain ⟨hh, hkd9⟩ : h < Mn M ∧ Mk M h = ci := (okS_hd (okS_tl hst) h rfl).at (by omega)
  have hv9 : okH M kd v := okS_hd hst v rfl
  have he := (wl_get g ad hh).trans (congrArg (fun x => some (ad h, x)) (ce_obj g ad hkd9 h9))
  have q1 : ¬ kd = 100 := by omega
  have q2 : ¬ kd = 101 := by omega
  have hset : (wl g ad M).set h (ad h, .inr (kno ci, (fl ad M h).set k (.ref (ad v)))) = wl g ad (sR M h k (some v)) := by
    refine wl_set g ad (M' := sR M h k (some v)) rfl ?_ (fun i hi => ce_ne_sR g ad M (some v) hi)
    rw [ce_obj g ad (M := sR M h k (some v)) (h := h) (c := ci) hkd9 h9]
    refine congrArg (fun x => Sum.inr (kno ci, x)) (fl_set ad (M := M) (M' := sR M h k (some v)) (h := h) (k := k) rfl ?_ (fun j hj => ?_)).symm
    · have e1 : Mk (sR M h k (some v)) h = ci := hkd9
      have e2 : Mr (sR M h k (some v)) h k = some v := up2_eq
      simp only [sv, e1, hs, e2, if_neg q1, if_neg q2]
      rfl
    · have e1 : Mk (sR M h k (some v)) h = Mk M h := rfl
      have e2 : Mr (sR M h k (some v)) h j = Mr M h j := up2_ne2 hj h
      simp only [sv, e1, e2]
      rfl
  refine va_putF hx hb hts hin ty htyo hnm hown hK hP hD hS h he hc1 k hk (hts _ hlk9) (by rw [hT]; exact fun _ z => z) hfn hin2 (by rw [hT]; exact hCo) (ty := ty k) (htyo k hk) (hnar _) (hfit _) (by rw [fl_len, hkd9, hN]; exact hk) hd (fun H1 locs1 hP1 hD1 hS1 => ?_)
  replace hP1 := (congrArg (fun z => va_P D vwCl z H1) hset).mp hP1
  replace hD1 := (congrArg (fun z => va_D A z) hset).mp hD1
  have hrk : rkd M h k = kd := by
    have q : ¬ ci = 14 := by omega
    have q5 : ¬ ci = 15 := by omega
    simp [rkd, hkd9, hs, q, q5]
  exact kk (sR M h k (some v)) ad H1 locs1 ls a M' kc ks cs ss hF hfin hcc hss ⟨hP1, hD1, hS1, okM_sR hM (fun r hr => by cases hr; rw [hrk]; exact hv9), hn, hC, hex.tr (ex_sR M h k (some v)), hea⟩ (lvk_st (κ := ((p, l9, e, R, s, m, args, below, meth, c), (D, g, A, Q), M0, ad0)) (ex_sR M h k (some v)) hl) (okS_ex (κ := ((p, l9, e, R, s, m, args, below, meth, c), (D, g, A, Q), M0, ad0)) (ex_sR M h k (some v)) (okS_tl (okS_tl hst)))
theorem N_putA (hc : Jc κ own cc nL fr mc ms lc) (hcl : ClOk ci C T N ty) {k index h : Nat} (hk : k < N) {kd v : Nat} (hs : skd ci k = kd) (hkl : kd < 100) (hfit : ∀ q, fits (ty k) (.ref q) = true) (hnar : ∀ q, narrow (ty k) (.ref q) = .ref q) {rf : String} (hlk9 : Cond.fieldLink own index rf (T k).2.1 (T k).2.2.1 ∈ TW) (hT : (T k).1 = rf ∨ Cond.sameField rf (T k).1 (T k).2.1 (T k).2.2.1 ∈ TW) (hfn : (T k).2.2.2 = false) (hd : decode cc pc = .ok (.putfield index, 3)) (kk : Jw κ (wM κ) nL fin (pc + 3) l st F) : Jw κ (wM κ) nL fin pc l ((kd, .ref v) :: (ci, .ref h) :: st) (wb (pA h k v) (fun _ => F)) := by
  obtain ⟨⟨p, l9, e, R, s, m, args, below, meth, c⟩, ⟨D, g, A, Q⟩, M0, ad0⟩ := κ
  obtain ⟨hx, hb, hml, hown, hts, hK, hA, hst9, hlk, hR⟩ := hc
  intro M ad H locs ls a M' kc ks cs ss hF hfin hcc hss hW hl hst
  obtain ⟨hP, hD, hS, hM, hn, hC, hex, hea⟩ := id hW
  obtain ⟨hc1, hin, htyo, hnm, hN, h9⟩ := hcl
  obtain ⟨hh, hkd9⟩ : h < Mn M ∧ Mk M h = ci := (okS_hd (okS_tl hst) h rfl).at (by omega)
  have hv9 : okH M kd v := okS_hd hst v rfl
  have he := (wl_get g ad hh).trans (congrArg (fun x => some (ad h, x)) (ce_obj g ad hkd9 h9))
  have q1 : ¬ kd = 100 := by omega
  have q2 : ¬ kd = 101 := by omega
  have hset : (wl g ad M).set h (ad h, .inr (kno ci, (fl ad M h).set k (.ref (ad v)))) = wl g ad (sR M h k (some v)) := by
    refine wl_set g ad (M' := sR M h k (some v)) rfl ?_ (fun i hi => ce_ne_sR g ad M (some v) hi)
    rw [ce_obj g ad (M := sR M h k (some v)) (h := h) (c := ci) hkd9 h9]
    refine congrArg (fun x => Sum.inr (kno ci, x)) (fl_set ad (M := M) (M' := sR M h k (some v)) (h := h) (k := k) rfl ?_ (fun j hj => ?_)).symm
    · have e1 : Mk (sR M h k (some v)) h = ci := hkd9
      have e2 : Mr (sR M h k (some v)) h k = some v := up2_eq
      simp only [sv, e1, hs, e2, if_neg q1, if_neg q2]
      rfl
    · have e1 : Mk (sR M h k (some v)) h = Mk M h := rfl
      have e2 : Mr (sR M h k (some v)) h j = Mr M h j := up2_ne2 hj h
      simp only [sv, e1, e2]
      rfl
  refine va_put hx hb hts hin ty htyo hnm hown hK hP hD hS h he hc1 k hk (hts _ hlk9) (sm_of hts hT) hfn (ty := ty k) (htyo k hk) (hnar _) (hfit _) (by rw [fl_len, hkd9, hN]; exact hk) hd (fun H1 locs1 hP1 hD1 hS1 => ?_)
  replace hP1 := (congrArg (fun z => va_P D vwCl z H1) hset).mp hP1
  replace hD1 := (congrArg (fun z => va_D A z) hset).mp hD1
  have hrk : rkd M h k = kd := by
    have q : ¬ ci = 14 := by omega
    have q5 : ¬ ci = 15 := by omega
    simp [rkd, hkd9, hs, q, q5]
  exact kk (sR M h k (some v)) ad H1 locs1 ls a M' kc ks cs ss hF hfin hcc hss ⟨hP1, hD1, hS1, okM_sR hM (fun r hr => by cases hr; rw [hrk]; exact hv9), hn, hC, hex.tr (ex_sR M h k (some v)), hea⟩ (lvk_st (κ := ((p, l9, e, R, s, m, args, below, meth, c), (D, g, A, Q), M0, ad0)) (ex_sR M h k (some v)) hl) (okS_ex (κ := ((p, l9, e, R, s, m, args, below, meth, c), (D, g, A, Q), M0, ad0)) (ex_sR M h k (some v)) (okS_tl (okS_tl hst)))
theorem N_putNA (hc : Jc κ own cc nL fr mc ms lc) (hcl : ClOk ci C T N ty) {k index h : Nat} (hk : k < N) {kd v : Nat} (hs : skd ci k = kd) (hkl : kd < 100) (hfit : ∀ q, fits (ty k) (.ref q) = true) (hnar : ∀ q, narrow (ty k) (.ref q) = .ref q) {hst0 : String} (hlk9 : (own, index, (T k).1, (T k).2.1, (T k).2.2.1, hst0) ∈ nFw) (hfn : (T k).2.2.2 = false) (hd : decode cc pc = .ok (.putfield index, 3)) (kk : Jw κ (wM κ) nL fin (pc + 3) l st F) : Jw κ (wM κ) nL fin pc l ((kd, .ref v) :: (ci, .ref h) :: st) (wb (pA h k v) (fun _ => F)) := by
  obtain ⟨⟨p, l9, e, R, s, m, args, below, meth, c⟩, ⟨D, g, A, Q⟩, M0, ad0⟩ := κ
  obtain ⟨hx, hb, hml, hown, hts, hK, hA, hst9, hlk, hR⟩ := hc
  intro M ad H locs ls a M' kc ks cs ss hF hfin hcc hss hW hl hst
  obtain ⟨hP, hD, hS, hM, hn, hC, hex, hea⟩ := id hW
  obtain ⟨hc1, hin, htyo, hnm, hN, h9⟩ := hcl
  obtain ⟨hh, hkd9⟩ : h < Mn M ∧ Mk M h = ci := (okS_hd (okS_tl hst) h rfl).at (by omega)
  have hv9 : okH M kd v := okS_hd hst v rfl
  have he := (wl_get g ad hh).trans (congrArg (fun x => some (ad h, x)) (ce_obj g ad hkd9 h9))
  have q1 : ¬ kd = 100 := by omega
  have q2 : ¬ kd = 101 := by omega
  have hset : (wl g ad M).set h (ad h, .inr (kno ci, (fl ad M h).set k (.ref (ad v)))) = wl g ad (sR M h k (some v)) := by
    refine wl_set g ad (M' := sR M h k (some v)) rfl ?_ (fun i hi => ce_ne_sR g ad M (some v) hi)
    rw [ce_obj g ad (M := sR M h k (some v)) (h := h) (c := ci) hkd9 h9]
    refine congrArg (fun x => Sum.inr (kno ci, x)) (fl_set ad (M := M) (M' := sR M h k (some v)) (h := h) (k := k) rfl ?_ (fun j hj => ?_)).symm
    · have e1 : Mk (sR M h k (some v)) h = ci := hkd9
      have e2 : Mr (sR M h k (some v)) h k = some v := up2_eq
      simp only [sv, e1, hs, e2, if_neg q1, if_neg q2]
      rfl
    · have e1 : Mk (sR M h k (some v)) h = Mk M h := rfl
      have e2 : Mr (sR M h k (some v)) h j = Mr M h j := up2_ne2 hj h
      simp only [sv, e1, e2]
      rfl
  refine va_putN (host := hst0) (ref := (T k).1) hx hb hts hin ty htyo hnm hown hK hP hD hS h he hc1 k hk (va_Nw.use rfl (hC.2.2.2.2.2.2.2.2.2.1 _ hlk9)) (fun _ z => z) hfn (ty := ty k) (htyo k hk) (hnar _) (hfit _) (by rw [fl_len, hkd9, hN]; exact hk) hd (fun H1 locs1 hP1 hD1 hS1 => ?_)
  replace hP1 := (congrArg (fun z => va_P D vwCl z H1) hset).mp hP1
  replace hD1 := (congrArg (fun z => va_D A z) hset).mp hD1
  have hrk : rkd M h k = kd := by
    have q : ¬ ci = 14 := by omega
    have q5 : ¬ ci = 15 := by omega
    simp [rkd, hkd9, hs, q, q5]
  exact kk (sR M h k (some v)) ad H1 locs1 ls a M' kc ks cs ss hF hfin hcc hss ⟨hP1, hD1, hS1, okM_sR hM (fun r hr => by cases hr; rw [hrk]; exact hv9), hn, hC, hex.tr (ex_sR M h k (some v)), hea⟩ (lvk_st (κ := ((p, l9, e, R, s, m, args, below, meth, c), (D, g, A, Q), M0, ad0)) (ex_sR M h k (some v)) hl) (okS_ex (κ := ((p, l9, e, R, s, m, args, below, meth, c), (D, g, A, Q), M0, ad0)) (ex_sR M h k (some v)) (okS_tl (okS_tl hst)))
theorem N_iald (hc : Jc κ own cc nL fr mc ms lc) (hd : decode cc pc = .ok (.iaload, 1)) {h : Nat} {i : Int32} {G1 : Int32 → Mm → Option (α × Mm × Nat × Nat)} (kk : ∀ v, Jw κ (wM κ) nL fin (pc + 1) l ((0, .int v) :: st) (G1 v)) : Jw κ (wM κ) nL fin pc l ((0, .int i) :: (11, .ref h) :: st) (wb (lI h i) G1) := by
  obtain ⟨⟨p, l9, e, R, s, m, args, below, meth, c⟩, ⟨D, g, A, Q⟩, M0, ad0⟩ := κ
  obtain ⟨hx, hb, hml, hown, hts, hK, hA, hst9, hlk, hR⟩ := hc
  intro M ad H locs ls a M' kc ks cs ss hF hfin hcc hss hW hl hst
  obtain ⟨hP, hD, hS, hM, hn, hC, hex, hea⟩ := id hW
  obtain ⟨hh, hkd9⟩ : h < Mn M ∧ Mk M h = 11 := (okS_hd (okS_tl hst) h rfl).at (by omega)
  have he := (wl_get g ad hh).trans (congrArg (fun x => some (ad h, x)) (ce_int g ad hkd9 (Or.inr (Or.inl rfl))))
  obtain ⟨r, M1, h1, hF⟩ := wb_some hF
  unfold lI at h1
  split at h1
  case isFalse => cases h1
  case isTrue hin =>
  cases h1
  refine va_iald hx hb hK hP h 1 he rfl (vpB_in hin) hd ?_
  exact kk _ M ad H locs ls a M' kc ks cs ss hF hfin hcc hss hW hl (okS_cons okW_i (okS_tl (okS_tl hst)))
theorem N_bald (hc : Jc κ own cc nL fr mc ms lc) (hd : decode cc pc = .ok (.baload, 1)) {h : Nat} {i : Int32} {G1 : Int32 → Mm → Option (α × Mm × Nat × Nat)} (kk : ∀ v, Jw κ (wM κ) nL fin (pc + 1) l ((0, .int v) :: st) (G1 v)) : Jw κ (wM κ) nL fin pc l ((0, .int i) :: (10, .ref h) :: st) (wb (lI h i) G1) := by
  obtain ⟨⟨p, l9, e, R, s, m, args, below, meth, c⟩, ⟨D, g, A, Q⟩, M0, ad0⟩ := κ
  obtain ⟨hx, hb, hml, hown, hts, hK, hA, hst9, hlk, hR⟩ := hc
  intro M ad H locs ls a M' kc ks cs ss hF hfin hcc hss hW hl hst
  obtain ⟨hP, hD, hS, hM, hn, hC, hex, hea⟩ := id hW
  obtain ⟨hh, hkd9⟩ : h < Mn M ∧ Mk M h = 10 := (okS_hd (okS_tl hst) h rfl).at (by omega)
  have he := (wl_get g ad hh).trans (congrArg (fun x => some (ad h, x)) (ce_int g ad hkd9 (Or.inl rfl)))
  obtain ⟨r, M1, h1, hF⟩ := wb_some hF
  unfold lI at h1
  split at h1
  case isFalse => cases h1
  case isTrue hin =>
  cases h1
  refine va_bald hx hb hK hP h 0 he rfl (vpB_in hin) hd ?_
  exact kk _ M ad H locs ls a M' kc ks cs ss hF hfin hcc hss hW hl (okS_cons okW_i (okS_tl (okS_tl hst)))
theorem N_zald (hc : Jc κ own cc nL fr mc ms lc) (hd : decode cc pc = .ok (.baload, 1)) {h : Nat} {i : Int32} {G1 : Int32 → Mm → Option (α × Mm × Nat × Nat)} (kk : ∀ v, Jw κ (wM κ) nL fin (pc + 1) l ((0, .int v) :: st) (G1 v)) : Jw κ (wM κ) nL fin pc l ((0, .int i) :: (13, .ref h) :: st) (wb (lI h i) G1) := by
  obtain ⟨⟨p, l9, e, R, s, m, args, below, meth, c⟩, ⟨D, g, A, Q⟩, M0, ad0⟩ := κ
  obtain ⟨hx, hb, hml, hown, hts, hK, hA, hst9, hlk, hR⟩ := hc
  intro M ad H locs ls a M' kc ks cs ss hF hfin hcc hss hW hl hst
  obtain ⟨hP, hD, hS, hM, hn, hC, hex, hea⟩ := id hW
  obtain ⟨hh, hkd9⟩ : h < Mn M ∧ Mk M h = 13 := (okS_hd (okS_tl hst) h rfl).at (by omega)
  have he := (wl_get g ad hh).trans (congrArg (fun x => some (ad h, x)) (ce_int g ad hkd9 (Or.inr (Or.inr rfl))))
  obtain ⟨r, M1, h1, hF⟩ := wb_some hF
  unfold lI at h1
  split at h1
  case isFalse => cases h1
  case isTrue hin =>
  cases h1
  refine va_zald hx hb hK hP h 3 he rfl (vpB_in hin) hd ?_
  exact kk _ M ad H locs ls a M' kc ks cs ss hF hfin hcc hss hW hl (okS_cons okW_i (okS_tl (okS_tl hst)))
theorem N_iast (hc : Jc κ own cc nL fr mc ms lc) (hd : decode cc pc = .ok (.iastore, 1)) {h : Nat} {i : Int32} {v : Int32} (kk : Jw κ (wM κ) nL fin (pc + 1) l st F) : Jw κ (wM κ) nL fin pc l ((0, .int v) :: (0, .int i) :: (11, .ref h) :: st) (wb (aI h i v) (fun _ => F)) := by
  obtain ⟨⟨p, l9, e, R, s, m, args, below, meth, c⟩, ⟨D, g, A, Q⟩, M0, ad0⟩ := κ
  obtain ⟨hx, hb, hml, hown, hts, hK, hA, hst9, hlk, hR⟩ := hc
  intro M ad H locs ls a M' kc ks cs ss hF hfin hcc hss hW hl hst
  obtain ⟨hP, hD, hS, hM, hn, hC, hex, hea⟩ := id hW
  obtain ⟨hh, hkd9⟩ : h < Mn M ∧ Mk M h = 11 := (okS_hd (okS_tl (okS_tl hst)) h rfl).at (by omega)
  have he := (wl_get g ad hh).trans (congrArg (fun x => some (ad h, x)) (ce_int g ad hkd9 (Or.inr (Or.inl rfl))))
  obtain ⟨r, M1, h1, hF⟩ := wb_some hF
  unfold aI at h1
  split at h1
  case isFalse => cases h1
  case isTrue hin =>
  cases h1
  have hset : (wl g ad M).set h (ad h, .inl (g 11, Ml M h, .inl (upd (Mi M h) i.toNatClampNeg v))) = wl g ad (sI M h i.toNatClampNeg v) := by
    refine wl_set g ad (M' := sI M h i.toNatClampNeg v) rfl ?_ (fun j hj => ce_ne_sI g ad M v hj)
    rw [ce_int g ad (M := sI M h i.toNatClampNeg v) hkd9 (Or.inr (Or.inl rfl))]
    have e1 : Mi (sI M h i.toNatClampNeg v) h = upd (Mi M h) i.toNatClampNeg v := up2_row
    rw [e1]
    rfl
  refine va_iast hx hb hK hP hD hS h 1 he rfl (vpB_in hin) hd (fun H1 locs1 hP1 hD1 hS1 => ?_)
  replace hP1 := (congrArg (fun z => va_P D vwCl z H1) hset).mp hP1
  replace hD1 := (congrArg (fun z => va_D A z) hset).mp hD1
  exact kk (sI M h i.toNatClampNeg v) ad H1 locs1 ls a M' kc ks cs ss hF hfin hcc hss ⟨hP1, hD1, hS1, okM_sI hM h _ _, hn, hC, hex.tr (ex_sI M h _ _), hea⟩ (lvk_st (κ := ((p, l9, e, R, s, m, args, below, meth, c), (D, g, A, Q), M0, ad0)) (ex_sI M h _ _) hl) (okS_ex (κ := ((p, l9, e, R, s, m, args, below, meth, c), (D, g, A, Q), M0, ad0)) (ex_sI M h _ _) (okS_tl (okS_tl (okS_tl hst))))
theorem N_bast (hc : Jc κ own cc nL fr mc ms lc) (hd : decode cc pc = .ok (.bastore, 1)) {h : Nat} {i : Int32} {v : Int32} (kk : Jw κ (wM κ) nL fin (pc + 1) l st F) : Jw κ (wM κ) nL fin pc l ((0, .int v) :: (0, .int i) :: (10, .ref h) :: st) (wb (aB h i v) (fun _ => F)) := by
  obtain ⟨⟨p, l9, e, R, s, m, args, below, meth, c⟩, ⟨D, g, A, Q⟩, M0, ad0⟩ := κ
  obtain ⟨hx, hb, hml, hown, hts, hK, hA, hst9, hlk, hR⟩ := hc
  intro M ad H locs ls a M' kc ks cs ss hF hfin hcc hss hW hl hst
  obtain ⟨hP, hD, hS, hM, hn, hC, hex, hea⟩ := id hW
  obtain ⟨hh, hkd9⟩ : h < Mn M ∧ Mk M h = 10 := (okS_hd (okS_tl (okS_tl hst)) h rfl).at (by omega)
  have he := (wl_get g ad hh).trans (congrArg (fun x => some (ad h, x)) (ce_int g ad hkd9 (Or.inl rfl)))
  obtain ⟨r, M1, h1, hF⟩ := wb_some hF
  unfold aB at h1
  split at h1
  case isFalse => cases h1
  case isTrue hin =>
  cases h1
  have hset : (wl g ad M).set h (ad h, .inl (g 10, Ml M h, .inl (upd (Mi M h) i.toNatClampNeg (vp_nar .byte v)))) = wl g ad (sI M h i.toNatClampNeg (vp_nar .byte v)) := by
    refine wl_set g ad (M' := sI M h i.toNatClampNeg (vp_nar .byte v)) rfl ?_ (fun j hj => ce_ne_sI g ad M (vp_nar .byte v) hj)
    rw [ce_int g ad (M := sI M h i.toNatClampNeg (vp_nar .byte v)) hkd9 (Or.inl rfl)]
    have e1 : Mi (sI M h i.toNatClampNeg (vp_nar .byte v)) h = upd (Mi M h) i.toNatClampNeg (vp_nar .byte v) := up2_row
    rw [e1]
    rfl
  refine va_bast hx hb hK hP hD hS h 0 he rfl (vpB_in hin) hd (fun H1 locs1 hP1 hD1 hS1 => ?_)
  replace hP1 := (congrArg (fun z => va_P D vwCl z H1) hset).mp hP1
  replace hD1 := (congrArg (fun z => va_D A z) hset).mp hD1
  exact kk (sI M h i.toNatClampNeg (vp_nar .byte v)) ad H1 locs1 ls a M' kc ks cs ss hF hfin hcc hss ⟨hP1, hD1, hS1, okM_sI hM h _ _, hn, hC, hex.tr (ex_sI M h _ _), hea⟩ (lvk_st (κ := ((p, l9, e, R, s, m, args, below, meth, c), (D, g, A, Q), M0, ad0)) (ex_sI M h _ _) hl) (okS_ex (κ := ((p, l9, e, R, s, m, args, below, meth, c), (D, g, A, Q), M0, ad0)) (ex_sI M h _ _) (okS_tl (okS_tl (okS_tl hst))))
theorem N_zast (hc : Jc κ own cc nL fr mc ms lc) (hd : decode cc pc = .ok (.bastore, 1)) {h : Nat} {i : Int32} {v : Int32} (kk : Jw κ (wM κ) nL fin (pc + 1) l st F) : Jw κ (wM κ) nL fin pc l ((0, .int v) :: (0, .int i) :: (13, .ref h) :: st) (wb (aZ h i v) (fun _ => F)) := by
  obtain ⟨⟨p, l9, e, R, s, m, args, below, meth, c⟩, ⟨D, g, A, Q⟩, M0, ad0⟩ := κ
  obtain ⟨hx, hb, hml, hown, hts, hK, hA, hst9, hlk, hR⟩ := hc
  intro M ad H locs ls a M' kc ks cs ss hF hfin hcc hss hW hl hst
  obtain ⟨hP, hD, hS, hM, hn, hC, hex, hea⟩ := id hW
  obtain ⟨hh, hkd9⟩ : h < Mn M ∧ Mk M h = 13 := (okS_hd (okS_tl (okS_tl hst)) h rfl).at (by omega)
  have he := (wl_get g ad hh).trans (congrArg (fun x => some (ad h, x)) (ce_int g ad hkd9 (Or.inr (Or.inr rfl))))
  obtain ⟨r, M1, h1, hF⟩ := wb_some hF
  unfold aZ at h1
  split at h1
  case isFalse => cases h1
  case isTrue hin =>
  cases h1
  have hset : (wl g ad M).set h (ad h, .inl (g 13, Ml M h, .inl (upd (Mi M h) i.toNatClampNeg (vp_nar .boolean v)))) = wl g ad (sI M h i.toNatClampNeg (vp_nar .boolean v)) := by
    refine wl_set g ad (M' := sI M h i.toNatClampNeg (vp_nar .boolean v)) rfl ?_ (fun j hj => ce_ne_sI g ad M (vp_nar .boolean v) hj)
    rw [ce_int g ad (M := sI M h i.toNatClampNeg (vp_nar .boolean v)) hkd9 (Or.inr (Or.inr rfl))]
    have e1 : Mi (sI M h i.toNatClampNeg (vp_nar .boolean v)) h = upd (Mi M h) i.toNatClampNeg (vp_nar .boolean v) := up2_row
    rw [e1]
    rfl
  refine va_zast hx hb hK hP hD hS h 3 he rfl (vpB_in hin) hd (fun H1 locs1 hP1 hD1 hS1 => ?_)
  replace hP1 := (congrArg (fun z => va_P D vwCl z H1) hset).mp hP1
  replace hD1 := (congrArg (fun z => va_D A z) hset).mp hD1
  exact kk (sI M h i.toNatClampNeg (vp_nar .boolean v)) ad H1 locs1 ls a M' kc ks cs ss hF hfin hcc hss ⟨hP1, hD1, hS1, okM_sI hM h _ _, hn, hC, hex.tr (ex_sI M h _ _), hea⟩ (lvk_st (κ := ((p, l9, e, R, s, m, args, below, meth, c), (D, g, A, Q), M0, ad0)) (ex_sI M h _ _) hl) (okS_ex (κ := ((p, l9, e, R, s, m, args, below, meth, c), (D, g, A, Q), M0, ad0)) (ex_sI M h _ _) (okS_tl (okS_tl (okS_tl hst))))
theorem N_blen (hc : Jc κ own cc nL fr mc ms lc) (hd : decode cc pc = .ok (.arraylength, 1)) {h : Nat} {G1 : Int32 → Mm → Option (α × Mm × Nat × Nat)} (kk : ∀ v, Jw κ (wM κ) nL fin (pc + 1) l ((0, .int v) :: st) (G1 v)) : Jw κ (wM κ) nL fin pc l ((10, .ref h) :: st) (wb (gN h) G1) := by
  obtain ⟨⟨p, l9, e, R, s, m, args, below, meth, c⟩, ⟨D, g, A, Q⟩, M0, ad0⟩ := κ
  obtain ⟨hx, hb, hml, hown, hts, hK, hA, hst9, hlk, hR⟩ := hc
  intro M ad H locs ls a M' kc ks cs ss hF hfin hcc hss hW hl hst
  obtain ⟨hP, hD, hS, hM, hn, hC, hex, hea⟩ := id hW
  obtain ⟨hh, hkd9⟩ : h < Mn M ∧ Mk M h = 10 := (okS_hd hst h rfl).at (by omega)
  have he := (wl_get g ad hh).trans (congrArg (fun x => some (ad h, x)) (ce_int g ad hkd9 (Or.inl rfl)))
  refine va_alen hx hb hK hP h 0 he rfl rfl hd ?_
  exact kk _ M ad H locs ls a M' kc ks cs ss hF hfin hcc hss hW hl (okS_cons okW_i (okS_tl hst))
theorem N_ilen (hc : Jc κ own cc nL fr mc ms lc) (hd : decode cc pc = .ok (.arraylength, 1)) {h : Nat} {G1 : Int32 → Mm → Option (α × Mm × Nat × Nat)} (kk : ∀ v, Jw κ (wM κ) nL fin (pc + 1) l ((0, .int v) :: st) (G1 v)) : Jw κ (wM κ) nL fin pc l ((11, .ref h) :: st) (wb (gN h) G1) := by
  obtain ⟨⟨p, l9, e, R, s, m, args, below, meth, c⟩, ⟨D, g, A, Q⟩, M0, ad0⟩ := κ
  obtain ⟨hx, hb, hml, hown, hts, hK, hA, hst9, hlk, hR⟩ := hc
  intro M ad H locs ls a M' kc ks cs ss hF hfin hcc hss hW hl hst
  obtain ⟨hP, hD, hS, hM, hn, hC, hex, hea⟩ := id hW
  obtain ⟨hh, hkd9⟩ : h < Mn M ∧ Mk M h = 11 := (okS_hd hst h rfl).at (by omega)
  have he := (wl_get g ad hh).trans (congrArg (fun x => some (ad h, x)) (ce_int g ad hkd9 (Or.inr (Or.inl rfl))))
  refine va_alen hx hb hK hP h 1 he rfl rfl hd ?_
  exact kk _ M ad H locs ls a M' kc ks cs ss hF hfin hcc hss hW hl (okS_cons okW_i (okS_tl hst))
theorem N_zlen (hc : Jc κ own cc nL fr mc ms lc) (hd : decode cc pc = .ok (.arraylength, 1)) {h : Nat} {G1 : Int32 → Mm → Option (α × Mm × Nat × Nat)} (kk : ∀ v, Jw κ (wM κ) nL fin (pc + 1) l ((0, .int v) :: st) (G1 v)) : Jw κ (wM κ) nL fin pc l ((13, .ref h) :: st) (wb (gN h) G1) := by
  obtain ⟨⟨p, l9, e, R, s, m, args, below, meth, c⟩, ⟨D, g, A, Q⟩, M0, ad0⟩ := κ
  obtain ⟨hx, hb, hml, hown, hts, hK, hA, hst9, hlk, hR⟩ := hc
  intro M ad H locs ls a M' kc ks cs ss hF hfin hcc hss hW hl hst
  obtain ⟨hP, hD, hS, hM, hn, hC, hex, hea⟩ := id hW
  obtain ⟨hh, hkd9⟩ : h < Mn M ∧ Mk M h = 13 := (okS_hd hst h rfl).at (by omega)
  have he := (wl_get g ad hh).trans (congrArg (fun x => some (ad h, x)) (ce_int g ad hkd9 (Or.inr (Or.inr rfl))))
  refine va_alen hx hb hK hP h 3 he rfl rfl hd ?_
  exact kk _ M ad H locs ls a M' kc ks cs ss hF hfin hcc hss hW hl (okS_cons okW_i (okS_tl hst))
theorem N_alen (hc : Jc κ own cc nL fr mc ms lc) (hd : decode cc pc = .ok (.arraylength, 1)) {h : Nat} {G1 : Int32 → Mm → Option (α × Mm × Nat × Nat)} (kk : ∀ v, Jw κ (wM κ) nL fin (pc + 1) l ((0, .int v) :: st) (G1 v)) : Jw κ (wM κ) nL fin pc l ((15, .ref h) :: st) (wb (gN h) G1) := by
  obtain ⟨⟨p, l9, e, R, s, m, args, below, meth, c⟩, ⟨D, g, A, Q⟩, M0, ad0⟩ := κ
  obtain ⟨hx, hb, hml, hown, hts, hK, hA, hst9, hlk, hR⟩ := hc
  intro M ad H locs ls a M' kc ks cs ss hF hfin hcc hss hW hl hst
  obtain ⟨hP, hD, hS, hM, hn, hC, hex, hea⟩ := id hW
  obtain ⟨hh, hkd9⟩ : h < Mn M ∧ Mk M h = 15 := (okS_hd hst h rfl).at (by omega)
  have he := (wl_get g ad hh).trans (congrArg (fun x => some (ad h, x)) (ce_objs g ad hkd9))
  refine va_alen hx hb hK hP h 5 he rfl rfl hd ?_
  exact kk _ M ad H locs ls a M' kc ks cs ss hF hfin hcc hss hW hl (okS_cons okW_i (okS_tl hst))
theorem N_elen (hc : Jc κ own cc nL fr mc ms lc) (hd : decode cc pc = .ok (.arraylength, 1)) {h : Nat} {G1 : Int32 → Mm → Option (α × Mm × Nat × Nat)} (kk : ∀ v, Jw κ (wM κ) nL fin (pc + 1) l ((0, .int v) :: st) (G1 v)) : Jw κ (wM κ) nL fin pc l ((17, .ref h) :: st) (wb (gN h) G1) := by
  obtain ⟨⟨p, l9, e, R, s, m, args, below, meth, c⟩, ⟨D, g, A, Q⟩, M0, ad0⟩ := κ
  obtain ⟨hx, hb, hml, hown, hts, hK, hA, hst9, hlk, hR⟩ := hc
  intro M ad H locs ls a M' kc ks cs ss hF hfin hcc hss hW hl hst
  obtain ⟨hP, hD, hS, hM, hn, hC, hex, hea⟩ := id hW
  rcases okH17 (okS_hd hst h rfl) with ⟨hh, hkd9⟩ | rfl
  · have he := (wl_get g ad hh).trans (congrArg (fun x => some (ad h, x)) (ce_objs g ad hkd9))
    refine va_alen hx hb hK hP h 5 he rfl rfl hd ?_
    exact kk _ M ad H locs ls a M' kc ks cs ss hF hfin hcc hss hW hl (okS_cons okW_i (okS_tl hst))
  · refine va_tlen hx hb (csl hC).2.2.2.1.2 hS rfl hd ?_
    have e0 : Int32.ofNat (Ml M EB) = Int32.ofNat 0 := by rw [hM.2]
    have kk2 := kk (Int32.ofNat 0) M ad H locs ls a M' kc ks cs ss (by
      have e1 : wb (gN EB) G1 M = G1 (Int32.ofNat (Ml M EB)) M := rfl
      rw [e1, e0] at hF
      exact hF) hfin hcc hss hW hl (okS_cons okW_i (okS_tl hst))
    exact kk2
def xI (i : Int32) : Mm → Option (Int32 × Mm) := fun M => if vpB i (Mx M).1 = true then some ((Mx M).2 i.toNatClampNeg, M) else none
def xN : Mm → Option (Int32 × Mm) := fun M => some (Int32.ofNat (Mx M).1, M)
theorem N_sald (hc : Jc κ own cc nL fr mc ms lc) (hd : decode cc pc = .ok (.iaload, 1)) {h : Nat} {i : Int32} {G1 : Int32 → Mm → Option (α × Mm × Nat × Nat)} (kk : ∀ v, Jw κ (wM κ) nL fin (pc + 1) l ((0, .int v) :: st) (G1 v)) : Jw κ (wM κ) nL fin pc l ((0, .int i) :: (23, .ref h) :: st) (wgrd (h == SB + 400) (wb (xI i) G1)) := by
  obtain ⟨⟨p, l9, e, R, s, m, args, below, meth, c⟩, ⟨D, g, A, Q⟩, M0, ad0⟩ := κ
  obtain ⟨hx, hb, hml, hown, hts, hK, hA, hst9, hlk, hR⟩ := hc
  intro M ad H locs ls a M' kc ks cs ss hF hfin hcc hss hW hl hst
  obtain ⟨hP, hD, hS, hM, hn, hC, hex, hea⟩ := id hW
  obtain ⟨hh, hF⟩ := wgrd_some hF
  have hh : h = SB + 400 := eq_of_beq hh
  subst hh
  obtain ⟨r, M1, h1, hF⟩ := wb_some hF
  unfold xI at h1
  split at h1
  case isFalse => cases h1
  case isTrue hin =>
  cases h1
  have hT := (csl hC).2.2.2.2.2.2.2.2
  rw [← hex.2.2] at hT
  refine va_ti hx hb hT hS (vpB_in hin) rfl hd ?_
  exact kk _ M ad H locs ls a M' kc ks cs ss hF hfin hcc hss hW hl (okS_cons okW_i (okS_tl (okS_tl hst)))
theorem N_slen (hc : Jc κ own cc nL fr mc ms lc) (hd : decode cc pc = .ok (.arraylength, 1)) {h : Nat} {G1 : Int32 → Mm → Option (α × Mm × Nat × Nat)} (kk : ∀ v, Jw κ (wM κ) nL fin (pc + 1) l ((0, .int v) :: st) (G1 v)) : Jw κ (wM κ) nL fin pc l ((23, .ref h) :: st) (wgrd (h == SB + 400) (wb xN G1)) := by
  obtain ⟨⟨p, l9, e, R, s, m, args, below, meth, c⟩, ⟨D, g, A, Q⟩, M0, ad0⟩ := κ
  obtain ⟨hx, hb, hml, hown, hts, hK, hA, hst9, hlk, hR⟩ := hc
  intro M ad H locs ls a M' kc ks cs ss hF hfin hcc hss hW hl hst
  obtain ⟨hP, hD, hS, hM, hn, hC, hex, hea⟩ := id hW
  obtain ⟨hh, hF⟩ := wgrd_some hF
  have hh : h = SB + 400 := eq_of_beq hh
  subst hh
  have hT := (csl hC).2.2.2.2.2.2.2.2
  rw [← hex.2.2] at hT
  refine va_tlen hx hb hT hS rfl hd ?_
  exact kk _ M ad H locs ls a M' kc ks cs ss hF hfin hcc hss hW hl (okS_cons okW_i (okS_tl hst))
def tD (j : Nat) (i : Int32) : Mm → Option (Int32 × Mm) := fun M => if vpB i 100 = true then some (dgT j i.toNatClampNeg, M) else none
theorem N_getsD (hc : Jc κ own cc nL fr mc ms lc) {j index : Nat} (hj : j < 2) (hw : Cond.fieldLink own index inN (dgN j) "[B" ∈ TW) (hd : decode cc pc = .ok (.getstatic index, 3)) (kk : Jw κ (wM κ) nL fin (pc + 3) l ((21, .ref (SB + 103 + j)) :: st) F) : Jw κ (wM κ) nL fin pc l st F := by
  obtain ⟨⟨p, l9, e, R, s, m, args, below, meth, c⟩, ⟨D, g, A, Q⟩, M0, ad0⟩ := κ
  obtain ⟨hx, hb, hml, hown, hts, hK, hA, hst9, hlk, hR⟩ := hc
  intro M ad H locs ls a M' kc ks cs ss hF hfin hcc hss hW hl hst
  obtain ⟨hP, hD, hS, hM, hn, hC, hex, hea⟩ := id hW
  refine va_gets (ref := inN) hx hb ((csl hC).1 j hj).1 hS hown (hts _ hw) (fun _ z => z) hd ?_
  exact kk M ad H locs ls a M' kc ks cs ss hF hfin hcc hss hW hl (okS_cons (fun z hz => by cases hz; exact Or.inr (Or.inr (Or.inr (Or.inr (Or.inl ⟨rfl, by omega, by omega⟩))))) hst)
theorem N_tbald (hc : Jc κ own cc nL fr mc ms lc) {j : Nat} (hj : j < 2) (hd : decode cc pc = .ok (.baload, 1)) {i : Int32} {G1 : Int32 → Mm → Option (α × Mm × Nat × Nat)} (kk : ∀ v, Jw κ (wM κ) nL fin (pc + 1) l ((0, .int v) :: st) (G1 v)) : Jw κ (wM κ) nL fin pc l ((0, .int i) :: (21, .ref (SB + 103 + j)) :: st) (wb (tD j i) G1) := by
  obtain ⟨⟨p, l9, e, R, s, m, args, below, meth, c⟩, ⟨D, g, A, Q⟩, M0, ad0⟩ := κ
  obtain ⟨hx, hb, hml, hown, hts, hK, hA, hst9, hlk, hR⟩ := hc
  intro M ad H locs ls a M' kc ks cs ss hF hfin hcc hss hW hl hst
  obtain ⟨hP, hD, hS, hM, hn, hC, hex, hea⟩ := id hW
  obtain ⟨r, M1, h1, hF⟩ := wb_some hF
  unfold tD at h1
  split at h1
  case isFalse => cases h1
  case isTrue hin =>
  cases h1
  refine va_tb hx hb ((csl hC).1 j hj).2 hS (vpB_in hin) rfl hd ?_
  exact kk _ M ad H locs ls a M' kc ks cs ss hF hfin hcc hss hW hl (okS_cons okW_i (okS_tl (okS_tl hst)))
theorem N_getsC (hc : Jc κ own cc nL fr mc ms lc) {index : Nat} (hw : Cond.fieldLink own index "java/lang/String" "COMPACT_STRINGS" "Z" ∈ TW) (hd : decode cc pc = .ok (.getstatic index, 3)) (kk : Jw κ (wM κ) nL fin (pc + 3) l ((0, .int 1) :: st) F) : Jw κ (wM κ) nL fin pc l st F := by
  obtain ⟨⟨p, l9, e, R, s, m, args, below, meth, c⟩, ⟨D, g, A, Q⟩, M0, ad0⟩ := κ
  obtain ⟨hx, hb, hml, hown, hts, hK, hA, hst9, hlk, hR⟩ := hc
  intro M ad H locs ls a M' kc ks cs ss hF hfin hcc hss hW hl hst
  obtain ⟨hP, hD, hS, hM, hn, hC, hex, hea⟩ := id hW
  refine va_gets (ref := "java/lang/String") hx hb hC.2.2.2.1 hS hown (hts _ hw) (fun _ z => z) hd ?_
  exact kk M ad H locs ls a M' kc ks cs ss hF hfin hcc hss hW hl (okS_cons okW_i hst)
theorem N_getsH (hc : Jc κ own cc nL fr mc ms lc) {index : Nat} (hw : Cond.fieldLink own index "java/lang/Integer$IntegerCache" "high" "I" ∈ TW) (hd : decode cc pc = .ok (.getstatic index, 3)) (kk : Jw κ (wM κ) nL fin (pc + 3) l ((0, .int 127) :: st) F) : Jw κ (wM κ) nL fin pc l st F := by
  obtain ⟨⟨p, l9, e, R, s, m, args, below, meth, c⟩, ⟨D, g, A, Q⟩, M0, ad0⟩ := κ
  obtain ⟨hx, hb, hml, hown, hts, hK, hA, hst9, hlk, hR⟩ := hc
  intro M ad H locs ls a M' kc ks cs ss hF hfin hcc hss hW hl hst
  obtain ⟨hP, hD, hS, hM, hn, hC, hex, hea⟩ := id hW
  refine va_gets (ref := "java/lang/Integer$IntegerCache") hx hb (csl hC).2.1 hS hown (hts _ hw) (fun _ z => z) hd ?_
  exact kk M ad H locs ls a M' kc ks cs ss hF hfin hcc hss hW hl (okS_cons okW_i hst)
theorem N_getsK (hc : Jc κ own cc nL fr mc ms lc) {index : Nat} (hw : Cond.fieldLink own index "java/lang/Integer$IntegerCache" "cache" "[Ljava/lang/Integer;" ∈ TW) (hd : decode cc pc = .ok (.getstatic index, 3)) (kk : Jw κ (wM κ) nL fin (pc + 3) l ((25, .ref (SB + 501)) :: st) F) : Jw κ (wM κ) nL fin pc l st F := by
  obtain ⟨⟨p, l9, e, R, s, m, args, below, meth, c⟩, ⟨D, g, A, Q⟩, M0, ad0⟩ := κ
  obtain ⟨hx, hb, hml, hown, hts, hK, hA, hst9, hlk, hR⟩ := hc
  intro M ad H locs ls a M' kc ks cs ss hF hfin hcc hss hW hl hst
  obtain ⟨hP, hD, hS, hM, hn, hC, hex, hea⟩ := id hW
  refine va_gets (ref := "java/lang/Integer$IntegerCache") hx hb (csl hC).2.2.1.1 hS hown (hts _ hw) (fun _ z => z) hd ?_
  exact kk M ad H locs ls a M' kc ks cs ss hF hfin hcc hss hW hl (okS_cons (fun z hz => by cases hz; exact Or.inr (Or.inr (Or.inr (Or.inr (Or.inr (Or.inl ⟨by omega, by omega, by omega⟩)))))) hst)
def tC (i : Int32) : Mm → Option (Nat × Mm) := fun M => if vpB i 256 = true then some (IB + i.toNatClampNeg, M) else none
theorem N_kald (hc : Jc κ own cc nL fr mc ms lc) (hd : decode cc pc = .ok (.aaload, 1)) {i : Int32} {G1 : Nat → Mm → Option (α × Mm × Nat × Nat)} (kk : ∀ v, Jw κ (wM κ) nL fin (pc + 1) l ((28, .ref v) :: st) (G1 v)) : Jw κ (wM κ) nL fin pc l ((0, .int i) :: (25, .ref (SB + 501)) :: st) (wb (tC i) G1) := by
  obtain ⟨⟨p, l9, e, R, s, m, args, below, meth, c⟩, ⟨D, g, A, Q⟩, M0, ad0⟩ := κ
  obtain ⟨hx, hb, hml, hown, hts, hK, hA, hst9, hlk, hR⟩ := hc
  intro M ad H locs ls a M' kc ks cs ss hF hfin hcc hss hW hl hst
  obtain ⟨hP, hD, hS, hM, hn, hC, hex, hea⟩ := id hW
  obtain ⟨r, M1, h1, hF⟩ := wb_some hF
  unfold tC at h1
  split at h1
  case isFalse => cases h1
  case isTrue hin =>
  cases h1
  have hin2 : i.toNatClampNeg < 256 := by
    unfold vpB at hin
    simp at hin
    omega
  refine vb_tq hx hb (csl hC).2.2.1.2.1 hS (vpB_in hin) rfl hd ?_
  exact kk _ M ad H locs ls a M' kc ks cs ss hF hfin hcc hss hW hl (okS_cons (fun z hz => by cases hz; exact okH28_of ⟨by omega, by omega⟩) (okS_tl (okS_tl hst)))
theorem N_getsE (hc : Jc κ own cc nL fr mc ms lc) {index : Nat} (hw : Cond.fieldLink own index "java/util/ArrayList" "DEFAULTCAPACITY_EMPTY_ELEMENTDATA" "[Ljava/lang/Object;" ∈ TW) (hd : decode cc pc = .ok (.getstatic index, 3)) (kk : Jw κ (wM κ) nL fin (pc + 3) l ((17, .ref EB) :: st) F) : Jw κ (wM κ) nL fin pc l st F := by
  obtain ⟨⟨p, l9, e, R, s, m, args, below, meth, c⟩, ⟨D, g, A, Q⟩, M0, ad0⟩ := κ
  obtain ⟨hx, hb, hml, hown, hts, hK, hA, hst9, hlk, hR⟩ := hc
  intro M ad H locs ls a M' kc ks cs ss hF hfin hcc hss hW hl hst
  obtain ⟨hP, hD, hS, hM, hn, hC, hex, hea⟩ := id hW
  refine va_gets (ref := "java/util/ArrayList") hx hb (csl hC).2.2.2.1.1 hS hown (hts _ hw) (fun _ z => z) hd ?_
  exact kk M ad H locs ls a M' kc ks cs ss hF hfin hcc hss hW hl (okS_cons (fun z hz => by cases hz; exact Or.inr (Or.inr (Or.inl ⟨rfl, Or.inr rfl⟩))) hst)
/-- a box's number -/
def bxv (h : Nat) : Int32 := vb_c (h - IB)
theorem N_bxget (hc : Jc κ own cc nL fr mc ms lc) {index h : Nat} (hw : Cond.fieldLink own index inN "value" "I" ∈ TW) (hd : decode cc pc = .ok (.getfield index, 3)) (kk : Jw κ (wM κ) nL fin (pc + 3) l ((0, .int (bxv h)) :: st) F) : Jw κ (wM κ) nL fin pc l ((28, .ref h) :: st) F := by
  obtain ⟨⟨p, l9, e, R, s, m, args, below, meth, c⟩, ⟨D, g, A, Q⟩, M0, ad0⟩ := κ
  obtain ⟨hx, hb, hml, hown, hts, hK, hA, hst9, hlk, hR⟩ := hc
  intro M ad H locs ls a M' kc ks cs ss hF hfin hcc hss hW hl hst
  obtain ⟨hP, hD, hS, hM, hn, hC, hex, hea⟩ := id hW
  obtain ⟨b1, b2⟩ := okH28 (okS_hd hst h rfl)
  obtain ⟨k, rfl⟩ : ∃ k, h = IB + k := ⟨h - IB, by omega⟩
  have e : bxv (IB + k) = vb_c k := by unfold bxv; rw [Nat.add_sub_cancel_left]
  rw [e] at kk
  refine va_getX (ref := inN) (ad := fun k => ad (IB + k)) hx hb (csl hC).2.2.1.2.2.2 (i := k) (by omega) hS hown (hts _ hw) (fun _ z => z) hd ?_
  exact kk M ad H locs ls a M' kc ks cs ss hF hfin hcc hss hW hl (okS_cons okW_i (okS_tl hst))
/-- kind 17 where it is no empty constant -/
theorem N_17 {h : Nat} (pre : List TV) (kk : Jw κ (wM κ) nL fin pc l (pre ++ (15, .ref h) :: st) F) : Jw κ (wM κ) nL fin pc l (pre ++ (17, .ref h) :: st) (wgrd (h != EB) F) := by
  obtain ⟨⟨p, l9, e, R, s, m, args, below, meth, c⟩, ⟨D, g, A, Q⟩, M0, ad0⟩ := κ
  intro M ad H locs ls a M' kc ks cs ss hF hfin hcc hss hW hl hst
  obtain ⟨hh, hF⟩ := wgrd_some hF
  have hh : h ≠ EB := by simpa using hh
  have e9 : trS ad (pre ++ (17, .ref h) :: st) = trS ad (pre ++ (15, .ref h) :: st) := by
    unfold trS; simp
  rw [e9]
  refine kk M ad H locs ls a M' kc ks cs ss hF hfin hcc hss hW hl (fun q hq => ?_)
  rcases List.mem_append.mp hq with hq | hq
  · exact hst q (List.mem_append_left _ hq)
  · rcases List.mem_cons.mp hq with rfl | hq
    · intro z hz
      cases hz
      rcases okH17 (hst (17, .ref h) (List.mem_append_right _ List.mem_cons_self) h rfl) with ⟨a1, a2⟩ | a1
      · exact okH_of a1 a2 (by omega)
      · exact absurd a1 hh
    · exact hst q (List.mem_append_right _ (List.mem_cons_of_mem _ hq))
theorem N_to {kv kw h : Nat} (pre : List TV) (hok : ∀ M : Mm, okH M kv h → okH M kw h) (kk : Jw κ (wM κ) nL fin pc l (pre ++ (kw, .ref h) :: st) F) : Jw κ (wM κ) nL fin pc l (pre ++ (kv, .ref h) :: st) F := by
  obtain ⟨⟨p, l9, e, R, s, m, args, below, meth, c⟩, ⟨D, g, A, Q⟩, M0, ad0⟩ := κ
  intro M ad H locs ls a M' kc ks cs ss hF hfin hcc hss hW hl hst
  have e9 : trS ad (pre ++ (kv, .ref h) :: st) = trS ad (pre ++ (kw, .ref h) :: st) := by
    unfold trS; simp
  rw [e9]
  refine kk M ad H locs ls a M' kc ks cs ss hF hfin hcc hss hW hl (fun q hq => ?_)
  rcases List.mem_append.mp hq with hq | hq
  · exact hst q (List.mem_append_left _ hq)
  · rcases List.mem_cons.mp hq with rfl | hq
    · intro z hz
      cases hz
      exact hok M (hst (kv, .ref h) (List.mem_append_right _ List.mem_cons_self) h rfl)
    · exact hst q (List.mem_append_right _ (List.mem_cons_of_mem _ hq))
theorem N_to17 {h : Nat} (pre : List TV) (kk : Jw κ (wM κ) nL fin pc l (pre ++ (17, .ref h) :: st) F) : Jw κ (wM κ) nL fin pc l (pre ++ (15, .ref h) :: st) F :=
  N_to pre (fun M o => Or.inr (Or.inr (Or.inl ⟨rfl, Or.inl (o.at (by omega))⟩))) kk
theorem N_to16 {kv h : Nat} (pre : List TV) (hk : kv = 13 ∨ kv = 28 ∨ kv = 53) (kk : Jw κ (wM κ) nL fin pc l (pre ++ (16, .ref h) :: st) F) : Jw κ (wM κ) nL fin pc l (pre ++ (kv, .ref h) :: st) F :=
  N_to pre (fun M o => okH_any (by omega) o) kk
def lA (h : Nat) (i : Int32) : Mm → Option (Nat × Mm) := fun M => if vpB i (Ml M h) = true then (match Mr M h i.toNatClampNeg with | some r => some (r, M) | none => none) else none
theorem N_aald (hc : Jc κ own cc nL fr mc ms lc) (hd : decode cc pc = .ok (.aaload, 1)) {h : Nat} {i : Int32} {G1 : Nat → Mm → Option (α × Mm × Nat × Nat)} (kk : ∀ v, Jw κ (wM κ) nL fin (pc + 1) l ((16, .ref v) :: st) (G1 v)) : Jw κ (wM κ) nL fin pc l ((0, .int i) :: (15, .ref h) :: st) (wb (lA h i) G1) := by
  obtain ⟨⟨p, l9, e, R, s, m, args, below, meth, c⟩, ⟨D, g, A, Q⟩, M0, ad0⟩ := κ
  obtain ⟨hx, hb, hml, hown, hts, hK, hA, hst9, hlk, hR⟩ := hc
  intro M ad H locs ls a M' kc ks cs ss hF hfin hcc hss hW hl hst
  obtain ⟨hP, hD, hS, hM, hn, hC, hex, hea⟩ := id hW
  obtain ⟨hh, hkd9⟩ : h < Mn M ∧ Mk M h = 15 := (okS_hd (okS_tl hst) h rfl).at (by omega)
  have he := (wl_get g ad hh).trans (congrArg (fun x => some (ad h, x)) (ce_objs g ad hkd9))
  obtain ⟨r, M1, h1, hF⟩ := wb_some hF
  unfold lA at h1
  split at h1
  case isFalse => cases h1
  case isTrue hin =>
  cases hr : Mr M h i.toNatClampNeg with
  | none => rw [hr] at h1; cases h1
  | some r9 =>
    rw [hr] at h1
    cases h1
    have r1 := hM.1 h _ r hh hr
    rw [show rkd M h i.toNatClampNeg = 16 by simp [rkd, hkd9]] at r1
    refine va_aldq hx hb hK hP h 5 he rfl (vpB_in hin) hd ?_
    have e9 : va_rf ((Mr M h i.toNatClampNeg).map ad) = .ref (ad r) := by rw [hr]; rfl
    rw [e9]
    exact kk r M ad H locs ls a M' kc ks cs ss hF hfin hcc hss hW hl (okS_cons (fun z hz => by cases hz; exact r1) (okS_tl (okS_tl hst)))
def aN (h : Nat) (i : Int32) : Mm → Option (Unit × Mm) := fun M => if vpB i (Ml M h) = true then some ((), sR M h i.toNatClampNeg none) else none
theorem sR_objs (g : Nat → ClassId) (ad : Nat → Nat) {M : Mm} {h : Nat} (hkd9 : Mk M h = 15) (i : Nat) (v : Option Nat) : (wl g ad M).set h (ad h, .inl (g 15, Ml M h, .inr (.inr (.inr (.inr (va_up (fun j => (Mr M h j).map ad) i (v.map ad))))))) = wl g ad (sR M h i v) := by
  refine wl_set g ad (M' := sR M h i v) rfl ?_ (fun j hj => ce_ne_sR g ad M v hj)
  rw [ce_objs g ad (M := sR M h i v) hkd9]
  have e1 : (fun j => (Mr (sR M h i v) h j).map ad) = va_up (fun j => (Mr M h j).map ad) i (v.map ad) := by
    funext j
    have e2 : Mr (sR M h i v) h j = if h = h ∧ j = i then v else Mr M h j := rfl
    rw [e2]
    by_cases q : j = i
    · simp [va_up, q]
    · simp [va_up, q]
  rw [e1]
  rfl
theorem N_aast (hc : Jc κ own cc nL fr mc ms lc) (hd : decode cc pc = .ok (.aastore, 1)) {h v kv : Nat} (hkv : kv = 13 ∨ kv = 16 ∨ kv = 28 ∨ kv = 53) {i : Int32} (kk : Jw κ (wM κ) nL fin (pc + 1) l st F) : Jw κ (wM κ) nL fin pc l ((kv, .ref v) :: (0, .int i) :: (15, .ref h) :: st) (wb (aA h i v) (fun _ => F)) := by
  obtain ⟨⟨p, l9, e, R, s, m, args, below, meth, c⟩, ⟨D, g, A, Q⟩, M0, ad0⟩ := κ
  obtain ⟨hx, hb, hml, hown, hts, hK, hA, hst9, hlk, hR⟩ := hc
  intro M ad H locs ls a M' kc ks cs ss hF hfin hcc hss hW hl hst
  obtain ⟨hP, hD, hS, hM, hn, hC, hex, hea⟩ := id hW
  obtain ⟨hh, hkd9⟩ : h < Mn M ∧ Mk M h = 15 := (okS_hd (okS_tl (okS_tl hst)) h rfl).at (by omega)
  have hv := okH_any hkv (okS_hd hst v rfl)
  have he := (wl_get g ad hh).trans (congrArg (fun x => some (ad h, x)) (ce_objs g ad hkd9))
  obtain ⟨r, M1, h1, hF⟩ := wb_some hF
  unfold aA at h1
  split at h1
  case isFalse => cases h1
  case isTrue hin =>
  cases h1
  have hset := sR_objs g ad hkd9 i.toNatClampNeg (some v)
  refine va_astqM hx hb hK hP hD hS h 5 he rfl (any_of hC hK hP hS hv) (vpB_in hin) hd (fun H1 locs1 hP1 hD1 hS1 => ?_)
  replace hP1 := (congrArg (fun z => va_P D vwCl z H1) hset).mp hP1
  replace hD1 := (congrArg (fun z => va_D A z) hset).mp hD1
  exact kk (sR M h i.toNatClampNeg (some v)) ad H1 locs1 ls a M' kc ks cs ss hF hfin hcc hss ⟨hP1, hD1, hS1, okM_sR hM (fun r hr => by cases hr; rw [show rkd M h i.toNatClampNeg = 16 by simp [rkd, hkd9]]; exact hv), hn, hC, hex.tr (ex_sR M h _ _), hea⟩ (lvk_st (κ := ((p, l9, e, R, s, m, args, below, meth, c), (D, g, A, Q), M0, ad0)) (ex_sR M h _ _) hl) (okS_ex (κ := ((p, l9, e, R, s, m, args, below, meth, c), (D, g, A, Q), M0, ad0)) (ex_sR M h _ _) (okS_tl (okS_tl (okS_tl hst))))
theorem N_aastN (hc : Jc κ own cc nL fr mc ms lc) (hd : decode cc pc = .ok (.aastore, 1)) {h kv : Nat} {i : Int32} (kk : Jw κ (wM κ) nL fin (pc + 1) l st F) : Jw κ (wM κ) nL fin pc l ((kv, va_rf none) :: (0, .int i) :: (15, .ref h) :: st) (wb (aN h i) (fun _ => F)) := by
  obtain ⟨⟨p, l9, e, R, s, m, args, below, meth, c⟩, ⟨D, g, A, Q⟩, M0, ad0⟩ := κ
  obtain ⟨hx, hb, hml, hown, hts, hK, hA, hst9, hlk, hR⟩ := hc
  intro M ad H locs ls a M' kc ks cs ss hF hfin hcc hss hW hl hst
  obtain ⟨hP, hD, hS, hM, hn, hC, hex, hea⟩ := id hW
  obtain ⟨hh, hkd9⟩ : h < Mn M ∧ Mk M h = 15 := (okS_hd (okS_tl (okS_tl hst)) h rfl).at (by omega)
  have he := (wl_get g ad hh).trans (congrArg (fun x => some (ad h, x)) (ce_objs g ad hkd9))
  obtain ⟨r, M1, h1, hF⟩ := wb_some hF
  unfold aN at h1
  split at h1
  case isFalse => cases h1
  case isTrue hin =>
  cases h1
  have hset := sR_objs g ad hkd9 i.toNatClampNeg none
  refine va_astqN hx hb hK hP hD hS h 5 he rfl (vpB_in hin) hd (fun H1 locs1 hP1 hD1 hS1 => ?_)
  replace hP1 := (congrArg (fun z => va_P D vwCl z H1) hset).mp hP1
  replace hD1 := (congrArg (fun z => va_D A z) hset).mp hD1
  exact kk (sR M h i.toNatClampNeg none) ad H1 locs1 ls a M' kc ks cs ss hF hfin hcc hss ⟨hP1, hD1, hS1, okM_sR hM (fun r hr => by cases hr), hn, hC, hex.tr (ex_sR M h _ _), hea⟩ (lvk_st (κ := ((p, l9, e, R, s, m, args, below, meth, c), (D, g, A, Q), M0, ad0)) (ex_sR M h _ _) hl) (okS_ex (κ := ((p, l9, e, R, s, m, args, below, meth, c), (D, g, A, Q), M0, ad0)) (ex_sR M h _ _) (okS_tl (okS_tl (okS_tl hst))))
/-! casts: what a list held -/
def ckI (h : Nat) : Mm → Option (Unit × Mm) := fun M => if decide (IB ≤ h) && decide (h < IB + 256) then some ((), M) else none
def ckK (kd h : Nat) : Mm → Option (Unit × Mm) := fun M => if decide (h < Mn M) && decide (Mk M h = kd) then some ((), M) else none
theorem N_castI (hc : Jc κ own cc nL fr mc ms lc) {index h : Nat} (hw : Cond.classLink own index inN ∈ TW) (hw2 : Cond.instantiable inN 1 ∈ TW) (hd : decode cc pc = .ok (.checkcast index, 3)) (kk : Jw κ (wM κ) nL fin (pc + 3) l ((28, .ref h) :: st) F) : Jw κ (wM κ) nL fin pc l ((16, .ref h) :: st) (wb (ckI h) (fun _ => F)) := by
  obtain ⟨⟨p, l9, e, R, s, m, args, below, meth, c⟩, ⟨D, g, A, Q⟩, M0, ad0⟩ := κ
  obtain ⟨hx, hb, hml, hown, hts, hK, hA, hst9, hlk, hR⟩ := hc
  intro M ad H locs ls a M' kc ks cs ss hF hfin hcc hss hW hl hst
  obtain ⟨hP, hD, hS, hM, hn, hC, hex, hea⟩ := id hW
  obtain ⟨r, M1, h1, hG⟩ := wb_some hF
  unfold ckI at h1
  split at h1
  case isFalse => cases h1
  case isTrue hin =>
  cases h1
  rw [Bool.and_eq_true, decide_eq_true_eq, decide_eq_true_eq] at hin
  obtain ⟨k, rfl⟩ : ∃ k, h = IB + k := ⟨h - IB, by omega⟩
  obtain ⟨cell, h1, h2, h3, h4⟩ := ((csl hC).2.2.1.2.2).1 k (by omega)
  have hlt : ad (IB + k) < s.heap.size := (Array.getElem?_eq_some_iff.mp h1).1
  obtain ⟨cC, hcC⟩ := classAt_of (hts _ hw2)
  refine va_castS (nm := inN) (cC := cC) hx hb hown (hts _ hw) hcC ⟨cell, by rw [hS.2.1 _ hlt h4]; exact h1, h2, h3⟩ hd ?_
  exact kk M ad H locs ls a M' kc ks cs ss hG hfin hcc hss hW hl (okS_cons (fun z hz => by cases hz; exact okH28_of hin) (okS_tl hst))
theorem N_castM (hc : Jc κ own cc nL fr mc ms lc) {index h : Nat} (hw : Cond.classLink own index RX8 ∈ TW) (hw2 : Cond.instantiable RX8 4 ∈ TW) (hd : decode cc pc = .ok (.checkcast index, 3)) (kk : Jw κ (wM κ) nL fin (pc + 3) l ((53, .ref h) :: st) F) : Jw κ (wM κ) nL fin pc l ((16, .ref h) :: st) (wb (ckK 53 h) (fun _ => F)) := by
  obtain ⟨⟨p, l9, e, R, s, m, args, below, meth, c⟩, ⟨D, g, A, Q⟩, M0, ad0⟩ := κ
  obtain ⟨hx, hb, hml, hown, hts, hK, hA, hst9, hlk, hR⟩ := hc
  intro M ad H locs ls a M' kc ks cs ss hF hfin hcc hss hW hl hst
  obtain ⟨hP, hD, hS, hM, hn, hC, hex, hea⟩ := id hW
  obtain ⟨r, M1, h1, hF⟩ := wb_some hF
  unfold ckK at h1
  split at h1
  case isFalse => cases h1
  case isTrue hin =>
  cases h1
  rw [Bool.and_eq_true, decide_eq_true_eq, decide_eq_true_eq] at hin
  have he := (wl_get g ad hin.1).trans (congrArg (fun x => some (ad h, x)) (ce_obj g ad hin.2 (Or.inr (by decide))))
  obtain ⟨cell, h1, h2, h3⟩ := va_recv hK hP (q := (RX8, TX8, 4)) rfl he
  obtain ⟨cC, hcC⟩ := classAt_of (hts _ hw2)
  refine va_castS (nm := RX8) (cC := cC) hx hb hown (hts _ hw) hcC ⟨cell, h1, h2, h3⟩ hd ?_
  exact kk M ad H locs ls a M' kc ks cs ss hF hfin hcc hss hW hl (okS_cons (fun z hz => by cases hz; exact okH_of hin.1 hin.2 (by omega)) (okS_tl hst))
theorem N_castZ (hc : Jc κ own cc nL fr mc ms lc) {index h : Nat} (hw : Cond.classLink own index "[Z" ∈ TW) (hd : decode cc pc = .ok (.checkcast index, 3)) (kk : Jw κ (wM κ) nL fin (pc + 3) l ((13, .ref h) :: st) F) : Jw κ (wM κ) nL fin pc l ((16, .ref h) :: st) (wb (ckK 13 h) (fun _ => F)) := by
  obtain ⟨⟨p, l9, e, R, s, m, args, below, meth, c⟩, ⟨D, g, A, Q⟩, M0, ad0⟩ := κ
  obtain ⟨hx, hb, hml, hown, hts, hK, hA, hst9, hlk, hR⟩ := hc
  intro M ad H locs ls a M' kc ks cs ss hF hfin hcc hss hW hl hst
  obtain ⟨hP, hD, hS, hM, hn, hC, hex, hea⟩ := id hW
  obtain ⟨r, M1, h1, hF⟩ := wb_some hF
  unfold ckK at h1
  split at h1
  case isFalse => cases h1
  case isTrue hin =>
  cases h1
  rw [Bool.and_eq_true, decide_eq_true_eq, decide_eq_true_eq] at hin
  have he := (wl_get g ad hin.1).trans (congrArg (fun x => some (ad h, x)) (ce_int g ad hin.2 (Or.inr (Or.inr rfl))))
  refine va_castA (nm := "[Z") hx hb hown (hts _ hw) hP h he (hK.2 3 (g 13, .boolean) rfl).2 hd ?_
  exact kk M ad H locs ls a M' kc ks cs ss hF hfin hcc hss hW hl (okS_cons (fun z hz => by cases hz; exact okH_of hin.1 hin.2 (by omega)) (okS_tl hst))

theorem N_castZt (hc : Jc κ own cc nL fr mc ms lc) {index h : Nat} (hw : Cond.classLink own index "[Z" ∈ TW) (hd : decode cc pc = .ok (.checkcast index, 3)) (kk : Jw κ (wM κ) nL fin (pc + 3) l ((13, .ref h) :: st) F) : Jw κ (wM κ) nL fin pc l ((13, .ref h) :: st) F := by
  obtain ⟨⟨p, l9, e, R, s, m, args, below, meth, c⟩, ⟨D, g, A, Q⟩, M0, ad0⟩ := κ
  obtain ⟨hx, hb, hml, hown, hts, hK, hA, hst9, hlk, hR⟩ := hc
  intro M ad H locs ls a M' kc ks cs ss hF hfin hcc hss hW hl hst
  obtain ⟨hP, hD, hS, hM, hn, hC, hex, hea⟩ := id hW
  obtain ⟨hh, hkd9⟩ : h < Mn M ∧ Mk M h = 13 := (okS_hd hst h rfl).at (by omega)
  have he := (wl_get g ad hh).trans (congrArg (fun x => some (ad h, x)) (ce_int g ad hkd9 (Or.inr (Or.inr rfl))))
  refine va_castA (nm := "[Z") hx hb hown (hts _ hw) hP h he (hK.2 3 (g 13, .boolean) rfl).2 hd ?_
  exact kk M ad H locs ls a M' kc ks cs ss hF hfin hcc hss hW hl hst
theorem N_castIt (hc : Jc κ own cc nL fr mc ms lc) {index h : Nat} (hw : Cond.classLink own index "[I" ∈ TW) (hd : decode cc pc = .ok (.checkcast index, 3)) (kk : Jw κ (wM κ) nL fin (pc + 3) l ((11, .ref h) :: st) F) : Jw κ (wM κ) nL fin pc l ((11, .ref h) :: st) F := by
  obtain ⟨⟨p, l9, e, R, s, m, args, below, meth, c⟩, ⟨D, g, A, Q⟩, M0, ad0⟩ := κ
  obtain ⟨hx, hb, hml, hown, hts, hK, hA, hst9, hlk, hR⟩ := hc
  intro M ad H locs ls a M' kc ks cs ss hF hfin hcc hss hW hl hst
  obtain ⟨hP, hD, hS, hM, hn, hC, hex, hea⟩ := id hW
  obtain ⟨hh, hkd9⟩ : h < Mn M ∧ Mk M h = 11 := (okS_hd hst h rfl).at (by omega)
  have he := (wl_get g ad hh).trans (congrArg (fun x => some (ad h, x)) (ce_int g ad hkd9 (Or.inr (Or.inl rfl))))
  refine va_castA (nm := "[I") hx hb hown (hts _ hw) hP h he (hK.2 1 (g 11, .int) rfl).2 hd ?_
  exact kk M ad H locs ls a M' kc ks cs ss hF hfin hcc hss hW hl hst
theorem N_castBt (hc : Jc κ own cc nL fr mc ms lc) {index h : Nat} (hw : Cond.classLink own index "[B" ∈ TW) (hd : decode cc pc = .ok (.checkcast index, 3)) (kk : Jw κ (wM κ) nL fin (pc + 3) l ((10, .ref h) :: st) F) : Jw κ (wM κ) nL fin pc l ((10, .ref h) :: st) F := by
  obtain ⟨⟨p, l9, e, R, s, m, args, below, meth, c⟩, ⟨D, g, A, Q⟩, M0, ad0⟩ := κ
  obtain ⟨hx, hb, hml, hown, hts, hK, hA, hst9, hlk, hR⟩ := hc
  intro M ad H locs ls a M' kc ks cs ss hF hfin hcc hss hW hl hst
  obtain ⟨hP, hD, hS, hM, hn, hC, hex, hea⟩ := id hW
  obtain ⟨hh, hkd9⟩ : h < Mn M ∧ Mk M h = 10 := (okS_hd hst h rfl).at (by omega)
  have he := (wl_get g ad hh).trans (congrArg (fun x => some (ad h, x)) (ce_int g ad hkd9 (Or.inl rfl)))
  refine va_castA (nm := "[B") hx hb hown (hts _ hw) hP h he (hK.2 0 (g 10, .byte) rfl).2 hd ?_
  exact kk M ad H locs ls a M' kc ks cs ss hF hfin hcc hss hW hl hst
/-- the mirror of Object[] -/
theorem N_ldcM (hc : Jc κ own cc nL fr mc ms lc) {index : Nat} (hw : Cond.classLink own index "[Ljava/lang/Object;" ∈ TW) (hd : decode cc pc = .ok (.ldc index, 2)) (kk : Jw κ (wM κ) nL fin (pc + 2) l ((24, .ref MB) :: st) F) : Jw κ (wM κ) nL fin pc l st F := by
  obtain ⟨⟨p, l9, e, R, s, m, args, below, meth, c⟩, ⟨D, g, A, Q⟩, M0, ad0⟩ := κ
  obtain ⟨hx, hb, hml, hown, hts, hK, hA, hst9, hlk, hR⟩ := hc
  intro M ad H locs ls a M' kc ks cs ss hF hfin hcc hss hW hl hst
  obtain ⟨hP, hD, hS, hM, hn, hC, hex, hea⟩ := id hW
  have e3 : MB = SB + 600 := rfl
  refine va_ldcM hx hb hown (hts _ hw) (csl hC).2.2.2.2.1 hd ?_
  exact kk M ad H locs ls a M' kc ks cs ss hF hfin hcc hss hW hl (okS_cons (fun z hz => by cases hz; exact okH24_of (by omega)) hst)
theorem N_getC (hc : Jc κ own cc nL fr mc ms lc) {index h : Nat} (h1 : Cond.methodLink own index gcY ∈ TW) (h2 : Cond.selects "[Ljava/lang/Object;" gcY gcY ∈ TW) (h3 : Cond.instanceMethod gcY ∈ TW) (h4 : Cond.native gcY ∈ TW) (hfr : 1 ≤ fr) (hlc : 22 ≤ lc) (hs8 : (st.map (fun q => q.2.category)).sum ≤ 8) (hd : decode cc pc = .ok (.invokevirtual index, 3)) (kk : Jw κ (wM κ) nL fin (pc + 3) l ((24, .ref MB) :: st) F) : Jw κ (wM κ) nL fin pc l ((15, .ref h) :: st) F := by
  obtain ⟨⟨p, l9, e, R, s, m, args, below, meth, c⟩, ⟨D, g, A, Q⟩, M0, ad0⟩ := κ
  obtain ⟨hx, hb, hml, hown, hts, hK, hA, hst9, hlk, hR⟩ := hc
  subst hR
  intro M ad H locs ls a M' kc ks cs ss hF hfin hcc hss hW hl hst
  obtain ⟨hP, hD, hS, hM, hn, hC, hex, hea⟩ := id hW
  have e3 : MB = SB + 600 := rfl
  obtain ⟨hh, hkd9⟩ : h < Mn M ∧ Mk M h = 15 := (okS_hd hst h rfl).at (by omega)
  have he := (wl_get g ad hh).trans (congrArg (fun x => some (ad h, x)) (ce_objs g ad hkd9))
  have hc1 : H[ad h]? = some _ := hP _ _ he
  have h8 : ((trS ad st).map fun v => v.category).sum ≤ 8 := by rw [cat_tr]; exact hs8
  refine va_getC (C := "[Ljava/lang/Object;") hx hb (by rw [hml]; exact hl.1.1.symm) hown (hts _ h1) (va_Nw.use rfl (cs_gc hC)) (hts _ h2) (hts _ h3) (hts _ h4) (csl hC).2.2.2.2.1 ⟨_, hc1, rfl, va_nmO (hK.2 5 (g 15, .object "java/lang/Object") rfl).2 (by decide)⟩ hfr ?_ hd ?_
  · show ((trS ad st).map fun v => v.category).sum + 14 ≤ lc
    omega
  · exact kk M ad H locs ls a M' kc ks cs ss hF hfin hcc hss hW hl (okS_cons (fun z hz => by cases hz; exact okH24_of (by omega)) (okS_tl hst))
/-- is it the mirror: yes -/
theorem N_acmpM (hc : Jc κ own cc nL fr mc ms lc) {off : Int} {tgt : Nat} (hd : decode cc pc = .ok (.if_acmp .ne off, 3)) (ht : (pc : Int) + off = (tgt : Int)) (kf : Jw κ (wM κ) nL fin (pc + 3) l st F) : Jw κ (wM κ) nL fin pc l ((24, .ref MB) :: (24, .ref MB) :: st) F := by
  obtain ⟨⟨p, l9, e, R, s, m, args, below, meth, c⟩, ⟨D, g, A, Q⟩, M0, ad0⟩ := κ
  obtain ⟨hx, hb, hml, hown, hts, hK, hA, hst9, hlk, hR⟩ := hc
  intro M ad H locs ls a M' kc ks cs ss hF hfin hcc hss hW hl hst
  obtain ⟨hP, hD, hS, hM, hn, hC, hex, hea⟩ := id hW
  refine lv_acmp_ne (rx := some (ad MB)) (ry := some (ad MB)) hx hb hd ht (fun z => ?_) (fun z => ?_)
  · exact absurd rfl z
  · exact kf M ad H locs ls a M' kc ks cs ss hF hfin hcc hss hW hl (okS_tl (okS_tl hst))
/-- is it the empty constant -/
theorem N_acmpE (hc : Jc κ own cc nL fr mc ms lc) {off : Int} {tgt h : Nat} (hd : decode cc pc = .ok (.if_acmp .eq off, 3)) (ht : (pc : Int) + off = (tgt : Int)) (kt : Jw κ (wM κ) nL fin tgt l st F1) (kf : Jw κ (wM κ) nL fin (pc + 3) l st F2) : Jw κ (wM κ) nL fin pc l ((17, .ref EB) :: (17, .ref h) :: st) (if h = EB then F1 else F2) := by
  obtain ⟨⟨p, l9, e, R, s, m, args, below, meth, c⟩, ⟨D, g, A, Q⟩, M0, ad0⟩ := κ
  obtain ⟨hx, hb, hml, hown, hts, hK, hA, hst9, hlk, hR⟩ := hc
  intro M ad H locs ls a M' kc ks cs ss hF hfin hcc hss hW hl hst
  obtain ⟨hP, hD, hS, hM, hn, hC, hex, hea⟩ := id hW
  refine lv_acmp_eq (rx := some (ad h)) (ry := some (ad EB)) hx hb hd ht (fun z => ?_) (fun z => ?_)
  · rcases okH17 (okS_hd (okS_tl hst) h rfl) with ⟨hh, hkd9⟩ | rfl
    · exfalso
      have z : ad h = ad EB := Option.some.inj z
      have hAh : A (ad h) := hD.2 h _ (wl_get g ad hh)
      obtain ⟨cell, -, -, -, -, -, -, hn9⟩ := (csl hC).2.2.2.1.2
      exact hn9 (z ▸ hAh)
    · rw [if_pos rfl] at hF
      exact kt M ad H locs ls a M' kc ks cs ss hF hfin hcc hss hW hl (okS_tl (okS_tl hst))
  · have hne : ¬ h = EB := fun q => z (by rw [q])
    rw [if_neg hne] at hF
    exact kf M ad H locs ls a M' kc ks cs ss hF hfin hcc hss hW hl (okS_tl (okS_tl hst))
end JvRows
