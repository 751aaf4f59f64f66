/-! A CONTRACT OUT OF ITS BODY'S Jg -/
def entL : List TV → List (Option TV)
  | [] => []
  | v :: vs => if v.2.category = 2 then some v :: none :: entL vs else some v :: entL vs
theorem entL_len (ad : Nat → Nat) : ∀ av : List TV, (lg_sl (trS ad av)).length = (entL av).length
  | [] => rfl
  | v :: vs => by
    have ih := entL_len ad vs
    unfold lg_sl at ih ⊢
    unfold trS at ih ⊢
    rw [List.map_cons, List.flatMap_cons, List.length_append, ih, tr_cat]
    rw [show entL (v :: vs) = if v.2.category = 2 then some v :: none :: entL vs else some v :: entL vs from rfl]
    by_cases h : v.2.category = 2
    · rw [if_pos h, if_pos h]; simp; omega
    · rw [if_neg h, if_neg h]; simp; omega
theorem entL_args (ad : Nat → Nat) : ∀ (av : List TV) (k i : Nat) (v : TV), (entL av)[i]? = some (some v) → (k + i, tr ad v.2) ∈ lv_args k (trS ad av) ∧ v ∈ av
  | [], _, _, _, h => by simp [entL] at h
  | a :: vs, k, i, v, h => by
    have e : trS ad (a :: vs) = tr ad a.2 :: trS ad vs := rfl
    rw [e]
    unfold lv_args
    rw [tr_cat]
    unfold entL at h
    by_cases hc : a.2.category = 2
    · rw [if_pos hc] at h ⊢
      match i, h with
      | 0, h =>
        cases h
        exact ⟨List.mem_cons_self, List.mem_cons_self⟩
      | 1, h => cases h
      | i + 2, h =>
        obtain ⟨h1, h2⟩ := entL_args ad vs (k + 2) i v h
        refine ⟨List.mem_cons_of_mem _ ?_, List.mem_cons_of_mem _ h2⟩
        rw [show k + (i + 2) = k + 2 + i by omega]
        exact h1
    · rw [if_neg hc] at h ⊢
      match i, h with
      | 0, h =>
        cases h
        exact ⟨List.mem_cons_self, List.mem_cons_self⟩
      | i + 1, h =>
        obtain ⟨h1, h2⟩ := entL_args ad vs (k + 1) i v h
        refine ⟨List.mem_cons_of_mem _ ?_, List.mem_cons_of_mem _ h2⟩
        rw [show k + (i + 1) = k + 1 + i by omega]
        exact h1
theorem lvk_entry {κ : Cx} {ad : Nat → Nat} {M : Mm} {nL j : Nat} {av : List TV} {l0 : List (Option TV)} (hav : okS0 M av) (hl : entL av ++ List.replicate j none = l0) (hn : (entL av).length ≤ nL) : lvk (wM κ) ad M ((lg_sl (trS ad av) ++ List.replicate (nL - (lg_sl (trS ad av)).length) Slot.unset).toArray) nL l0 := by
  obtain ⟨⟨p, l9, e, R, s, m, args, below, meth, c⟩, ⟨D, g, A, Q⟩, M0, ad0⟩ := κ
  have h := lv_entry (trS ad av) (n := nL) (by rw [entL_len]; exact hn)
  refine ⟨⟨h.1, h.2.1, fun _ q => by cases q⟩, fun i v hi => ?_⟩
  have hi2 : (entL av)[i]? = some (some v) := by
    rw [← hl] at hi
    by_cases q : i < (entL av).length
    · rw [List.getElem?_append_left q] at hi; exact hi
    · rw [List.getElem?_append_right (by omega), List.getElem?_replicate] at hi
      split at hi <;> cases hi
  obtain ⟨h1, h2⟩ := entL_args ad av 0 i v hi2
  rw [Nat.zero_add] at h1
  exact ⟨h.2.2 _ h1, hav v h2⟩
def Mh (κ : Cx) : String := match κ with
  | ((_, _, _, _, _, _, _, _, meth, _), _, _) => meth.name
section CtOf
variable {y : MethodName} {cc : ByteArray} {nL fr mc ms lc j : Nat} {own : String} {av : List TV} {l0 : List (Option TV)}

theorem Ct_I {F : Mm → Option (Int32 × Mm)} (hy : plainName y.cls = true) (hown : y.cls = own) (hl0 : entL av ++ List.replicate j none = l0) (hle : (entL av).length ≤ nL) (hb : ∀ (κ : Cx) (fin : Int32 → Mm → Prop), Jc κ own cc nL fr mc ms lc → Ed κ cc mc ms wI .ireturn fin → Jg κ (wM κ) nL fin 0 0 0 l0 [] F) : Ct wI y cc nL (some .int) fr mc ms lc av F := by
  intro l g D ad sz M r M' hl9 hF hav
  refine Met.ofW (cc := cc) (maxL := nL) (ret := (some .int)) hy rfl ?_
  intro p e s m args below meth c s₁ B hml hv
  obtain ⟨rfl, hsz, hP, hD0, hK, hM, hn, hC⟩ := hv
  subst hsz
  have hts : ∀ w ∈ TW, w.before (trS ad av).toArray s = true := fun w hw => atoms_spec (ws := wsY y cc nL (some .int)) B.pre w (List.mem_cons_of_mem _ hw)
  have hown9 : s.vm.findClass own = some m.cls := by rw [← hown]; exact findClass_of_methodNamed B.named
  rw [lg_entry_eq]
  refine hb ((p, l, e, rmR fr mc ms lc, s, m, (trS ad av).toArray, below, meth, c), (D, g, va_A (wl g ad M) s.heap.size, _), (M, ad)) (fun a M1 => a = r ∧ M1 = M') ⟨B.exec, B.bytes, hml, hown9, hts, hK, fun q h => Or.inr h, hl9, B.notSynchronized, rfl⟩ ?_ M ad s.heap [] _ r M' hF ⟨rfl, rfl⟩ ⟨hP, hD0.self, va_S.rf, hM, hn, hC, exM.rf M, exA.rf _ _⟩ (lvk_entry (κ := ((p, l, e, rmR fr mc ms lc, s, m, (trS ad av).toArray, below, meth, c), (D, g, va_A (wl g ad M) s.heap.size, _), (M, ad))) hav hl0 hle) (fun q hq => by cases hq)
  · intro a M1 ad1 H locs pc ls hfin hW hd
    obtain ⟨rfl, rfl⟩ := hfin
    obtain ⟨hP1, hD1, hS1, hM1, hn1, -, hx1, ha1⟩ := hW
    dsimp only [wI, wJ, wV, wF, wD, Option.toList]
    exact W.iret B.exec B.bytes B.returns (fun t ht hWm => ⟨⟨rfl, ad1, by rw [ht]; exact hP1, hD1, hM1, hn1, hx1, ha1⟩, hS1.F ht⟩) hS1.2.2 hd (hlocks := B.notSynchronized)
theorem Ct_J {F : Mm → Option (Int64 × Mm)} (hy : plainName y.cls = true) (hown : y.cls = own) (hl0 : entL av ++ List.replicate j none = l0) (hle : (entL av).length ≤ nL) (hb : ∀ (κ : Cx) (fin : Int64 → Mm → Prop), Jc κ own cc nL fr mc ms lc → Ed κ cc mc ms wJ .lreturn fin → Jg κ (wM κ) nL fin 0 0 0 l0 [] F) : Ct wJ y cc nL (some .long) fr mc ms lc av F := by
  intro l g D ad sz M r M' hl9 hF hav
  refine Met.ofW (cc := cc) (maxL := nL) (ret := (some .long)) hy rfl ?_
  intro p e s m args below meth c s₁ B hml hv
  obtain ⟨rfl, hsz, hP, hD0, hK, hM, hn, hC⟩ := hv
  subst hsz
  have hts : ∀ w ∈ TW, w.before (trS ad av).toArray s = true := fun w hw => atoms_spec (ws := wsY y cc nL (some .long)) B.pre w (List.mem_cons_of_mem _ hw)
  have hown9 : s.vm.findClass own = some m.cls := by rw [← hown]; exact findClass_of_methodNamed B.named
  rw [lg_entry_eq]
  refine hb ((p, l, e, rmR fr mc ms lc, s, m, (trS ad av).toArray, below, meth, c), (D, g, va_A (wl g ad M) s.heap.size, _), (M, ad)) (fun a M1 => a = r ∧ M1 = M') ⟨B.exec, B.bytes, hml, hown9, hts, hK, fun q h => Or.inr h, hl9, B.notSynchronized, rfl⟩ ?_ M ad s.heap [] _ r M' hF ⟨rfl, rfl⟩ ⟨hP, hD0.self, va_S.rf, hM, hn, hC, exM.rf M, exA.rf _ _⟩ (lvk_entry (κ := ((p, l, e, rmR fr mc ms lc, s, m, (trS ad av).toArray, below, meth, c), (D, g, va_A (wl g ad M) s.heap.size, _), (M, ad))) hav hl0 hle) (fun q hq => by cases hq)
  · intro a M1 ad1 H locs pc ls hfin hW hd
    obtain ⟨rfl, rfl⟩ := hfin
    obtain ⟨hP1, hD1, hS1, hM1, hn1, -, hx1, ha1⟩ := hW
    dsimp only [wI, wJ, wV, wF, wD, Option.toList]
    exact W.lret B.exec B.bytes B.returns (fun t ht hWm => ⟨⟨rfl, ad1, by rw [ht]; exact hP1, hD1, hM1, hn1, hx1, ha1⟩, hS1.F ht⟩) hS1.2.2 hd (hlocks := B.notSynchronized)
theorem Ct_V {F : Mm → Option (Unit × Mm)} (hy : plainName y.cls = true) (hown : y.cls = own) (hl0 : entL av ++ List.replicate j none = l0) (hle : (entL av).length ≤ nL) (hb : ∀ (κ : Cx) (fin : Unit → Mm → Prop), Jc κ own cc nL fr mc ms lc → Ed κ cc mc ms wV .return_ fin → Mh κ = y.name → Jg κ (wM κ) nL fin 0 0 0 l0 [] F) : Ct wV y cc nL none fr mc ms lc av F := by
  intro l g D ad sz M r M' hl9 hF hav
  refine Met.ofW (cc := cc) (maxL := nL) (ret := none) hy rfl ?_
  intro p e s m args below meth c s₁ B hml hv
  obtain ⟨rfl, hsz, hP, hD0, hK, hM, hn, hC⟩ := hv
  subst hsz
  have hts : ∀ w ∈ TW, w.before (trS ad av).toArray s = true := fun w hw => atoms_spec (ws := wsY y cc nL none) B.pre w (List.mem_cons_of_mem _ hw)
  have hown9 : s.vm.findClass own = some m.cls := by rw [← hown]; exact findClass_of_methodNamed B.named
  rw [lg_entry_eq]
  refine hb ((p, l, e, rmR fr mc ms lc, s, m, (trS ad av).toArray, below, meth, c), (D, g, va_A (wl g ad M) s.heap.size, _), (M, ad)) (fun a M1 => a = r ∧ M1 = M') ⟨B.exec, B.bytes, hml, hown9, hts, hK, fun q h => Or.inr h, hl9, B.notSynchronized, rfl⟩ ?_ (name_of_methodNamed B.named B.method).1 M ad s.heap [] _ r M' hF ⟨rfl, rfl⟩ ⟨hP, hD0.self, va_S.rf, hM, hn, hC, exM.rf M, exA.rf _ _⟩ (lvk_entry (κ := ((p, l, e, rmR fr mc ms lc, s, m, (trS ad av).toArray, below, meth, c), (D, g, va_A (wl g ad M) s.heap.size, _), (M, ad))) hav hl0 hle) (fun q hq => by cases hq)
  · intro a M1 ad1 H locs pc ls hfin hW hd
    obtain ⟨rfl, rfl⟩ := hfin
    obtain ⟨hP1, hD1, hS1, hM1, hn1, -, hx1, ha1⟩ := hW
    dsimp only [wI, wJ, wV, wF, wD, Option.toList]
    exact W.vret B.exec B.bytes B.returns (fun t ht hWm => ⟨⟨rfl, ad1, by rw [ht]; exact hP1, hD1, hM1, hn1, hx1, ha1⟩, hS1.F ht⟩) hS1.2.2 hd (hlocks := B.notSynchronized)
theorem Ct_F {F : Mm → Option (UInt32 × Mm)} (hy : plainName y.cls = true) (hown : y.cls = own) (hl0 : entL av ++ List.replicate j none = l0) (hle : (entL av).length ≤ nL) (hb : ∀ (κ : Cx) (fin : UInt32 → Mm → Prop), Jc κ own cc nL fr mc ms lc → Ed κ cc mc ms wF .freturn fin → Jg κ (wM κ) nL fin 0 0 0 l0 [] F) : Ct wF y cc nL (some .float) fr mc ms lc av F := by
  intro l g D ad sz M r M' hl9 hF hav
  refine Met.ofW (cc := cc) (maxL := nL) (ret := (some .float)) hy rfl ?_
  intro p e s m args below meth c s₁ B hml hv
  obtain ⟨rfl, hsz, hP, hD0, hK, hM, hn, hC⟩ := hv
  subst hsz
  have hts : ∀ w ∈ TW, w.before (trS ad av).toArray s = true := fun w hw => atoms_spec (ws := wsY y cc nL (some .float)) B.pre w (List.mem_cons_of_mem _ hw)
  have hown9 : s.vm.findClass own = some m.cls := by rw [← hown]; exact findClass_of_methodNamed B.named
  rw [lg_entry_eq]
  refine hb ((p, l, e, rmR fr mc ms lc, s, m, (trS ad av).toArray, below, meth, c), (D, g, va_A (wl g ad M) s.heap.size, _), (M, ad)) (fun a M1 => a = r ∧ M1 = M') ⟨B.exec, B.bytes, hml, hown9, hts, hK, fun q h => Or.inr h, hl9, B.notSynchronized, rfl⟩ ?_ M ad s.heap [] _ r M' hF ⟨rfl, rfl⟩ ⟨hP, hD0.self, va_S.rf, hM, hn, hC, exM.rf M, exA.rf _ _⟩ (lvk_entry (κ := ((p, l, e, rmR fr mc ms lc, s, m, (trS ad av).toArray, below, meth, c), (D, g, va_A (wl g ad M) s.heap.size, _), (M, ad))) hav hl0 hle) (fun q hq => by cases hq)
  · intro a M1 ad1 H locs pc ls hfin hW hd
    obtain ⟨rfl, rfl⟩ := hfin
    obtain ⟨hP1, hD1, hS1, hM1, hn1, -, hx1, ha1⟩ := hW
    dsimp only [wI, wJ, wV, wF, wD, Option.toList]
    exact W.fret B.exec B.bytes B.returns (fun t ht hWm => ⟨⟨rfl, ad1, by rw [ht]; exact hP1, hD1, hM1, hn1, hx1, ha1⟩, hS1.F ht⟩) hS1.2.2 hd (hlocks := B.notSynchronized)
theorem Ct_D {F : Mm → Option (UInt64 × Mm)} (hy : plainName y.cls = true) (hown : y.cls = own) (hl0 : entL av ++ List.replicate j none = l0) (hle : (entL av).length ≤ nL) (hb : ∀ (κ : Cx) (fin : UInt64 → Mm → Prop), Jc κ own cc nL fr mc ms lc → Ed κ cc mc ms wD .dreturn fin → Jg κ (wM κ) nL fin 0 0 0 l0 [] F) : Ct wD y cc nL (some .double) fr mc ms lc av F := by
  intro l g D ad sz M r M' hl9 hF hav
  refine Met.ofW (cc := cc) (maxL := nL) (ret := (some .double)) hy rfl ?_
  intro p e s m args below meth c s₁ B hml hv
  obtain ⟨rfl, hsz, hP, hD0, hK, hM, hn, hC⟩ := hv
  subst hsz
  have hts : ∀ w ∈ TW, w.before (trS ad av).toArray s = true := fun w hw => atoms_spec (ws := wsY y cc nL (some .double)) B.pre w (List.mem_cons_of_mem _ hw)
  have hown9 : s.vm.findClass own = some m.cls := by rw [← hown]; exact findClass_of_methodNamed B.named
  rw [lg_entry_eq]
  refine hb ((p, l, e, rmR fr mc ms lc, s, m, (trS ad av).toArray, below, meth, c), (D, g, va_A (wl g ad M) s.heap.size, _), (M, ad)) (fun a M1 => a = r ∧ M1 = M') ⟨B.exec, B.bytes, hml, hown9, hts, hK, fun q h => Or.inr h, hl9, B.notSynchronized, rfl⟩ ?_ M ad s.heap [] _ r M' hF ⟨rfl, rfl⟩ ⟨hP, hD0.self, va_S.rf, hM, hn, hC, exM.rf M, exA.rf _ _⟩ (lvk_entry (κ := ((p, l, e, rmR fr mc ms lc, s, m, (trS ad av).toArray, below, meth, c), (D, g, va_A (wl g ad M) s.heap.size, _), (M, ad))) hav hl0 hle) (fun q hq => by cases hq)
  · intro a M1 ad1 H locs pc ls hfin hW hd
    obtain ⟨rfl, rfl⟩ := hfin
    obtain ⟨hP1, hD1, hS1, hM1, hn1, -, hx1, ha1⟩ := hW
    dsimp only [wI, wJ, wV, wF, wD, Option.toList]
    exact W.dret B.exec B.bytes B.returns (fun t ht hWm => ⟨⟨rfl, ad1, by rw [ht]; exact hP1, hD1, hM1, hn1, hx1, ha1⟩, hS1.F ht⟩) hS1.2.2 hd (hlocks := B.notSynchronized)
theorem Ct_Z {ty : FieldType} {F : Mm → Option (Int32 × Mm)} (hn01 : narrow ty (.int 0) = .int 0 ∧ narrow ty (.int 1) = .int 1) (hy : plainName y.cls = true) (hown : y.cls = own) (hl0 : entL av ++ List.replicate j none = l0) (hle : (entL av).length ≤ nL) (hb : ∀ (κ : Cx) (fin : Int32 → Mm → Prop), Jc κ own cc nL fr mc ms lc → EdZ κ cc mc ms id fin → Jg κ (wM κ) nL fin 0 0 0 l0 [] F) : Ct wI y cc nL (some ty) fr mc ms lc av F := by
  intro l g D ad sz M r M' hl9 hF hav
  refine Met.ofW (cc := cc) (maxL := nL) (ret := (some ty)) hy rfl ?_
  intro p e s m args below meth c s₁ B hml hv
  obtain ⟨rfl, hsz, hP, hD0, hK, hM, hn, hC⟩ := hv
  subst hsz
  have hts : ∀ w ∈ TW, w.before (trS ad av).toArray s = true := fun w hw => atoms_spec (ws := wsY y cc nL (some ty)) B.pre w (List.mem_cons_of_mem _ hw)
  have hown9 : s.vm.findClass own = some m.cls := by rw [← hown]; exact findClass_of_methodNamed B.named
  rw [lg_entry_eq]
  refine hb ((p, l, e, rmR fr mc ms lc, s, m, (trS ad av).toArray, below, meth, c), (D, g, va_A (wl g ad M) s.heap.size, _), (M, ad)) (fun a M1 => a = r ∧ M1 = M') ⟨B.exec, B.bytes, hml, hown9, hts, hK, fun q h => Or.inr h, hl9, B.notSynchronized, rfl⟩ ?_ M ad s.heap [] _ r M' hF ⟨rfl, rfl⟩ ⟨hP, hD0.self, va_S.rf, hM, hn, hC, exM.rf M, exA.rf _ _⟩ (lvk_entry (κ := ((p, l, e, rmR fr mc ms lc, s, m, (trS ad av).toArray, below, meth, c), (D, g, va_A (wl g ad M) s.heap.size, _), (M, ad))) hav hl0 hle) (fun q hq => by cases hq)
  · intro a M1 ad1 H locs pc ls h01 hfin hW hd
    obtain ⟨rfl, rfl⟩ := hfin
    obtain ⟨hP1, hD1, hS1, hM1, hn1, -, hx1, ha1⟩ := hW
    dsimp only
    exact W.zret B.exec B.bytes B.returns (by rcases h01 with h | h <;> rw [show id a = a from rfl] at * <;> subst h <;> first | exact hn01.1 | exact hn01.2) (fun t ht hWm => ⟨⟨rfl, ad1, by rw [ht]; exact hP1, hD1, hM1, hn1, hx1, ha1⟩, hS1.F ht⟩) hS1.2.2 hd (hlocks := B.notSynchronized)
theorem CtX_I {F : Mm → Option ((Nat ⊕ Int32) × Mm)} (hy : plainName y.cls = true) (hown : y.cls = own) (hl0 : entL av ++ List.replicate j none = l0) (hle : (entL av).length ≤ nL) (hb : ∀ (κ : Cx) (fin : (Nat ⊕ Int32) → Mm → Prop), Jc κ own cc nL fr mc ms lc → Ed κ cc mc ms (fun (b : Int32) => wI b) .ireturn (fun b M => fin (.inr b) M) → EdX κ mc ms fin → Jg κ (wM κ) nL fin 0 0 0 l0 [] F) : CtX wI y cc nL (some .int) fr mc ms lc av F := by
  intro l g D ad sz M r M' hl9 hF hav
  refine vx_ofW (cc := cc) (maxL := nL) (ret := (some .int)) hy rfl ?_
  intro p e s m args below meth c s₁ B hml hex0 hv
  obtain ⟨rfl, hsz, hP, hD0, hK, hM, hn, hC⟩ := hv
  subst hsz
  have hts : ∀ w ∈ TW, w.before (trS ad av).toArray s = true := fun w hw => atoms_spec (ws := wsY y cc nL (some .int)) B.pre w (List.mem_cons_of_mem _ hw)
  have hown9 : s.vm.findClass own = some m.cls := by rw [← hown]; exact findClass_of_methodNamed B.named
  rw [lg_entry_eq]
  refine hb ((p, l, e, rmR fr mc ms lc, s, m, (trS ad av).toArray, below, meth, c), (D, g, va_A (wl g ad M) s.heap.size, _), (M, ad)) (fun a M1 => a = r ∧ M1 = M') ⟨B.exec, B.bytes, hml, hown9, hts, hK, fun q h => Or.inr h, hl9, B.notSynchronized, rfl⟩ ?_ ?_ M ad s.heap [] _ r M' hF ⟨rfl, rfl⟩ ⟨hP, hD0.self, va_S.rf, hM, hn, hC, exM.rf M, exA.rf _ _⟩ (lvk_entry (κ := ((p, l, e, rmR fr mc ms lc, s, m, (trS ad av).toArray, below, meth, c), (D, g, va_A (wl g ad M) s.heap.size, _), (M, ad))) hav hl0 hle) (fun q hq => by cases hq)
  · intro a M1 ad1 H locs pc ls hfin hW hd
    obtain ⟨rfl, rfl⟩ := hfin
    obtain ⟨hP1, hD1, hS1, hM1, hn1, -, hx1, ha1⟩ := hW
    show W _ _ _ _ _ _ _ _ _ _ _ _ _ _ (vx_MQ _ _ _ _ _ _ _ _) (F0 _ _ _ [.int a])
    exact vx_ret (W.iret B.exec B.bytes B.returns (fun t ht hWm => ⟨⟨⟨a, rfl, rfl⟩, ad1, by rw [ht]; exact hP1, hD1, hM1, hn1, hx1, ha1⟩, hS1.F ht⟩) hS1.2.2 hd (hlocks := B.notSynchronized))
  · refine ⟨hex0, _, _, rfl, fun k M1 ad1 H locs t hfin hW hal hz hk => ?_⟩
    obtain ⟨rfl, rfl⟩ := hfin
    obtain ⟨hP1, hD1, hS1, hM1, hn1, -, hx1, ha1⟩ := hW
    exact ⟨⟨⟨k, rfl, rfl⟩, ad1, fun i q hq => (hP1 i q hq).kept (hk _ (hP1 i q hq).lt), hD1, hM1, hn1, hx1, ha1⟩, Nat.le_trans hS1.1 hz, fun q h1 h2 => by rw [hk q (Nat.lt_of_lt_of_le h1 hS1.1)]; exact hS1.2.1 q h1 h2⟩
theorem CtX_V {F : Mm → Option ((Nat ⊕ Unit) × Mm)} (hy : plainName y.cls = true) (hown : y.cls = own) (hl0 : entL av ++ List.replicate j none = l0) (hle : (entL av).length ≤ nL) (hb : ∀ (κ : Cx) (fin : (Nat ⊕ Unit) → Mm → Prop), Jc κ own cc nL fr mc ms lc → Ed κ cc mc ms (fun (b : Unit) => wV b) .return_ (fun b M => fin (.inr b) M) → EdX κ mc ms fin → Jg κ (wM κ) nL fin 0 0 0 l0 [] F) : CtX wV y cc nL none fr mc ms lc av F := by
  intro l g D ad sz M r M' hl9 hF hav
  refine vx_ofW (cc := cc) (maxL := nL) (ret := none) hy rfl ?_
  intro p e s m args below meth c s₁ B hml hex0 hv
  obtain ⟨rfl, hsz, hP, hD0, hK, hM, hn, hC⟩ := hv
  subst hsz
  have hts : ∀ w ∈ TW, w.before (trS ad av).toArray s = true := fun w hw => atoms_spec (ws := wsY y cc nL none) B.pre w (List.mem_cons_of_mem _ hw)
  have hown9 : s.vm.findClass own = some m.cls := by rw [← hown]; exact findClass_of_methodNamed B.named
  rw [lg_entry_eq]
  refine hb ((p, l, e, rmR fr mc ms lc, s, m, (trS ad av).toArray, below, meth, c), (D, g, va_A (wl g ad M) s.heap.size, _), (M, ad)) (fun a M1 => a = r ∧ M1 = M') ⟨B.exec, B.bytes, hml, hown9, hts, hK, fun q h => Or.inr h, hl9, B.notSynchronized, rfl⟩ ?_ ?_ M ad s.heap [] _ r M' hF ⟨rfl, rfl⟩ ⟨hP, hD0.self, va_S.rf, hM, hn, hC, exM.rf M, exA.rf _ _⟩ (lvk_entry (κ := ((p, l, e, rmR fr mc ms lc, s, m, (trS ad av).toArray, below, meth, c), (D, g, va_A (wl g ad M) s.heap.size, _), (M, ad))) hav hl0 hle) (fun q hq => by cases hq)
  · intro a M1 ad1 H locs pc ls hfin hW hd
    obtain ⟨rfl, rfl⟩ := hfin
    obtain ⟨hP1, hD1, hS1, hM1, hn1, -, hx1, ha1⟩ := hW
    show W _ _ _ _ _ _ _ _ _ _ _ _ _ _ (vx_MQ _ _ _ _ _ _ _ _) (F0 _ _ _ [])
    exact vx_ret (W.vret B.exec B.bytes B.returns (fun t ht hWm => ⟨⟨⟨a, rfl, rfl⟩, ad1, by rw [ht]; exact hP1, hD1, hM1, hn1, hx1, ha1⟩, hS1.F ht⟩) hS1.2.2 hd (hlocks := B.notSynchronized))
  · refine ⟨hex0, _, _, rfl, fun k M1 ad1 H locs t hfin hW hal hz hk => ?_⟩
    obtain ⟨rfl, rfl⟩ := hfin
    obtain ⟨hP1, hD1, hS1, hM1, hn1, -, hx1, ha1⟩ := hW
    exact ⟨⟨⟨k, rfl, rfl⟩, ad1, fun i q hq => (hP1 i q hq).kept (hk _ (hP1 i q hq).lt), hD1, hM1, hn1, hx1, ha1⟩, Nat.le_trans hS1.1 hz, fun q h1 h2 => by rw [hk q (Nat.lt_of_lt_of_le h1 hS1.1)]; exact hS1.2.1 q h1 h2⟩
end CtOf
theorem J_callVi {α : Type} {κ : Cx} {own : String} {cc : ByteArray} {nL fr mc ms lc cs ss pc : Nat} {l : List (Option TV)} {st : List TV} {ci N : Nat} {C : String} {T : u_T} {ty : Nat → FieldType} {fin : α → Mm → Prop} (hc : Jc κ own cc nL fr mc ms lc) (hcl : ClOk ci C T N ty) {h : Nat} {y : MethodName} {b : ByteArray} {nL' : Nat} {ret' : Option FieldType} {fr' mc' ms' lc' index n : Nat} {As : List TV} {st0 : List TV} {Fc : Mm → Option (Int32 × Mm)} (hct : Ct wI y b nL' ret' fr' mc' ms' lc' ((ci, .ref h) :: As) Fc) (hd : decode cc pc = .ok (.invokevirtual index, 3)) (hmo : MOk y n) (hyc : y.cls = C) (hw1 : Cond.methodLink own index y ∈ TW) (hw2 : Cond.instanceMethod y ∈ TW) (hw3 : Cond.selects C y y ∈ TW) (hw4 : Cond.initialized C ∈ TW) (hc5 : Cond.code y b nL' ret' ∈ TW) (hlen : As.length = n) (hr1 : fr' + 1 ≤ fr) (hr2 : 8 + (nL' + 11) + lc' ≤ lc) (hr3 : cs + mc' ≤ mc) (hr4 : ss + ms' ≤ ms) (hs8 : (st.map (fun q => q.2.category)).sum ≤ 8) (hst0 : st0 = As.reverse ++ (ci, .ref h) :: st) {G1 : Int32 → Mm → Option (α × Mm)} (kk : ∀ r, Jg κ (wM κ) nL fin (cs + mc') (ss + ms') (pc + 3) l ((0, .int r) :: st) (G1 r)) : Jg κ (wM κ) nL fin cs ss pc l st0 (bnd Fc G1) :=
  J_callV hc hcl hct hd hmo hyc hw1 hw2 hw3 hw4 hc5 hlen hr1 hr2 hr3 hr4 hs8 hst0 (fun _ _ h => by cases h) kk
theorem J_callVj {α : Type} {κ : Cx} {own : String} {cc : ByteArray} {nL fr mc ms lc cs ss pc : Nat} {l : List (Option TV)} {st : List TV} {ci N : Nat} {C : String} {T : u_T} {ty : Nat → FieldType} {fin : α → Mm → Prop} (hc : Jc κ own cc nL fr mc ms lc) (hcl : ClOk ci C T N ty) {h : Nat} {y : MethodName} {b : ByteArray} {nL' : Nat} {ret' : Option FieldType} {fr' mc' ms' lc' index n : Nat} {As : List TV} {st0 : List TV} {Fc : Mm → Option (Int64 × Mm)} (hct : Ct wJ y b nL' ret' fr' mc' ms' lc' ((ci, .ref h) :: As) Fc) (hd : decode cc pc = .ok (.invokevirtual index, 3)) (hmo : MOk y n) (hyc : y.cls = C) (hw1 : Cond.methodLink own index y ∈ TW) (hw2 : Cond.instanceMethod y ∈ TW) (hw3 : Cond.selects C y y ∈ TW) (hw4 : Cond.initialized C ∈ TW) (hc5 : Cond.code y b nL' ret' ∈ TW) (hlen : As.length = n) (hr1 : fr' + 1 ≤ fr) (hr2 : 8 + (nL' + 11) + lc' ≤ lc) (hr3 : cs + mc' ≤ mc) (hr4 : ss + ms' ≤ ms) (hs8 : (st.map (fun q => q.2.category)).sum ≤ 8) (hst0 : st0 = As.reverse ++ (ci, .ref h) :: st) {G1 : Int64 → Mm → Option (α × Mm)} (kk : ∀ r, Jg κ (wM κ) nL fin (cs + mc') (ss + ms') (pc + 3) l ((0, .long r) :: st) (G1 r)) : Jg κ (wM κ) nL fin cs ss pc l st0 (bnd Fc G1) :=
  J_callV hc hcl hct hd hmo hyc hw1 hw2 hw3 hw4 hc5 hlen hr1 hr2 hr3 hr4 hs8 hst0 (fun _ _ h => by cases h) kk
theorem J_callVv {α : Type} {κ : Cx} {own : String} {cc : ByteArray} {nL fr mc ms lc cs ss pc : Nat} {l : List (Option TV)} {st : List TV} {ci N : Nat} {C : String} {T : u_T} {ty : Nat → FieldType} {fin : α → Mm → Prop} (hc : Jc κ own cc nL fr mc ms lc) (hcl : ClOk ci C T N ty) {h : Nat} {y : MethodName} {b : ByteArray} {nL' : Nat} {ret' : Option FieldType} {fr' mc' ms' lc' index n : Nat} {As : List TV} {st0 : List TV} {Fc : Mm → Option (Unit × Mm)} (hct : Ct wV y b nL' ret' fr' mc' ms' lc' ((ci, .ref h) :: As) Fc) (hd : decode cc pc = .ok (.invokevirtual index, 3)) (hmo : MOk y n) (hyc : y.cls = C) (hw1 : Cond.methodLink own index y ∈ TW) (hw2 : Cond.instanceMethod y ∈ TW) (hw3 : Cond.selects C y y ∈ TW) (hw4 : Cond.initialized C ∈ TW) (hc5 : Cond.code y b nL' ret' ∈ TW) (hlen : As.length = n) (hr1 : fr' + 1 ≤ fr) (hr2 : 8 + (nL' + 11) + lc' ≤ lc) (hr3 : cs + mc' ≤ mc) (hr4 : ss + ms' ≤ ms) (hs8 : (st.map (fun q => q.2.category)).sum ≤ 8) (hst0 : st0 = As.reverse ++ (ci, .ref h) :: st) {G1 : Unit → Mm → Option (α × Mm)} (kk : ∀ r, Jg κ (wM κ) nL fin (cs + mc') (ss + ms') (pc + 3) l (st) (G1 r)) : Jg κ (wM κ) nL fin cs ss pc l st0 (bnd Fc G1) :=
  J_callV hc hcl hct hd hmo hyc hw1 hw2 hw3 hw4 hc5 hlen hr1 hr2 hr3 hr4 hs8 hst0 (fun _ _ h => by cases h) kk
theorem J_callSi {α : Type} {κ : Cx} {own : String} {cc : ByteArray} {nL fr mc ms lc cs ss pc : Nat} {l : List (Option TV)} {st : List TV} {fin : α → Mm → Prop} (hc : Jc κ own cc nL fr mc ms lc) {y : MethodName} {b : ByteArray} {nL' : Nat} {ret' : Option FieldType} {fr' mc' ms' lc' index n : Nat} {As : List TV} {st0 : List TV} {Fc : Mm → Option (Int32 × Mm)} (hct : Ct wI y b nL' ret' fr' mc' ms' lc' As Fc) (hd : decode cc pc = .ok (.invokestatic index, 3)) (hmo : MOk y n) (hw1 : Cond.methodLink own index y ∈ TW) (hw2 : Cond.static y ∈ TW) (hw4 : Cond.initialized y.cls ∈ TW) (hc5 : Cond.code y b nL' ret' ∈ TW) (hlen : As.length = n) (hr1 : fr' + 1 ≤ fr) (hr2 : 8 + (nL' + 11) + lc' ≤ lc) (hr3 : cs + mc' ≤ mc) (hr4 : ss + ms' ≤ ms) (hs8 : (st.map (fun q => q.2.category)).sum ≤ 8) (hst0 : st0 = As.reverse ++ st) {G1 : Int32 → Mm → Option (α × Mm)} (kk : ∀ r, Jg κ (wM κ) nL fin (cs + mc') (ss + ms') (pc + 3) l ((0, .int r) :: st) (G1 r)) : Jg κ (wM κ) nL fin cs ss pc l st0 (bnd Fc G1) :=
  J_callS hc hct hd hmo hw1 hw2 hw4 hc5 hlen hr1 hr2 hr3 hr4 hs8 hst0 (fun _ _ h => by cases h) kk
theorem J_callSj {α : Type} {κ : Cx} {own : String} {cc : ByteArray} {nL fr mc ms lc cs ss pc : Nat} {l : List (Option TV)} {st : List TV} {fin : α → Mm → Prop} (hc : Jc κ own cc nL fr mc ms lc) {y : MethodName} {b : ByteArray} {nL' : Nat} {ret' : Option FieldType} {fr' mc' ms' lc' index n : Nat} {As : List TV} {st0 : List TV} {Fc : Mm → Option (Int64 × Mm)} (hct : Ct wJ y b nL' ret' fr' mc' ms' lc' As Fc) (hd : decode cc pc = .ok (.invokestatic index, 3)) (hmo : MOk y n) (hw1 : Cond.methodLink own index y ∈ TW) (hw2 : Cond.static y ∈ TW) (hw4 : Cond.initialized y.cls ∈ TW) (hc5 : Cond.code y b nL' ret' ∈ TW) (hlen : As.length = n) (hr1 : fr' + 1 ≤ fr) (hr2 : 8 + (nL' + 11) + lc' ≤ lc) (hr3 : cs + mc' ≤ mc) (hr4 : ss + ms' ≤ ms) (hs8 : (st.map (fun q => q.2.category)).sum ≤ 8) (hst0 : st0 = As.reverse ++ st) {G1 : Int64 → Mm → Option (α × Mm)} (kk : ∀ r, Jg κ (wM κ) nL fin (cs + mc') (ss + ms') (pc + 3) l ((0, .long r) :: st) (G1 r)) : Jg κ (wM κ) nL fin cs ss pc l st0 (bnd Fc G1) :=
  J_callS hc hct hd hmo hw1 hw2 hw4 hc5 hlen hr1 hr2 hr3 hr4 hs8 hst0 (fun _ _ h => by cases h) kk
theorem J_callSv {α : Type} {κ : Cx} {own : String} {cc : ByteArray} {nL fr mc ms lc cs ss pc : Nat} {l : List (Option TV)} {st : List TV} {fin : α → Mm → Prop} (hc : Jc κ own cc nL fr mc ms lc) {y : MethodName} {b : ByteArray} {nL' : Nat} {ret' : Option FieldType} {fr' mc' ms' lc' index n : Nat} {As : List TV} {st0 : List TV} {Fc : Mm → Option (Unit × Mm)} (hct : Ct wV y b nL' ret' fr' mc' ms' lc' As Fc) (hd : decode cc pc = .ok (.invokestatic index, 3)) (hmo : MOk y n) (hw1 : Cond.methodLink own index y ∈ TW) (hw2 : Cond.static y ∈ TW) (hw4 : Cond.initialized y.cls ∈ TW) (hc5 : Cond.code y b nL' ret' ∈ TW) (hlen : As.length = n) (hr1 : fr' + 1 ≤ fr) (hr2 : 8 + (nL' + 11) + lc' ≤ lc) (hr3 : cs + mc' ≤ mc) (hr4 : ss + ms' ≤ ms) (hs8 : (st.map (fun q => q.2.category)).sum ≤ 8) (hst0 : st0 = As.reverse ++ st) {G1 : Unit → Mm → Option (α × Mm)} (kk : ∀ r, Jg κ (wM κ) nL fin (cs + mc') (ss + ms') (pc + 3) l (st) (G1 r)) : Jg κ (wM κ) nL fin cs ss pc l st0 (bnd Fc G1) :=
  J_callS hc hct hd hmo hw1 hw2 hw4 hc5 hlen hr1 hr2 hr3 hr4 hs8 hst0 (fun _ _ h => by cases h) kk
theorem J_callSNi {α : Type} {κ : Cx} {own : String} {cc : ByteArray} {nL fr mc ms lc cs ss pc : Nat} {l : List (Option TV)} {st : List TV} {fin : α → Mm → Prop} (hc : Jc κ own cc nL fr mc ms lc) {y : MethodName} {b : ByteArray} {nL' : Nat} {ret' : Option FieldType} {fr' mc' ms' lc' index n : Nat} {As : List TV} {st0 : List TV} {Fc : Mm → Option (Int32 × Mm)} (hct : Ct wI y b nL' ret' fr' mc' ms' lc' As Fc) (hd : decode cc pc = .ok (.invokestatic index, 3)) (hmo : MOk y n) (hw1 : (own, index, y, "DotRuns") ∈ nMw) (hw2 : Cond.static y ∈ TW) (hw4 : Cond.initialized y.cls ∈ TW) (hc5 : Cond.code y b nL' ret' ∈ TW) (hlen : As.length = n) (hr1 : fr' + 1 ≤ fr) (hr2 : 8 + (nL' + 11) + lc' ≤ lc) (hr3 : cs + mc' ≤ mc) (hr4 : ss + ms' ≤ ms) (hs8 : (st.map (fun q => q.2.category)).sum ≤ 8) (hst0 : st0 = As.reverse ++ st) {G1 : Int32 → Mm → Option (α × Mm)} (kk : ∀ r, Jg κ (wM κ) nL fin (cs + mc') (ss + ms') (pc + 3) l ((0, .int r) :: st) (G1 r)) : Jg κ (wM κ) nL fin cs ss pc l st0 (bnd Fc G1) :=
  J_callSN hc hct hd hmo hw1 hw2 hw4 hc5 hlen hr1 hr2 hr3 hr4 hs8 hst0 (fun _ _ h => by cases h) kk
theorem J_callSNj {α : Type} {κ : Cx} {own : String} {cc : ByteArray} {nL fr mc ms lc cs ss pc : Nat} {l : List (Option TV)} {st : List TV} {fin : α → Mm → Prop} (hc : Jc κ own cc nL fr mc ms lc) {y : MethodName} {b : ByteArray} {nL' : Nat} {ret' : Option FieldType} {fr' mc' ms' lc' index n : Nat} {As : List TV} {st0 : List TV} {Fc : Mm → Option (Int64 × Mm)} (hct : Ct wJ y b nL' ret' fr' mc' ms' lc' As Fc) (hd : decode cc pc = .ok (.invokestatic index, 3)) (hmo : MOk y n) (hw1 : (own, index, y, "DotRuns") ∈ nMw) (hw2 : Cond.static y ∈ TW) (hw4 : Cond.initialized y.cls ∈ TW) (hc5 : Cond.code y b nL' ret' ∈ TW) (hlen : As.length = n) (hr1 : fr' + 1 ≤ fr) (hr2 : 8 + (nL' + 11) + lc' ≤ lc) (hr3 : cs + mc' ≤ mc) (hr4 : ss + ms' ≤ ms) (hs8 : (st.map (fun q => q.2.category)).sum ≤ 8) (hst0 : st0 = As.reverse ++ st) {G1 : Int64 → Mm → Option (α × Mm)} (kk : ∀ r, Jg κ (wM κ) nL fin (cs + mc') (ss + ms') (pc + 3) l ((0, .long r) :: st) (G1 r)) : Jg κ (wM κ) nL fin cs ss pc l st0 (bnd Fc G1) :=
  J_callSN hc hct hd hmo hw1 hw2 hw4 hc5 hlen hr1 hr2 hr3 hr4 hs8 hst0 (fun _ _ h => by cases h) kk
theorem J_callSNv {α : Type} {κ : Cx} {own : String} {cc : ByteArray} {nL fr mc ms lc cs ss pc : Nat} {l : List (Option TV)} {st : List TV} {fin : α → Mm → Prop} (hc : Jc κ own cc nL fr mc ms lc) {y : MethodName} {b : ByteArray} {nL' : Nat} {ret' : Option FieldType} {fr' mc' ms' lc' index n : Nat} {As : List TV} {st0 : List TV} {Fc : Mm → Option (Unit × Mm)} (hct : Ct wV y b nL' ret' fr' mc' ms' lc' As Fc) (hd : decode cc pc = .ok (.invokestatic index, 3)) (hmo : MOk y n) (hw1 : (own, index, y, "DotRuns") ∈ nMw) (hw2 : Cond.static y ∈ TW) (hw4 : Cond.initialized y.cls ∈ TW) (hc5 : Cond.code y b nL' ret' ∈ TW) (hlen : As.length = n) (hr1 : fr' + 1 ≤ fr) (hr2 : 8 + (nL' + 11) + lc' ≤ lc) (hr3 : cs + mc' ≤ mc) (hr4 : ss + ms' ≤ ms) (hs8 : (st.map (fun q => q.2.category)).sum ≤ 8) (hst0 : st0 = As.reverse ++ st) {G1 : Unit → Mm → Option (α × Mm)} (kk : ∀ r, Jg κ (wM κ) nL fin (cs + mc') (ss + ms') (pc + 3) l (st) (G1 r)) : Jg κ (wM κ) nL fin cs ss pc l st0 (bnd Fc G1) :=
  J_callSN hc hct hd hmo hw1 hw2 hw4 hc5 hlen hr1 hr2 hr3 hr4 hs8 hst0 (fun _ _ h => by cases h) kk
theorem J_callIv {α : Type} {κ : Cx} {own : String} {cc : ByteArray} {nL fr mc ms lc cs ss pc : Nat} {l : List (Option TV)} {st : List TV} {ci : Nat} {fin : α → Mm → Prop} (hc : Jc κ own cc nL fr mc ms lc) (h9 : obK ci) {h : Nat} {y : MethodName} {b : ByteArray} {nL' : Nat} {fr' mc' ms' lc' index n : Nat} {As : List TV} {st0 : List TV} {Fc : Mm → Option (Unit × Mm)} (hct : Ct wV y b nL' none fr' mc' ms' lc' ((ci, .ref h) :: As) Fc) (hd : decode cc pc = .ok (.invokespecial index, 3)) (hmo : MOk y n) (hyn : y.name = "<init>") (hw1 : Cond.methodLink own index y ∈ TW) (hw2 : Cond.instanceMethod y ∈ TW) (hw4 : Cond.initialized y.cls ∈ TW) (hc5 : Cond.code y b nL' none ∈ TW) (hlen : As.length = n) (hr1 : fr' + 1 ≤ fr) (hr2 : 8 + (nL' + 11) + lc' ≤ lc) (hr3 : cs + mc' ≤ mc) (hr4 : ss + ms' ≤ ms) (hs8 : (st.map (fun q => q.2.category)).sum ≤ 8) (hst0 : st0 = As.reverse ++ (ci, .ref h) :: st) {G1 : Unit → Mm → Option (α × Mm)} (kk : ∀ r, Jg κ (wM κ) nL fin (cs + mc') (ss + ms') (pc + 3) l (st) (G1 r)) : Jg κ (wM κ) nL fin cs ss pc l st0 (bnd Fc G1) :=
  J_callI hc h9 hct hd hmo hyn hw1 hw2 hw4 hc5 hlen hr1 hr2 hr3 hr4 hs8 hst0 (fun _ _ h => by cases h) kk
theorem J_callINv {α : Type} {κ : Cx} {own : String} {cc : ByteArray} {nL fr mc ms lc cs ss pc : Nat} {l : List (Option TV)} {st : List TV} {ci : Nat} {fin : α → Mm → Prop} (hc : Jc κ own cc nL fr mc ms lc) (h9 : obK ci) {h : Nat} {y : MethodName} {b : ByteArray} {nL' : Nat} {fr' mc' ms' lc' index n : Nat} {As : List TV} {st0 : List TV} {Fc : Mm → Option (Unit × Mm)} (hct : Ct wV y b nL' none fr' mc' ms' lc' ((ci, .ref h) :: As) Fc) (hd : decode cc pc = .ok (.invokespecial index, 3)) (hmo : MOk y n) (hyn : y.name = "<init>") (hw1 : (own, index, y, "DotRuns") ∈ nMw) (hw2 : Cond.instanceMethod y ∈ TW) (hw4 : Cond.initialized y.cls ∈ TW) (hc5 : Cond.code y b nL' none ∈ TW) (hlen : As.length = n) (hr1 : fr' + 1 ≤ fr) (hr2 : 8 + (nL' + 11) + lc' ≤ lc) (hr3 : cs + mc' ≤ mc) (hr4 : ss + ms' ≤ ms) (hs8 : (st.map (fun q => q.2.category)).sum ≤ 8) (hst0 : st0 = As.reverse ++ (ci, .ref h) :: st) {G1 : Unit → Mm → Option (α × Mm)} (kk : ∀ r, Jg κ (wM κ) nL fin (cs + mc') (ss + ms') (pc + 3) l (st) (G1 r)) : Jg κ (wM κ) nL fin cs ss pc l st0 (bnd Fc G1) :=
  J_callIN hc h9 hct hd hmo hyn hw1 hw2 hw4 hc5 hlen hr1 hr2 hr3 hr4 hs8 hst0 (fun _ _ h => by cases h) kk
theorem J_callVXi {α : Type} {κ : Cx} {own : String} {cc : ByteArray} {nL fr mc ms lc cs ss pc : Nat} {l : List (Option TV)} {st : List TV} {ci N : Nat} {C : String} {T : u_T} {ty : Nat → FieldType} {fin : (Nat ⊕ α) → Mm → Prop} (hc : Jc κ own cc nL fr mc ms lc) (hX : EdX κ mc ms fin) (hcl : ClOk ci C T N ty) {h : Nat} {y : MethodName} {b : ByteArray} {nL' : Nat} {ret' : Option FieldType} {fr' mc' ms' lc' index n : Nat} {As : List TV} {st0 : List TV} {Fc : Mm → Option ((Nat ⊕ Int32) × Mm)} (hct : CtX wI y b nL' ret' fr' mc' ms' lc' ((ci, .ref h) :: As) Fc) (hd : decode cc pc = .ok (.invokevirtual index, 3)) (hmo : MOk y n) (hyc : y.cls = C) (hw1 : Cond.methodLink own index y ∈ TW) (hw2 : Cond.instanceMethod y ∈ TW) (hw3 : Cond.selects C y y ∈ TW) (hw4 : Cond.initialized C ∈ TW) (hc5 : Cond.code y b nL' ret' ∈ TW) (hlen : As.length = n) (hr1 : fr' + 1 ≤ fr) (hr2 : 8 + (nL' + 11) + lc' ≤ lc) (hr3 : cs + mc' ≤ mc) (hr4 : ss + ms' ≤ ms) (hs8 : (st.map (fun q => q.2.category)).sum ≤ 8) (hst0 : st0 = As.reverse ++ (ci, .ref h) :: st) {G1 : Int32 → Mm → Option ((Nat ⊕ α) × Mm)} (kk : ∀ r, Jg κ (wM κ) nL fin (cs + mc') (ss + ms') (pc + 3) l ((0, .int r) :: st) (G1 r)) : Jg κ (wM κ) nL fin cs ss pc l st0 (bndX Fc G1) :=
  J_callVX hc hX hcl hct hd hmo hyc hw1 hw2 hw3 hw4 hc5 hlen hr1 hr2 hr3 hr4 hs8 hst0 (fun _ _ h => by cases h) kk
theorem J_callVXv {α : Type} {κ : Cx} {own : String} {cc : ByteArray} {nL fr mc ms lc cs ss pc : Nat} {l : List (Option TV)} {st : List TV} {ci N : Nat} {C : String} {T : u_T} {ty : Nat → FieldType} {fin : (Nat ⊕ α) → Mm → Prop} (hc : Jc κ own cc nL fr mc ms lc) (hX : EdX κ mc ms fin) (hcl : ClOk ci C T N ty) {h : Nat} {y : MethodName} {b : ByteArray} {nL' : Nat} {ret' : Option FieldType} {fr' mc' ms' lc' index n : Nat} {As : List TV} {st0 : List TV} {Fc : Mm → Option ((Nat ⊕ Unit) × Mm)} (hct : CtX wV y b nL' ret' fr' mc' ms' lc' ((ci, .ref h) :: As) Fc) (hd : decode cc pc = .ok (.invokevirtual index, 3)) (hmo : MOk y n) (hyc : y.cls = C) (hw1 : Cond.methodLink own index y ∈ TW) (hw2 : Cond.instanceMethod y ∈ TW) (hw3 : Cond.selects C y y ∈ TW) (hw4 : Cond.initialized C ∈ TW) (hc5 : Cond.code y b nL' ret' ∈ TW) (hlen : As.length = n) (hr1 : fr' + 1 ≤ fr) (hr2 : 8 + (nL' + 11) + lc' ≤ lc) (hr3 : cs + mc' ≤ mc) (hr4 : ss + ms' ≤ ms) (hs8 : (st.map (fun q => q.2.category)).sum ≤ 8) (hst0 : st0 = As.reverse ++ (ci, .ref h) :: st) {G1 : Unit → Mm → Option ((Nat ⊕ α) × Mm)} (kk : ∀ r, Jg κ (wM κ) nL fin (cs + mc') (ss + ms') (pc + 3) l (st) (G1 r)) : Jg κ (wM κ) nL fin cs ss pc l st0 (bndX Fc G1) :=
  J_callVX hc hX hcl hct hd hmo hyc hw1 hw2 hw3 hw4 hc5 hlen hr1 hr2 hr3 hr4 hs8 hst0 (fun _ _ h => by cases h) kk
theorem J_callSXi {α : Type} {κ : Cx} {own : String} {cc : ByteArray} {nL fr mc ms lc cs ss pc : Nat} {l : List (Option TV)} {st : List TV} {fin : (Nat ⊕ α) → Mm → Prop} (hc : Jc κ own cc nL fr mc ms lc) (hX : EdX κ mc ms fin) {y : MethodName} {b : ByteArray} {nL' : Nat} {ret' : Option FieldType} {fr' mc' ms' lc' index n : Nat} {As : List TV} {st0 : List TV} {Fc : Mm → Option ((Nat ⊕ Int32) × Mm)} (hct : CtX wI y b nL' ret' fr' mc' ms' lc' As Fc) (hd : decode cc pc = .ok (.invokestatic index, 3)) (hmo : MOk y n) (hw1 : Cond.methodLink own index y ∈ TW) (hw2 : Cond.static y ∈ TW) (hw4 : Cond.initialized y.cls ∈ TW) (hc5 : Cond.code y b nL' ret' ∈ TW) (hlen : As.length = n) (hr1 : fr' + 1 ≤ fr) (hr2 : 8 + (nL' + 11) + lc' ≤ lc) (hr3 : cs + mc' ≤ mc) (hr4 : ss + ms' ≤ ms) (hs8 : (st.map (fun q => q.2.category)).sum ≤ 8) (hst0 : st0 = As.reverse ++ st) {G1 : Int32 → Mm → Option ((Nat ⊕ α) × Mm)} (kk : ∀ r, Jg κ (wM κ) nL fin (cs + mc') (ss + ms') (pc + 3) l ((0, .int r) :: st) (G1 r)) : Jg κ (wM κ) nL fin cs ss pc l st0 (bndX Fc G1) :=
  J_callSX hc hX hct hd hmo hw1 hw2 hw4 hc5 hlen hr1 hr2 hr3 hr4 hs8 hst0 (fun _ _ h => by cases h) kk
theorem J_callSXv {α : Type} {κ : Cx} {own : String} {cc : ByteArray} {nL fr mc ms lc cs ss pc : Nat} {l : List (Option TV)} {st : List TV} {fin : (Nat ⊕ α) → Mm → Prop} (hc : Jc κ own cc nL fr mc ms lc) (hX : EdX κ mc ms fin) {y : MethodName} {b : ByteArray} {nL' : Nat} {ret' : Option FieldType} {fr' mc' ms' lc' index n : Nat} {As : List TV} {st0 : List TV} {Fc : Mm → Option ((Nat ⊕ Unit) × Mm)} (hct : CtX wV y b nL' ret' fr' mc' ms' lc' As Fc) (hd : decode cc pc = .ok (.invokestatic index, 3)) (hmo : MOk y n) (hw1 : Cond.methodLink own index y ∈ TW) (hw2 : Cond.static y ∈ TW) (hw4 : Cond.initialized y.cls ∈ TW) (hc5 : Cond.code y b nL' ret' ∈ TW) (hlen : As.length = n) (hr1 : fr' + 1 ≤ fr) (hr2 : 8 + (nL' + 11) + lc' ≤ lc) (hr3 : cs + mc' ≤ mc) (hr4 : ss + ms' ≤ ms) (hs8 : (st.map (fun q => q.2.category)).sum ≤ 8) (hst0 : st0 = As.reverse ++ st) {G1 : Unit → Mm → Option ((Nat ⊕ α) × Mm)} (kk : ∀ r, Jg κ (wM κ) nL fin (cs + mc') (ss + ms') (pc + 3) l (st) (G1 r)) : Jg κ (wM κ) nL fin cs ss pc l st0 (bndX Fc G1) :=
  J_callSX hc hX hct hd hmo hw1 hw2 hw4 hc5 hlen hr1 hr2 hr3 hr4 hs8 hst0 (fun _ _ h => by cases h) kk
theorem J_mmax {σ α : Type} {κ : Cx} {ω : Wp σ} {own : String} {cc : ByteArray} {nL fr mc ms lc : Nat} {fin : α → σ → Prop} {cs ss pc : Nat} {l : List (Option TV)} {st : List TV} {F : σ → Option (α × σ)} (hc : Jc κ own cc nL fr mc ms lc) {x y : Int32} {index : Nat} (hd : decode cc pc = .ok (.invokestatic index, 3)) (h1 : Cond.methodLink own index Lib.Math.max.name ∈ TW) (h2 : Cond.static Lib.Math.max.name ∈ TW) (h3 : Cond.initialized "java/lang/Math" ∈ TW) (h4 : Cond.code Lib.Math.max.name Lib.Math.max.code 2 (some .int) ∈ TW) (hfr : 1 ≤ fr) (hlc : 21 ≤ lc) (hcs : cs ≤ mc) (hss : ss ≤ ms) (hs8 : (st.map (fun q => q.2.category)).sum ≤ 8) (kk : Jg κ ω nL fin cs ss (pc + 3) l ((0, .int (if x < y then y else x)) :: st) F) : Jg κ ω nL fin cs ss pc l ((0, .int y) :: (0, .int x) :: st) F := by
  obtain ⟨⟨p, l9, e, R, s, m, args, below, meth, c⟩, ⟨D, g, A, Q⟩, M0, ad0⟩ := κ
  obtain ⟨hx, hb, hml, hown, hts, hK, hA, hst9, hlk, hR⟩ := hc
  subst hR
  intro M ad H locs ls a M' hF hfin hW hl hst
  have h8 : ((trS ad st).map fun v => v.category).sum ≤ 8 := by rw [cat_tr]; exact hs8
  refine va_mmax hx hb (by rw [hml]; exact hl.1.1.symm) hown (hts _ h1) (hts _ h2) (hts _ h3) (hts _ h4) hfr ?_ hcs hss hd ?_
  · show ((trS ad st).map fun v => v.category).sum + 13 ≤ lc
    omega
  · exact kk M ad H locs ls a M' hF hfin hW hl (okS_cons okW_i (okS_tl (okS_tl hst)))
theorem J_mmin {σ α : Type} {κ : Cx} {ω : Wp σ} {own : String} {cc : ByteArray} {nL fr mc ms lc : Nat} {fin : α → σ → Prop} {cs ss pc : Nat} {l : List (Option TV)} {st : List TV} {F : σ → Option (α × σ)} (hc : Jc κ own cc nL fr mc ms lc) {x y : Int32} {index : Nat} (hd : decode cc pc = .ok (.invokestatic index, 3)) (h1 : Cond.methodLink own index Lib.Math.min.name ∈ TW) (h2 : Cond.static Lib.Math.min.name ∈ TW) (h3 : Cond.initialized "java/lang/Math" ∈ TW) (h4 : Cond.code Lib.Math.min.name Lib.Math.min.code 2 (some .int) ∈ TW) (hfr : 1 ≤ fr) (hlc : 21 ≤ lc) (hcs : cs ≤ mc) (hss : ss ≤ ms) (hs8 : (st.map (fun q => q.2.category)).sum ≤ 8) (kk : Jg κ ω nL fin cs ss (pc + 3) l ((0, .int (if y < x then y else x)) :: st) F) : Jg κ ω nL fin cs ss pc l ((0, .int y) :: (0, .int x) :: st) F := by
  obtain ⟨⟨p, l9, e, R, s, m, args, below, meth, c⟩, ⟨D, g, A, Q⟩, M0, ad0⟩ := κ
  obtain ⟨hx, hb, hml, hown, hts, hK, hA, hst9, hlk, hR⟩ := hc
  subst hR
  intro M ad H locs ls a M' hF hfin hW hl hst
  have h8 : ((trS ad st).map fun v => v.category).sum ≤ 8 := by rw [cat_tr]; exact hs8
  refine va_mmin hx hb (by rw [hml]; exact hl.1.1.symm) hown (hts _ h1) (hts _ h2) (hts _ h3) (hts _ h4) hfr ?_ hcs hss hd ?_
  · show ((trS ad st).map fun v => v.category).sum + 13 ≤ lc
    omega
  · exact kk M ad H locs ls a M' hF hfin hW hl (okS_cons okW_i (okS_tl (okS_tl hst)))
theorem J_mabs {σ α : Type} {κ : Cx} {ω : Wp σ} {own : String} {cc : ByteArray} {nL fr mc ms lc : Nat} {fin : α → σ → Prop} {cs ss pc : Nat} {l : List (Option TV)} {st : List TV} {F : σ → Option (α × σ)} (hc : Jc κ own cc nL fr mc ms lc) {x : Int32} {index : Nat} (hd : decode cc pc = .ok (.invokestatic index, 3)) (h1 : Cond.methodLink own index Lib.Math.abs.name ∈ TW) (h2 : Cond.static Lib.Math.abs.name ∈ TW) (h3 : Cond.initialized "java/lang/Math" ∈ TW) (h4 : Cond.code Lib.Math.abs.name Lib.Math.abs.code 1 (some .int) ∈ TW) (hfr : 1 ≤ fr) (hlc : 21 ≤ lc) (hcs : cs ≤ mc) (hss : ss ≤ ms) (hs8 : (st.map (fun q => q.2.category)).sum ≤ 8) (kk : Jg κ ω nL fin cs ss (pc + 3) l ((0, .int (if 0 ≤ x then x else 0 - x)) :: st) F) : Jg κ ω nL fin cs ss pc l ((0, .int x) :: st) F := by
  obtain ⟨⟨p, l9, e, R, s, m, args, below, meth, c⟩, ⟨D, g, A, Q⟩, M0, ad0⟩ := κ
  obtain ⟨hx, hb, hml, hown, hts, hK, hA, hst9, hlk, hR⟩ := hc
  subst hR
  intro M ad H locs ls a M' hF hfin hW hl hst
  have h8 : ((trS ad st).map fun v => v.category).sum ≤ 8 := by rw [cat_tr]; exact hs8
  refine va_mabs hx hb (by rw [hml]; exact hl.1.1.symm) hown (hts _ h1) (hts _ h2) (hts _ h3) (hts _ h4) hfr ?_ hcs hss hd ?_
  · show ((trS ad st).map fun v => v.category).sum + 13 ≤ lc
    omega
  · exact kk M ad H locs ls a M' hF hfin hW hl (okS_cons okW_i (okS_tl hst))
/-! small words of the programs; rows over them -/
def mmax (x y : Int32) : Int32 := if x < y then y else x
def mmin (x y : Int32) : Int32 := if y < x then y else x
def mabs (x : Int32) : Int32 := if 0 ≤ x then x else 0 - x
def iush (x y : Int32) : Int32 := (x.toUInt32 >>> (y.toUInt32 &&& Int32.toUInt32 31)).toInt32
def lsh (x : Int64) (y : Int32) : Int64 := x <<< (y.toInt64 &&& 63)
def lush (x : Int64) (y : Int32) : Int64 := (x.toUInt64 >>> (y.toInt64.toUInt64 &&& Int64.toUInt64 63)).toInt64
def i2b (x : Int32) : Int32 := x.toInt8.toInt32
def i2c (x : Int32) : Int32 := (x.toUInt32 % 65536).toInt32
def fu : Nat := 20000
theorem J_iushrN {σ α : Type} {κ : Cx} {ω : Wp σ} {own : String} {cc : ByteArray} {nL fr mc ms lc : Nat} {fin : α → σ → Prop} {cs ss pc : Nat} {l : List (Option TV)} {st : List TV} {F : σ → Option (α × σ)} (hc : Jc κ own cc nL fr mc ms lc) {x y : Int32} (hd : decode cc pc = .ok (.iushr, 1)) (kk : Jg κ ω nL fin cs ss (pc + 1) l ((0, .int (iush x y)) :: st) F) : Jg κ ω nL fin cs ss pc l ((0, .int y) :: (0, .int x) :: st) F := J_iushr hc hd kk
theorem J_lshlN {σ α : Type} {κ : Cx} {ω : Wp σ} {own : String} {cc : ByteArray} {nL fr mc ms lc : Nat} {fin : α → σ → Prop} {cs ss pc : Nat} {l : List (Option TV)} {st : List TV} {F : σ → Option (α × σ)} (hc : Jc κ own cc nL fr mc ms lc) {x : Int64} {y : Int32} (hd : decode cc pc = .ok (.lshl, 1)) (kk : Jg κ ω nL fin cs ss (pc + 1) l ((0, .long (lsh x y)) :: st) F) : Jg κ ω nL fin cs ss pc l ((0, .int y) :: (0, .long x) :: st) F := J_lshl hc hd kk
theorem J_lushrN {σ α : Type} {κ : Cx} {ω : Wp σ} {own : String} {cc : ByteArray} {nL fr mc ms lc : Nat} {fin : α → σ → Prop} {cs ss pc : Nat} {l : List (Option TV)} {st : List TV} {F : σ → Option (α × σ)} (hc : Jc κ own cc nL fr mc ms lc) {x : Int64} {y : Int32} (hd : decode cc pc = .ok (.lushr, 1)) (kk : Jg κ ω nL fin cs ss (pc + 1) l ((0, .long (lush x y)) :: st) F) : Jg κ ω nL fin cs ss pc l ((0, .int y) :: (0, .long x) :: st) F := J_lushr hc hd kk
theorem J_i2bN {σ α : Type} {κ : Cx} {ω : Wp σ} {own : String} {cc : ByteArray} {nL fr mc ms lc : Nat} {fin : α → σ → Prop} {cs ss pc : Nat} {l : List (Option TV)} {st : List TV} {F : σ → Option (α × σ)} (hc : Jc κ own cc nL fr mc ms lc) {x : Int32} (hd : decode cc pc = .ok (.i2b, 1)) (kk : Jg κ ω nL fin cs ss (pc + 1) l ((0, .int (i2b x)) :: st) F) : Jg κ ω nL fin cs ss pc l ((0, .int x) :: st) F := J_i2b hc hd kk
theorem J_i2cN {σ α : Type} {κ : Cx} {ω : Wp σ} {own : String} {cc : ByteArray} {nL fr mc ms lc : Nat} {fin : α → σ → Prop} {cs ss pc : Nat} {l : List (Option TV)} {st : List TV} {F : σ → Option (α × σ)} (hc : Jc κ own cc nL fr mc ms lc) {x : Int32} (hd : decode cc pc = .ok (.i2c, 1)) (kk : Jg κ ω nL fin cs ss (pc + 1) l ((0, .int (i2c x)) :: st) F) : Jg κ ω nL fin cs ss pc l ((0, .int x) :: st) F := J_i2c hc hd kk
theorem J_swc {σ α : Type} {κ : Cx} {ω : Wp σ} {own : String} {cc : ByteArray} {nL fr mc ms lc : Nat} {fin : α → σ → Prop} {cs ss pc : Nat} {l : List (Option TV)} {st : List TV} {F1 F2 : σ → Option (α × σ)} (hc : Jc κ own cc nL fr mc ms lc) {dflt lo hi : Int} {offs : Array Int} {len : Nat} {x w : Int32} {v off : Int} {tgt : Nat} {dec : Decidable (x = w)} (hd : decode cc pc = .ok (.tableswitch dflt lo hi offs, len)) (hlo : lo ≤ v) (hhi : v ≤ hi) (ho : offs[(v - lo).toNat]? = some off) (ht : (pc : Int) + off = (tgt : Int)) (hw : w.toInt = v) (kt : Jg κ ω nL fin cs ss tgt l st F1) (kf : x.toInt ≠ v → Jg κ ω nL fin cs ss pc l ((0, .int x) :: st) F2) : Jg κ ω nL fin cs ss pc l ((0, .int x) :: st) (if x = w then F1 else F2) := by
  by_cases h : x = w
  · subst h
    rw [if_pos rfl]
    subst hw
    obtain ⟨⟨p, l9, e, R, s, m, args, below, meth, c⟩, ⟨D, g, A, Q⟩, M0, ad0⟩ := κ
    obtain ⟨hx, hb, -⟩ := hc
    intro M ad H locs ls a M' hF hfin hW hl hst
    refine lv_tableIn hx hb hd (by omega) (by omega) ho ht ?_
    exact kt M ad H locs ls a M' hF hfin hW hl (okS_tl hst)
  · rw [if_neg h]
    exact kf (fun q => h (by subst hw; exact Int32.toInt_inj.mp q))
theorem J_swd {σ α : Type} {κ : Cx} {ω : Wp σ} {own : String} {cc : ByteArray} {nL fr mc ms lc : Nat} {fin : α → σ → Prop} {cs ss pc : Nat} {l : List (Option TV)} {st : List TV} {F : σ → Option (α × σ)} (hc : Jc κ own cc nL fr mc ms lc) {dflt lo hi : Int} {offs : Array Int} {len : Nat} {x : Int32} {tgt : Nat} (hd : decode cc pc = .ok (.tableswitch dflt lo hi offs, len)) (ho : x.toInt < lo ∨ hi < x.toInt) (ht : (pc : Int) + dflt = (tgt : Int)) (kt : Jg κ ω nL fin cs ss tgt l st F) : Jg κ ω nL fin cs ss pc l ((0, .int x) :: st) F := by
  obtain ⟨⟨p, l9, e, R, s, m, args, below, meth, c⟩, ⟨D, g, A, Q⟩, M0, ad0⟩ := κ
  obtain ⟨hx, hb, -⟩ := hc
  intro M ad H locs ls a M' hF hfin hW hl hst
  refine lv_tableOut hx hb hd ho ht ?_
  exact kt M ad H locs ls a M' hF hfin hW hl (okS_tl hst)
theorem J_nn0 {α : Type} {κ : Cx} {nL : Nat} {fin : α → Mm → Prop} {cs ss pc k : Nat} {l : List (Option TV)} {st : List TV} {r : Option Nat} {G1 : Nat → Mm → Option (α × Mm)} (kk : ∀ x, Jg κ (wM κ) nL fin cs ss pc l ((k, .ref x) :: st) (G1 x)) : Jg κ (wM κ) nL fin cs ss pc l ((k, va_rf r) :: st) (bnd (nn r) G1) := by
  cases r with
  | none =>
    obtain ⟨⟨p, l9, e, R, s, m, args, below, meth, c⟩, ⟨D, g, A, Q⟩, M0, ad0⟩ := κ
    intro M ad H locs ls a M' hF
    cases hF
  | some x => exact kk x
theorem J_nn1 {α : Type} {κ : Cx} {nL : Nat} {fin : α → Mm → Prop} {cs ss pc k : Nat} {l : List (Option TV)} {q : TV} {st : List TV} {r : Option Nat} {G1 : Nat → Mm → Option (α × Mm)} (kk : ∀ x, Jg κ (wM κ) nL fin cs ss pc l (q :: (k, .ref x) :: st) (G1 x)) : Jg κ (wM κ) nL fin cs ss pc l (q :: (k, va_rf r) :: st) (bnd (nn r) G1) := by
  cases r with
  | none =>
    obtain ⟨⟨p, l9, e, R, s, m, args, below, meth, c⟩, ⟨D, g, A, Q⟩, M0, ad0⟩ := κ
    intro M ad H locs ls a M' hF
    cases hF
  | some x => exact kk x
theorem J_ldcS {α : Type} {κ : Cx} {own : String} {cc : ByteArray} {nL fr mc ms lc : Nat} {fin : α → Mm → Prop} {cs ss pc : Nat} {l : List (Option TV)} {st : List TV} {F : Mm → Option (α × Mm)} (hc : Jc κ own cc nL fr mc ms lc) {i index : Nat} {tx : String} (hi : sK[i]? = some (own, index, tx)) (hd : decode cc pc = .ok (.ldc index, 2)) (kk : Jg κ (wM κ) nL fin cs ss (pc + 2) l ((20, .ref (SB + i)) :: st) F) : Jg κ (wM κ) nL fin cs ss pc l st F := by
  obtain ⟨⟨p, l9, e, R, s, m, args, below, meth, c⟩, ⟨D, g, A, Q⟩, M0, ad0⟩ := κ
  obtain ⟨hx, hb, hml, hown, hts, hK, hA, hst9, hlk, hR⟩ := hc
  intro M ad H locs ls a M' hF hfin hW hl hst
  obtain ⟨hP, hD, hS, hM, hn, hC, hex, hea⟩ := id hW
  have hi28 : i < 28 := Nat.lt_of_lt_of_le (List.getElem?_eq_some_iff.mp hi).1 (by decide)
  refine va_ldcS hx hb hown (hC.1 i _ hi) hd ?_
  exact kk M ad H locs ls a M' hF hfin hW hl (okS_cons (fun z hz => by cases hz; exact Or.inr (Or.inr (Or.inr (Or.inl ⟨rfl, by omega, by omega⟩)))) hst)
theorem dvX0 : ∀ j, j < 7 → defaultValue (tyX0 j) = dv 0 j := by
  intro j hj
  match j, hj with
  | 0, _ => rfl
  | 1, _ => rfl
  | 2, _ => rfl
  | 3, _ => rfl
  | 4, _ => rfl
  | 5, _ => rfl
  | 6, _ => rfl
  | n + 7, h => exact absurd h (by omega)
theorem dvX1 : ∀ j, j < 3 → defaultValue (tyX1 j) = dv 1 j := by
  intro j hj
  match j, hj with
  | 0, _ => rfl
  | 1, _ => rfl
  | 2, _ => rfl
  | n + 3, h => exact absurd h (by omega)
theorem dvX2 : ∀ j, j < 5 → defaultValue (tyX2 j) = dv 2 j := by
  intro j hj
  match j, hj with
  | 0, _ => rfl
  | 1, _ => rfl
  | 2, _ => rfl
  | 3, _ => rfl
  | 4, _ => rfl
  | n + 5, h => exact absurd h (by omega)
theorem dvX3 : ∀ j, j < 5 → defaultValue (tyX3 j) = dv 3 j := by
  intro j hj
  match j, hj with
  | 0, _ => rfl
  | 1, _ => rfl
  | 2, _ => rfl
  | 3, _ => rfl
  | 4, _ => rfl
  | n + 5, h => exact absurd h (by omega)
theorem dvX4 : ∀ j, j < 8 → defaultValue (tyX4 j) = dv 4 j := by
  intro j hj
  match j, hj with
  | 0, _ => rfl
  | 1, _ => rfl
  | 2, _ => rfl
  | 3, _ => rfl
  | 4, _ => rfl
  | 5, _ => rfl
  | 6, _ => rfl
  | 7, _ => rfl
  | n + 8, h => exact absurd h (by omega)
theorem dvX5 : ∀ j, j < 16 → defaultValue (tyX5 j) = dv 5 j := by
  intro j hj
  match j, hj with
  | 0, _ => rfl
  | 1, _ => rfl
  | 2, _ => rfl
  | 3, _ => rfl
  | 4, _ => rfl
  | 5, _ => rfl
  | 6, _ => rfl
  | 7, _ => rfl
  | 8, _ => rfl
  | 9, _ => rfl
  | 10, _ => rfl
  | 11, _ => rfl
  | 12, _ => rfl
  | 13, _ => rfl
  | 14, _ => rfl
  | 15, _ => rfl
  | n + 16, h => exact absurd h (by omega)
theorem dvX6 : ∀ j, j < 5 → defaultValue (tyX6 j) = dv 6 j := by
  intro j hj
  match j, hj with
  | 0, _ => rfl
  | 1, _ => rfl
  | 2, _ => rfl
  | 3, _ => rfl
  | 4, _ => rfl
  | n + 5, h => exact absurd h (by omega)
theorem dvX7 : ∀ j, j < 8 → defaultValue (tyX7 j) = dv 7 j := by
  intro j hj
  match j, hj with
  | 0, _ => rfl
  | 1, _ => rfl
  | 2, _ => rfl
  | 3, _ => rfl
  | 4, _ => rfl
  | 5, _ => rfl
  | 6, _ => rfl
  | 7, _ => rfl
  | n + 8, h => exact absurd h (by omega)
theorem dvX8 : ∀ j, j < 4 → defaultValue (tyX8 j) = dv 53 j := by
  intro j hj
  match j, hj with
  | 0, _ => rfl
  | 1, _ => rfl
  | 2, _ => rfl
  | 3, _ => rfl
  | n + 4, h => exact absurd h (by omega)
theorem dvX9 : ∀ j, j < 13 → defaultValue (tyX9 j) = dv 54 j := by
  intro j hj
  match j, hj with
  | 0, _ => rfl
  | 1, _ => rfl
  | 2, _ => rfl
  | 3, _ => rfl
  | 4, _ => rfl
  | 5, _ => rfl
  | 6, _ => rfl
  | 7, _ => rfl
  | 8, _ => rfl
  | 9, _ => rfl
  | 10, _ => rfl
  | 11, _ => rfl
  | 12, _ => rfl
  | n + 13, h => exact absurd h (by omega)
theorem dvX10 : ∀ j, j < 2 → defaultValue (tyX10 j) = dv 55 j := by
  intro j hj
  match j, hj with
  | 0, _ => rfl
  | 1, _ => rfl
  | n + 2, h => exact absurd h (by omega)
theorem dvJ0 : ∀ j, j < 4 → defaultValue (tyJ0 j) = dv 40 j := by
  intro j hj
  match j, hj with
  | 0, _ => rfl
  | 1, _ => rfl
  | 2, _ => rfl
  | 3, _ => rfl
  | n + 4, h => exact absurd h (by omega)
theorem dvJ4 : ∀ j, j < 4 → defaultValue (tyJ4 j) = dv 41 j := by
  intro j hj
  match j, hj with
  | 0, _ => rfl
  | 1, _ => rfl
  | 2, _ => rfl
  | 3, _ => rfl
  | n + 4, h => exact absurd h (by omega)
theorem dvJx35411 : ∀ j, j < 4 → defaultValue (tyJx35411 j) = dv 43 j := by
  intro j hj
  match j, hj with
  | 0, _ => rfl
  | 1, _ => rfl
  | 2, _ => rfl
  | 3, _ => rfl
  | n + 4, h => exact absurd h (by omega)
theorem dvJx4a65c : ∀ j, j < 3 → defaultValue (tyJx4a65c j) = dv 44 j := by
  intro j hj
  match j, hj with
  | 0, _ => rfl
  | 1, _ => rfl
  | 2, _ => rfl
  | n + 3, h => exact absurd h (by omega)
