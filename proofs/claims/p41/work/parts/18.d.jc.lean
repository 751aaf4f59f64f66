/-! CONTRACTS OF PROGRAMS THAT TELL WHAT THEY MAKE -/
def tI (v : Int32) : Option TV := some (0, .int v)
def tV (_ : Unit) : Option TV := none
def tA (k : Nat) (h : Nat) : Option TV := some (k, .ref h)
def tO (k : Nat) (r : Option Nat) : Option TV := some (k, va_rf r)
def Cw {β : Type} (wt : β → Option TV) (y : MethodName) (b : ByteArray) (nL' : Nat) (ret' : Option FieldType) (fr' lc' : Nat) (av : List TV) (Fc : Mm → Option (β × Mm × Nat × Nat)) : Prop :=
  ∀ (l : Launch) (g : Nat → ClassId) (D : va_G) (ad : Nat → Nat) (sz : Nat) (M : Mm) (r : β) (M' : Mm) (kc ks : Nat), l.stackTraces = false → Fc M = some (r, M', kc, ks) → okS0 M av →
    Met l y (wsY y b nL' ret') (rmR fr' kc ks lc') (va_Pc (trS ad av) (fun U => U.heap.size = sz ∧ wM0 g D ad M U)) (fun _ s0 oc t => (∃ wv, oc = .returned wv ∧ ∃ ad', wv = (wt r).map (fun q => tr ad' q.2) ∧ (∀ q, wt r = some q → okV M' q) ∧ wM1 g D (va_A (wl g ad M) sz) M ad M' ad' t) ∧ va_F (va_A (wl g ad M) sz) s0 t) kc ks (va_A (wl g ad M) sz)
def EdW (κ : Cx) (cc : ByteArray) {β : Type} (wt : β → Option TV) (ins : Instr) (ok : β → Prop) (fin : β → Mm → Prop) : Prop :=
  match κ with
  | ((p, l9, e, R, s, m, args, below, meth, c), X, Y) => ∀ (a : β) (M : Mm) (ad : Nat → Nat) (H : Heap) (locs : List Loc) (pc : Nat) (ls : Array Slot) (cs ss : Nat), ok a → fin a M → cs ≤ R.cells → ss ≤ R.slots → (wM ((p, l9, e, R, s, m, args, below, meth, c), X, Y)).1 M ad H locs → (∀ q, wt a = some q → okV M q) → decode cc pc = .ok (ins, 1) → W p l9 e R s m args below meth c H locs cs ss X.2.2.2 (F0 m pc ls ((wt a).map (fun q => tr ad q.2)).toList)
theorem N_ret {β : Type} {κ : Cx} {cc : ByteArray} {nL pc : Nat} {l : List (Option TV)} {st : List TV} {wt : β → Option TV} {ins : Instr} {ok : β → Prop} {fin : β → Mm → Prop} (he : EdW κ cc wt ins ok fin) {v : β} (hd : decode cc pc = .ok (ins, 1)) (hok : ok v) (hst0 : st = (wt v).toList) : Jw κ (wM κ) nL fin pc l st (wr v) := by
  subst hst0
  obtain ⟨⟨p, l9, e, R, s, m, args, below, meth, c⟩, ⟨D, g, A, Q⟩, M0, ad0⟩ := κ
  intro M ad H locs ls a M' kc ks cs ss hF hfin hcc hss hW hl hst
  cases hF
  have e9 : trS ad (wt v).toList = ((wt v).map (fun q => tr ad q.2)).toList := by cases wt v <;> rfl
  rw [e9]
  exact he v M ad H locs pc ls cs ss hok hfin (Nat.le_trans (Nat.le_add_right _ _) hcc) (Nat.le_trans (Nat.le_add_right _ _) hss) hW (fun q hq => hst q (by rw [hq]; exact List.mem_cons_self)) hd
theorem N_zret {κ : Cx} {cc : ByteArray} {nL pc : Nat} {l : List (Option TV)} {fin : Int32 → Mm → Prop} (he : EdW κ cc tI .ireturn (fun a => a = 0 ∨ a = 1) fin) {v : Int32} (hd : decode cc pc = .ok (.ireturn, 1)) : Jw κ (wM κ) nL fin pc l [(0, .int v)] (wgrd (v == 0 || v == 1) (wr v)) := by
  by_cases h : (v == 0 || v == 1) = true
  · have h2 : v = 0 ∨ v = 1 := by simpa using h
    have e9 : (wgrd (v == 0 || v == 1) (wr v) : Mm → Option (Int32 × Mm × Nat × Nat)) = wr v := by funext M; unfold wgrd; rw [if_pos h]
    rw [e9]
    exact N_ret he hd h2 rfl
  · obtain ⟨⟨p, l9, e, R, s, m, args, below, meth, c⟩, ⟨D, g, A, Q⟩, M0, ad0⟩ := κ
    intro M ad H locs ls a M' kc ks cs ss hF
    obtain ⟨h1, -⟩ := wgrd_some hF
    exact absurd h1 h
theorem N_cret {κ : Cx} {cc : ByteArray} {nL pc : Nat} {l : List (Option TV)} {fin : Int32 → Mm → Prop} (he : EdW κ cc tI .ireturn (fun a => nCh a = true) fin) {v : Int32} (hd : decode cc pc = .ok (.ireturn, 1)) : Jw κ (wM κ) nL fin pc l [(0, .int v)] (wgrd (nCh v) (wr v)) := by
  by_cases h : nCh v = true
  · have e9 : (wgrd (nCh v) (wr v) : Mm → Option (Int32 × Mm × Nat × Nat)) = wr v := by funext M; unfold wgrd; rw [if_pos h]
    rw [e9]
    exact N_ret he hd h rfl
  · obtain ⟨⟨p, l9, e, R, s, m, args, below, meth, c⟩, ⟨D, g, A, Q⟩, M0, ad0⟩ := κ
    intro M ad H locs ls a M' kc ks cs ss hF
    obtain ⟨h1, -⟩ := wgrd_some hF
    exact absurd h1 h
section CwOf
variable {y : MethodName} {cc : ByteArray} {nL fr lc j : Nat} {own : String} {av : List TV} {l0 : List (Option TV)}

theorem Cw_I {F : Mm → Option (Int32 × Mm × Nat × Nat)} (hy : plainName y.cls = true) (hown : y.cls = own) (hl0 : entL av ++ List.replicate j none = l0) (hle : (entL av).length ≤ nL) (hb : ∀ (κ : Cx) (fin : Int32 → Mm → Prop) (mc ms : Nat), Jc κ own cc nL fr mc ms lc → EdW κ cc tI .ireturn (fun _ => True) fin → Jw κ (wM κ) nL fin 0 l0 [] F) : Cw tI y cc nL (some .int) fr lc av F := by
  intro l g D ad sz M r M' kc ks hl9 hF hav
  refine Met.ofW (cc := cc) (maxL := nL) (ret := (some .int)) hy rfl ?_
  intro p e s m args below meth c s₁ B hml hv
  obtain ⟨rfl, hsz, hP, hD0, hK, hM, hn, hC⟩ := hv
  subst hsz
  have hts : ∀ w ∈ TW, w.before (trS ad av).toArray s = true := fun w hw => atoms_spec (ws := wsY y cc nL (some .int)) B.pre w (List.mem_cons_of_mem _ hw)
  have hown9 : s.vm.findClass own = some m.cls := by rw [← hown]; exact findClass_of_methodNamed B.named
  rw [lg_entry_eq]
  refine hb ((p, l, e, rmR fr kc ks lc, s, m, (trS ad av).toArray, below, meth, c), (D, g, va_A (wl g ad M) s.heap.size, _), (M, ad)) (fun a M1 => a = r ∧ M1 = M') kc ks ⟨B.exec, B.bytes, hml, hown9, hts, hK, fun q h => Or.inr h, hl9, B.notSynchronized, rfl⟩ ?_ M ad s.heap [] _ r M' kc ks 0 0 hF ⟨rfl, rfl⟩ (Nat.le_of_eq (Nat.zero_add _)) (Nat.le_of_eq (Nat.zero_add _)) ⟨hP, hD0.self, va_S.rf, hM, hn, hC, exM.rf M, exA.rf _ _⟩ (lvk_entry (κ := ((p, l, e, rmR fr kc ks lc, s, m, (trS ad av).toArray, below, meth, c), (D, g, va_A (wl g ad M) s.heap.size, _), (M, ad))) hav hl0 hle) (fun q hq => by cases hq)
  · intro a M1 ad1 H locs pc ls cs ss hok hfin hcs hss hW hok9 hd
    obtain ⟨rfl, rfl⟩ := hfin
    obtain ⟨hP1, hD1, hS1, hM1, hn1, -, hx1, ha1⟩ := hW
    refine W.widen hcs hss ?_
    dsimp only [tI, tV, tA, tO, va_rf, Option.map, Option.toList, tr, rmR]
    exact W.iret B.exec B.bytes B.returns (fun t ht hWm => ⟨⟨_, rfl, ad1, rfl, hok9, by rw [ht]; exact hP1, hD1, hM1, hn1, hx1, ha1⟩, hS1.F ht⟩) hS1.2.2 hd (hlocks := B.notSynchronized)
theorem Cw_Z {ty : FieldType} (hn01 : narrow ty (.int 0) = .int 0 ∧ narrow ty (.int 1) = .int 1) {F : Mm → Option (Int32 × Mm × Nat × Nat)} (hy : plainName y.cls = true) (hown : y.cls = own) (hl0 : entL av ++ List.replicate j none = l0) (hle : (entL av).length ≤ nL) (hb : ∀ (κ : Cx) (fin : Int32 → Mm → Prop) (mc ms : Nat), Jc κ own cc nL fr mc ms lc → EdW κ cc tI .ireturn (fun a => a = 0 ∨ a = 1) fin → Jw κ (wM κ) nL fin 0 l0 [] F) : Cw tI y cc nL (some ty) fr lc av F := by
  intro l g D ad sz M r M' kc ks hl9 hF hav
  refine Met.ofW (cc := cc) (maxL := nL) (ret := (some ty)) hy rfl ?_
  intro p e s m args below meth c s₁ B hml hv
  obtain ⟨rfl, hsz, hP, hD0, hK, hM, hn, hC⟩ := hv
  subst hsz
  have hts : ∀ w ∈ TW, w.before (trS ad av).toArray s = true := fun w hw => atoms_spec (ws := wsY y cc nL (some ty)) B.pre w (List.mem_cons_of_mem _ hw)
  have hown9 : s.vm.findClass own = some m.cls := by rw [← hown]; exact findClass_of_methodNamed B.named
  rw [lg_entry_eq]
  refine hb ((p, l, e, rmR fr kc ks lc, s, m, (trS ad av).toArray, below, meth, c), (D, g, va_A (wl g ad M) s.heap.size, _), (M, ad)) (fun a M1 => a = r ∧ M1 = M') kc ks ⟨B.exec, B.bytes, hml, hown9, hts, hK, fun q h => Or.inr h, hl9, B.notSynchronized, rfl⟩ ?_ M ad s.heap [] _ r M' kc ks 0 0 hF ⟨rfl, rfl⟩ (Nat.le_of_eq (Nat.zero_add _)) (Nat.le_of_eq (Nat.zero_add _)) ⟨hP, hD0.self, va_S.rf, hM, hn, hC, exM.rf M, exA.rf _ _⟩ (lvk_entry (κ := ((p, l, e, rmR fr kc ks lc, s, m, (trS ad av).toArray, below, meth, c), (D, g, va_A (wl g ad M) s.heap.size, _), (M, ad))) hav hl0 hle) (fun q hq => by cases hq)
  · intro a M1 ad1 H locs pc ls cs ss hok hfin hcs hss hW hok9 hd
    obtain ⟨rfl, rfl⟩ := hfin
    obtain ⟨hP1, hD1, hS1, hM1, hn1, -, hx1, ha1⟩ := hW
    refine W.widen hcs hss ?_
    dsimp only [tI, tV, tA, tO, va_rf, Option.map, Option.toList, tr, rmR]
    exact W.zret B.exec B.bytes B.returns (hok.elim (fun h => by rw [h]; exact hn01.1) (fun h => by rw [h]; exact hn01.2)) (fun t ht hWm => ⟨⟨_, rfl, ad1, rfl, hok9, by rw [ht]; exact hP1, hD1, hM1, hn1, hx1, ha1⟩, hS1.F ht⟩) hS1.2.2 hd (hlocks := B.notSynchronized)
theorem Cw_C {F : Mm → Option (Int32 × Mm × Nat × Nat)} (hy : plainName y.cls = true) (hown : y.cls = own) (hl0 : entL av ++ List.replicate j none = l0) (hle : (entL av).length ≤ nL) (hb : ∀ (κ : Cx) (fin : Int32 → Mm → Prop) (mc ms : Nat), Jc κ own cc nL fr mc ms lc → EdW κ cc tI .ireturn (fun a => nCh a = true) fin → Jw κ (wM κ) nL fin 0 l0 [] F) : Cw tI y cc nL (some .char) fr lc av F := by
  intro l g D ad sz M r M' kc ks hl9 hF hav
  refine Met.ofW (cc := cc) (maxL := nL) (ret := (some .char)) hy rfl ?_
  intro p e s m args below meth c s₁ B hml hv
  obtain ⟨rfl, hsz, hP, hD0, hK, hM, hn, hC⟩ := hv
  subst hsz
  have hts : ∀ w ∈ TW, w.before (trS ad av).toArray s = true := fun w hw => atoms_spec (ws := wsY y cc nL (some .char)) B.pre w (List.mem_cons_of_mem _ hw)
  have hown9 : s.vm.findClass own = some m.cls := by rw [← hown]; exact findClass_of_methodNamed B.named
  rw [lg_entry_eq]
  refine hb ((p, l, e, rmR fr kc ks lc, s, m, (trS ad av).toArray, below, meth, c), (D, g, va_A (wl g ad M) s.heap.size, _), (M, ad)) (fun a M1 => a = r ∧ M1 = M') kc ks ⟨B.exec, B.bytes, hml, hown9, hts, hK, fun q h => Or.inr h, hl9, B.notSynchronized, rfl⟩ ?_ M ad s.heap [] _ r M' kc ks 0 0 hF ⟨rfl, rfl⟩ (Nat.le_of_eq (Nat.zero_add _)) (Nat.le_of_eq (Nat.zero_add _)) ⟨hP, hD0.self, va_S.rf, hM, hn, hC, exM.rf M, exA.rf _ _⟩ (lvk_entry (κ := ((p, l, e, rmR fr kc ks lc, s, m, (trS ad av).toArray, below, meth, c), (D, g, va_A (wl g ad M) s.heap.size, _), (M, ad))) hav hl0 hle) (fun q hq => by cases hq)
  · intro a M1 ad1 H locs pc ls cs ss hok hfin hcs hss hW hok9 hd
    obtain ⟨rfl, rfl⟩ := hfin
    obtain ⟨hP1, hD1, hS1, hM1, hn1, -, hx1, ha1⟩ := hW
    refine W.widen hcs hss ?_
    have hnar : narrow .char (.int a) = .int a := by
      have h2 : i2c a = a := eq_of_beq hok
      rw [← h2]
      exact pk_nc a
    dsimp only [tI, tV, tA, tO, va_rf, Option.map, Option.toList, tr, rmR]
    exact W.zret B.exec B.bytes B.returns hnar (fun t ht hWm => ⟨⟨_, rfl, ad1, rfl, hok9, by rw [ht]; exact hP1, hD1, hM1, hn1, hx1, ha1⟩, hS1.F ht⟩) hS1.2.2 hd (hlocks := B.notSynchronized)
theorem Cw_V {F : Mm → Option (Unit × Mm × Nat × Nat)} (hy : plainName y.cls = true) (hown : y.cls = own) (hl0 : entL av ++ List.replicate j none = l0) (hle : (entL av).length ≤ nL) (hb : ∀ (κ : Cx) (fin : Unit → Mm → Prop) (mc ms : Nat), Jc κ own cc nL fr mc ms lc → EdW κ cc tV .return_ (fun _ => True) fin → Mh κ = y.name → Jw κ (wM κ) nL fin 0 l0 [] F) : Cw tV y cc nL none fr lc av F := by
  intro l g D ad sz M r M' kc ks hl9 hF hav
  refine Met.ofW (cc := cc) (maxL := nL) (ret := none) hy rfl ?_
  intro p e s m args below meth c s₁ B hml hv
  obtain ⟨rfl, hsz, hP, hD0, hK, hM, hn, hC⟩ := hv
  subst hsz
  have hts : ∀ w ∈ TW, w.before (trS ad av).toArray s = true := fun w hw => atoms_spec (ws := wsY y cc nL none) B.pre w (List.mem_cons_of_mem _ hw)
  have hown9 : s.vm.findClass own = some m.cls := by rw [← hown]; exact findClass_of_methodNamed B.named
  rw [lg_entry_eq]
  refine hb ((p, l, e, rmR fr kc ks lc, s, m, (trS ad av).toArray, below, meth, c), (D, g, va_A (wl g ad M) s.heap.size, _), (M, ad)) (fun a M1 => a = r ∧ M1 = M') kc ks ⟨B.exec, B.bytes, hml, hown9, hts, hK, fun q h => Or.inr h, hl9, B.notSynchronized, rfl⟩ ?_ (name_of_methodNamed B.named B.method).1 M ad s.heap [] _ r M' kc ks 0 0 hF ⟨rfl, rfl⟩ (Nat.le_of_eq (Nat.zero_add _)) (Nat.le_of_eq (Nat.zero_add _)) ⟨hP, hD0.self, va_S.rf, hM, hn, hC, exM.rf M, exA.rf _ _⟩ (lvk_entry (κ := ((p, l, e, rmR fr kc ks lc, s, m, (trS ad av).toArray, below, meth, c), (D, g, va_A (wl g ad M) s.heap.size, _), (M, ad))) hav hl0 hle) (fun q hq => by cases hq)
  · intro a M1 ad1 H locs pc ls cs ss hok hfin hcs hss hW hok9 hd
    obtain ⟨rfl, rfl⟩ := hfin
    obtain ⟨hP1, hD1, hS1, hM1, hn1, -, hx1, ha1⟩ := hW
    refine W.widen hcs hss ?_
    dsimp only [tI, tV, tA, tO, va_rf, Option.map, Option.toList, tr, rmR]
    exact W.vret B.exec B.bytes B.returns (fun t ht hWm => ⟨⟨_, rfl, ad1, rfl, hok9, by rw [ht]; exact hP1, hD1, hM1, hn1, hx1, ha1⟩, hS1.F ht⟩) hS1.2.2 hd (hlocks := B.notSynchronized)
theorem Cw_A {k : Nat} {ty : FieldType} (hrt : (∃ n, ty = .object n) ∨ ∃ t, ty = .array t) {F : Mm → Option (Nat × Mm × Nat × Nat)} (hy : plainName y.cls = true) (hown : y.cls = own) (hl0 : entL av ++ List.replicate j none = l0) (hle : (entL av).length ≤ nL) (hb : ∀ (κ : Cx) (fin : Nat → Mm → Prop) (mc ms : Nat), Jc κ own cc nL fr mc ms lc → EdW κ cc (tA k) .areturn (fun _ => True) fin → Jw κ (wM κ) nL fin 0 l0 [] F) : Cw (tA k) y cc nL (some ty) fr lc av F := by
  intro l g D ad sz M r M' kc ks hl9 hF hav
  refine Met.ofW (cc := cc) (maxL := nL) (ret := (some ty)) hy rfl ?_
  intro p e s m args below meth c s₁ B hml hv
  obtain ⟨rfl, hsz, hP, hD0, hK, hM, hn, hC⟩ := hv
  subst hsz
  have hts : ∀ w ∈ TW, w.before (trS ad av).toArray s = true := fun w hw => atoms_spec (ws := wsY y cc nL (some ty)) B.pre w (List.mem_cons_of_mem _ hw)
  have hown9 : s.vm.findClass own = some m.cls := by rw [← hown]; exact findClass_of_methodNamed B.named
  rw [lg_entry_eq]
  refine hb ((p, l, e, rmR fr kc ks lc, s, m, (trS ad av).toArray, below, meth, c), (D, g, va_A (wl g ad M) s.heap.size, _), (M, ad)) (fun a M1 => a = r ∧ M1 = M') kc ks ⟨B.exec, B.bytes, hml, hown9, hts, hK, fun q h => Or.inr h, hl9, B.notSynchronized, rfl⟩ ?_ M ad s.heap [] _ r M' kc ks 0 0 hF ⟨rfl, rfl⟩ (Nat.le_of_eq (Nat.zero_add _)) (Nat.le_of_eq (Nat.zero_add _)) ⟨hP, hD0.self, va_S.rf, hM, hn, hC, exM.rf M, exA.rf _ _⟩ (lvk_entry (κ := ((p, l, e, rmR fr kc ks lc, s, m, (trS ad av).toArray, below, meth, c), (D, g, va_A (wl g ad M) s.heap.size, _), (M, ad))) hav hl0 hle) (fun q hq => by cases hq)
  · intro a M1 ad1 H locs pc ls cs ss hok hfin hcs hss hW hok9 hd
    obtain ⟨rfl, rfl⟩ := hfin
    obtain ⟨hP1, hD1, hS1, hM1, hn1, -, hx1, ha1⟩ := hW
    refine W.widen hcs hss ?_
    dsimp only [tI, tV, tA, tO, va_rf, Option.map, Option.toList, tr, rmR]
    exact W.aret B.exec B.bytes B.returns hrt (Or.inr ⟨_, rfl⟩) (fun t ht hWm => ⟨⟨_, rfl, ad1, rfl, hok9, by rw [ht]; exact hP1, hD1, hM1, hn1, hx1, ha1⟩, hS1.F ht⟩) hS1.2.2 hd (hlocks := B.notSynchronized)
theorem Cw_O {k : Nat} {ty : FieldType} (hrt : (∃ n, ty = .object n) ∨ ∃ t, ty = .array t) {F : Mm → Option ((Option Nat) × Mm × Nat × Nat)} (hy : plainName y.cls = true) (hown : y.cls = own) (hl0 : entL av ++ List.replicate j none = l0) (hle : (entL av).length ≤ nL) (hb : ∀ (κ : Cx) (fin : (Option Nat) → Mm → Prop) (mc ms : Nat), Jc κ own cc nL fr mc ms lc → EdW κ cc (tO k) .areturn (fun _ => True) fin → Jw κ (wM κ) nL fin 0 l0 [] F) : Cw (tO k) y cc nL (some ty) fr lc av F := by
  intro l g D ad sz M r M' kc ks hl9 hF hav
  refine Met.ofW (cc := cc) (maxL := nL) (ret := (some ty)) hy rfl ?_
  intro p e s m args below meth c s₁ B hml hv
  obtain ⟨rfl, hsz, hP, hD0, hK, hM, hn, hC⟩ := hv
  subst hsz
  have hts : ∀ w ∈ TW, w.before (trS ad av).toArray s = true := fun w hw => atoms_spec (ws := wsY y cc nL (some ty)) B.pre w (List.mem_cons_of_mem _ hw)
  have hown9 : s.vm.findClass own = some m.cls := by rw [← hown]; exact findClass_of_methodNamed B.named
  rw [lg_entry_eq]
  refine hb ((p, l, e, rmR fr kc ks lc, s, m, (trS ad av).toArray, below, meth, c), (D, g, va_A (wl g ad M) s.heap.size, _), (M, ad)) (fun a M1 => a = r ∧ M1 = M') kc ks ⟨B.exec, B.bytes, hml, hown9, hts, hK, fun q h => Or.inr h, hl9, B.notSynchronized, rfl⟩ ?_ M ad s.heap [] _ r M' kc ks 0 0 hF ⟨rfl, rfl⟩ (Nat.le_of_eq (Nat.zero_add _)) (Nat.le_of_eq (Nat.zero_add _)) ⟨hP, hD0.self, va_S.rf, hM, hn, hC, exM.rf M, exA.rf _ _⟩ (lvk_entry (κ := ((p, l, e, rmR fr kc ks lc, s, m, (trS ad av).toArray, below, meth, c), (D, g, va_A (wl g ad M) s.heap.size, _), (M, ad))) hav hl0 hle) (fun q hq => by cases hq)
  · intro a M1 ad1 H locs pc ls cs ss hok hfin hcs hss hW hok9 hd
    obtain ⟨rfl, rfl⟩ := hfin
    obtain ⟨hP1, hD1, hS1, hM1, hn1, -, hx1, ha1⟩ := hW
    refine W.widen hcs hss ?_
    cases a with
    | none =>
      dsimp only [tI, tV, tA, tO, va_rf, Option.map, Option.toList, tr, rmR]
      exact W.aret B.exec B.bytes B.returns hrt (Or.inl rfl) (fun t ht hWm => ⟨⟨_, rfl, ad1, rfl, hok9, by rw [ht]; exact hP1, hD1, hM1, hn1, hx1, ha1⟩, hS1.F ht⟩) hS1.2.2 hd (hlocks := B.notSynchronized)
    | some a =>
      dsimp only [tI, tV, tA, tO, va_rf, Option.map, Option.toList, tr, rmR]
      exact W.aret B.exec B.bytes B.returns hrt (Or.inr ⟨_, rfl⟩) (fun t ht hWm => ⟨⟨_, rfl, ad1, rfl, hok9, by rw [ht]; exact hP1, hD1, hM1, hn1, hx1, ha1⟩, hS1.F ht⟩) hS1.2.2 hd (hlocks := B.notSynchronized)
end CwOf
theorem vw_call {p : Program} {l : Launch} {e : Env} {R : Room} {s : State} {m : MethodId} {args : Array Value} {below : List Frame} {meth : Method} {c : Code} {H : Heap} {locs : List Loc} {cells slots : Nat} {Q : State → Prop} {pc : Nat} {ls : Array Slot} {rest st0 : List Value} {A0 A1 : Nat → Prop} {H0 : Heap} {mc ms : Nat} {free : Addr → Prop} {Pq : Option Value → State → Prop}
    (hr : va_Run p l e R s m args below meth c H locs cells slots mc ms (F0 m pc ls st0) rest (fun s0 oc t => (∃ wv, oc = .returned wv ∧ Pq wv t) ∧ va_F A1 s0 t) free) (hS : va_S A0 H0 H locs) (hA : ∀ q, q < H.size → A1 q → A0 q) (hf : ∀ q, free q → A0 q)
    (kk : ∀ (wv : Option Value) (t : State) (H1 : Heap) (locs1 : List Loc), t.heap = H1 → s.vm.Alike t.vm → Pq wv t → H.size ≤ H1.size → (∀ q : Nat, q < H.size → ¬ A1 q → H1[q]? = H[q]?) → va_S A0 H0 H1 locs1 → W p l e R s m args below meth c H1 locs1 (cells + mc) (slots + ms) Q (F0 m (pc + 3) ls (wv.toList ++ rest))) : W p l e R s m args below meth c H locs cells slots Q (F0 m pc ls st0) := by
  intro T hT X
  obtain ⟨v, st₀, t, T', L, h0, X', hL, e1, e2, ⟨⟨wv, hv, hp⟩, hz, hk⟩, st⟩ := hr T hT X
  cases hv
  rw [h0] at hz hk
  obtain ⟨t2, a1, b1⟩ := kk v t T'.heap (locs ++ L) e1.symm (by rw [← e2]; exact X'.warmed.alike) hp (by rw [e1]; exact hz) (fun q h1 h2 => by rw [e1]; exact hk q h1 h2)
    ⟨Nat.le_trans hS.1 (by rw [e1]; exact hz), fun q h1 h2 => by rw [e1, hk q (Nat.lt_of_lt_of_le h1 hS.1) (fun z => h2 (hA q (Nat.lt_of_lt_of_le h1 hS.1) z))]; exact hS.2.1 q h1 h2, fun q hq => by
      rcases List.mem_append.mp hq with h | h
      · exact hS.2.2 q h
      · exact hf _ (hL q h)⟩ T' rfl X'
  exact ⟨t2, st t2 a1, b1⟩
theorem vw_call5 {p : Program} {l : Launch} {e : Env} {R : Room} {s : State} {m : MethodId} {args : Array Value} {below : List Frame} {meth : Method} {c : Code} {H : Heap} {locs : List Loc} {cells slots : Nat} {Q : State → Prop} {pc : Nat} {ls : Array Slot} {rest st0 : List Value} {A0 A1 : Nat → Prop} {H0 : Heap} {mc ms : Nat} {free : Addr → Prop} {Pq : Option Value → State → Prop}
    (hr : va_Run5 p l e R s m args below meth c H locs cells slots mc ms (F0 m pc ls st0) rest (fun s0 oc t => (∃ wv, oc = .returned wv ∧ Pq wv t) ∧ va_F A1 s0 t) free) (hS : va_S A0 H0 H locs) (hA : ∀ q, q < H.size → A1 q → A0 q) (hf : ∀ q, free q → A0 q)
    (kk : ∀ (wv : Option Value) (t : State) (H1 : Heap) (locs1 : List Loc), t.heap = H1 → s.vm.Alike t.vm → Pq wv t → H.size ≤ H1.size → (∀ q : Nat, q < H.size → ¬ A1 q → H1[q]? = H[q]?) → va_S A0 H0 H1 locs1 → W p l e R s m args below meth c H1 locs1 (cells + mc) (slots + ms) Q (F0 m (pc + 5) ls (wv.toList ++ rest))) : W p l e R s m args below meth c H locs cells slots Q (F0 m pc ls st0) := by
  intro T hT X
  obtain ⟨v, st₀, t, T', L, h0, X', hL, e1, e2, ⟨⟨wv, hv, hp⟩, hz, hk⟩, st⟩ := hr T hT X
  cases hv
  rw [h0] at hz hk
  obtain ⟨t2, a1, b1⟩ := kk v t T'.heap (locs ++ L) e1.symm (by rw [← e2]; exact X'.warmed.alike) hp (by rw [e1]; exact hz) (fun q h1 h2 => by rw [e1]; exact hk q h1 h2)
    ⟨Nat.le_trans hS.1 (by rw [e1]; exact hz), fun q h1 h2 => by rw [e1, hk q (Nat.lt_of_lt_of_le h1 hS.1) (fun z => h2 (hA q (Nat.lt_of_lt_of_le h1 hS.1) z))]; exact hS.2.1 q h1 h2, fun q hq => by
      rcases List.mem_append.mp hq with h | h
      · exact hS.2.2 q h
      · exact hf _ (hL q h)⟩ T' rfl X'
  exact ⟨t2, st t2 a1, b1⟩
theorem tw_U {own C owner : String} {index : Nat} {x y : MethodName} {b : ByteArray} {nL : Nat} {ret : Option FieldType} (h1 : Cond.methodLink own index x ∈ TW) (h2 : Cond.sameMethod x.cls owner x.name x.desc ∈ TW) (h3 : Cond.selects C x y ∈ TW) (h4 : Cond.instanceMethod y ∈ TW) (h5 : Cond.initialized y.cls ∈ TW) (h6 : Cond.code y b nL ret ∈ TW) : GoodIn TW (va_wsU own index C owner x y (wsY y b nL ret)) := by
  intro w hw
  unfold va_wsU at hw
  rcases List.mem_append.mp hw with hw | hw
  · simp only [List.mem_cons, List.not_mem_nil, or_false] at hw
    rcases hw with rfl | rfl | rfl | rfl | rfl
    · exact ⟨h1, tw_good h1⟩
    · exact ⟨h2, tw_good h2⟩
    · exact ⟨h3, tw_good h3⟩
    · exact ⟨h4, tw_good h4⟩
    · exact ⟨h5, tw_good h5⟩
  · exact tw_y h6 w hw
theorem tw_SU {own : String} {index : Nat} {y : MethodName} {b : ByteArray} {nL : Nat} {ret : Option FieldType} (h1 : Cond.methodLink own index y ∈ TW) (h2 : Cond.sameMethod y.cls y.cls y.name y.desc ∈ TW) (h3 : Cond.superclass own y.cls ∈ TW) (h4 : Cond.instanceMethod y ∈ TW) (h5 : Cond.initialized y.cls ∈ TW) (h6 : Cond.code y b nL ret ∈ TW) : GoodIn TW (va_wsSU own index y (wsY y b nL ret)) := by
  intro w hw
  unfold va_wsSU at hw
  rcases List.mem_append.mp hw with hw | hw
  · simp only [List.mem_cons, List.not_mem_nil, or_false] at hw
    rcases hw with rfl | rfl | rfl | rfl | rfl
    · exact ⟨h1, tw_good h1⟩
    · exact ⟨h2, tw_good h2⟩
    · exact ⟨h3, tw_good h3⟩
    · exact ⟨h4, tw_good h4⟩
    · exact ⟨h5, tw_good h5⟩
  · exact tw_y h6 w hw
theorem tw_O {own C owner : String} {index : Nat} {x y : MethodName} {b : ByteArray} {nL : Nat} {ret : Option FieldType} (h1 : Cond.methodLink own index x ∈ TW) (h2 : Cond.sameMethod x.cls owner x.name x.desc ∈ TW) (h9 : Cond.instanceMethod ⟨owner, x.name, x.desc⟩ ∈ TW) (h3 : Cond.selects C x y ∈ TW) (h4 : Cond.instanceMethod y ∈ TW) (h5 : Cond.initialized y.cls ∈ TW) (h6 : Cond.code y b nL ret ∈ TW) : GoodIn TW (va_wsO own index C owner x y (wsY y b nL ret)) := by
  intro w hw
  unfold va_wsO at hw
  rcases List.mem_append.mp hw with hw | hw
  · simp only [List.mem_cons, List.not_mem_nil, or_false] at hw
    rcases hw with rfl | rfl | rfl | rfl | rfl | rfl
    · exact ⟨h1, tw_good h1⟩
    · exact ⟨h2, tw_good h2⟩
    · exact ⟨h9, tw_good h9⟩
    · exact ⟨h3, tw_good h3⟩
    · exact ⟨h4, tw_good h4⟩
    · exact ⟨h5, tw_good h5⟩
  · exact tw_y h6 w hw
theorem tw_F {own C : String} {index : Nat} {x y : MethodName} {b : ByteArray} {nL : Nat} {ret : Option FieldType} (h1 : Cond.methodLink own index x ∈ TW) (h3 : Cond.selects C x y ∈ TW) (h4 : Cond.instanceMethod y ∈ TW) (h5 : Cond.initialized y.cls ∈ TW) (h6 : Cond.code y b nL ret ∈ TW) : GoodIn TW (va_wsF own index C x y (wsY y b nL ret)) := by
  intro w hw
  unfold va_wsF at hw
  rcases List.mem_append.mp hw with hw | hw
  · simp only [List.mem_cons, List.not_mem_nil, or_false] at hw
    rcases hw with rfl | rfl | rfl | rfl
    · exact ⟨h1, tw_good h1⟩
    · exact ⟨h3, tw_good h3⟩
    · exact ⟨h4, tw_good h4⟩
    · exact ⟨h5, tw_good h5⟩
  · exact tw_y h6 w hw
section JcRows
variable {α β : Type} {κ : Cx} {own : String} {cc : ByteArray} {nL fr mc ms lc : Nat} {fin : α → Mm → Prop} {pc : Nat} {l l' : List (Option TV)} {st : List TV} {ci N : Nat} {C : String} {T : u_T} {ty : Nat → FieldType}

theorem N_callV (hc : Jc κ own cc nL fr mc ms lc) (hcl : ClOk ci C T N ty) {h : Nat} {y : MethodName} {b : ByteArray} {nL' : Nat} {ret' : Option FieldType} {fr' lc' index n : Nat} {As : List TV} {st0 : List TV} {Fc : Mm → Option (β × Mm × Nat × Nat)} {wt : β → Option TV} (hct : Cw wt y b nL' ret' fr' lc' ((ci, .ref h) :: As) Fc) (hd : decode cc pc = .ok (.invokevirtual index, 3)) (hmo : MOk y n) (hyc : y.cls = C) (hw1 : Cond.methodLink own index y ∈ TW) (hw2 : Cond.instanceMethod y ∈ TW) (hw3 : Cond.selects C y y ∈ TW) (hw4 : Cond.initialized C ∈ TW) (hc5 : Cond.code y b nL' ret' ∈ TW) (hlen : As.length = n) (hr1 : fr' + 1 ≤ fr) (hr2 : 8 + (nL' + 11) + lc' ≤ lc) (hs8 : (st.map (fun q => q.2.category)).sum ≤ 8) (hst0 : st0 = As.reverse ++ (ci, .ref h) :: st) {G1 : β → Mm → Option (α × Mm × Nat × Nat)} (kk : ∀ r, Jw κ (wM κ) nL fin (pc + 3) l ((wt r).toList ++ st) (G1 r)) : Jw κ (wM κ) nL fin pc l st0 (wq Fc G1) := by
  subst hst0
  obtain ⟨⟨p, l9, e, R, s, m, args, below, meth, c⟩, ⟨D, g, A, Q⟩, M0, ad0⟩ := κ
  obtain ⟨hx, hb, hml, hown, hts, hK, hA, hst9, hlk, hR⟩ := hc
  subst hR
  intro M ad H locs ls a M' kc ks cs ss hF hfin hcc hss hW hl hst
  obtain ⟨hP, hD, hS, hM, hn, hC, hex, hea⟩ := id hW
  obtain ⟨r9, M1, c1, s1, c2, s2, q1, hF, hkc, hks⟩ := wq_some hF
  have hcc : cs + kc ≤ mc := hcc
  have hss : ss + ks ≤ ms := hss
  obtain ⟨hsA, hsT⟩ := okS_app hst
  have hst := okS_tl hsT
  have hsR : okW (wM ((p, l9, e, _, s, m, args, below, meth, c), (D, g, A, Q), M0, ad0)) M (ci, .ref h) := okS_hd hsT
  have hav : okS0 M ((ci, .ref h) :: As) := fun q hq => by
    rcases List.mem_cons.mp hq with rfl | hq
    · exact hsR
    · exact okS_rev hsA q hq
  have hMet := hct l9 g D ad H.size M r9 M1 c1 s1 hst9 q1 hav
  obtain ⟨hc1, -, -, -, -, h9⟩ := hcl
  obtain ⟨hh, hkd9⟩ : h < Mn M ∧ Mk M h = ci := (hsR h rfl).at (by omega)
  have he := (wl_get g ad hh).trans (congrArg (fun x => some (ad h, x)) (ce_obj g ad hkd9 h9))
  refine vw_call (va_runV (C := C) (b := ad h) (As := trS ad As) (rest := trS ad st) ⟨hx, hb, hml, hown, hts⟩ hMet (cwV n hts (tw_V hw1 hw2 hw3 hw4 hc5) rfl rfl rfl ⟨hyc, hmo⟩ ⟨hr1, hr2⟩) ⟨wM0_blind, va_recv hK hP hc1 he, fun U hU hW9 => ⟨rfl, wM0_at hP hD hS hA hK hM hn hex.2.2 hC hU hW9⟩⟩ rfl (by show (trS ad As).length = n; unfold trS; rw [List.length_map]; exact hlen) hl.1.1 (trS_rev ad As ((ci, .ref h) :: st)) (lv_room (by rw [cat_tr]; exact hs8)) hd ⟨show cs + c1 ≤ mc by omega, show ss + s1 ≤ ms by omega⟩) hS (fun q _ h => wA_sub hD hS hA q h) (wA_sub hD hS hA) (fun wv t H1 locs1 ht hvm hB hz1 hk1 hS1 => ?_)
  obtain ⟨ad1, hwv, hokr, hP1, hD1, hM1, hn1, hx1, ha1⟩ := hB
  rw [ht] at hP1
  have e9 : trS ad1 ((wt r9).toList ++ st) = wv.toList ++ trS ad st := by
    have e8 := trS_ex (κ := ((p, l9, e, _, s, m, args, below, meth, c), (D, g, A, Q), M0, ad0)) hn ha1 hst
    unfold trS at e8 ⊢
    rw [List.map_append, e8, hwv]
    cases wt r9 <;> rfl
  rw [← e9]
  exact kk r9 M1 ad1 H1 locs1 ls a M' c2 s2 (cs + c1) (ss + s1) hF hfin (show cs + c1 + c2 ≤ mc by omega) (show ss + s1 + s2 ≤ ms by omega) ⟨hP1, hD1.weaken (fun _ q _ h => wA_sub hD hS hA q.1 h), hS1, hM1, hn1, hC.go (State.WarmedH.refl s) (fun _ _ _ => rfl) (fun _ z => z) (fun x hx => ha1 x (Or.inr hx)), hex.tr hx1, exA.tr hex.1 hea ha1⟩ (lvk_ex (κ := ((p, l9, e, _, s, m, args, below, meth, c), (D, g, A, Q), M0, ad0)) hn hx1 ha1 hl) (fun q hq => by
    rcases List.mem_append.mp hq with hq | hq
    · cases hw9 : wt r9 with
      | none => rw [hw9] at hq; cases hq
      | some v9 =>
        rw [hw9] at hq
        have hq : q = v9 := by simpa using hq
        subst hq
        exact hokr _ hw9
    · exact okS_ex (κ := ((p, l9, e, _, s, m, args, below, meth, c), (D, g, A, Q), M0, ad0)) hx1 hst q hq)
theorem N_callS (hc : Jc κ own cc nL fr mc ms lc) {y : MethodName} {b : ByteArray} {nL' : Nat} {ret' : Option FieldType} {fr' lc' index n : Nat} {As : List TV} {st0 : List TV} {Fc : Mm → Option (β × Mm × Nat × Nat)} {wt : β → Option TV} (hct : Cw wt y b nL' ret' fr' lc' As Fc) (hd : decode cc pc = .ok (.invokestatic index, 3)) (hmo : MOk y n) (hw1 : Cond.methodLink own index y ∈ TW) (hw2 : Cond.static y ∈ TW) (hw4 : Cond.initialized y.cls ∈ TW) (hc5 : Cond.code y b nL' ret' ∈ TW) (hlen : As.length = n) (hr1 : fr' + 1 ≤ fr) (hr2 : 8 + (nL' + 11) + lc' ≤ lc) (hs8 : (st.map (fun q => q.2.category)).sum ≤ 8) (hst0 : st0 = As.reverse ++ st) {G1 : β → Mm → Option (α × Mm × Nat × Nat)} (kk : ∀ r, Jw κ (wM κ) nL fin (pc + 3) l ((wt r).toList ++ st) (G1 r)) : Jw κ (wM κ) nL fin pc l st0 (wq Fc G1) := by
  subst hst0
  obtain ⟨⟨p, l9, e, R, s, m, args, below, meth, c⟩, ⟨D, g, A, Q⟩, M0, ad0⟩ := κ
  obtain ⟨hx, hb, hml, hown, hts, hK, hA, hst9, hlk, hR⟩ := hc
  subst hR
  intro M ad H locs ls a M' kc ks cs ss hF hfin hcc hss hW hl hst
  obtain ⟨hP, hD, hS, hM, hn, hC, hex, hea⟩ := id hW
  obtain ⟨r9, M1, c1, s1, c2, s2, q1, hF, hkc, hks⟩ := wq_some hF
  have hcc : cs + kc ≤ mc := hcc
  have hss : ss + ks ≤ ms := hss
  obtain ⟨hsA, hst⟩ := okS_app hst
  have hav : okS0 M As := fun q hq => okS_rev hsA q hq
  have hMet := hct l9 g D ad H.size M r9 M1 c1 s1 hst9 q1 hav
  refine vw_call (va_runS (As := trS ad As) (rest := trS ad st) ⟨hx, hb, hml, hown, hts⟩ hMet (va_cwS n hts (tw_S hw1 hw2 hw4 hc5) rfl rfl rfl hmo ⟨hr1, hr2⟩) ⟨wM0_blind, fun U hU hW9 => ⟨rfl, wM0_at hP hD hS hA hK hM hn hex.2.2 hC hU hW9⟩⟩ rfl (by show (trS ad As).length = n; unfold trS; rw [List.length_map]; exact hlen) hl.1.1 (trS_rev ad As st) (lv_room (by rw [cat_tr]; exact hs8)) hd ⟨show cs + c1 ≤ mc by omega, show ss + s1 ≤ ms by omega⟩) hS (fun q _ h => wA_sub hD hS hA q h) (wA_sub hD hS hA) (fun wv t H1 locs1 ht hvm hB hz1 hk1 hS1 => ?_)
  obtain ⟨ad1, hwv, hokr, hP1, hD1, hM1, hn1, hx1, ha1⟩ := hB
  rw [ht] at hP1
  have e9 : trS ad1 ((wt r9).toList ++ st) = wv.toList ++ trS ad st := by
    have e8 := trS_ex (κ := ((p, l9, e, _, s, m, args, below, meth, c), (D, g, A, Q), M0, ad0)) hn ha1 hst
    unfold trS at e8 ⊢
    rw [List.map_append, e8, hwv]
    cases wt r9 <;> rfl
  rw [← e9]
  exact kk r9 M1 ad1 H1 locs1 ls a M' c2 s2 (cs + c1) (ss + s1) hF hfin (show cs + c1 + c2 ≤ mc by omega) (show ss + s1 + s2 ≤ ms by omega) ⟨hP1, hD1.weaken (fun _ q _ h => wA_sub hD hS hA q.1 h), hS1, hM1, hn1, hC.go (State.WarmedH.refl s) (fun _ _ _ => rfl) (fun _ z => z) (fun x hx => ha1 x (Or.inr hx)), hex.tr hx1, exA.tr hex.1 hea ha1⟩ (lvk_ex (κ := ((p, l9, e, _, s, m, args, below, meth, c), (D, g, A, Q), M0, ad0)) hn hx1 ha1 hl) (fun q hq => by
    rcases List.mem_append.mp hq with hq | hq
    · cases hw9 : wt r9 with
      | none => rw [hw9] at hq; cases hq
      | some v9 =>
        rw [hw9] at hq
        have hq : q = v9 := by simpa using hq
        subst hq
        exact hokr _ hw9
    · exact okS_ex (κ := ((p, l9, e, _, s, m, args, below, meth, c), (D, g, A, Q), M0, ad0)) hx1 hst q hq)
theorem N_callSN (hc : Jc κ own cc nL fr mc ms lc) {y : MethodName} {b : ByteArray} {nL' : Nat} {ret' : Option FieldType} {fr' lc' index n : Nat} {As : List TV} {st0 : List TV} {Fc : Mm → Option (β × Mm × Nat × Nat)} {hst1 : String} {wt : β → Option TV} (hct : Cw wt y b nL' ret' fr' lc' As Fc) (hd : decode cc pc = .ok (.invokestatic index, 3)) (hmo : MOk y n) (hw1 : (own, index, y, hst1) ∈ nMw) (hw2 : Cond.static y ∈ TW) (hw4 : Cond.initialized y.cls ∈ TW) (hc5 : Cond.code y b nL' ret' ∈ TW) (hlen : As.length = n) (hr1 : fr' + 1 ≤ fr) (hr2 : 8 + (nL' + 11) + lc' ≤ lc) (hs8 : (st.map (fun q => q.2.category)).sum ≤ 8) (hst0 : st0 = As.reverse ++ st) {G1 : β → Mm → Option (α × Mm × Nat × Nat)} (kk : ∀ r, Jw κ (wM κ) nL fin (pc + 3) l ((wt r).toList ++ st) (G1 r)) : Jw κ (wM κ) nL fin pc l st0 (wq Fc G1) := by
  subst hst0
  obtain ⟨⟨p, l9, e, R, s, m, args, below, meth, c⟩, ⟨D, g, A, Q⟩, M0, ad0⟩ := κ
  obtain ⟨hx, hb, hml, hown, hts, hK, hA, hst9, hlk, hR⟩ := hc
  subst hR
  intro M ad H locs ls a M' kc ks cs ss hF hfin hcc hss hW hl hst
  obtain ⟨hP, hD, hS, hM, hn, hC, hex, hea⟩ := id hW
  obtain ⟨r9, M1, c1, s1, c2, s2, q1, hF, hkc, hks⟩ := wq_some hF
  have hcc : cs + kc ≤ mc := hcc
  have hss : ss + ks ≤ ms := hss
  obtain ⟨hsA, hst⟩ := okS_app hst
  have hav : okS0 M As := fun q hq => okS_rev hsA q hq
  have hMet := hct l9 g D ad H.size M r9 M1 c1 s1 hst9 q1 hav
  refine vw_call (va_runSN (As := trS ad As) (rest := trS ad st) ⟨hx, hb, hml, hown, hts⟩ hMet ⟨va_cnB n hts (tw_y hc5) rfl rfl rfl (hC.2.2.2.2.2.2.2.2.1 _ hw1) (hts _ hw4) hmo ⟨hr1, hr2⟩, hts _ hw2, trivial⟩ ⟨wM0_blind, fun U hU hW9 => ⟨rfl, wM0_at hP hD hS hA hK hM hn hex.2.2 hC hU hW9⟩⟩ rfl (by show (trS ad As).length = n; unfold trS; rw [List.length_map]; exact hlen) hl.1.1 (trS_rev ad As st) (lv_room (by rw [cat_tr]; exact hs8)) hd ⟨show cs + c1 ≤ mc by omega, show ss + s1 ≤ ms by omega⟩) hS (fun q _ h => wA_sub hD hS hA q h) (wA_sub hD hS hA) (fun wv t H1 locs1 ht hvm hB hz1 hk1 hS1 => ?_)
  obtain ⟨ad1, hwv, hokr, hP1, hD1, hM1, hn1, hx1, ha1⟩ := hB
  rw [ht] at hP1
  have e9 : trS ad1 ((wt r9).toList ++ st) = wv.toList ++ trS ad st := by
    have e8 := trS_ex (κ := ((p, l9, e, _, s, m, args, below, meth, c), (D, g, A, Q), M0, ad0)) hn ha1 hst
    unfold trS at e8 ⊢
    rw [List.map_append, e8, hwv]
    cases wt r9 <;> rfl
  rw [← e9]
  exact kk r9 M1 ad1 H1 locs1 ls a M' c2 s2 (cs + c1) (ss + s1) hF hfin (show cs + c1 + c2 ≤ mc by omega) (show ss + s1 + s2 ≤ ms by omega) ⟨hP1, hD1.weaken (fun _ q _ h => wA_sub hD hS hA q.1 h), hS1, hM1, hn1, hC.go (State.WarmedH.refl s) (fun _ _ _ => rfl) (fun _ z => z) (fun x hx => ha1 x (Or.inr hx)), hex.tr hx1, exA.tr hex.1 hea ha1⟩ (lvk_ex (κ := ((p, l9, e, _, s, m, args, below, meth, c), (D, g, A, Q), M0, ad0)) hn hx1 ha1 hl) (fun q hq => by
    rcases List.mem_append.mp hq with hq | hq
    · cases hw9 : wt r9 with
      | none => rw [hw9] at hq; cases hq
      | some v9 =>
        rw [hw9] at hq
        have hq : q = v9 := by simpa using hq
        subst hq
        exact hokr _ hw9
    · exact okS_ex (κ := ((p, l9, e, _, s, m, args, below, meth, c), (D, g, A, Q), M0, ad0)) hx1 hst q hq)
theorem N_callI (hc : Jc κ own cc nL fr mc ms lc) {h : Nat} {y : MethodName} {b : ByteArray} {nL' : Nat} {fr' lc' index n : Nat} {As : List TV} {st0 : List TV} {Fc : Mm → Option (β × Mm × Nat × Nat)} {wt : β → Option TV} (hct : Cw wt y b nL' none fr' lc' ((ci, .ref h) :: As) Fc) (hd : decode cc pc = .ok (.invokespecial index, 3)) (hmo : MOk y n) (hyn : y.name = "<init>") (hw1 : Cond.methodLink own index y ∈ TW) (hw2 : Cond.instanceMethod y ∈ TW) (hw4 : Cond.initialized y.cls ∈ TW) (hc5 : Cond.code y b nL' none ∈ TW) (hlen : As.length = n) (hr1 : fr' + 1 ≤ fr) (hr2 : 8 + (nL' + 11) + lc' ≤ lc) (hs8 : (st.map (fun q => q.2.category)).sum ≤ 8) (hst0 : st0 = As.reverse ++ (ci, .ref h) :: st) {G1 : β → Mm → Option (α × Mm × Nat × Nat)} (kk : ∀ r, Jw κ (wM κ) nL fin (pc + 3) l ((wt r).toList ++ st) (G1 r)) : Jw κ (wM κ) nL fin pc l st0 (wq Fc G1) := by
  subst hst0
  obtain ⟨⟨p, l9, e, R, s, m, args, below, meth, c⟩, ⟨D, g, A, Q⟩, M0, ad0⟩ := κ
  obtain ⟨hx, hb, hml, hown, hts, hK, hA, hst9, hlk, hR⟩ := hc
  subst hR
  intro M ad H locs ls a M' kc ks cs ss hF hfin hcc hss hW hl hst
  obtain ⟨hP, hD, hS, hM, hn, hC, hex, hea⟩ := id hW
  obtain ⟨r9, M1, c1, s1, c2, s2, q1, hF, hkc, hks⟩ := wq_some hF
  have hcc : cs + kc ≤ mc := hcc
  have hss : ss + ks ≤ ms := hss
  obtain ⟨hsA, hsT⟩ := okS_app hst
  have hst := okS_tl hsT
  have hsR : okW (wM ((p, l9, e, _, s, m, args, below, meth, c), (D, g, A, Q), M0, ad0)) M (ci, .ref h) := okS_hd hsT
  have hav : okS0 M ((ci, .ref h) :: As) := fun q hq => by
    rcases List.mem_cons.mp hq with rfl | hq
    · exact hsR
    · exact okS_rev hsA q hq
  have hMet := hct l9 g D ad H.size M r9 M1 c1 s1 hst9 q1 hav
  refine vw_call (va_runI (b := ad h) (As := trS ad As) (rest := trS ad st) ⟨hx, hb, hml, hown, hts⟩ hMet (cwI n hts (tw_y hc5) rfl rfl rfl (hts _ hw4) (hts _ hw1) (hts _ hw2) hyn hmo ⟨hr1, hr2⟩) ⟨wM0_blind, fun U hU hW9 => ⟨rfl, wM0_at hP hD hS hA hK hM hn hex.2.2 hC hU hW9⟩⟩ rfl (by show (trS ad As).length = n; unfold trS; rw [List.length_map]; exact hlen) hl.1.1 (trS_rev ad As ((ci, .ref h) :: st)) (lv_room (by rw [cat_tr]; exact hs8)) hd ⟨show cs + c1 ≤ mc by omega, show ss + s1 ≤ ms by omega⟩) hS (fun q _ h => wA_sub hD hS hA q h) (wA_sub hD hS hA) (fun wv t H1 locs1 ht hvm hB hz1 hk1 hS1 => ?_)
  obtain ⟨ad1, hwv, hokr, hP1, hD1, hM1, hn1, hx1, ha1⟩ := hB
  rw [ht] at hP1
  have e9 : trS ad1 ((wt r9).toList ++ st) = wv.toList ++ trS ad st := by
    have e8 := trS_ex (κ := ((p, l9, e, _, s, m, args, below, meth, c), (D, g, A, Q), M0, ad0)) hn ha1 hst
    unfold trS at e8 ⊢
    rw [List.map_append, e8, hwv]
    cases wt r9 <;> rfl
  rw [← e9]
  exact kk r9 M1 ad1 H1 locs1 ls a M' c2 s2 (cs + c1) (ss + s1) hF hfin (show cs + c1 + c2 ≤ mc by omega) (show ss + s1 + s2 ≤ ms by omega) ⟨hP1, hD1.weaken (fun _ q _ h => wA_sub hD hS hA q.1 h), hS1, hM1, hn1, hC.go (State.WarmedH.refl s) (fun _ _ _ => rfl) (fun _ z => z) (fun x hx => ha1 x (Or.inr hx)), hex.tr hx1, exA.tr hex.1 hea ha1⟩ (lvk_ex (κ := ((p, l9, e, _, s, m, args, below, meth, c), (D, g, A, Q), M0, ad0)) hn hx1 ha1 hl) (fun q hq => by
    rcases List.mem_append.mp hq with hq | hq
    · cases hw9 : wt r9 with
      | none => rw [hw9] at hq; cases hq
      | some v9 =>
        rw [hw9] at hq
        have hq : q = v9 := by simpa using hq
        subst hq
        exact hokr _ hw9
    · exact okS_ex (κ := ((p, l9, e, _, s, m, args, below, meth, c), (D, g, A, Q), M0, ad0)) hx1 hst q hq)
theorem N_callIN (hc : Jc κ own cc nL fr mc ms lc) {h : Nat} {y : MethodName} {b : ByteArray} {nL' : Nat} {fr' lc' index n : Nat} {As : List TV} {st0 : List TV} {Fc : Mm → Option (β × Mm × Nat × Nat)} {hst1 : String} {wt : β → Option TV} (hct : Cw wt y b nL' none fr' lc' ((ci, .ref h) :: As) Fc) (hd : decode cc pc = .ok (.invokespecial index, 3)) (hmo : MOk y n) (hyn : y.name = "<init>") (hw1 : (own, index, y, hst1) ∈ nMw) (hw2 : Cond.instanceMethod y ∈ TW) (hw4 : Cond.initialized y.cls ∈ TW) (hc5 : Cond.code y b nL' none ∈ TW) (hlen : As.length = n) (hr1 : fr' + 1 ≤ fr) (hr2 : 8 + (nL' + 11) + lc' ≤ lc) (hs8 : (st.map (fun q => q.2.category)).sum ≤ 8) (hst0 : st0 = As.reverse ++ (ci, .ref h) :: st) {G1 : β → Mm → Option (α × Mm × Nat × Nat)} (kk : ∀ r, Jw κ (wM κ) nL fin (pc + 3) l ((wt r).toList ++ st) (G1 r)) : Jw κ (wM κ) nL fin pc l st0 (wq Fc G1) := by
  subst hst0
  obtain ⟨⟨p, l9, e, R, s, m, args, below, meth, c⟩, ⟨D, g, A, Q⟩, M0, ad0⟩ := κ
  obtain ⟨hx, hb, hml, hown, hts, hK, hA, hst9, hlk, hR⟩ := hc
  subst hR
  intro M ad H locs ls a M' kc ks cs ss hF hfin hcc hss hW hl hst
  obtain ⟨hP, hD, hS, hM, hn, hC, hex, hea⟩ := id hW
  obtain ⟨r9, M1, c1, s1, c2, s2, q1, hF, hkc, hks⟩ := wq_some hF
  have hcc : cs + kc ≤ mc := hcc
  have hss : ss + ks ≤ ms := hss
  obtain ⟨hsA, hsT⟩ := okS_app hst
  have hst := okS_tl hsT
  have hsR : okW (wM ((p, l9, e, _, s, m, args, below, meth, c), (D, g, A, Q), M0, ad0)) M (ci, .ref h) := okS_hd hsT
  have hav : okS0 M ((ci, .ref h) :: As) := fun q hq => by
    rcases List.mem_cons.mp hq with rfl | hq
    · exact hsR
    · exact okS_rev hsA q hq
  have hMet := hct l9 g D ad H.size M r9 M1 c1 s1 hst9 q1 hav
  refine vw_call (va_runIN (b := ad h) (As := trS ad As) (rest := trS ad st) ⟨hx, hb, hml, hown, hts⟩ hMet ⟨va_cnB n hts (tw_y hc5) rfl rfl rfl (hC.2.2.2.2.2.2.2.2.1 _ hw1) (hts _ hw4) hmo ⟨hr1, hr2⟩, hyn, hts _ hw2⟩ ⟨wM0_blind, fun U hU hW9 => ⟨rfl, wM0_at hP hD hS hA hK hM hn hex.2.2 hC hU hW9⟩⟩ rfl (by show (trS ad As).length = n; unfold trS; rw [List.length_map]; exact hlen) hl.1.1 (trS_rev ad As ((ci, .ref h) :: st)) (lv_room (by rw [cat_tr]; exact hs8)) hd ⟨show cs + c1 ≤ mc by omega, show ss + s1 ≤ ms by omega⟩) hS (fun q _ h => wA_sub hD hS hA q h) (wA_sub hD hS hA) (fun wv t H1 locs1 ht hvm hB hz1 hk1 hS1 => ?_)
  obtain ⟨ad1, hwv, hokr, hP1, hD1, hM1, hn1, hx1, ha1⟩ := hB
  rw [ht] at hP1
  have e9 : trS ad1 ((wt r9).toList ++ st) = wv.toList ++ trS ad st := by
    have e8 := trS_ex (κ := ((p, l9, e, _, s, m, args, below, meth, c), (D, g, A, Q), M0, ad0)) hn ha1 hst
    unfold trS at e8 ⊢
    rw [List.map_append, e8, hwv]
    cases wt r9 <;> rfl
  rw [← e9]
  exact kk r9 M1 ad1 H1 locs1 ls a M' c2 s2 (cs + c1) (ss + s1) hF hfin (show cs + c1 + c2 ≤ mc by omega) (show ss + s1 + s2 ≤ ms by omega) ⟨hP1, hD1.weaken (fun _ q _ h => wA_sub hD hS hA q.1 h), hS1, hM1, hn1, hC.go (State.WarmedH.refl s) (fun _ _ _ => rfl) (fun _ z => z) (fun x hx => ha1 x (Or.inr hx)), hex.tr hx1, exA.tr hex.1 hea ha1⟩ (lvk_ex (κ := ((p, l9, e, _, s, m, args, below, meth, c), (D, g, A, Q), M0, ad0)) hn hx1 ha1 hl) (fun q hq => by
    rcases List.mem_append.mp hq with hq | hq
    · cases hw9 : wt r9 with
      | none => rw [hw9] at hq; cases hq
      | some v9 =>
        rw [hw9] at hq
        have hq : q = v9 := by simpa using hq
        subst hq
        exact hokr _ hw9
    · exact okS_ex (κ := ((p, l9, e, _, s, m, args, below, meth, c), (D, g, A, Q), M0, ad0)) hx1 hst q hq)
theorem N_callU (hc : Jc κ own cc nL fr mc ms lc) (hcl : ClOk ci C T N ty) {h : Nat} {x y : MethodName} {owner : String} {b : ByteArray} {nL' : Nat} {ret' : Option FieldType} {fr' lc' index n : Nat} {As : List TV} {st0 : List TV} {Fc : Mm → Option (β × Mm × Nat × Nat)} {wt : β → Option TV} (hct : Cw wt y b nL' ret' fr' lc' ((ci, .ref h) :: As) Fc) (hd : decode cc pc = .ok (.invokevirtual index, 3)) (hmo : MOk x n) (hyx : y = ⟨owner, x.name, x.desc⟩) (hdo : owner ≠ "java/lang/invoke/MethodHandle" ∧ owner ≠ "java/lang/invoke/VarHandle") (hG : GoodIn TW (va_wsU own index C owner x y (wsY y b nL' ret'))) (hlen : As.length = n) (hr1 : fr' + 1 ≤ fr) (hr2 : 8 + (nL' + 11) + lc' ≤ lc) (hs8 : (st.map (fun q => q.2.category)).sum ≤ 8) (hst0 : st0 = As.reverse ++ (ci, .ref h) :: st) {G1 : β → Mm → Option (α × Mm × Nat × Nat)} (kk : ∀ r, Jw κ (wM κ) nL fin (pc + 3) l ((wt r).toList ++ st) (G1 r)) : Jw κ (wM κ) nL fin pc l st0 (wq Fc G1) := by
  subst hst0
  obtain ⟨⟨p, l9, e, R, s, m, args, below, meth, c⟩, ⟨D, g, A, Q⟩, M0, ad0⟩ := κ
  obtain ⟨hx, hb, hml, hown, hts, hK, hA, hst9, hlk, hR⟩ := hc
  subst hR
  intro M ad H locs ls a M' kc ks cs ss hF hfin hcc hss hW hl hst
  obtain ⟨hP, hD, hS, hM, hn, hC, hex, hea⟩ := id hW
  obtain ⟨r9, M1, c1, s1, c2, s2, q1, hF, hkc, hks⟩ := wq_some hF
  have hcc : cs + kc ≤ mc := hcc
  have hss : ss + ks ≤ ms := hss
  obtain ⟨hsA, hsT⟩ := okS_app hst
  have hst := okS_tl hsT
  have hsR : okW (wM ((p, l9, e, _, s, m, args, below, meth, c), (D, g, A, Q), M0, ad0)) M (ci, .ref h) := okS_hd hsT
  have hav : okS0 M ((ci, .ref h) :: As) := fun q hq => by
    rcases List.mem_cons.mp hq with rfl | hq
    · exact hsR
    · exact okS_rev hsA q hq
  have hMet := hct l9 g D ad H.size M r9 M1 c1 s1 hst9 q1 hav
  obtain ⟨hc1, -, -, -, -, h9⟩ := hcl
  obtain ⟨hh, hkd9⟩ : h < Mn M ∧ Mk M h = ci := (hsR h rfl).at (by omega)
  have he := (wl_get g ad hh).trans (congrArg (fun x => some (ad h, x)) (ce_obj g ad hkd9 h9))
  refine vw_call (va_runU (C := C) (b := ad h) (As := trS ad As) (rest := trS ad st) ⟨hx, hb, hml, hown, hts⟩ hMet (va_cwU n hts hG rfl rfl rfl hyx ⟨hdo.1, hdo.2, hmo.2.2⟩ ⟨hr1, hr2⟩) ⟨wM0_blind, va_recv hK hP hc1 he, fun U hU hW9 => ⟨rfl, wM0_at hP hD hS hA hK hM hn hex.2.2 hC hU hW9⟩⟩ rfl (by show (trS ad As).length = n; unfold trS; rw [List.length_map]; exact hlen) hl.1.1 (trS_rev ad As ((ci, .ref h) :: st)) (lv_room (by rw [cat_tr]; exact hs8)) hd ⟨show cs + c1 ≤ mc by omega, show ss + s1 ≤ ms by omega⟩) hS (fun q _ h => wA_sub hD hS hA q h) (wA_sub hD hS hA) (fun wv t H1 locs1 ht hvm hB hz1 hk1 hS1 => ?_)
  obtain ⟨ad1, hwv, hokr, hP1, hD1, hM1, hn1, hx1, ha1⟩ := hB
  rw [ht] at hP1
  have e9 : trS ad1 ((wt r9).toList ++ st) = wv.toList ++ trS ad st := by
    have e8 := trS_ex (κ := ((p, l9, e, _, s, m, args, below, meth, c), (D, g, A, Q), M0, ad0)) hn ha1 hst
    unfold trS at e8 ⊢
    rw [List.map_append, e8, hwv]
    cases wt r9 <;> rfl
  rw [← e9]
  exact kk r9 M1 ad1 H1 locs1 ls a M' c2 s2 (cs + c1) (ss + s1) hF hfin (show cs + c1 + c2 ≤ mc by omega) (show ss + s1 + s2 ≤ ms by omega) ⟨hP1, hD1.weaken (fun _ q _ h => wA_sub hD hS hA q.1 h), hS1, hM1, hn1, hC.go (State.WarmedH.refl s) (fun _ _ _ => rfl) (fun _ z => z) (fun x hx => ha1 x (Or.inr hx)), hex.tr hx1, exA.tr hex.1 hea ha1⟩ (lvk_ex (κ := ((p, l9, e, _, s, m, args, below, meth, c), (D, g, A, Q), M0, ad0)) hn hx1 ha1 hl) (fun q hq => by
    rcases List.mem_append.mp hq with hq | hq
    · cases hw9 : wt r9 with
      | none => rw [hw9] at hq; cases hq
      | some v9 =>
        rw [hw9] at hq
        have hq : q = v9 := by simpa using hq
        subst hq
        exact hokr _ hw9
    · exact okS_ex (κ := ((p, l9, e, _, s, m, args, below, meth, c), (D, g, A, Q), M0, ad0)) hx1 hst q hq)
theorem N_callO (hc : Jc κ own cc nL fr mc ms lc) (hcl : ClOk ci C T N ty) {h : Nat} {x y : MethodName} {owner : String} {b : ByteArray} {nL' : Nat} {ret' : Option FieldType} {fr' lc' index n : Nat} {As : List TV} {st0 : List TV} {Fc : Mm → Option (β × Mm × Nat × Nat)} {b0 : ByteArray} {m0 : Nat} {r0 : Option FieldType} {wt : β → Option TV} (hct : Cw wt y b nL' ret' fr' lc' ((ci, .ref h) :: As) Fc) (hd : decode cc pc = .ok (.invokevirtual index, 3)) (hmo : MOk x n) (h00 : Cond.code ⟨owner, x.name, x.desc⟩ b0 m0 r0 ∈ TW) (hdo : owner ≠ "java/lang/invoke/MethodHandle" ∧ owner ≠ "java/lang/invoke/VarHandle") (hG : GoodIn TW (va_wsO own index C owner x y (wsY y b nL' ret'))) (hlen : As.length = n) (hr1 : fr' + 1 ≤ fr) (hr2 : 8 + (nL' + 11) + lc' ≤ lc) (hs8 : (st.map (fun q => q.2.category)).sum ≤ 8) (hst0 : st0 = As.reverse ++ (ci, .ref h) :: st) {G1 : β → Mm → Option (α × Mm × Nat × Nat)} (kk : ∀ r, Jw κ (wM κ) nL fin (pc + 3) l ((wt r).toList ++ st) (G1 r)) : Jw κ (wM κ) nL fin pc l st0 (wq Fc G1) := by
  subst hst0
  obtain ⟨⟨p, l9, e, R, s, m, args, below, meth, c⟩, ⟨D, g, A, Q⟩, M0, ad0⟩ := κ
  obtain ⟨hx, hb, hml, hown, hts, hK, hA, hst9, hlk, hR⟩ := hc
  subst hR
  intro M ad H locs ls a M' kc ks cs ss hF hfin hcc hss hW hl hst
  obtain ⟨hP, hD, hS, hM, hn, hC, hex, hea⟩ := id hW
  obtain ⟨r9, M1, c1, s1, c2, s2, q1, hF, hkc, hks⟩ := wq_some hF
  have hcc : cs + kc ≤ mc := hcc
  have hss : ss + ks ≤ ms := hss
  obtain ⟨hsA, hsT⟩ := okS_app hst
  have hst := okS_tl hsT
  have hsR : okW (wM ((p, l9, e, _, s, m, args, below, meth, c), (D, g, A, Q), M0, ad0)) M (ci, .ref h) := okS_hd hsT
  have hav : okS0 M ((ci, .ref h) :: As) := fun q hq => by
    rcases List.mem_cons.mp hq with rfl | hq
    · exact hsR
    · exact okS_rev hsA q hq
  have hMet := hct l9 g D ad H.size M r9 M1 c1 s1 hst9 q1 hav
  obtain ⟨hc1, -, -, -, -, h9⟩ := hcl
  obtain ⟨hh, hkd9⟩ : h < Mn M ∧ Mk M h = ci := (hsR h rfl).at (by omega)
  have he := (wl_get g ad hh).trans (congrArg (fun x => some (ad h, x)) (ce_obj g ad hkd9 h9))
  refine vw_call (va_runU (C := C) (b := ad h) (As := trS ad As) (rest := trS ad st) ⟨hx, hb, hml, hown, hts⟩ hMet (va_cwO n hts hG rfl rfl rfl h00 ⟨hdo.1, hdo.2, hmo.2.2⟩ ⟨hr1, hr2⟩) ⟨wM0_blind, va_recv hK hP hc1 he, fun U hU hW9 => ⟨rfl, wM0_at hP hD hS hA hK hM hn hex.2.2 hC hU hW9⟩⟩ rfl (by show (trS ad As).length = n; unfold trS; rw [List.length_map]; exact hlen) hl.1.1 (trS_rev ad As ((ci, .ref h) :: st)) (lv_room (by rw [cat_tr]; exact hs8)) hd ⟨show cs + c1 ≤ mc by omega, show ss + s1 ≤ ms by omega⟩) hS (fun q _ h => wA_sub hD hS hA q h) (wA_sub hD hS hA) (fun wv t H1 locs1 ht hvm hB hz1 hk1 hS1 => ?_)
  obtain ⟨ad1, hwv, hokr, hP1, hD1, hM1, hn1, hx1, ha1⟩ := hB
  rw [ht] at hP1
  have e9 : trS ad1 ((wt r9).toList ++ st) = wv.toList ++ trS ad st := by
    have e8 := trS_ex (κ := ((p, l9, e, _, s, m, args, below, meth, c), (D, g, A, Q), M0, ad0)) hn ha1 hst
    unfold trS at e8 ⊢
    rw [List.map_append, e8, hwv]
    cases wt r9 <;> rfl
  rw [← e9]
  exact kk r9 M1 ad1 H1 locs1 ls a M' c2 s2 (cs + c1) (ss + s1) hF hfin (show cs + c1 + c2 ≤ mc by omega) (show ss + s1 + s2 ≤ ms by omega) ⟨hP1, hD1.weaken (fun _ q _ h => wA_sub hD hS hA q.1 h), hS1, hM1, hn1, hC.go (State.WarmedH.refl s) (fun _ _ _ => rfl) (fun _ z => z) (fun x hx => ha1 x (Or.inr hx)), hex.tr hx1, exA.tr hex.1 hea ha1⟩ (lvk_ex (κ := ((p, l9, e, _, s, m, args, below, meth, c), (D, g, A, Q), M0, ad0)) hn hx1 ha1 hl) (fun q hq => by
    rcases List.mem_append.mp hq with hq | hq
    · cases hw9 : wt r9 with
      | none => rw [hw9] at hq; cases hq
      | some v9 =>
        rw [hw9] at hq
        have hq : q = v9 := by simpa using hq
        subst hq
        exact hokr _ hw9
    · exact okS_ex (κ := ((p, l9, e, _, s, m, args, below, meth, c), (D, g, A, Q), M0, ad0)) hx1 hst q hq)
theorem N_callSU (hc : Jc κ own cc nL fr mc ms lc) (hcl : ClOk ci C T N ty) {h : Nat} {y : MethodName} {b : ByteArray} {nL' : Nat} {ret' : Option FieldType} {fr' lc' index n : Nat} {As : List TV} {st0 : List TV} {Fc : Mm → Option (β × Mm × Nat × Nat)} {n9 : Nat} {wt : β → Option TV} (hct : Cw wt y b nL' ret' fr' lc' ((ci, .ref h) :: As) Fc) (hd : decode cc pc = .ok (.invokespecial index, 3)) (hmo : MOk y n) (hyn : y.name ≠ "<init>") (hci : Cond.instantiable C n9 ∈ TW) (hG : GoodIn TW (va_wsSU own index y (wsY y b nL' ret'))) (hlen : As.length = n) (hr1 : fr' + 1 ≤ fr) (hr2 : 8 + (nL' + 11) + lc' ≤ lc) (hs8 : (st.map (fun q => q.2.category)).sum ≤ 8) (hst0 : st0 = As.reverse ++ (ci, .ref h) :: st) {G1 : β → Mm → Option (α × Mm × Nat × Nat)} (kk : ∀ r, Jw κ (wM κ) nL fin (pc + 3) l ((wt r).toList ++ st) (G1 r)) : Jw κ (wM κ) nL fin pc l st0 (wq Fc G1) := by
  subst hst0
  obtain ⟨⟨p, l9, e, R, s, m, args, below, meth, c⟩, ⟨D, g, A, Q⟩, M0, ad0⟩ := κ
  obtain ⟨hx, hb, hml, hown, hts, hK, hA, hst9, hlk, hR⟩ := hc
  subst hR
  intro M ad H locs ls a M' kc ks cs ss hF hfin hcc hss hW hl hst
  obtain ⟨hP, hD, hS, hM, hn, hC, hex, hea⟩ := id hW
  obtain ⟨r9, M1, c1, s1, c2, s2, q1, hF, hkc, hks⟩ := wq_some hF
  have hcc : cs + kc ≤ mc := hcc
  have hss : ss + ks ≤ ms := hss
  obtain ⟨hsA, hsT⟩ := okS_app hst
  have hst := okS_tl hsT
  have hsR : okW (wM ((p, l9, e, _, s, m, args, below, meth, c), (D, g, A, Q), M0, ad0)) M (ci, .ref h) := okS_hd hsT
  have hav : okS0 M ((ci, .ref h) :: As) := fun q hq => by
    rcases List.mem_cons.mp hq with rfl | hq
    · exact hsR
    · exact okS_rev hsA q hq
  have hMet := hct l9 g D ad H.size M r9 M1 c1 s1 hst9 q1 hav
  obtain ⟨hc1, -, -, -, -, h9⟩ := hcl
  obtain ⟨hh, hkd9⟩ : h < Mn M ∧ Mk M h = ci := (hsR h rfl).at (by omega)
  have he := (wl_get g ad hh).trans (congrArg (fun x => some (ad h, x)) (ce_obj g ad hkd9 h9))
  obtain ⟨cC, hcC⟩ := classAt_of (hts _ hci)
  refine vw_call (va_runSU (C := C) (b := ad h) (As := trS ad As) (rest := trS ad st) hcC ⟨hx, hb, hml, hown, hts⟩ hMet (va_cwSU n hts hG rfl rfl rfl ⟨hyn, hmo.2.2⟩ ⟨hr1, hr2⟩) ⟨wM0_blind, va_recv hK hP hc1 he, fun U hU hW9 => ⟨rfl, wM0_at hP hD hS hA hK hM hn hex.2.2 hC hU hW9⟩⟩ rfl (by show (trS ad As).length = n; unfold trS; rw [List.length_map]; exact hlen) hl.1.1 (trS_rev ad As ((ci, .ref h) :: st)) (lv_room (by rw [cat_tr]; exact hs8)) hd ⟨show cs + c1 ≤ mc by omega, show ss + s1 ≤ ms by omega⟩) hS (fun q _ h => wA_sub hD hS hA q h) (wA_sub hD hS hA) (fun wv t H1 locs1 ht hvm hB hz1 hk1 hS1 => ?_)
  obtain ⟨ad1, hwv, hokr, hP1, hD1, hM1, hn1, hx1, ha1⟩ := hB
  rw [ht] at hP1
  have e9 : trS ad1 ((wt r9).toList ++ st) = wv.toList ++ trS ad st := by
    have e8 := trS_ex (κ := ((p, l9, e, _, s, m, args, below, meth, c), (D, g, A, Q), M0, ad0)) hn ha1 hst
    unfold trS at e8 ⊢
    rw [List.map_append, e8, hwv]
    cases wt r9 <;> rfl
  rw [← e9]
  exact kk r9 M1 ad1 H1 locs1 ls a M' c2 s2 (cs + c1) (ss + s1) hF hfin (show cs + c1 + c2 ≤ mc by omega) (show ss + s1 + s2 ≤ ms by omega) ⟨hP1, hD1.weaken (fun _ q _ h => wA_sub hD hS hA q.1 h), hS1, hM1, hn1, hC.go (State.WarmedH.refl s) (fun _ _ _ => rfl) (fun _ z => z) (fun x hx => ha1 x (Or.inr hx)), hex.tr hx1, exA.tr hex.1 hea ha1⟩ (lvk_ex (κ := ((p, l9, e, _, s, m, args, below, meth, c), (D, g, A, Q), M0, ad0)) hn hx1 ha1 hl) (fun q hq => by
    rcases List.mem_append.mp hq with hq | hq
    · cases hw9 : wt r9 with
      | none => rw [hw9] at hq; cases hq
      | some v9 =>
        rw [hw9] at hq
        have hq : q = v9 := by simpa using hq
        subst hq
        exact hokr _ hw9
    · exact okS_ex (κ := ((p, l9, e, _, s, m, args, below, meth, c), (D, g, A, Q), M0, ad0)) hx1 hst q hq)
theorem N_callF (hc : Jc κ own cc nL fr mc ms lc) (hcl : ClOk ci C T N ty) {h : Nat} {x y : MethodName} {cnt : Nat} {b : ByteArray} {nL' : Nat} {ret' : Option FieldType} {fr' lc' index n : Nat} {As : List TV} {st0 : List TV} {Fc : Mm → Option (β × Mm × Nat × Nat)} {wt : β → Option TV} (hct : Cw wt y b nL' ret' fr' lc' ((ci, .ref h) :: As) Fc) (hd : decode cc pc = .ok (.invokeinterface index cnt, 5)) (hmo : MOk x n) (hci : Cond.instantiable C N ∈ TW) (hCi : C = itN) (hxy : (x, y) ∈ itF) (hdx : x.cls ≠ "java/lang/invoke/MethodHandle" ∧ x.cls ≠ "java/lang/invoke/VarHandle") (hG : GoodIn TW (va_wsF own index C x y (wsY y b nL' ret'))) (hlen : As.length = n) (hr1 : fr' + 1 ≤ fr) (hr2 : 8 + (nL' + 11) + lc' ≤ lc) (hs8 : (st.map (fun q => q.2.category)).sum ≤ 8) (hst0 : st0 = As.reverse ++ (ci, .ref h) :: st) {G1 : β → Mm → Option (α × Mm × Nat × Nat)} (kk : ∀ r, Jw κ (wM κ) nL fin (pc + 5) l ((wt r).toList ++ st) (G1 r)) : Jw κ (wM κ) nL fin pc l st0 (wq Fc G1) := by
  subst hst0
  obtain ⟨⟨p, l9, e, R, s, m, args, below, meth, c⟩, ⟨D, g, A, Q⟩, M0, ad0⟩ := κ
  obtain ⟨hx, hb, hml, hown, hts, hK, hA, hst9, hlk, hR⟩ := hc
  subst hR
  intro M ad H locs ls a M' kc ks cs ss hF hfin hcc hss hW hl hst
  obtain ⟨hP, hD, hS, hM, hn, hC, hex, hea⟩ := id hW
  obtain ⟨r9, M1, c1, s1, c2, s2, q1, hF, hkc, hks⟩ := wq_some hF
  have hcc : cs + kc ≤ mc := hcc
  have hss : ss + ks ≤ ms := hss
  obtain ⟨hsA, hsT⟩ := okS_app hst
  have hst := okS_tl hsT
  have hsR : okW (wM ((p, l9, e, _, s, m, args, below, meth, c), (D, g, A, Q), M0, ad0)) M (ci, .ref h) := okS_hd hsT
  have hav : okS0 M ((ci, .ref h) :: As) := fun q hq => by
    rcases List.mem_cons.mp hq with rfl | hq
    · exact hsR
    · exact okS_rev hsA q hq
  have hMet := hct l9 g D ad H.size M r9 M1 c1 s1 hst9 q1 hav
  obtain ⟨hc1, -, -, -, -, h9⟩ := hcl
  obtain ⟨hh, hkd9⟩ : h < Mn M ∧ Mk M h = ci := (hsR h rfl).at (by omega)
  have he := (wl_get g ad hh).trans (congrArg (fun x => some (ad h, x)) (ce_obj g ad hkd9 h9))
  obtain ⟨cC, hcC⟩ := classAt_of (hts _ hci)
  refine vw_call5 (va_runF (C := C) (b := ad h) (As := trS ad As) (rest := trS ad st) hcC ⟨hx, hb, hml, hown, hts⟩ hMet (va_cwF n hts hG rfl rfl rfl (by rw [hCi]; exact (csl hC).2.2.2.2.2.2.2.1 _ hxy) ⟨hdx.1, hdx.2, hmo.2.2⟩ ⟨hr1, hr2⟩) ⟨wM0_blind, va_recv hK hP hc1 he, fun U hU hW9 => ⟨rfl, wM0_at hP hD hS hA hK hM hn hex.2.2 hC hU hW9⟩⟩ rfl (by show (trS ad As).length = n; unfold trS; rw [List.length_map]; exact hlen) hl.1.1 (trS_rev ad As ((ci, .ref h) :: st)) (lv_room (by rw [cat_tr]; exact hs8)) hd ⟨show cs + c1 ≤ mc by omega, show ss + s1 ≤ ms by omega⟩) hS (fun q _ h => wA_sub hD hS hA q h) (wA_sub hD hS hA) (fun wv t H1 locs1 ht hvm hB hz1 hk1 hS1 => ?_)
  obtain ⟨ad1, hwv, hokr, hP1, hD1, hM1, hn1, hx1, ha1⟩ := hB
  rw [ht] at hP1
  have e9 : trS ad1 ((wt r9).toList ++ st) = wv.toList ++ trS ad st := by
    have e8 := trS_ex (κ := ((p, l9, e, _, s, m, args, below, meth, c), (D, g, A, Q), M0, ad0)) hn ha1 hst
    unfold trS at e8 ⊢
    rw [List.map_append, e8, hwv]
    cases wt r9 <;> rfl
  rw [← e9]
  exact kk r9 M1 ad1 H1 locs1 ls a M' c2 s2 (cs + c1) (ss + s1) hF hfin (show cs + c1 + c2 ≤ mc by omega) (show ss + s1 + s2 ≤ ms by omega) ⟨hP1, hD1.weaken (fun _ q _ h => wA_sub hD hS hA q.1 h), hS1, hM1, hn1, hC.go (State.WarmedH.refl s) (fun _ _ _ => rfl) (fun _ z => z) (fun x hx => ha1 x (Or.inr hx)), hex.tr hx1, exA.tr hex.1 hea ha1⟩ (lvk_ex (κ := ((p, l9, e, _, s, m, args, below, meth, c), (D, g, A, Q), M0, ad0)) hn hx1 ha1 hl) (fun q hq => by
    rcases List.mem_append.mp hq with hq | hq
    · cases hw9 : wt r9 with
      | none => rw [hw9] at hq; cases hq
      | some v9 =>
        rw [hw9] at hq
        have hq : q = v9 := by simpa using hq
        subst hq
        exact hokr _ hw9
    · exact okS_ex (κ := ((p, l9, e, _, s, m, args, below, meth, c), (D, g, A, Q), M0, ad0)) hx1 hst q hq)
theorem N_callKV (hc : Jc κ own cc nL fr mc ms lc) {h : Nat} {y : MethodName} {b : ByteArray} {nL' : Nat} {ret' : Option FieldType} {fr' lc' index n : Nat} {As : List TV} {st0 : List TV} {Fc : Mm → Option (β × Mm × Nat × Nat)} {wt : β → Option TV} (hct : Cw wt y b nL' ret' fr' lc' ((20, .ref h) :: As) Fc) (hd : decode cc pc = .ok (.invokevirtual index, 3)) (hmo : MOk y n) (hyc : y.cls = "java/lang/String") (hw1 : Cond.methodLink own index y ∈ TW) (hw2 : Cond.instanceMethod y ∈ TW) (hw3 : Cond.selects "java/lang/String" y y ∈ TW) (hw4 : Cond.initialized "java/lang/String" ∈ TW) (hc5 : Cond.code y b nL' ret' ∈ TW) (hlen : As.length = n) (hr1 : fr' + 1 ≤ fr) (hr2 : 8 + (nL' + 11) + lc' ≤ lc) (hs8 : (st.map (fun q => q.2.category)).sum ≤ 8) (hst0 : st0 = As.reverse ++ (20, .ref h) :: st) {G1 : β → Mm → Option (α × Mm × Nat × Nat)} (kk : ∀ r, Jw κ (wM κ) nL fin (pc + 3) l ((wt r).toList ++ st) (G1 r)) : Jw κ (wM κ) nL fin pc l st0 (wgrd (sbB h) <| wq Fc G1) := by
  subst hst0
  obtain ⟨⟨p, l9, e, R, s, m, args, below, meth, c⟩, ⟨D, g, A, Q⟩, M0, ad0⟩ := κ
  obtain ⟨hx, hb, hml, hown, hts, hK, hA, hst9, hlk, hR⟩ := hc
  subst hR
  intro M ad H locs ls a M' kc ks cs ss hF hfin hcc hss hW hl hst
  obtain ⟨hP, hD, hS, hM, hn, hC, hex, hea⟩ := id hW
  obtain ⟨hsb, hF⟩ := wgrd_some hF
  obtain ⟨r9, M1, c1, s1, c2, s2, q1, hF, hkc, hks⟩ := wq_some hF
  have hcc : cs + kc ≤ mc := hcc
  have hss : ss + ks ≤ ms := hss
  obtain ⟨hsA, hsT⟩ := okS_app hst
  have hst := okS_tl hsT
  have hsR : okW (wM ((p, l9, e, _, s, m, args, below, meth, c), (D, g, A, Q), M0, ad0)) M (20, .ref h) := okS_hd hsT
  have hav : okS0 M ((20, .ref h) :: As) := fun q hq => by
    rcases List.mem_cons.mp hq with rfl | hq
    · exact hsR
    · exact okS_rev hsA q hq
  have hMet := hct l9 g D ad H.size M r9 M1 c1 s1 hst9 q1 hav
  have hrecv : ∃ cellB : Cell, H[ad h]? = some cellB ∧ cellB.vm.isStatics = false ∧ s.vm.findClass "java/lang/String" = some cellB.cls := by
    obtain ⟨i, b9, rfl, hb9, -⟩ := sbB_at hsb
    obtain ⟨hO, -⟩ := hC.2.1 i b9 hb9
    obtain ⟨cell, o1, o2, o3, -⟩ := hO.kept hS.2.1
    exact ⟨cell, o1, o2, o3⟩
  refine vw_call (va_runV (C := "java/lang/String") (b := ad h) (As := trS ad As) (rest := trS ad st) ⟨hx, hb, hml, hown, hts⟩ hMet (cwV n hts (tw_V hw1 hw2 hw3 hw4 hc5) rfl rfl rfl ⟨hyc, hmo⟩ ⟨hr1, hr2⟩) ⟨wM0_blind, hrecv, fun U hU hW9 => ⟨rfl, wM0_at hP hD hS hA hK hM hn hex.2.2 hC hU hW9⟩⟩ rfl (by show (trS ad As).length = n; unfold trS; rw [List.length_map]; exact hlen) hl.1.1 (trS_rev ad As ((20, .ref h) :: st)) (lv_room (by rw [cat_tr]; exact hs8)) hd ⟨show cs + c1 ≤ mc by omega, show ss + s1 ≤ ms by omega⟩) hS (fun q _ h => wA_sub hD hS hA q h) (wA_sub hD hS hA) (fun wv t H1 locs1 ht hvm hB hz1 hk1 hS1 => ?_)
  obtain ⟨ad1, hwv, hokr, hP1, hD1, hM1, hn1, hx1, ha1⟩ := hB
  rw [ht] at hP1
  have e9 : trS ad1 ((wt r9).toList ++ st) = wv.toList ++ trS ad st := by
    have e8 := trS_ex (κ := ((p, l9, e, _, s, m, args, below, meth, c), (D, g, A, Q), M0, ad0)) hn ha1 hst
    unfold trS at e8 ⊢
    rw [List.map_append, e8, hwv]
    cases wt r9 <;> rfl
  rw [← e9]
  exact kk r9 M1 ad1 H1 locs1 ls a M' c2 s2 (cs + c1) (ss + s1) hF hfin (show cs + c1 + c2 ≤ mc by omega) (show ss + s1 + s2 ≤ ms by omega) ⟨hP1, hD1.weaken (fun _ q _ h => wA_sub hD hS hA q.1 h), hS1, hM1, hn1, hC.go (State.WarmedH.refl s) (fun _ _ _ => rfl) (fun _ z => z) (fun x hx => ha1 x (Or.inr hx)), hex.tr hx1, exA.tr hex.1 hea ha1⟩ (lvk_ex (κ := ((p, l9, e, _, s, m, args, below, meth, c), (D, g, A, Q), M0, ad0)) hn hx1 ha1 hl) (fun q hq => by
    rcases List.mem_append.mp hq with hq | hq
    · cases hw9 : wt r9 with
      | none => rw [hw9] at hq; cases hq
      | some v9 =>
        rw [hw9] at hq
        have hq : q = v9 := by simpa using hq
        subst hq
        exact hokr _ hw9
    · exact okS_ex (κ := ((p, l9, e, _, s, m, args, below, meth, c), (D, g, A, Q), M0, ad0)) hx1 hst q hq)
theorem N_callBV (hc : Jc κ own cc nL fr mc ms lc) {h : Nat} {y : MethodName} {b : ByteArray} {nL' : Nat} {ret' : Option FieldType} {fr' lc' index n : Nat} {As : List TV} {st0 : List TV} {Fc : Mm → Option (β × Mm × Nat × Nat)} {wt : β → Option TV} (hct : Cw wt y b nL' ret' fr' lc' ((28, .ref h) :: As) Fc) (hd : decode cc pc = .ok (.invokevirtual index, 3)) (hmo : MOk y n) (hyc : y.cls = "java/lang/Integer") (hw1 : Cond.methodLink own index y ∈ TW) (hw2 : Cond.instanceMethod y ∈ TW) (hw3 : Cond.selects "java/lang/Integer" y y ∈ TW) (hw4 : Cond.initialized "java/lang/Integer" ∈ TW) (hc5 : Cond.code y b nL' ret' ∈ TW) (hlen : As.length = n) (hr1 : fr' + 1 ≤ fr) (hr2 : 8 + (nL' + 11) + lc' ≤ lc) (hs8 : (st.map (fun q => q.2.category)).sum ≤ 8) (hst0 : st0 = As.reverse ++ (28, .ref h) :: st) {G1 : β → Mm → Option (α × Mm × Nat × Nat)} (kk : ∀ r, Jw κ (wM κ) nL fin (pc + 3) l ((wt r).toList ++ st) (G1 r)) : Jw κ (wM κ) nL fin pc l st0 (wq Fc G1) := by
  subst hst0
  obtain ⟨⟨p, l9, e, R, s, m, args, below, meth, c⟩, ⟨D, g, A, Q⟩, M0, ad0⟩ := κ
  obtain ⟨hx, hb, hml, hown, hts, hK, hA, hst9, hlk, hR⟩ := hc
  subst hR
  intro M ad H locs ls a M' kc ks cs ss hF hfin hcc hss hW hl hst
  obtain ⟨hP, hD, hS, hM, hn, hC, hex, hea⟩ := id hW
  obtain ⟨r9, M1, c1, s1, c2, s2, q1, hF, hkc, hks⟩ := wq_some hF
  have hcc : cs + kc ≤ mc := hcc
  have hss : ss + ks ≤ ms := hss
  obtain ⟨hsA, hsT⟩ := okS_app hst
  have hst := okS_tl hsT
  have hsR : okW (wM ((p, l9, e, _, s, m, args, below, meth, c), (D, g, A, Q), M0, ad0)) M (28, .ref h) := okS_hd hsT
  have hav : okS0 M ((28, .ref h) :: As) := fun q hq => by
    rcases List.mem_cons.mp hq with rfl | hq
    · exact hsR
    · exact okS_rev hsA q hq
  have hMet := hct l9 g D ad H.size M r9 M1 c1 s1 hst9 q1 hav
  have hrecv : ∃ cellB : Cell, H[ad h]? = some cellB ∧ cellB.vm.isStatics = false ∧ s.vm.findClass "java/lang/Integer" = some cellB.cls := by
    obtain ⟨b1, b2⟩ := okH28 (hsR h rfl)
    obtain ⟨k, rfl⟩ : ∃ k, h = IB + k := ⟨h - IB, by omega⟩
    obtain ⟨cell, h1, h2, h3, h4⟩ := ((csl hC).2.2.1.2.2).1 k (by omega)
    have hlt : ad (IB + k) < s.heap.size := (Array.getElem?_eq_some_iff.mp h1).1
    exact ⟨cell, by rw [hS.2.1 _ hlt h4]; exact h1, h2, h3⟩
  refine vw_call (va_runV (C := "java/lang/Integer") (b := ad h) (As := trS ad As) (rest := trS ad st) ⟨hx, hb, hml, hown, hts⟩ hMet (cwV n hts (tw_V hw1 hw2 hw3 hw4 hc5) rfl rfl rfl ⟨hyc, hmo⟩ ⟨hr1, hr2⟩) ⟨wM0_blind, hrecv, fun U hU hW9 => ⟨rfl, wM0_at hP hD hS hA hK hM hn hex.2.2 hC hU hW9⟩⟩ rfl (by show (trS ad As).length = n; unfold trS; rw [List.length_map]; exact hlen) hl.1.1 (trS_rev ad As ((28, .ref h) :: st)) (lv_room (by rw [cat_tr]; exact hs8)) hd ⟨show cs + c1 ≤ mc by omega, show ss + s1 ≤ ms by omega⟩) hS (fun q _ h => wA_sub hD hS hA q h) (wA_sub hD hS hA) (fun wv t H1 locs1 ht hvm hB hz1 hk1 hS1 => ?_)
  obtain ⟨ad1, hwv, hokr, hP1, hD1, hM1, hn1, hx1, ha1⟩ := hB
  rw [ht] at hP1
  have e9 : trS ad1 ((wt r9).toList ++ st) = wv.toList ++ trS ad st := by
    have e8 := trS_ex (κ := ((p, l9, e, _, s, m, args, below, meth, c), (D, g, A, Q), M0, ad0)) hn ha1 hst
    unfold trS at e8 ⊢
    rw [List.map_append, e8, hwv]
    cases wt r9 <;> rfl
  rw [← e9]
  exact kk r9 M1 ad1 H1 locs1 ls a M' c2 s2 (cs + c1) (ss + s1) hF hfin (show cs + c1 + c2 ≤ mc by omega) (show ss + s1 + s2 ≤ ms by omega) ⟨hP1, hD1.weaken (fun _ q _ h => wA_sub hD hS hA q.1 h), hS1, hM1, hn1, hC.go (State.WarmedH.refl s) (fun _ _ _ => rfl) (fun _ z => z) (fun x hx => ha1 x (Or.inr hx)), hex.tr hx1, exA.tr hex.1 hea ha1⟩ (lvk_ex (κ := ((p, l9, e, _, s, m, args, below, meth, c), (D, g, A, Q), M0, ad0)) hn hx1 ha1 hl) (fun q hq => by
    rcases List.mem_append.mp hq with hq | hq
    · cases hw9 : wt r9 with
      | none => rw [hw9] at hq; cases hq
      | some v9 =>
        rw [hw9] at hq
        have hq : q = v9 := by simpa using hq
        subst hq
        exact hokr _ hw9
    · exact okS_ex (κ := ((p, l9, e, _, s, m, args, below, meth, c), (D, g, A, Q), M0, ad0)) hx1 hst q hq)
theorem N_callCV (hc : Jc κ own cc nL fr mc ms lc) (hcl : ClOk ci C T N ty) {h : Nat} {y : MethodName} {b : ByteArray} {nL' : Nat} {ret' : Option FieldType} {fr' mc' ms' lc' index n : Nat} {As : List TV} {st0 : List TV} {Fc : Mm → Option (β × Mm)} {wr : β → Option Value} (hct : Ct wr y b nL' ret' fr' mc' ms' lc' ((ci, .ref h) :: As) Fc) (hd : decode cc pc = .ok (.invokevirtual index, 3)) (hmo : MOk y n) (hyc : y.cls = C) (hw1 : Cond.methodLink own index y ∈ TW) (hw2 : Cond.instanceMethod y ∈ TW) (hw3 : Cond.selects C y y ∈ TW) (hw4 : Cond.initialized C ∈ TW) (hc5 : Cond.code y b nL' ret' ∈ TW) (hlen : As.length = n) (hr1 : fr' + 1 ≤ fr) (hr2 : 8 + (nL' + 11) + lc' ≤ lc) (hs8 : (st.map (fun q => q.2.category)).sum ≤ 8) (hst0 : st0 = As.reverse ++ (ci, .ref h) :: st) {G1 : β → Mm → Option (α × Mm × Nat × Nat)} (hwr : ∀ r x, wr r ≠ some (.ref x)) (kk : ∀ r, Jw κ (wM κ) nL fin (pc + 3) l ((wr r).toList.map (fun v => ((0, v) : TV)) ++ st) (G1 r)) : Jw κ (wM κ) nL fin pc l st0 (wq (wcc mc' ms' Fc) G1) := by
  subst hst0
  obtain ⟨⟨p, l9, e, R, s, m, args, below, meth, c⟩, ⟨D, g, A, Q⟩, M0, ad0⟩ := κ
  obtain ⟨hx, hb, hml, hown, hts, hK, hA, hst9, hlk, hR⟩ := hc
  subst hR
  intro M ad H locs ls a M' kc ks cs ss hF hfin hcc hss hW hl hst
  obtain ⟨hP, hD, hS, hM, hn, hC, hex, hea⟩ := id hW
  obtain ⟨r9, M1, c1, s1, c2, s2, q0, hG, hkc, hks⟩ := wq_some hF
  have q1 : Fc M = some (r9, M1) ∧ c1 = mc' ∧ s1 = ms' := by
    unfold wcc at q0
    split at q0
    · rename_i a9 M9 e9
      cases q0
      exact ⟨e9, rfl, rfl⟩
    · cases q0
  obtain ⟨q1, rfl, rfl⟩ := q1
  have hcc : cs + kc ≤ mc := hcc
  have hss : ss + ks ≤ ms := hss
  have hr3 : cs + c1 ≤ mc := by omega
  have hr4 : ss + s1 ≤ ms := by omega
  obtain ⟨hsA, hsT⟩ := okS_app hst
  have hst := okS_tl hsT
  have hsR : okW (wM ((p, l9, e, _, s, m, args, below, meth, c), (D, g, A, Q), M0, ad0)) M (ci, .ref h) := okS_hd hsT
  have hav : okS0 M ((ci, .ref h) :: As) := fun q hq => by
    rcases List.mem_cons.mp hq with rfl | hq
    · exact hsR
    · exact okS_rev hsA q hq
  have hMet := hct l9 g D ad H.size M r9 M1 hst9 q1 hav
  obtain ⟨hc1, -, -, -, -, h9⟩ := hcl
  obtain ⟨hh, hkd9⟩ : h < Mn M ∧ Mk M h = ci := (hsR h rfl).at (by omega)
  have he := (wl_get g ad hh).trans (congrArg (fun x => some (ad h, x)) (ce_obj g ad hkd9 h9))
  refine vq_call (va_runV (C := C) (b := ad h) (As := trS ad As) (rest := trS ad st) ⟨hx, hb, hml, hown, hts⟩ hMet (cwV n hts (tw_V hw1 hw2 hw3 hw4 hc5) rfl rfl rfl ⟨hyc, hmo⟩ ⟨hr1, hr2⟩) ⟨wM0_blind, va_recv hK hP hc1 he, fun U hU hW9 => ⟨rfl, wM0_at hP hD hS hA hK hM hn hex.2.2 hC hU hW9⟩⟩ rfl (by show (trS ad As).length = n; unfold trS; rw [List.length_map]; exact hlen) hl.1.1 (trS_rev ad As ((ci, .ref h) :: st)) (lv_room (by rw [cat_tr]; exact hs8)) hd ⟨hr3, hr4⟩) hS (fun q _ h => wA_sub hD hS hA q h) (wA_sub hD hS hA) (fun t H1 locs1 ht hvm hB hz1 hk1 hS1 => ?_)
  obtain ⟨ad1, hP1, hD1, hM1, hn1, hx1, ha1⟩ := hB
  rw [ht] at hP1
  have e9 : trS ad1 ((wr r9).toList.map (fun v => ((0, v) : TV)) ++ st) = (wr r9).toList ++ trS ad st := by
    have e8 := trS_ex (κ := ((p, l9, e, _, s, m, args, below, meth, c), (D, g, A, Q), M0, ad0)) hn ha1 hst
    unfold trS at e8 ⊢
    rw [List.map_append, e8]
    cases hq : wr r9 with
    | none => rfl
    | some v =>
      cases v with
      | ref x => exact absurd hq (hwr r9 x)
      | _ => rfl
  rw [← e9]
  exact kk r9 M1 ad1 H1 locs1 ls a M' c2 s2 (cs + c1) (ss + s1) hG hfin (show cs + c1 + c2 ≤ mc by omega) (show ss + s1 + s2 ≤ ms by omega) ⟨hP1, hD1.weaken (fun _ q _ h => wA_sub hD hS hA q.1 h), hS1, hM1, hn1, hC.go (State.WarmedH.refl s) (fun _ _ _ => rfl) (fun _ z => z) (fun x hx => ha1 x (Or.inr hx)), hex.tr hx1, exA.tr hex.1 hea ha1⟩ (lvk_ex (κ := ((p, l9, e, _, s, m, args, below, meth, c), (D, g, A, Q), M0, ad0)) hn hx1 ha1 hl) (fun q hq => by
    rcases List.mem_append.mp hq with hq | hq
    · obtain ⟨v, hv, rfl⟩ := List.mem_map.mp hq
      intro x hx
      have hx : v = .ref x := hx
      subst hx
      cases hw9 : wr r9 with
      | none => rw [hw9] at hv; cases hv
      | some v9 =>
        rw [hw9] at hv
        have hv : (Value.ref x) = v9 := by simpa using hv
        exact absurd (hw9.trans (congrArg some hv.symm)) (hwr r9 x)
    · exact okS_ex (κ := ((p, l9, e, _, s, m, args, below, meth, c), (D, g, A, Q), M0, ad0)) hx1 hst q hq)
theorem N_callCI (hc : Jc κ own cc nL fr mc ms lc) (h9 : obK ci) {h : Nat} {y : MethodName} {b : ByteArray} {nL' : Nat} {fr' mc' ms' lc' index n : Nat} {As : List TV} {st0 : List TV} {Fc : Mm → Option (β × Mm)} {wr : β → Option Value} (hct : Ct wr y b nL' none fr' mc' ms' lc' ((ci, .ref h) :: As) Fc) (hd : decode cc pc = .ok (.invokespecial index, 3)) (hmo : MOk y n) (hyn : y.name = "<init>") (hw1 : Cond.methodLink own index y ∈ TW) (hw2 : Cond.instanceMethod y ∈ TW) (hw4 : Cond.initialized y.cls ∈ TW) (hc5 : Cond.code y b nL' none ∈ TW) (hlen : As.length = n) (hr1 : fr' + 1 ≤ fr) (hr2 : 8 + (nL' + 11) + lc' ≤ lc) (hs8 : (st.map (fun q => q.2.category)).sum ≤ 8) (hst0 : st0 = As.reverse ++ (ci, .ref h) :: st) {G1 : β → Mm → Option (α × Mm × Nat × Nat)} (hwr : ∀ r x, wr r ≠ some (.ref x)) (kk : ∀ r, Jw κ (wM κ) nL fin (pc + 3) l ((wr r).toList.map (fun v => ((0, v) : TV)) ++ st) (G1 r)) : Jw κ (wM κ) nL fin pc l st0 (wq (wcc mc' ms' Fc) G1) := by
  subst hst0
  obtain ⟨⟨p, l9, e, R, s, m, args, below, meth, c⟩, ⟨D, g, A, Q⟩, M0, ad0⟩ := κ
  obtain ⟨hx, hb, hml, hown, hts, hK, hA, hst9, hlk, hR⟩ := hc
  subst hR
  intro M ad H locs ls a M' kc ks cs ss hF hfin hcc hss hW hl hst
  obtain ⟨hP, hD, hS, hM, hn, hC, hex, hea⟩ := id hW
  obtain ⟨r9, M1, c1, s1, c2, s2, q0, hG, hkc, hks⟩ := wq_some hF
  have q1 : Fc M = some (r9, M1) ∧ c1 = mc' ∧ s1 = ms' := by
    unfold wcc at q0
    split at q0
    · rename_i a9 M9 e9
      cases q0
      exact ⟨e9, rfl, rfl⟩
    · cases q0
  obtain ⟨q1, rfl, rfl⟩ := q1
  have hcc : cs + kc ≤ mc := hcc
  have hss : ss + ks ≤ ms := hss
  have hr3 : cs + c1 ≤ mc := by omega
  have hr4 : ss + s1 ≤ ms := by omega
  obtain ⟨hsA, hsT⟩ := okS_app hst
  have hst := okS_tl hsT
  have hsR : okW (wM ((p, l9, e, _, s, m, args, below, meth, c), (D, g, A, Q), M0, ad0)) M (ci, .ref h) := okS_hd hsT
  have hav : okS0 M ((ci, .ref h) :: As) := fun q hq => by
    rcases List.mem_cons.mp hq with rfl | hq
    · exact hsR
    · exact okS_rev hsA q hq
  have hMet := hct l9 g D ad H.size M r9 M1 hst9 q1 hav
  refine vq_call (va_runI (b := ad h) (As := trS ad As) (rest := trS ad st) ⟨hx, hb, hml, hown, hts⟩ hMet (cwI n hts (tw_y hc5) rfl rfl rfl (hts _ hw4) (hts _ hw1) (hts _ hw2) hyn hmo ⟨hr1, hr2⟩) ⟨wM0_blind, fun U hU hW9 => ⟨rfl, wM0_at hP hD hS hA hK hM hn hex.2.2 hC hU hW9⟩⟩ rfl (by show (trS ad As).length = n; unfold trS; rw [List.length_map]; exact hlen) hl.1.1 (trS_rev ad As ((ci, .ref h) :: st)) (lv_room (by rw [cat_tr]; exact hs8)) hd ⟨hr3, hr4⟩) hS (fun q _ h => wA_sub hD hS hA q h) (wA_sub hD hS hA) (fun t H1 locs1 ht hvm hB hz1 hk1 hS1 => ?_)
  obtain ⟨ad1, hP1, hD1, hM1, hn1, hx1, ha1⟩ := hB
  rw [ht] at hP1
  have e9 : trS ad1 ((wr r9).toList.map (fun v => ((0, v) : TV)) ++ st) = (wr r9).toList ++ trS ad st := by
    have e8 := trS_ex (κ := ((p, l9, e, _, s, m, args, below, meth, c), (D, g, A, Q), M0, ad0)) hn ha1 hst
    unfold trS at e8 ⊢
    rw [List.map_append, e8]
    cases hq : wr r9 with
    | none => rfl
    | some v =>
      cases v with
      | ref x => exact absurd hq (hwr r9 x)
      | _ => rfl
  rw [← e9]
  exact kk r9 M1 ad1 H1 locs1 ls a M' c2 s2 (cs + c1) (ss + s1) hG hfin (show cs + c1 + c2 ≤ mc by omega) (show ss + s1 + s2 ≤ ms by omega) ⟨hP1, hD1.weaken (fun _ q _ h => wA_sub hD hS hA q.1 h), hS1, hM1, hn1, hC.go (State.WarmedH.refl s) (fun _ _ _ => rfl) (fun _ z => z) (fun x hx => ha1 x (Or.inr hx)), hex.tr hx1, exA.tr hex.1 hea ha1⟩ (lvk_ex (κ := ((p, l9, e, _, s, m, args, below, meth, c), (D, g, A, Q), M0, ad0)) hn hx1 ha1 hl) (fun q hq => by
    rcases List.mem_append.mp hq with hq | hq
    · obtain ⟨v, hv, rfl⟩ := List.mem_map.mp hq
      intro x hx
      have hx : v = .ref x := hx
      subst hx
      cases hw9 : wr r9 with
      | none => rw [hw9] at hv; cases hv
      | some v9 =>
        rw [hw9] at hv
        have hv : (Value.ref x) = v9 := by simpa using hv
        exact absurd (hw9.trans (congrArg some hv.symm)) (hwr r9 x)
    · exact okS_ex (κ := ((p, l9, e, _, s, m, args, below, meth, c), (D, g, A, Q), M0, ad0)) hx1 hst q hq)
theorem N_callCX (hc : Jc κ own cc nL fr mc ms lc) (hcl : ClOk ci C T N ty) {h : Nat} {y : MethodName} {b : ByteArray} {nL' : Nat} {ret' : Option FieldType} {fr' mc' ms' lc' index n : Nat} {As : List TV} {st0 : List TV} {Fc : Mm → Option ((Nat ⊕ β) × Mm)} {wr : β → Option Value} (hct : CtX wr y b nL' ret' fr' mc' ms' lc' ((ci, .ref h) :: As) Fc) (hd : decode cc pc = .ok (.invokevirtual index, 3)) (hmo : MOk y n) (hyc : y.cls = C) (hw1 : Cond.methodLink own index y ∈ TW) (hw2 : Cond.instanceMethod y ∈ TW) (hw3 : Cond.selects C y y ∈ TW) (hw4 : Cond.initialized C ∈ TW) (hc5 : Cond.code y b nL' ret' ∈ TW) (hlen : As.length = n) (hr1 : fr' + 1 ≤ fr) (hr2 : 8 + (nL' + 11) + lc' ≤ lc) (hs8 : (st.map (fun q => q.2.category)).sum ≤ 8) (hst0 : st0 = As.reverse ++ (ci, .ref h) :: st) {G1 : β → Mm → Option (α × Mm × Nat × Nat)} (hwr : ∀ r x, wr r ≠ some (.ref x)) (kk : ∀ r, Jw κ (wM κ) nL fin (pc + 3) l ((wr r).toList.map (fun v => ((0, v) : TV)) ++ st) (G1 r)) : Jw κ (wM κ) nL fin pc l st0 (wq (wcx mc' ms' Fc) G1) := by
  subst hst0
  obtain ⟨⟨p, l9, e, R, s, m, args, below, meth, c⟩, ⟨D, g, A, Q⟩, M0, ad0⟩ := κ
  obtain ⟨hx, hb, hml, hown, hts, hK, hA, hst9, hlk, hR⟩ := hc
  subst hR
  intro M ad H locs ls a M' kc ks cs ss hF hfin hcc hss hW hl hst
  obtain ⟨hP, hD, hS, hM, hn, hC, hex, hea⟩ := id hW
  obtain ⟨r9, M1, c1, s1, c2, s2, q0, hG, hkc, hks⟩ := wq_some hF
  have q1 : Fc M = some (.inr r9, M1) ∧ c1 = mc' ∧ s1 = ms' := by
    unfold wcx at q0
    split at q0
    · rename_i a9 M9 e9
      cases q0
      exact ⟨e9, rfl, rfl⟩
    · cases q0
  obtain ⟨q1, rfl, rfl⟩ := q1
  have hcc : cs + kc ≤ mc := hcc
  have hss : ss + ks ≤ ms := hss
  have hr3 : cs + c1 ≤ mc := by omega
  have hr4 : ss + s1 ≤ ms := by omega
  obtain ⟨hsA, hsT⟩ := okS_app hst
  have hst := okS_tl hsT
  have hsR : okW (wM ((p, l9, e, _, s, m, args, below, meth, c), (D, g, A, Q), M0, ad0)) M (ci, .ref h) := okS_hd hsT
  have hav : okS0 M ((ci, .ref h) :: As) := fun q hq => by
    rcases List.mem_cons.mp hq with rfl | hq
    · exact hsR
    · exact okS_rev hsA q hq
  have hMet := hct l9 g D ad H.size M (.inr r9) M1 hst9 q1 hav
  obtain ⟨hc1, -, -, -, -, h9⟩ := hcl
  obtain ⟨hh, hkd9⟩ : h < Mn M ∧ Mk M h = ci := (hsR h rfl).at (by omega)
  have he := (wl_get g ad hh).trans (congrArg (fun x => some (ad h, x)) (ce_obj g ad hkd9 h9))
  have hrun := vx_runV (R := { frames := fr, cells := mc, slots := ms, locals := lc }) (C := C) (b := ad h) (As := trS ad As) (rest := trS ad st) (locs := locs) (cells := cs) (slots := ss) (p := p) (l := l9) (e := e) (below := below) (meth := meth) (g := F0 m pc ls (trS ad (As.reverse ++ (ci, .ref h) :: st))) ⟨hx, hb, hml, hown, hts⟩ hMet (cwV n hts (tw_V hw1 hw2 hw3 hw4 hc5) rfl rfl rfl ⟨hyc, hmo⟩ ⟨hr1, hr2⟩) ⟨wM0_blind, va_recv hK hP hc1 he, fun U hU hW9 => ⟨rfl, wM0_at hP hD hS hA hK hM hn hex.2.2 hC hU hW9⟩⟩ rfl (by unfold trS; rw [List.length_map]; exact hlen) hl.1.1 (trS_rev ad As ((ci, .ref h) :: st)) (lv_room (by rw [cat_tr]; exact hs8)) hd ⟨hr3, hr4⟩
  have hsub := wA_sub hD hS hA
  intro T0 hT0 X
  rcases hrun T0 hT0 X with ⟨v, st₀, t, T', L, h0, X', hL, e1, e2, ⟨⟨⟨b9, hrb, hv⟩, ad1, hP1, hD1, hM1, hn1, hx1, ha1⟩, hF9⟩, stp⟩ | ⟨q9, st₀, t, T', L, E, ce9, h0, X', hL, e1, e2, ⟨⟨⟨k9, hrk, hE⟩, ad1, hP1, hD1, hM1, hn1, hx1, ha1⟩, hF9⟩, hce, hcv, hcl9, stp⟩
  · obtain rfl := Sum.inr.inj hrb
    cases hv
    obtain ⟨k1, k2, k3⟩ := vx_keep h0 e1 hS (fun q _ h => hsub q h) hsub hL hF9
    rw [← e1] at hP1
    have e9 : trS ad1 ((wr r9).toList.map (fun v => ((0, v) : TV)) ++ st) = (wr r9).toList ++ trS ad st := by
      have e8 := trS_ex (κ := ((p, l9, e, _, s, m, args, below, meth, c), (D, g, A, Q), M0, ad0)) hn ha1 hst
      unfold trS at e8 ⊢
      rw [List.map_append, e8]
      cases hq : wr r9 with
      | none => rfl
      | some v =>
        cases v with
        | ref x => exact absurd hq (hwr r9 x)
        | _ => rfl
    have kk2 := kk r9 M1 ad1 T'.heap (locs ++ L) ls a M' c2 s2 (cs + c1) (ss + s1) hG hfin (show cs + c1 + c2 ≤ mc by omega) (show ss + s1 + s2 ≤ ms by omega) ⟨hP1, hD1.weaken (fun _ q _ h => hsub q.1 h), k3, hM1, hn1, hC.go (State.WarmedH.refl s) (fun _ _ _ => rfl) (fun _ z => z) (fun x hx => ha1 x (Or.inr hx)), hex.tr hx1, exA.tr hex.1 hea ha1⟩ (lvk_ex (κ := ((p, l9, e, _, s, m, args, below, meth, c), (D, g, A, Q), M0, ad0)) hn hx1 ha1 hl) (fun q hq => by
      rcases List.mem_append.mp hq with hq | hq
      · obtain ⟨v, hv, rfl⟩ := List.mem_map.mp hq
        intro x hx
        have hx : v = .ref x := hx
        subst hx
        cases hw9 : wr r9 with
        | none => rw [hw9] at hv; cases hv
        | some v9 =>
          rw [hw9] at hv
          have hv : (Value.ref x) = v9 := by simpa using hv
          exact absurd (hw9.trans (congrArg some hv.symm)) (hwr r9 x)
      · exact okS_ex (κ := ((p, l9, e, _, s, m, args, below, meth, c), (D, g, A, Q), M0, ad0)) hx1 hst q hq)
    rw [e9] at kk2
    obtain ⟨t2, a1, b1⟩ := kk2 T' rfl X'
    exact ⟨t2, stp t2 a1, b1⟩
  · cases hrk
end JcRows
