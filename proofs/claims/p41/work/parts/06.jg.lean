/-! THE JUDGEMENT Jg: from pc on, with locals l and stack st (typed values, references as handles), the machine does what the program F : σ → Option (α × σ) says. ω: the world of a state of F, and which handles a state knows -/
abbrev Cx : Type := (Program × Launch × Env × Room × State × MethodId × Array Value × List Frame × Method × Code) × (va_G × (Nat → ClassId) × (Nat → Prop) × (State → Prop)) × (Mm × (Nat → Nat))
abbrev Wp (σ : Type) : Type := (σ → (Nat → Nat) → Heap → List Loc → Prop) × (σ → Nat → Nat → Prop)
def okW {σ : Type} (ω : Wp σ) (M : σ) (q : TV) : Prop := ∀ h, q.2 = .ref h → ω.2 M q.1 h
def lvk {σ : Type} (ω : Wp σ) (ad : Nat → Nat) (M : σ) (ls : Array Slot) (nL : Nat) (l : List (Option TV)) : Prop := lv_has ls nL [] ∧ ∀ (i : Nat) (v : TV), l[i]? = some (some v) → ls[i]? = some (.val (tr ad v.2)) ∧ okW ω M v
def okS {σ : Type} (ω : Wp σ) (M : σ) (st : List TV) : Prop := ∀ q, q ∈ st → okW ω M q
def trS (ad : Nat → Nat) (st : List TV) : List Value := st.map (fun q => tr ad q.2)
def Jg {σ α : Type} (κ : Cx) (ω : Wp σ) (nL : Nat) (fin : α → σ → Prop) (cs ss pc : Nat) (l : List (Option TV)) (st : List TV) (F : σ → Option (α × σ)) : Prop :=
  match κ with
  | ((p, l9, e, R, s, m, args, below, meth, c), (_, _, _, Q), _) => ∀ (M : σ) (ad : Nat → Nat) (H : Heap) (locs : List Loc) (ls : Array Slot) (a : α) (M' : σ), F M = some (a, M') → fin a M' → ω.1 M ad H locs → lvk ω ad M ls nL l → okS ω M st → W p l9 e R s m args below meth c H locs cs ss Q (F0 m pc ls (trS ad st))
def tyG (g : Nat → ClassId) : List (ClassId × FieldType) := [(g 10, .byte), (g 11, .int), (g 12, .long), (g 13, .boolean), (g 14, .object "DotRuns$Page"), (g 15, .object "java/lang/Object")]
def Jc (κ : Cx) (own : String) (cc : ByteArray) (nL fr mc ms lc : Nat) : Prop :=
  match κ with
  | ((p, l9, _, R, s, m, args, _, meth, c), (D, g, A, _), _) => p.tables.exec = Jvm.exec ∧ c.code = cc ∧ c.maxLocals = nL ∧ s.vm.findClass own = some m.cls ∧ (∀ w ∈ TW, w.before args s = true) ∧ va_K D vwCl (tyG g) s ∧ (∀ q : Nat, s.heap.size ≤ q → A q) ∧ l9.stackTraces = false ∧ meth.locks = false ∧ R = ({ frames := fr, cells := mc, slots := ms, locals := lc } : Room)
def bnd {σ α β : Type} (m : σ → Option (α × σ)) (k : α → σ → Option (β × σ)) : σ → Option (β × σ) := fun M => match m M with
  | some (a, M') => k a M'
  | none => none
def rtn {σ α : Type} (a : α) : σ → Option (α × σ) := fun M => some (a, M)
def fail {σ α : Type} : σ → Option (α × σ) := fun _ => none
def grd {σ α : Type} (b : Bool) (F : σ → Option (α × σ)) : σ → Option (α × σ) := fun M => if b = true then F M else none
theorem bnd_some {σ α β : Type} {m : σ → Option (α × σ)} {k : α → σ → Option (β × σ)} {M : σ} {r : β × σ} (h : bnd m k M = some r) : ∃ a M1, m M = some (a, M1) ∧ k a M1 = some r := by
  unfold bnd at h
  split at h
  · exact ⟨_, _, by assumption, h⟩
  · cases h
theorem grd_some {σ α : Type} {b : Bool} {F : σ → Option (α × σ)} {M : σ} {r : α × σ} (h : grd b F M = some r) : b = true ∧ F M = some r := by
  unfold grd at h
  split at h
  · exact ⟨by assumption, h⟩
  · cases h
theorem okS_cons {σ : Type} {ω : Wp σ} {M : σ} {q : TV} {st : List TV} (h : okW ω M q) (hs : okS ω M st) : okS ω M (q :: st) := fun x hx => (List.mem_cons.mp hx).elim (fun e => e ▸ h) (hs x)
theorem okS_tl {σ : Type} {ω : Wp σ} {M : σ} {q : TV} {st : List TV} (hs : okS ω M (q :: st)) : okS ω M st := fun x hx => hs x (List.mem_cons_of_mem _ hx)
theorem okS_hd {σ : Type} {ω : Wp σ} {M : σ} {q : TV} {st : List TV} (hs : okS ω M (q :: st)) : okW ω M q := hs q List.mem_cons_self
theorem okW_i {σ : Type} {ω : Wp σ} {M : σ} {k : Nat} {x : Int32} : okW ω M (k, .int x) := fun _ h => by cases h
theorem okW_l {σ : Type} {ω : Wp σ} {M : σ} {k : Nat} {x : Int64} : okW ω M (k, .long x) := fun _ h => by cases h
theorem okW_f {σ : Type} {ω : Wp σ} {M : σ} {k : Nat} {x : UInt32} : okW ω M (k, .float x) := fun _ h => by cases h
theorem okW_d {σ : Type} {ω : Wp σ} {M : σ} {k : Nat} {x : UInt64} : okW ω M (k, .double x) := fun _ h => by cases h
theorem okW_n {σ : Type} {ω : Wp σ} {M : σ} {k : Nat} : okW ω M (k, .null) := fun _ h => by cases h
/-- no long ends at place i -/
def c1 (l : List (Option TV)) (i : Nat) : Bool := match i with
  | 0 => true
  | j + 1 => match l.getD j none with
    | some (_, v) => v.category == 1
    | none => true
def ent (ad : Nat → Nat) (l : List (Option TV)) : List (Nat × Value) := (List.range l.length).filterMap (fun i => match l.getD i none with
  | some v => some (i, tr ad v.2)
  | none => none)
theorem ent_mem {ad : Nat → Nat} {l : List (Option TV)} {i : Nat} {v : TV} (h : l[i]? = some (some v)) : (i, tr ad v.2) ∈ ent ad l := by
  have hi : i < l.length := (List.getElem?_eq_some_iff.mp h).1
  refine List.mem_filterMap.mpr ⟨i, List.mem_range.mpr hi, ?_⟩
  have : l.getD i none = some v := by rw [List.getD_eq_getElem?_getD, h]; rfl
  rw [this]
theorem ent_of {ad : Nat → Nat} {l : List (Option TV)} {q : Nat × Value} (h : q ∈ ent ad l) : ∃ v, l[q.1]? = some (some v) ∧ q.2 = tr ad v.2 := by
  obtain ⟨i, hi, h⟩ := List.mem_filterMap.mp h
  have hi := List.mem_range.mp hi
  cases hg : l.getD i none with
  | none => rw [hg] at h; cases h
  | some v =>
    rw [hg] at h
    cases h
    refine ⟨v, ?_, rfl⟩
    rw [List.getD_eq_getElem?_getD] at hg
    cases hq : l[i]? with
    | none => rw [hq] at hg; cases hg
    | some o => rw [hq] at hg; exact congrArg some hg
theorem lvk_has {σ : Type} {ω : Wp σ} {ad : Nat → Nat} {M : σ} {ls : Array Slot} {nL : Nat} {l : List (Option TV)} (h : lvk ω ad M ls nL l) : lv_has ls nL (ent ad l) := ⟨h.1.1, h.1.2.1, fun q hq => by
  obtain ⟨v, h1, h2⟩ := ent_of hq
  rw [h2]
  exact (h.2 _ _ h1).1⟩
theorem lvk_st1 {σ : Type} {ω : Wp σ} {ad : Nat → Nat} {M : σ} {ls ls' : Array Slot} {nL i : Nat} {l l' : List (Option TV)} {v : TV} (h : lvk ω ad M ls nL l) (hv : okW ω M v) (hc : c1 l i = true) (hl : l.set i (some v) = l')
    (h' : lv_has ls' nL ((i, tr ad v.2) :: (ent ad l).filter (fun q => !(q.1 == i) && !(q.1 + 1 == i && q.2.category == 2)))) : lvk ω ad M ls' nL l' := by
  refine ⟨⟨h'.1, h'.2.1, fun _ q => by cases q⟩, fun j w hj => ?_⟩
  subst hl
  rw [List.getElem?_set] at hj
  by_cases e : i = j
  · subst e
    rw [if_pos rfl] at hj
    split at hj
    · cases hj
      exact ⟨h'.2.2 _ List.mem_cons_self, hv⟩
    · cases hj
  · rw [if_neg e] at hj
    refine ⟨h'.2.2 (j, tr ad w.2) (List.mem_cons_of_mem _ (List.mem_filter.mpr ⟨ent_mem hj, ?_⟩)), (h.2 j w hj).2⟩
    have e1 : (j == i) = false := by simp [Ne.symm e]
    have e2 : (j + 1 == i && (tr ad w.2).category == 2) = false := by
      by_cases q : j + 1 = i
      · subst q
        have hw : l.getD j none = some w := by rw [List.getD_eq_getElem?_getD, hj]; rfl
        simp only [c1, hw] at hc
        have hc := eq_of_beq hc
        rw [tr_cat, hc]; simp
      · simp [q]
    simp only [e1, e2]; rfl
theorem lvk_st2 {σ : Type} {ω : Wp σ} {ad : Nat → Nat} {M : σ} {ls ls' : Array Slot} {nL i : Nat} {l l' : List (Option TV)} {v : TV} (h : lvk ω ad M ls nL l) (hv : okW ω M v) (hc : c1 l i = true) (hl : (l.set i (some v)).set (i + 1) none = l')
    (h' : lv_has ls' nL ((i, tr ad v.2) :: (ent ad l).filter (fun q => !(q.1 == i) && (!(q.1 == i + 1) && !(q.1 + 1 == i && q.2.category == 2))))) : lvk ω ad M ls' nL l' := by
  refine ⟨⟨h'.1, h'.2.1, fun _ q => by cases q⟩, fun j w hj => ?_⟩
  subst hl
  rw [List.getElem?_set] at hj
  by_cases e0 : i + 1 = j
  · rw [if_pos e0] at hj
    split at hj <;> cases hj
  · rw [if_neg e0, List.getElem?_set] at hj
    by_cases e : i = j
    · subst e
      rw [if_pos rfl] at hj
      split at hj
      · cases hj
        exact ⟨h'.2.2 _ List.mem_cons_self, hv⟩
      · cases hj
    · rw [if_neg e] at hj
      refine ⟨h'.2.2 (j, tr ad w.2) (List.mem_cons_of_mem _ (List.mem_filter.mpr ⟨ent_mem hj, ?_⟩)), (h.2 j w hj).2⟩
      have e1 : (j == i) = false := by simp [Ne.symm e]
      have e3 : (j == i + 1) = false := by simp [Ne.symm e0]
      have e2 : (j + 1 == i && (tr ad w.2).category == 2) = false := by
        by_cases q : j + 1 = i
        · subst q
          have hw : l.getD j none = some w := by rw [List.getD_eq_getElem?_getD, hj]; rfl
          simp only [c1, hw] at hc
          have hc := eq_of_beq hc
          rw [tr_cat, hc]; simp
        · simp [q]
      simp only [e1, e2, e3]; rfl
/-- l knows all that l' asks -/
def subL : List (Option TV) → List (Option TV) → Prop
  | [], _ => True
  | none :: a, _ :: b => subL a b
  | some v :: a, w :: b => w = some v ∧ subL a b
  | _ :: _, [] => False
theorem subL_get : ∀ {a b : List (Option TV)}, subL a b → ∀ (i : Nat) (v : TV), a[i]? = some (some v) → b[i]? = some (some v)
  | [], _, _, i, v, h => by simp at h
  | none :: a, _ :: b, hs, i, v, h => by
    cases i with
    | zero => simp at h
    | succ i => exact subL_get (a := a) (b := b) hs i v h
  | some w :: a, x :: b, hs, i, v, h => by
    cases i with
    | zero => rw [List.getElem?_cons_zero] at h ⊢; rw [← h]; exact congrArg some hs.1
    | succ i => exact subL_get (a := a) (b := b) hs.2 i v h
  | none :: _, [], hs, _, _, _ => hs.elim
  | some _ :: _, [], hs, _, _, _ => hs.elim
section JgRows
variable {σ α : Type} {κ : Cx} {ω : Wp σ} {own : String} {cc : ByteArray} {nL fr mc ms lc : Nat} {fin : α → σ → Prop} {cs ss pc : Nat} {l l' : List (Option TV)} {st : List TV} {F F1 F2 : σ → Option (α × σ)}
theorem J_sub (hs : subL l' l) (k : Jg κ ω nL fin cs ss pc l' st F) : Jg κ ω nL fin cs ss pc l st F := by
  obtain ⟨⟨p, l9, e, R, s, m, args, below, meth, c⟩, ⟨D, g, A, Q⟩, M0, ad0⟩ := κ
  intro M ad H locs ls a M' hF hfin hW hl hst
  exact k M ad H locs ls a M' hF hfin hW ⟨hl.1, fun i v h => hl.2 i v (subL_get hs i v h)⟩ hst
theorem J_widen {k n : Nat} (h1 : cs ≤ k) (h2 : ss ≤ n) (kk : Jg κ ω nL fin k n pc l st F) : Jg κ ω nL fin cs ss pc l st F := by
  obtain ⟨⟨p, l9, e, R, s, m, args, below, meth, c⟩, ⟨D, g, A, Q⟩, M0, ad0⟩ := κ
  intro M ad H locs ls a M' hF hfin hW hl hst
  exact W.widen h1 h2 (kk M ad H locs ls a M' hF hfin hW hl hst)
theorem J_fail : Jg κ ω nL fin cs ss pc l st (fail : σ → Option (α × σ)) := by
  obtain ⟨⟨p, l9, e, R, s, m, args, below, meth, c⟩, ⟨D, g, A, Q⟩, M0, ad0⟩ := κ
  intro M ad H locs ls a M' hF
  cases hF

theorem J_iconst (hc : Jc κ own cc nL fr mc ms lc) {n : Int} {v : Int32} (hd : decode cc pc = .ok (.iconst n, 1)) (hv : Int32.ofInt n = v) (kk : Jg κ ω nL fin cs ss (pc + 1) l ((0, .int v) :: st) F) : Jg κ ω nL fin cs ss pc l (st) F := by
  obtain ⟨⟨p, l9, e, R, s, m, args, below, meth, c⟩, ⟨D, g, A, Q⟩, M0, ad0⟩ := κ
  obtain ⟨hx, hb, -⟩ := hc
  intro M ad H locs ls a M' hF hfin hW hl hst
  refine lv_iconst hx hb hd hv ?_
  exact kk M ad H locs ls a M' hF hfin hW hl (okS_cons okW_i hst)
theorem J_bipush (hc : Jc κ own cc nL fr mc ms lc) {n : Int} {v : Int32} (hd : decode cc pc = .ok (.bipush n, 2)) (hv : (Int8.ofInt n).toInt32 = v) (kk : Jg κ ω nL fin cs ss (pc + 2) l ((0, .int v) :: st) F) : Jg κ ω nL fin cs ss pc l (st) F := by
  obtain ⟨⟨p, l9, e, R, s, m, args, below, meth, c⟩, ⟨D, g, A, Q⟩, M0, ad0⟩ := κ
  obtain ⟨hx, hb, -⟩ := hc
  intro M ad H locs ls a M' hF hfin hW hl hst
  refine lv_bipush hx hb hd hv ?_
  exact kk M ad H locs ls a M' hF hfin hW hl (okS_cons okW_i hst)
theorem J_sipush (hc : Jc κ own cc nL fr mc ms lc) {n : Int} {v : Int32} (hd : decode cc pc = .ok (.sipush n, 3)) (hv : (Int16.ofInt n).toInt32 = v) (kk : Jg κ ω nL fin cs ss (pc + 3) l ((0, .int v) :: st) F) : Jg κ ω nL fin cs ss pc l (st) F := by
  obtain ⟨⟨p, l9, e, R, s, m, args, below, meth, c⟩, ⟨D, g, A, Q⟩, M0, ad0⟩ := κ
  obtain ⟨hx, hb, -⟩ := hc
  intro M ad H locs ls a M' hF hfin hW hl hst
  refine lv_sipush hx hb hd hv ?_
  exact kk M ad H locs ls a M' hF hfin hW hl (okS_cons okW_i hst)
theorem J_lconst (hc : Jc κ own cc nL fr mc ms lc) {n : Fin 2} {v : Int64} (hd : decode cc pc = .ok (.lconst n, 1)) (hv : Int64.ofNat (n : Nat) = v) (kk : Jg κ ω nL fin cs ss (pc + 1) l ((0, .long v) :: st) F) : Jg κ ω nL fin cs ss pc l (st) F := by
  obtain ⟨⟨p, l9, e, R, s, m, args, below, meth, c⟩, ⟨D, g, A, Q⟩, M0, ad0⟩ := κ
  obtain ⟨hx, hb, -⟩ := hc
  intro M ad H locs ls a M' hF hfin hW hl hst
  refine lv_lconst hx hb hd hv ?_
  exact kk M ad H locs ls a M' hF hfin hW hl (okS_cons okW_l hst)
theorem J_fconst0 (hc : Jc κ own cc nL fr mc ms lc)  (hd : decode cc pc = .ok (.fconst 0, 1)) (kk : Jg κ ω nL fin cs ss (pc + 1) l ((0, .float 0) :: st) F) : Jg κ ω nL fin cs ss pc l (st) F := by
  obtain ⟨⟨p, l9, e, R, s, m, args, below, meth, c⟩, ⟨D, g, A, Q⟩, M0, ad0⟩ := κ
  obtain ⟨hx, hb, -⟩ := hc
  intro M ad H locs ls a M' hF hfin hW hl hst
  refine lv_fconst0 hx hb hd ?_
  exact kk M ad H locs ls a M' hF hfin hW hl (okS_cons okW_f hst)
theorem J_dconst0 (hc : Jc κ own cc nL fr mc ms lc)  (hd : decode cc pc = .ok (.dconst 0, 1)) (kk : Jg κ ω nL fin cs ss (pc + 1) l ((0, .double 0) :: st) F) : Jg κ ω nL fin cs ss pc l (st) F := by
  obtain ⟨⟨p, l9, e, R, s, m, args, below, meth, c⟩, ⟨D, g, A, Q⟩, M0, ad0⟩ := κ
  obtain ⟨hx, hb, -⟩ := hc
  intro M ad H locs ls a M' hF hfin hW hl hst
  refine lv_dconst0 hx hb hd ?_
  exact kk M ad H locs ls a M' hF hfin hW hl (okS_cons okW_d hst)
theorem J_iadd (hc : Jc κ own cc nL fr mc ms lc) {x y : Int32} (hd : decode cc pc = .ok (.iadd, 1)) (kk : Jg κ ω nL fin cs ss (pc + 1) l ((0, .int (x + y)) :: st) F) : Jg κ ω nL fin cs ss pc l ((0, .int y) :: (0, .int x) :: st) F := by
  obtain ⟨⟨p, l9, e, R, s, m, args, below, meth, c⟩, ⟨D, g, A, Q⟩, M0, ad0⟩ := κ
  obtain ⟨hx, hb, -⟩ := hc
  intro M ad H locs ls a M' hF hfin hW hl hst
  refine lv_iadd hx hb hd ?_
  exact kk M ad H locs ls a M' hF hfin hW hl (okS_cons okW_i (okS_tl (okS_tl hst)))
theorem J_isub (hc : Jc κ own cc nL fr mc ms lc) {x y : Int32} (hd : decode cc pc = .ok (.isub, 1)) (kk : Jg κ ω nL fin cs ss (pc + 1) l ((0, .int (x - y)) :: st) F) : Jg κ ω nL fin cs ss pc l ((0, .int y) :: (0, .int x) :: st) F := by
  obtain ⟨⟨p, l9, e, R, s, m, args, below, meth, c⟩, ⟨D, g, A, Q⟩, M0, ad0⟩ := κ
  obtain ⟨hx, hb, -⟩ := hc
  intro M ad H locs ls a M' hF hfin hW hl hst
  refine lv_isub hx hb hd ?_
  exact kk M ad H locs ls a M' hF hfin hW hl (okS_cons okW_i (okS_tl (okS_tl hst)))
theorem J_imul (hc : Jc κ own cc nL fr mc ms lc) {x y : Int32} (hd : decode cc pc = .ok (.imul, 1)) (kk : Jg κ ω nL fin cs ss (pc + 1) l ((0, .int (x * y)) :: st) F) : Jg κ ω nL fin cs ss pc l ((0, .int y) :: (0, .int x) :: st) F := by
  obtain ⟨⟨p, l9, e, R, s, m, args, below, meth, c⟩, ⟨D, g, A, Q⟩, M0, ad0⟩ := κ
  obtain ⟨hx, hb, -⟩ := hc
  intro M ad H locs ls a M' hF hfin hW hl hst
  refine lv_imul hx hb hd ?_
  exact kk M ad H locs ls a M' hF hfin hW hl (okS_cons okW_i (okS_tl (okS_tl hst)))
theorem J_iand (hc : Jc κ own cc nL fr mc ms lc) {x y : Int32} (hd : decode cc pc = .ok (.iand, 1)) (kk : Jg κ ω nL fin cs ss (pc + 1) l ((0, .int (x &&& y)) :: st) F) : Jg κ ω nL fin cs ss pc l ((0, .int y) :: (0, .int x) :: st) F := by
  obtain ⟨⟨p, l9, e, R, s, m, args, below, meth, c⟩, ⟨D, g, A, Q⟩, M0, ad0⟩ := κ
  obtain ⟨hx, hb, -⟩ := hc
  intro M ad H locs ls a M' hF hfin hW hl hst
  refine lv_iand hx hb hd ?_
  exact kk M ad H locs ls a M' hF hfin hW hl (okS_cons okW_i (okS_tl (okS_tl hst)))
theorem J_ineg (hc : Jc κ own cc nL fr mc ms lc) {x : Int32} (hd : decode cc pc = .ok (.ineg, 1)) (kk : Jg κ ω nL fin cs ss (pc + 1) l ((0, .int (-x)) :: st) F) : Jg κ ω nL fin cs ss pc l ((0, .int x) :: st) F := by
  obtain ⟨⟨p, l9, e, R, s, m, args, below, meth, c⟩, ⟨D, g, A, Q⟩, M0, ad0⟩ := κ
  obtain ⟨hx, hb, -⟩ := hc
  intro M ad H locs ls a M' hF hfin hW hl hst
  refine lv_ineg hx hb hd ?_
  exact kk M ad H locs ls a M' hF hfin hW hl (okS_cons okW_i (okS_tl hst))
theorem J_ishr (hc : Jc κ own cc nL fr mc ms lc) {x y : Int32} (hd : decode cc pc = .ok (.ishr, 1)) (kk : Jg κ ω nL fin cs ss (pc + 1) l ((0, .int (x >>> (y &&& 31))) :: st) F) : Jg κ ω nL fin cs ss pc l ((0, .int y) :: (0, .int x) :: st) F := by
  obtain ⟨⟨p, l9, e, R, s, m, args, below, meth, c⟩, ⟨D, g, A, Q⟩, M0, ad0⟩ := κ
  obtain ⟨hx, hb, -⟩ := hc
  intro M ad H locs ls a M' hF hfin hW hl hst
  refine lv_ishr hx hb hd ?_
  exact kk M ad H locs ls a M' hF hfin hW hl (okS_cons okW_i (okS_tl (okS_tl hst)))
theorem J_iushr (hc : Jc κ own cc nL fr mc ms lc) {x y : Int32} (hd : decode cc pc = .ok (.iushr, 1)) (kk : Jg κ ω nL fin cs ss (pc + 1) l ((0, .int ((x.toUInt32 >>> (y.toUInt32 &&& Int32.toUInt32 31)).toInt32)) :: st) F) : Jg κ ω nL fin cs ss pc l ((0, .int y) :: (0, .int x) :: st) F := by
  obtain ⟨⟨p, l9, e, R, s, m, args, below, meth, c⟩, ⟨D, g, A, Q⟩, M0, ad0⟩ := κ
  obtain ⟨hx, hb, -⟩ := hc
  intro M ad H locs ls a M' hF hfin hW hl hst
  refine lv_iushr hx hb hd rfl ?_
  exact kk M ad H locs ls a M' hF hfin hW hl (okS_cons okW_i (okS_tl (okS_tl hst)))
theorem J_ladd (hc : Jc κ own cc nL fr mc ms lc) {x y : Int64} (hd : decode cc pc = .ok (.ladd, 1)) (kk : Jg κ ω nL fin cs ss (pc + 1) l ((0, .long (x + y)) :: st) F) : Jg κ ω nL fin cs ss pc l ((0, .long y) :: (0, .long x) :: st) F := by
  obtain ⟨⟨p, l9, e, R, s, m, args, below, meth, c⟩, ⟨D, g, A, Q⟩, M0, ad0⟩ := κ
  obtain ⟨hx, hb, -⟩ := hc
  intro M ad H locs ls a M' hF hfin hW hl hst
  refine lv_ladd hx hb hd ?_
  exact kk M ad H locs ls a M' hF hfin hW hl (okS_cons okW_l (okS_tl (okS_tl hst)))
theorem J_lsub (hc : Jc κ own cc nL fr mc ms lc) {x y : Int64} (hd : decode cc pc = .ok (.lsub, 1)) (kk : Jg κ ω nL fin cs ss (pc + 1) l ((0, .long (x - y)) :: st) F) : Jg κ ω nL fin cs ss pc l ((0, .long y) :: (0, .long x) :: st) F := by
  obtain ⟨⟨p, l9, e, R, s, m, args, below, meth, c⟩, ⟨D, g, A, Q⟩, M0, ad0⟩ := κ
  obtain ⟨hx, hb, -⟩ := hc
  intro M ad H locs ls a M' hF hfin hW hl hst
  refine lv_lsub hx hb hd ?_
  exact kk M ad H locs ls a M' hF hfin hW hl (okS_cons okW_l (okS_tl (okS_tl hst)))
theorem J_land (hc : Jc κ own cc nL fr mc ms lc) {x y : Int64} (hd : decode cc pc = .ok (.land, 1)) (kk : Jg κ ω nL fin cs ss (pc + 1) l ((0, .long (x &&& y)) :: st) F) : Jg κ ω nL fin cs ss pc l ((0, .long y) :: (0, .long x) :: st) F := by
  obtain ⟨⟨p, l9, e, R, s, m, args, below, meth, c⟩, ⟨D, g, A, Q⟩, M0, ad0⟩ := κ
  obtain ⟨hx, hb, -⟩ := hc
  intro M ad H locs ls a M' hF hfin hW hl hst
  refine lv_land hx hb hd ?_
  exact kk M ad H locs ls a M' hF hfin hW hl (okS_cons okW_l (okS_tl (okS_tl hst)))
theorem J_lor (hc : Jc κ own cc nL fr mc ms lc) {x y : Int64} (hd : decode cc pc = .ok (.lor, 1)) (kk : Jg κ ω nL fin cs ss (pc + 1) l ((0, .long (x ||| y)) :: st) F) : Jg κ ω nL fin cs ss pc l ((0, .long y) :: (0, .long x) :: st) F := by
  obtain ⟨⟨p, l9, e, R, s, m, args, below, meth, c⟩, ⟨D, g, A, Q⟩, M0, ad0⟩ := κ
  obtain ⟨hx, hb, -⟩ := hc
  intro M ad H locs ls a M' hF hfin hW hl hst
  refine lv_lor hx hb hd ?_
  exact kk M ad H locs ls a M' hF hfin hW hl (okS_cons okW_l (okS_tl (okS_tl hst)))
theorem J_lxor (hc : Jc κ own cc nL fr mc ms lc) {x y : Int64} (hd : decode cc pc = .ok (.lxor, 1)) (kk : Jg κ ω nL fin cs ss (pc + 1) l ((0, .long (x ^^^ y)) :: st) F) : Jg κ ω nL fin cs ss pc l ((0, .long y) :: (0, .long x) :: st) F := by
  obtain ⟨⟨p, l9, e, R, s, m, args, below, meth, c⟩, ⟨D, g, A, Q⟩, M0, ad0⟩ := κ
  obtain ⟨hx, hb, -⟩ := hc
  intro M ad H locs ls a M' hF hfin hW hl hst
  refine lv_lxor hx hb hd ?_
  exact kk M ad H locs ls a M' hF hfin hW hl (okS_cons okW_l (okS_tl (okS_tl hst)))
theorem J_lneg (hc : Jc κ own cc nL fr mc ms lc) {x : Int64} (hd : decode cc pc = .ok (.lneg, 1)) (kk : Jg κ ω nL fin cs ss (pc + 1) l ((0, .long (-x)) :: st) F) : Jg κ ω nL fin cs ss pc l ((0, .long x) :: st) F := by
  obtain ⟨⟨p, l9, e, R, s, m, args, below, meth, c⟩, ⟨D, g, A, Q⟩, M0, ad0⟩ := κ
  obtain ⟨hx, hb, -⟩ := hc
  intro M ad H locs ls a M' hF hfin hW hl hst
  refine lv_lneg hx hb hd ?_
  exact kk M ad H locs ls a M' hF hfin hW hl (okS_cons okW_l (okS_tl hst))
theorem J_lshl (hc : Jc κ own cc nL fr mc ms lc) {x : Int64} {y : Int32} (hd : decode cc pc = .ok (.lshl, 1)) (kk : Jg κ ω nL fin cs ss (pc + 1) l ((0, .long (x <<< (y.toInt64 &&& 63))) :: st) F) : Jg κ ω nL fin cs ss pc l ((0, .int y) :: (0, .long x) :: st) F := by
  obtain ⟨⟨p, l9, e, R, s, m, args, below, meth, c⟩, ⟨D, g, A, Q⟩, M0, ad0⟩ := κ
  obtain ⟨hx, hb, -⟩ := hc
  intro M ad H locs ls a M' hF hfin hW hl hst
  refine lv_lshl hx hb hd rfl ?_
  exact kk M ad H locs ls a M' hF hfin hW hl (okS_cons okW_l (okS_tl (okS_tl hst)))
theorem J_lushr (hc : Jc κ own cc nL fr mc ms lc) {x : Int64} {y : Int32} (hd : decode cc pc = .ok (.lushr, 1)) (kk : Jg κ ω nL fin cs ss (pc + 1) l ((0, .long ((x.toUInt64 >>> (y.toInt64.toUInt64 &&& Int64.toUInt64 63)).toInt64)) :: st) F) : Jg κ ω nL fin cs ss pc l ((0, .int y) :: (0, .long x) :: st) F := by
  obtain ⟨⟨p, l9, e, R, s, m, args, below, meth, c⟩, ⟨D, g, A, Q⟩, M0, ad0⟩ := κ
  obtain ⟨hx, hb, -⟩ := hc
  intro M ad H locs ls a M' hF hfin hW hl hst
  refine lv_lushr hx hb hd rfl ?_
  exact kk M ad H locs ls a M' hF hfin hW hl (okS_cons okW_l (okS_tl (okS_tl hst)))
theorem J_i2l (hc : Jc κ own cc nL fr mc ms lc) {x : Int32} (hd : decode cc pc = .ok (.i2l, 1)) (kk : Jg κ ω nL fin cs ss (pc + 1) l ((0, .long x.toInt64) :: st) F) : Jg κ ω nL fin cs ss pc l ((0, .int x) :: st) F := by
  obtain ⟨⟨p, l9, e, R, s, m, args, below, meth, c⟩, ⟨D, g, A, Q⟩, M0, ad0⟩ := κ
  obtain ⟨hx, hb, -⟩ := hc
  intro M ad H locs ls a M' hF hfin hW hl hst
  refine lv_i2l hx hb hd rfl ?_
  exact kk M ad H locs ls a M' hF hfin hW hl (okS_cons okW_l (okS_tl hst))
theorem J_l2i (hc : Jc κ own cc nL fr mc ms lc) {x : Int64} (hd : decode cc pc = .ok (.l2i, 1)) (kk : Jg κ ω nL fin cs ss (pc + 1) l ((0, .int x.toInt32) :: st) F) : Jg κ ω nL fin cs ss pc l ((0, .long x) :: st) F := by
  obtain ⟨⟨p, l9, e, R, s, m, args, below, meth, c⟩, ⟨D, g, A, Q⟩, M0, ad0⟩ := κ
  obtain ⟨hx, hb, -⟩ := hc
  intro M ad H locs ls a M' hF hfin hW hl hst
  refine lv_l2i hx hb hd rfl ?_
  exact kk M ad H locs ls a M' hF hfin hW hl (okS_cons okW_i (okS_tl hst))
theorem J_i2b (hc : Jc κ own cc nL fr mc ms lc) {x : Int32} (hd : decode cc pc = .ok (.i2b, 1)) (kk : Jg κ ω nL fin cs ss (pc + 1) l ((0, .int x.toInt8.toInt32) :: st) F) : Jg κ ω nL fin cs ss pc l ((0, .int x) :: st) F := by
  obtain ⟨⟨p, l9, e, R, s, m, args, below, meth, c⟩, ⟨D, g, A, Q⟩, M0, ad0⟩ := κ
  obtain ⟨hx, hb, -⟩ := hc
  intro M ad H locs ls a M' hF hfin hW hl hst
  refine lv_i2b hx hb hd rfl ?_
  exact kk M ad H locs ls a M' hF hfin hW hl (okS_cons okW_i (okS_tl hst))
theorem J_i2c (hc : Jc κ own cc nL fr mc ms lc) {x : Int32} (hd : decode cc pc = .ok (.i2c, 1)) (kk : Jg κ ω nL fin cs ss (pc + 1) l ((0, .int ((x.toUInt32 % 65536).toInt32)) :: st) F) : Jg κ ω nL fin cs ss pc l ((0, .int x) :: st) F := by
  obtain ⟨⟨p, l9, e, R, s, m, args, below, meth, c⟩, ⟨D, g, A, Q⟩, M0, ad0⟩ := κ
  obtain ⟨hx, hb, -⟩ := hc
  intro M ad H locs ls a M' hF hfin hW hl hst
  refine lv_i2c hx hb hd rfl ?_
  exact kk M ad H locs ls a M' hF hfin hW hl (okS_cons okW_i (okS_tl hst))
theorem J_i2f (hc : Jc κ own cc nL fr mc ms lc) {x : Int32} (hd : decode cc pc = .ok (.i2f, 1)) (kk : Jg κ ω nL fin cs ss (pc + 1) l ((0, .float (FP.i2f x)) :: st) F) : Jg κ ω nL fin cs ss pc l ((0, .int x) :: st) F := by
  obtain ⟨⟨p, l9, e, R, s, m, args, below, meth, c⟩, ⟨D, g, A, Q⟩, M0, ad0⟩ := κ
  obtain ⟨hx, hb, -⟩ := hc
  intro M ad H locs ls a M' hF hfin hW hl hst
  refine lv_i2f hx hb hd ?_
  exact kk M ad H locs ls a M' hF hfin hW hl (okS_cons okW_f (okS_tl hst))
theorem J_i2d (hc : Jc κ own cc nL fr mc ms lc) {x : Int32} (hd : decode cc pc = .ok (.i2d, 1)) (kk : Jg κ ω nL fin cs ss (pc + 1) l ((0, .double (FP.i2d x)) :: st) F) : Jg κ ω nL fin cs ss pc l ((0, .int x) :: st) F := by
  obtain ⟨⟨p, l9, e, R, s, m, args, below, meth, c⟩, ⟨D, g, A, Q⟩, M0, ad0⟩ := κ
  obtain ⟨hx, hb, -⟩ := hc
  intro M ad H locs ls a M' hF hfin hW hl hst
  refine lv_i2d hx hb hd ?_
  exact kk M ad H locs ls a M' hF hfin hW hl (okS_cons okW_d (okS_tl hst))
theorem J_lcmp (hc : Jc κ own cc nL fr mc ms lc) {x y : Int64} (hd : decode cc pc = .ok (.lcmp, 1)) (kk : Jg κ ω nL fin cs ss (pc + 1) l ((0, .int (lg_cmp x y)) :: st) F) : Jg κ ω nL fin cs ss pc l ((0, .long y) :: (0, .long x) :: st) F := by
  obtain ⟨⟨p, l9, e, R, s, m, args, below, meth, c⟩, ⟨D, g, A, Q⟩, M0, ad0⟩ := κ
  obtain ⟨hx, hb, -⟩ := hc
  intro M ad H locs ls a M' hF hfin hW hl hst
  refine W.lcmp hx hb hd ?_
  exact kk M ad H locs ls a M' hF hfin hW hl (okS_cons okW_i (okS_tl (okS_tl hst)))
theorem J_dcmp (hc : Jc κ own cc nL fr mc ms lc) {x y : UInt64} {op : CmpOp} (hd : decode cc pc = .ok (.dcmp op, 1)) (kk : Jg κ ω nL fin cs ss (pc + 1) l ((0, .int (Op.cmpValue (FP.dcmp x y) op)) :: st) F) : Jg κ ω nL fin cs ss pc l ((0, .double y) :: (0, .double x) :: st) F := by
  obtain ⟨⟨p, l9, e, R, s, m, args, below, meth, c⟩, ⟨D, g, A, Q⟩, M0, ad0⟩ := κ
  obtain ⟨hx, hb, -⟩ := hc
  intro M ad H locs ls a M' hF hfin hW hl hst
  refine lv_dcmp hx hb hd ?_
  exact kk M ad H locs ls a M' hF hfin hW hl (okS_cons okW_i (okS_tl (okS_tl hst)))
theorem J_idivC (hc : Jc κ own cc nL fr mc ms lc) {x y : Int32} (hd : decode cc pc = .ok (.idiv, 1)) (hne : ¬ y = 0) (kk : Jg κ ω nL fin cs ss (pc + 1) l ((0, .int (x / y)) :: st) F) : Jg κ ω nL fin cs ss pc l ((0, .int y) :: (0, .int x) :: st) F := by
  obtain ⟨⟨p, l9, e, R, s, m, args, below, meth, c⟩, ⟨D, g, A, Q⟩, M0, ad0⟩ := κ
  obtain ⟨hx, hb, -⟩ := hc
  intro M ad H locs ls a M' hF hfin hW hl hst
  refine lv_idiv hx hb hd hne ?_
  exact kk M ad H locs ls a M' hF hfin hW hl (okS_cons okW_i (okS_tl (okS_tl hst)))
theorem J_iremC (hc : Jc κ own cc nL fr mc ms lc) {x y : Int32} (hd : decode cc pc = .ok (.irem, 1)) (hne : ¬ y = 0) (kk : Jg κ ω nL fin cs ss (pc + 1) l ((0, .int (x - x / y * y)) :: st) F) : Jg κ ω nL fin cs ss pc l ((0, .int y) :: (0, .int x) :: st) F := by
  obtain ⟨⟨p, l9, e, R, s, m, args, below, meth, c⟩, ⟨D, g, A, Q⟩, M0, ad0⟩ := κ
  obtain ⟨hx, hb, -⟩ := hc
  intro M ad H locs ls a M' hF hfin hW hl hst
  refine lv_irem hx hb hd hne ?_
  exact kk M ad H locs ls a M' hF hfin hW hl (okS_cons okW_i (okS_tl (okS_tl hst)))
theorem J_idiv (hc : Jc κ own cc nL fr mc ms lc) {x y : Int32} (hd : decode cc pc = .ok (.idiv, 1)) (kk : Jg κ ω nL fin cs ss (pc + 1) l ((0, .int (x / y)) :: st) F) : Jg κ ω nL fin cs ss pc l ((0, .int y) :: (0, .int x) :: st) (grd (!(y == 0)) F) := by
  obtain ⟨⟨p, l9, e, R, s, m, args, below, meth, c⟩, ⟨D, g, A, Q⟩, M0, ad0⟩ := κ
  obtain ⟨hx, hb, -⟩ := hc
  intro M ad H locs ls a M' hF hfin hW hl hst
  obtain ⟨hy, hF⟩ := grd_some hF
  have hne : ¬ y = 0 := by simpa using hy
  refine lv_idiv hx hb hd hne ?_
  exact kk M ad H locs ls a M' hF hfin hW hl (okS_cons okW_i (okS_tl (okS_tl hst)))
theorem J_irem (hc : Jc κ own cc nL fr mc ms lc) {x y : Int32} (hd : decode cc pc = .ok (.irem, 1)) (kk : Jg κ ω nL fin cs ss (pc + 1) l ((0, .int (x - x / y * y)) :: st) F) : Jg κ ω nL fin cs ss pc l ((0, .int y) :: (0, .int x) :: st) (grd (!(y == 0)) F) := by
  obtain ⟨⟨p, l9, e, R, s, m, args, below, meth, c⟩, ⟨D, g, A, Q⟩, M0, ad0⟩ := κ
  obtain ⟨hx, hb, -⟩ := hc
  intro M ad H locs ls a M' hF hfin hW hl hst
  obtain ⟨hy, hF⟩ := grd_some hF
  have hne : ¬ y = 0 := by simpa using hy
  refine lv_irem hx hb hd hne ?_
  exact kk M ad H locs ls a M' hF hfin hW hl (okS_cons okW_i (okS_tl (okS_tl hst)))
theorem J_iload (hc : Jc κ own cc nL fr mc ms lc) {i k : Nat} {x : Int32} (hd : decode cc pc = .ok (.iload i, 2)) (hk : l[i]? = some (some (k, .int x))) (kk : Jg κ ω nL fin cs ss (pc + 2) l ((0, .int x) :: st) F) : Jg κ ω nL fin cs ss pc l st F := by
  obtain ⟨⟨p, l9, e, R, s, m, args, below, meth, c⟩, ⟨D, g, A, Q⟩, M0, ad0⟩ := κ
  obtain ⟨hx, hb, -⟩ := hc
  intro M ad H locs ls a M' hF hfin hW hl hst
  refine lv_iload hx hb hd (hl.2 _ _ hk).1 ?_
  exact kk M ad H locs ls a M' hF hfin hW hl (okS_cons okW_i hst)
theorem J_lload (hc : Jc κ own cc nL fr mc ms lc) {i k : Nat} {x : Int64} (hd : decode cc pc = .ok (.lload i, 2)) (hk : l[i]? = some (some (k, .long x))) (kk : Jg κ ω nL fin cs ss (pc + 2) l ((0, .long x) :: st) F) : Jg κ ω nL fin cs ss pc l st F := by
  obtain ⟨⟨p, l9, e, R, s, m, args, below, meth, c⟩, ⟨D, g, A, Q⟩, M0, ad0⟩ := κ
  obtain ⟨hx, hb, -⟩ := hc
  intro M ad H locs ls a M' hF hfin hW hl hst
  refine lv_lload hx hb hd (hl.2 _ _ hk).1 ?_
  exact kk M ad H locs ls a M' hF hfin hW hl (okS_cons okW_l hst)
theorem J_dload (hc : Jc κ own cc nL fr mc ms lc) {i k : Nat} {x : UInt64} (hd : decode cc pc = .ok (.dload i, 2)) (hk : l[i]? = some (some (k, .double x))) (kk : Jg κ ω nL fin cs ss (pc + 2) l ((0, .double x) :: st) F) : Jg κ ω nL fin cs ss pc l st F := by
  obtain ⟨⟨p, l9, e, R, s, m, args, below, meth, c⟩, ⟨D, g, A, Q⟩, M0, ad0⟩ := κ
  obtain ⟨hx, hb, -⟩ := hc
  intro M ad H locs ls a M' hF hfin hW hl hst
  refine lv_dload hx hb hd (hl.2 _ _ hk).1 ?_
  exact kk M ad H locs ls a M' hF hfin hW hl (okS_cons okW_d hst)
theorem J_iload_n (hc : Jc κ own cc nL fr mc ms lc) {k0 : Fin 4} {i k : Nat} {x : Int32} (hd : decode cc pc = .ok (.iload_n k0, 1)) (hi : (k0 : Nat) = i) (hk : l[i]? = some (some (k, .int x))) (kk : Jg κ ω nL fin cs ss (pc + 1) l ((0, .int x) :: st) F) : Jg κ ω nL fin cs ss pc l st F := by
  obtain ⟨⟨p, l9, e, R, s, m, args, below, meth, c⟩, ⟨D, g, A, Q⟩, M0, ad0⟩ := κ
  obtain ⟨hx, hb, -⟩ := hc
  intro M ad H locs ls a M' hF hfin hW hl hst
  refine lv_iload_n hx hb hd hi (hl.2 _ _ hk).1 ?_
  exact kk M ad H locs ls a M' hF hfin hW hl (okS_cons okW_i hst)
theorem J_lload_n (hc : Jc κ own cc nL fr mc ms lc) {k0 : Fin 4} {i k : Nat} {x : Int64} (hd : decode cc pc = .ok (.lload_n k0, 1)) (hi : (k0 : Nat) = i) (hk : l[i]? = some (some (k, .long x))) (kk : Jg κ ω nL fin cs ss (pc + 1) l ((0, .long x) :: st) F) : Jg κ ω nL fin cs ss pc l st F := by
  obtain ⟨⟨p, l9, e, R, s, m, args, below, meth, c⟩, ⟨D, g, A, Q⟩, M0, ad0⟩ := κ
  obtain ⟨hx, hb, -⟩ := hc
  intro M ad H locs ls a M' hF hfin hW hl hst
  refine lv_lload_n hx hb hd hi (hl.2 _ _ hk).1 ?_
  exact kk M ad H locs ls a M' hF hfin hW hl (okS_cons okW_l hst)
theorem J_aload (hc : Jc κ own cc nL fr mc ms lc) {i k x : Nat} (hd : decode cc pc = .ok (.aload i, 2)) (hk : l[i]? = some (some (k, .ref x))) (kk : Jg κ ω nL fin cs ss (pc + 2) l ((k, .ref x) :: st) F) : Jg κ ω nL fin cs ss pc l st F := by
  obtain ⟨⟨p, l9, e, R, s, m, args, below, meth, c⟩, ⟨D, g, A, Q⟩, M0, ad0⟩ := κ
  obtain ⟨hx, hb, -⟩ := hc
  intro M ad H locs ls a M' hF hfin hW hl hst
  refine lv_aload hx hb hd (hl.2 _ _ hk).1 ?_
  exact kk M ad H locs ls a M' hF hfin hW hl (okS_cons (hl.2 _ _ hk).2 hst)
theorem J_aload_n (hc : Jc κ own cc nL fr mc ms lc) {k0 : Fin 4} {i k x : Nat} (hd : decode cc pc = .ok (.aload_n k0, 1)) (hi : (k0 : Nat) = i) (hk : l[i]? = some (some (k, .ref x))) (kk : Jg κ ω nL fin cs ss (pc + 1) l ((k, .ref x) :: st) F) : Jg κ ω nL fin cs ss pc l st F := by
  obtain ⟨⟨p, l9, e, R, s, m, args, below, meth, c⟩, ⟨D, g, A, Q⟩, M0, ad0⟩ := κ
  obtain ⟨hx, hb, -⟩ := hc
  intro M ad H locs ls a M' hF hfin hW hl hst
  refine lv_aload_n hx hb hd hi (hl.2 _ _ hk).1 ?_
  exact kk M ad H locs ls a M' hF hfin hW hl (okS_cons (hl.2 _ _ hk).2 hst)
theorem J_istore (hc : Jc κ own cc nL fr mc ms lc) {i : Nat} {x : Int32} (hd : decode cc pc = .ok (.istore i, 2)) (hn : i < nL) (hc1 : c1 l i = true) (hl9 : l.set i (some (0, .int x)) = l') (kk : Jg κ ω nL fin cs ss (pc + 2) l' st F) : Jg κ ω nL fin cs ss pc l ((0, .int x) :: st) F := by
  obtain ⟨⟨p, l9, e, R, s, m, args, below, meth, c⟩, ⟨D, g, A, Q⟩, M0, ad0⟩ := κ
  obtain ⟨hx, hb, -⟩ := hc
  intro M ad H locs ls a M' hF hfin hW hl hst
  refine lv_istore hx hb hd (lvk_has hl) hn rfl (fun ls1 h1 => ?_)
  exact kk M ad H locs ls1 a M' hF hfin hW (lvk_st1 (v := (0, .int x)) hl (okS_hd hst) hc1 hl9 h1) (okS_tl hst)
theorem J_istore_n (hc : Jc κ own cc nL fr mc ms lc) {k0 : Fin 4} {i : Nat} {x : Int32} (hd : decode cc pc = .ok (.istore_n k0, 1)) (hi : (k0 : Nat) = i) (hn : i < nL) (hc1 : c1 l i = true) (hl9 : l.set i (some (0, .int x)) = l') (kk : Jg κ ω nL fin cs ss (pc + 1) l' st F) : Jg κ ω nL fin cs ss pc l ((0, .int x) :: st) F := by
  obtain ⟨⟨p, l9, e, R, s, m, args, below, meth, c⟩, ⟨D, g, A, Q⟩, M0, ad0⟩ := κ
  obtain ⟨hx, hb, -⟩ := hc
  intro M ad H locs ls a M' hF hfin hW hl hst
  refine lv_istore_n hx hb hd hi (lvk_has hl) hn rfl (fun ls1 h1 => ?_)
  exact kk M ad H locs ls1 a M' hF hfin hW (lvk_st1 (v := (0, .int x)) hl (okS_hd hst) hc1 hl9 h1) (okS_tl hst)
theorem J_lstore (hc : Jc κ own cc nL fr mc ms lc) {i : Nat} {x : Int64} (hd : decode cc pc = .ok (.lstore i, 2)) (hn : i + 1 < nL) (hc1 : c1 l i = true) (hl9 : (l.set i (some (0, .long x))).set (i + 1) none = l') (kk : Jg κ ω nL fin cs ss (pc + 2) l' st F) : Jg κ ω nL fin cs ss pc l ((0, .long x) :: st) F := by
  obtain ⟨⟨p, l9, e, R, s, m, args, below, meth, c⟩, ⟨D, g, A, Q⟩, M0, ad0⟩ := κ
  obtain ⟨hx, hb, -⟩ := hc
  intro M ad H locs ls a M' hF hfin hW hl hst
  refine lv_lstore hx hb hd (lvk_has hl) hn rfl (fun ls1 h1 => ?_)
  exact kk M ad H locs ls1 a M' hF hfin hW (lvk_st2 (v := (0, .long x)) hl (okS_hd hst) hc1 hl9 h1) (okS_tl hst)
theorem J_lstore_n (hc : Jc κ own cc nL fr mc ms lc) {k0 : Fin 4} {i : Nat} {x : Int64} (hd : decode cc pc = .ok (.lstore_n k0, 1)) (hi : (k0 : Nat) = i) (hn : i + 1 < nL) (hc1 : c1 l i = true) (hl9 : (l.set i (some (0, .long x))).set (i + 1) none = l') (kk : Jg κ ω nL fin cs ss (pc + 1) l' st F) : Jg κ ω nL fin cs ss pc l ((0, .long x) :: st) F := by
  obtain ⟨⟨p, l9, e, R, s, m, args, below, meth, c⟩, ⟨D, g, A, Q⟩, M0, ad0⟩ := κ
  obtain ⟨hx, hb, -⟩ := hc
  intro M ad H locs ls a M' hF hfin hW hl hst
  refine lv_lstore_n hx hb hd hi (lvk_has hl) hn rfl (fun ls1 h1 => ?_)
  exact kk M ad H locs ls1 a M' hF hfin hW (lvk_st2 (v := (0, .long x)) hl (okS_hd hst) hc1 hl9 h1) (okS_tl hst)
theorem J_dstore (hc : Jc κ own cc nL fr mc ms lc) {i : Nat} {x : UInt64} (hd : decode cc pc = .ok (.dstore i, 2)) (hn : i + 1 < nL) (hc1 : c1 l i = true) (hl9 : (l.set i (some (0, .double x))).set (i + 1) none = l') (kk : Jg κ ω nL fin cs ss (pc + 2) l' st F) : Jg κ ω nL fin cs ss pc l ((0, .double x) :: st) F := by
  obtain ⟨⟨p, l9, e, R, s, m, args, below, meth, c⟩, ⟨D, g, A, Q⟩, M0, ad0⟩ := κ
  obtain ⟨hx, hb, -⟩ := hc
  intro M ad H locs ls a M' hF hfin hW hl hst
  refine lv_dstore hx hb hd (lvk_has hl) hn rfl (fun ls1 h1 => ?_)
  exact kk M ad H locs ls1 a M' hF hfin hW (lvk_st2 (v := (0, .double x)) hl (okS_hd hst) hc1 hl9 h1) (okS_tl hst)
theorem J_astore (hc : Jc κ own cc nL fr mc ms lc) {i : Nat} {k : Nat} {x : Nat} (hd : decode cc pc = .ok (.astore i, 2)) (hn : i < nL) (hc1 : c1 l i = true) (hl9 : l.set i (some (k, .ref x)) = l') (kk : Jg κ ω nL fin cs ss (pc + 2) l' st F) : Jg κ ω nL fin cs ss pc l ((k, .ref x) :: st) F := by
  obtain ⟨⟨p, l9, e, R, s, m, args, below, meth, c⟩, ⟨D, g, A, Q⟩, M0, ad0⟩ := κ
  obtain ⟨hx, hb, -⟩ := hc
  intro M ad H locs ls a M' hF hfin hW hl hst
  refine lv_astore hx hb hd (lvk_has hl) hn rfl (fun ls1 h1 => ?_)
  exact kk M ad H locs ls1 a M' hF hfin hW (lvk_st1 (v := (k, .ref x)) hl (okS_hd hst) hc1 hl9 h1) (okS_tl hst)
theorem J_astore_n (hc : Jc κ own cc nL fr mc ms lc) {k0 : Fin 4} {i : Nat} {k : Nat} {x : Nat} (hd : decode cc pc = .ok (.astore_n k0, 1)) (hi : (k0 : Nat) = i) (hn : i < nL) (hc1 : c1 l i = true) (hl9 : l.set i (some (k, .ref x)) = l') (kk : Jg κ ω nL fin cs ss (pc + 1) l' st F) : Jg κ ω nL fin cs ss pc l ((k, .ref x) :: st) F := by
  obtain ⟨⟨p, l9, e, R, s, m, args, below, meth, c⟩, ⟨D, g, A, Q⟩, M0, ad0⟩ := κ
  obtain ⟨hx, hb, -⟩ := hc
  intro M ad H locs ls a M' hF hfin hW hl hst
  refine lv_astore_n hx hb hd hi (lvk_has hl) hn rfl (fun ls1 h1 => ?_)
  exact kk M ad H locs ls1 a M' hF hfin hW (lvk_st1 (v := (k, .ref x)) hl (okS_hd hst) hc1 hl9 h1) (okS_tl hst)
theorem J_iinc (hc : Jc κ own cc nL fr mc ms lc) {i k : Nat} {n : Int} {x v : Int32} (hd : decode cc pc = .ok (.iinc i n, 3)) (hk : l[i]? = some (some (k, .int x))) (hv : x + Int32.ofInt n = v) (hn : i < nL) (hc1 : c1 l i = true) (hl9 : l.set i (some (0, .int v)) = l') (kk : Jg κ ω nL fin cs ss (pc + 3) l' st F) : Jg κ ω nL fin cs ss pc l st F := by
  obtain ⟨⟨p, l9, e, R, s, m, args, below, meth, c⟩, ⟨D, g, A, Q⟩, M0, ad0⟩ := κ
  obtain ⟨hx, hb, -⟩ := hc
  intro M ad H locs ls a M' hF hfin hW hl hst
  obtain ⟨j, hj⟩ := List.getElem?_of_mem (ent_mem (ad := ad) hk)
  refine lv_iinc hx hb hd (lvk_has hl) hj hv hn rfl (fun ls1 h1 => ?_)
  exact kk M ad H locs ls1 a M' hF hfin hW (lvk_st1 (v := (0, .int v)) hl okW_i hc1 hl9 h1) hst
theorem J_icmp_eq (hc : Jc κ own cc nL fr mc ms lc) {x y : Int32} {off : Int} {tgt : Nat} {dec : Decidable (x = y)} (hd : decode cc pc = .ok (.if_icmp .eq off, 3)) (ht : (pc : Int) + off = (tgt : Int)) (kt : Jg κ ω nL fin cs ss tgt l st F1) (kf : Jg κ ω nL fin cs ss (pc + 3) l st F2) : Jg κ ω nL fin cs ss pc l ((0, .int y) :: (0, .int x) :: st) (if x = y then F1 else F2) := by
  obtain ⟨⟨p, l9, e, R, s, m, args, below, meth, c⟩, ⟨D, g, A, Q⟩, M0, ad0⟩ := κ
  obtain ⟨hx, hb, -⟩ := hc
  intro M ad H locs ls a M' hF hfin hW hl hst
  refine lv_icmp_eq hx hb hd ht (fun q => ?_) (fun q => ?_)
  · rw [if_pos q] at hF
    exact kt M ad H locs ls a M' hF hfin hW hl (okS_tl (okS_tl hst))
  · rw [if_neg q] at hF
    exact kf M ad H locs ls a M' hF hfin hW hl (okS_tl (okS_tl hst))
theorem J_if_eq (hc : Jc κ own cc nL fr mc ms lc) {x : Int32} {off : Int} {tgt : Nat} {dec : Decidable (x = 0)} (hd : decode cc pc = .ok (.ifCond .eq off, 3)) (ht : (pc : Int) + off = (tgt : Int)) (kt : Jg κ ω nL fin cs ss tgt l st F1) (kf : Jg κ ω nL fin cs ss (pc + 3) l st F2) : Jg κ ω nL fin cs ss pc l ((0, .int x) :: st) (if x = 0 then F1 else F2) := by
  obtain ⟨⟨p, l9, e, R, s, m, args, below, meth, c⟩, ⟨D, g, A, Q⟩, M0, ad0⟩ := κ
  obtain ⟨hx, hb, -⟩ := hc
  intro M ad H locs ls a M' hF hfin hW hl hst
  refine lv_if_eq hx hb hd ht (fun q => ?_) (fun q => ?_)
  · rw [if_pos q] at hF
    exact kt M ad H locs ls a M' hF hfin hW hl (okS_tl hst)
  · rw [if_neg q] at hF
    exact kf M ad H locs ls a M' hF hfin hW hl (okS_tl hst)
theorem J_icmp_ne (hc : Jc κ own cc nL fr mc ms lc) {x y : Int32} {off : Int} {tgt : Nat} {dec : Decidable (x = y)} (hd : decode cc pc = .ok (.if_icmp .ne off, 3)) (ht : (pc : Int) + off = (tgt : Int)) (kt : Jg κ ω nL fin cs ss tgt l st F2) (kf : Jg κ ω nL fin cs ss (pc + 3) l st F1) : Jg κ ω nL fin cs ss pc l ((0, .int y) :: (0, .int x) :: st) (if x = y then F1 else F2) := by
  obtain ⟨⟨p, l9, e, R, s, m, args, below, meth, c⟩, ⟨D, g, A, Q⟩, M0, ad0⟩ := κ
  obtain ⟨hx, hb, -⟩ := hc
  intro M ad H locs ls a M' hF hfin hW hl hst
  refine lv_icmp_ne hx hb hd ht (fun q => ?_) (fun q => ?_)
  · rw [if_neg q] at hF
    exact kt M ad H locs ls a M' hF hfin hW hl (okS_tl (okS_tl hst))
  · rw [if_pos q] at hF
    exact kf M ad H locs ls a M' hF hfin hW hl (okS_tl (okS_tl hst))
theorem J_if_ne (hc : Jc κ own cc nL fr mc ms lc) {x : Int32} {off : Int} {tgt : Nat} {dec : Decidable (x = 0)} (hd : decode cc pc = .ok (.ifCond .ne off, 3)) (ht : (pc : Int) + off = (tgt : Int)) (kt : Jg κ ω nL fin cs ss tgt l st F2) (kf : Jg κ ω nL fin cs ss (pc + 3) l st F1) : Jg κ ω nL fin cs ss pc l ((0, .int x) :: st) (if x = 0 then F1 else F2) := by
  obtain ⟨⟨p, l9, e, R, s, m, args, below, meth, c⟩, ⟨D, g, A, Q⟩, M0, ad0⟩ := κ
  obtain ⟨hx, hb, -⟩ := hc
  intro M ad H locs ls a M' hF hfin hW hl hst
  refine lv_if_ne hx hb hd ht (fun q => ?_) (fun q => ?_)
  · rw [if_neg q] at hF
    exact kt M ad H locs ls a M' hF hfin hW hl (okS_tl hst)
  · rw [if_pos q] at hF
    exact kf M ad H locs ls a M' hF hfin hW hl (okS_tl hst)
theorem J_icmp_lt (hc : Jc κ own cc nL fr mc ms lc) {x y : Int32} {off : Int} {tgt : Nat} {dec : Decidable (x < y)} (hd : decode cc pc = .ok (.if_icmp .lt off, 3)) (ht : (pc : Int) + off = (tgt : Int)) (kt : Jg κ ω nL fin cs ss tgt l st F1) (kf : Jg κ ω nL fin cs ss (pc + 3) l st F2) : Jg κ ω nL fin cs ss pc l ((0, .int y) :: (0, .int x) :: st) (if x < y then F1 else F2) := by
  obtain ⟨⟨p, l9, e, R, s, m, args, below, meth, c⟩, ⟨D, g, A, Q⟩, M0, ad0⟩ := κ
  obtain ⟨hx, hb, -⟩ := hc
  intro M ad H locs ls a M' hF hfin hW hl hst
  refine lv_icmp_lt hx hb hd ht (fun q => ?_) (fun q => ?_)
  · rw [if_pos q] at hF
    exact kt M ad H locs ls a M' hF hfin hW hl (okS_tl (okS_tl hst))
  · rw [if_neg q] at hF
    exact kf M ad H locs ls a M' hF hfin hW hl (okS_tl (okS_tl hst))
theorem J_if_lt (hc : Jc κ own cc nL fr mc ms lc) {x : Int32} {off : Int} {tgt : Nat} {dec : Decidable (x < 0)} (hd : decode cc pc = .ok (.ifCond .lt off, 3)) (ht : (pc : Int) + off = (tgt : Int)) (kt : Jg κ ω nL fin cs ss tgt l st F1) (kf : Jg κ ω nL fin cs ss (pc + 3) l st F2) : Jg κ ω nL fin cs ss pc l ((0, .int x) :: st) (if x < 0 then F1 else F2) := by
  obtain ⟨⟨p, l9, e, R, s, m, args, below, meth, c⟩, ⟨D, g, A, Q⟩, M0, ad0⟩ := κ
  obtain ⟨hx, hb, -⟩ := hc
  intro M ad H locs ls a M' hF hfin hW hl hst
  refine lv_if_lt hx hb hd ht (fun q => ?_) (fun q => ?_)
  · rw [if_pos q] at hF
    exact kt M ad H locs ls a M' hF hfin hW hl (okS_tl hst)
  · rw [if_neg q] at hF
    exact kf M ad H locs ls a M' hF hfin hW hl (okS_tl hst)
theorem J_icmp_ge (hc : Jc κ own cc nL fr mc ms lc) {x y : Int32} {off : Int} {tgt : Nat} {dec : Decidable (y ≤ x)} (hd : decode cc pc = .ok (.if_icmp .ge off, 3)) (ht : (pc : Int) + off = (tgt : Int)) (kt : Jg κ ω nL fin cs ss tgt l st F1) (kf : Jg κ ω nL fin cs ss (pc + 3) l st F2) : Jg κ ω nL fin cs ss pc l ((0, .int y) :: (0, .int x) :: st) (if y ≤ x then F1 else F2) := by
  obtain ⟨⟨p, l9, e, R, s, m, args, below, meth, c⟩, ⟨D, g, A, Q⟩, M0, ad0⟩ := κ
  obtain ⟨hx, hb, -⟩ := hc
  intro M ad H locs ls a M' hF hfin hW hl hst
  refine lv_icmp_ge hx hb hd ht (fun q => ?_) (fun q => ?_)
  · rw [if_pos q] at hF
    exact kt M ad H locs ls a M' hF hfin hW hl (okS_tl (okS_tl hst))
  · rw [if_neg q] at hF
    exact kf M ad H locs ls a M' hF hfin hW hl (okS_tl (okS_tl hst))
theorem J_if_ge (hc : Jc κ own cc nL fr mc ms lc) {x : Int32} {off : Int} {tgt : Nat} {dec : Decidable (0 ≤ x)} (hd : decode cc pc = .ok (.ifCond .ge off, 3)) (ht : (pc : Int) + off = (tgt : Int)) (kt : Jg κ ω nL fin cs ss tgt l st F1) (kf : Jg κ ω nL fin cs ss (pc + 3) l st F2) : Jg κ ω nL fin cs ss pc l ((0, .int x) :: st) (if 0 ≤ x then F1 else F2) := by
  obtain ⟨⟨p, l9, e, R, s, m, args, below, meth, c⟩, ⟨D, g, A, Q⟩, M0, ad0⟩ := κ
  obtain ⟨hx, hb, -⟩ := hc
  intro M ad H locs ls a M' hF hfin hW hl hst
  refine lv_if_ge hx hb hd ht (fun q => ?_) (fun q => ?_)
  · rw [if_pos q] at hF
    exact kt M ad H locs ls a M' hF hfin hW hl (okS_tl hst)
  · rw [if_neg q] at hF
    exact kf M ad H locs ls a M' hF hfin hW hl (okS_tl hst)
theorem J_icmp_gt (hc : Jc κ own cc nL fr mc ms lc) {x y : Int32} {off : Int} {tgt : Nat} {dec : Decidable (y < x)} (hd : decode cc pc = .ok (.if_icmp .gt off, 3)) (ht : (pc : Int) + off = (tgt : Int)) (kt : Jg κ ω nL fin cs ss tgt l st F1) (kf : Jg κ ω nL fin cs ss (pc + 3) l st F2) : Jg κ ω nL fin cs ss pc l ((0, .int y) :: (0, .int x) :: st) (if y < x then F1 else F2) := by
  obtain ⟨⟨p, l9, e, R, s, m, args, below, meth, c⟩, ⟨D, g, A, Q⟩, M0, ad0⟩ := κ
  obtain ⟨hx, hb, -⟩ := hc
  intro M ad H locs ls a M' hF hfin hW hl hst
  refine lv_icmp_gt hx hb hd ht (fun q => ?_) (fun q => ?_)
  · rw [if_pos q] at hF
    exact kt M ad H locs ls a M' hF hfin hW hl (okS_tl (okS_tl hst))
  · rw [if_neg q] at hF
    exact kf M ad H locs ls a M' hF hfin hW hl (okS_tl (okS_tl hst))
theorem J_if_gt (hc : Jc κ own cc nL fr mc ms lc) {x : Int32} {off : Int} {tgt : Nat} {dec : Decidable (0 < x)} (hd : decode cc pc = .ok (.ifCond .gt off, 3)) (ht : (pc : Int) + off = (tgt : Int)) (kt : Jg κ ω nL fin cs ss tgt l st F1) (kf : Jg κ ω nL fin cs ss (pc + 3) l st F2) : Jg κ ω nL fin cs ss pc l ((0, .int x) :: st) (if 0 < x then F1 else F2) := by
  obtain ⟨⟨p, l9, e, R, s, m, args, below, meth, c⟩, ⟨D, g, A, Q⟩, M0, ad0⟩ := κ
  obtain ⟨hx, hb, -⟩ := hc
  intro M ad H locs ls a M' hF hfin hW hl hst
  refine lv_if_gt hx hb hd ht (fun q => ?_) (fun q => ?_)
  · rw [if_pos q] at hF
    exact kt M ad H locs ls a M' hF hfin hW hl (okS_tl hst)
  · rw [if_neg q] at hF
    exact kf M ad H locs ls a M' hF hfin hW hl (okS_tl hst)
theorem J_icmp_le (hc : Jc κ own cc nL fr mc ms lc) {x y : Int32} {off : Int} {tgt : Nat} {dec : Decidable (x ≤ y)} (hd : decode cc pc = .ok (.if_icmp .le off, 3)) (ht : (pc : Int) + off = (tgt : Int)) (kt : Jg κ ω nL fin cs ss tgt l st F1) (kf : Jg κ ω nL fin cs ss (pc + 3) l st F2) : Jg κ ω nL fin cs ss pc l ((0, .int y) :: (0, .int x) :: st) (if x ≤ y then F1 else F2) := by
  obtain ⟨⟨p, l9, e, R, s, m, args, below, meth, c⟩, ⟨D, g, A, Q⟩, M0, ad0⟩ := κ
  obtain ⟨hx, hb, -⟩ := hc
  intro M ad H locs ls a M' hF hfin hW hl hst
  refine lv_icmp_le hx hb hd ht (fun q => ?_) (fun q => ?_)
  · rw [if_pos q] at hF
    exact kt M ad H locs ls a M' hF hfin hW hl (okS_tl (okS_tl hst))
  · rw [if_neg q] at hF
    exact kf M ad H locs ls a M' hF hfin hW hl (okS_tl (okS_tl hst))
theorem J_if_le (hc : Jc κ own cc nL fr mc ms lc) {x : Int32} {off : Int} {tgt : Nat} {dec : Decidable (x ≤ 0)} (hd : decode cc pc = .ok (.ifCond .le off, 3)) (ht : (pc : Int) + off = (tgt : Int)) (kt : Jg κ ω nL fin cs ss tgt l st F1) (kf : Jg κ ω nL fin cs ss (pc + 3) l st F2) : Jg κ ω nL fin cs ss pc l ((0, .int x) :: st) (if x ≤ 0 then F1 else F2) := by
  obtain ⟨⟨p, l9, e, R, s, m, args, below, meth, c⟩, ⟨D, g, A, Q⟩, M0, ad0⟩ := κ
  obtain ⟨hx, hb, -⟩ := hc
  intro M ad H locs ls a M' hF hfin hW hl hst
  refine lv_if_le hx hb hd ht (fun q => ?_) (fun q => ?_)
  · rw [if_pos q] at hF
    exact kt M ad H locs ls a M' hF hfin hW hl (okS_tl hst)
  · rw [if_neg q] at hF
    exact kf M ad H locs ls a M' hF hfin hW hl (okS_tl hst)
theorem J_goto (hc : Jc κ own cc nL fr mc ms lc) {off : Int} {tgt : Nat} (hd : decode cc pc = .ok (.goto off, 3)) (ht : (pc : Int) + off = (tgt : Int)) (kk : Jg κ ω nL fin cs ss tgt l st F) : Jg κ ω nL fin cs ss pc l st F := by
  obtain ⟨⟨p, l9, e, R, s, m, args, below, meth, c⟩, ⟨D, g, A, Q⟩, M0, ad0⟩ := κ
  obtain ⟨hx, hb, -⟩ := hc
  intro M ad H locs ls a M' hF hfin hW hl hst
  refine lv_goto hx hb hd ht ?_
  exact kk M ad H locs ls a M' hF hfin hW hl hst
theorem J_dup (hc : Jc κ own cc nL fr mc ms lc) {q : TV} (hd : decode cc pc = .ok (.dup, 1)) (hq : q.2.category = 1) (kk : Jg κ ω nL fin cs ss (pc + 1) l (q :: q :: st) F) : Jg κ ω nL fin cs ss pc l (q :: st) F := by
  obtain ⟨⟨p, l9, e, R, s, m, args, below, meth, c⟩, ⟨D, g, A, Q⟩, M0, ad0⟩ := κ
  obtain ⟨hx, hb, -⟩ := hc
  intro M ad H locs ls a M' hF hfin hW hl hst
  refine lv_dup hx hb hd (by rw [tr_cat]; exact hq) ?_
  exact kk M ad H locs ls a M' hF hfin hW hl (okS_cons (okS_hd hst) hst)
theorem J_dup2 (hc : Jc κ own cc nL fr mc ms lc) {q r : TV} (hd : decode cc pc = .ok (.dup2, 1)) (hq : q.2.category = 1) (hr : r.2.category = 1) (kk : Jg κ ω nL fin cs ss (pc + 1) l (q :: r :: q :: r :: st) F) : Jg κ ω nL fin cs ss pc l (q :: r :: st) F := by
  obtain ⟨⟨p, l9, e, R, s, m, args, below, meth, c⟩, ⟨D, g, A, Q⟩, M0, ad0⟩ := κ
  obtain ⟨hx, hb, -⟩ := hc
  intro M ad H locs ls a M' hF hfin hW hl hst
  refine lv_dup2_11 hx hb hd (by rw [tr_cat]; exact hq) (by rw [tr_cat]; exact hr) ?_
  exact kk M ad H locs ls a M' hF hfin hW hl (okS_cons (okS_hd hst) (okS_cons (okS_hd (okS_tl hst)) hst))
theorem J_ifnull (hc : Jc κ own cc nL fr mc ms lc) {r : Option Nat} {k : Nat} {G1 : Nat → σ → Option (α × σ)} {off : Int} {tgt : Nat} (hd : decode cc pc = .ok (.ifnull off, 3)) (ht : (pc : Int) + off = (tgt : Int)) (kn : Jg κ ω nL fin cs ss tgt l st F) (ks : ∀ x, Jg κ ω nL fin cs ss (pc + 3) l st (G1 x)) : Jg κ ω nL fin cs ss pc l ((k, va_rf r) :: st) (match r with | none => F | some x => G1 x) := by
  obtain ⟨⟨p, l9, e, R, s, m, args, below, meth, c⟩, ⟨D, g, A, Q⟩, M0, ad0⟩ := κ
  obtain ⟨hx, hb, -⟩ := hc
  intro M ad H locs ls a M' hF hfin hW hl hst
  cases r with
  | none =>
    refine lv_ifnullN hx hb hd ht ?_
    exact kn M ad H locs ls a M' hF hfin hW hl (okS_tl hst)
  | some x =>
    refine lv_ifnull hx hb hd ?_
    exact ks x M ad H locs ls a M' hF hfin hW hl (okS_tl hst)
theorem J_ifnonnull (hc : Jc κ own cc nL fr mc ms lc) {r : Option Nat} {k : Nat} {G1 : Nat → σ → Option (α × σ)} {off : Int} {tgt : Nat} (hd : decode cc pc = .ok (.ifnonnull off, 3)) (ht : (pc : Int) + off = (tgt : Int)) (kn : Jg κ ω nL fin cs ss (pc + 3) l st F) (ks : ∀ x, Jg κ ω nL fin cs ss tgt l st (G1 x)) : Jg κ ω nL fin cs ss pc l ((k, va_rf r) :: st) (match r with | none => F | some x => G1 x) := by
  obtain ⟨⟨p, l9, e, R, s, m, args, below, meth, c⟩, ⟨D, g, A, Q⟩, M0, ad0⟩ := κ
  obtain ⟨hx, hb, -⟩ := hc
  intro M ad H locs ls a M' hF hfin hW hl hst
  cases r with
  | none =>
    refine lv_ifnonnullN hx hb hd ?_
    exact kn M ad H locs ls a M' hF hfin hW hl (okS_tl hst)
  | some x =>
    refine lv_ifnonnull hx hb hd ht ?_
    exact ks x M ad H locs ls a M' hF hfin hW hl (okS_tl hst)
theorem J_ldc2 (hc : Jc κ own cc nL fr mc ms lc) {index : Nat} {v : Int64} (hd : decode cc pc = .ok (.ldc2_w index, 3)) (hw : Jvm.Cond.constantLong own index v ∈ TW) (kk : Jg κ ω nL fin cs ss (pc + 3) l ((0, .long v) :: st) F) : Jg κ ω nL fin cs ss pc l st F := by
  obtain ⟨⟨p, l9, e, R, s, m, args, below, meth, c⟩, ⟨D, g, A, Q⟩, M0, ad0⟩ := κ
  obtain ⟨hx, hb, hml, hown, hts, -⟩ := hc
  intro M ad H locs ls a M' hF hfin hW hl hst
  refine lv_ldc2 hx hb hown (hts _ hw) hd ?_
  exact kk M ad H locs ls a M' hF hfin hW hl (okS_cons okW_l hst)
end JgRows
