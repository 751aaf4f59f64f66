/-! MEMORY BY HANDLES: a pool of objects and arrays, each with a number (its handle); what they hold are functions of handle and place -/
abbrev Mm : Type := (Nat × (Nat → Nat) × (Nat → Nat) × (Nat × (Nat → Int32))) × (Nat → Nat → Int32) × (Nat → Nat → Int64) × (Nat → Nat → Option Nat)
def Mn (M : Mm) : Nat := M.1.1
def Mk (M : Mm) : Nat → Nat := M.1.2.1
def Ml (M : Mm) : Nat → Nat := M.1.2.2.1
/-- the law's script: its length, its numbers -/
def Mx (M : Mm) : Nat × (Nat → Int32) := M.1.2.2.2
def Mi (M : Mm) : Nat → Nat → Int32 := M.2.1
def Mj (M : Mm) : Nat → Nat → Int64 := M.2.2.1
def Mr (M : Mm) : Nat → Nat → Option Nat := M.2.2.2
def up2 {α : Type} (f : Nat → Nat → α) (h k : Nat) (v : α) : Nat → Nat → α := fun a b => if a = h ∧ b = k then v else f a b
def sI (M : Mm) (h k : Nat) (v : Int32) : Mm := (M.1, up2 M.2.1 h k v, M.2.2)
def sJ (M : Mm) (h k : Nat) (v : Int64) : Mm := (M.1, M.2.1, up2 M.2.2.1 h k v, M.2.2.2)
def sR (M : Mm) (h k : Nat) (v : Option Nat) : Mm := (M.1, M.2.1, M.2.2.1, up2 M.2.2.2 h k v)
def nw (M : Mm) (kd ln : Nat) : Mm := ((M.1.1 + 1, va_up M.1.2.1 M.1.1 kd, va_up M.1.2.2.1 M.1.1 ln, M.1.2.2.2), (fun a b => if a = M.1.1 then 0 else M.2.1 a b), (fun a b => if a = M.1.1 then 0 else M.2.2.1 a b), (fun a b => if a = M.1.1 then none else M.2.2.2 a b))
/-- kinds of a class's slots: 100 an int (boolean, byte ..), 101 a long, else a reference to a thing of that kind. Kinds: 0 to 8 the classes of vwCl, 10 byte[], 11 int[], 12 long[], 13 boolean[], 14 Page[] -/
def kT : List (List Nat) := [
  [100, 100, 11, 11, 11, 11, 4],
  [100, 100, 14],
  [100, 100, 12, 11, 11],
  [100, 100, 6, 2, 4],
  [100, 100, 100, 101, 100, 100, 101, 101],
  [100, 100, 100, 100, 100, 100, 100, 12, 11, 11, 11, 11, 11, 11, 11, 0],
  [100, 100, 100, 100, 10],
  [2, 1, 14, 3, 0, 5, 10, 100],
  []]
/-- the law's classes: kind 40 + number in vwCl -/
def kT2 : List (List Nat) := [[10, 100, 100, 100], [10, 100, 100, 100], [100], [100, 100, 100, 44], [100, 17, 100], [], [], [], [], [], [], [], [], [100, 100, 100, 100], [100, 11, 11, 44, 44, 11, 11, 11, 11, 100, 100, 100, 100], [23, 100]]
def kF (c : Nat) : List Nat := if c < 40 then kT.getD c [] else kT2.getD (c - 40) []
def skd (c k : Nat) : Nat := (kF c).getD k 100
def nsl (c : Nat) : Nat := (kF c).length
/-- a kind's number in vwCl -/
def kno (c : Nat) : Nat := if c < 40 then c + 5 else c - 40
abbrev obK (c : Nat) : Prop := c < 9 ∨ 40 ≤ c
def rkd (M : Mm) (h k : Nat) : Nat := if Mk M h = 14 then 2 else if Mk M h = 15 then 16 else skd (Mk M h) k
def SB : Nat := 1000000000
/-- the empty Object[] of ArrayList, the mirror of Object[]'s class, the cached Integers -/
def EB : Nat := SB + 500
def MB : Nat := SB + 600
def IB : Nat := SB + 1000
def exM (M M' : Mm) : Prop := Mn M ≤ Mn M' ∧ (∀ h, h < Mn M → Mk M' h = Mk M h) ∧ Mx M' = Mx M
def exA (n : Nat) (ad ad' : Nat → Nat) : Prop := ∀ h, (h < n ∨ SB ≤ h) → ad' h = ad h
theorem exM.rf (M : Mm) : exM M M := ⟨Nat.le_refl _, fun _ _ => rfl, rfl⟩
theorem exM.tr {M M' M'' : Mm} (h : exM M M') (h' : exM M' M'') : exM M M'' := ⟨Nat.le_trans h.1 h'.1, fun q hq => (h'.2.1 q (Nat.lt_of_lt_of_le hq h.1)).trans (h.2.1 q hq), h'.2.2.trans h.2.2⟩
theorem exA.rf (n : Nat) (ad : Nat → Nat) : exA n ad ad := fun _ _ => rfl
theorem exA.tr {n n' : Nat} {ad ad' ad'' : Nat → Nat} (hn : n ≤ n') (h : exA n ad ad') (h' : exA n' ad' ad'') : exA n ad ad'' := fun q hq => (h' q (hq.elim (fun z => Or.inl (Nat.lt_of_lt_of_le z hn)) Or.inr)).trans (h q hq)
def tr (ad : Nat → Nat) : Value → Value
  | .ref h => .ref (ad h)
  | v => v
abbrev TV : Type := Nat × Value
def okH (M : Mm) (κ h : Nat) : Prop := ((κ < 16 ∨ 40 ≤ κ) ∧ h < Mn M ∧ Mk M h = κ) ∨ (κ = 16 ∧ ((h < Mn M ∧ (Mk M h = 13 ∨ Mk M h = 53)) ∨ (IB ≤ h ∧ h < IB + 256))) ∨ (κ = 17 ∧ ((h < Mn M ∧ Mk M h = 15) ∨ h = EB)) ∨ (κ = 20 ∧ SB ≤ h ∧ h < SB + 28) ∨ (κ = 21 ∧ SB + 100 ≤ h ∧ h < SB + 105) ∨ (22 ≤ κ ∧ κ ≤ 25 ∧ SB + 200 ≤ h) ∨ (κ = 28 ∧ IB ≤ h ∧ h < IB + 256)
def okV (M : Mm) (q : TV) : Prop := ∀ h, q.2 = .ref h → okH M q.1 h
theorem okH.rng {M : Mm} {κ h : Nat} (o : okH M κ h) : h < Mn M ∨ SB ≤ h := by
  have e1 : EB = SB + 500 := rfl
  have e2 : IB = SB + 1000 := rfl
  rcases o with ⟨_, b, _⟩ | ⟨_, ⟨b, _⟩ | ⟨b, _⟩⟩ | ⟨_, ⟨b, _⟩ | b⟩ | ⟨_, b, _⟩ | ⟨_, b, _⟩ | ⟨_, _, b⟩ | ⟨_, b, _⟩ <;> first | exact Or.inl b | exact Or.inr (by omega)
theorem okH.ex {M M' : Mm} (h : exM M M') {κ q : Nat} (o : okH M κ q) : okH M' κ q := by
  rcases o with ⟨a, b, c⟩ | ⟨a, ⟨b, c⟩ | b⟩ | ⟨a, ⟨b, c⟩ | b⟩ | o
  · exact Or.inl ⟨a, Nat.lt_of_lt_of_le b h.1, (h.2.1 q b).trans c⟩
  · exact Or.inr (Or.inl ⟨a, Or.inl ⟨Nat.lt_of_lt_of_le b h.1, by rw [h.2.1 q b]; exact c⟩⟩)
  · exact Or.inr (Or.inl ⟨a, Or.inr b⟩)
  · exact Or.inr (Or.inr (Or.inl ⟨a, Or.inl ⟨Nat.lt_of_lt_of_le b h.1, by rw [h.2.1 q b]; exact c⟩⟩))
  · exact Or.inr (Or.inr (Or.inl ⟨a, Or.inr b⟩))
  · exact Or.inr (Or.inr (Or.inr o))
theorem okV.ex {M M' : Mm} (h : exM M M') {q : TV} (o : okV M q) : okV M' q := fun x hx => (o x hx).ex h
theorem okH.at {M : Mm} {κ h : Nat} (hk : κ < 16 ∨ 40 ≤ κ) (o : okH M κ h) : h < Mn M ∧ Mk M h = κ := by
  rcases o with ⟨_, b, c⟩ | ⟨a, _⟩ | ⟨a, _⟩ | ⟨a, _⟩ | ⟨a, _⟩ | ⟨a, a2, _⟩ | ⟨a, _⟩
  · exact ⟨b, c⟩
  all_goals omega
def okM (M : Mm) : Prop := (∀ h k r, h < Mn M → Mr M h k = some r → okH M (rkd M h k) r) ∧ Ml M EB = 0
theorem tr_ex {M : Mm} {ad ad' : Nat → Nat} (hn : Mn M ≤ SB) (h : exA (Mn M) ad ad') {q : TV} (o : okV M q) : tr ad' q.2 = tr ad q.2 := by
  obtain ⟨κ, v⟩ := q
  cases v with
  | ref a =>
    show Value.ref _ = Value.ref _
    rw [h a (o a rfl).rng]
  | _ => rfl
theorem tr_cat (ad : Nat → Nat) (v : Value) : (tr ad v).category = v.category := by cases v <;> rfl
/-- a slot's value, an object's fields, a thing of the pool -/
def sv (ad : Nat → Nat) (M : Mm) (h k : Nat) : Value := if skd (Mk M h) k = 100 then .int (Mi M h k) else if skd (Mk M h) k = 101 then .long (Mj M h k) else va_rf ((Mr M h k).map ad)
def fl (ad : Nat → Nat) (M : Mm) (h : Nat) : List Value := (List.range (nsl (Mk M h))).map (fun k => sv ad M h k)
def ce (g : Nat → ClassId) (ad : Nat → Nat) (M : Mm) (h : Nat) : va_E :=
  if Mk M h < 9 ∨ 40 ≤ Mk M h then .inr (kno (Mk M h), fl ad M h)
  else if Mk M h = 12 then .inl (g 12, Ml M h, .inr (.inl (Mj M h)))
  else if Mk M h = 14 ∨ Mk M h = 15 then .inl (g (Mk M h), Ml M h, .inr (.inr (.inr (.inr (fun j => (Mr M h j).map ad)))))
  else .inl (g (Mk M h), Ml M h, .inl (Mi M h))
def wl (g : Nat → ClassId) (ad : Nat → Nat) (M : Mm) : va_W := (List.range (Mn M)).map (fun h => (ad h, ce g ad M h))
theorem wl_get (g : Nat → ClassId) (ad : Nat → Nat) {M : Mm} {h : Nat} (hh : h < Mn M) : (wl g ad M)[h]? = some (ad h, ce g ad M h) := by
  simp [wl, List.getElem?_map, List.getElem?_range hh]
theorem wl_set (g : Nat → ClassId) (ad : Nat → Nat) {M M' : Mm} {h : Nat} {e : va_E} (hn : Mn M' = Mn M) (he : ce g ad M' h = e) (ho : ∀ i, i ≠ h → ce g ad M' i = ce g ad M i) : (wl g ad M).set h (ad h, e) = wl g ad M' := by
  apply List.ext_getElem?
  intro i
  simp only [wl, List.getElem?_set, List.getElem?_map, List.length_map, List.length_range, hn]
  by_cases hi : h = i
  · subst hi
    by_cases hl : h < Mn M
    · simp [hl, List.getElem?_range hl, he]
    · simp [hl]
  · simp only [if_neg hi]
    by_cases hl : i < Mn M
    · simp [List.getElem?_range hl, ho i (Ne.symm hi)]
    · simp [hl]
theorem wl_push (g : Nat → ClassId) (ad ad' : Nat → Nat) {M M' : Mm} {q : Nat} {e : va_E} (hn : Mn M' = Mn M + 1) (hq : ad' (Mn M) = q) (he : ce g ad' M' (Mn M) = e) (ho : ∀ i, i < Mn M → ad' i = ad i ∧ ce g ad' M' i = ce g ad M i) : wl g ad M ++ [(q, e)] = wl g ad' M' := by
  simp only [wl, hn, List.range_succ, List.map_append, List.map_cons, List.map_nil, hq, he]
  congr 1
  apply List.map_congr_left
  intro i hi
  rw [List.mem_range] at hi
  rw [(ho i hi).1, (ho i hi).2]
theorem fl_get (ad : Nat → Nat) {M : Mm} {h k : Nat} (hk : k < nsl (Mk M h)) : (fl ad M h)[k]? = some (sv ad M h k) := by
  simp [fl, List.getElem?_map, List.getElem?_range hk]
theorem fl_set (ad : Nat → Nat) {M M' : Mm} {h k : Nat} {v : Value} (hk : Mk M' h = Mk M h) (hv : sv ad M' h k = v) (ho : ∀ j, j ≠ k → sv ad M' h j = sv ad M h j) : (fl ad M h).set k v = fl ad M' h := by
  apply List.ext_getElem?
  intro i
  simp only [fl, List.getElem?_set, List.getElem?_map, List.length_map, List.length_range, hk]
  by_cases hi : k = i
  · subst hi
    by_cases hl : k < nsl (Mk M h)
    · simp [hl, List.getElem?_range hl, hv]
    · simp [hl]
  · simp only [if_neg hi]
    by_cases hl : i < nsl (Mk M h)
    · simp [List.getElem?_range hl, ho i (Ne.symm hi)]
    · simp [hl]
theorem fl_len (ad : Nat → Nat) (M : Mm) (h : Nat) : (fl ad M h).length = nsl (Mk M h) := by simp [fl]
theorem ce_obj (g : Nat → ClassId) (ad : Nat → Nat) {M : Mm} {h c : Nat} (hk : Mk M h = c) (hc : obK c) : ce g ad M h = .inr (kno c, fl ad M h) := by
  subst hk; unfold ce; rw [if_pos hc]
theorem ce_long (g : Nat → ClassId) (ad : Nat → Nat) {M : Mm} {h : Nat} (hk : Mk M h = 12) : ce g ad M h = .inl (g 12, Ml M h, .inr (.inl (Mj M h))) := by simp [ce, hk]
theorem ce_page (g : Nat → ClassId) (ad : Nat → Nat) {M : Mm} {h : Nat} (hk : Mk M h = 14) : ce g ad M h = .inl (g 14, Ml M h, .inr (.inr (.inr (.inr (fun j => (Mr M h j).map ad))))) := by simp [ce, hk]
theorem ce_objs (g : Nat → ClassId) (ad : Nat → Nat) {M : Mm} {h : Nat} (hk : Mk M h = 15) : ce g ad M h = .inl (g 15, Ml M h, .inr (.inr (.inr (.inr (fun j => (Mr M h j).map ad))))) := by simp [ce, hk]
theorem ce_int (g : Nat → ClassId) (ad : Nat → Nat) {M : Mm} {h c : Nat} (hk : Mk M h = c) (hc : c = 10 ∨ c = 11 ∨ c = 13) : ce g ad M h = .inl (g c, Ml M h, .inl (Mi M h)) := by
  subst hk
  rcases hc with h | h | h <;> simp [ce, h]
theorem up2_ne {α : Type} {f : Nat → Nat → α} {h k a : Nat} {v : α} (ha : a ≠ h) : up2 f h k v a = f a := by funext b; simp [up2, ha]
theorem up2_ne2 {α : Type} {f : Nat → Nat → α} {h k b : Nat} {v : α} (hb : b ≠ k) (a : Nat) : up2 f h k v a b = f a b := by simp [up2, hb]
theorem up2_eq {α : Type} {f : Nat → Nat → α} {h k : Nat} {v : α} : up2 f h k v h k = v := by simp [up2]
theorem up2_row {α : Type} {f : Nat → Nat → α} {h k : Nat} {v : α} : up2 f h k v h = fun b => if b = k then v else f h b := by funext b; simp [up2]
theorem ce_ne_sI (g : Nat → ClassId) (ad : Nat → Nat) (M : Mm) {h k i : Nat} (v : Int32) (hi : i ≠ h) : ce g ad (sI M h k v) i = ce g ad M i := by
  have h1 : Mi (sI M h k v) i = Mi M i := up2_ne hi
  have h2 : fl ad (sI M h k v) i = fl ad M i := by
    unfold fl
    have hk : Mk (sI M h k v) i = Mk M i := rfl
    rw [hk]
    apply List.map_congr_left
    intro j _
    unfold sv
    rw [h1]; rfl
  unfold ce
  rw [h1, h2]; rfl
theorem ce_ne_sJ (g : Nat → ClassId) (ad : Nat → Nat) (M : Mm) {h k i : Nat} (v : Int64) (hi : i ≠ h) : ce g ad (sJ M h k v) i = ce g ad M i := by
  have h1 : Mj (sJ M h k v) i = Mj M i := up2_ne hi
  have h2 : fl ad (sJ M h k v) i = fl ad M i := by
    unfold fl
    have hk : Mk (sJ M h k v) i = Mk M i := rfl
    rw [hk]
    apply List.map_congr_left
    intro j _
    unfold sv
    rw [h1]; rfl
  unfold ce
  rw [h1, h2]; rfl
theorem ce_ne_sR (g : Nat → ClassId) (ad : Nat → Nat) (M : Mm) {h k i : Nat} (v : Option Nat) (hi : i ≠ h) : ce g ad (sR M h k v) i = ce g ad M i := by
  have h1 : Mr (sR M h k v) i = Mr M i := up2_ne hi
  have h2 : fl ad (sR M h k v) i = fl ad M i := by
    unfold fl
    have hk : Mk (sR M h k v) i = Mk M i := rfl
    rw [hk]
    apply List.map_congr_left
    intro j _
    unfold sv
    rw [h1]; rfl
  unfold ce
  rw [h1, h2]; rfl
theorem okM_sI {M : Mm} (h : okM M) (a b : Nat) (v : Int32) : okM (sI M a b v) := h
theorem okM_sJ {M : Mm} (h : okM M) (a b : Nat) (v : Int64) : okM (sJ M a b v) := h
theorem okM_sR {M : Mm} (h : okM M) {a b : Nat} {v : Option Nat} (hv : ∀ r, v = some r → okH M (rkd M a b) r) : okM (sR M a b v) := by
  refine ⟨?_, h.2⟩
  intro x k r hx hr
  have e : Mr (sR M a b v) x k = if x = a ∧ k = b then v else Mr M x k := rfl
  rw [e] at hr
  by_cases q : x = a ∧ k = b
  · rw [if_pos q] at hr
    obtain ⟨rfl, rfl⟩ := q
    exact hv r hr
  · rw [if_neg q] at hr
    exact h.1 x k r hx hr
