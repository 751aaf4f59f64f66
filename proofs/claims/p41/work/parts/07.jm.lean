/-! THE POOL AS A WORLD, and the rows that read and write it -/
def wM (κ : Cx) : Wp Mm := match κ with
  | ((_, _, _, _, s, _, _, _, _, _), (D, g, A, _), (M0, ad0)) => (fun M ad H locs => va_P D vwCl (wl g ad M) H ∧ va_D A (wl g ad M) ∧ va_S A s.heap H locs ∧ okM M ∧ Mn M ≤ SB ∧ Cst ad A s (Mx M0) ∧ exM M0 M ∧ exA (Mn M0) ad0 ad, okH)
def vpB (i : Int32) (n : Nat) : Bool := !(decide (i < 0) || decide (n ≤ i.toNatClampNeg))
theorem vpB_in {i : Int32} {n : Nat} (h : vpB i n = true) : vp_in i n := by
  unfold vpB at h
  unfold vp_in
  simpa using h
def gI (h k : Nat) : Mm → Option (Int32 × Mm) := fun M => some (Mi M h k, M)
def gJ (h k : Nat) : Mm → Option (Int64 × Mm) := fun M => some (Mj M h k, M)
def gA (h k : Nat) : Mm → Option (Nat × Mm) := fun M => match Mr M h k with
  | some a => some (a, M)
  | none => none
def gQ (h k : Nat) : Mm → Option (Option Nat × Mm) := fun M => some (Mr M h k, M)
def pI (h k : Nat) (v : Int32) : Mm → Option (Unit × Mm) := fun M => some ((), sI M h k v)
def pZ (h k : Nat) (v : Int32) : Mm → Option (Unit × Mm) := fun M => if (v == 0 || v == 1) = true then some ((), sI M h k v) else none
def pJ (h k : Nat) (v : Int64) : Mm → Option (Unit × Mm) := fun M => some ((), sJ M h k v)
def pA (h k a : Nat) : Mm → Option (Unit × Mm) := fun M => some ((), sR M h k (some a))
def lI (h : Nat) (i : Int32) : Mm → Option (Int32 × Mm) := fun M => if vpB i (Ml M h) = true then some (Mi M h i.toNatClampNeg, M) else none
def lJ (h : Nat) (i : Int32) : Mm → Option (Int64 × Mm) := fun M => if vpB i (Ml M h) = true then some (Mj M h i.toNatClampNeg, M) else none
def lQ (h : Nat) (i : Int32) : Mm → Option (Option Nat × Mm) := fun M => if vpB i (Ml M h) = true then some (Mr M h i.toNatClampNeg, M) else none
def aI (h : Nat) (i v : Int32) : Mm → Option (Unit × Mm) := fun M => if vpB i (Ml M h) = true then some ((), sI M h i.toNatClampNeg v) else none
def aB (h : Nat) (i v : Int32) : Mm → Option (Unit × Mm) := fun M => if vpB i (Ml M h) = true then some ((), sI M h i.toNatClampNeg (vp_nar .byte v)) else none
def aZ (h : Nat) (i v : Int32) : Mm → Option (Unit × Mm) := fun M => if vpB i (Ml M h) = true then some ((), sI M h i.toNatClampNeg (vp_nar .boolean v)) else none
def aJ (h : Nat) (i : Int32) (v : Int64) : Mm → Option (Unit × Mm) := fun M => if vpB i (Ml M h) = true then some ((), sJ M h i.toNatClampNeg v) else none
def aA (h : Nat) (i : Int32) (a : Nat) : Mm → Option (Unit × Mm) := fun M => if vpB i (Ml M h) = true then some ((), sR M h i.toNatClampNeg (some a)) else none
def gN (h : Nat) : Mm → Option (Int32 × Mm) := fun M => some (Int32.ofNat (Ml M h), M)
def nwO (c : Nat) : Mm → Option (Nat × Mm) := fun M => if decide (Mn M < SB) = true then some (Mn M, nw M c 0) else none
def nwA (kd n : Nat) : Mm → Option (Nat × Mm) := fun M => if decide (Mn M < SB) = true then some (Mn M, nw M kd n) else none
def nn (r : Option Nat) : Mm → Option (Nat × Mm) := fun M => match r with
  | some a => some (a, M)
  | none => none
/-- a table of the class's: place j of sS -/
def tS (j : Nat) (i : Int32) : Mm → Option (Int32 × Mm) := fun M => if vpB i 6 = true then some ((sS.getD j ("", [])).2.getD i.toNatClampNeg 0, M) else none
def wI (v : Int32) : Option Value := some (.int v)
def wJ (v : Int64) : Option Value := some (.long v)
def wV (_ : Unit) : Option Value := none
def wF (v : UInt32) : Option Value := some (.float v)
def wD (v : UInt64) : Option Value := some (.double v)
theorem trS_ex {M : Mm} {κ : Cx} {ad ad' : Nat → Nat} (hn : Mn M ≤ SB) (ha : exA (Mn M) ad ad') {st : List TV} (o : okS (wM κ) M st) : trS ad' st = trS ad st := by
  apply List.map_congr_left
  intro q hq
  have h : okV M q := by
    obtain ⟨⟨p, l9, e, R, s, m, args, below, meth, c⟩, ⟨D, g, A, Q⟩, M0, ad0⟩ := κ
    exact o q hq
  exact tr_ex hn ha h
theorem okS_ex {M M' : Mm} {κ : Cx} (h : exM M M') {st : List TV} (o : okS (wM κ) M st) : okS (wM κ) M' st := by
  obtain ⟨⟨p, l9, e, R, s, m, args, below, meth, c⟩, ⟨D, g, A, Q⟩, M0, ad0⟩ := κ
  exact fun q hq x hx => (o q hq x hx).ex h
theorem lvk_ex {M M' : Mm} {κ : Cx} {ad ad' : Nat → Nat} (hn : Mn M ≤ SB) (h : exM M M') (ha : exA (Mn M) ad ad') {ls : Array Slot} {nL : Nat} {l : List (Option TV)} (o : lvk (wM κ) ad M ls nL l) : lvk (wM κ) ad' M' ls nL l := by
  obtain ⟨⟨p, l9, e, R, s, m, args, below, meth, c⟩, ⟨D, g, A, Q⟩, M0, ad0⟩ := κ
  refine ⟨o.1, fun i v hi => ?_⟩
  obtain ⟨h1, h2⟩ := o.2 i v hi
  exact ⟨by rw [tr_ex hn ha h2]; exact h1, fun x hx => (h2 x hx).ex h⟩
/-- a heap of the same addresses, another state of the pool -/
theorem lvk_st {M M' : Mm} {κ : Cx} {ad : Nat → Nat} (h : exM M M') {ls : Array Slot} {nL : Nat} {l : List (Option TV)} (o : lvk (wM κ) ad M ls nL l) : lvk (wM κ) ad M' ls nL l := by
  obtain ⟨⟨p, l9, e, R, s, m, args, below, meth, c⟩, ⟨D, g, A, Q⟩, M0, ad0⟩ := κ
  exact ⟨o.1, fun i v hi => ⟨(o.2 i v hi).1, fun x hx => ((o.2 i v hi).2 x hx).ex h⟩⟩
theorem ex_sI (M : Mm) (h k : Nat) (v : Int32) : exM M (sI M h k v) := ⟨Nat.le_refl _, fun _ _ => rfl, rfl⟩
theorem ex_sJ (M : Mm) (h k : Nat) (v : Int64) : exM M (sJ M h k v) := ⟨Nat.le_refl _, fun _ _ => rfl, rfl⟩
theorem ex_sR (M : Mm) (h k : Nat) (v : Option Nat) : exM M (sR M h k v) := ⟨Nat.le_refl _, fun _ _ => rfl, rfl⟩
theorem ex_nw (M : Mm) (kd ln : Nat) : exM M (nw M kd ln) := ⟨Nat.le_succ _, fun h hh => by
  show va_up M.1.2.1 M.1.1 kd h = M.1.2.1 h
  exact va_up_ne _ _ (Nat.ne_of_lt hh), rfl⟩
theorem okM_nw {M : Mm} (hn : Mn M < SB) (h : okM M) (kd ln : Nat) : okM (nw M kd ln) := by
  have e0 : EB = SB + 500 := rfl
  refine ⟨?_, ?_⟩
  · intro x k r hx hr
    have e : Mr (nw M kd ln) x k = if x = Mn M then none else Mr M x k := rfl
    rw [e] at hr
    by_cases q : x = Mn M
    · rw [if_pos q] at hr; cases hr
    · rw [if_neg q] at hr
      have hx : x < Mn M := by
        have : x < Mn M + 1 := hx
        omega
      have h1 := (h.1 x k r hx hr).ex (ex_nw M kd ln)
      have e2 : Mk (nw M kd ln) x = Mk M x := (ex_nw M kd ln).2.1 x hx
      have e3 : rkd (nw M kd ln) x k = rkd M x k := by unfold rkd; rw [e2]
      rw [e3]
      exact h1
  · show va_up M.1.2.2.1 M.1.1 ln EB = 0
    rw [va_up_ne _ _ (show EB ≠ M.1.1 from fun z => by have : Mn M = EB := z.symm; omega)]
    exact h.2
/-- old things look as before when the addresses of what they name are as before -/
theorem ce_ex {g : Nat → ClassId} {ad ad' : Nat → Nat} {M M' : Mm} {i : Nat} (hk : Mk M' i = Mk M i) (hl : Ml M' i = Ml M i) (hi : Mi M' i = Mi M i) (hj : Mj M' i = Mj M i) (hr : Mr M' i = Mr M i) (ha : ∀ k r, Mr M i k = some r → ad' r = ad r) : ce g ad' M' i = ce g ad M i := by
  have e0 : ∀ k, (Mr M i k).map ad' = (Mr M i k).map ad := by
    intro k
    cases hq : Mr M i k with
    | none => rfl
    | some r => exact congrArg some (ha k r hq)
  have e1 : fl ad' M' i = fl ad M i := by
    unfold fl
    rw [hk]
    apply List.map_congr_left
    intro k _
    unfold sv
    rw [hk, hi, hj, hr, e0]
  unfold ce
  rw [hk, e1, hl, hi, hj, hr]
  simp only [e0]
section JmRows
variable {α : Type} {κ : Cx} {own : String} {cc : ByteArray} {nL fr mc ms lc : Nat} {fin : α → Mm → Prop} {cs ss pc : Nat} {l l' : List (Option TV)} {st : List TV} {F F1 F2 : Mm → Option (α × Mm)} {ci N : Nat} {C : String} {T : u_T} {ty : Nat → FieldType}

theorem sm_of {args : Array Value} {s : State} {a rf n d : String} (hts : ∀ w ∈ TW, w.before args s = true) (h : a = rf ∨ Cond.sameField rf a n d ∈ TW) (x : ClassId × Class × Nat × Field) (hx : s.fieldFound? a n d = some x) : s.fieldFound? rf n d = some x := by
  rcases h with rfl | h
  · exact hx
  · exact u_same (hts _ h) x hx
theorem okH_of {M : Mm} {r kd : Nat} (h1 : r < Mn M) (h2 : Mk M r = kd) (hk : kd < 16 ∨ 40 ≤ kd) : okH M kd r := Or.inl ⟨hk, h1, h2⟩
theorem J_getI (hc : Jc κ own cc nL fr mc ms lc) (hcl : ClOk ci C T N ty) {k index h : Nat} (hk : k < N) (hs : skd ci k = 100) {rf : String} (hlk9 : Cond.fieldLink own index rf (T k).2.1 (T k).2.2.1 ∈ TW) (hT : (T k).1 = rf ∨ Cond.sameField rf (T k).1 (T k).2.1 (T k).2.2.1 ∈ TW) (hd : decode cc pc = .ok (.getfield index, 3)) {G1 : Int32 → Mm → Option (α × Mm)} (kk : ∀ v, Jg κ (wM κ) nL fin cs ss (pc + 3) l ((0, .int v) :: st) (G1 v)) : Jg κ (wM κ) nL fin cs ss pc l ((ci, .ref h) :: st) (bnd (gI h k) G1) := by
  obtain ⟨⟨p, l9, e, R, s, m, args, below, meth, c⟩, ⟨D, g, A, Q⟩, M0, ad0⟩ := κ
  obtain ⟨hx, hb, hml, hown, hts, hK, hA, hst9, hlk, hR⟩ := hc
  intro M ad H locs ls a M' hF hfin hW hl hst
  obtain ⟨hP, hD, hS, hM, hn, hC, hex, hea⟩ := id hW
  obtain ⟨hc1, hin, -, -, hN, h9⟩ := hcl
  obtain ⟨hh, hkd9⟩ : h < Mn M ∧ Mk M h = ci := (okS_hd hst h rfl).at (by omega)
  have he := (wl_get g ad hh).trans (congrArg (fun x => some (ad h, x)) (ce_obj g ad hkd9 h9))
  have hf : (fl ad M h)[k]? = some (sv ad M h k) := fl_get ad (by rw [hkd9, hN]; exact hk)
  have hv : sv ad M h k = .int (Mi M h k) := by simp [sv, hkd9, hs]
  rw [hv] at hf
  refine va_get hx hb hts hin hown hK hP h he hc1 k hk (hts _ hlk9) (sm_of hts hT) hf hd ?_
  exact kk _ M ad H locs ls a M' hF hfin hW hl (okS_cons okW_i (okS_tl hst))
theorem J_getJ (hc : Jc κ own cc nL fr mc ms lc) (hcl : ClOk ci C T N ty) {k index h : Nat} (hk : k < N) (hs : skd ci k = 101) {rf : String} (hlk9 : Cond.fieldLink own index rf (T k).2.1 (T k).2.2.1 ∈ TW) (hT : (T k).1 = rf ∨ Cond.sameField rf (T k).1 (T k).2.1 (T k).2.2.1 ∈ TW) (hd : decode cc pc = .ok (.getfield index, 3)) {G1 : Int64 → Mm → Option (α × Mm)} (kk : ∀ v, Jg κ (wM κ) nL fin cs ss (pc + 3) l ((0, .long v) :: st) (G1 v)) : Jg κ (wM κ) nL fin cs ss pc l ((ci, .ref h) :: st) (bnd (gJ h k) G1) := by
  obtain ⟨⟨p, l9, e, R, s, m, args, below, meth, c⟩, ⟨D, g, A, Q⟩, M0, ad0⟩ := κ
  obtain ⟨hx, hb, hml, hown, hts, hK, hA, hst9, hlk, hR⟩ := hc
  intro M ad H locs ls a M' hF hfin hW hl hst
  obtain ⟨hP, hD, hS, hM, hn, hC, hex, hea⟩ := id hW
  obtain ⟨hc1, hin, -, -, hN, h9⟩ := hcl
  obtain ⟨hh, hkd9⟩ : h < Mn M ∧ Mk M h = ci := (okS_hd hst h rfl).at (by omega)
  have he := (wl_get g ad hh).trans (congrArg (fun x => some (ad h, x)) (ce_obj g ad hkd9 h9))
  have hf : (fl ad M h)[k]? = some (sv ad M h k) := fl_get ad (by rw [hkd9, hN]; exact hk)
  have hv : sv ad M h k = .long (Mj M h k) := by simp [sv, hkd9, hs]
  rw [hv] at hf
  refine va_get hx hb hts hin hown hK hP h he hc1 k hk (hts _ hlk9) (sm_of hts hT) hf hd ?_
  exact kk _ M ad H locs ls a M' hF hfin hW hl (okS_cons okW_l (okS_tl hst))
theorem J_getA (hc : Jc κ own cc nL fr mc ms lc) (hcl : ClOk ci C T N ty) {k index h : Nat} (hk : k < N) {kd : Nat} (hs : skd ci k = kd) (hkd : kd < 100) {rf : String} (hlk9 : Cond.fieldLink own index rf (T k).2.1 (T k).2.2.1 ∈ TW) (hT : (T k).1 = rf ∨ Cond.sameField rf (T k).1 (T k).2.1 (T k).2.2.1 ∈ TW) (hd : decode cc pc = .ok (.getfield index, 3)) {G1 : Nat → Mm → Option (α × Mm)} (kk : ∀ v, Jg κ (wM κ) nL fin cs ss (pc + 3) l ((kd, .ref v) :: st) (G1 v)) : Jg κ (wM κ) nL fin cs ss pc l ((ci, .ref h) :: st) (bnd (gA h k) G1) := by
  obtain ⟨⟨p, l9, e, R, s, m, args, below, meth, c⟩, ⟨D, g, A, Q⟩, M0, ad0⟩ := κ
  obtain ⟨hx, hb, hml, hown, hts, hK, hA, hst9, hlk, hR⟩ := hc
  intro M ad H locs ls a M' hF hfin hW hl hst
  obtain ⟨hP, hD, hS, hM, hn, hC, hex, hea⟩ := id hW
  obtain ⟨hc1, hin, -, -, hN, h9⟩ := hcl
  obtain ⟨hh, hkd9⟩ : h < Mn M ∧ Mk M h = ci := (okS_hd hst h rfl).at (by omega)
  have he := (wl_get g ad hh).trans (congrArg (fun x => some (ad h, x)) (ce_obj g ad hkd9 h9))
  have hf : (fl ad M h)[k]? = some (sv ad M h k) := fl_get ad (by rw [hkd9, hN]; exact hk)
  have hv : sv ad M h k = va_rf ((Mr M h k).map ad) := by
    have q1 : ¬ kd = 100 := by omega
    have q2 : ¬ kd = 101 := by omega
    simp [sv, hkd9, hs, q1, q2]
  rw [hv] at hf
  refine va_get hx hb hts hin hown hK hP h he hc1 k hk (hts _ hlk9) (sm_of hts hT) hf hd ?_
  have hrk : rkd M h k = kd := by
    have q : ¬ ci = 14 := by omega
    have q5 : ¬ ci = 15 := by omega
    simp [rkd, hkd9, hs, q, q5]
  cases hr : Mr M h k with
  | none =>
    have : bnd (gA h k) G1 M = none := by simp [bnd, gA, hr]
    rw [this] at hF
    cases hF
  | some r =>
    have : bnd (gA h k) G1 M = G1 r M := by simp [bnd, gA, hr]
    rw [this] at hF
    have r1 := hM.1 h k r hh hr
    rw [hrk] at r1
    refine kk r M ad H locs ls a M' hF hfin hW hl (okS_cons (fun z hz => ?_) (okS_tl hst))
    cases hz
    exact r1
theorem J_putI (hc : Jc κ own cc nL fr mc ms lc) (hcl : ClOk ci C T N ty) {k index h : Nat} (hk : k < N) (hs : skd ci k = 100) (hty : ty k = .int) {rf : String} (hlk9 : Cond.fieldLink own index rf (T k).2.1 (T k).2.2.1 ∈ TW) (hT : (T k).1 = rf ∨ Cond.sameField rf (T k).1 (T k).2.1 (T k).2.2.1 ∈ TW) (hfn : (T k).2.2.2 = false) (hd : decode cc pc = .ok (.putfield index, 3)) {v : Int32} (kk : Jg κ (wM κ) nL fin cs ss (pc + 3) l st F) : Jg κ (wM κ) nL fin cs ss pc l ((0, .int v) :: (ci, .ref h) :: st) (bnd (pI h k v) (fun _ => F)) := by
  obtain ⟨⟨p, l9, e, R, s, m, args, below, meth, c⟩, ⟨D, g, A, Q⟩, M0, ad0⟩ := κ
  obtain ⟨hx, hb, hml, hown, hts, hK, hA, hst9, hlk, hR⟩ := hc
  intro M ad H locs ls a M' hF hfin hW hl hst
  obtain ⟨hP, hD, hS, hM, hn, hC, hex, hea⟩ := id hW
  obtain ⟨hc1, hin, htyo, hnm, hN, h9⟩ := hcl
  obtain ⟨hh, hkd9⟩ : h < Mn M ∧ Mk M h = ci := (okS_hd (okS_tl hst) h rfl).at (by omega)
  have he := (wl_get g ad hh).trans (congrArg (fun x => some (ad h, x)) (ce_obj g ad hkd9 h9))
  have hset : (wl g ad M).set h (ad h, .inr (kno ci, (fl ad M h).set k (.int v))) = wl g ad (sI M h k v) := by
    refine wl_set g ad (M' := sI M h k v) rfl ?_ (fun i hi => ce_ne_sI g ad M v hi)
    rw [ce_obj g ad (M := sI M h k v) (h := h) (c := ci) hkd9 h9]
    refine congrArg (fun x => Sum.inr (kno ci, x)) (fl_set ad (M := M) (M' := sI M h k v) (h := h) (k := k) rfl ?_ (fun j hj => ?_)).symm
    · have e1 : Mk (sI M h k v) h = ci := hkd9
      have e3 : Mi (sI M h k v) h k = v := up2_eq
      simp [sv, e1, hs, e3]
    · have e1 : Mk (sI M h k v) h = Mk M h := rfl
      have e2 : Mi (sI M h k v) h j = Mi M h j := up2_ne2 hj h
      simp only [sv, e1, e2]
      rfl
  refine va_put hx hb hts hin ty htyo hnm hown hK hP hD hS h he hc1 k hk (hts _ hlk9) (sm_of hts hT) hfn (ty := .int) (by rw [htyo k hk, hty]) rfl rfl (by rw [fl_len, hkd9, hN]; exact hk) hd (fun H1 locs1 hP1 hD1 hS1 => ?_)
  replace hP1 := (congrArg (fun z => va_P D vwCl z H1) hset).mp hP1
  replace hD1 := (congrArg (fun z => va_D A z) hset).mp hD1
  exact kk (sI M h k v) ad H1 locs1 ls a M' hF hfin ⟨hP1, hD1, hS1, okM_sI hM h k v, hn, hC, hex.tr (ex_sI M h k v), hea⟩ (lvk_st (κ := ((p, l9, e, R, s, m, args, below, meth, c), (D, g, A, Q), M0, ad0)) (ex_sI M h k v) hl) (okS_ex (κ := ((p, l9, e, R, s, m, args, below, meth, c), (D, g, A, Q), M0, ad0)) (ex_sI M h k v) (okS_tl (okS_tl hst)))
theorem J_putZ (hc : Jc κ own cc nL fr mc ms lc) (hcl : ClOk ci C T N ty) {k index h : Nat} (hk : k < N) (hs : skd ci k = 100) (hty : ty k = .boolean) {rf : String} (hlk9 : Cond.fieldLink own index rf (T k).2.1 (T k).2.2.1 ∈ TW) (hT : (T k).1 = rf ∨ Cond.sameField rf (T k).1 (T k).2.1 (T k).2.2.1 ∈ TW) (hfn : (T k).2.2.2 = false) (hd : decode cc pc = .ok (.putfield index, 3)) {v : Int32} (kk : Jg κ (wM κ) nL fin cs ss (pc + 3) l st F) : Jg κ (wM κ) nL fin cs ss pc l ((0, .int v) :: (ci, .ref h) :: st) (bnd (pZ h k v) (fun _ => F)) := by
  obtain ⟨⟨p, l9, e, R, s, m, args, below, meth, c⟩, ⟨D, g, A, Q⟩, M0, ad0⟩ := κ
  obtain ⟨hx, hb, hml, hown, hts, hK, hA, hst9, hlk, hR⟩ := hc
  intro M ad H locs ls a M' hF hfin hW hl hst
  obtain ⟨hP, hD, hS, hM, hn, hC, hex, hea⟩ := id hW
  obtain ⟨hc1, hin, htyo, hnm, hN, h9⟩ := hcl
  obtain ⟨hh, hkd9⟩ : h < Mn M ∧ Mk M h = ci := (okS_hd (okS_tl hst) h rfl).at (by omega)
  have he := (wl_get g ad hh).trans (congrArg (fun x => some (ad h, x)) (ce_obj g ad hkd9 h9))
  obtain ⟨u9, M1, h1, hF⟩ := bnd_some hF
  have hv01 : (v == 0 || v == 1) = true := by
    unfold pZ at h1
    split at h1
    · assumption
    · cases h1
  have hM1 : M1 = sI M h k v := by
    unfold pZ at h1
    rw [if_pos hv01] at h1
    cases h1
    rfl
  subst hM1
  have hv2 : v = 0 ∨ v = 1 := by simpa using hv01
  have hset : (wl g ad M).set h (ad h, .inr (kno ci, (fl ad M h).set k (.int v))) = wl g ad (sI M h k v) := by
    refine wl_set g ad (M' := sI M h k v) rfl ?_ (fun i hi => ce_ne_sI g ad M v hi)
    rw [ce_obj g ad (M := sI M h k v) (h := h) (c := ci) hkd9 h9]
    refine congrArg (fun x => Sum.inr (kno ci, x)) (fl_set ad (M := M) (M' := sI M h k v) (h := h) (k := k) rfl ?_ (fun j hj => ?_)).symm
    · have e1 : Mk (sI M h k v) h = ci := hkd9
      have e3 : Mi (sI M h k v) h k = v := up2_eq
      simp [sv, e1, hs, e3]
    · have e1 : Mk (sI M h k v) h = Mk M h := rfl
      have e2 : Mi (sI M h k v) h j = Mi M h j := up2_ne2 hj h
      simp only [sv, e1, e2]
      rfl
  refine va_put hx hb hts hin ty htyo hnm hown hK hP hD hS h he hc1 k hk (hts _ hlk9) (sm_of hts hT) hfn (ty := .boolean) (by rw [htyo k hk, hty]) (by rcases hv2 with rfl | rfl <;> rfl) hv01 (by rw [fl_len, hkd9, hN]; exact hk) hd (fun H1 locs1 hP1 hD1 hS1 => ?_)
  replace hP1 := (congrArg (fun z => va_P D vwCl z H1) hset).mp hP1
  replace hD1 := (congrArg (fun z => va_D A z) hset).mp hD1
  exact kk (sI M h k v) ad H1 locs1 ls a M' hF hfin ⟨hP1, hD1, hS1, okM_sI hM h k v, hn, hC, hex.tr (ex_sI M h k v), hea⟩ (lvk_st (κ := ((p, l9, e, R, s, m, args, below, meth, c), (D, g, A, Q), M0, ad0)) (ex_sI M h k v) hl) (okS_ex (κ := ((p, l9, e, R, s, m, args, below, meth, c), (D, g, A, Q), M0, ad0)) (ex_sI M h k v) (okS_tl (okS_tl hst)))
theorem J_putJ (hc : Jc κ own cc nL fr mc ms lc) (hcl : ClOk ci C T N ty) {k index h : Nat} (hk : k < N) (hs : skd ci k = 101) (hty : ty k = .long) {rf : String} (hlk9 : Cond.fieldLink own index rf (T k).2.1 (T k).2.2.1 ∈ TW) (hT : (T k).1 = rf ∨ Cond.sameField rf (T k).1 (T k).2.1 (T k).2.2.1 ∈ TW) (hfn : (T k).2.2.2 = false) (hd : decode cc pc = .ok (.putfield index, 3)) {v : Int64} (kk : Jg κ (wM κ) nL fin cs ss (pc + 3) l st F) : Jg κ (wM κ) nL fin cs ss pc l ((0, .long v) :: (ci, .ref h) :: st) (bnd (pJ h k v) (fun _ => F)) := by
  obtain ⟨⟨p, l9, e, R, s, m, args, below, meth, c⟩, ⟨D, g, A, Q⟩, M0, ad0⟩ := κ
  obtain ⟨hx, hb, hml, hown, hts, hK, hA, hst9, hlk, hR⟩ := hc
  intro M ad H locs ls a M' hF hfin hW hl hst
  obtain ⟨hP, hD, hS, hM, hn, hC, hex, hea⟩ := id hW
  obtain ⟨hc1, hin, htyo, hnm, hN, h9⟩ := hcl
  obtain ⟨hh, hkd9⟩ : h < Mn M ∧ Mk M h = ci := (okS_hd (okS_tl hst) h rfl).at (by omega)
  have he := (wl_get g ad hh).trans (congrArg (fun x => some (ad h, x)) (ce_obj g ad hkd9 h9))
  have hset : (wl g ad M).set h (ad h, .inr (kno ci, (fl ad M h).set k (.long v))) = wl g ad (sJ M h k v) := by
    refine wl_set g ad (M' := sJ M h k v) rfl ?_ (fun i hi => ce_ne_sJ g ad M v hi)
    rw [ce_obj g ad (M := sJ M h k v) (h := h) (c := ci) hkd9 h9]
    refine congrArg (fun x => Sum.inr (kno ci, x)) (fl_set ad (M := M) (M' := sJ M h k v) (h := h) (k := k) rfl ?_ (fun j hj => ?_)).symm
    · have e1 : Mk (sJ M h k v) h = ci := hkd9
      have e3 : Mj (sJ M h k v) h k = v := up2_eq
      simp [sv, e1, hs, e3]
    · have e1 : Mk (sJ M h k v) h = Mk M h := rfl
      have e2 : Mj (sJ M h k v) h j = Mj M h j := up2_ne2 hj h
      simp only [sv, e1, e2]
      rfl
  refine va_put hx hb hts hin ty htyo hnm hown hK hP hD hS h he hc1 k hk (hts _ hlk9) (sm_of hts hT) hfn (ty := .long) (by rw [htyo k hk, hty]) rfl rfl (by rw [fl_len, hkd9, hN]; exact hk) hd (fun H1 locs1 hP1 hD1 hS1 => ?_)
  replace hP1 := (congrArg (fun z => va_P D vwCl z H1) hset).mp hP1
  replace hD1 := (congrArg (fun z => va_D A z) hset).mp hD1
  exact kk (sJ M h k v) ad H1 locs1 ls a M' hF hfin ⟨hP1, hD1, hS1, okM_sJ hM h k v, hn, hC, hex.tr (ex_sJ M h k v), hea⟩ (lvk_st (κ := ((p, l9, e, R, s, m, args, below, meth, c), (D, g, A, Q), M0, ad0)) (ex_sJ M h k v) hl) (okS_ex (κ := ((p, l9, e, R, s, m, args, below, meth, c), (D, g, A, Q), M0, ad0)) (ex_sJ M h k v) (okS_tl (okS_tl hst)))
theorem J_putA (hc : Jc κ own cc nL fr mc ms lc) (hin2 : (match κ with | ((_, _, _, _, _, _, _, _, meth, _), _, _) => meth.name) = "<init>") (hcl : ClOk ci C T N ty) {k index h : Nat} (hk : k < N) {kd v : Nat} (hs : skd ci k = kd) (hkl : kd < 100) (hfit : ∀ q, fits (ty k) (.ref q) = true) (hnar : ∀ q, narrow (ty k) (.ref q) = .ref q) (hlk9 : Cond.fieldLink own index C (T k).2.1 (T k).2.2.1 ∈ TW) (hT : (T k).1 = C) (hCo : C = own) (hfn : (T k).2.2.2 = true) (hd : decode cc pc = .ok (.putfield index, 3)) (kk : Jg κ (wM κ) nL fin cs ss (pc + 3) l st F) : Jg κ (wM κ) nL fin cs ss pc l ((kd, .ref v) :: (ci, .ref h) :: st) (bnd (pA h k v) (fun _ => F)) := by
  obtain ⟨⟨p, l9, e, R, s, m, args, below, meth, c⟩, ⟨D, g, A, Q⟩, M0, ad0⟩ := κ
  obtain ⟨hx, hb, hml, hown, hts, hK, hA, hst9, hlk, hR⟩ := hc
  intro M ad H locs ls a M' hF hfin hW hl hst
  obtain ⟨hP, hD, hS, hM, hn, hC, hex, hea⟩ := id hW
  obtain ⟨hc1, hin, htyo, hnm, hN, h9⟩ := hcl
  obtain ⟨hh, hkd9⟩ : h < Mn M ∧ Mk M h = ci := (okS_hd (okS_tl hst) h rfl).at (by omega)
  have hv9 : okH M kd v := okS_hd hst v rfl
  have he := (wl_get g ad hh).trans (congrArg (fun x => some (ad h, x)) (ce_obj g ad hkd9 h9))
  have q1 : ¬ kd = 100 := by omega
  have q2 : ¬ kd = 101 := by omega
  have hset : (wl g ad M).set h (ad h, .inr (kno ci, (fl ad M h).set k (.ref (ad v)))) = wl g ad (sR M h k (some v)) := by
    refine wl_set g ad (M' := sR M h k (some v)) rfl ?_ (fun i hi => ce_ne_sR g ad M (some v) hi)
    rw [ce_obj g ad (M := sR M h k (some v)) (h := h) (c := ci) hkd9 h9]
    refine congrArg (fun x => Sum.inr (kno ci, x)) (fl_set ad (M := M) (M' := sR M h k (some v)) (h := h) (k := k) rfl ?_ (fun j hj => ?_)).symm
    · have e1 : Mk (sR M h k (some v)) h = ci := hkd9
      have e2 : Mr (sR M h k (some v)) h k = some v := up2_eq
      simp only [sv, e1, hs, e2, if_neg q1, if_neg q2]
      rfl
    · have e1 : Mk (sR M h k (some v)) h = Mk M h := rfl
      have e2 : Mr (sR M h k (some v)) h j = Mr M h j := up2_ne2 hj h
      simp only [sv, e1, e2]
      rfl
  refine va_putF hx hb hts hin ty htyo hnm hown hK hP hD hS h he hc1 k hk (hts _ hlk9) (by rw [hT]; exact fun _ z => z) hfn hin2 (by rw [hT]; exact hCo) (ty := ty k) (htyo k hk) (hnar _) (hfit _) (by rw [fl_len, hkd9, hN]; exact hk) hd (fun H1 locs1 hP1 hD1 hS1 => ?_)
  replace hP1 := (congrArg (fun z => va_P D vwCl z H1) hset).mp hP1
  replace hD1 := (congrArg (fun z => va_D A z) hset).mp hD1
  have hrk : rkd M h k = kd := by
    have q : ¬ ci = 14 := by omega
    have q5 : ¬ ci = 15 := by omega
    simp [rkd, hkd9, hs, q, q5]
  exact kk (sR M h k (some v)) ad H1 locs1 ls a M' hF hfin ⟨hP1, hD1, hS1, okM_sR hM (fun r hr => by cases hr; rw [hrk]; exact hv9), hn, hC, hex.tr (ex_sR M h k (some v)), hea⟩ (lvk_st (κ := ((p, l9, e, R, s, m, args, below, meth, c), (D, g, A, Q), M0, ad0)) (ex_sR M h k (some v)) hl) (okS_ex (κ := ((p, l9, e, R, s, m, args, below, meth, c), (D, g, A, Q), M0, ad0)) (ex_sR M h k (some v)) (okS_tl (okS_tl hst)))
theorem J_iald (hc : Jc κ own cc nL fr mc ms lc) (hd : decode cc pc = .ok (.iaload, 1)) {h : Nat} {i : Int32} {G1 : Int32 → Mm → Option (α × Mm)} (kk : ∀ v, Jg κ (wM κ) nL fin cs ss (pc + 1) l ((0, .int v) :: st) (G1 v)) : Jg κ (wM κ) nL fin cs ss pc l ((0, .int i) :: (11, .ref h) :: st) (bnd (lI h i) G1) := by
  obtain ⟨⟨p, l9, e, R, s, m, args, below, meth, c⟩, ⟨D, g, A, Q⟩, M0, ad0⟩ := κ
  obtain ⟨hx, hb, hml, hown, hts, hK, hA, hst9, hlk, hR⟩ := hc
  intro M ad H locs ls a M' hF hfin hW hl hst
  obtain ⟨hP, hD, hS, hM, hn, hC, hex, hea⟩ := id hW
  obtain ⟨hh, hkd9⟩ : h < Mn M ∧ Mk M h = 11 := (okS_hd (okS_tl hst) h rfl).at (by omega)
  have he := (wl_get g ad hh).trans (congrArg (fun x => some (ad h, x)) (ce_int g ad hkd9 (Or.inr (Or.inl rfl))))
  obtain ⟨r, M1, h1, hF⟩ := bnd_some hF
  unfold lI at h1
  split at h1
  case isFalse => cases h1
  case isTrue hin =>
  cases h1
  refine va_iald hx hb hK hP h 1 he rfl (vpB_in hin) hd ?_
  exact kk _ M ad H locs ls a M' hF hfin hW hl (okS_cons okW_i (okS_tl (okS_tl hst)))
theorem J_bald (hc : Jc κ own cc nL fr mc ms lc) (hd : decode cc pc = .ok (.baload, 1)) {h : Nat} {i : Int32} {G1 : Int32 → Mm → Option (α × Mm)} (kk : ∀ v, Jg κ (wM κ) nL fin cs ss (pc + 1) l ((0, .int v) :: st) (G1 v)) : Jg κ (wM κ) nL fin cs ss pc l ((0, .int i) :: (10, .ref h) :: st) (bnd (lI h i) G1) := by
  obtain ⟨⟨p, l9, e, R, s, m, args, below, meth, c⟩, ⟨D, g, A, Q⟩, M0, ad0⟩ := κ
  obtain ⟨hx, hb, hml, hown, hts, hK, hA, hst9, hlk, hR⟩ := hc
  intro M ad H locs ls a M' hF hfin hW hl hst
  obtain ⟨hP, hD, hS, hM, hn, hC, hex, hea⟩ := id hW
  obtain ⟨hh, hkd9⟩ : h < Mn M ∧ Mk M h = 10 := (okS_hd (okS_tl hst) h rfl).at (by omega)
  have he := (wl_get g ad hh).trans (congrArg (fun x => some (ad h, x)) (ce_int g ad hkd9 (Or.inl rfl)))
  obtain ⟨r, M1, h1, hF⟩ := bnd_some hF
  unfold lI at h1
  split at h1
  case isFalse => cases h1
  case isTrue hin =>
  cases h1
  refine va_bald hx hb hK hP h 0 he rfl (vpB_in hin) hd ?_
  exact kk _ M ad H locs ls a M' hF hfin hW hl (okS_cons okW_i (okS_tl (okS_tl hst)))
theorem J_zald (hc : Jc κ own cc nL fr mc ms lc) (hd : decode cc pc = .ok (.baload, 1)) {h : Nat} {i : Int32} {G1 : Int32 → Mm → Option (α × Mm)} (kk : ∀ v, Jg κ (wM κ) nL fin cs ss (pc + 1) l ((0, .int v) :: st) (G1 v)) : Jg κ (wM κ) nL fin cs ss pc l ((0, .int i) :: (13, .ref h) :: st) (bnd (lI h i) G1) := by
  obtain ⟨⟨p, l9, e, R, s, m, args, below, meth, c⟩, ⟨D, g, A, Q⟩, M0, ad0⟩ := κ
  obtain ⟨hx, hb, hml, hown, hts, hK, hA, hst9, hlk, hR⟩ := hc
  intro M ad H locs ls a M' hF hfin hW hl hst
  obtain ⟨hP, hD, hS, hM, hn, hC, hex, hea⟩ := id hW
  obtain ⟨hh, hkd9⟩ : h < Mn M ∧ Mk M h = 13 := (okS_hd (okS_tl hst) h rfl).at (by omega)
  have he := (wl_get g ad hh).trans (congrArg (fun x => some (ad h, x)) (ce_int g ad hkd9 (Or.inr (Or.inr rfl))))
  obtain ⟨r, M1, h1, hF⟩ := bnd_some hF
  unfold lI at h1
  split at h1
  case isFalse => cases h1
  case isTrue hin =>
  cases h1
  refine va_zald hx hb hK hP h 3 he rfl (vpB_in hin) hd ?_
  exact kk _ M ad H locs ls a M' hF hfin hW hl (okS_cons okW_i (okS_tl (okS_tl hst)))
theorem J_lald (hc : Jc κ own cc nL fr mc ms lc) (hd : decode cc pc = .ok (.laload, 1)) {h : Nat} {i : Int32} {G1 : Int64 → Mm → Option (α × Mm)} (kk : ∀ v, Jg κ (wM κ) nL fin cs ss (pc + 1) l ((0, .long v) :: st) (G1 v)) : Jg κ (wM κ) nL fin cs ss pc l ((0, .int i) :: (12, .ref h) :: st) (bnd (lJ h i) G1) := by
  obtain ⟨⟨p, l9, e, R, s, m, args, below, meth, c⟩, ⟨D, g, A, Q⟩, M0, ad0⟩ := κ
  obtain ⟨hx, hb, hml, hown, hts, hK, hA, hst9, hlk, hR⟩ := hc
  intro M ad H locs ls a M' hF hfin hW hl hst
  obtain ⟨hP, hD, hS, hM, hn, hC, hex, hea⟩ := id hW
  obtain ⟨hh, hkd9⟩ : h < Mn M ∧ Mk M h = 12 := (okS_hd (okS_tl hst) h rfl).at (by omega)
  have he := (wl_get g ad hh).trans (congrArg (fun x => some (ad h, x)) (ce_long g ad hkd9))
  obtain ⟨r, M1, h1, hF⟩ := bnd_some hF
  unfold lJ at h1
  split at h1
  case isFalse => cases h1
  case isTrue hin =>
  cases h1
  refine va_lald hx hb hK hP h 2 he rfl (vpB_in hin) hd ?_
  exact kk _ M ad H locs ls a M' hF hfin hW hl (okS_cons okW_l (okS_tl (okS_tl hst)))
theorem J_aald (hc : Jc κ own cc nL fr mc ms lc) (hd : decode cc pc = .ok (.aaload, 1)) {h : Nat} {i : Int32} {G1 : Option Nat → Mm → Option (α × Mm)} (kk : ∀ v, Jg κ (wM κ) nL fin cs ss (pc + 1) l ((2, va_rf v) :: st) (G1 v)) : Jg κ (wM κ) nL fin cs ss pc l ((0, .int i) :: (14, .ref h) :: st) (bnd (lQ h i) G1) := by
  obtain ⟨⟨p, l9, e, R, s, m, args, below, meth, c⟩, ⟨D, g, A, Q⟩, M0, ad0⟩ := κ
  obtain ⟨hx, hb, hml, hown, hts, hK, hA, hst9, hlk, hR⟩ := hc
  intro M ad H locs ls a M' hF hfin hW hl hst
  obtain ⟨hP, hD, hS, hM, hn, hC, hex, hea⟩ := id hW
  obtain ⟨hh, hkd9⟩ : h < Mn M ∧ Mk M h = 14 := (okS_hd (okS_tl hst) h rfl).at (by omega)
  have he := (wl_get g ad hh).trans (congrArg (fun x => some (ad h, x)) (ce_page g ad hkd9))
  obtain ⟨r, M1, h1, hF⟩ := bnd_some hF
  unfold lQ at h1
  split at h1
  case isFalse => cases h1
  case isTrue hin =>
  cases h1
  refine va_aldq hx hb hK hP h 4 he rfl (vpB_in hin) hd ?_
  have e9 : trS ad ((2, va_rf (Mr M h i.toNatClampNeg)) :: st) = va_rf ((Mr M h i.toNatClampNeg).map ad) :: List.map (fun q => tr ad q.2) st := by cases Mr M h i.toNatClampNeg <;> rfl
  rw [← e9]
  refine kk _ M ad H locs ls a M' hF hfin hW hl (okS_cons (fun z hz => ?_) (okS_tl (okS_tl hst)))
  cases hr : Mr M h i.toNatClampNeg with
  | none => rw [hr] at hz; cases hz
  | some r =>
    rw [hr] at hz
    cases hz
    have r1 := hM.1 h _ z hh hr
    rw [show rkd M h i.toNatClampNeg = 2 by simp [rkd, hkd9]] at r1
    exact r1
theorem J_iast (hc : Jc κ own cc nL fr mc ms lc) (hd : decode cc pc = .ok (.iastore, 1)) {h : Nat} {i : Int32} {v : Int32} (kk : Jg κ (wM κ) nL fin cs ss (pc + 1) l st F) : Jg κ (wM κ) nL fin cs ss pc l ((0, .int v) :: (0, .int i) :: (11, .ref h) :: st) (bnd (aI h i v) (fun _ => F)) := by
  obtain ⟨⟨p, l9, e, R, s, m, args, below, meth, c⟩, ⟨D, g, A, Q⟩, M0, ad0⟩ := κ
  obtain ⟨hx, hb, hml, hown, hts, hK, hA, hst9, hlk, hR⟩ := hc
  intro M ad H locs ls a M' hF hfin hW hl hst
  obtain ⟨hP, hD, hS, hM, hn, hC, hex, hea⟩ := id hW
  obtain ⟨hh, hkd9⟩ : h < Mn M ∧ Mk M h = 11 := (okS_hd (okS_tl (okS_tl hst)) h rfl).at (by omega)
  have he := (wl_get g ad hh).trans (congrArg (fun x => some (ad h, x)) (ce_int g ad hkd9 (Or.inr (Or.inl rfl))))
  obtain ⟨r, M1, h1, hF⟩ := bnd_some hF
  unfold aI at h1
  split at h1
  case isFalse => cases h1
  case isTrue hin =>
  cases h1
  have hset : (wl g ad M).set h (ad h, .inl (g 11, Ml M h, .inl (upd (Mi M h) i.toNatClampNeg v))) = wl g ad (sI M h i.toNatClampNeg v) := by
    refine wl_set g ad (M' := sI M h i.toNatClampNeg v) rfl ?_ (fun j hj => ce_ne_sI g ad M v hj)
    rw [ce_int g ad (M := sI M h i.toNatClampNeg v) hkd9 (Or.inr (Or.inl rfl))]
    have e1 : Mi (sI M h i.toNatClampNeg v) h = upd (Mi M h) i.toNatClampNeg v := up2_row
    rw [e1]
    rfl
  refine va_iast hx hb hK hP hD hS h 1 he rfl (vpB_in hin) hd (fun H1 locs1 hP1 hD1 hS1 => ?_)
  replace hP1 := (congrArg (fun z => va_P D vwCl z H1) hset).mp hP1
  replace hD1 := (congrArg (fun z => va_D A z) hset).mp hD1
  exact kk (sI M h i.toNatClampNeg v) ad H1 locs1 ls a M' hF hfin ⟨hP1, hD1, hS1, okM_sI hM h _ _, hn, hC, hex.tr (ex_sI M h _ _), hea⟩ (lvk_st (κ := ((p, l9, e, R, s, m, args, below, meth, c), (D, g, A, Q), M0, ad0)) (ex_sI M h _ _) hl) (okS_ex (κ := ((p, l9, e, R, s, m, args, below, meth, c), (D, g, A, Q), M0, ad0)) (ex_sI M h _ _) (okS_tl (okS_tl (okS_tl hst))))
theorem J_bast (hc : Jc κ own cc nL fr mc ms lc) (hd : decode cc pc = .ok (.bastore, 1)) {h : Nat} {i : Int32} {v : Int32} (kk : Jg κ (wM κ) nL fin cs ss (pc + 1) l st F) : Jg κ (wM κ) nL fin cs ss pc l ((0, .int v) :: (0, .int i) :: (10, .ref h) :: st) (bnd (aB h i v) (fun _ => F)) := by
  obtain ⟨⟨p, l9, e, R, s, m, args, below, meth, c⟩, ⟨D, g, A, Q⟩, M0, ad0⟩ := κ
  obtain ⟨hx, hb, hml, hown, hts, hK, hA, hst9, hlk, hR⟩ := hc
  intro M ad H locs ls a M' hF hfin hW hl hst
  obtain ⟨hP, hD, hS, hM, hn, hC, hex, hea⟩ := id hW
  obtain ⟨hh, hkd9⟩ : h < Mn M ∧ Mk M h = 10 := (okS_hd (okS_tl (okS_tl hst)) h rfl).at (by omega)
  have he := (wl_get g ad hh).trans (congrArg (fun x => some (ad h, x)) (ce_int g ad hkd9 (Or.inl rfl)))
  obtain ⟨r, M1, h1, hF⟩ := bnd_some hF
  unfold aB at h1
  split at h1
  case isFalse => cases h1
  case isTrue hin =>
  cases h1
  have hset : (wl g ad M).set h (ad h, .inl (g 10, Ml M h, .inl (upd (Mi M h) i.toNatClampNeg (vp_nar .byte v)))) = wl g ad (sI M h i.toNatClampNeg (vp_nar .byte v)) := by
    refine wl_set g ad (M' := sI M h i.toNatClampNeg (vp_nar .byte v)) rfl ?_ (fun j hj => ce_ne_sI g ad M (vp_nar .byte v) hj)
    rw [ce_int g ad (M := sI M h i.toNatClampNeg (vp_nar .byte v)) hkd9 (Or.inl rfl)]
    have e1 : Mi (sI M h i.toNatClampNeg (vp_nar .byte v)) h = upd (Mi M h) i.toNatClampNeg (vp_nar .byte v) := up2_row
    rw [e1]
    rfl
  refine va_bast hx hb hK hP hD hS h 0 he rfl (vpB_in hin) hd (fun H1 locs1 hP1 hD1 hS1 => ?_)
  replace hP1 := (congrArg (fun z => va_P D vwCl z H1) hset).mp hP1
  replace hD1 := (congrArg (fun z => va_D A z) hset).mp hD1
  exact kk (sI M h i.toNatClampNeg (vp_nar .byte v)) ad H1 locs1 ls a M' hF hfin ⟨hP1, hD1, hS1, okM_sI hM h _ _, hn, hC, hex.tr (ex_sI M h _ _), hea⟩ (lvk_st (κ := ((p, l9, e, R, s, m, args, below, meth, c), (D, g, A, Q), M0, ad0)) (ex_sI M h _ _) hl) (okS_ex (κ := ((p, l9, e, R, s, m, args, below, meth, c), (D, g, A, Q), M0, ad0)) (ex_sI M h _ _) (okS_tl (okS_tl (okS_tl hst))))
theorem J_zast (hc : Jc κ own cc nL fr mc ms lc) (hd : decode cc pc = .ok (.bastore, 1)) {h : Nat} {i : Int32} {v : Int32} (kk : Jg κ (wM κ) nL fin cs ss (pc + 1) l st F) : Jg κ (wM κ) nL fin cs ss pc l ((0, .int v) :: (0, .int i) :: (13, .ref h) :: st) (bnd (aZ h i v) (fun _ => F)) := by
  obtain ⟨⟨p, l9, e, R, s, m, args, below, meth, c⟩, ⟨D, g, A, Q⟩, M0, ad0⟩ := κ
  obtain ⟨hx, hb, hml, hown, hts, hK, hA, hst9, hlk, hR⟩ := hc
  intro M ad H locs ls a M' hF hfin hW hl hst
  obtain ⟨hP, hD, hS, hM, hn, hC, hex, hea⟩ := id hW
  obtain ⟨hh, hkd9⟩ : h < Mn M ∧ Mk M h = 13 := (okS_hd (okS_tl (okS_tl hst)) h rfl).at (by omega)
  have he := (wl_get g ad hh).trans (congrArg (fun x => some (ad h, x)) (ce_int g ad hkd9 (Or.inr (Or.inr rfl))))
  obtain ⟨r, M1, h1, hF⟩ := bnd_some hF
  unfold aZ at h1
  split at h1
  case isFalse => cases h1
  case isTrue hin =>
  cases h1
  have hset : (wl g ad M).set h (ad h, .inl (g 13, Ml M h, .inl (upd (Mi M h) i.toNatClampNeg (vp_nar .boolean v)))) = wl g ad (sI M h i.toNatClampNeg (vp_nar .boolean v)) := by
    refine wl_set g ad (M' := sI M h i.toNatClampNeg (vp_nar .boolean v)) rfl ?_ (fun j hj => ce_ne_sI g ad M (vp_nar .boolean v) hj)
    rw [ce_int g ad (M := sI M h i.toNatClampNeg (vp_nar .boolean v)) hkd9 (Or.inr (Or.inr rfl))]
    have e1 : Mi (sI M h i.toNatClampNeg (vp_nar .boolean v)) h = upd (Mi M h) i.toNatClampNeg (vp_nar .boolean v) := up2_row
    rw [e1]
    rfl
  refine va_zast hx hb hK hP hD hS h 3 he rfl (vpB_in hin) hd (fun H1 locs1 hP1 hD1 hS1 => ?_)
  replace hP1 := (congrArg (fun z => va_P D vwCl z H1) hset).mp hP1
  replace hD1 := (congrArg (fun z => va_D A z) hset).mp hD1
  exact kk (sI M h i.toNatClampNeg (vp_nar .boolean v)) ad H1 locs1 ls a M' hF hfin ⟨hP1, hD1, hS1, okM_sI hM h _ _, hn, hC, hex.tr (ex_sI M h _ _), hea⟩ (lvk_st (κ := ((p, l9, e, R, s, m, args, below, meth, c), (D, g, A, Q), M0, ad0)) (ex_sI M h _ _) hl) (okS_ex (κ := ((p, l9, e, R, s, m, args, below, meth, c), (D, g, A, Q), M0, ad0)) (ex_sI M h _ _) (okS_tl (okS_tl (okS_tl hst))))
theorem J_last (hc : Jc κ own cc nL fr mc ms lc) (hd : decode cc pc = .ok (.lastore, 1)) {h : Nat} {i : Int32} {v : Int64} (kk : Jg κ (wM κ) nL fin cs ss (pc + 1) l st F) : Jg κ (wM κ) nL fin cs ss pc l ((0, .long v) :: (0, .int i) :: (12, .ref h) :: st) (bnd (aJ h i v) (fun _ => F)) := by
  obtain ⟨⟨p, l9, e, R, s, m, args, below, meth, c⟩, ⟨D, g, A, Q⟩, M0, ad0⟩ := κ
  obtain ⟨hx, hb, hml, hown, hts, hK, hA, hst9, hlk, hR⟩ := hc
  intro M ad H locs ls a M' hF hfin hW hl hst
  obtain ⟨hP, hD, hS, hM, hn, hC, hex, hea⟩ := id hW
  obtain ⟨hh, hkd9⟩ : h < Mn M ∧ Mk M h = 12 := (okS_hd (okS_tl (okS_tl hst)) h rfl).at (by omega)
  have he := (wl_get g ad hh).trans (congrArg (fun x => some (ad h, x)) (ce_long g ad hkd9))
  obtain ⟨r, M1, h1, hF⟩ := bnd_some hF
  unfold aJ at h1
  split at h1
  case isFalse => cases h1
  case isTrue hin =>
  cases h1
  have hset : (wl g ad M).set h (ad h, .inl (g 12, Ml M h, .inr (.inl (vp_updL (Mj M h) i.toNatClampNeg v)))) = wl g ad (sJ M h i.toNatClampNeg v) := by
    refine wl_set g ad (M' := sJ M h i.toNatClampNeg v) rfl ?_ (fun j hj => ce_ne_sJ g ad M v hj)
    rw [ce_long g ad (M := sJ M h i.toNatClampNeg v) hkd9]
    have e1 : Mj (sJ M h i.toNatClampNeg v) h = vp_updL (Mj M h) i.toNatClampNeg v := up2_row
    rw [e1]
    rfl
  refine va_last hx hb hK hP hD hS h 2 he rfl (vpB_in hin) hd (fun H1 locs1 hP1 hD1 hS1 => ?_)
  replace hP1 := (congrArg (fun z => va_P D vwCl z H1) hset).mp hP1
  replace hD1 := (congrArg (fun z => va_D A z) hset).mp hD1
  exact kk (sJ M h i.toNatClampNeg v) ad H1 locs1 ls a M' hF hfin ⟨hP1, hD1, hS1, okM_sJ hM h _ _, hn, hC, hex.tr (ex_sJ M h _ _), hea⟩ (lvk_st (κ := ((p, l9, e, R, s, m, args, below, meth, c), (D, g, A, Q), M0, ad0)) (ex_sJ M h _ _) hl) (okS_ex (κ := ((p, l9, e, R, s, m, args, below, meth, c), (D, g, A, Q), M0, ad0)) (ex_sJ M h _ _) (okS_tl (okS_tl (okS_tl hst))))
theorem J_aast (hc : Jc κ own cc nL fr mc ms lc) (hd : decode cc pc = .ok (.aastore, 1)) {h v : Nat} {i : Int32} (kk : Jg κ (wM κ) nL fin cs ss (pc + 1) l st F) : Jg κ (wM κ) nL fin cs ss pc l ((2, .ref v) :: (0, .int i) :: (14, .ref h) :: st) (bnd (aA h i v) (fun _ => F)) := by
  obtain ⟨⟨p, l9, e, R, s, m, args, below, meth, c⟩, ⟨D, g, A, Q⟩, M0, ad0⟩ := κ
  obtain ⟨hx, hb, hml, hown, hts, hK, hA, hst9, hlk, hR⟩ := hc
  intro M ad H locs ls a M' hF hfin hW hl hst
  obtain ⟨hP, hD, hS, hM, hn, hC, hex, hea⟩ := id hW
  obtain ⟨hh, hkd9⟩ : h < Mn M ∧ Mk M h = 14 := (okS_hd (okS_tl (okS_tl hst)) h rfl).at (by omega)
  obtain ⟨hv1, hv2⟩ : v < Mn M ∧ Mk M v = 2 := (okS_hd hst v rfl).at (by omega)
  have he := (wl_get g ad hh).trans (congrArg (fun x => some (ad h, x)) (ce_page g ad hkd9))
  have hev := (wl_get g ad hv1).trans (congrArg (fun x => some (ad v, x)) (ce_obj g ad hv2 (Or.inl (by decide))))
  obtain ⟨r, M1, h1, hF⟩ := bnd_some hF
  unfold aA at h1
  split at h1
  case isFalse => cases h1
  case isTrue hin =>
  cases h1
  have hset : (wl g ad M).set h (ad h, .inl (g 14, Ml M h, .inr (.inr (.inr (.inr (va_up (fun j => (Mr M h j).map ad) i.toNatClampNeg (some (ad v)))))))) = wl g ad (sR M h i.toNatClampNeg (some v)) := by
    refine wl_set g ad (M' := sR M h i.toNatClampNeg (some v)) rfl ?_ (fun j hj => ce_ne_sR g ad M (some v) hj)
    rw [ce_page g ad (M := sR M h i.toNatClampNeg (some v)) hkd9]
    have e1 : (fun j => (Mr (sR M h i.toNatClampNeg (some v)) h j).map ad) = va_up (fun j => (Mr M h j).map ad) i.toNatClampNeg (some (ad v)) := by
      funext j
      have e2 : Mr (sR M h i.toNatClampNeg (some v)) h j = if h = h ∧ j = i.toNatClampNeg then some v else Mr M h j := rfl
      rw [e2]
      by_cases q : j = i.toNatClampNeg
      · simp [va_up, q]
      · simp [va_up, q]
    rw [e1]
    rfl
  refine va_astq hx hb hK hP hD hS h 4 v 7 he rfl hev rfl (vpB_in hin) hd (fun H1 locs1 hP1 hD1 hS1 => ?_)
  replace hP1 := (congrArg (fun z => va_P D vwCl z H1) hset).mp hP1
  replace hD1 := (congrArg (fun z => va_D A z) hset).mp hD1
  exact kk (sR M h i.toNatClampNeg (some v)) ad H1 locs1 ls a M' hF hfin ⟨hP1, hD1, hS1, okM_sR hM (fun r hr => by cases hr; rw [show rkd M h i.toNatClampNeg = 2 by simp [rkd, hkd9]]; exact okH_of hv1 hv2 (by omega)), hn, hC, hex.tr (ex_sR M h _ _), hea⟩ (lvk_st (κ := ((p, l9, e, R, s, m, args, below, meth, c), (D, g, A, Q), M0, ad0)) (ex_sR M h _ _) hl) (okS_ex (κ := ((p, l9, e, R, s, m, args, below, meth, c), (D, g, A, Q), M0, ad0)) (ex_sR M h _ _) (okS_tl (okS_tl (okS_tl hst))))
theorem J_blen (hc : Jc κ own cc nL fr mc ms lc) (hd : decode cc pc = .ok (.arraylength, 1)) {h : Nat} {G1 : Int32 → Mm → Option (α × Mm)} (kk : ∀ v, Jg κ (wM κ) nL fin cs ss (pc + 1) l ((0, .int v) :: st) (G1 v)) : Jg κ (wM κ) nL fin cs ss pc l ((10, .ref h) :: st) (bnd (gN h) G1) := by
  obtain ⟨⟨p, l9, e, R, s, m, args, below, meth, c⟩, ⟨D, g, A, Q⟩, M0, ad0⟩ := κ
  obtain ⟨hx, hb, hml, hown, hts, hK, hA, hst9, hlk, hR⟩ := hc
  intro M ad H locs ls a M' hF hfin hW hl hst
  obtain ⟨hP, hD, hS, hM, hn, hC, hex, hea⟩ := id hW
  obtain ⟨hh, hkd9⟩ : h < Mn M ∧ Mk M h = 10 := (okS_hd hst h rfl).at (by omega)
  have he := (wl_get g ad hh).trans (congrArg (fun x => some (ad h, x)) (ce_int g ad hkd9 (Or.inl rfl)))
  refine va_alen hx hb hK hP h 0 he rfl rfl hd ?_
  exact kk _ M ad H locs ls a M' hF hfin hW hl (okS_cons okW_i (okS_tl hst))
theorem J_gets (hc : Jc κ own cc nL fr mc ms lc) {j index : Nat} (hj : j < 3) (hlk9 : Cond.fieldLink own index "DotRuns" (sS.getD j ("", [])).1 "[I" ∈ TW) (hd : decode cc pc = .ok (.getstatic index, 3)) (kk : Jg κ (wM κ) nL fin cs ss (pc + 3) l ((21, .ref (SB + 100 + j)) :: st) F) : Jg κ (wM κ) nL fin cs ss pc l st F := by
  obtain ⟨⟨p, l9, e, R, s, m, args, below, meth, c⟩, ⟨D, g, A, Q⟩, M0, ad0⟩ := κ
  obtain ⟨hx, hb, hml, hown, hts, hK, hA, hst9, hlk, hR⟩ := hc
  intro M ad H locs ls a M' hF hfin hW hl hst
  obtain ⟨hP, hD, hS, hM, hn, hC, hex, hea⟩ := id hW
  have hq : sS[j]? = some (sS.getD j ("", [])) := by
    match j, hj with
    | 0, _ => rfl
    | 1, _ => rfl
    | 2, _ => rfl
  obtain ⟨hZ, -⟩ := hC.2.2.1 j _ hq
  refine va_gets (ref := "DotRuns") hx hb hZ hS hown (hts _ hlk9) (fun _ z => z) hd ?_
  exact kk M ad H locs ls a M' hF hfin hW hl (okS_cons (fun z hz => by cases hz; exact Or.inr (Or.inr (Or.inr (Or.inr (Or.inl ⟨rfl, by omega, by omega⟩))))) hst)
theorem J_getsN (hc : Jc κ own cc nL fr mc ms lc) {j index : Nat} (hj : j < 3) (hlk9 : (own, index, "DotRuns", (sS.getD j ("", [])).1, "[I", "DotRuns") ∈ nFw) (hd : decode cc pc = .ok (.getstatic index, 3)) (kk : Jg κ (wM κ) nL fin cs ss (pc + 3) l ((21, .ref (SB + 100 + j)) :: st) F) : Jg κ (wM κ) nL fin cs ss pc l st F := by
  obtain ⟨⟨p, l9, e, R, s, m, args, below, meth, c⟩, ⟨D, g, A, Q⟩, M0, ad0⟩ := κ
  obtain ⟨hx, hb, hml, hown, hts, hK, hA, hst9, hlk, hR⟩ := hc
  intro M ad H locs ls a M' hF hfin hW hl hst
  obtain ⟨hP, hD, hS, hM, hn, hC, hex, hea⟩ := id hW
  have hq : sS[j]? = some (sS.getD j ("", [])) := by
    match j, hj with
    | 0, _ => rfl
    | 1, _ => rfl
    | 2, _ => rfl
  obtain ⟨hZ, -⟩ := hC.2.2.1 j _ hq
  refine va_getsN (ref := "DotRuns") (host := "DotRuns") hx hb hZ hS hown (va_Nw.use rfl (hC.2.2.2.2.2.2.2.2.2.1 _ hlk9)) (fun _ z => z) hd ?_
  exact kk M ad H locs ls a M' hF hfin hW hl (okS_cons (fun z hz => by cases hz; exact Or.inr (Or.inr (Or.inr (Or.inr (Or.inl ⟨rfl, by omega, by omega⟩))))) hst)
theorem J_tald (hc : Jc κ own cc nL fr mc ms lc) {j : Nat} (hj : j < 3) (hd : decode cc pc = .ok (.iaload, 1)) {i : Int32} {G1 : Int32 → Mm → Option (α × Mm)} (kk : ∀ v, Jg κ (wM κ) nL fin cs ss (pc + 1) l ((0, .int v) :: st) (G1 v)) : Jg κ (wM κ) nL fin cs ss pc l ((0, .int i) :: (21, .ref (SB + 100 + j)) :: st) (bnd (tS j i) G1) := by
  obtain ⟨⟨p, l9, e, R, s, m, args, below, meth, c⟩, ⟨D, g, A, Q⟩, M0, ad0⟩ := κ
  obtain ⟨hx, hb, hml, hown, hts, hK, hA, hst9, hlk, hR⟩ := hc
  intro M ad H locs ls a M' hF hfin hW hl hst
  obtain ⟨hP, hD, hS, hM, hn, hC, hex, hea⟩ := id hW
  have hq : sS[j]? = some (sS.getD j ("", [])) := by
    match j, hj with
    | 0, _ => rfl
    | 1, _ => rfl
    | 2, _ => rfl
  obtain ⟨-, hT⟩ := hC.2.2.1 j _ hq
  obtain ⟨r, M1, h1, hF⟩ := bnd_some hF
  unfold tS at h1
  split at h1
  case isFalse => cases h1
  case isTrue hin =>
  cases h1
  refine va_ti hx hb hT hS (vpB_in hin) rfl hd ?_
  exact kk _ M ad H locs ls a M' hF hfin hW hl (okS_cons okW_i (okS_tl (okS_tl hst)))
end JmRows
