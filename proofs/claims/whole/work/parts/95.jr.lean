/-! ROWS FOR THE LAW: its script, calls that are caught, the wrappers -/
theorem nf64_f2d {a : UInt32} (h : nf32 a = true) : nf64 (FP.f2d a) = true := by
  have h1 : Jvm.FP.Core.dIsNaN (FP.f2d a) = Jvm.FP.Core.fIsNaN a := Jvm.FP.f2d_nan a
  unfold nf32 at h
  unfold nf64
  rw [decide_eq_true_eq, UInt32.le_iff_toNat_le, UInt32.toNat_and] at h
  rw [decide_eq_true_eq, UInt64.le_iff_toNat_le, UInt64.toNat_and]
  have h : a.toNat &&& (2 ^ 31 - 1) ≤ 255 * 2 ^ 23 := h
  show (FP.f2d a).toNat &&& (2 ^ 63 - 1) ≤ 2047 * 2 ^ 52
  rw [Nat.and_two_pow_sub_one_eq_mod] at h ⊢
  refine Nat.not_lt.mp (fun z => ?_)
  have h2 := (Jvm.FP.Core.isNaN_bits (FP.f2d a)).mpr z
  rw [h1, Jvm.FP.Core.isNaN_bits32] at h2
  exact absurd h (Nat.not_le.mpr h2)
theorem exN_in (k : Nat) : exN k ∈ xcN := by
  match k with
  | 0 => simp [exN, xcN]
  | 1 => simp [exN, xcN]
  | k + 2 => simp [exN, xcN]
/-- no exception's class is another's -/
def NcA (U : State) : Prop := va_Nc (exN 0) (exN 2) U ∧ va_Nc (exN 1) (exN 0) U ∧ va_Nc (exN 1) (exN 2) U
def NcK (κ : Cx) : Prop := match κ with
  | ((_, _, _, _, s, _, _, _, _, _), _, _) => NcA s
/-- the law's script: handle SB + 400 of kind 23 -/
def JX (κ : Cx) (L : Nat) (xs : Nat → Int32) : Prop := match κ with
  | ((_, _, _, _, s, _, _, _, _, _), (_, _, A, _), (_, ad0)) => va_X (ad0 (SB + 400)) L xs s s.heap ∧ ad0 (SB + 400) < s.heap.size ∧ ¬ A (ad0 (SB + 400))
def wsYW (y : MethodName) (b : ByteArray) (nL : Nat) (ret : Option FieldType) (hh : List (Nat × Nat × Nat × Nat)) : List Cond := Cond.codeWith y b nL ret hh :: TW
theorem tw_SW {own : String} {index : Nat} {y : MethodName} {b : ByteArray} {nL : Nat} {ret : Option FieldType} {hh : List (Nat × Nat × Nat × Nat)} (h1 : Cond.methodLink own index y ∈ TW) (h2 : Cond.static y ∈ TW) (h4 : Cond.initialized y.cls ∈ TW) (h5 : Cond.codeWith y b nL ret hh ∈ TW) : GoodIn TW (va_wsS own index y (wsYW y b nL ret hh)) := by
  intro w hw
  unfold va_wsS at hw
  rcases List.mem_append.mp hw with hw | hw
  · simp only [List.mem_cons, List.not_mem_nil, or_false] at hw
    rcases hw with rfl | rfl | rfl
    · exact ⟨h1, tw_good h1⟩
    · exact ⟨h2, tw_good h2⟩
    · exact ⟨h4, tw_good h4⟩
  · rcases List.mem_cons.mp hw with rfl | hw
    · exact ⟨h5, tw_good h5⟩
    · exact ⟨hw, tw_good hw⟩
/-- the contract of a wrapper (a table of handlers hh) -/
def CtW {β : Type} (wr : β → Option Value) (y : MethodName) (b : ByteArray) (nL' : Nat) (ret' : Option FieldType) (hh : List (Nat × Nat × Nat × Nat)) (fr' mc' ms' lc' : Nat) (av : List TV) (Fc : Mm → Option (β × Mm)) : Prop :=
  ∀ (l : Launch) (g : Nat → ClassId) (D : va_G) (ad : Nat → Nat) (sz : Nat) (M : Mm) (r : β) (M' : Mm), l.stackTraces = false → Fc M = some (r, M') → okS0 M av →
    Met l y (wsYW y b nL' ret' hh) (rmR fr' mc' ms' lc') (va_Pc (trS ad av) (fun U => U.heap.size = sz ∧ wM0 g D ad M U ∧ NcA U)) (fun _ s0 oc t => (oc = .returned (wr r) ∧ ∃ ad', wM1 g D (va_A (wl g ad M) sz) M ad M' ad' t) ∧ va_F (va_A (wl g ad M) sz) s0 t) mc' ms' (va_A (wl g ad M) sz)
theorem NcA.moved {u U : State} (hvm : u.vm.Alike U.vm) (h : NcA u) : NcA U := ⟨va_Nc.moved hvm h.1, va_Nc.moved hvm h.2.1, va_Nc.moved hvm h.2.2⟩
theorem wM0N_blind {g : Nat → ClassId} {D : va_G} {ad : Nat → Nat} {M : Mm} {sz : Nat} {av : List Value} : FrameBlind (va_Pc av (fun U => U.heap.size = sz ∧ wM0 g D ad M U ∧ NcA U)) := by
  intro a U g9 mk q
  obtain ⟨q0, q1, ⟨q2, q3, q4, q5, q6, q7⟩, q8⟩ := q
  exact ⟨q0, q1, ⟨q2, q3, va_K.moved (u := U) (U := U.calling g9 mk a) (Vm.Alike.refl U.vm) q4, q5, q6, q7.go (U := U.calling g9 mk a) (State.WarmedH.refl U) (fun _ _ _ => rfl) (fun _ z => z) (fun _ _ => rfl)⟩, NcA.moved (u := U) (U := U.calling g9 mk a) (Vm.Alike.refl U.vm) q8⟩
/-- the handler of exception k at pc: it answers v -/
def HdOk (κ : Cx) (own : String) (cc : ByteArray) (nL pc k : Nat) (v : Int32) : Prop := match κ with
  | ((_, _, _, _, s, _, args, _, _, c), _, _) => ∃ (pre : List ExceptionTableEntry) (x : ExceptionTableEntry) (suf : List ExceptionTableEntry), c.exceptionTable.toList = pre ++ x :: suf ∧ (∀ z ∈ pre, covers z pc = false ∨ (z.catchType ≠ 0 ∧ ∃ nm : String, (Cond.classLink own z.catchType nm).before args s = true ∧ va_Nc (exN k) nm s)) ∧ covers x pc = true ∧ x.catchType ≠ 0 ∧ (Cond.classLink own x.catchType (exN k)).before args s = true ∧
      ∃ (i ln : Nat) (w : Int), ((decode cc x.handlerPc = .ok (.astore i, 2) ∧ ln = 2) ∨ (∃ k0 : Fin 4, decode cc x.handlerPc = .ok (.astore_n k0, 1) ∧ (k0 : Nat) = i ∧ ln = 1)) ∧ i < nL ∧ decode cc (x.handlerPc + ln) = .ok (.iconst w, 1) ∧ Int32.ofInt w = v ∧ decode cc (x.handlerPc + ln + 1) = .ok (.ireturn, 1)
/-- what a handler answers -/
def hCt (hs : List (Nat × Int32)) (e : Nat) : Option Int32 := (hs.find? (fun q => q.1 == e)).map (fun q => q.2)
def bndC {β : Type} (m : Mm → Option ((Nat ⊕ β) × Mm)) (hs : List (Nat × Int32)) (k : β → Mm → Option (Int32 × Mm)) : Mm → Option (Int32 × Mm) := bnd m (fun r => match r with
  | .inl e => (match hCt hs e with
    | some v => rtn v
    | none => fail)
  | .inr b => k b)
section JrRows
variable {α β : Type} {κ : Cx} {own : String} {cc : ByteArray} {nL fr mc ms lc : Nat} {cs ss pc : Nat} {l l' : List (Option TV)} {st : List TV} {ci N : Nat} {C : String} {T : u_T} {ty : Nat → FieldType}
theorem J_f2d {σ : Type} {ω : Wp σ} {fin : α → σ → Prop} {F : σ → Option (α × σ)} (hc : Jc κ own cc nL fr mc ms lc) {x : UInt32} (hd : decode cc pc = .ok (.f2d, 1)) (kk : Jg κ ω nL fin cs ss (pc + 1) l ((0, .double (FP.f2d x)) :: st) F) : Jg κ ω nL fin cs ss pc l ((0, .float x) :: st) (grd (nf64 (FP.f2d x)) F) := by
  obtain ⟨⟨p, l9, e, R, s, m, args, below, meth, c⟩, ⟨D, g, A, Q⟩, M0, ad0⟩ := κ
  obtain ⟨hx, hb, -⟩ := hc
  intro M ad H locs ls a M' hF hfin hW hl hst
  obtain ⟨hy, hF⟩ := grd_some hF
  refine lv_f2d hx hb hd (show (FP.f2d x) &&& 0x7fffffffffffffff ≤ 0x7ff0000000000000 from of_decide_eq_true hy) ?_
  exact kk M ad H locs ls a M' hF hfin hW hl (okS_cons okW_d (okS_tl hst))
theorem J_slen {fin : α → Mm → Prop} {F : Mm → Option (α × Mm)} (hc : Jc κ own cc nL fr mc ms lc) {L : Nat} {xs : Nat → Int32} (hX : JX κ L xs) (hd : decode cc pc = .ok (.arraylength, 1)) (kk : Jg κ (wM κ) nL fin cs ss (pc + 1) l ((0, .int (nI L)) :: st) F) : Jg κ (wM κ) nL fin cs ss pc l ((23, .ref (SB + 400)) :: st) F := by
  obtain ⟨⟨p, l9, e, R, s, m, args, below, meth, c⟩, ⟨D, g, A, Q⟩, M0, ad0⟩ := κ
  obtain ⟨hx, hb, -⟩ := hc
  obtain ⟨h1, h2, h3⟩ := hX
  intro M ad H locs ls a M' hF hfin hW hl hst
  obtain ⟨hP, hD, hS, hM, hn, hC, hex, hea⟩ := id hW
  have e : ad (SB + 400) = ad0 (SB + 400) := hea _ (Or.inr (by omega))
  show W p l9 _ R s m args below meth c H locs cs ss Q (F0 m pc ls (.ref (ad (SB + 400)) :: trS ad st))
  rw [e]
  refine va_slen hx hb h1 h2 h3 hS hd ?_
  exact kk M ad H locs ls a M' hF hfin hW hl (okS_cons okW_i (okS_tl hst))
theorem J_sald {fin : α → Mm → Prop} {F : Mm → Option (α × Mm)} (hc : Jc κ own cc nL fr mc ms lc) {L : Nat} {xs : Nat → Int32} (hX : JX κ L xs) {i : Int32} (hd : decode cc pc = .ok (.iaload, 1)) (kk : Jg κ (wM κ) nL fin cs ss (pc + 1) l ((0, .int (xs i.toNatClampNeg)) :: st) F) : Jg κ (wM κ) nL fin cs ss pc l ((0, .int i) :: (23, .ref (SB + 400)) :: st) (grd (vpB i L) F) := by
  obtain ⟨⟨p, l9, e, R, s, m, args, below, meth, c⟩, ⟨D, g, A, Q⟩, M0, ad0⟩ := κ
  obtain ⟨hx, hb, -⟩ := hc
  obtain ⟨h1, h2, h3⟩ := hX
  intro M ad H locs ls a M' hF hfin hW hl hst
  obtain ⟨hP, hD, hS, hM, hn, hC, hex, hea⟩ := id hW
  obtain ⟨hy, hF⟩ := grd_some hF
  have e : ad (SB + 400) = ad0 (SB + 400) := hea _ (Or.inr (by omega))
  show W p l9 _ R s m args below meth c H locs cs ss Q (F0 m pc ls (.int i :: .ref (ad (SB + 400)) :: trS ad st))
  rw [e]
  refine va_sld hx hb h1 h2 h3 hS (vpB_in hy) hd ?_
  exact kk M ad H locs ls a M' hF hfin hW hl (okS_cons okW_i (okS_tl (okS_tl hst)))
/-- a call of the class's that may throw, caught by the law's wrapper -/
theorem J_callVC {fin : Int32 → Mm → Prop} (hc : Jc κ own cc nL fr mc ms lc) (he : Ed κ cc mc ms wI .ireturn fin) {hs : List (Nat × Int32)} (hh : ∀ k v, hCt hs k = some v → HdOk κ own cc nL pc k v) (hcl : ClOk ci C T N ty) {h : Nat} {y : MethodName} {b : ByteArray} {nL' : Nat} {ret' : Option FieldType} {fr' mc' ms' lc' index n : Nat} {As : List TV} {st0 : List TV} {Fc : Mm → Option ((Nat ⊕ β) × Mm)} {wr : β → Option Value} (hct : CtX wr y b nL' ret' fr' mc' ms' lc' ((ci, .ref h) :: As) Fc) (hd : decode cc pc = .ok (.invokevirtual index, 3)) (hmo : MOk y n) (hyc : y.cls = C) (hw1 : Cond.methodLink own index y ∈ TW) (hw2 : Cond.instanceMethod y ∈ TW) (hw3 : Cond.selects C y y ∈ TW) (hw4 : Cond.initialized C ∈ TW) (hc5 : Cond.code y b nL' ret' ∈ TW) (hlen : As.length = n) (hr1 : fr' + 1 ≤ fr) (hr2 : 8 + (nL' + 11) + lc' ≤ lc) (hr3 : cs + mc' ≤ mc) (hr4 : ss + ms' ≤ ms) (hs8 : (st.map (fun q => q.2.category)).sum ≤ 8) (hst0 : st0 = As.reverse ++ (ci, .ref h) :: st) {G1 : β → Mm → Option (Int32 × Mm)} (hwr : ∀ r x, wr r ≠ some (.ref x)) (kk : ∀ r, Jg κ (wM κ) nL fin (cs + mc') (ss + ms') (pc + 3) l ((wr r).toList.map (fun v => ((0, v) : TV)) ++ st) (G1 r)) : Jg κ (wM κ) nL fin cs ss pc l st0 (bndC Fc hs G1) := by
  subst hst0
  obtain ⟨⟨p, l9, e, R, s, m, args, below, meth, c⟩, ⟨D, g, A, Q⟩, M0, ad0⟩ := κ
  obtain ⟨hx, hb, hml, hown, hts, hK, hA, hst9, hlk, hR⟩ := hc
  subst hR
  intro M ad H locs ls a M' hF hfin hW hl hst
  obtain ⟨hP, hD, hS, hM, hn, hC, hex, hea⟩ := id hW
  obtain ⟨r9, M1, q1, hF⟩ := bnd_some hF
  obtain ⟨hsA, hsT⟩ := okS_app hst
  have hst := okS_tl hsT
  have hsR : okW (wM ((p, l9, e, _, s, m, args, below, meth, c), (D, g, A, Q), M0, ad0)) M (ci, .ref h) := okS_hd hsT
  have hav : okS0 M ((ci, .ref h) :: As) := fun q hq => by
    rcases List.mem_cons.mp hq with rfl | hq
    · exact hsR
    · exact okS_rev hsA q hq
  have hMet := hct l9 g D ad H.size M r9 M1 hst9 q1 hav
  obtain ⟨hc1, -, -, -, -, h9⟩ := hcl
  obtain ⟨hh9, hkd9⟩ : h < Mn M ∧ Mk M h = ci := (hsR h rfl).at (by omega)
  have he9 := (wl_get g ad hh9).trans (congrArg (fun x => some (ad h, x)) (ce_obj g ad hkd9 h9))
  have hrun := vx_runV (R := { frames := fr, cells := mc, slots := ms, locals := lc }) (C := C) (b := ad h) (As := trS ad As) (rest := trS ad st) (locs := locs) (cells := cs) (slots := ss) (p := p) (l := l9) (e := e) (below := below) (meth := meth) (g := F0 m pc ls (trS ad (As.reverse ++ (ci, .ref h) :: st))) ⟨hx, hb, hml, hown, hts⟩ hMet (cwV n hts (tw_V hw1 hw2 hw3 hw4 hc5) rfl rfl rfl ⟨hyc, hmo⟩ ⟨hr1, hr2⟩) ⟨wM0_blind, va_recv hK hP hc1 he9, fun U hU hW9 => ⟨rfl, wM0_at hP hD hS hA hK hM hn hC hU hW9⟩⟩ rfl (by unfold trS; rw [List.length_map]; exact hlen) hl.1.1 (trS_rev ad As ((ci, .ref h) :: st)) (lv_room (by rw [cat_tr]; exact hs8)) hd ⟨hr3, hr4⟩
  have hsub := wA_sub hD hS hA
  intro T0 hT0 X
  rcases hrun T0 hT0 X with ⟨v, st₀, t, T', L, h0, X', hL, e1, e2, ⟨⟨⟨b9, hrb, hv⟩, ad1, hP1, hD1, hM1, hn1, hx1, ha1⟩, hF9⟩, stp⟩ | ⟨q9, st₀, t, T', L, E, ce9, h0, X', hL, e1, e2, ⟨⟨⟨k9, hrk, hE⟩, ad1, hP1, hD1, hM1, hn1, hx1, ha1⟩, hF9⟩, hce, hcv, hcl9, stp⟩
  · subst hrb
    cases hv
    obtain ⟨k1, k2, k3⟩ := vx_keep h0 e1 hS (fun q _ h => hsub q h) hsub hL hF9
    rw [← e1] at hP1
    have e9 : trS ad1 ((wr b9).toList.map (fun v => ((0, v) : TV)) ++ st) = (wr b9).toList ++ trS ad st := by
      have e8 := trS_ex (κ := ((p, l9, e, _, s, m, args, below, meth, c), (D, g, A, Q), M0, ad0)) hn ha1 hst
      unfold trS at e8 ⊢
      rw [List.map_append, e8]
      cases hq : wr b9 with
      | none => rfl
      | some v =>
        cases v with
        | ref x => exact absurd hq (hwr b9 x)
        | _ => rfl
    have kk2 := kk b9 M1 ad1 T'.heap (locs ++ L) ls a M' hF hfin ⟨hP1, hD1.weaken (fun _ q _ h => hsub q.1 h), k3, hM1, hn1, hC.go (State.WarmedH.refl s) (fun _ _ _ => rfl) (fun _ z => z) (fun x hx => ha1 x (Or.inr hx)), hex.tr hx1, exA.tr hex.1 hea ha1⟩ (lvk_ex (κ := ((p, l9, e, _, s, m, args, below, meth, c), (D, g, A, Q), M0, ad0)) hn hx1 ha1 hl) (fun q hq => by
      rcases List.mem_append.mp hq with hq | hq
      · obtain ⟨v, hv, rfl⟩ := List.mem_map.mp hq
        intro x hx
        have hx : v = .ref x := hx
        subst hx
        cases hw9 : wr b9 with
        | none => rw [hw9] at hv; cases hv
        | some v9 =>
          rw [hw9] at hv
          have hv : (Value.ref x) = v9 := by simpa using hv
          exact absurd (hw9.trans (congrArg some hv.symm)) (hwr b9 x)
      · exact okS_ex (κ := ((p, l9, e, _, s, m, args, below, meth, c), (D, g, A, Q), M0, ad0)) hx1 hst q hq)
    rw [e9] at kk2
    obtain ⟨t2, a1, b1⟩ := kk2 T' rfl X'
    exact ⟨t2, stp t2 a1, b1⟩
  · subst hrk
    subst hE
    obtain ⟨k1, k2, k3⟩ := vx_keep h0 e1 hS (fun q _ h => hsub q h) hsub hL hF9
    rw [← e1] at hP1
    have hW1 : (wM ((p, l9, e, { frames := fr, cells := mc, slots := ms, locals := lc }, s, m, args, below, meth, c), (D, g, A, Q), M0, ad0)).1 M1 ad1 T'.heap (locs ++ L) := ⟨hP1, hD1.weaken (fun _ q _ h => hsub q.1 h), k3, hM1, hn1, hC.go (State.WarmedH.refl s) (fun _ _ _ => rfl) (fun _ z => z) (fun x hx => ha1 x (Or.inr hx)), hex.tr hx1, exA.tr hex.1 hea ha1⟩
    cases hv9 : hCt hs k9 with
    | none =>
      have hF : (match hCt hs k9 with | some v => rtn v | none => fail) M1 = some (a, M') := hF
      rw [hv9] at hF; cases hF
    | some v9 =>
      have hF : (match hCt hs k9 with | some v => rtn v | none => fail) M1 = some (a, M') := hF
      rw [hv9] at hF
      cases hF
      obtain ⟨pre, x, suf, g1, g2, g3, g4, g5, i, ln, w, g6, g7, g8, g9, g10⟩ := hh k9 a hv9
      have hcast : (Cond.castable (exN k9) (exN k9)).before args s = true := va_Nw.use rfl (hC.2.2.2.2.2.2.2.2.2.2.1 _ (exN_in k9))
      have fin9 : ∀ ls1 : Array Slot, W p l9 e { frames := fr, cells := mc, slots := ms, locals := lc } s m args below meth c T'.heap (locs ++ L) (cs + mc') (ss + ms') Q (F0 m (x.handlerPc + ln) ls1 []) := by
        intro ls1
        refine W.widen hr3 hr4 ?_
        refine lv_iconst hx hb g8 g9 ?_
        exact he a M' ad1 T'.heap (locs ++ L) _ ls1 hfin hW1 g10
      have kcat : W p l9 e { frames := fr, cells := mc, slots := ms, locals := lc } s m args below meth c T'.heap (locs ++ L) (cs + mc') (ss + ms') Q (F0 m x.handlerPc ls [.ref q9]) := by
        rcases g6 with ⟨d1, rfl⟩ | ⟨k0, d1, d2, rfl⟩
        · exact lv_astore hx hb d1 (lvk_has hl) g7 rfl (fun ls1 _ => fin9 ls1)
        · exact lv_astore_n hx hb d1 d2 (lvk_has hl) g7 rfl (fun ls1 _ => fin9 ls1)
      have hout := vx_catch (rest := trS ad st) (ls := ls) (pc := pc) hown pre x suf g1 g2 g3 g4 g5 hcast (by rw [e1]; exact hce) hcv hcl9 kcat
      obtain ⟨t2, a1, b1⟩ := hout T' rfl X'
      exact ⟨t2, stp.trans a1, b1⟩
theorem J_callSW {fin : α → Mm → Prop} (hc : Jc κ own cc nL fr mc ms lc) (hN : NcK κ) {y : MethodName} {b : ByteArray} {nL' : Nat} {ret' : Option FieldType} {hh : List (Nat × Nat × Nat × Nat)} {fr' mc' ms' lc' index n : Nat} {As : List TV} {st0 : List TV} {Fc : Mm → Option (Int32 × Mm)} (hct : CtW wI y b nL' ret' hh fr' mc' ms' lc' As Fc) (hd : decode cc pc = .ok (.invokestatic index, 3)) (hmo : MOk y n) (hw1 : Cond.methodLink own index y ∈ TW) (hw2 : Cond.static y ∈ TW) (hw4 : Cond.initialized y.cls ∈ TW) (hc5 : Cond.codeWith y b nL' ret' hh ∈ TW) (hlen : As.length = n) (hr1 : fr' + 1 ≤ fr) (hr2 : 8 + (nL' + 11) + lc' ≤ lc) (hr3 : cs + mc' ≤ mc) (hr4 : ss + ms' ≤ ms) (hs8 : (st.map (fun q => q.2.category)).sum ≤ 8) (hst0 : st0 = As.reverse ++ st) {G1 : Int32 → Mm → Option (α × Mm)} (kk : ∀ r, Jg κ (wM κ) nL fin (cs + mc') (ss + ms') (pc + 3) l ((0, .int r) :: st) (G1 r)) : Jg κ (wM κ) nL fin cs ss pc l st0 (bnd Fc G1) := by
  subst hst0
  obtain ⟨⟨p, l9, e, R, s, m, args, below, meth, c⟩, ⟨D, g, A, Q⟩, M0, ad0⟩ := κ
  obtain ⟨hx, hb, hml, hown, hts, hK, hA, hst9, hlk, hR⟩ := hc
  subst hR
  have hN : NcA s := hN
  intro M ad H locs ls a M' hF hfin hW hl hst
  obtain ⟨hP, hD, hS, hM, hn, hC, hex, hea⟩ := id hW
  obtain ⟨r9, M1, q1, hF⟩ := bnd_some hF
  obtain ⟨hsA, hst⟩ := okS_app hst
  have hav : okS0 M As := fun q hq => okS_rev hsA q hq
  have hMet := hct l9 g D ad H.size M r9 M1 hst9 q1 hav
  refine vq_call (vx_runSW (As := trS ad As) (rest := trS ad st) ⟨hx, hb, hml, hown, hts⟩ hMet (vx_cwSW n hts (tw_SW hw1 hw2 hw4 hc5) rfl rfl rfl hmo ⟨hr1, hr2⟩) ⟨wM0N_blind, fun U hU hW9 => ⟨rfl, by rw [hU], (wM0_at hP hD hS hA hK hM hn hC hU hW9).2, NcA.moved hW9.alike hN⟩⟩ rfl (by show (trS ad As).length = n; unfold trS; rw [List.length_map]; exact hlen) hl.1.1 (trS_rev ad As st) (lv_room (by rw [cat_tr]; exact hs8)) hd ⟨hr3, hr4⟩) hS (fun q _ h => wA_sub hD hS hA q h) (wA_sub hD hS hA) (fun t H1 locs1 ht hvm hB hz1 hk1 hS1 => ?_)
  obtain ⟨ad1, hP1, hD1, hM1, hn1, hx1, ha1⟩ := hB
  rw [ht] at hP1
  have e9 : trS ad1 ((0, .int r9) :: st) = (wI r9).toList ++ trS ad st := by
    have e8 := trS_ex (κ := ((p, l9, e, _, s, m, args, below, meth, c), (D, g, A, Q), M0, ad0)) hn ha1 hst
    unfold trS at e8 ⊢
    rw [List.map_cons, e8]; rfl
  rw [← e9]
  exact kk r9 M1 ad1 H1 locs1 ls a M' hF hfin ⟨hP1, hD1.weaken (fun _ q _ h => wA_sub hD hS hA q.1 h), hS1, hM1, hn1, hC.go (State.WarmedH.refl s) (fun _ _ _ => rfl) (fun _ z => z) (fun x hx => ha1 x (Or.inr hx)), hex.tr hx1, exA.tr hex.1 hea ha1⟩ (lvk_ex (κ := ((p, l9, e, _, s, m, args, below, meth, c), (D, g, A, Q), M0, ad0)) hn hx1 ha1 hl) (okS_cons okW_i (okS_ex (κ := ((p, l9, e, _, s, m, args, below, meth, c), (D, g, A, Q), M0, ad0)) hx1 hst))
end JrRows
/-- a wrapper's contract out of its body -/
theorem CtW_I {y : MethodName} {cc : ByteArray} {nL fr mc ms lc j : Nat} {own : String} {hh : List (Nat × Nat × Nat × Nat)} {av : List TV} {l0 : List (Option TV)} {F : Mm → Option (Int32 × Mm)} (hy : plainName y.cls = true) (hown : y.cls = own) (hl0 : entL av ++ List.replicate j none = l0) (hle : (entL av).length ≤ nL)
    (hb : ∀ (κ : Cx) (fin : Int32 → Mm → Prop), Jc κ own cc nL fr mc ms lc → Ed κ cc mc ms wI .ireturn fin → NcK κ → κ.1.2.2.2.2.2.2.2.2.2.exceptionTable.toList = tableOf hh → Jg κ (wM κ) nL fin 0 0 0 l0 [] F) : CtW wI y cc nL (some .int) hh fr mc ms lc av F := by
  intro l g D ad sz M r M' hl9 hF hav
  refine va_MetW (cc := cc) (maxL := nL) (ret := (some .int)) (hh := hh) hy rfl ?_
  intro p e s m args below meth c s₁ B hml hv
  obtain ⟨rfl, hsz, ⟨hP, hD0, hK, hM, hn, hC⟩, hN⟩ := hv
  subst hsz
  have hws : ∀ w ∈ wsYW y cc nL (some .int) hh, w.before (trS ad av).toArray s = true := atoms_spec (ws := wsYW y cc nL (some .int) hh) B.pre
  have hts : ∀ w ∈ TW, w.before (trS ad av).toArray s = true := fun w hw => hws w (List.mem_cons_of_mem _ hw)
  have htab : c.exceptionTable.toList = tableOf hh := vx_table (x := y) B (hws _ List.mem_cons_self)
  have hown9 : s.vm.findClass own = some m.cls := by rw [← hown]; exact findClass_of_methodNamed B.named
  rw [lg_entry_eq]
  refine hb ((p, l, e, rmR fr mc ms lc, s, m, (trS ad av).toArray, below, meth, c), (D, g, va_A (wl g ad M) s.heap.size, _), (M, ad)) (fun a M1 => a = r ∧ M1 = M') ⟨B.exec, B.bytes, hml, hown9, hts, hK, fun q h => Or.inr h, hl9, B.notSynchronized, rfl⟩ ?_ hN htab M ad s.heap [] _ r M' hF ⟨rfl, rfl⟩ ⟨hP, hD0.self, va_S.rf, hM, hn, hC, exM.rf M, exA.rf _ _⟩ (lvk_entry (κ := ((p, l, e, rmR fr mc ms lc, s, m, (trS ad av).toArray, below, meth, c), (D, g, va_A (wl g ad M) s.heap.size, _), (M, ad))) hav hl0 hle) (fun q hq => by cases hq)
  intro a M1 ad1 H locs pc ls hfin hW hd
  obtain ⟨rfl, rfl⟩ := hfin
  obtain ⟨hP1, hD1, hS1, hM1, hn1, -, hx1, ha1⟩ := hW
  dsimp only [wI, Option.toList]
  exact W.iret B.exec B.bytes B.returns (fun t ht hWm => ⟨⟨rfl, ad1, by rw [ht]; exact hP1, hD1, hM1, hn1, hx1, ha1⟩, hS1.F ht⟩) hS1.2.2 hd (hlocks := B.notSynchronized)
theorem J_callVf {α : Type} {κ : Cx} {own : String} {cc : ByteArray} {nL fr mc ms lc cs ss pc : Nat} {l : List (Option TV)} {st : List TV} {ci N : Nat} {C : String} {T : u_T} {ty : Nat → FieldType} {fin : α → Mm → Prop} (hc : Jc κ own cc nL fr mc ms lc) (hcl : ClOk ci C T N ty) {h : Nat} {y : MethodName} {b : ByteArray} {nL' : Nat} {ret' : Option FieldType} {fr' mc' ms' lc' index n : Nat} {As : List TV} {st0 : List TV} {Fc : Mm → Option (UInt32 × Mm)} (hct : Ct wF y b nL' ret' fr' mc' ms' lc' ((ci, .ref h) :: As) Fc) (hd : decode cc pc = .ok (.invokevirtual index, 3)) (hmo : MOk y n) (hyc : y.cls = C) (hw1 : Cond.methodLink own index y ∈ TW) (hw2 : Cond.instanceMethod y ∈ TW) (hw3 : Cond.selects C y y ∈ TW) (hw4 : Cond.initialized C ∈ TW) (hc5 : Cond.code y b nL' ret' ∈ TW) (hlen : As.length = n) (hr1 : fr' + 1 ≤ fr) (hr2 : 8 + (nL' + 11) + lc' ≤ lc) (hr3 : cs + mc' ≤ mc) (hr4 : ss + ms' ≤ ms) (hs8 : (st.map (fun q => q.2.category)).sum ≤ 8) (hst0 : st0 = As.reverse ++ (ci, .ref h) :: st) {G1 : UInt32 → Mm → Option (α × Mm)} (kk : ∀ r, Jg κ (wM κ) nL fin (cs + mc') (ss + ms') (pc + 3) l ((0, .float r) :: st) (G1 r)) : Jg κ (wM κ) nL fin cs ss pc l st0 (bnd Fc G1) :=
  J_callV hc hcl hct hd hmo hyc hw1 hw2 hw3 hw4 hc5 hlen hr1 hr2 hr3 hr4 hs8 hst0 (fun _ _ h => by cases h) kk
theorem J_callVd {α : Type} {κ : Cx} {own : String} {cc : ByteArray} {nL fr mc ms lc cs ss pc : Nat} {l : List (Option TV)} {st : List TV} {ci N : Nat} {C : String} {T : u_T} {ty : Nat → FieldType} {fin : α → Mm → Prop} (hc : Jc κ own cc nL fr mc ms lc) (hcl : ClOk ci C T N ty) {h : Nat} {y : MethodName} {b : ByteArray} {nL' : Nat} {ret' : Option FieldType} {fr' mc' ms' lc' index n : Nat} {As : List TV} {st0 : List TV} {Fc : Mm → Option (UInt64 × Mm)} (hct : Ct wD y b nL' ret' fr' mc' ms' lc' ((ci, .ref h) :: As) Fc) (hd : decode cc pc = .ok (.invokevirtual index, 3)) (hmo : MOk y n) (hyc : y.cls = C) (hw1 : Cond.methodLink own index y ∈ TW) (hw2 : Cond.instanceMethod y ∈ TW) (hw3 : Cond.selects C y y ∈ TW) (hw4 : Cond.initialized C ∈ TW) (hc5 : Cond.code y b nL' ret' ∈ TW) (hlen : As.length = n) (hr1 : fr' + 1 ≤ fr) (hr2 : 8 + (nL' + 11) + lc' ≤ lc) (hr3 : cs + mc' ≤ mc) (hr4 : ss + ms' ≤ ms) (hs8 : (st.map (fun q => q.2.category)).sum ≤ 8) (hst0 : st0 = As.reverse ++ (ci, .ref h) :: st) {G1 : UInt64 → Mm → Option (α × Mm)} (kk : ∀ r, Jg κ (wM κ) nL fin (cs + mc') (ss + ms') (pc + 3) l ((0, .double r) :: st) (G1 r)) : Jg κ (wM κ) nL fin cs ss pc l st0 (bnd Fc G1) :=
  J_callV hc hcl hct hd hmo hyc hw1 hw2 hw3 hw4 hc5 hlen hr1 hr2 hr3 hr4 hs8 hst0 (fun _ _ h => by cases h) kk
