/-! ENDS AND THROWS; a contract out of its body -/
def Ed (κ : Cx) (cc : ByteArray) (mc ms : Nat) {α : Type} (wr : α → Option Value) (ins : Instr) (fin : α → Mm → Prop) : Prop :=
  match κ with
  | ((p, l9, e, R, s, m, args, below, meth, c), X, Y) => ∀ (a : α) (M : Mm) (ad : Nat → Nat) (H : Heap) (locs : List Loc) (pc : Nat) (ls : Array Slot), fin a M → (wM ((p, l9, e, R, s, m, args, below, meth, c), X, Y)).1 M ad H locs → decode cc pc = .ok (ins, 1) → W p l9 e R s m args below meth c H locs mc ms X.2.2.2 (F0 m pc ls (wr a).toList)
/-- an int of a small type -/
def EdZ (κ : Cx) (cc : ByteArray) (mc ms : Nat) {α : Type} (inj : Int32 → α) (fin : α → Mm → Prop) : Prop :=
  match κ with
  | ((p, l9, e, R, s, m, args, below, meth, c), X, Y) => ∀ (a : Int32) (M : Mm) (ad : Nat → Nat) (H : Heap) (locs : List Loc) (pc : Nat) (ls : Array Slot), (a = 0 ∨ a = 1) → fin (inj a) M → (wM ((p, l9, e, R, s, m, args, below, meth, c), X, Y)).1 M ad H locs → decode cc pc = .ok (.ireturn, 1) → W p l9 e R s m args below meth c H locs mc ms X.2.2.2 (F0 m pc ls [.int a])
/-- a throw's exit -/
def EdX (κ : Cx) (mc ms : Nat) {β : Type} (fin : (Nat ⊕ β) → Mm → Prop) : Prop :=
  match κ with
  | ((p, l9, e, R, s, m, args, below, meth, c), (D, g, A, Q), Y) => (∀ x ∈ c.exceptionTable.toList, False) ∧ ∃ (Qc : Array Value → State → Outcome → State → Prop) (XC : String → State → State → Prop), Q = vx_MQ below Qc XC args s mc ms A ∧
      ∀ (k : Nat) (M : Mm) (ad : Nat → Nat) (H : Heap) (locs : List Loc) (t : State), fin (.inl k) M → (wM ((p, l9, e, R, s, m, args, below, meth, c), (D, g, A, Q), Y)).1 M ad H locs → s.vm.Alike t.vm → H.size ≤ t.heap.size → (∀ q : Nat, q < H.size → t.heap[q]? = H[q]?) → XC (exN k) s t
def bndX {σ α β : Type} (m : σ → Option ((Nat ⊕ β) × σ)) (k : β → σ → Option ((Nat ⊕ α) × σ)) : σ → Option ((Nat ⊕ α) × σ) := bnd m (fun r => match r with
  | .inl e => rtn (.inl e)
  | .inr b => k b)
section JeRows
variable {α β : Type} {κ : Cx} {own : String} {cc : ByteArray} {nL fr mc ms lc : Nat} {cs ss pc : Nat} {l l' : List (Option TV)} {st : List TV} {ci N : Nat} {C : String} {T : u_T} {ty : Nat → FieldType}
/-- a computed value gets a name -/
theorem J_nmi {σ : Type} {ω : Wp σ} {fin : α → σ → Prop} {x : Int32} {F : Int32 → σ → Option (α × σ)} (kk : ∀ y, Jg κ ω nL fin cs ss pc l ((0, .int y) :: st) (F y)) : Jg κ ω nL fin cs ss pc l ((0, .int x) :: st) (bnd (rtn x) F) := kk x
theorem J_nml {σ : Type} {ω : Wp σ} {fin : α → σ → Prop} {x : Int64} {F : Int64 → σ → Option (α × σ)} (kk : ∀ y, Jg κ ω nL fin cs ss pc l ((0, .long y) :: st) (F y)) : Jg κ ω nL fin cs ss pc l ((0, .long x) :: st) (bnd (rtn x) F) := kk x

theorem J_iret {fin : Int32 → Mm → Prop} (he : Ed κ cc mc ms wI .ireturn fin) {v : Int32} (hd : decode cc pc = .ok (.ireturn, 1)) : Jg κ (wM κ) nL fin mc ms pc l [(0, .int v)] (rtn v) := by
  obtain ⟨⟨p, l9, e, R, s, m, args, below, meth, c⟩, ⟨D, g, A, Q⟩, M0, ad0⟩ := κ
  intro M ad H locs ls a M' hF hfin hW hl hst
  cases hF
  exact he v M ad H locs pc ls hfin hW hd
theorem J_iretX {fin : (Nat ⊕ Int32) → Mm → Prop} (he : Ed κ cc mc ms (fun (b : Int32) => wI b) .ireturn (fun b M => fin (.inr b) M)) {v : Int32} (hd : decode cc pc = .ok (.ireturn, 1)) : Jg κ (wM κ) nL fin mc ms pc l [(0, .int v)] (rtn (.inr v)) := by
  obtain ⟨⟨p, l9, e, R, s, m, args, below, meth, c⟩, ⟨D, g, A, Q⟩, M0, ad0⟩ := κ
  intro M ad H locs ls a M' hF hfin hW hl hst
  cases hF
  exact he v M ad H locs pc ls hfin hW hd
theorem J_lret {fin : Int64 → Mm → Prop} (he : Ed κ cc mc ms wJ .lreturn fin) {v : Int64} (hd : decode cc pc = .ok (.lreturn, 1)) : Jg κ (wM κ) nL fin mc ms pc l [(0, .long v)] (rtn v) := by
  obtain ⟨⟨p, l9, e, R, s, m, args, below, meth, c⟩, ⟨D, g, A, Q⟩, M0, ad0⟩ := κ
  intro M ad H locs ls a M' hF hfin hW hl hst
  cases hF
  exact he v M ad H locs pc ls hfin hW hd
theorem J_lretX {fin : (Nat ⊕ Int64) → Mm → Prop} (he : Ed κ cc mc ms (fun (b : Int64) => wJ b) .lreturn (fun b M => fin (.inr b) M)) {v : Int64} (hd : decode cc pc = .ok (.lreturn, 1)) : Jg κ (wM κ) nL fin mc ms pc l [(0, .long v)] (rtn (.inr v)) := by
  obtain ⟨⟨p, l9, e, R, s, m, args, below, meth, c⟩, ⟨D, g, A, Q⟩, M0, ad0⟩ := κ
  intro M ad H locs ls a M' hF hfin hW hl hst
  cases hF
  exact he v M ad H locs pc ls hfin hW hd
theorem J_fret {fin : UInt32 → Mm → Prop} (he : Ed κ cc mc ms wF .freturn fin) {v : UInt32} (hd : decode cc pc = .ok (.freturn, 1)) : Jg κ (wM κ) nL fin mc ms pc l [(0, .float v)] (rtn v) := by
  obtain ⟨⟨p, l9, e, R, s, m, args, below, meth, c⟩, ⟨D, g, A, Q⟩, M0, ad0⟩ := κ
  intro M ad H locs ls a M' hF hfin hW hl hst
  cases hF
  exact he v M ad H locs pc ls hfin hW hd
theorem J_dret {fin : UInt64 → Mm → Prop} (he : Ed κ cc mc ms wD .dreturn fin) {v : UInt64} (hd : decode cc pc = .ok (.dreturn, 1)) : Jg κ (wM κ) nL fin mc ms pc l [(0, .double v)] (rtn v) := by
  obtain ⟨⟨p, l9, e, R, s, m, args, below, meth, c⟩, ⟨D, g, A, Q⟩, M0, ad0⟩ := κ
  intro M ad H locs ls a M' hF hfin hW hl hst
  cases hF
  exact he v M ad H locs pc ls hfin hW hd
theorem J_vret {fin : Unit → Mm → Prop} (he : Ed κ cc mc ms wV .return_ fin) (hd : decode cc pc = .ok (.return_, 1)) : Jg κ (wM κ) nL fin mc ms pc l [] (rtn ()) := by
  obtain ⟨⟨p, l9, e, R, s, m, args, below, meth, c⟩, ⟨D, g, A, Q⟩, M0, ad0⟩ := κ
  intro M ad H locs ls a M' hF hfin hW hl hst
  cases hF
  exact he () M ad H locs pc ls hfin hW hd
theorem J_vretX {fin : (Nat ⊕ Unit) → Mm → Prop} (he : Ed κ cc mc ms (fun (b : Unit) => wV b) .return_ (fun b M => fin (.inr b) M)) (hd : decode cc pc = .ok (.return_, 1)) : Jg κ (wM κ) nL fin mc ms pc l [] (rtn (.inr ())) := by
  obtain ⟨⟨p, l9, e, R, s, m, args, below, meth, c⟩, ⟨D, g, A, Q⟩, M0, ad0⟩ := κ
  intro M ad H locs ls a M' hF hfin hW hl hst
  cases hF
  exact he () M ad H locs pc ls hfin hW hd
theorem J_zret {fin : Int32 → Mm → Prop} (he : EdZ κ cc mc ms id fin) {v : Int32} (hd : decode cc pc = .ok (.ireturn, 1)) : Jg κ (wM κ) nL fin mc ms pc l [(0, .int v)] (grd (v == 0 || v == 1) (rtn v)) := by
  obtain ⟨⟨p, l9, e, R, s, m, args, below, meth, c⟩, ⟨D, g, A, Q⟩, M0, ad0⟩ := κ
  intro M ad H locs ls a M' hF hfin hW hl hst
  obtain ⟨hv, hF⟩ := grd_some hF
  cases hF
  exact he v M ad H locs pc ls (by simpa using hv) hfin hW hd
theorem J_callVX {fin : (Nat ⊕ α) → Mm → Prop} (hc : Jc κ own cc nL fr mc ms lc) (hX : EdX κ mc ms fin) (hcl : ClOk ci C T N ty) {h : Nat} {y : MethodName} {b : ByteArray} {nL' : Nat} {ret' : Option FieldType} {fr' mc' ms' lc' index n : Nat} {As : List TV} {st0 : List TV} {Fc : Mm → Option ((Nat ⊕ β) × Mm)} {wr : β → Option Value} (hct : CtX wr y b nL' ret' fr' mc' ms' lc' ((ci, .ref h) :: As) Fc) (hd : decode cc pc = .ok (.invokevirtual index, 3)) (hmo : MOk y n) (hyc : y.cls = C) (hw1 : Cond.methodLink own index y ∈ TW) (hw2 : Cond.instanceMethod y ∈ TW) (hw3 : Cond.selects C y y ∈ TW) (hw4 : Cond.initialized C ∈ TW) (hc5 : Cond.code y b nL' ret' ∈ TW) (hlen : As.length = n) (hr1 : fr' + 1 ≤ fr) (hr2 : 8 + (nL' + 11) + lc' ≤ lc) (hr3 : cs + mc' ≤ mc) (hr4 : ss + ms' ≤ ms) (hs8 : (st.map (fun q => q.2.category)).sum ≤ 8) (hst0 : st0 = As.reverse ++ (ci, .ref h) :: st) {G1 : β → Mm → Option ((Nat ⊕ α) × Mm)} (hwr : ∀ r x, wr r ≠ some (.ref x)) (kk : ∀ r, Jg κ (wM κ) nL fin (cs + mc') (ss + ms') (pc + 3) l ((wr r).toList.map (fun v => ((0, v) : TV)) ++ st) (G1 r)) : Jg κ (wM κ) nL fin cs ss pc l st0 (bndX Fc G1) := by
  subst hst0
  obtain ⟨⟨p, l9, e, R, s, m, args, below, meth, c⟩, ⟨D, g, A, Q⟩, M0, ad0⟩ := κ
  obtain ⟨hx, hb, hml, hown, hts, hK, hA, hst9, hlk, hR⟩ := hc
  subst hR
  obtain ⟨hex0, Qc, XC, hQ, hXC⟩ := hX
  intro M ad H locs ls a M' hF hfin hW hl hst
  obtain ⟨hP, hD, hS, hM, hn, hC, hex, hea⟩ := id hW
  obtain ⟨r9, M1, q1, hF⟩ := bnd_some hF
  obtain ⟨hsA, hsT⟩ := okS_app hst
  have hst := okS_tl hsT
  have hsR : okW (wM ((p, l9, e, _, s, m, args, below, meth, c), (D, g, A, Q), M0, ad0)) M (ci, .ref h) := okS_hd hsT
  have hav : okS0 M ((ci, .ref h) :: As) := fun q hq => by
    rcases List.mem_cons.mp hq with rfl | hq
    · exact hsR
    · exact okS_rev hsA q hq
  have hMet := hct l9 g D ad H.size M r9 M1 hst9 q1 hav
  obtain ⟨hc1, -, -, -, -, h9⟩ := hcl
  obtain ⟨hh, hkd9⟩ : h < Mn M ∧ Mk M h = ci := (hsR h rfl).at (by omega)
  have he := (wl_get g ad hh).trans (congrArg (fun x => some (ad h, x)) (ce_obj g ad hkd9 h9))
  have hrun := vx_runV (R := { frames := fr, cells := mc, slots := ms, locals := lc }) (C := C) (b := ad h) (As := trS ad As) (rest := trS ad st) (locs := locs) (cells := cs) (slots := ss) (p := p) (l := l9) (e := e) (below := below) (meth := meth) (g := F0 m pc ls (trS ad (As.reverse ++ (ci, .ref h) :: st))) ⟨hx, hb, hml, hown, hts⟩ hMet (cwV n hts (tw_V hw1 hw2 hw3 hw4 hc5) rfl rfl rfl ⟨hyc, hmo⟩ ⟨hr1, hr2⟩) ⟨wM0_blind, va_recv hK hP hc1 he, fun U hU hW9 => ⟨rfl, wM0_at hP hD hS hA hK hM hn hex.2.2 hC hU hW9⟩⟩ rfl (by unfold trS; rw [List.length_map]; exact hlen) hl.1.1 (trS_rev ad As ((ci, .ref h) :: st)) (lv_room (by rw [cat_tr]; exact hs8)) hd ⟨hr3, hr4⟩
  have hsub := wA_sub hD hS hA
  intro T0 hT0 X
  rcases hrun T0 hT0 X with ⟨v, st₀, t, T', L, h0, X', hL, e1, e2, ⟨⟨⟨b9, hrb, hv⟩, ad1, hP1, hD1, hM1, hn1, hx1, ha1⟩, hF9⟩, stp⟩ | ⟨q9, st₀, t, T', L, E, ce9, h0, X', hL, e1, e2, ⟨⟨⟨k9, hrk, hE⟩, ad1, hP1, hD1, hM1, hn1, hx1, ha1⟩, hF9⟩, hce, hcv, hcl9, stp⟩
  · subst hrb
    cases hv
    obtain ⟨k1, k2, k3⟩ := vx_keep h0 e1 hS (fun q _ h => hsub q h) hsub hL hF9
    rw [← e1] at hP1
    have e9 : trS ad1 ((wr b9).toList.map (fun v => ((0, v) : TV)) ++ st) = (wr b9).toList ++ trS ad st := by
      have e8 := trS_ex (κ := ((p, l9, e, _, s, m, args, below, meth, c), (D, g, A, Q), M0, ad0)) hn ha1 hst
      unfold trS at e8 ⊢
      rw [List.map_append, e8]
      cases hq : wr b9 with
      | none => rfl
      | some v =>
        cases v with
        | ref x => exact absurd hq (hwr b9 x)
        | _ => rfl
    have kk2 := kk b9 M1 ad1 T'.heap (locs ++ L) ls a M' hF hfin ⟨hP1, hD1.weaken (fun _ q _ h => hsub q.1 h), k3, hM1, hn1, hC.go (State.WarmedH.refl s) (fun _ _ _ => rfl) (fun _ z => z) (fun x hx => ha1 x (Or.inr hx)), hex.tr hx1, exA.tr hex.1 hea ha1⟩ (lvk_ex (κ := ((p, l9, e, _, s, m, args, below, meth, c), (D, g, A, Q), M0, ad0)) hn hx1 ha1 hl) (fun q hq => by
      rcases List.mem_append.mp hq with hq | hq
      · obtain ⟨v, hv, rfl⟩ := List.mem_map.mp hq
        intro x hx
        have hx : v = .ref x := hx
        subst hx
        cases hw9 : wr b9 with
        | none => rw [hw9] at hv; cases hv
        | some v9 =>
          rw [hw9] at hv
          have hv : (Value.ref x) = v9 := by simpa using hv
          exact absurd (hw9.trans (congrArg some hv.symm)) (hwr b9 x)
      · exact okS_ex (κ := ((p, l9, e, _, s, m, args, below, meth, c), (D, g, A, Q), M0, ad0)) hx1 hst q hq)
    rw [e9] at kk2
    obtain ⟨t2, a1, b1⟩ := kk2 T' rfl X'
    exact ⟨t2, stp t2 a1, b1⟩
  · subst hrk
    subst hE
    obtain ⟨k1, k2, k3⟩ := vx_keep h0 e1 hS (fun q _ h => hsub q h) hsub hL hF9
    rw [← e1] at hP1
    cases hF
    have hW1 : (wM ((p, l9, e, { frames := fr, cells := mc, slots := ms, locals := lc }, s, m, args, below, meth, c), (D, g, A, Q), M0, ad0)).1 M' ad1 T'.heap (locs ++ L) := ⟨hP1, hD1.weaken (fun _ q _ h => hsub q.1 h), k3, hM1, hn1, hC.go (State.WarmedH.refl s) (fun _ _ _ => rfl) (fun _ z => z) (fun x hx => ha1 x (Or.inr hx)), hex.tr hx1, exA.tr hex.1 hea ha1⟩
    have hout : vx_W p l9 e { frames := fr, cells := mc, slots := ms, locals := lc } s m args below meth c T'.heap (locs ++ L) (cs + mc') (ss + ms') (vx_MQ below Qc XC args s mc ms A) (F0 m pc ls (trS ad st)) q9 := vx_out (fun x hx => (hex0 x hx).elim) hlk (by rw [e1]; exact hce) hcv hcl9 (fun t2 ht2 hal => hXC k9 M' ad1 T'.heap (locs ++ L) t2 hfin hW1 hal (by rw [ht2]; exact Nat.le_refl _) (fun _ _ => by rw [ht2])) k3.2.2 hr3 hr4
    obtain ⟨t2, a1, b1⟩ := hout T' rfl X'
    rw [hQ]
    exact ⟨t2, stp.trans a1, b1⟩
theorem J_callSX {fin : (Nat ⊕ α) → Mm → Prop} (hc : Jc κ own cc nL fr mc ms lc) (hX : EdX κ mc ms fin) {y : MethodName} {b : ByteArray} {nL' : Nat} {ret' : Option FieldType} {fr' mc' ms' lc' index n : Nat} {As : List TV} {st0 : List TV} {Fc : Mm → Option ((Nat ⊕ β) × Mm)} {wr : β → Option Value} (hct : CtX wr y b nL' ret' fr' mc' ms' lc' As Fc) (hd : decode cc pc = .ok (.invokestatic index, 3)) (hmo : MOk y n) (hw1 : Cond.methodLink own index y ∈ TW) (hw2 : Cond.static y ∈ TW) (hw4 : Cond.initialized y.cls ∈ TW) (hc5 : Cond.code y b nL' ret' ∈ TW) (hlen : As.length = n) (hr1 : fr' + 1 ≤ fr) (hr2 : 8 + (nL' + 11) + lc' ≤ lc) (hr3 : cs + mc' ≤ mc) (hr4 : ss + ms' ≤ ms) (hs8 : (st.map (fun q => q.2.category)).sum ≤ 8) (hst0 : st0 = As.reverse ++ st) {G1 : β → Mm → Option ((Nat ⊕ α) × Mm)} (hwr : ∀ r x, wr r ≠ some (.ref x)) (kk : ∀ r, Jg κ (wM κ) nL fin (cs + mc') (ss + ms') (pc + 3) l ((wr r).toList.map (fun v => ((0, v) : TV)) ++ st) (G1 r)) : Jg κ (wM κ) nL fin cs ss pc l st0 (bndX Fc G1) := by
  subst hst0
  obtain ⟨⟨p, l9, e, R, s, m, args, below, meth, c⟩, ⟨D, g, A, Q⟩, M0, ad0⟩ := κ
  obtain ⟨hx, hb, hml, hown, hts, hK, hA, hst9, hlk, hR⟩ := hc
  subst hR
  obtain ⟨hex0, Qc, XC, hQ, hXC⟩ := hX
  intro M ad H locs ls a M' hF hfin hW hl hst
  obtain ⟨hP, hD, hS, hM, hn, hC, hex, hea⟩ := id hW
  obtain ⟨r9, M1, q1, hF⟩ := bnd_some hF
  obtain ⟨hsA, hst⟩ := okS_app hst
  have hav : okS0 M As := fun q hq => okS_rev hsA q hq
  have hMet := hct l9 g D ad H.size M r9 M1 hst9 q1 hav
  have hrun := vx_runS (R := { frames := fr, cells := mc, slots := ms, locals := lc }) (As := trS ad As) (rest := trS ad st) (locs := locs) (cells := cs) (slots := ss) (p := p) (l := l9) (e := e) (below := below) (meth := meth) (g := F0 m pc ls (trS ad (As.reverse ++ st))) ⟨hx, hb, hml, hown, hts⟩ hMet (va_cwS n hts (tw_S hw1 hw2 hw4 hc5) rfl rfl rfl hmo ⟨hr1, hr2⟩) ⟨wM0_blind, fun U hU hW9 => ⟨rfl, wM0_at hP hD hS hA hK hM hn hex.2.2 hC hU hW9⟩⟩ rfl (by unfold trS; rw [List.length_map]; exact hlen) hl.1.1 (trS_rev ad As st) (lv_room (by rw [cat_tr]; exact hs8)) hd ⟨hr3, hr4⟩
  have hsub := wA_sub hD hS hA
  intro T0 hT0 X
  rcases hrun T0 hT0 X with ⟨v, st₀, t, T', L, h0, X', hL, e1, e2, ⟨⟨⟨b9, hrb, hv⟩, ad1, hP1, hD1, hM1, hn1, hx1, ha1⟩, hF9⟩, stp⟩ | ⟨q9, st₀, t, T', L, E, ce9, h0, X', hL, e1, e2, ⟨⟨⟨k9, hrk, hE⟩, ad1, hP1, hD1, hM1, hn1, hx1, ha1⟩, hF9⟩, hce, hcv, hcl9, stp⟩
  · subst hrb
    cases hv
    obtain ⟨k1, k2, k3⟩ := vx_keep h0 e1 hS (fun q _ h => hsub q h) hsub hL hF9
    rw [← e1] at hP1
    have e9 : trS ad1 ((wr b9).toList.map (fun v => ((0, v) : TV)) ++ st) = (wr b9).toList ++ trS ad st := by
      have e8 := trS_ex (κ := ((p, l9, e, _, s, m, args, below, meth, c), (D, g, A, Q), M0, ad0)) hn ha1 hst
      unfold trS at e8 ⊢
      rw [List.map_append, e8]
      cases hq : wr b9 with
      | none => rfl
      | some v =>
        cases v with
        | ref x => exact absurd hq (hwr b9 x)
        | _ => rfl
    have kk2 := kk b9 M1 ad1 T'.heap (locs ++ L) ls a M' hF hfin ⟨hP1, hD1.weaken (fun _ q _ h => hsub q.1 h), k3, hM1, hn1, hC.go (State.WarmedH.refl s) (fun _ _ _ => rfl) (fun _ z => z) (fun x hx => ha1 x (Or.inr hx)), hex.tr hx1, exA.tr hex.1 hea ha1⟩ (lvk_ex (κ := ((p, l9, e, _, s, m, args, below, meth, c), (D, g, A, Q), M0, ad0)) hn hx1 ha1 hl) (fun q hq => by
      rcases List.mem_append.mp hq with hq | hq
      · obtain ⟨v, hv, rfl⟩ := List.mem_map.mp hq
        intro x hx
        have hx : v = .ref x := hx
        subst hx
        cases hw9 : wr b9 with
        | none => rw [hw9] at hv; cases hv
        | some v9 =>
          rw [hw9] at hv
          have hv : (Value.ref x) = v9 := by simpa using hv
          exact absurd (hw9.trans (congrArg some hv.symm)) (hwr b9 x)
      · exact okS_ex (κ := ((p, l9, e, _, s, m, args, below, meth, c), (D, g, A, Q), M0, ad0)) hx1 hst q hq)
    rw [e9] at kk2
    obtain ⟨t2, a1, b1⟩ := kk2 T' rfl X'
    exact ⟨t2, stp t2 a1, b1⟩
  · subst hrk
    subst hE
    obtain ⟨k1, k2, k3⟩ := vx_keep h0 e1 hS (fun q _ h => hsub q h) hsub hL hF9
    rw [← e1] at hP1
    cases hF
    have hW1 : (wM ((p, l9, e, { frames := fr, cells := mc, slots := ms, locals := lc }, s, m, args, below, meth, c), (D, g, A, Q), M0, ad0)).1 M' ad1 T'.heap (locs ++ L) := ⟨hP1, hD1.weaken (fun _ q _ h => hsub q.1 h), k3, hM1, hn1, hC.go (State.WarmedH.refl s) (fun _ _ _ => rfl) (fun _ z => z) (fun x hx => ha1 x (Or.inr hx)), hex.tr hx1, exA.tr hex.1 hea ha1⟩
    have hout : vx_W p l9 e { frames := fr, cells := mc, slots := ms, locals := lc } s m args below meth c T'.heap (locs ++ L) (cs + mc') (ss + ms') (vx_MQ below Qc XC args s mc ms A) (F0 m pc ls (trS ad st)) q9 := vx_out (fun x hx => (hex0 x hx).elim) hlk (by rw [e1]; exact hce) hcv hcl9 (fun t2 ht2 hal => hXC k9 M' ad1 T'.heap (locs ++ L) t2 hfin hW1 hal (by rw [ht2]; exact Nat.le_refl _) (fun _ _ => by rw [ht2])) k3.2.2 hr3 hr4
    obtain ⟨t2, a1, b1⟩ := hout T' rfl X'
    rw [hQ]
    exact ⟨t2, stp.trans a1, b1⟩

def nmX : List String := ["java/lang/RuntimeException", "java/lang/Exception"]
def cdX (own : String) (ic : Nat) (E : String) : Prop := (∀ w ∈ (vx_atS own ic E nmX).filter goodWord, w ∈ lw_tbl) ∧ (∀ w ∈ (vx_atS own ic E nmX).filter (fun w => !goodWord w), w ∈ Cond.castable E E :: ycN.map (fun y => Cond.declares (Bundle.initS y))) ∧ (∀ w ∈ vx_atS own ic E nmX, vx_ot w = true) ∧ Bundle.fit E = true ∧ E ∈ xcN
theorem cdX0 : cdX RX7 80 "java/lang/IllegalArgumentException" := ⟨by decide +kernel, by decide +kernel, by decide +kernel, by decide +kernel, by decide +kernel⟩
theorem cdX1 : cdX RX7 69 "java/lang/IllegalStateException" := ⟨by decide +kernel, by decide +kernel, by decide +kernel, by decide +kernel, by decide +kernel⟩
theorem cdX2 : cdX RX7 226 "java/lang/IndexOutOfBoundsException" := ⟨by decide +kernel, by decide +kernel, by decide +kernel, by decide +kernel, by decide +kernel⟩
theorem nmX_fit : ∀ n ∈ nmX, Bundle.fit n = true := by decide +kernel
/-- 'throw new E("text")': k the exception, i the text's place in sK -/
theorem J_throw {fin : (Nat ⊕ α) → Mm → Prop} (hc : Jc κ own cc nL fr mc ms lc) (hX : EdX κ mc ms fin) {k ik is ic i : Nat} {tx : String} (hcd : cdX own ic (exN k)) (hi : sK[i]? = some (own, is, tx)) (h1 : Cond.classLink own ik (exN k) ∈ TW) (h2 : Cond.initialized (exN k) ∈ TW) (d0 : decode cc pc = .ok (.new ik, 3)) (d3 : decode cc (pc + 3) = .ok (.dup, 1)) (d4 : decode cc (pc + 4) = .ok (.ldc is, 2)) (d6 : decode cc (pc + 6) = .ok (.invokespecial ic, 3)) (d9 : decode cc (pc + 9) = .ok (.athrow, 1))
    (hfr : 5 < fr) (hlc : 100 ≤ lc) (hs8 : (st.map (fun q => q.2.category)).sum ≤ 8) (hcs : cs + 1 ≤ mc) (hss : ss + 6 ≤ ms) : Jg κ (wM κ) nL fin cs ss pc l st (rtn (.inl k)) := by
  obtain ⟨⟨p, l9, e, R, s, m, args, below, meth, c⟩, ⟨D, g, A, Q⟩, M0, ad0⟩ := κ
  obtain ⟨hx, hb, hml, hown, hts, hK, hA, hst9, hlk, hR⟩ := hc
  subst hR
  obtain ⟨hex0, Qc, XC, hQ, hXC⟩ := hX
  intro M ad H locs ls a M' hF hfin hW hl hst
  obtain ⟨hP, hD, hS, hM, hn, hC, hex, hea⟩ := id hW
  cases hF
  obtain ⟨g1, g2, g3, g4, g5⟩ := hcd
  rw [hQ]
  have hat : ∀ w ∈ vx_atS own ic (exN k) nmX, w.before args s = true := by
    refine vx_hat (fun w hw => hts w (tw_of (g1 w hw) (List.mem_filter.mp hw).2)) g2 (fun w hw => ?_)
    rcases List.mem_cons.mp hw with rfl | hw
    · exact va_Nw.use rfl (hC.2.2.2.2.2.2.2.2.2.2.1 _ g5)
    · obtain ⟨y, hy, rfl⟩ := List.mem_map.mp hw
      exact va_Nw.use rfl (hC.2.2.2.2.2.2.2.2.2.2.2.1 _ hy)
  refine vx_throwS (names := nmX) (is := is) (text := tx) (sa := ad (SB + i)) hx hb hst9 hown g4 nmX_fit (hts _ h1) (hts _ h2) (hC.1 i _ hi) hat (fun w hw => ?_) hC.2.2.2.2.2.1 hC.2.2.2.2.2.2.1 hS (by rw [hml]; exact hl.1.1) d0 d3 d4 d6 d9 (fun x hx => (hex0 x hx).elim) hfr ?_ hcs hss hlk (fun t hal hz hk => hXC k M ad H locs t hfin hW hal hz hk) hS.2.2 hcs hss
  · rcases List.mem_cons.mp hw with rfl | hw
    · rfl
    · rcases List.mem_cons.mp hw with rfl | hw
      · rfl
      · exact g3 w hw
  · have h8 : ((trS ad st).map fun v => v.category).sum ≤ 8 := by rw [cat_tr]; exact hs8
    have h82 : 13 * (nmX.length + 1) + 43 = 82 := rfl
    show _ + (13 * (nmX.length + 1) + 43) ≤ lc
    rw [h82]
    omega
end JeRows
