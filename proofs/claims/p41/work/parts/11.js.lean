def opc {σ α : Type} (r : Option Nat) (F : σ → Option (α × σ)) (G1 : Nat → σ → Option (α × σ)) : σ → Option (α × σ) := match r with
  | none => F
  | some x => G1 x
theorem J_ifnullC {σ α : Type} {κ : Cx} {ω : Wp σ} {own : String} {cc : ByteArray} {nL fr mc ms lc : Nat} {fin : α → σ → Prop} {cs ss pc : Nat} {l : List (Option TV)} {st : List TV} {F : σ → Option (α × σ)} (hc : Jc κ own cc nL fr mc ms lc) {r : Option Nat} {k : Nat} {G1 : Nat → σ → Option (α × σ)} {off : Int} {tgt : Nat} (hd : decode cc pc = .ok (.ifnull off, 3)) (ht : (pc : Int) + off = (tgt : Int)) (kn : Jg κ ω nL fin cs ss tgt l st F) (ks : ∀ x, Jg κ ω nL fin cs ss (pc + 3) l st (G1 x)) : Jg κ ω nL fin cs ss pc l ((k, va_rf r) :: st) (opc r F G1) := by
  obtain ⟨⟨p, l9, e, R, s, m, args, below, meth, c⟩, ⟨D, g, A, Q⟩, M0, ad0⟩ := κ
  obtain ⟨hx, hb, -⟩ := hc
  intro M ad H locs ls a M' hF hfin hW hl hst
  cases r with
  | none =>
    refine lv_ifnullN hx hb hd ht ?_
    exact kn M ad H locs ls a M' hF hfin hW hl (okS_tl hst)
  | some x =>
    refine lv_ifnull hx hb hd ?_
    exact ks x M ad H locs ls a M' hF hfin hW hl (okS_tl hst)
theorem J_ifnonnullC {σ α : Type} {κ : Cx} {ω : Wp σ} {own : String} {cc : ByteArray} {nL fr mc ms lc : Nat} {fin : α → σ → Prop} {cs ss pc : Nat} {l : List (Option TV)} {st : List TV} {F : σ → Option (α × σ)} (hc : Jc κ own cc nL fr mc ms lc) {r : Option Nat} {k : Nat} {G1 : Nat → σ → Option (α × σ)} {off : Int} {tgt : Nat} (hd : decode cc pc = .ok (.ifnonnull off, 3)) (ht : (pc : Int) + off = (tgt : Int)) (kn : Jg κ ω nL fin cs ss (pc + 3) l st F) (ks : ∀ x, Jg κ ω nL fin cs ss tgt l st (G1 x)) : Jg κ ω nL fin cs ss pc l ((k, va_rf r) :: st) (opc r F G1) := by
  obtain ⟨⟨p, l9, e, R, s, m, args, below, meth, c⟩, ⟨D, g, A, Q⟩, M0, ad0⟩ := κ
  obtain ⟨hx, hb, -⟩ := hc
  intro M ad H locs ls a M' hF hfin hW hl hst
  cases r with
  | none =>
    refine lv_ifnonnullN hx hb hd ?_
    exact kn M ad H locs ls a M' hF hfin hW hl (okS_tl hst)
  | some x =>
    refine lv_ifnonnull hx hb hd ht ?_
    exact ks x M ad H locs ls a M' hF hfin hW hl (okS_tl hst)
def nf32 (r : UInt32) : Bool := decide (r &&& 0x7fffffff ≤ 0x7f800000)
def nf64 (r : UInt64) : Bool := decide (r &&& 0x7fffffffffffffff ≤ 0x7ff0000000000000)
/-! WIDE CONSTANTS, QUOTIENTS, THE JDK's String members over the constants -/
section JsRows
variable {α : Type} {κ : Cx} {own : String} {cc : ByteArray} {nL fr mc ms lc : Nat} {fin : α → Mm → Prop} {cs ss pc : Nat} {l l' : List (Option TV)} {st : List TV} {F : Mm → Option (α × Mm)}
theorem J_ldcSW (hc : Jc κ own cc nL fr mc ms lc) {i index : Nat} {tx : String} (hi : sK[i]? = some (own, index, tx)) (hd : decode cc pc = .ok (.ldc_w index, 3)) (kk : Jg κ (wM κ) nL fin cs ss (pc + 3) l ((20, .ref (SB + i)) :: st) F) : Jg κ (wM κ) nL fin cs ss pc l st F := by
  obtain ⟨⟨p, l9, e, R, s, m, args, below, meth, c⟩, ⟨D, g, A, Q⟩, M0, ad0⟩ := κ
  obtain ⟨hx, hb, hml, hown, hts, hK, hA, hst9, hlk, hR⟩ := hc
  intro M ad H locs ls a M' hF hfin hW hl hst
  obtain ⟨hP, hD, hS, hM, hn, hC, hex, hea⟩ := id hW
  have hi28 : i < 28 := Nat.lt_of_lt_of_le (List.getElem?_eq_some_iff.mp hi).1 (by decide)
  have hZ := hC.1 i _ hi
  have kk2 := kk M ad H locs ls a M' hF hfin hW hl (okS_cons (fun z hz => by cases hz; exact Or.inr (Or.inr (Or.inr (Or.inl ⟨rfl, by omega, by omega⟩)))) hst)
  intro T hT X
  obtain ⟨t, a1, b1⟩ := kk2 T hT X
  exact ⟨t, X.ldcStringW hx hown (text := tx) (a := ad (SB + i)) hZ.1 hZ.2 (g := F0 m pc ls (trS ad st)) rfl (by rw [hb]; exact hd) t a1, b1⟩
theorem J_throwW {fin : (Nat ⊕ α) → Mm → Prop} (hc : Jc κ own cc nL fr mc ms lc) (hX : EdX κ mc ms fin) {k ik is ic i : Nat} {tx : String} (hcd : cdX own ic (exN k)) (hi : sK[i]? = some (own, is, tx)) (h1 : Cond.classLink own ik (exN k) ∈ TW) (h2 : Cond.initialized (exN k) ∈ TW) (d0 : decode cc pc = .ok (.new ik, 3)) (d3 : decode cc (pc + 3) = .ok (.dup, 1)) (d4 : decode cc (pc + 4) = .ok (.ldc_w is, 3)) (d7 : decode cc (pc + 7) = .ok (.invokespecial ic, 3)) (d10 : decode cc (pc + 10) = .ok (.athrow, 1))
    (hfr : 5 < fr) (hlc : 100 ≤ lc) (hs8 : (st.map (fun q => q.2.category)).sum ≤ 8) (hcs : cs + 1 ≤ mc) (hss : ss + 6 ≤ ms) : Jg κ (wM κ) nL fin cs ss pc l st (rtn (.inl k)) := by
  obtain ⟨⟨p, l9, e, R, s, m, args, below, meth, c⟩, ⟨D, g, A, Q⟩, M0, ad0⟩ := κ
  obtain ⟨hx, hb, hml, hown, hts, hK, hA, hst9, hlk, hR⟩ := hc
  subst hR
  obtain ⟨hex0, Qc, XC, hQ, hXC⟩ := hX
  intro M ad H locs ls a M' hF hfin hW hl hst
  obtain ⟨hP, hD, hS, hM, hn, hC, hex, hea⟩ := id hW
  cases hF
  obtain ⟨g1, g2, g3, g4, g5⟩ := hcd
  rw [hQ]
  have hat : ∀ w ∈ vx_atS own ic (exN k) nmX, w.before args s = true := by
    refine vx_hat (fun w hw => hts w (tw_of (g1 w hw) (List.mem_filter.mp hw).2)) g2 (fun w hw => ?_)
    rcases List.mem_cons.mp hw with rfl | hw
    · exact va_Nw.use rfl (hC.2.2.2.2.2.2.2.2.2.2.1 _ g5)
    · obtain ⟨y, hy, rfl⟩ := List.mem_map.mp hw
      exact va_Nw.use rfl (hC.2.2.2.2.2.2.2.2.2.2.2.1 _ hy)
  refine vx_throwSW (names := nmX) (is := is) (text := tx) (sa := ad (SB + i)) hx hb hst9 hown g4 nmX_fit (hts _ h1) (hts _ h2) (hC.1 i _ hi) hat (fun w hw => ?_) hC.2.2.2.2.2.1 hC.2.2.2.2.2.2.1 hS (by rw [hml]; exact hl.1.1) d0 d3 d4 d7 d10 (fun x hx => (hex0 x hx).elim) hfr ?_ hcs hss hlk (fun t hal hz hk => hXC k M ad H locs t hfin hW hal hz hk) hS.2.2 hcs hss
  · rcases List.mem_cons.mp hw with rfl | hw
    · rfl
    · rcases List.mem_cons.mp hw with rfl | hw
      · rfl
      · exact g3 w hw
  · have h8 : ((trS ad st).map fun v => v.category).sum ≤ 8 := by rw [cat_tr]; exact hs8
    have h82 : 13 * (nmX.length + 1) + 43 = 82 := rfl
    show _ + (13 * (nmX.length + 1) + 43) ≤ lc
    rw [h82]
    omega
theorem J_fdiv {σ : Type} {ω : Wp σ} {fin : α → σ → Prop} {F : σ → Option (α × σ)} (hc : Jc κ own cc nL fr mc ms lc) {x y : UInt32} (hd : decode cc pc = .ok (.fdiv, 1)) (kk : Jg κ ω nL fin cs ss (pc + 1) l ((0, .float (FP.fdiv x y)) :: st) F) : Jg κ ω nL fin cs ss pc l ((0, .float y) :: (0, .float x) :: st) (grd (nf32 (FP.fdiv x y)) F) := by
  obtain ⟨⟨p, l9, e, R, s, m, args, below, meth, c⟩, ⟨D, g, A, Q⟩, M0, ad0⟩ := κ
  obtain ⟨hx, hb, -⟩ := hc
  intro M ad H locs ls a M' hF hfin hW hl hst
  obtain ⟨hy, hF⟩ := grd_some hF
  refine lv_fdiv hx hb hd (show (FP.fdiv x y) &&& 0x7fffffff ≤ 0x7f800000 from of_decide_eq_true hy) ?_
  exact kk M ad H locs ls a M' hF hfin hW hl (okS_cons okW_f (okS_tl (okS_tl hst)))
theorem J_ddiv {σ : Type} {ω : Wp σ} {fin : α → σ → Prop} {F : σ → Option (α × σ)} (hc : Jc κ own cc nL fr mc ms lc) {x y : UInt64} (hd : decode cc pc = .ok (.ddiv, 1)) (kk : Jg κ ω nL fin cs ss (pc + 1) l ((0, .double (FP.ddiv x y)) :: st) F) : Jg κ ω nL fin cs ss pc l ((0, .double y) :: (0, .double x) :: st) (grd (nf64 (FP.ddiv x y)) F) := by
  obtain ⟨⟨p, l9, e, R, s, m, args, below, meth, c⟩, ⟨D, g, A, Q⟩, M0, ad0⟩ := κ
  obtain ⟨hx, hb, -⟩ := hc
  intro M ad H locs ls a M' hF hfin hW hl hst
  obtain ⟨hy, hF⟩ := grd_some hF
  refine lv_ddiv hx hb hd (show (FP.ddiv x y) &&& 0x7fffffffffffffff ≤ 0x7ff0000000000000 from of_decide_eq_true hy) ?_
  exact kk M ad H locs ls a M' hF hfin hW hl (okS_cons okW_d (okS_tl (okS_tl hst)))
/-! strings: a constant is the handle SB + i (kind 20), its bytes the handle SB + 200 + i (kind 22) -/
def sbB (h : Nat) : Bool := decide (SB ≤ h) && decide (h < SB + 14)
theorem SB_mod {i : Nat} (h : i < 1000) : (SB + i) % 1000 = i := by unfold SB; omega
def stN (h : Nat) : Int32 := Int32.ofNat (sW.getD (h % 1000) []).length
def stC (h : Nat) (i : Int32) : Int32 := (sW.getD (h % 1000) []).getD i.toNatClampNeg 0
theorem sbB_at {h : Nat} (q : sbB h = true) : ∃ i b, h = SB + i ∧ sW[i]? = some b ∧ b = sW.getD (h % 1000) [] := by
  unfold sbB at q
  rw [Bool.and_eq_true, decide_eq_true_eq, decide_eq_true_eq] at q
  obtain ⟨i, rfl⟩ : ∃ i, h = SB + i := ⟨h - SB, by omega⟩
  have hi : i < sW.length := by
    show i < 14
    omega
  refine ⟨i, sW[i], rfl, List.getElem?_eq_getElem hi, ?_⟩
  rw [SB_mod (by omega), List.getD_eq_getElem?_getD, List.getElem?_eq_getElem hi]
  rfl
theorem J_strV (hc : Jc κ own cc nL fr mc ms lc) {h index : Nat} (hw : Cond.fieldLink own index "java/lang/String" "value" "[B" ∈ TW) (hd : decode cc pc = .ok (.getfield index, 3)) (kk : Jg κ (wM κ) nL fin cs ss (pc + 3) l ((22, .ref (h + 200)) :: st) F) : Jg κ (wM κ) nL fin cs ss pc l ((20, .ref h) :: st) (grd (sbB h) F) := by
  obtain ⟨⟨p, l9, e, R, s, m, args, below, meth, c⟩, ⟨D, g, A, Q⟩, M0, ad0⟩ := κ
  obtain ⟨hx, hb, hml, hown, hts, hK, hA, hst9, hlk, hR⟩ := hc
  intro M ad H locs ls a M' hF hfin hW hl hst
  obtain ⟨hP, hD, hS, hM, hn, hC, hex, hea⟩ := id hW
  obtain ⟨hq, hF1⟩ := grd_some hF
  clear hF
  obtain ⟨i, b, rfl, hb9, -⟩ := sbB_at hq
  obtain ⟨-, -, hV, -⟩ := hC.2.1 i b hb9
  refine vk_getf hx hb hV hS hown (hts _ hw) (fun _ z => z) hd ?_
  have e1 : SB + i + 200 = SB + 200 + i := by omega
  rw [← e1]
  exact kk M ad H locs ls a M' hF1 hfin hW hl (okS_cons (fun z hz => by cases hz; exact Or.inr (Or.inr (Or.inr (Or.inr (Or.inr (Or.inl ⟨Nat.le_of_ble_eq_true rfl, Nat.le_of_ble_eq_true rfl, by omega⟩)))))) (okS_tl hst))
theorem J_strK (hc : Jc κ own cc nL fr mc ms lc) {h index : Nat} (hw : Cond.fieldLink own index "java/lang/String" "coder" "B" ∈ TW) (hd : decode cc pc = .ok (.getfield index, 3)) (kk : Jg κ (wM κ) nL fin cs ss (pc + 3) l ((0, .int 0) :: st) F) : Jg κ (wM κ) nL fin cs ss pc l ((20, .ref h) :: st) (grd (sbB h) F) := by
  obtain ⟨⟨p, l9, e, R, s, m, args, below, meth, c⟩, ⟨D, g, A, Q⟩, M0, ad0⟩ := κ
  obtain ⟨hx, hb, hml, hown, hts, hK, hA, hst9, hlk, hR⟩ := hc
  intro M ad H locs ls a M' hF hfin hW hl hst
  obtain ⟨hP, hD, hS, hM, hn, hC, hex, hea⟩ := id hW
  obtain ⟨hq, hF1⟩ := grd_some hF
  clear hF
  obtain ⟨i, b, rfl, hb9, -⟩ := sbB_at hq
  obtain ⟨-, hV, -⟩ := hC.2.1 i b hb9
  refine vk_getf hx hb hV hS hown (hts _ hw) (fun _ z => z) hd ?_
  exact kk M ad H locs ls a M' hF1 hfin hW hl (okS_cons okW_i (okS_tl hst))
theorem J_getsC (hc : Jc κ own cc nL fr mc ms lc) {index : Nat} (hw : Cond.fieldLink own index "java/lang/String" "COMPACT_STRINGS" "Z" ∈ TW) (hd : decode cc pc = .ok (.getstatic index, 3)) (kk : Jg κ (wM κ) nL fin cs ss (pc + 3) l ((0, .int 1) :: st) F) : Jg κ (wM κ) nL fin cs ss pc l st F := by
  obtain ⟨⟨p, l9, e, R, s, m, args, below, meth, c⟩, ⟨D, g, A, Q⟩, M0, ad0⟩ := κ
  obtain ⟨hx, hb, hml, hown, hts, hK, hA, hst9, hlk, hR⟩ := hc
  intro M ad H locs ls a M' hF hfin hW hl hst
  obtain ⟨hP, hD, hS, hM, hn, hC, hex, hea⟩ := id hW
  refine va_gets (ref := "java/lang/String") hx hb hC.2.2.2.1 hS hown (hts _ hw) (fun _ z => z) hd ?_
  exact kk M ad H locs ls a M' hF hfin hW hl (okS_cons okW_i hst)
theorem J_getsP (hc : Jc κ own cc nL fr mc ms lc) {index : Nat} (hw : Cond.fieldLink own index pcN "SIOOBE_FORMATTER" pcD ∈ TW) (hd : decode cc pc = .ok (.getstatic index, 3)) (kk : ∀ r, Jg κ (wM κ) nL fin cs ss (pc + 3) l ((23, va_rf r) :: st) F) : Jg κ (wM κ) nL fin cs ss pc l st F := by
  obtain ⟨⟨p, l9, e, R, s, m, args, below, meth, c⟩, ⟨D, g, A, Q⟩, M0, ad0⟩ := κ
  obtain ⟨hx, hb, hml, hown, hts, hK, hA, hst9, hlk, hR⟩ := hc
  intro M ad H locs ls a M' hF hfin hW hl hst
  obtain ⟨hP, hD, hS, hM, hn, hC, hex, hea⟩ := id hW
  rcases hC.2.2.2.2.1 with hZ | hZ
  · refine va_gets (ref := pcN) hx hb hZ hS hown (hts _ hw) (fun _ z => z) hd ?_
    exact kk none M ad H locs ls a M' hF hfin hW hl (okS_cons (fun z hz => by cases hz) hst)
  · refine va_gets (ref := pcN) hx hb hZ hS hown (hts _ hw) (fun _ z => z) hd ?_
    exact kk (some (SB + 300)) M ad H locs ls a M' hF hfin hW hl (okS_cons (fun z hz => by cases hz; exact Or.inr (Or.inr (Or.inr (Or.inr (Or.inr (Or.inl ⟨Nat.le_of_ble_eq_true rfl, Nat.le_of_ble_eq_true rfl, by omega⟩)))))) hst)
theorem J_strN (hc : Jc κ own cc nL fr mc ms lc) {h : Nat} (hd : decode cc pc = .ok (.arraylength, 1)) (kk : Jg κ (wM κ) nL fin cs ss (pc + 1) l ((0, .int (stN h)) :: st) F) : Jg κ (wM κ) nL fin cs ss pc l ((22, .ref (h + 200)) :: st) (grd (sbB h) F) := by
  obtain ⟨⟨p, l9, e, R, s, m, args, below, meth, c⟩, ⟨D, g, A, Q⟩, M0, ad0⟩ := κ
  obtain ⟨hx, hb, hml, hown, hts, hK, hA, hst9, hlk, hR⟩ := hc
  intro M ad H locs ls a M' hF hfin hW hl hst
  obtain ⟨hP, hD, hS, hM, hn, hC, hex, hea⟩ := id hW
  obtain ⟨hq, hF1⟩ := grd_some hF
  clear hF
  obtain ⟨i, b, rfl, hb9, he⟩ := sbB_at hq
  obtain ⟨-, -, -, hT⟩ := hC.2.1 i b hb9
  have e1 : SB + i + 200 = SB + 200 + i := by omega
  rw [← e1] at hT
  refine va_tlen hx hb hT hS (v := stN (SB + i)) (by unfold stN; rw [he]) hd ?_
  exact kk M ad H locs ls a M' hF1 hfin hW hl (okS_cons okW_i (okS_tl hst))
theorem J_strC (hc : Jc κ own cc nL fr mc ms lc) {h : Nat} {i : Int32} (hd : decode cc pc = .ok (.baload, 1)) (kk : Jg κ (wM κ) nL fin cs ss (pc + 1) l ((0, .int (stC h i)) :: st) F) : Jg κ (wM κ) nL fin cs ss pc l ((0, .int i) :: (22, .ref (h + 200)) :: st) (grd (sbB h && vpB i (sW.getD (h % 1000) []).length) F) := by
  obtain ⟨⟨p, l9, e, R, s, m, args, below, meth, c⟩, ⟨D, g, A, Q⟩, M0, ad0⟩ := κ
  obtain ⟨hx, hb, hml, hown, hts, hK, hA, hst9, hlk, hR⟩ := hc
  intro M ad H locs ls a M' hF hfin hW hl hst
  obtain ⟨hP, hD, hS, hM, hn, hC, hex, hea⟩ := id hW
  obtain ⟨hq, hF1⟩ := grd_some hF
  clear hF
  rw [Bool.and_eq_true] at hq
  obtain ⟨j, b, hj, hb9, he⟩ := sbB_at hq.1
  obtain ⟨-, -, -, hT⟩ := hC.2.1 j b hb9
  have e1 : h + 200 = SB + 200 + j := by omega
  rw [← e1] at hT
  refine va_tb hx hb hT hS (v := .int (stC h i)) (vpB_in (by rw [he]; exact hq.2)) (by unfold stC; rw [he]) hd ?_
  exact kk M ad H locs ls a M' hF1 hfin hW hl (okS_cons okW_i (okS_tl (okS_tl hst)))
theorem J_pop {σ : Type} {ω : Wp σ} {fin : α → σ → Prop} {F : σ → Option (α × σ)} (hc : Jc κ own cc nL fr mc ms lc) {q : TV} (hd : decode cc pc = .ok (.pop, 1)) (hq : q.2.category = 1) (kk : Jg κ ω nL fin cs ss (pc + 1) l st F) : Jg κ ω nL fin cs ss pc l (q :: st) F := by
  obtain ⟨⟨p, l9, e, R, s, m, args, below, meth, c⟩, ⟨D, g, A, Q⟩, M0, ad0⟩ := κ
  obtain ⟨hx, hb, -⟩ := hc
  intro M ad H locs ls a M' hF hfin hW hl hst
  refine lv_pop hx hb hd (by rw [tr_cat]; exact hq) ?_
  exact kk M ad H locs ls a M' hF hfin hW hl (okS_tl hst)
end JsRows
/-- a char's end -/
def nCh (v : Int32) : Bool := i2c v == v
def EdC (κ : Cx) (cc : ByteArray) (mc ms : Nat) (fin : Int32 → Mm → Prop) : Prop :=
  match κ with
  | ((p, l9, e, R, s, m, args, below, meth, c), X, Y) => ∀ (a : Int32) (M : Mm) (ad : Nat → Nat) (H : Heap) (locs : List Loc) (pc : Nat) (ls : Array Slot), nCh a = true → fin a M → (wM ((p, l9, e, R, s, m, args, below, meth, c), X, Y)).1 M ad H locs → decode cc pc = .ok (.ireturn, 1) → W p l9 e R s m args below meth c H locs mc ms X.2.2.2 (F0 m pc ls [.int a])
theorem J_cret {κ : Cx} {cc : ByteArray} {nL mc ms pc : Nat} {l : List (Option TV)} {fin : Int32 → Mm → Prop} (he : EdC κ cc mc ms fin) {v : Int32} (hd : decode cc pc = .ok (.ireturn, 1)) : Jg κ (wM κ) nL fin mc ms pc l [(0, .int v)] (grd (nCh v) (rtn v)) := by
  obtain ⟨⟨p, l9, e, R, s, m, args, below, meth, c⟩, ⟨D, g, A, Q⟩, M0, ad0⟩ := κ
  intro M ad H locs ls a M' hF hfin hW hl hst
  obtain ⟨hv, hF⟩ := grd_some hF
  cases hF
  exact he v M ad H locs pc ls hv hfin hW hd
theorem Ct_C {y : MethodName} {cc : ByteArray} {nL fr mc ms lc j : Nat} {own : String} {av : List TV} {l0 : List (Option TV)} {F : Mm → Option (Int32 × Mm)} (hy : plainName y.cls = true) (hown : y.cls = own) (hl0 : entL av ++ List.replicate j none = l0) (hle : (entL av).length ≤ nL) (hb : ∀ (κ : Cx) (fin : Int32 → Mm → Prop), Jc κ own cc nL fr mc ms lc → EdC κ cc mc ms fin → Jg κ (wM κ) nL fin 0 0 0 l0 [] F) : Ct wI y cc nL (some .char) fr mc ms lc av F := by
  intro l g D ad sz M r M' hl9 hF hav
  refine Met.ofW (cc := cc) (maxL := nL) (ret := (some .char)) hy rfl ?_
  intro p e s m args below meth c s₁ B hml hv
  obtain ⟨rfl, hsz, hP, hD0, hK, hM, hn, hC⟩ := hv
  subst hsz
  have hts : ∀ w ∈ TW, w.before (trS ad av).toArray s = true := fun w hw => atoms_spec (ws := wsY y cc nL (some .char)) B.pre w (List.mem_cons_of_mem _ hw)
  have hown9 : s.vm.findClass own = some m.cls := by rw [← hown]; exact findClass_of_methodNamed B.named
  rw [lg_entry_eq]
  refine hb ((p, l, e, rmR fr mc ms lc, s, m, (trS ad av).toArray, below, meth, c), (D, g, va_A (wl g ad M) s.heap.size, _), (M, ad)) (fun a M1 => a = r ∧ M1 = M') ⟨B.exec, B.bytes, hml, hown9, hts, hK, fun q h => Or.inr h, hl9, B.notSynchronized, rfl⟩ ?_ M ad s.heap [] _ r M' hF ⟨rfl, rfl⟩ ⟨hP, hD0.self, va_S.rf, hM, hn, hC, exM.rf M, exA.rf _ _⟩ (lvk_entry (κ := ((p, l, e, rmR fr mc ms lc, s, m, (trS ad av).toArray, below, meth, c), (D, g, va_A (wl g ad M) s.heap.size, _), (M, ad))) hav hl0 hle) (fun q hq => by cases hq)
  · intro a M1 ad1 H locs pc ls h01 hfin hW hd
    obtain ⟨rfl, rfl⟩ := hfin
    obtain ⟨hP1, hD1, hS1, hM1, hn1, -, hx1, ha1⟩ := hW
    have hnar : narrow .char (.int a) = .int a := by
      have h2 : i2c a = a := eq_of_beq h01
      rw [← h2]
      exact pk_nc a
    dsimp only
    exact W.zret B.exec B.bytes B.returns hnar (fun t ht hWm => ⟨⟨rfl, ad1, by rw [ht]; exact hP1, hD1, hM1, hn1, hx1, ha1⟩, hS1.F ht⟩) hS1.2.2 hd (hlocks := B.notSynchronized)

section JsCalls
variable {α β : Type} {κ : Cx} {own : String} {cc : ByteArray} {nL fr mc ms lc : Nat} {fin : α → Mm → Prop} {cs ss pc : Nat} {l : List (Option TV)} {st : List TV}
theorem J_callStr (hc : Jc κ own cc nL fr mc ms lc) {h : Nat} {y : MethodName} {b : ByteArray} {nL' : Nat} {ret' : Option FieldType} {fr' mc' ms' lc' index n : Nat} {As : List TV} {st0 : List TV} {Fc : Mm → Option (β × Mm)} {wr : β → Option Value} (hct : Ct wr y b nL' ret' fr' mc' ms' lc' ((20, .ref h) :: As) Fc) (hd : decode cc pc = .ok (.invokevirtual index, 3)) (hmo : MOk y n) (hyc : y.cls = "java/lang/String") (hw1 : Cond.methodLink own index y ∈ TW) (hw2 : Cond.instanceMethod y ∈ TW) (hw3 : Cond.selects "java/lang/String" y y ∈ TW) (hw4 : Cond.initialized "java/lang/String" ∈ TW) (hc5 : Cond.code y b nL' ret' ∈ TW) (hlen : As.length = n) (hr1 : fr' + 1 ≤ fr) (hr2 : 8 + (nL' + 11) + lc' ≤ lc) (hr3 : cs + mc' ≤ mc) (hr4 : ss + ms' ≤ ms) (hs8 : (st.map (fun q => q.2.category)).sum ≤ 8) (hst0 : st0 = As.reverse ++ (20, .ref h) :: st) {G1 : β → Mm → Option (α × Mm)} (hwr : ∀ r x, wr r ≠ some (.ref x)) (kk : ∀ r, Jg κ (wM κ) nL fin (cs + mc') (ss + ms') (pc + 3) l ((wr r).toList.map (fun v => ((0, v) : TV)) ++ st) (G1 r)) : Jg κ (wM κ) nL fin cs ss pc l st0 (grd (sbB h) (bnd Fc G1)) := by
  subst hst0
  obtain ⟨⟨p, l9, e, R, s, m, args, below, meth, c⟩, ⟨D, g, A, Q⟩, M0, ad0⟩ := κ
  obtain ⟨hx, hb, hml, hown, hts, hK, hA, hst9, hlk, hR⟩ := hc
  subst hR
  intro M ad H locs ls a M' hF hfin hW hl hst
  obtain ⟨hP, hD, hS, hM, hn, hC, hex, hea⟩ := id hW
  obtain ⟨hsb, hF⟩ := grd_some hF
  obtain ⟨r9, M1, q1, hF⟩ := bnd_some hF
  obtain ⟨hsA, hsT⟩ := okS_app hst
  have hst := okS_tl hsT
  have hsR : okW (wM ((p, l9, e, _, s, m, args, below, meth, c), (D, g, A, Q), M0, ad0)) M (20, .ref h) := okS_hd hsT
  have hav : okS0 M ((20, .ref h) :: As) := fun q hq => by
    rcases List.mem_cons.mp hq with rfl | hq
    · exact hsR
    · exact okS_rev hsA q hq
  have hMet := hct l9 g D ad H.size M r9 M1 hst9 q1 hav
  have hrecv : ∃ cellB : Cell, H[ad h]? = some cellB ∧ cellB.vm.isStatics = false ∧ s.vm.findClass "java/lang/String" = some cellB.cls := by
    obtain ⟨i, b9, rfl, hb9, -⟩ := sbB_at hsb
    obtain ⟨hO, -⟩ := hC.2.1 i b9 hb9
    obtain ⟨cell, o1, o2, o3, -⟩ := hO.kept hS.2.1
    exact ⟨cell, o1, o2, o3⟩
  refine vq_call (va_runV (C := "java/lang/String") (b := ad h) (As := trS ad As) (rest := trS ad st) ⟨hx, hb, hml, hown, hts⟩ hMet (cwV n hts (tw_V hw1 hw2 hw3 hw4 hc5) rfl rfl rfl ⟨hyc, hmo⟩ ⟨hr1, hr2⟩) ⟨wM0_blind, hrecv, fun U hU hW9 => ⟨rfl, wM0_at hP hD hS hA hK hM hn hex.2.2 hC hU hW9⟩⟩ rfl (by show (trS ad As).length = n; unfold trS; rw [List.length_map]; exact hlen) hl.1.1 (trS_rev ad As ((20, .ref h) :: st)) (lv_room (by rw [cat_tr]; exact hs8)) hd ⟨hr3, hr4⟩) hS (fun q _ h => wA_sub hD hS hA q h) (wA_sub hD hS hA) (fun t H1 locs1 ht hvm hB hz1 hk1 hS1 => ?_)
  obtain ⟨ad1, hP1, hD1, hM1, hn1, hx1, ha1⟩ := hB
  rw [ht] at hP1
  have e9 : trS ad1 ((wr r9).toList.map (fun v => ((0, v) : TV)) ++ st) = (wr r9).toList ++ trS ad st := by
    have e8 := trS_ex (κ := ((p, l9, e, _, s, m, args, below, meth, c), (D, g, A, Q), M0, ad0)) hn ha1 hst
    unfold trS at e8 ⊢
    rw [List.map_append, e8]
    cases hq : wr r9 with
    | none => rfl
    | some v =>
      cases v with
      | ref x => exact absurd hq (hwr r9 x)
      | _ => rfl
  rw [← e9]
  exact kk r9 M1 ad1 H1 locs1 ls a M' hF hfin ⟨hP1, hD1.weaken (fun _ q _ h => wA_sub hD hS hA q.1 h), hS1, hM1, hn1, hC.go (State.WarmedH.refl s) (fun _ _ _ => rfl) (fun _ z => z) (fun x hx => ha1 x (Or.inr hx)), hex.tr hx1, exA.tr hex.1 hea ha1⟩ (lvk_ex (κ := ((p, l9, e, _, s, m, args, below, meth, c), (D, g, A, Q), M0, ad0)) hn hx1 ha1 hl) (fun q hq => by
    rcases List.mem_append.mp hq with hq | hq
    · obtain ⟨v, hv, rfl⟩ := List.mem_map.mp hq
      intro x hx
      have hx : v = .ref x := hx
      subst hx
      cases hw9 : wr r9 with
      | none => rw [hw9] at hv; cases hv
      | some v9 =>
        rw [hw9] at hv
        have hv : (Value.ref x) = v9 := by simpa using hv
        exact absurd (hw9.trans (congrArg some hv.symm)) (hwr r9 x)
    · exact okS_ex (κ := ((p, l9, e, _, s, m, args, below, meth, c), (D, g, A, Q), M0, ad0)) hx1 hst q hq)
end JsCalls
theorem J_callStri {α : Type} {κ : Cx} {own : String} {cc : ByteArray} {nL fr mc ms lc cs ss pc : Nat} {l : List (Option TV)} {st : List TV} {fin : α → Mm → Prop} (hc : Jc κ own cc nL fr mc ms lc) {h : Nat} {y : MethodName} {b : ByteArray} {nL' : Nat} {ret' : Option FieldType} {fr' mc' ms' lc' index n : Nat} {As : List TV} {st0 : List TV} {Fc : Mm → Option (Int32 × Mm)} (hct : Ct wI y b nL' ret' fr' mc' ms' lc' ((20, .ref h) :: As) Fc) (hd : decode cc pc = .ok (.invokevirtual index, 3)) (hmo : MOk y n) (hyc : y.cls = "java/lang/String") (hw1 : Cond.methodLink own index y ∈ TW) (hw2 : Cond.instanceMethod y ∈ TW) (hw3 : Cond.selects "java/lang/String" y y ∈ TW) (hw4 : Cond.initialized "java/lang/String" ∈ TW) (hc5 : Cond.code y b nL' ret' ∈ TW) (hlen : As.length = n) (hr1 : fr' + 1 ≤ fr) (hr2 : 8 + (nL' + 11) + lc' ≤ lc) (hr3 : cs + mc' ≤ mc) (hr4 : ss + ms' ≤ ms) (hs8 : (st.map (fun q => q.2.category)).sum ≤ 8) (hst0 : st0 = As.reverse ++ (20, .ref h) :: st) {G1 : Int32 → Mm → Option (α × Mm)} (kk : ∀ r, Jg κ (wM κ) nL fin (cs + mc') (ss + ms') (pc + 3) l ((0, .int r) :: st) (G1 r)) : Jg κ (wM κ) nL fin cs ss pc l st0 (grd (sbB h) (bnd Fc G1)) :=
  J_callStr hc hct hd hmo hyc hw1 hw2 hw3 hw4 hc5 hlen hr1 hr2 hr3 hr4 hs8 hst0 (fun _ _ h => by cases h) kk
