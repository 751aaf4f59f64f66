/-! PROGRAMS THAT TELL WHAT THEY MAKE: an answer, a state, cells, slots -/
def wb {σ α β : Type} (m : σ → Option (α × σ)) (k : α → σ → Option (β × σ × Nat × Nat)) : σ → Option (β × σ × Nat × Nat) := fun M => match m M with
  | some (a, M') => k a M'
  | none => none
def wq {σ α β : Type} (m : σ → Option (α × σ × Nat × Nat)) (k : α → σ → Option (β × σ × Nat × Nat)) : σ → Option (β × σ × Nat × Nat) := fun M => match m M with
  | some (a, M', c, s) => match k a M' with
    | some (b, M2, c2, s2) => some (b, M2, c + c2, s + s2)
    | none => none
  | none => none
def wr {σ α : Type} (a : α) : σ → Option (α × σ × Nat × Nat) := fun M => some (a, M, 0, 0)
def wfail {σ α : Type} : σ → Option (α × σ × Nat × Nat) := fun _ => none
def wgrd {σ α : Type} (b : Bool) (F : σ → Option (α × σ × Nat × Nat)) : σ → Option (α × σ × Nat × Nat) := fun M => if b = true then F M else none
/-- a call of the class: c cells and s slots at most -/
def wcc {σ α : Type} (c s : Nat) (m : σ → Option (α × σ)) : σ → Option (α × σ × Nat × Nat) := fun M => match m M with
  | some (a, M') => some (a, M', c, s)
  | none => none
/-- a call of the class that may throw, and does not -/
def wcx {σ α : Type} (c s : Nat) (m : σ → Option ((Nat ⊕ α) × σ)) : σ → Option (α × σ × Nat × Nat) := fun M => match m M with
  | some (.inr a, M') => some (a, M', c, s)
  | _ => none
theorem wb_some {σ α β : Type} {m : σ → Option (α × σ)} {k : α → σ → Option (β × σ × Nat × Nat)} {M : σ} {r : β × σ × Nat × Nat} (h : wb m k M = some r) : ∃ a M1, m M = some (a, M1) ∧ k a M1 = some r := by
  unfold wb at h
  split at h
  · exact ⟨_, _, by assumption, h⟩
  · cases h
theorem wq_some {σ α β : Type} {m : σ → Option (α × σ × Nat × Nat)} {k : α → σ → Option (β × σ × Nat × Nat)} {M : σ} {b : β} {M2 : σ} {c s : Nat} (h : wq m k M = some (b, M2, c, s)) : ∃ a M1 c1 s1 c2 s2, m M = some (a, M1, c1, s1) ∧ k a M1 = some (b, M2, c2, s2) ∧ c = c1 + c2 ∧ s = s1 + s2 := by
  unfold wq at h
  split at h
  · rename_i a M1 c1 s1 e1
    split at h
    · rename_i b9 M9 c2 s2 e2
      cases h
      exact ⟨a, M1, c1, s1, c2, s2, e1, e2, rfl, rfl⟩
    · cases h
  · cases h
theorem wgrd_some {σ α : Type} {b : Bool} {F : σ → Option (α × σ × Nat × Nat)} {M : σ} {r : α × σ × Nat × Nat} (h : wgrd b F M = some r) : b = true ∧ F M = some r := by
  unfold wgrd at h
  split at h
  · exact ⟨by assumption, h⟩
  · cases h
def Jw {σ α : Type} (κ : Cx) (ω : Wp σ) (nL : Nat) (fin : α → σ → Prop) (pc : Nat) (l : List (Option TV)) (st : List TV) (F : σ → Option (α × σ × Nat × Nat)) : Prop :=
  match κ with
  | ((p, l9, e, R, s, m, args, below, meth, c), (_, _, _, Q), _) => ∀ (M : σ) (ad : Nat → Nat) (H : Heap) (locs : List Loc) (ls : Array Slot) (a : α) (M' : σ) (kc ks cs ss : Nat), F M = some (a, M', kc, ks) → fin a M' → cs + kc ≤ R.cells → ss + ks ≤ R.slots → ω.1 M ad H locs → lvk ω ad M ls nL l → okS ω M st → W p l9 e R s m args below meth c H locs cs ss Q (F0 m pc ls (trS ad st))
section JwRows
variable {σ α : Type} {κ : Cx} {ω : Wp σ} {own : String} {cc : ByteArray} {nL fr mc ms lc : Nat} {fin : α → σ → Prop} {pc : Nat} {l l' : List (Option TV)} {st : List TV} {F F1 F2 : σ → Option (α × σ × Nat × Nat)}

theorem N_sub (hs : subL l' l) (k : Jw κ ω nL fin pc l' st F) : Jw κ ω nL fin pc l st F := by
  obtain ⟨⟨p, l9, e, R, s, m, args, below, meth, c⟩, ⟨D, g, A, Q⟩, M0, ad0⟩ := κ
  intro M ad H locs ls a M' kc ks cs ss hF hfin hcc hss hW hl hst
  exact k M ad H locs ls a M' kc ks cs ss hF hfin hcc hss hW ⟨hl.1, fun i v h => hl.2 i v (subL_get hs i v h)⟩ hst
theorem N_fail : Jw κ ω nL fin pc l st (wfail : σ → Option (α × σ × Nat × Nat)) := by
  obtain ⟨⟨p, l9, e, R, s, m, args, below, meth, c⟩, ⟨D, g, A, Q⟩, M0, ad0⟩ := κ
  intro M ad H locs ls a M' kc ks cs ss hF
  cases hF
theorem N_iconst (hc : Jc κ own cc nL fr mc ms lc) {n : Int} {v : Int32} (hd : decode cc pc = .ok (.iconst n, 1)) (hv : Int32.ofInt n = v) (kk : Jw κ ω nL fin (pc + 1) l ((0, .int v) :: st) F) : Jw κ ω nL fin pc l (st) F := by
  obtain ⟨⟨p, l9, e, R, s, m, args, below, meth, c⟩, ⟨D, g, A, Q⟩, M0, ad0⟩ := κ
  obtain ⟨hx, hb, -⟩ := hc
  intro M ad H locs ls a M' kc ks cs ss hF hfin hcc hss hW hl hst
  refine lv_iconst hx hb hd hv ?_
  exact kk M ad H locs ls a M' kc ks cs ss hF hfin hcc hss hW hl (okS_cons okW_i hst)
theorem N_bipush (hc : Jc κ own cc nL fr mc ms lc) {n : Int} {v : Int32} (hd : decode cc pc = .ok (.bipush n, 2)) (hv : (Int8.ofInt n).toInt32 = v) (kk : Jw κ ω nL fin (pc + 2) l ((0, .int v) :: st) F) : Jw κ ω nL fin pc l (st) F := by
  obtain ⟨⟨p, l9, e, R, s, m, args, below, meth, c⟩, ⟨D, g, A, Q⟩, M0, ad0⟩ := κ
  obtain ⟨hx, hb, -⟩ := hc
  intro M ad H locs ls a M' kc ks cs ss hF hfin hcc hss hW hl hst
  refine lv_bipush hx hb hd hv ?_
  exact kk M ad H locs ls a M' kc ks cs ss hF hfin hcc hss hW hl (okS_cons okW_i hst)
theorem N_sipush (hc : Jc κ own cc nL fr mc ms lc) {n : Int} {v : Int32} (hd : decode cc pc = .ok (.sipush n, 3)) (hv : (Int16.ofInt n).toInt32 = v) (kk : Jw κ ω nL fin (pc + 3) l ((0, .int v) :: st) F) : Jw κ ω nL fin pc l (st) F := by
  obtain ⟨⟨p, l9, e, R, s, m, args, below, meth, c⟩, ⟨D, g, A, Q⟩, M0, ad0⟩ := κ
  obtain ⟨hx, hb, -⟩ := hc
  intro M ad H locs ls a M' kc ks cs ss hF hfin hcc hss hW hl hst
  refine lv_sipush hx hb hd hv ?_
  exact kk M ad H locs ls a M' kc ks cs ss hF hfin hcc hss hW hl (okS_cons okW_i hst)
theorem N_lconst (hc : Jc κ own cc nL fr mc ms lc) {n : Fin 2} {v : Int64} (hd : decode cc pc = .ok (.lconst n, 1)) (hv : Int64.ofNat (n : Nat) = v) (kk : Jw κ ω nL fin (pc + 1) l ((0, .long v) :: st) F) : Jw κ ω nL fin pc l (st) F := by
  obtain ⟨⟨p, l9, e, R, s, m, args, below, meth, c⟩, ⟨D, g, A, Q⟩, M0, ad0⟩ := κ
  obtain ⟨hx, hb, -⟩ := hc
  intro M ad H locs ls a M' kc ks cs ss hF hfin hcc hss hW hl hst
  refine lv_lconst hx hb hd hv ?_
  exact kk M ad H locs ls a M' kc ks cs ss hF hfin hcc hss hW hl (okS_cons okW_l hst)
theorem N_iadd (hc : Jc κ own cc nL fr mc ms lc) {x y : Int32} (hd : decode cc pc = .ok (.iadd, 1)) (kk : Jw κ ω nL fin (pc + 1) l ((0, .int (x + y)) :: st) F) : Jw κ ω nL fin pc l ((0, .int y) :: (0, .int x) :: st) F := by
  obtain ⟨⟨p, l9, e, R, s, m, args, below, meth, c⟩, ⟨D, g, A, Q⟩, M0, ad0⟩ := κ
  obtain ⟨hx, hb, -⟩ := hc
  intro M ad H locs ls a M' kc ks cs ss hF hfin hcc hss hW hl hst
  refine lv_iadd hx hb hd ?_
  exact kk M ad H locs ls a M' kc ks cs ss hF hfin hcc hss hW hl (okS_cons okW_i (okS_tl (okS_tl hst)))
theorem N_isub (hc : Jc κ own cc nL fr mc ms lc) {x y : Int32} (hd : decode cc pc = .ok (.isub, 1)) (kk : Jw κ ω nL fin (pc + 1) l ((0, .int (x - y)) :: st) F) : Jw κ ω nL fin pc l ((0, .int y) :: (0, .int x) :: st) F := by
  obtain ⟨⟨p, l9, e, R, s, m, args, below, meth, c⟩, ⟨D, g, A, Q⟩, M0, ad0⟩ := κ
  obtain ⟨hx, hb, -⟩ := hc
  intro M ad H locs ls a M' kc ks cs ss hF hfin hcc hss hW hl hst
  refine lv_isub hx hb hd ?_
  exact kk M ad H locs ls a M' kc ks cs ss hF hfin hcc hss hW hl (okS_cons okW_i (okS_tl (okS_tl hst)))
theorem N_imul (hc : Jc κ own cc nL fr mc ms lc) {x y : Int32} (hd : decode cc pc = .ok (.imul, 1)) (kk : Jw κ ω nL fin (pc + 1) l ((0, .int (x * y)) :: st) F) : Jw κ ω nL fin pc l ((0, .int y) :: (0, .int x) :: st) F := by
  obtain ⟨⟨p, l9, e, R, s, m, args, below, meth, c⟩, ⟨D, g, A, Q⟩, M0, ad0⟩ := κ
  obtain ⟨hx, hb, -⟩ := hc
  intro M ad H locs ls a M' kc ks cs ss hF hfin hcc hss hW hl hst
  refine lv_imul hx hb hd ?_
  exact kk M ad H locs ls a M' kc ks cs ss hF hfin hcc hss hW hl (okS_cons okW_i (okS_tl (okS_tl hst)))
theorem N_iand (hc : Jc κ own cc nL fr mc ms lc) {x y : Int32} (hd : decode cc pc = .ok (.iand, 1)) (kk : Jw κ ω nL fin (pc + 1) l ((0, .int (x &&& y)) :: st) F) : Jw κ ω nL fin pc l ((0, .int y) :: (0, .int x) :: st) F := by
  obtain ⟨⟨p, l9, e, R, s, m, args, below, meth, c⟩, ⟨D, g, A, Q⟩, M0, ad0⟩ := κ
  obtain ⟨hx, hb, -⟩ := hc
  intro M ad H locs ls a M' kc ks cs ss hF hfin hcc hss hW hl hst
  refine lv_iand hx hb hd ?_
  exact kk M ad H locs ls a M' kc ks cs ss hF hfin hcc hss hW hl (okS_cons okW_i (okS_tl (okS_tl hst)))
theorem N_ineg (hc : Jc κ own cc nL fr mc ms lc) {x : Int32} (hd : decode cc pc = .ok (.ineg, 1)) (kk : Jw κ ω nL fin (pc + 1) l ((0, .int (-x)) :: st) F) : Jw κ ω nL fin pc l ((0, .int x) :: st) F := by
  obtain ⟨⟨p, l9, e, R, s, m, args, below, meth, c⟩, ⟨D, g, A, Q⟩, M0, ad0⟩ := κ
  obtain ⟨hx, hb, -⟩ := hc
  intro M ad H locs ls a M' kc ks cs ss hF hfin hcc hss hW hl hst
  refine lv_ineg hx hb hd ?_
  exact kk M ad H locs ls a M' kc ks cs ss hF hfin hcc hss hW hl (okS_cons okW_i (okS_tl hst))
theorem N_ishr (hc : Jc κ own cc nL fr mc ms lc) {x y : Int32} (hd : decode cc pc = .ok (.ishr, 1)) (kk : Jw κ ω nL fin (pc + 1) l ((0, .int (x >>> (y &&& 31))) :: st) F) : Jw κ ω nL fin pc l ((0, .int y) :: (0, .int x) :: st) F := by
  obtain ⟨⟨p, l9, e, R, s, m, args, below, meth, c⟩, ⟨D, g, A, Q⟩, M0, ad0⟩ := κ
  obtain ⟨hx, hb, -⟩ := hc
  intro M ad H locs ls a M' kc ks cs ss hF hfin hcc hss hW hl hst
  refine lv_ishr hx hb hd ?_
  exact kk M ad H locs ls a M' kc ks cs ss hF hfin hcc hss hW hl (okS_cons okW_i (okS_tl (okS_tl hst)))
theorem N_iushr (hc : Jc κ own cc nL fr mc ms lc) {x y : Int32} (hd : decode cc pc = .ok (.iushr, 1)) (kk : Jw κ ω nL fin (pc + 1) l ((0, .int ((x.toUInt32 >>> (y.toUInt32 &&& Int32.toUInt32 31)).toInt32)) :: st) F) : Jw κ ω nL fin pc l ((0, .int y) :: (0, .int x) :: st) F := by
  obtain ⟨⟨p, l9, e, R, s, m, args, below, meth, c⟩, ⟨D, g, A, Q⟩, M0, ad0⟩ := κ
  obtain ⟨hx, hb, -⟩ := hc
  intro M ad H locs ls a M' kc ks cs ss hF hfin hcc hss hW hl hst
  refine lv_iushr hx hb hd rfl ?_
  exact kk M ad H locs ls a M' kc ks cs ss hF hfin hcc hss hW hl (okS_cons okW_i (okS_tl (okS_tl hst)))
theorem N_ladd (hc : Jc κ own cc nL fr mc ms lc) {x y : Int64} (hd : decode cc pc = .ok (.ladd, 1)) (kk : Jw κ ω nL fin (pc + 1) l ((0, .long (x + y)) :: st) F) : Jw κ ω nL fin pc l ((0, .long y) :: (0, .long x) :: st) F := by
  obtain ⟨⟨p, l9, e, R, s, m, args, below, meth, c⟩, ⟨D, g, A, Q⟩, M0, ad0⟩ := κ
  obtain ⟨hx, hb, -⟩ := hc
  intro M ad H locs ls a M' kc ks cs ss hF hfin hcc hss hW hl hst
  refine lv_ladd hx hb hd ?_
  exact kk M ad H locs ls a M' kc ks cs ss hF hfin hcc hss hW hl (okS_cons okW_l (okS_tl (okS_tl hst)))
theorem N_lsub (hc : Jc κ own cc nL fr mc ms lc) {x y : Int64} (hd : decode cc pc = .ok (.lsub, 1)) (kk : Jw κ ω nL fin (pc + 1) l ((0, .long (x - y)) :: st) F) : Jw κ ω nL fin pc l ((0, .long y) :: (0, .long x) :: st) F := by
  obtain ⟨⟨p, l9, e, R, s, m, args, below, meth, c⟩, ⟨D, g, A, Q⟩, M0, ad0⟩ := κ
  obtain ⟨hx, hb, -⟩ := hc
  intro M ad H locs ls a M' kc ks cs ss hF hfin hcc hss hW hl hst
  refine lv_lsub hx hb hd ?_
  exact kk M ad H locs ls a M' kc ks cs ss hF hfin hcc hss hW hl (okS_cons okW_l (okS_tl (okS_tl hst)))
theorem N_land (hc : Jc κ own cc nL fr mc ms lc) {x y : Int64} (hd : decode cc pc = .ok (.land, 1)) (kk : Jw κ ω nL fin (pc + 1) l ((0, .long (x &&& y)) :: st) F) : Jw κ ω nL fin pc l ((0, .long y) :: (0, .long x) :: st) F := by
  obtain ⟨⟨p, l9, e, R, s, m, args, below, meth, c⟩, ⟨D, g, A, Q⟩, M0, ad0⟩ := κ
  obtain ⟨hx, hb, -⟩ := hc
  intro M ad H locs ls a M' kc ks cs ss hF hfin hcc hss hW hl hst
  refine lv_land hx hb hd ?_
  exact kk M ad H locs ls a M' kc ks cs ss hF hfin hcc hss hW hl (okS_cons okW_l (okS_tl (okS_tl hst)))
theorem N_lor (hc : Jc κ own cc nL fr mc ms lc) {x y : Int64} (hd : decode cc pc = .ok (.lor, 1)) (kk : Jw κ ω nL fin (pc + 1) l ((0, .long (x ||| y)) :: st) F) : Jw κ ω nL fin pc l ((0, .long y) :: (0, .long x) :: st) F := by
  obtain ⟨⟨p, l9, e, R, s, m, args, below, meth, c⟩, ⟨D, g, A, Q⟩, M0, ad0⟩ := κ
  obtain ⟨hx, hb, -⟩ := hc
  intro M ad H locs ls a M' kc ks cs ss hF hfin hcc hss hW hl hst
  refine lv_lor hx hb hd ?_
  exact kk M ad H locs ls a M' kc ks cs ss hF hfin hcc hss hW hl (okS_cons okW_l (okS_tl (okS_tl hst)))
theorem N_lxor (hc : Jc κ own cc nL fr mc ms lc) {x y : Int64} (hd : decode cc pc = .ok (.lxor, 1)) (kk : Jw κ ω nL fin (pc + 1) l ((0, .long (x ^^^ y)) :: st) F) : Jw κ ω nL fin pc l ((0, .long y) :: (0, .long x) :: st) F := by
  obtain ⟨⟨p, l9, e, R, s, m, args, below, meth, c⟩, ⟨D, g, A, Q⟩, M0, ad0⟩ := κ
  obtain ⟨hx, hb, -⟩ := hc
  intro M ad H locs ls a M' kc ks cs ss hF hfin hcc hss hW hl hst
  refine lv_lxor hx hb hd ?_
  exact kk M ad H locs ls a M' kc ks cs ss hF hfin hcc hss hW hl (okS_cons okW_l (okS_tl (okS_tl hst)))
theorem N_lneg (hc : Jc κ own cc nL fr mc ms lc) {x : Int64} (hd : decode cc pc = .ok (.lneg, 1)) (kk : Jw κ ω nL fin (pc + 1) l ((0, .long (-x)) :: st) F) : Jw κ ω nL fin pc l ((0, .long x) :: st) F := by
  obtain ⟨⟨p, l9, e, R, s, m, args, below, meth, c⟩, ⟨D, g, A, Q⟩, M0, ad0⟩ := κ
  obtain ⟨hx, hb, -⟩ := hc
  intro M ad H locs ls a M' kc ks cs ss hF hfin hcc hss hW hl hst
  refine lv_lneg hx hb hd ?_
  exact kk M ad H locs ls a M' kc ks cs ss hF hfin hcc hss hW hl (okS_cons okW_l (okS_tl hst))
theorem N_lshl (hc : Jc κ own cc nL fr mc ms lc) {x : Int64} {y : Int32} (hd : decode cc pc = .ok (.lshl, 1)) (kk : Jw κ ω nL fin (pc + 1) l ((0, .long (x <<< (y.toInt64 &&& 63))) :: st) F) : Jw κ ω nL fin pc l ((0, .int y) :: (0, .long x) :: st) F := by
  obtain ⟨⟨p, l9, e, R, s, m, args, below, meth, c⟩, ⟨D, g, A, Q⟩, M0, ad0⟩ := κ
  obtain ⟨hx, hb, -⟩ := hc
  intro M ad H locs ls a M' kc ks cs ss hF hfin hcc hss hW hl hst
  refine lv_lshl hx hb hd rfl ?_
  exact kk M ad H locs ls a M' kc ks cs ss hF hfin hcc hss hW hl (okS_cons okW_l (okS_tl (okS_tl hst)))
theorem N_lushr (hc : Jc κ own cc nL fr mc ms lc) {x : Int64} {y : Int32} (hd : decode cc pc = .ok (.lushr, 1)) (kk : Jw κ ω nL fin (pc + 1) l ((0, .long ((x.toUInt64 >>> (y.toInt64.toUInt64 &&& Int64.toUInt64 63)).toInt64)) :: st) F) : Jw κ ω nL fin pc l ((0, .int y) :: (0, .long x) :: st) F := by
  obtain ⟨⟨p, l9, e, R, s, m, args, below, meth, c⟩, ⟨D, g, A, Q⟩, M0, ad0⟩ := κ
  obtain ⟨hx, hb, -⟩ := hc
  intro M ad H locs ls a M' kc ks cs ss hF hfin hcc hss hW hl hst
  refine lv_lushr hx hb hd rfl ?_
  exact kk M ad H locs ls a M' kc ks cs ss hF hfin hcc hss hW hl (okS_cons okW_l (okS_tl (okS_tl hst)))
theorem N_i2l (hc : Jc κ own cc nL fr mc ms lc) {x : Int32} (hd : decode cc pc = .ok (.i2l, 1)) (kk : Jw κ ω nL fin (pc + 1) l ((0, .long x.toInt64) :: st) F) : Jw κ ω nL fin pc l ((0, .int x) :: st) F := by
  obtain ⟨⟨p, l9, e, R, s, m, args, below, meth, c⟩, ⟨D, g, A, Q⟩, M0, ad0⟩ := κ
  obtain ⟨hx, hb, -⟩ := hc
  intro M ad H locs ls a M' kc ks cs ss hF hfin hcc hss hW hl hst
  refine lv_i2l hx hb hd rfl ?_
  exact kk M ad H locs ls a M' kc ks cs ss hF hfin hcc hss hW hl (okS_cons okW_l (okS_tl hst))
theorem N_l2i (hc : Jc κ own cc nL fr mc ms lc) {x : Int64} (hd : decode cc pc = .ok (.l2i, 1)) (kk : Jw κ ω nL fin (pc + 1) l ((0, .int x.toInt32) :: st) F) : Jw κ ω nL fin pc l ((0, .long x) :: st) F := by
  obtain ⟨⟨p, l9, e, R, s, m, args, below, meth, c⟩, ⟨D, g, A, Q⟩, M0, ad0⟩ := κ
  obtain ⟨hx, hb, -⟩ := hc
  intro M ad H locs ls a M' kc ks cs ss hF hfin hcc hss hW hl hst
  refine lv_l2i hx hb hd rfl ?_
  exact kk M ad H locs ls a M' kc ks cs ss hF hfin hcc hss hW hl (okS_cons okW_i (okS_tl hst))
theorem N_i2b (hc : Jc κ own cc nL fr mc ms lc) {x : Int32} (hd : decode cc pc = .ok (.i2b, 1)) (kk : Jw κ ω nL fin (pc + 1) l ((0, .int x.toInt8.toInt32) :: st) F) : Jw κ ω nL fin pc l ((0, .int x) :: st) F := by
  obtain ⟨⟨p, l9, e, R, s, m, args, below, meth, c⟩, ⟨D, g, A, Q⟩, M0, ad0⟩ := κ
  obtain ⟨hx, hb, -⟩ := hc
  intro M ad H locs ls a M' kc ks cs ss hF hfin hcc hss hW hl hst
  refine lv_i2b hx hb hd rfl ?_
  exact kk M ad H locs ls a M' kc ks cs ss hF hfin hcc hss hW hl (okS_cons okW_i (okS_tl hst))
theorem N_i2c (hc : Jc κ own cc nL fr mc ms lc) {x : Int32} (hd : decode cc pc = .ok (.i2c, 1)) (kk : Jw κ ω nL fin (pc + 1) l ((0, .int ((x.toUInt32 % 65536).toInt32)) :: st) F) : Jw κ ω nL fin pc l ((0, .int x) :: st) F := by
  obtain ⟨⟨p, l9, e, R, s, m, args, below, meth, c⟩, ⟨D, g, A, Q⟩, M0, ad0⟩ := κ
  obtain ⟨hx, hb, -⟩ := hc
  intro M ad H locs ls a M' kc ks cs ss hF hfin hcc hss hW hl hst
  refine lv_i2c hx hb hd rfl ?_
  exact kk M ad H locs ls a M' kc ks cs ss hF hfin hcc hss hW hl (okS_cons okW_i (okS_tl hst))
theorem N_lcmp (hc : Jc κ own cc nL fr mc ms lc) {x y : Int64} (hd : decode cc pc = .ok (.lcmp, 1)) (kk : Jw κ ω nL fin (pc + 1) l ((0, .int (lg_cmp x y)) :: st) F) : Jw κ ω nL fin pc l ((0, .long y) :: (0, .long x) :: st) F := by
  obtain ⟨⟨p, l9, e, R, s, m, args, below, meth, c⟩, ⟨D, g, A, Q⟩, M0, ad0⟩ := κ
  obtain ⟨hx, hb, -⟩ := hc
  intro M ad H locs ls a M' kc ks cs ss hF hfin hcc hss hW hl hst
  refine W.lcmp hx hb hd ?_
  exact kk M ad H locs ls a M' kc ks cs ss hF hfin hcc hss hW hl (okS_cons okW_i (okS_tl (okS_tl hst)))
theorem N_idivC (hc : Jc κ own cc nL fr mc ms lc) {x y : Int32} (hd : decode cc pc = .ok (.idiv, 1)) (hne : ¬ y = 0) (kk : Jw κ ω nL fin (pc + 1) l ((0, .int (x / y)) :: st) F) : Jw κ ω nL fin pc l ((0, .int y) :: (0, .int x) :: st) F := by
  obtain ⟨⟨p, l9, e, R, s, m, args, below, meth, c⟩, ⟨D, g, A, Q⟩, M0, ad0⟩ := κ
  obtain ⟨hx, hb, -⟩ := hc
  intro M ad H locs ls a M' kc ks cs ss hF hfin hcc hss hW hl hst
  refine lv_idiv hx hb hd hne ?_
  exact kk M ad H locs ls a M' kc ks cs ss hF hfin hcc hss hW hl (okS_cons okW_i (okS_tl (okS_tl hst)))
theorem N_iremC (hc : Jc κ own cc nL fr mc ms lc) {x y : Int32} (hd : decode cc pc = .ok (.irem, 1)) (hne : ¬ y = 0) (kk : Jw κ ω nL fin (pc + 1) l ((0, .int (x - x / y * y)) :: st) F) : Jw κ ω nL fin pc l ((0, .int y) :: (0, .int x) :: st) F := by
  obtain ⟨⟨p, l9, e, R, s, m, args, below, meth, c⟩, ⟨D, g, A, Q⟩, M0, ad0⟩ := κ
  obtain ⟨hx, hb, -⟩ := hc
  intro M ad H locs ls a M' kc ks cs ss hF hfin hcc hss hW hl hst
  refine lv_irem hx hb hd hne ?_
  exact kk M ad H locs ls a M' kc ks cs ss hF hfin hcc hss hW hl (okS_cons okW_i (okS_tl (okS_tl hst)))
theorem N_idiv (hc : Jc κ own cc nL fr mc ms lc) {x y : Int32} (hd : decode cc pc = .ok (.idiv, 1)) (kk : Jw κ ω nL fin (pc + 1) l ((0, .int (x / y)) :: st) F) : Jw κ ω nL fin pc l ((0, .int y) :: (0, .int x) :: st) (wgrd (!(y == 0)) F) := by
  obtain ⟨⟨p, l9, e, R, s, m, args, below, meth, c⟩, ⟨D, g, A, Q⟩, M0, ad0⟩ := κ
  obtain ⟨hx, hb, -⟩ := hc
  intro M ad H locs ls a M' kc ks cs ss hF hfin hcc hss hW hl hst
  obtain ⟨hy, hF⟩ := wgrd_some hF
  have hne : ¬ y = 0 := by simpa using hy
  refine lv_idiv hx hb hd hne ?_
  exact kk M ad H locs ls a M' kc ks cs ss hF hfin hcc hss hW hl (okS_cons okW_i (okS_tl (okS_tl hst)))
theorem N_irem (hc : Jc κ own cc nL fr mc ms lc) {x y : Int32} (hd : decode cc pc = .ok (.irem, 1)) (kk : Jw κ ω nL fin (pc + 1) l ((0, .int (x - x / y * y)) :: st) F) : Jw κ ω nL fin pc l ((0, .int y) :: (0, .int x) :: st) (wgrd (!(y == 0)) F) := by
  obtain ⟨⟨p, l9, e, R, s, m, args, below, meth, c⟩, ⟨D, g, A, Q⟩, M0, ad0⟩ := κ
  obtain ⟨hx, hb, -⟩ := hc
  intro M ad H locs ls a M' kc ks cs ss hF hfin hcc hss hW hl hst
  obtain ⟨hy, hF⟩ := wgrd_some hF
  have hne : ¬ y = 0 := by simpa using hy
  refine lv_irem hx hb hd hne ?_
  exact kk M ad H locs ls a M' kc ks cs ss hF hfin hcc hss hW hl (okS_cons okW_i (okS_tl (okS_tl hst)))
theorem N_iload (hc : Jc κ own cc nL fr mc ms lc) {i k : Nat} {x : Int32} (hd : decode cc pc = .ok (.iload i, 2)) (hk : l[i]? = some (some (k, .int x))) (kk : Jw κ ω nL fin (pc + 2) l ((0, .int x) :: st) F) : Jw κ ω nL fin pc l st F := by
  obtain ⟨⟨p, l9, e, R, s, m, args, below, meth, c⟩, ⟨D, g, A, Q⟩, M0, ad0⟩ := κ
  obtain ⟨hx, hb, -⟩ := hc
  intro M ad H locs ls a M' kc ks cs ss hF hfin hcc hss hW hl hst
  refine lv_iload hx hb hd (hl.2 _ _ hk).1 ?_
  exact kk M ad H locs ls a M' kc ks cs ss hF hfin hcc hss hW hl (okS_cons okW_i hst)
theorem N_lload (hc : Jc κ own cc nL fr mc ms lc) {i k : Nat} {x : Int64} (hd : decode cc pc = .ok (.lload i, 2)) (hk : l[i]? = some (some (k, .long x))) (kk : Jw κ ω nL fin (pc + 2) l ((0, .long x) :: st) F) : Jw κ ω nL fin pc l st F := by
  obtain ⟨⟨p, l9, e, R, s, m, args, below, meth, c⟩, ⟨D, g, A, Q⟩, M0, ad0⟩ := κ
  obtain ⟨hx, hb, -⟩ := hc
  intro M ad H locs ls a M' kc ks cs ss hF hfin hcc hss hW hl hst
  refine lv_lload hx hb hd (hl.2 _ _ hk).1 ?_
  exact kk M ad H locs ls a M' kc ks cs ss hF hfin hcc hss hW hl (okS_cons okW_l hst)
theorem N_iload_n (hc : Jc κ own cc nL fr mc ms lc) {k0 : Fin 4} {i k : Nat} {x : Int32} (hd : decode cc pc = .ok (.iload_n k0, 1)) (hi : (k0 : Nat) = i) (hk : l[i]? = some (some (k, .int x))) (kk : Jw κ ω nL fin (pc + 1) l ((0, .int x) :: st) F) : Jw κ ω nL fin pc l st F := by
  obtain ⟨⟨p, l9, e, R, s, m, args, below, meth, c⟩, ⟨D, g, A, Q⟩, M0, ad0⟩ := κ
  obtain ⟨hx, hb, -⟩ := hc
  intro M ad H locs ls a M' kc ks cs ss hF hfin hcc hss hW hl hst
  refine lv_iload_n hx hb hd hi (hl.2 _ _ hk).1 ?_
  exact kk M ad H locs ls a M' kc ks cs ss hF hfin hcc hss hW hl (okS_cons okW_i hst)
theorem N_lload_n (hc : Jc κ own cc nL fr mc ms lc) {k0 : Fin 4} {i k : Nat} {x : Int64} (hd : decode cc pc = .ok (.lload_n k0, 1)) (hi : (k0 : Nat) = i) (hk : l[i]? = some (some (k, .long x))) (kk : Jw κ ω nL fin (pc + 1) l ((0, .long x) :: st) F) : Jw κ ω nL fin pc l st F := by
  obtain ⟨⟨p, l9, e, R, s, m, args, below, meth, c⟩, ⟨D, g, A, Q⟩, M0, ad0⟩ := κ
  obtain ⟨hx, hb, -⟩ := hc
  intro M ad H locs ls a M' kc ks cs ss hF hfin hcc hss hW hl hst
  refine lv_lload_n hx hb hd hi (hl.2 _ _ hk).1 ?_
  exact kk M ad H locs ls a M' kc ks cs ss hF hfin hcc hss hW hl (okS_cons okW_l hst)
theorem N_aload (hc : Jc κ own cc nL fr mc ms lc) {i k x : Nat} (hd : decode cc pc = .ok (.aload i, 2)) (hk : l[i]? = some (some (k, .ref x))) (kk : Jw κ ω nL fin (pc + 2) l ((k, .ref x) :: st) F) : Jw κ ω nL fin pc l st F := by
  obtain ⟨⟨p, l9, e, R, s, m, args, below, meth, c⟩, ⟨D, g, A, Q⟩, M0, ad0⟩ := κ
  obtain ⟨hx, hb, -⟩ := hc
  intro M ad H locs ls a M' kc ks cs ss hF hfin hcc hss hW hl hst
  refine lv_aload hx hb hd (hl.2 _ _ hk).1 ?_
  exact kk M ad H locs ls a M' kc ks cs ss hF hfin hcc hss hW hl (okS_cons (hl.2 _ _ hk).2 hst)
theorem N_aload_n (hc : Jc κ own cc nL fr mc ms lc) {k0 : Fin 4} {i k x : Nat} (hd : decode cc pc = .ok (.aload_n k0, 1)) (hi : (k0 : Nat) = i) (hk : l[i]? = some (some (k, .ref x))) (kk : Jw κ ω nL fin (pc + 1) l ((k, .ref x) :: st) F) : Jw κ ω nL fin pc l st F := by
  obtain ⟨⟨p, l9, e, R, s, m, args, below, meth, c⟩, ⟨D, g, A, Q⟩, M0, ad0⟩ := κ
  obtain ⟨hx, hb, -⟩ := hc
  intro M ad H locs ls a M' kc ks cs ss hF hfin hcc hss hW hl hst
  refine lv_aload_n hx hb hd hi (hl.2 _ _ hk).1 ?_
  exact kk M ad H locs ls a M' kc ks cs ss hF hfin hcc hss hW hl (okS_cons (hl.2 _ _ hk).2 hst)
theorem N_istore (hc : Jc κ own cc nL fr mc ms lc) {i : Nat} {x : Int32} (hd : decode cc pc = .ok (.istore i, 2)) (hn : i < nL) (hc1 : c1 l i = true) (hl9 : l.set i (some (0, .int x)) = l') (kk : Jw κ ω nL fin (pc + 2) l' st F) : Jw κ ω nL fin pc l ((0, .int x) :: st) F := by
  obtain ⟨⟨p, l9, e, R, s, m, args, below, meth, c⟩, ⟨D, g, A, Q⟩, M0, ad0⟩ := κ
  obtain ⟨hx, hb, -⟩ := hc
  intro M ad H locs ls a M' kc ks cs ss hF hfin hcc hss hW hl hst
  refine lv_istore hx hb hd (lvk_has hl) hn rfl (fun ls1 h1 => ?_)
  exact kk M ad H locs ls1 a M' kc ks cs ss hF hfin hcc hss hW (lvk_st1 (v := (0, .int x)) hl (okS_hd hst) hc1 hl9 h1) (okS_tl hst)
theorem N_istore_n (hc : Jc κ own cc nL fr mc ms lc) {k0 : Fin 4} {i : Nat} {x : Int32} (hd : decode cc pc = .ok (.istore_n k0, 1)) (hi : (k0 : Nat) = i) (hn : i < nL) (hc1 : c1 l i = true) (hl9 : l.set i (some (0, .int x)) = l') (kk : Jw κ ω nL fin (pc + 1) l' st F) : Jw κ ω nL fin pc l ((0, .int x) :: st) F := by
  obtain ⟨⟨p, l9, e, R, s, m, args, below, meth, c⟩, ⟨D, g, A, Q⟩, M0, ad0⟩ := κ
  obtain ⟨hx, hb, -⟩ := hc
  intro M ad H locs ls a M' kc ks cs ss hF hfin hcc hss hW hl hst
  refine lv_istore_n hx hb hd hi (lvk_has hl) hn rfl (fun ls1 h1 => ?_)
  exact kk M ad H locs ls1 a M' kc ks cs ss hF hfin hcc hss hW (lvk_st1 (v := (0, .int x)) hl (okS_hd hst) hc1 hl9 h1) (okS_tl hst)
theorem N_lstore (hc : Jc κ own cc nL fr mc ms lc) {i : Nat} {x : Int64} (hd : decode cc pc = .ok (.lstore i, 2)) (hn : i + 1 < nL) (hc1 : c1 l i = true) (hl9 : (l.set i (some (0, .long x))).set (i + 1) none = l') (kk : Jw κ ω nL fin (pc + 2) l' st F) : Jw κ ω nL fin pc l ((0, .long x) :: st) F := by
  obtain ⟨⟨p, l9, e, R, s, m, args, below, meth, c⟩, ⟨D, g, A, Q⟩, M0, ad0⟩ := κ
  obtain ⟨hx, hb, -⟩ := hc
  intro M ad H locs ls a M' kc ks cs ss hF hfin hcc hss hW hl hst
  refine lv_lstore hx hb hd (lvk_has hl) hn rfl (fun ls1 h1 => ?_)
  exact kk M ad H locs ls1 a M' kc ks cs ss hF hfin hcc hss hW (lvk_st2 (v := (0, .long x)) hl (okS_hd hst) hc1 hl9 h1) (okS_tl hst)
theorem N_lstore_n (hc : Jc κ own cc nL fr mc ms lc) {k0 : Fin 4} {i : Nat} {x : Int64} (hd : decode cc pc = .ok (.lstore_n k0, 1)) (hi : (k0 : Nat) = i) (hn : i + 1 < nL) (hc1 : c1 l i = true) (hl9 : (l.set i (some (0, .long x))).set (i + 1) none = l') (kk : Jw κ ω nL fin (pc + 1) l' st F) : Jw κ ω nL fin pc l ((0, .long x) :: st) F := by
  obtain ⟨⟨p, l9, e, R, s, m, args, below, meth, c⟩, ⟨D, g, A, Q⟩, M0, ad0⟩ := κ
  obtain ⟨hx, hb, -⟩ := hc
  intro M ad H locs ls a M' kc ks cs ss hF hfin hcc hss hW hl hst
  refine lv_lstore_n hx hb hd hi (lvk_has hl) hn rfl (fun ls1 h1 => ?_)
  exact kk M ad H locs ls1 a M' kc ks cs ss hF hfin hcc hss hW (lvk_st2 (v := (0, .long x)) hl (okS_hd hst) hc1 hl9 h1) (okS_tl hst)
theorem N_astore (hc : Jc κ own cc nL fr mc ms lc) {i : Nat} {k : Nat} {x : Nat} (hd : decode cc pc = .ok (.astore i, 2)) (hn : i < nL) (hc1 : c1 l i = true) (hl9 : l.set i (some (k, .ref x)) = l') (kk : Jw κ ω nL fin (pc + 2) l' st F) : Jw κ ω nL fin pc l ((k, .ref x) :: st) F := by
  obtain ⟨⟨p, l9, e, R, s, m, args, below, meth, c⟩, ⟨D, g, A, Q⟩, M0, ad0⟩ := κ
  obtain ⟨hx, hb, -⟩ := hc
  intro M ad H locs ls a M' kc ks cs ss hF hfin hcc hss hW hl hst
  refine lv_astore hx hb hd (lvk_has hl) hn rfl (fun ls1 h1 => ?_)
  exact kk M ad H locs ls1 a M' kc ks cs ss hF hfin hcc hss hW (lvk_st1 (v := (k, .ref x)) hl (okS_hd hst) hc1 hl9 h1) (okS_tl hst)
theorem N_astore_n (hc : Jc κ own cc nL fr mc ms lc) {k0 : Fin 4} {i : Nat} {k : Nat} {x : Nat} (hd : decode cc pc = .ok (.astore_n k0, 1)) (hi : (k0 : Nat) = i) (hn : i < nL) (hc1 : c1 l i = true) (hl9 : l.set i (some (k, .ref x)) = l') (kk : Jw κ ω nL fin (pc + 1) l' st F) : Jw κ ω nL fin pc l ((k, .ref x) :: st) F := by
  obtain ⟨⟨p, l9, e, R, s, m, args, below, meth, c⟩, ⟨D, g, A, Q⟩, M0, ad0⟩ := κ
  obtain ⟨hx, hb, -⟩ := hc
  intro M ad H locs ls a M' kc ks cs ss hF hfin hcc hss hW hl hst
  refine lv_astore_n hx hb hd hi (lvk_has hl) hn rfl (fun ls1 h1 => ?_)
  exact kk M ad H locs ls1 a M' kc ks cs ss hF hfin hcc hss hW (lvk_st1 (v := (k, .ref x)) hl (okS_hd hst) hc1 hl9 h1) (okS_tl hst)
theorem N_iinc (hc : Jc κ own cc nL fr mc ms lc) {i k : Nat} {n : Int} {x v : Int32} (hd : decode cc pc = .ok (.iinc i n, 3)) (hk : l[i]? = some (some (k, .int x))) (hv : x + Int32.ofInt n = v) (hn : i < nL) (hc1 : c1 l i = true) (hl9 : l.set i (some (0, .int v)) = l') (kk : Jw κ ω nL fin (pc + 3) l' st F) : Jw κ ω nL fin pc l st F := by
  obtain ⟨⟨p, l9, e, R, s, m, args, below, meth, c⟩, ⟨D, g, A, Q⟩, M0, ad0⟩ := κ
  obtain ⟨hx, hb, -⟩ := hc
  intro M ad H locs ls a M' kc ks cs ss hF hfin hcc hss hW hl hst
  obtain ⟨j, hj⟩ := List.getElem?_of_mem (ent_mem (ad := ad) hk)
  refine lv_iinc hx hb hd (lvk_has hl) hj hv hn rfl (fun ls1 h1 => ?_)
  exact kk M ad H locs ls1 a M' kc ks cs ss hF hfin hcc hss hW (lvk_st1 (v := (0, .int v)) hl okW_i hc1 hl9 h1) hst
theorem N_icmp_eq (hc : Jc κ own cc nL fr mc ms lc) {x y : Int32} {off : Int} {tgt : Nat} {dec : Decidable (x = y)} (hd : decode cc pc = .ok (.if_icmp .eq off, 3)) (ht : (pc : Int) + off = (tgt : Int)) (kt : Jw κ ω nL fin tgt l st F1) (kf : Jw κ ω nL fin (pc + 3) l st F2) : Jw κ ω nL fin pc l ((0, .int y) :: (0, .int x) :: st) (if x = y then F1 else F2) := by
  obtain ⟨⟨p, l9, e, R, s, m, args, below, meth, c⟩, ⟨D, g, A, Q⟩, M0, ad0⟩ := κ
  obtain ⟨hx, hb, -⟩ := hc
  intro M ad H locs ls a M' kc ks cs ss hF hfin hcc hss hW hl hst
  refine lv_icmp_eq hx hb hd ht (fun q => ?_) (fun q => ?_)
  · rw [if_pos q] at hF
    exact kt M ad H locs ls a M' kc ks cs ss hF hfin hcc hss hW hl (okS_tl (okS_tl hst))
  · rw [if_neg q] at hF
    exact kf M ad H locs ls a M' kc ks cs ss hF hfin hcc hss hW hl (okS_tl (okS_tl hst))
theorem N_if_eq (hc : Jc κ own cc nL fr mc ms lc) {x : Int32} {off : Int} {tgt : Nat} {dec : Decidable (x = 0)} (hd : decode cc pc = .ok (.ifCond .eq off, 3)) (ht : (pc : Int) + off = (tgt : Int)) (kt : Jw κ ω nL fin tgt l st F1) (kf : Jw κ ω nL fin (pc + 3) l st F2) : Jw κ ω nL fin pc l ((0, .int x) :: st) (if x = 0 then F1 else F2) := by
  obtain ⟨⟨p, l9, e, R, s, m, args, below, meth, c⟩, ⟨D, g, A, Q⟩, M0, ad0⟩ := κ
  obtain ⟨hx, hb, -⟩ := hc
  intro M ad H locs ls a M' kc ks cs ss hF hfin hcc hss hW hl hst
  refine lv_if_eq hx hb hd ht (fun q => ?_) (fun q => ?_)
  · rw [if_pos q] at hF
    exact kt M ad H locs ls a M' kc ks cs ss hF hfin hcc hss hW hl (okS_tl hst)
  · rw [if_neg q] at hF
    exact kf M ad H locs ls a M' kc ks cs ss hF hfin hcc hss hW hl (okS_tl hst)
theorem N_icmp_ne (hc : Jc κ own cc nL fr mc ms lc) {x y : Int32} {off : Int} {tgt : Nat} {dec : Decidable (x = y)} (hd : decode cc pc = .ok (.if_icmp .ne off, 3)) (ht : (pc : Int) + off = (tgt : Int)) (kt : Jw κ ω nL fin tgt l st F2) (kf : Jw κ ω nL fin (pc + 3) l st F1) : Jw κ ω nL fin pc l ((0, .int y) :: (0, .int x) :: st) (if x = y then F1 else F2) := by
  obtain ⟨⟨p, l9, e, R, s, m, args, below, meth, c⟩, ⟨D, g, A, Q⟩, M0, ad0⟩ := κ
  obtain ⟨hx, hb, -⟩ := hc
  intro M ad H locs ls a M' kc ks cs ss hF hfin hcc hss hW hl hst
  refine lv_icmp_ne hx hb hd ht (fun q => ?_) (fun q => ?_)
  · rw [if_neg q] at hF
    exact kt M ad H locs ls a M' kc ks cs ss hF hfin hcc hss hW hl (okS_tl (okS_tl hst))
  · rw [if_pos q] at hF
    exact kf M ad H locs ls a M' kc ks cs ss hF hfin hcc hss hW hl (okS_tl (okS_tl hst))
theorem N_if_ne (hc : Jc κ own cc nL fr mc ms lc) {x : Int32} {off : Int} {tgt : Nat} {dec : Decidable (x = 0)} (hd : decode cc pc = .ok (.ifCond .ne off, 3)) (ht : (pc : Int) + off = (tgt : Int)) (kt : Jw κ ω nL fin tgt l st F2) (kf : Jw κ ω nL fin (pc + 3) l st F1) : Jw κ ω nL fin pc l ((0, .int x) :: st) (if x = 0 then F1 else F2) := by
  obtain ⟨⟨p, l9, e, R, s, m, args, below, meth, c⟩, ⟨D, g, A, Q⟩, M0, ad0⟩ := κ
  obtain ⟨hx, hb, -⟩ := hc
  intro M ad H locs ls a M' kc ks cs ss hF hfin hcc hss hW hl hst
  refine lv_if_ne hx hb hd ht (fun q => ?_) (fun q => ?_)
  · rw [if_neg q] at hF
    exact kt M ad H locs ls a M' kc ks cs ss hF hfin hcc hss hW hl (okS_tl hst)
  · rw [if_pos q] at hF
    exact kf M ad H locs ls a M' kc ks cs ss hF hfin hcc hss hW hl (okS_tl hst)
theorem N_icmp_lt (hc : Jc κ own cc nL fr mc ms lc) {x y : Int32} {off : Int} {tgt : Nat} {dec : Decidable (x < y)} (hd : decode cc pc = .ok (.if_icmp .lt off, 3)) (ht : (pc : Int) + off = (tgt : Int)) (kt : Jw κ ω nL fin tgt l st F1) (kf : Jw κ ω nL fin (pc + 3) l st F2) : Jw κ ω nL fin pc l ((0, .int y) :: (0, .int x) :: st) (if x < y then F1 else F2) := by
  obtain ⟨⟨p, l9, e, R, s, m, args, below, meth, c⟩, ⟨D, g, A, Q⟩, M0, ad0⟩ := κ
  obtain ⟨hx, hb, -⟩ := hc
  intro M ad H locs ls a M' kc ks cs ss hF hfin hcc hss hW hl hst
  refine lv_icmp_lt hx hb hd ht (fun q => ?_) (fun q => ?_)
  · rw [if_pos q] at hF
    exact kt M ad H locs ls a M' kc ks cs ss hF hfin hcc hss hW hl (okS_tl (okS_tl hst))
  · rw [if_neg q] at hF
    exact kf M ad H locs ls a M' kc ks cs ss hF hfin hcc hss hW hl (okS_tl (okS_tl hst))
theorem N_if_lt (hc : Jc κ own cc nL fr mc ms lc) {x : Int32} {off : Int} {tgt : Nat} {dec : Decidable (x < 0)} (hd : decode cc pc = .ok (.ifCond .lt off, 3)) (ht : (pc : Int) + off = (tgt : Int)) (kt : Jw κ ω nL fin tgt l st F1) (kf : Jw κ ω nL fin (pc + 3) l st F2) : Jw κ ω nL fin pc l ((0, .int x) :: st) (if x < 0 then F1 else F2) := by
  obtain ⟨⟨p, l9, e, R, s, m, args, below, meth, c⟩, ⟨D, g, A, Q⟩, M0, ad0⟩ := κ
  obtain ⟨hx, hb, -⟩ := hc
  intro M ad H locs ls a M' kc ks cs ss hF hfin hcc hss hW hl hst
  refine lv_if_lt hx hb hd ht (fun q => ?_) (fun q => ?_)
  · rw [if_pos q] at hF
    exact kt M ad H locs ls a M' kc ks cs ss hF hfin hcc hss hW hl (okS_tl hst)
  · rw [if_neg q] at hF
    exact kf M ad H locs ls a M' kc ks cs ss hF hfin hcc hss hW hl (okS_tl hst)
theorem N_icmp_ge (hc : Jc κ own cc nL fr mc ms lc) {x y : Int32} {off : Int} {tgt : Nat} {dec : Decidable (y ≤ x)} (hd : decode cc pc = .ok (.if_icmp .ge off, 3)) (ht : (pc : Int) + off = (tgt : Int)) (kt : Jw κ ω nL fin tgt l st F1) (kf : Jw κ ω nL fin (pc + 3) l st F2) : Jw κ ω nL fin pc l ((0, .int y) :: (0, .int x) :: st) (if y ≤ x then F1 else F2) := by
  obtain ⟨⟨p, l9, e, R, s, m, args, below, meth, c⟩, ⟨D, g, A, Q⟩, M0, ad0⟩ := κ
  obtain ⟨hx, hb, -⟩ := hc
  intro M ad H locs ls a M' kc ks cs ss hF hfin hcc hss hW hl hst
  refine lv_icmp_ge hx hb hd ht (fun q => ?_) (fun q => ?_)
  · rw [if_pos q] at hF
    exact kt M ad H locs ls a M' kc ks cs ss hF hfin hcc hss hW hl (okS_tl (okS_tl hst))
  · rw [if_neg q] at hF
    exact kf M ad H locs ls a M' kc ks cs ss hF hfin hcc hss hW hl (okS_tl (okS_tl hst))
theorem N_if_ge (hc : Jc κ own cc nL fr mc ms lc) {x : Int32} {off : Int} {tgt : Nat} {dec : Decidable (0 ≤ x)} (hd : decode cc pc = .ok (.ifCond .ge off, 3)) (ht : (pc : Int) + off = (tgt : Int)) (kt : Jw κ ω nL fin tgt l st F1) (kf : Jw κ ω nL fin (pc + 3) l st F2) : Jw κ ω nL fin pc l ((0, .int x) :: st) (if 0 ≤ x then F1 else F2) := by
  obtain ⟨⟨p, l9, e, R, s, m, args, below, meth, c⟩, ⟨D, g, A, Q⟩, M0, ad0⟩ := κ
  obtain ⟨hx, hb, -⟩ := hc
  intro M ad H locs ls a M' kc ks cs ss hF hfin hcc hss hW hl hst
  refine lv_if_ge hx hb hd ht (fun q => ?_) (fun q => ?_)
  · rw [if_pos q] at hF
    exact kt M ad H locs ls a M' kc ks cs ss hF hfin hcc hss hW hl (okS_tl hst)
  · rw [if_neg q] at hF
    exact kf M ad H locs ls a M' kc ks cs ss hF hfin hcc hss hW hl (okS_tl hst)
theorem N_icmp_gt (hc : Jc κ own cc nL fr mc ms lc) {x y : Int32} {off : Int} {tgt : Nat} {dec : Decidable (y < x)} (hd : decode cc pc = .ok (.if_icmp .gt off, 3)) (ht : (pc : Int) + off = (tgt : Int)) (kt : Jw κ ω nL fin tgt l st F1) (kf : Jw κ ω nL fin (pc + 3) l st F2) : Jw κ ω nL fin pc l ((0, .int y) :: (0, .int x) :: st) (if y < x then F1 else F2) := by
  obtain ⟨⟨p, l9, e, R, s, m, args, below, meth, c⟩, ⟨D, g, A, Q⟩, M0, ad0⟩ := κ
  obtain ⟨hx, hb, -⟩ := hc
  intro M ad H locs ls a M' kc ks cs ss hF hfin hcc hss hW hl hst
  refine lv_icmp_gt hx hb hd ht (fun q => ?_) (fun q => ?_)
  · rw [if_pos q] at hF
    exact kt M ad H locs ls a M' kc ks cs ss hF hfin hcc hss hW hl (okS_tl (okS_tl hst))
  · rw [if_neg q] at hF
    exact kf M ad H locs ls a M' kc ks cs ss hF hfin hcc hss hW hl (okS_tl (okS_tl hst))
theorem N_if_gt (hc : Jc κ own cc nL fr mc ms lc) {x : Int32} {off : Int} {tgt : Nat} {dec : Decidable (0 < x)} (hd : decode cc pc = .ok (.ifCond .gt off, 3)) (ht : (pc : Int) + off = (tgt : Int)) (kt : Jw κ ω nL fin tgt l st F1) (kf : Jw κ ω nL fin (pc + 3) l st F2) : Jw κ ω nL fin pc l ((0, .int x) :: st) (if 0 < x then F1 else F2) := by
  obtain ⟨⟨p, l9, e, R, s, m, args, below, meth, c⟩, ⟨D, g, A, Q⟩, M0, ad0⟩ := κ
  obtain ⟨hx, hb, -⟩ := hc
  intro M ad H locs ls a M' kc ks cs ss hF hfin hcc hss hW hl hst
  refine lv_if_gt hx hb hd ht (fun q => ?_) (fun q => ?_)
  · rw [if_pos q] at hF
    exact kt M ad H locs ls a M' kc ks cs ss hF hfin hcc hss hW hl (okS_tl hst)
  · rw [if_neg q] at hF
    exact kf M ad H locs ls a M' kc ks cs ss hF hfin hcc hss hW hl (okS_tl hst)
theorem N_icmp_le (hc : Jc κ own cc nL fr mc ms lc) {x y : Int32} {off : Int} {tgt : Nat} {dec : Decidable (x ≤ y)} (hd : decode cc pc = .ok (.if_icmp .le off, 3)) (ht : (pc : Int) + off = (tgt : Int)) (kt : Jw κ ω nL fin tgt l st F1) (kf : Jw κ ω nL fin (pc + 3) l st F2) : Jw κ ω nL fin pc l ((0, .int y) :: (0, .int x) :: st) (if x ≤ y then F1 else F2) := by
  obtain ⟨⟨p, l9, e, R, s, m, args, below, meth, c⟩, ⟨D, g, A, Q⟩, M0, ad0⟩ := κ
  obtain ⟨hx, hb, -⟩ := hc
  intro M ad H locs ls a M' kc ks cs ss hF hfin hcc hss hW hl hst
  refine lv_icmp_le hx hb hd ht (fun q => ?_) (fun q => ?_)
  · rw [if_pos q] at hF
    exact kt M ad H locs ls a M' kc ks cs ss hF hfin hcc hss hW hl (okS_tl (okS_tl hst))
  · rw [if_neg q] at hF
    exact kf M ad H locs ls a M' kc ks cs ss hF hfin hcc hss hW hl (okS_tl (okS_tl hst))
theorem N_if_le (hc : Jc κ own cc nL fr mc ms lc) {x : Int32} {off : Int} {tgt : Nat} {dec : Decidable (x ≤ 0)} (hd : decode cc pc = .ok (.ifCond .le off, 3)) (ht : (pc : Int) + off = (tgt : Int)) (kt : Jw κ ω nL fin tgt l st F1) (kf : Jw κ ω nL fin (pc + 3) l st F2) : Jw κ ω nL fin pc l ((0, .int x) :: st) (if x ≤ 0 then F1 else F2) := by
  obtain ⟨⟨p, l9, e, R, s, m, args, below, meth, c⟩, ⟨D, g, A, Q⟩, M0, ad0⟩ := κ
  obtain ⟨hx, hb, -⟩ := hc
  intro M ad H locs ls a M' kc ks cs ss hF hfin hcc hss hW hl hst
  refine lv_if_le hx hb hd ht (fun q => ?_) (fun q => ?_)
  · rw [if_pos q] at hF
    exact kt M ad H locs ls a M' kc ks cs ss hF hfin hcc hss hW hl (okS_tl hst)
  · rw [if_neg q] at hF
    exact kf M ad H locs ls a M' kc ks cs ss hF hfin hcc hss hW hl (okS_tl hst)
theorem N_goto (hc : Jc κ own cc nL fr mc ms lc) {off : Int} {tgt : Nat} (hd : decode cc pc = .ok (.goto off, 3)) (ht : (pc : Int) + off = (tgt : Int)) (kk : Jw κ ω nL fin tgt l st F) : Jw κ ω nL fin pc l st F := by
  obtain ⟨⟨p, l9, e, R, s, m, args, below, meth, c⟩, ⟨D, g, A, Q⟩, M0, ad0⟩ := κ
  obtain ⟨hx, hb, -⟩ := hc
  intro M ad H locs ls a M' kc ks cs ss hF hfin hcc hss hW hl hst
  refine lv_goto hx hb hd ht ?_
  exact kk M ad H locs ls a M' kc ks cs ss hF hfin hcc hss hW hl hst
theorem N_dup (hc : Jc κ own cc nL fr mc ms lc) {q : TV} (hd : decode cc pc = .ok (.dup, 1)) (hq : q.2.category = 1) (kk : Jw κ ω nL fin (pc + 1) l (q :: q :: st) F) : Jw κ ω nL fin pc l (q :: st) F := by
  obtain ⟨⟨p, l9, e, R, s, m, args, below, meth, c⟩, ⟨D, g, A, Q⟩, M0, ad0⟩ := κ
  obtain ⟨hx, hb, -⟩ := hc
  intro M ad H locs ls a M' kc ks cs ss hF hfin hcc hss hW hl hst
  refine lv_dup hx hb hd (by rw [tr_cat]; exact hq) ?_
  exact kk M ad H locs ls a M' kc ks cs ss hF hfin hcc hss hW hl (okS_cons (okS_hd hst) hst)
theorem N_dup2 (hc : Jc κ own cc nL fr mc ms lc) {q r : TV} (hd : decode cc pc = .ok (.dup2, 1)) (hq : q.2.category = 1) (hr : r.2.category = 1) (kk : Jw κ ω nL fin (pc + 1) l (q :: r :: q :: r :: st) F) : Jw κ ω nL fin pc l (q :: r :: st) F := by
  obtain ⟨⟨p, l9, e, R, s, m, args, below, meth, c⟩, ⟨D, g, A, Q⟩, M0, ad0⟩ := κ
  obtain ⟨hx, hb, -⟩ := hc
  intro M ad H locs ls a M' kc ks cs ss hF hfin hcc hss hW hl hst
  refine lv_dup2_11 hx hb hd (by rw [tr_cat]; exact hq) (by rw [tr_cat]; exact hr) ?_
  exact kk M ad H locs ls a M' kc ks cs ss hF hfin hcc hss hW hl (okS_cons (okS_hd hst) (okS_cons (okS_hd (okS_tl hst)) hst))
theorem N_ifnull (hc : Jc κ own cc nL fr mc ms lc) {r : Option Nat} {k : Nat} {G1 : Nat → σ → Option (α × σ × Nat × Nat)} {off : Int} {tgt : Nat} (hd : decode cc pc = .ok (.ifnull off, 3)) (ht : (pc : Int) + off = (tgt : Int)) (kn : Jw κ ω nL fin tgt l st F) (kx : ∀ x, Jw κ ω nL fin (pc + 3) l st (G1 x)) : Jw κ ω nL fin pc l ((k, va_rf r) :: st) (match r with | none => F | some x => G1 x) := by
  obtain ⟨⟨p, l9, e, R, s, m, args, below, meth, c⟩, ⟨D, g, A, Q⟩, M0, ad0⟩ := κ
  obtain ⟨hx, hb, -⟩ := hc
  intro M ad H locs ls a M' kc ks cs ss hF hfin hcc hss hW hl hst
  cases r with
  | none =>
    refine lv_ifnullN hx hb hd ht ?_
    exact kn M ad H locs ls a M' kc ks cs ss hF hfin hcc hss hW hl (okS_tl hst)
  | some x =>
    refine lv_ifnull hx hb hd ?_
    exact kx x M ad H locs ls a M' kc ks cs ss hF hfin hcc hss hW hl (okS_tl hst)
theorem N_ifnonnull (hc : Jc κ own cc nL fr mc ms lc) {r : Option Nat} {k : Nat} {G1 : Nat → σ → Option (α × σ × Nat × Nat)} {off : Int} {tgt : Nat} (hd : decode cc pc = .ok (.ifnonnull off, 3)) (ht : (pc : Int) + off = (tgt : Int)) (kn : Jw κ ω nL fin (pc + 3) l st F) (kx : ∀ x, Jw κ ω nL fin tgt l st (G1 x)) : Jw κ ω nL fin pc l ((k, va_rf r) :: st) (match r with | none => F | some x => G1 x) := by
  obtain ⟨⟨p, l9, e, R, s, m, args, below, meth, c⟩, ⟨D, g, A, Q⟩, M0, ad0⟩ := κ
  obtain ⟨hx, hb, -⟩ := hc
  intro M ad H locs ls a M' kc ks cs ss hF hfin hcc hss hW hl hst
  cases r with
  | none =>
    refine lv_ifnonnullN hx hb hd ?_
    exact kn M ad H locs ls a M' kc ks cs ss hF hfin hcc hss hW hl (okS_tl hst)
  | some x =>
    refine lv_ifnonnull hx hb hd ht ?_
    exact kx x M ad H locs ls a M' kc ks cs ss hF hfin hcc hss hW hl (okS_tl hst)
theorem N_ldc2 (hc : Jc κ own cc nL fr mc ms lc) {index : Nat} {v : Int64} (hd : decode cc pc = .ok (.ldc2_w index, 3)) (hw : Jvm.Cond.constantLong own index v ∈ TW) (kk : Jw κ ω nL fin (pc + 3) l ((0, .long v) :: st) F) : Jw κ ω nL fin pc l st F := by
  obtain ⟨⟨p, l9, e, R, s, m, args, below, meth, c⟩, ⟨D, g, A, Q⟩, M0, ad0⟩ := κ
  obtain ⟨hx, hb, hml, hown, hts, -⟩ := hc
  intro M ad H locs ls a M' kc ks cs ss hF hfin hcc hss hW hl hst
  refine lv_ldc2 hx hb hown (hts _ hw) hd ?_
  exact kk M ad H locs ls a M' kc ks cs ss hF hfin hcc hss hW hl (okS_cons okW_l hst)
theorem N_ishl (hc : Jc κ own cc nL fr mc ms lc) {x y : Int32} (hd : decode cc pc = .ok (.ishl, 1)) (kk : Jw κ ω nL fin (pc + 1) l ((0, .int (x <<< (y &&& 31))) :: st) F) : Jw κ ω nL fin pc l ((0, .int y) :: (0, .int x) :: st) F := by
  obtain ⟨⟨p, l9, e, R, s, m, args, below, meth, c⟩, ⟨D, g, A, Q⟩, M0, ad0⟩ := κ
  obtain ⟨hx, hb, -⟩ := hc
  intro M ad H locs ls a M' kc ks cs ss hF hfin hcc hss hW hl hst
  refine lv_ishl hx hb hd ?_
  exact kk M ad H locs ls a M' kc ks cs ss hF hfin hcc hss hW hl (okS_cons okW_i (okS_tl (okS_tl hst)))
theorem N_ior (hc : Jc κ own cc nL fr mc ms lc) {x y : Int32} (hd : decode cc pc = .ok (.ior, 1)) (kk : Jw κ ω nL fin (pc + 1) l ((0, .int (x ||| y)) :: st) F) : Jw κ ω nL fin pc l ((0, .int y) :: (0, .int x) :: st) F := by
  obtain ⟨⟨p, l9, e, R, s, m, args, below, meth, c⟩, ⟨D, g, A, Q⟩, M0, ad0⟩ := κ
  obtain ⟨hx, hb, -⟩ := hc
  intro M ad H locs ls a M' kc ks cs ss hF hfin hcc hss hW hl hst
  refine lv_ior hx hb hd ?_
  exact kk M ad H locs ls a M' kc ks cs ss hF hfin hcc hss hW hl (okS_cons okW_i (okS_tl (okS_tl hst)))
theorem N_dup_x1 (hc : Jc κ own cc nL fr mc ms lc) {q r : TV} (hd : decode cc pc = .ok (.dup_x1, 1)) (hq : q.2.category = 1) (hr : r.2.category = 1) (kk : Jw κ ω nL fin (pc + 1) l (q :: r :: q :: st) F) : Jw κ ω nL fin pc l (q :: r :: st) F := by
  obtain ⟨⟨p, l9, e, R, s, m, args, below, meth, c⟩, ⟨D, g, A, Q⟩, M0, ad0⟩ := κ
  obtain ⟨hx, hb, -⟩ := hc
  intro M ad H locs ls a M' kc ks cs ss hF hfin hcc hss hW hl hst
  refine lv_dup_x1 hx hb hd (by rw [tr_cat]; exact hq) (by rw [tr_cat]; exact hr) ?_
  exact kk M ad H locs ls a M' kc ks cs ss hF hfin hcc hss hW hl (okS_cons (okS_hd hst) (okS_cons (okS_hd (okS_tl hst)) (okS_cons (okS_hd hst) (okS_tl (okS_tl hst)))))
theorem N_null (hc : Jc κ own cc nL fr mc ms lc) {k : Nat} (hd : decode cc pc = .ok (.aconst_null, 1)) (kk : Jw κ ω nL fin (pc + 1) l ((k, va_rf none) :: st) F) : Jw κ ω nL fin pc l st F := by
  obtain ⟨⟨p, l9, e, R, s, m, args, below, meth, c⟩, ⟨D, g, A, Q⟩, M0, ad0⟩ := κ
  obtain ⟨hx, hb, -⟩ := hc
  intro M ad H locs ls a M' kc ks cs ss hF hfin hcc hss hW hl hst
  refine lv_null hx hb hd ?_
  exact kk M ad H locs ls a M' kc ks cs ss hF hfin hcc hss hW hl (okS_cons (fun z hz => by cases hz) hst)
theorem N_ldcI (hc : Jc κ own cc nL fr mc ms lc) {index : Nat} {v : Int32} (hd : decode cc pc = .ok (.ldc index, 2)) (hw : Jvm.Cond.constant own index v ∈ TW) (kk : Jw κ ω nL fin (pc + 2) l ((0, .int v) :: st) F) : Jw κ ω nL fin pc l st F := by
  obtain ⟨⟨p, l9, e, R, s, m, args, below, meth, c⟩, ⟨D, g, A, Q⟩, M0, ad0⟩ := κ
  obtain ⟨hx, hb, hml, hown, hts, -⟩ := hc
  intro M ad H locs ls a M' kc ks cs ss hF hfin hcc hss hW hl hst
  refine lv_ldc hx hb hown (hts _ hw) hd ?_
  exact kk M ad H locs ls a M' kc ks cs ss hF hfin hcc hss hW hl (okS_cons okW_i hst)
theorem cat_rf (ad : Nat → Nat) (r : Option Nat) : (va_rf r).category = 1 := by cases r <;> rfl
theorem cat_rf2 (k : Nat) (r : Option Nat) : (((k, va_rf r) : TV).2).category = 1 := by cases r <;> rfl
theorem N_aloadO (hc : Jc κ own cc nL fr mc ms lc) {i k : Nat} {r : Option Nat} (hd : decode cc pc = .ok (.aload i, 2)) (hk : l[i]? = some (some (k, va_rf r))) (kk : Jw κ ω nL fin (pc + 2) l ((k, va_rf r) :: st) F) : Jw κ ω nL fin pc l st F := by
  cases r with
  | some x => exact N_aload hc hd hk kk
  | none =>
    obtain ⟨⟨p, l9, e, R, s, m, args, below, meth, c⟩, ⟨D, g, A, Q⟩, M0, ad0⟩ := κ
    obtain ⟨hx, hb, -⟩ := hc
    intro M ad H locs ls a M' kc ks cs ss hF hfin hcc hss hW hl hst
    refine lv_aloadN hx hb hd (hl.2 _ _ hk).1 ?_
    exact kk M ad H locs ls a M' kc ks cs ss hF hfin hcc hss hW hl (okS_cons (hl.2 _ _ hk).2 hst)
theorem N_aload_nO (hc : Jc κ own cc nL fr mc ms lc) {k0 : Fin 4} {i k : Nat} {r : Option Nat} (hd : decode cc pc = .ok (.aload_n k0, 1)) (hi : (k0 : Nat) = i) (hk : l[i]? = some (some (k, va_rf r))) (kk : Jw κ ω nL fin (pc + 1) l ((k, va_rf r) :: st) F) : Jw κ ω nL fin pc l st F := by
  cases r with
  | some x => exact N_aload_n hc hd hi hk kk
  | none =>
    obtain ⟨⟨p, l9, e, R, s, m, args, below, meth, c⟩, ⟨D, g, A, Q⟩, M0, ad0⟩ := κ
    obtain ⟨hx, hb, -⟩ := hc
    intro M ad H locs ls a M' kc ks cs ss hF hfin hcc hss hW hl hst
    refine lv_aload_nN hx hb hd hi (hl.2 _ _ hk).1 ?_
    exact kk M ad H locs ls a M' kc ks cs ss hF hfin hcc hss hW hl (okS_cons (hl.2 _ _ hk).2 hst)
theorem N_astoreO (hc : Jc κ own cc nL fr mc ms lc) {i k : Nat} {r : Option Nat} (hd : decode cc pc = .ok (.astore i, 2)) (hn : i < nL) (hc1 : c1 l i = true) (hl9 : l.set i (some (k, va_rf r)) = l') (kk : Jw κ ω nL fin (pc + 2) l' st F) : Jw κ ω nL fin pc l ((k, va_rf r) :: st) F := by
  cases r with
  | some x => exact N_astore hc hd hn hc1 hl9 kk
  | none =>
    obtain ⟨⟨p, l9, e, R, s, m, args, below, meth, c⟩, ⟨D, g, A, Q⟩, M0, ad0⟩ := κ
    obtain ⟨hx, hb, -⟩ := hc
    intro M ad H locs ls a M' kc ks cs ss hF hfin hcc hss hW hl hst
    refine lv_astoreN hx hb hd (lvk_has hl) hn rfl (fun ls1 h1 => ?_)
    exact kk M ad H locs ls1 a M' kc ks cs ss hF hfin hcc hss hW (lvk_st1 (v := (k, .null)) hl (okS_hd hst) hc1 hl9 h1) (okS_tl hst)
theorem N_astore_nO (hc : Jc κ own cc nL fr mc ms lc) {k0 : Fin 4} {i k : Nat} {r : Option Nat} (hd : decode cc pc = .ok (.astore_n k0, 1)) (hi : (k0 : Nat) = i) (hn : i < nL) (hc1 : c1 l i = true) (hl9 : l.set i (some (k, va_rf r)) = l') (kk : Jw κ ω nL fin (pc + 1) l' st F) : Jw κ ω nL fin pc l ((k, va_rf r) :: st) F := by
  cases r with
  | some x => exact N_astore_n hc hd hi hn hc1 hl9 kk
  | none =>
    obtain ⟨⟨p, l9, e, R, s, m, args, below, meth, c⟩, ⟨D, g, A, Q⟩, M0, ad0⟩ := κ
    obtain ⟨hx, hb, -⟩ := hc
    intro M ad H locs ls a M' kc ks cs ss hF hfin hcc hss hW hl hst
    refine lv_astore_nN hx hb hd hi (lvk_has hl) hn rfl (fun ls1 h1 => ?_)
    exact kk M ad H locs ls1 a M' kc ks cs ss hF hfin hcc hss hW (lvk_st1 (v := (k, .null)) hl (okS_hd hst) hc1 hl9 h1) (okS_tl hst)
end JwRows
theorem N_mmax {σ α : Type} {κ : Cx} {ω : Wp σ} {own : String} {cc : ByteArray} {nL fr mc ms lc : Nat} {fin : α → σ → Prop} {pc : Nat} {l : List (Option TV)} {st : List TV} {F : σ → Option (α × σ × Nat × Nat)} (hc : Jc κ own cc nL fr mc ms lc) {x y : Int32} {index : Nat} (hd : decode cc pc = .ok (.invokestatic index, 3)) (h1 : Cond.methodLink own index Lib.Math.max.name ∈ TW) (h2 : Cond.static Lib.Math.max.name ∈ TW) (h3 : Cond.initialized "java/lang/Math" ∈ TW) (h4 : Cond.code Lib.Math.max.name Lib.Math.max.code 2 (some .int) ∈ TW) (hfr : 1 ≤ fr) (hlc : 21 ≤ lc) (hs8 : (st.map (fun q => q.2.category)).sum ≤ 8) (kk : Jw κ ω nL fin (pc + 3) l ((0, .int (if x < y then y else x)) :: st) F) : Jw κ ω nL fin pc l ((0, .int y) :: (0, .int x) :: st) F := by
  obtain ⟨⟨p, l9, e, R, s, m, args, below, meth, c⟩, ⟨D, g, A, Q⟩, M0, ad0⟩ := κ
  obtain ⟨hx, hb, hml, hown, hts, hK, hA, hst9, hlk, hR⟩ := hc
  subst hR
  intro M ad H locs ls a M' kc ks cs ss hF hfin hcc hss hW hl hst
  have h8 : ((trS ad st).map fun v => v.category).sum ≤ 8 := by rw [cat_tr]; exact hs8
  refine va_mmax hx hb (by rw [hml]; exact hl.1.1.symm) hown (hts _ h1) (hts _ h2) (hts _ h3) (hts _ h4) hfr ?_ (Nat.le_trans (Nat.le_add_right _ _) hcc) (Nat.le_trans (Nat.le_add_right _ _) hss) hd ?_
  · show ((trS ad st).map fun v => v.category).sum + 13 ≤ lc
    omega
  · exact kk M ad H locs ls a M' kc ks cs ss hF hfin hcc hss hW hl (okS_cons okW_i (okS_tl (okS_tl hst)))
theorem N_mmin {σ α : Type} {κ : Cx} {ω : Wp σ} {own : String} {cc : ByteArray} {nL fr mc ms lc : Nat} {fin : α → σ → Prop} {pc : Nat} {l : List (Option TV)} {st : List TV} {F : σ → Option (α × σ × Nat × Nat)} (hc : Jc κ own cc nL fr mc ms lc) {x y : Int32} {index : Nat} (hd : decode cc pc = .ok (.invokestatic index, 3)) (h1 : Cond.methodLink own index Lib.Math.min.name ∈ TW) (h2 : Cond.static Lib.Math.min.name ∈ TW) (h3 : Cond.initialized "java/lang/Math" ∈ TW) (h4 : Cond.code Lib.Math.min.name Lib.Math.min.code 2 (some .int) ∈ TW) (hfr : 1 ≤ fr) (hlc : 21 ≤ lc) (hs8 : (st.map (fun q => q.2.category)).sum ≤ 8) (kk : Jw κ ω nL fin (pc + 3) l ((0, .int (if y < x then y else x)) :: st) F) : Jw κ ω nL fin pc l ((0, .int y) :: (0, .int x) :: st) F := by
  obtain ⟨⟨p, l9, e, R, s, m, args, below, meth, c⟩, ⟨D, g, A, Q⟩, M0, ad0⟩ := κ
  obtain ⟨hx, hb, hml, hown, hts, hK, hA, hst9, hlk, hR⟩ := hc
  subst hR
  intro M ad H locs ls a M' kc ks cs ss hF hfin hcc hss hW hl hst
  have h8 : ((trS ad st).map fun v => v.category).sum ≤ 8 := by rw [cat_tr]; exact hs8
  refine va_mmin hx hb (by rw [hml]; exact hl.1.1.symm) hown (hts _ h1) (hts _ h2) (hts _ h3) (hts _ h4) hfr ?_ (Nat.le_trans (Nat.le_add_right _ _) hcc) (Nat.le_trans (Nat.le_add_right _ _) hss) hd ?_
  · show ((trS ad st).map fun v => v.category).sum + 13 ≤ lc
    omega
  · exact kk M ad H locs ls a M' kc ks cs ss hF hfin hcc hss hW hl (okS_cons okW_i (okS_tl (okS_tl hst)))
theorem N_mabs {σ α : Type} {κ : Cx} {ω : Wp σ} {own : String} {cc : ByteArray} {nL fr mc ms lc : Nat} {fin : α → σ → Prop} {pc : Nat} {l : List (Option TV)} {st : List TV} {F : σ → Option (α × σ × Nat × Nat)} (hc : Jc κ own cc nL fr mc ms lc) {x : Int32} {index : Nat} (hd : decode cc pc = .ok (.invokestatic index, 3)) (h1 : Cond.methodLink own index Lib.Math.abs.name ∈ TW) (h2 : Cond.static Lib.Math.abs.name ∈ TW) (h3 : Cond.initialized "java/lang/Math" ∈ TW) (h4 : Cond.code Lib.Math.abs.name Lib.Math.abs.code 1 (some .int) ∈ TW) (hfr : 1 ≤ fr) (hlc : 21 ≤ lc) (hs8 : (st.map (fun q => q.2.category)).sum ≤ 8) (kk : Jw κ ω nL fin (pc + 3) l ((0, .int (if 0 ≤ x then x else 0 - x)) :: st) F) : Jw κ ω nL fin pc l ((0, .int x) :: st) F := by
  obtain ⟨⟨p, l9, e, R, s, m, args, below, meth, c⟩, ⟨D, g, A, Q⟩, M0, ad0⟩ := κ
  obtain ⟨hx, hb, hml, hown, hts, hK, hA, hst9, hlk, hR⟩ := hc
  subst hR
  intro M ad H locs ls a M' kc ks cs ss hF hfin hcc hss hW hl hst
  have h8 : ((trS ad st).map fun v => v.category).sum ≤ 8 := by rw [cat_tr]; exact hs8
  refine va_mabs hx hb (by rw [hml]; exact hl.1.1.symm) hown (hts _ h1) (hts _ h2) (hts _ h3) (hts _ h4) hfr ?_ (Nat.le_trans (Nat.le_add_right _ _) hcc) (Nat.le_trans (Nat.le_add_right _ _) hss) hd ?_
  · show ((trS ad st).map fun v => v.category).sum + 13 ≤ lc
    omega
  · exact kk M ad H locs ls a M' kc ks cs ss hF hfin hcc hss hW hl (okS_cons okW_i (okS_tl hst))
theorem N_iushrN {σ α : Type} {κ : Cx} {ω : Wp σ} {own : String} {cc : ByteArray} {nL fr mc ms lc : Nat} {fin : α → σ → Prop} {pc : Nat} {l : List (Option TV)} {st : List TV} {F : σ → Option (α × σ × Nat × Nat)} (hc : Jc κ own cc nL fr mc ms lc) {x y : Int32} (hd : decode cc pc = .ok (.iushr, 1)) (kk : Jw κ ω nL fin (pc + 1) l ((0, .int (iush x y)) :: st) F) : Jw κ ω nL fin pc l ((0, .int y) :: (0, .int x) :: st) F := N_iushr hc hd kk
theorem N_i2bN {σ α : Type} {κ : Cx} {ω : Wp σ} {own : String} {cc : ByteArray} {nL fr mc ms lc : Nat} {fin : α → σ → Prop} {pc : Nat} {l : List (Option TV)} {st : List TV} {F : σ → Option (α × σ × Nat × Nat)} (hc : Jc κ own cc nL fr mc ms lc) {x : Int32} (hd : decode cc pc = .ok (.i2b, 1)) (kk : Jw κ ω nL fin (pc + 1) l ((0, .int (i2b x)) :: st) F) : Jw κ ω nL fin pc l ((0, .int x) :: st) F := N_i2b hc hd kk
theorem N_i2cN {σ α : Type} {κ : Cx} {ω : Wp σ} {own : String} {cc : ByteArray} {nL fr mc ms lc : Nat} {fin : α → σ → Prop} {pc : Nat} {l : List (Option TV)} {st : List TV} {F : σ → Option (α × σ × Nat × Nat)} (hc : Jc κ own cc nL fr mc ms lc) {x : Int32} (hd : decode cc pc = .ok (.i2c, 1)) (kk : Jw κ ω nL fin (pc + 1) l ((0, .int (i2c x)) :: st) F) : Jw κ ω nL fin pc l ((0, .int x) :: st) F := N_i2c hc hd kk
theorem N_swc {σ α : Type} {κ : Cx} {ω : Wp σ} {own : String} {cc : ByteArray} {nL fr mc ms lc : Nat} {fin : α → σ → Prop} {pc : Nat} {l : List (Option TV)} {st : List TV} {F1 F2 : σ → Option (α × σ × Nat × Nat)} (hc : Jc κ own cc nL fr mc ms lc) {dflt lo hi : Int} {offs : Array Int} {len : Nat} {x w : Int32} {v off : Int} {tgt : Nat} {dec : Decidable (x = w)} (hd : decode cc pc = .ok (.tableswitch dflt lo hi offs, len)) (hlo : lo ≤ v) (hhi : v ≤ hi) (ho : offs[(v - lo).toNat]? = some off) (ht : (pc : Int) + off = (tgt : Int)) (hw : w.toInt = v) (kt : Jw κ ω nL fin tgt l st F1) (kf : x.toInt ≠ v → Jw κ ω nL fin pc l ((0, .int x) :: st) F2) : Jw κ ω nL fin pc l ((0, .int x) :: st) (if x = w then F1 else F2) := by
  by_cases h : x = w
  · subst h
    rw [if_pos rfl]
    subst hw
    obtain ⟨⟨p, l9, e, R, s, m, args, below, meth, c⟩, ⟨D, g, A, Q⟩, M0, ad0⟩ := κ
    obtain ⟨hx, hb, -⟩ := hc
    intro M ad H locs ls a M' kc ks cs ss hF hfin hcc hss hW hl hst
    refine lv_tableIn hx hb hd (by omega) (by omega) ho ht ?_
    exact kt M ad H locs ls a M' kc ks cs ss hF hfin hcc hss hW hl (okS_tl hst)
  · rw [if_neg h]
    exact kf (fun q => h (by subst hw; exact Int32.toInt_inj.mp q))
theorem N_swd {σ α : Type} {κ : Cx} {ω : Wp σ} {own : String} {cc : ByteArray} {nL fr mc ms lc : Nat} {fin : α → σ → Prop} {pc : Nat} {l : List (Option TV)} {st : List TV} {F : σ → Option (α × σ × Nat × Nat)} (hc : Jc κ own cc nL fr mc ms lc) {dflt lo hi : Int} {offs : Array Int} {len : Nat} {x : Int32} {tgt : Nat} (hd : decode cc pc = .ok (.tableswitch dflt lo hi offs, len)) (ho : x.toInt < lo ∨ hi < x.toInt) (ht : (pc : Int) + dflt = (tgt : Int)) (kt : Jw κ ω nL fin tgt l st F) : Jw κ ω nL fin pc l ((0, .int x) :: st) F := by
  obtain ⟨⟨p, l9, e, R, s, m, args, below, meth, c⟩, ⟨D, g, A, Q⟩, M0, ad0⟩ := κ
  obtain ⟨hx, hb, -⟩ := hc
  intro M ad H locs ls a M' kc ks cs ss hF hfin hcc hss hW hl hst
  refine lv_tableOut hx hb hd ho ht ?_
  exact kt M ad H locs ls a M' kc ks cs ss hF hfin hcc hss hW hl (okS_tl hst)
theorem N_nn0 {α : Type} {κ : Cx} {nL : Nat} {fin : α → Mm → Prop} {pc k : Nat} {l : List (Option TV)} {st : List TV} {r : Option Nat} {G1 : Nat → Mm → Option (α × Mm × Nat × Nat)} (kk : ∀ x, Jw κ (wM κ) nL fin pc l ((k, .ref x) :: st) (G1 x)) : Jw κ (wM κ) nL fin pc l ((k, va_rf r) :: st) (wb (nn r) G1) := by
  cases r with
  | none =>
    obtain ⟨⟨p, l9, e, R, s, m, args, below, meth, c⟩, ⟨D, g, A, Q⟩, M0, ad0⟩ := κ
    intro M ad H locs ls a M' kc ks cs ss hF
    cases hF
  | some x => exact kk x
theorem N_nn1 {α : Type} {κ : Cx} {nL : Nat} {fin : α → Mm → Prop} {pc k : Nat} {l : List (Option TV)} {q : TV} {st : List TV} {r : Option Nat} {G1 : Nat → Mm → Option (α × Mm × Nat × Nat)} (kk : ∀ x, Jw κ (wM κ) nL fin pc l (q :: (k, .ref x) :: st) (G1 x)) : Jw κ (wM κ) nL fin pc l (q :: (k, va_rf r) :: st) (wb (nn r) G1) := by
  cases r with
  | none =>
    obtain ⟨⟨p, l9, e, R, s, m, args, below, meth, c⟩, ⟨D, g, A, Q⟩, M0, ad0⟩ := κ
    intro M ad H locs ls a M' kc ks cs ss hF
    cases hF
  | some x => exact kk x
theorem N_ldcS {α : Type} {κ : Cx} {own : String} {cc : ByteArray} {nL fr mc ms lc : Nat} {fin : α → Mm → Prop} {pc : Nat} {l : List (Option TV)} {st : List TV} {F : Mm → Option (α × Mm × Nat × Nat)} (hc : Jc κ own cc nL fr mc ms lc) {i index : Nat} {tx : String} (hi : sK[i]? = some (own, index, tx)) (hd : decode cc pc = .ok (.ldc index, 2)) (kk : Jw κ (wM κ) nL fin (pc + 2) l ((20, .ref (SB + i)) :: st) F) : Jw κ (wM κ) nL fin pc l st F := by
  obtain ⟨⟨p, l9, e, R, s, m, args, below, meth, c⟩, ⟨D, g, A, Q⟩, M0, ad0⟩ := κ
  obtain ⟨hx, hb, hml, hown, hts, hK, hA, hst9, hlk, hR⟩ := hc
  intro M ad H locs ls a M' kc ks cs ss hF hfin hcc hss hW hl hst
  obtain ⟨hP, hD, hS, hM, hn, hC, hex, hea⟩ := id hW
  have hi28 : i < 28 := Nat.lt_of_lt_of_le (List.getElem?_eq_some_iff.mp hi).1 (by decide)
  refine va_ldcS hx hb hown (hC.1 i _ hi) hd ?_
  exact kk M ad H locs ls a M' kc ks cs ss hF hfin hcc hss hW hl (okS_cons (fun z hz => by cases hz; exact Or.inr (Or.inr (Or.inr (Or.inl ⟨rfl, by omega, by omega⟩)))) hst)
def wopc {σ α : Type} (r : Option Nat) (F : σ → Option (α × σ × Nat × Nat)) (G1 : Nat → σ → Option (α × σ × Nat × Nat)) : σ → Option (α × σ × Nat × Nat) := match r with
  | none => F
  | some x => G1 x
theorem N_ifnullC {σ α : Type} {κ : Cx} {ω : Wp σ} {own : String} {cc : ByteArray} {nL fr mc ms lc : Nat} {fin : α → σ → Prop} {pc : Nat} {l : List (Option TV)} {st : List TV} {F : σ → Option (α × σ × Nat × Nat)} (hc : Jc κ own cc nL fr mc ms lc) {r : Option Nat} {k : Nat} {G1 : Nat → σ → Option (α × σ × Nat × Nat)} {off : Int} {tgt : Nat} (hd : decode cc pc = .ok (.ifnull off, 3)) (ht : (pc : Int) + off = (tgt : Int)) (kn : Jw κ ω nL fin tgt l st F) (kx : ∀ x, Jw κ ω nL fin (pc + 3) l st (G1 x)) : Jw κ ω nL fin pc l ((k, va_rf r) :: st) (wopc r F G1) := by
  obtain ⟨⟨p, l9, e, R, s, m, args, below, meth, c⟩, ⟨D, g, A, Q⟩, M0, ad0⟩ := κ
  obtain ⟨hx, hb, -⟩ := hc
  intro M ad H locs ls a M' kc ks cs ss hF hfin hcc hss hW hl hst
  cases r with
  | none =>
    refine lv_ifnullN hx hb hd ht ?_
    exact kn M ad H locs ls a M' kc ks cs ss hF hfin hcc hss hW hl (okS_tl hst)
  | some x =>
    refine lv_ifnull hx hb hd ?_
    exact kx x M ad H locs ls a M' kc ks cs ss hF hfin hcc hss hW hl (okS_tl hst)
theorem N_ifnullD {σ α : Type} {κ : Cx} {ω : Wp σ} {own : String} {cc : ByteArray} {nL fr mc ms lc : Nat} {fin : α → σ → Prop} {pc : Nat} {l : List (Option TV)} {st : List TV} {F : σ → Option (α × σ × Nat × Nat)} (hc : Jc κ own cc nL fr mc ms lc) {r : Option Nat} {k : Nat} {G1 : Nat → σ → Option (α × σ × Nat × Nat)} {off : Int} {tgt : Nat} (hd : decode cc pc = .ok (.ifnull off, 3)) (ht : (pc : Int) + off = (tgt : Int)) (kn : Jw κ ω nL fin tgt l st F) (kx : ∀ x, r = some x → Jw κ ω nL fin (pc + 3) l st (G1 x)) : Jw κ ω nL fin pc l ((k, va_rf r) :: st) (wopc r F G1) := by
  obtain ⟨⟨p, l9, e, R, s, m, args, below, meth, c⟩, ⟨D, g, A, Q⟩, M0, ad0⟩ := κ
  obtain ⟨hx, hb, -⟩ := hc
  intro M ad H locs ls a M' kc ks cs ss hF hfin hcc hss hW hl hst
  cases r with
  | none =>
    refine lv_ifnullN hx hb hd ht ?_
    exact kn M ad H locs ls a M' kc ks cs ss hF hfin hcc hss hW hl (okS_tl hst)
  | some x =>
    refine lv_ifnull hx hb hd ?_
    exact kx x rfl M ad H locs ls a M' kc ks cs ss hF hfin hcc hss hW hl (okS_tl hst)
theorem N_ifnonnullC {σ α : Type} {κ : Cx} {ω : Wp σ} {own : String} {cc : ByteArray} {nL fr mc ms lc : Nat} {fin : α → σ → Prop} {pc : Nat} {l : List (Option TV)} {st : List TV} {F : σ → Option (α × σ × Nat × Nat)} (hc : Jc κ own cc nL fr mc ms lc) {r : Option Nat} {k : Nat} {G1 : Nat → σ → Option (α × σ × Nat × Nat)} {off : Int} {tgt : Nat} (hd : decode cc pc = .ok (.ifnonnull off, 3)) (ht : (pc : Int) + off = (tgt : Int)) (kn : Jw κ ω nL fin (pc + 3) l st F) (kx : ∀ x, Jw κ ω nL fin tgt l st (G1 x)) : Jw κ ω nL fin pc l ((k, va_rf r) :: st) (wopc r F G1) := by
  obtain ⟨⟨p, l9, e, R, s, m, args, below, meth, c⟩, ⟨D, g, A, Q⟩, M0, ad0⟩ := κ
  obtain ⟨hx, hb, -⟩ := hc
  intro M ad H locs ls a M' kc ks cs ss hF hfin hcc hss hW hl hst
  cases r with
  | none =>
    refine lv_ifnonnullN hx hb hd ?_
    exact kn M ad H locs ls a M' kc ks cs ss hF hfin hcc hss hW hl (okS_tl hst)
  | some x =>
    refine lv_ifnonnull hx hb hd ht ?_
    exact kx x M ad H locs ls a M' kc ks cs ss hF hfin hcc hss hW hl (okS_tl hst)
theorem N_ifnonnullD {σ α : Type} {κ : Cx} {ω : Wp σ} {own : String} {cc : ByteArray} {nL fr mc ms lc : Nat} {fin : α → σ → Prop} {pc : Nat} {l : List (Option TV)} {st : List TV} {F : σ → Option (α × σ × Nat × Nat)} (hc : Jc κ own cc nL fr mc ms lc) {r : Option Nat} {k : Nat} {G1 : Nat → σ → Option (α × σ × Nat × Nat)} {off : Int} {tgt : Nat} (hd : decode cc pc = .ok (.ifnonnull off, 3)) (ht : (pc : Int) + off = (tgt : Int)) (kn : Jw κ ω nL fin (pc + 3) l st F) (kx : ∀ x, r = some x → Jw κ ω nL fin tgt l st (G1 x)) : Jw κ ω nL fin pc l ((k, va_rf r) :: st) (wopc r F G1) := by
  obtain ⟨⟨p, l9, e, R, s, m, args, below, meth, c⟩, ⟨D, g, A, Q⟩, M0, ad0⟩ := κ
  obtain ⟨hx, hb, -⟩ := hc
  intro M ad H locs ls a M' kc ks cs ss hF hfin hcc hss hW hl hst
  cases r with
  | none =>
    refine lv_ifnonnullN hx hb hd ?_
    exact kn M ad H locs ls a M' kc ks cs ss hF hfin hcc hss hW hl (okS_tl hst)
  | some x =>
    refine lv_ifnonnull hx hb hd ht ?_
    exact kx x rfl M ad H locs ls a M' kc ks cs ss hF hfin hcc hss hW hl (okS_tl hst)
section JwK
variable {α : Type} {κ : Cx} {own : String} {cc : ByteArray} {nL fr mc ms lc : Nat} {fin : α → Mm → Prop} {pc : Nat} {l : List (Option TV)} {st : List TV} {F : Mm → Option (α × Mm × Nat × Nat)}
theorem N_ldcSW (hc : Jc κ own cc nL fr mc ms lc) {i index : Nat} {tx : String} (hi : sK[i]? = some (own, index, tx)) (hd : decode cc pc = .ok (.ldc_w index, 3)) (kk : Jw κ (wM κ) nL fin (pc + 3) l ((20, .ref (SB + i)) :: st) F) : Jw κ (wM κ) nL fin pc l st F := by
  obtain ⟨⟨p, l9, e, R, s, m, args, below, meth, c⟩, ⟨D, g, A, Q⟩, M0, ad0⟩ := κ
  obtain ⟨hx, hb, hml, hown, hts, hK, hA, hst9, hlk, hR⟩ := hc
  intro M ad H locs ls a M' kc ks cs ss hF hfin hcc hss hW hl hst
  obtain ⟨hP, hD, hS, hM, hn, hC, hex, hea⟩ := id hW
  have hi28 : i < 28 := Nat.lt_of_lt_of_le (List.getElem?_eq_some_iff.mp hi).1 (by decide)
  have hZ := hC.1 i _ hi
  have kk2 := kk M ad H locs ls a M' kc ks cs ss hF hfin hcc hss hW hl (okS_cons (fun z hz => by cases hz; exact Or.inr (Or.inr (Or.inr (Or.inl ⟨rfl, by omega, by omega⟩)))) hst)
  intro T hT X
  obtain ⟨t, a1, b1⟩ := kk2 T hT X
  exact ⟨t, X.ldcStringW hx hown (text := tx) (a := ad (SB + i)) hZ.1 hZ.2 (g := F0 m pc ls (trS ad st)) rfl (by rw [hb]; exact hd) t a1, b1⟩
theorem N_strV (hc : Jc κ own cc nL fr mc ms lc) {h index : Nat} (hw : Cond.fieldLink own index "java/lang/String" "value" "[B" ∈ TW) (hd : decode cc pc = .ok (.getfield index, 3)) (kk : Jw κ (wM κ) nL fin (pc + 3) l ((22, .ref (h + 200)) :: st) F) : Jw κ (wM κ) nL fin pc l ((20, .ref h) :: st) (wgrd (sbB h) F) := by
  obtain ⟨⟨p, l9, e, R, s, m, args, below, meth, c⟩, ⟨D, g, A, Q⟩, M0, ad0⟩ := κ
  obtain ⟨hx, hb, hml, hown, hts, hK, hA, hst9, hlk, hR⟩ := hc
  intro M ad H locs ls a M' kc ks cs ss hF hfin hcc hss hW hl hst
  obtain ⟨hP, hD, hS, hM, hn, hC, hex, hea⟩ := id hW
  obtain ⟨hq, hF1⟩ := wgrd_some hF
  clear hF
  obtain ⟨i, b, rfl, hb9, -⟩ := sbB_at hq
  obtain ⟨-, -, hV, -⟩ := hC.2.1 i b hb9
  refine vk_getf hx hb hV hS hown (hts _ hw) (fun _ z => z) hd ?_
  have e1 : SB + i + 200 = SB + 200 + i := by omega
  rw [← e1]
  exact kk M ad H locs ls a M' kc ks cs ss hF1 hfin hcc hss hW hl (okS_cons (fun z hz => by cases hz; exact Or.inr (Or.inr (Or.inr (Or.inr (Or.inr (Or.inl ⟨Nat.le_of_ble_eq_true rfl, Nat.le_of_ble_eq_true rfl, by omega⟩)))))) (okS_tl hst))
theorem N_strK (hc : Jc κ own cc nL fr mc ms lc) {h index : Nat} (hw : Cond.fieldLink own index "java/lang/String" "coder" "B" ∈ TW) (hd : decode cc pc = .ok (.getfield index, 3)) (kk : Jw κ (wM κ) nL fin (pc + 3) l ((0, .int 0) :: st) F) : Jw κ (wM κ) nL fin pc l ((20, .ref h) :: st) (wgrd (sbB h) F) := by
  obtain ⟨⟨p, l9, e, R, s, m, args, below, meth, c⟩, ⟨D, g, A, Q⟩, M0, ad0⟩ := κ
  obtain ⟨hx, hb, hml, hown, hts, hK, hA, hst9, hlk, hR⟩ := hc
  intro M ad H locs ls a M' kc ks cs ss hF hfin hcc hss hW hl hst
  obtain ⟨hP, hD, hS, hM, hn, hC, hex, hea⟩ := id hW
  obtain ⟨hq, hF1⟩ := wgrd_some hF
  clear hF
  obtain ⟨i, b, rfl, hb9, -⟩ := sbB_at hq
  obtain ⟨-, hV, -⟩ := hC.2.1 i b hb9
  refine vk_getf hx hb hV hS hown (hts _ hw) (fun _ z => z) hd ?_
  exact kk M ad H locs ls a M' kc ks cs ss hF1 hfin hcc hss hW hl (okS_cons okW_i (okS_tl hst))
theorem N_getsP (hc : Jc κ own cc nL fr mc ms lc) {index : Nat} (hw : Cond.fieldLink own index pcN "SIOOBE_FORMATTER" pcD ∈ TW) (hd : decode cc pc = .ok (.getstatic index, 3)) (kk : ∀ r, Jw κ (wM κ) nL fin (pc + 3) l ((23, va_rf r) :: st) F) : Jw κ (wM κ) nL fin pc l st F := by
  obtain ⟨⟨p, l9, e, R, s, m, args, below, meth, c⟩, ⟨D, g, A, Q⟩, M0, ad0⟩ := κ
  obtain ⟨hx, hb, hml, hown, hts, hK, hA, hst9, hlk, hR⟩ := hc
  intro M ad H locs ls a M' kc ks cs ss hF hfin hcc hss hW hl hst
  obtain ⟨hP, hD, hS, hM, hn, hC, hex, hea⟩ := id hW
  rcases hC.2.2.2.2.1 with hZ | hZ
  · refine va_gets (ref := pcN) hx hb hZ hS hown (hts _ hw) (fun _ z => z) hd ?_
    exact kk none M ad H locs ls a M' kc ks cs ss hF hfin hcc hss hW hl (okS_cons (fun z hz => by cases hz) hst)
  · refine va_gets (ref := pcN) hx hb hZ hS hown (hts _ hw) (fun _ z => z) hd ?_
    exact kk (some (SB + 300)) M ad H locs ls a M' kc ks cs ss hF hfin hcc hss hW hl (okS_cons (fun z hz => by cases hz; exact Or.inr (Or.inr (Or.inr (Or.inr (Or.inr (Or.inl ⟨Nat.le_of_ble_eq_true rfl, Nat.le_of_ble_eq_true rfl, by omega⟩)))))) hst)
theorem N_strN (hc : Jc κ own cc nL fr mc ms lc) {h : Nat} (hd : decode cc pc = .ok (.arraylength, 1)) (kk : Jw κ (wM κ) nL fin (pc + 1) l ((0, .int (stN h)) :: st) F) : Jw κ (wM κ) nL fin pc l ((22, .ref (h + 200)) :: st) (wgrd (sbB h) F) := by
  obtain ⟨⟨p, l9, e, R, s, m, args, below, meth, c⟩, ⟨D, g, A, Q⟩, M0, ad0⟩ := κ
  obtain ⟨hx, hb, hml, hown, hts, hK, hA, hst9, hlk, hR⟩ := hc
  intro M ad H locs ls a M' kc ks cs ss hF hfin hcc hss hW hl hst
  obtain ⟨hP, hD, hS, hM, hn, hC, hex, hea⟩ := id hW
  obtain ⟨hq, hF1⟩ := wgrd_some hF
  clear hF
  obtain ⟨i, b, rfl, hb9, he⟩ := sbB_at hq
  obtain ⟨-, -, -, hT⟩ := hC.2.1 i b hb9
  have e1 : SB + i + 200 = SB + 200 + i := by omega
  rw [← e1] at hT
  refine va_tlen hx hb hT hS (v := stN (SB + i)) (by unfold stN; rw [he]) hd ?_
  exact kk M ad H locs ls a M' kc ks cs ss hF1 hfin hcc hss hW hl (okS_cons okW_i (okS_tl hst))
theorem N_strC (hc : Jc κ own cc nL fr mc ms lc) {h : Nat} {i : Int32} (hd : decode cc pc = .ok (.baload, 1)) (kk : Jw κ (wM κ) nL fin (pc + 1) l ((0, .int (stC h i)) :: st) F) : Jw κ (wM κ) nL fin pc l ((0, .int i) :: (22, .ref (h + 200)) :: st) (wgrd (sbB h && vpB i (sW.getD (h % 1000) []).length) F) := by
  obtain ⟨⟨p, l9, e, R, s, m, args, below, meth, c⟩, ⟨D, g, A, Q⟩, M0, ad0⟩ := κ
  obtain ⟨hx, hb, hml, hown, hts, hK, hA, hst9, hlk, hR⟩ := hc
  intro M ad H locs ls a M' kc ks cs ss hF hfin hcc hss hW hl hst
  obtain ⟨hP, hD, hS, hM, hn, hC, hex, hea⟩ := id hW
  obtain ⟨hq, hF1⟩ := wgrd_some hF
  clear hF
  rw [Bool.and_eq_true] at hq
  obtain ⟨j, b, hj, hb9, he⟩ := sbB_at hq.1
  obtain ⟨-, -, -, hT⟩ := hC.2.1 j b hb9
  have e1 : h + 200 = SB + 200 + j := by omega
  rw [← e1] at hT
  refine va_tb hx hb hT hS (v := .int (stC h i)) (vpB_in (by rw [he]; exact hq.2)) (by unfold stC; rw [he]) hd ?_
  exact kk M ad H locs ls a M' kc ks cs ss hF1 hfin hcc hss hW hl (okS_cons okW_i (okS_tl (okS_tl hst)))
theorem N_pop {σ : Type} {ω : Wp σ} {fin : α → σ → Prop} {F : σ → Option (α × σ × Nat × Nat)} (hc : Jc κ own cc nL fr mc ms lc) {q : TV} (hd : decode cc pc = .ok (.pop, 1)) (hq : q.2.category = 1) (kk : Jw κ ω nL fin (pc + 1) l st F) : Jw κ ω nL fin pc l (q :: st) F := by
  obtain ⟨⟨p, l9, e, R, s, m, args, below, meth, c⟩, ⟨D, g, A, Q⟩, M0, ad0⟩ := κ
  obtain ⟨hx, hb, -⟩ := hc
  intro M ad H locs ls a M' kc ks cs ss hF hfin hcc hss hW hl hst
  refine lv_pop hx hb hd (by rw [tr_cat]; exact hq) ?_
  exact kk M ad H locs ls a M' kc ks cs ss hF hfin hcc hss hW hl (okS_tl hst)
theorem N_nmi {σ : Type} {ω : Wp σ} {fin : α → σ → Prop} {x : Int32} {F : Int32 → σ → Option (α × σ × Nat × Nat)} (kk : ∀ y, Jw κ ω nL fin pc l ((0, .int y) :: st) (F y)) : Jw κ ω nL fin pc l ((0, .int x) :: st) (wb (rtn x) F) := kk x
end JwK
