/-! ONE STATE behind the class and the reference: page, pages to go back to, saved pages, text, error, output -/
def RC (M : Mm) (P : Pg) (U : List Pg) (V : Nat → Option Pg) (x : Tx) (e : Int32 × Int32) (O : List Nat) : Prop := CPg M P U V ∧ isTx M x ∧ Mi M 8 0 = e.1 ∧ Mi M 8 1 = e.2 ∧ isOut M O
def RM (M : Mm) (P : Pg) (U : List Pg) (V : Nat → Option Pg) (x : Tx) (e : Int32 × Int32) (O : List Nat) : Prop := MO M ∧ mPU M (P, U) ∧ mSv M V ∧ isTxM M x ∧ isWd M ∧ Mi M 38 37 = e.1 ∧ Mi M 38 38 = e.2 ∧ mOut M O
section Inv
variable {X : Nat → Nat → Bool} {M M1 : Mm} {P P2 : Pg} {U U2 : List Pg} {V V2 : Nat → Option Pg} {x x2 : Tx} {e e2 : Int32 × Int32} {O O2 : List Nat}
theorem isTx.xg (h : isTx M x) (hn : 62 ≤ Mn M) (f : XG X M M1) (z : X 9 0 = false) (z2 : ∀ i, X 10 i = false) : isTx M1 x :=
  ⟨by rw [((f.2 9 (by omega)).2.1 0 z).1]; exact h.1, h.2.1, fun i hi => by rw [((f.2 10 (by omega)).2.1 i (z2 i)).1]; exact h.2.2.1 i hi, h.2.2.2⟩
theorem isOut.xg (o : isOut M O) (hn : 62 ≤ Mn M) (f : XG X M M1) (z : X 0 7 = false) (z2 : ∀ i, X 37 i = false) : isOut M1 O :=
  ⟨by rw [((f.2 0 (by omega)).2.1 7 z).1]; exact o.1, o.2.1, fun i hi => by rw [((f.2 37 (by omega)).2.1 i (z2 i)).1]; exact o.2.2 i hi⟩
theorem RC.b (h : RC M P U V x e O) : 62 ≤ Mn M := (h.1.2.2.2.1.b).1
/-- only codes and sendings change -/
theorem RC.rd (h : RC M P U V x e O) (f : XF X M M1) (z : ∀ a b, a < 16 ∨ 36 < a → X a b = false) : RC M1 P U V x e O := by
  obtain ⟨c, t, e0, e1, o⟩ := h
  exact ⟨c.xf f (fun a b q => z a b (by omega)), t.xf f (z _ _ (by omega)) (fun i => z _ _ (by omega)), by rw [f.mi (z _ _ (by omega))]; exact e0, by rw [f.mi (z _ _ (by omega))]; exact e1, o.xf f (z _ _ (by omega)) (fun i => z _ _ (by omega))⟩
theorem RC.ed (h : RC M P U V x e O) (f : XG xEc M M1) (c : CPg M1 P2 U2 V2) : RC M1 P2 U2 V2 x e O := by
  have hn := h.b
  obtain ⟨-, t, e0, e1, o⟩ := h
  exact ⟨c, t.xg hn f rfl (fun _ => rfl), by rw [((f.2 8 (by omega)).2.1 0 rfl).1]; exact e0, by rw [((f.2 8 (by omega)).2.1 1 rfl).1]; exact e1, o.xg hn f rfl (fun _ => rfl)⟩
/-- the reference's cells, the law's own row -/
theorem RC.mo (h : RC M P U V x e O) (f : XF X M M1) (z : ∀ a b, a < 38 ∨ 61 < a → X a b = false) : RC M1 P U V x e O := by
  obtain ⟨c, t, e0, e1, o⟩ := h
  exact ⟨c.xf f (fun a b q => z a b (by omega)), t.xf f (z _ _ (by omega)) (fun i => z _ _ (by omega)), by rw [f.mi (z _ _ (by omega))]; exact e0, by rw [f.mi (z _ _ (by omega))]; exact e1, o.xf f (z _ _ (by omega)) (fun i => z _ _ (by omega))⟩
theorem XG.rw {a : Nat} (f : XG X M M1) (ha : a < Mn M) (z : ∀ b, X a b = false) : Mi M1 a = Mi M a := funext fun b => ((f.2 a ha).2.1 b (z b)).1
theorem RM.xg (h : RM M P U V x e O) (hn : 62 ≤ Mn M) (f : XG X M M1) (z : ∀ a b, 38 ≤ a → a ≤ 60 → X a b = false) : RM M1 P U V x e O := by
  obtain ⟨m, ⟨p1, p2, p3, p4, p5⟩, v, t, w, e0, e1, o⟩ := h
  have r : ∀ a, 38 ≤ a → a ≤ 60 → Mi M1 a = Mi M a := fun a h1 h2 => f.rw (by omega) (fun b => z a b h1 h2)
  have r38 := r 38 (by omega) (by omega)
  refine ⟨m.xg hn f, ⟨by rw [r 39 (by omega) (by omega)]; exact p1, p2, by rw [r38]; exact p3, p4, by rw [r 41 (by omega) (by omega)]; exact p5⟩, ?_, ⟨by rw [r38]; exact t.1, t.2.1, by rw [r 58 (by omega) (by omega)]; exact t.2.2.1, t.2.2.2⟩, ?_, by rw [r38]; exact e0, by rw [r38]; exact e1, ⟨by rw [r38]; exact o.1, o.2.1, by rw [r 60 (by omega) (by omega)]; exact o.2.2⟩⟩
  · intro j hj
    rw [r 43 (by omega) (by omega), r 42 (by omega) (by omega)]; exact v j hj
  · intro i hi
    rw [r 59 (by omega) (by omega)]; exact w i hi
theorem RM.xf (h : RM M P U V x e O) (f : XF X M M1) (z : ∀ a b, 38 ≤ a → a ≤ 60 → X a b = false) : RM M1 P U V x e O := by
  obtain ⟨m, ⟨p1, p2, p3, p4, p5⟩, v, t, w, e0, e1, o⟩ := h
  have r : ∀ a, 38 ≤ a → a ≤ 60 → Mi M1 a = Mi M a := fun a h1 h2 => f.row (fun b => z a b h1 h2)
  have r38 := r 38 (by omega) (by omega)
  refine ⟨m.xf f, ⟨by rw [r 39 (by omega) (by omega)]; exact p1, p2, by rw [r38]; exact p3, p4, by rw [r 41 (by omega) (by omega)]; exact p5⟩, ?_, ⟨by rw [r38]; exact t.1, t.2.1, by rw [r 58 (by omega) (by omega)]; exact t.2.2.1, t.2.2.2⟩, ?_, by rw [r38]; exact e0, by rw [r38]; exact e1, ⟨by rw [r38]; exact o.1, o.2.1, by rw [r 60 (by omega) (by omega)]; exact o.2.2⟩⟩
  · intro j hj
    rw [r 43 (by omega) (by omega), r 42 (by omega) (by omega)]; exact v j hj
  · intro i hi
    rw [r 59 (by omega) (by omega)]; exact w i hi
/-- cells of the reference that its reads leave -/
def prM' (a b : Nat) : Bool := a == 41 || a == 42 || a == 43 || a == 58 || a == 59 || a == 60 || (a == 38 && (b == 4 || b == 32 || b == 37 || b == 38 || b == 41))
theorem RM.rd (h : RM M P U V x e O) (f : XF X M M1) (h39 : Mi M1 39 = Mi M 39) (z : ∀ a b, prM' a b = true → X a b = false) : RM M1 P U V x e O := by
  obtain ⟨m, ⟨p1, p2, p3, p4, p5⟩, v, t, w, e0, e1, o⟩ := h
  refine ⟨m.xf f, ⟨by rw [h39]; exact p1, p2, by rw [f.mi (z 38 4 rfl)]; exact p3, p4, ?_⟩, fun j hj => ?_, t.xf f (z 38 32 rfl) (fun i => z 58 i rfl), w.xf f (fun i => z 59 i rfl), by rw [f.mi (z 38 37 rfl)]; exact e0, by rw [f.mi (z 38 38 rfl)]; exact e1, o.xf f (z 38 41 rfl) (fun i => z 60 i rfl)⟩
  · show rpU (Mi M1 41) U
    rw [f.row (fun b => z 41 b rfl)]; exact p5
  · rw [f.row (fun b => z 43 b rfl), f.row (fun b => z 42 b rfl)]; exact v j hj
theorem pr_z {a b : Nat} (h : prM' a b = true) : a = 41 ∨ a = 42 ∨ a = 43 ∨ a = 58 ∨ a = 59 ∨ a = 60 ∨ (a = 38 ∧ (b = 4 ∨ b = 32 ∨ b = 37 ∨ b = 38 ∨ b = 41)) := by
  unfold prM' at h
  simp at h
  omega
theorem z_Rd (a b : Nat) (h : prM' a b = true) : xRd a b = false := by
  rcases pr_z h with rfl | rfl | rfl | rfl | rfl | rfl | ⟨rfl, rfl | rfl | rfl | rfl | rfl⟩ <;> rfl
theorem z_Sq (a b : Nat) (h : prM' a b = true) : xSq a b = false := by
  rcases pr_z h with rfl | rfl | rfl | rfl | rfl | rfl | ⟨rfl, rfl | rfl | rfl | rfl | rfl⟩ <;> rfl
theorem z_Th (a b : Nat) (h : prM' a b = true) : xTh a b = false := by
  rcases pr_z h with rfl | rfl | rfl | rfl | rfl | rfl | ⟨rfl, rfl | rfl | rfl | rfl | rfl⟩ <;> rfl
theorem RM.ed (h : RM M P U V x e O) (f : XF xEd M M1) (q : mPU M1 (P2, U2)) : RM M1 P2 U2 V x e O := by
  obtain ⟨m, -, v, t, w, e0, e1, o⟩ := h
  refine ⟨m.xf f, q, fun j hj => ?_, t.xf f rfl (fun i => rfl), w.xf f (fun i => rfl), by rw [f.mi rfl]; exact e0, by rw [f.mi rfl]; exact e1, o.xf f rfl (fun i => rfl)⟩
  rw [f.row (fun b => rfl), f.row (fun b => rfl)]; exact v j hj
/-! what the law does behind a wrapper -/
def WR (s : Rs) (v : Int32) (M : Mm) : Prop := match s with
  | .inl c => v = nI c ∧ (c = 1 ∨ c = 2)
  | .inr y => v = 0 ∧ Mj M 61 0 = y.toInt64
theorem wrapC {F : Mm → Option ((Nat ⊕ Int32) × Mm)} {hs : List (Nat × Int32)} {e1 e2' : Nat} {s : Rs} (h : Rn F M (fun a M1 => a = xc e1 e2' s ∧ RC M1 P2 U2 V2 x2 e2 O2 ∧ RM M1 P U V x e O ∧ Ml M1 61 = 1)) (hh : ∀ c, s = .inl c → (c = 1 ∨ c = 2) ∧ hCt hs (if c = 1 then e1 else e2') = some (nI c)) : Rn (bndC F hs fun v1 => bnd (aJ 61 0 v1.toInt64) fun _ => rtn 0) M (fun v M1 => WR s v M1 ∧ RC M1 P2 U2 V2 x2 e2 O2 ∧ RM M1 P U V x e O ∧ Ml M1 61 = 1) := by
  unfold bndC
  rw [Rn_bnd]
  refine h.mono ?_
  rintro a M1 ⟨rfl, c1, m1, l1⟩
  cases s with
  | inl c =>
    obtain ⟨h1, h2⟩ := hh c rfl
    show Rn (match hCt hs (if c = 1 then e1 else e2') with | some v => rtn v | none => fail) M1 _
    rw [h2, Rn_rtn]
    exact ⟨⟨rfl, h1⟩, c1, m1, l1⟩
  | inr y =>
    show Rn (bnd (aJ 61 0 y.toInt64) fun _ => rtn 0) M1 _
    rw [Rn_bnd, nL0, rn_aJ (by omega), Rn_rtn]
    have f : XF (fun a _ => a == 61) M1 (sJ M1 61 0 y.toInt64) := XF.rf.sJ rfl
    exact ⟨by omega, ⟨rfl, by rw [Mj_sJ, if_pos ⟨rfl, rfl⟩]⟩, c1.mo f (fun a b z => by simp; omega), m1.xf f (fun a b z1 z2 => by simp; omega), l1⟩
theorem lg_cmp_self (y : Int64) : lg_cmp y y = 0 := by
  unfold lg_cmp
  simp
theorem tailA {s : Rs} {v b : Int32} {K : Mm → Option (Int32 × Mm)} {Q : Int32 → Mm → Prop} (h : WR s v M) (hm : mR s b M1) (hj : Mj M1 61 = Mj M 61) (hl : Ml M1 61 = 1) (k : Rn K M1 Q) : Rn (bnd (fX8_thrown 38) fun v3 => if (v3 : Int32) = v then (if (v : Int32) = 0 then bnd (lJ 61 0) fun v4 => if ((lg_cmp v4 (b.toInt64)) : Int32) = 0 then K else grd ((0 : Int32) == 0 || (0 : Int32) == 1) (rtn 0) else K) else grd ((0 : Int32) == 0 || (0 : Int32) == 1) (rtn 0)) M1 Q := by
  unfold fX8_thrown
  rw [Rn_bnd, Rn_bnd, Rn_gI, Rn_rtn]
  cases s with
  | inl c =>
    obtain ⟨rfl, hc⟩ := h
    have hm : Mi M1 38 0 = nI c := hm
    rw [hm, if_pos rfl, if_neg (by rcases hc with rfl | rfl <;> decide)]
    exact k
  | inr y =>
    obtain ⟨rfl, h2⟩ := h
    obtain ⟨hm9, rfl⟩ := (show Mi M1 38 0 = nI 0 ∧ b = y from hm)
    rw [hm9, if_pos (by decide), if_pos rfl, Rn_bnd, nL0, rn_lJ (by omega), hj, h2, lg_cmp_self, if_pos (by decide)]
    exact ⟨by omega, k⟩
theorem wrapV {F : Mm → Option ((Nat ⊕ Unit) × Mm)} {hs : List (Nat × Int32)} {e1 e2' c : Nat} (h : Rn F M (fun a M1 => a = xv e1 e2' c ∧ RC M1 P2 U2 V2 x2 e2 O2 ∧ RM M1 P U V x e O ∧ Ml M1 61 = 1)) (hh : c ≠ 0 → hCt hs (if c = 1 then e1 else e2') = some (nI c)) : Rn (bndC F hs fun _ => rtn 0) M (fun v M1 => v = nI c ∧ RC M1 P2 U2 V2 x2 e2 O2 ∧ RM M1 P U V x e O ∧ Ml M1 61 = 1) := by
  unfold bndC
  rw [Rn_bnd]
  refine h.mono ?_
  rintro a M1 ⟨rfl, c1, m1, l1⟩
  unfold xv
  by_cases g : c = 0
  · rw [if_pos g]
    show Rn (rtn 0) M1 _
    rw [Rn_rtn, g]; exact ⟨rfl, c1, m1, l1⟩
  · rw [if_neg g]
    show Rn (match hCt hs (if c = 1 then e1 else e2') with | some v => rtn v | none => fail) M1 _
    rw [hh g, Rn_rtn]
    exact ⟨rfl, c1, m1, l1⟩
theorem tailV {v : Int32} {c : Nat} {K : Mm → Option (Int32 × Mm)} {Q : Int32 → Mm → Prop} (h : v = nI c) (hm : Mi M1 38 0 = nI c) (k : Rn K M1 Q) : Rn (bnd (fX8_thrown 38) fun v3 => if (v3 : Int32) = v then K else grd ((0 : Int32) == 0 || (0 : Int32) == 1) (rtn 0)) M1 Q := by
  unfold fX8_thrown
  rw [Rn_bnd, Rn_bnd, Rn_gI, Rn_rtn, hm, h, if_pos rfl]
  exact k
/-- two numbers that are one: either way of the comparison goes on -/
theorem tailD {a b : UInt64} (h : a = b) {K : Mm → Option (Int32 × Mm)} {Q : Int32 → Mm → Prop} (k : Rn K M Q) : Rn (if ((Op.cmpValue (FP.dcmp a b) .l) : Int32) = 0 then K else if ((Op.cmpValue (FP.dcmp a a) .l) : Int32) = 0 then grd ((0 : Int32) == 0 || (0 : Int32) == 1) (rtn 0) else if ((Op.cmpValue (FP.dcmp b b) .l) : Int32) = 0 then grd ((0 : Int32) == 0 || (0 : Int32) == 1) (rtn 0) else K) M Q := by
  subst h
  by_cases g : Op.cmpValue (FP.dcmp a a) .l = 0
  · rw [if_pos g]; exact k
  · rw [if_neg g, if_neg g, if_neg g]; exact k
end Inv
