/-! the calls' facts, brought to the one state -/
theorem z_Co (a b : Nat) (h : a < 16 ∨ 36 < a) : xCo 16 a b = false := by unfold xCo; simp; omega
theorem z_Sd (a b : Nat) (h : a < 16 ∨ 36 < a) : xSd a b = false := by unfold xSd; simp; omega
theorem c_Rd (a b : Nat) (h : a < 38 ∨ 60 < a) : xRd a b = false := by unfold xRd xCd xK xR xD xL; simp; omega
theorem c_Sq (a b : Nat) (h : a < 38 ∨ 60 < a) : xSq a b = false := by unfold xSq xSe xCd xK xR xD xL xSn; simp; omega
theorem c_Ed (a b : Nat) (h : a < 38 ∨ 60 < a) : xEd a b = false := by unfold xEd xRd xCd xK xR xD xL xKp xPg; simp; omega
theorem c_Sv (a b : Nat) (h : a < 38 ∨ 60 < a) : xSv a b = false := by unfold xSv; simp; omega
theorem c_Tm (a b : Nat) (h : a < 38 ∨ 60 < a) : xTm a b = false := by unfold xTm; simp; omega
theorem c_Ml (a b : Nat) (h : a < 38 ∨ 60 < a) : xMl a b = false := by unfold xMl xMp; simp; omega
theorem c_Wm (a b : Nat) (h : a < 38 ∨ 60 < a) : xWm a b = false := by unfold xWm xRd xCd xK xR xD xL xOm; simp; omega
theorem c_Hm (a b : Nat) (h : a < 38 ∨ 60 < a) : xHm a b = false := by unfold xHm xSq xSe xCd xK xR xD xL xSn xOm; simp; omega
theorem c_Th (a b : Nat) (h : a < 38 ∨ 60 < a) : xTh a b = false := by unfold xTh; simp; omega
theorem nf_by (P : Pg) (hw : wfP P) : nf32 (spByAbove P) = true := by
  unfold spByAbove
  by_cases h : PL P = 0
  · rw [if_pos h]; decide
  · rw [if_neg h]
    have := hw.2.2.1
    refine nf_fdiv _ ?_
    rw [nI_tI (by omega)]; omega
theorem mErrC {M : Mm} : Rn (fX8_errorCode 38) M (fun b M' => b = Mi M 38 37 ∧ Mi M' 38 0 = nI 0 ∧ XF xTh M M') := by
  unfold fX8_errorCode
  rw [Rn_bnd, Rn_pI, Rn_bnd, Rn_gI, Rn_rtn, Mi_sI, if_neg (by omega)]
  exact ⟨rfl, sI_self, XF.rf.sI rfl⟩
theorem mErrP {M : Mm} : Rn (fX8_errorPosition 38) M (fun b M' => b = Mi M 38 38 ∧ Mi M' 38 0 = nI 0 ∧ XF xTh M M') := by
  unfold fX8_errorPosition
  rw [Rn_bnd, Rn_pI, Rn_bnd, Rn_gI, Rn_rtn, Mi_sI, if_neg (by omega)]
  exact ⟨rfl, sI_self, XF.rf.sI rfl⟩
section Ad
variable {X : Nat → Nat → Bool} {M : Mm} {P P2 : Pg} {U U2 : List Pg} {V V2 : Nat → Option Pg} {x x2 : Tx} {e e2 : Int32 × Int32} {O O2 : List Nat}
variable {P3 : Pg} {U3 : List Pg} {V3 : Nat → Option Pg} {x3 : Tx} {e3 : Int32 × Int32} {O3 : List Nat}
theorem clR {α : Type} {F : Mm → Option (α × Mm)} {A : α} (h : Rn F M (fun a M' => a = A ∧ XF X M M')) (z : ∀ a b, a < 16 ∨ 36 < a → X a b = false) (hC : RC M P U V x e O) (hM : RM M P2 U2 V2 x2 e2 O2) (hl : Ml M 61 = 1) : Rn F M (fun a M1 => a = A ∧ RC M1 P U V x e O ∧ RM M1 P2 U2 V2 x2 e2 O2 ∧ Ml M1 61 = 1) :=
  h.mono (fun a M1 ⟨h1, f⟩ => ⟨h1, hC.rd f z, hM.xf f (fun a b z1 z2 => z a b (by omega)), by rw [f.ml]; exact hl⟩)
theorem clG {α : Type} {F : Mm → Option (α × Mm)} {A : α} (h : Rn F M (fun a M' => a = A ∧ XG xEc M M' ∧ CPg M' P2 U2 V2)) (hC : RC M P U V x e O) (hM : RM M P3 U3 V3 x3 e3 O3) (hl : Ml M 61 = 1) : Rn F M (fun a M1 => a = A ∧ RC M1 P2 U2 V2 x e O ∧ RM M1 P3 U3 V3 x3 e3 O3 ∧ Ml M1 61 = 1) :=
  h.mono (fun a M1 ⟨h1, f, c⟩ => ⟨h1, hC.ed f c, hM.xg hC.b f (fun a b z1 z2 => by unfold xEc; simp; omega), ((f.2 61 (by have := hC.b; omega)).1).trans hl⟩)
theorem clT {F : Mm → Option ((Nat ⊕ Int32) × Mm)} {A : Nat ⊕ Int32} (h : Rn F M (fun a M' => a = A ∧ XF xTx M M' ∧ isTx M' x2)) (hC : RC M P U V x e O) (hM : RM M P3 U3 V3 x3 e3 O3) (hl : Ml M 61 = 1) : Rn F M (fun a M1 => a = A ∧ RC M1 P U V x2 e O ∧ RM M1 P3 U3 V3 x3 e3 O3 ∧ Ml M1 61 = 1) := by
  refine h.mono ?_
  rintro a M1 ⟨h1, f, t⟩
  obtain ⟨c, -, e0, e1, o⟩ := hC
  have z : ∀ a b, a < 9 ∨ 10 < a → xTx a b = false := fun a b h => by unfold xTx; simp; omega
  exact ⟨h1, ⟨c.xf f (fun a b q => z a b (by omega)), t, by rw [f.mi rfl]; exact e0, by rw [f.mi rfl]; exact e1, o.xf f rfl (fun _ => rfl)⟩, hM.xf f (fun a b z1 z2 => z a b (by omega)), by rw [f.ml]; exact hl⟩
theorem clW {F : Mm → Option ((Nat ⊕ Int32) × Mm)} {A : Nat ⊕ Int32} (h : Rn F M (fun a M' => a = A ∧ XF xWr M M' ∧ isOut M' O2)) (hC : RC M P U V x e O) (hM : RM M P3 U3 V3 x3 e3 O3) (hl : Ml M 61 = 1) : Rn F M (fun a M1 => a = A ∧ RC M1 P U V x e O2 ∧ RM M1 P3 U3 V3 x3 e3 O3 ∧ Ml M1 61 = 1) := by
  refine h.mono ?_
  rintro a M1 ⟨h1, f, o⟩
  obtain ⟨c, t, e0, e1, -⟩ := hC
  have z : ∀ a b, (1 ≤ a ∧ a < 16) ∨ 37 < a → xWr a b = false := fun a b h => by unfold xWr xOu; simp; omega
  exact ⟨h1, ⟨c.xf f (fun a b q => z a b (by omega)), t.xf f rfl (fun _ => rfl), by rw [f.mi rfl]; exact e0, by rw [f.mi rfl]; exact e1, o⟩, hM.xf f (fun a b z1 z2 => z a b (by omega)), by rw [f.ml]; exact hl⟩
theorem clL {F : Mm → Option (Int32 × Mm)} {A : Int32} (h : Rn F M (fun a M' => a = A ∧ XG xLd M M' ∧ CPg M' P2 U2 V ∧ isTx M' x2 ∧ Mi M' 8 0 = e2.1 ∧ Mi M' 8 1 = e2.2)) (hC : RC M P U V x e O) (hM : RM M P3 U3 V3 x3 e3 O3) (hl : Ml M 61 = 1) : Rn F M (fun a M1 => a = A ∧ RC M1 P2 U2 V x2 e2 O ∧ RM M1 P3 U3 V3 x3 e3 O3 ∧ Ml M1 61 = 1) := by
  refine h.mono ?_
  rintro a M1 ⟨h1, f, c, t, e0, e1⟩
  have z : ∀ a b, a = 0 ∨ (16 ≤ a ∧ a < 62) → xLd a b = false := fun a b h => by unfold xLd xEc xPr xTk; simp; omega
  exact ⟨h1, ⟨c, t, e0, e1, hC.2.2.2.2.xg hC.b f (z _ _ (by omega)) (fun i => z _ _ (by omega))⟩, hM.xg hC.b f (fun a b z1 z2 => z a b (by omega)), ((f.2 61 (by have := hC.b; omega)).1).trans hl⟩
/-- what stands behind a call of the reference -/
theorem mo_all {M1 : Mm} (f : XF X M M1) (z : ∀ a b, a < 38 ∨ 60 < a → X a b = false) (hC : RC M P U V x e O) (hl : Ml M 61 = 1) : RC M1 P U V x e O ∧ Ml M1 61 = 1 ∧ Mj M1 61 = Mj M 61 :=
  ⟨hC.mo f (fun a b h => z a b (by omega)), by rw [f.ml]; exact hl, f.rowJ (fun b => z 61 b (by omega))⟩
theorem mlR {F : Mm → Option (Int32 × Mm)} {s : Rs} (h : Rn F M (fun b M' => mR s b M' ∧ XF xRd M M')) (hM : RM M P U V x e O) (hC : RC M P2 U2 V2 x2 e2 O2) (hl : Ml M 61 = 1) : Rn F M (fun b M1 => mR s b M1 ∧ RM M1 P U V x e O ∧ RC M1 P2 U2 V2 x2 e2 O2 ∧ Ml M1 61 = 1 ∧ Mj M1 61 = Mj M 61) :=
  h.mono (fun b M1 ⟨h1, f⟩ => ⟨h1, hM.rd f (f.row (fun _ => rfl)) z_Rd, mo_all f c_Rd hC hl⟩)
theorem mlQ {F : Mm → Option (Int32 × Mm)} {s : Rs} (h : Rn F M (fun b M' => mQ s b M M')) (hM : RM M P U V x e O) (hC : RC M P2 U2 V2 x2 e2 O2) (hl : Ml M 61 = 1) : Rn F M (fun b M1 => mR s b M1 ∧ RM M1 P U V x e O ∧ RC M1 P2 U2 V2 x2 e2 O2 ∧ Ml M1 61 = 1 ∧ Mj M1 61 = Mj M 61) :=
  h.mono (fun b M1 ⟨h1, f, h3⟩ => ⟨h1, hM.rd f h3 z_Sq, mo_all f c_Sq hC hl⟩)
theorem mlV {α : Type} {F : Mm → Option (α × Mm)} {A : α} (h : Rn F M (fun b M' => b = A ∧ XF xSq M M' ∧ Mi M' 39 = Mi M 39)) (hM : RM M P U V x e O) (hC : RC M P2 U2 V2 x2 e2 O2) (hl : Ml M 61 = 1) : Rn F M (fun b M1 => b = A ∧ RM M1 P U V x e O ∧ RC M1 P2 U2 V2 x2 e2 O2 ∧ Ml M1 61 = 1 ∧ Mj M1 61 = Mj M 61) :=
  h.mono (fun b M1 ⟨h1, f, h3⟩ => ⟨h1, hM.rd f h3 z_Sq, mo_all f c_Sq hC hl⟩)
theorem mlE {F : Mm → Option (Int32 × Mm)} {s : EdS} (h : Rn F M (fun b M' => mE s b M M')) (hM : RM M P U V x e O) (hC : RC M P2 U2 V2 x2 e2 O2) (hl : Ml M 61 = 1) : Rn F M (fun b M1 => mR s.1 b M1 ∧ RM M1 s.2.1 s.2.2 V x e O ∧ RC M1 P2 U2 V2 x2 e2 O2 ∧ Ml M1 61 = 1 ∧ Mj M1 61 = Mj M 61) :=
  h.mono (fun b M1 ⟨h1, f, q⟩ => ⟨h1, hM.ed f q, mo_all f c_Ed hC hl⟩)
theorem mlT {F : Mm → Option (Int32 × Mm)} {s : Rs} {x' : Tx} (h : Rn F M (fun b M' => mR s b M' ∧ XF xTm M M' ∧ isTxM M' x')) (hM : RM M P U V x e O) (hC : RC M P2 U2 V2 x2 e2 O2) (hl : Ml M 61 = 1) : Rn F M (fun b M1 => mR s b M1 ∧ RM M1 P U V x' e O ∧ RC M1 P2 U2 V2 x2 e2 O2 ∧ Ml M1 61 = 1 ∧ Mj M1 61 = Mj M 61) := by
  refine h.mono ?_
  rintro b M1 ⟨h1, f, t⟩
  obtain ⟨m, ⟨p1, p2, p3, p4, p5⟩, v, -, w, e0, e1, o⟩ := hM
  refine ⟨h1, ⟨m.xf f, ⟨by rw [f.row (fun _ => rfl)]; exact p1, p2, by rw [f.mi rfl]; exact p3, p4, ?_⟩, fun j hj => ?_, t, w.xf f (fun _ => rfl), by rw [f.mi rfl]; exact e0, by rw [f.mi rfl]; exact e1, o.xf f rfl (fun _ => rfl)⟩, mo_all f c_Tm hC hl⟩
  · show rpU (Mi M1 41) U
    rw [f.row (fun _ => rfl)]; exact p5
  · rw [f.row (fun _ => rfl), f.row (fun _ => rfl)]; exact v j hj
theorem mlW {F : Mm → Option (Int32 × Mm)} {s : Rs} {O' : List Nat} (h : Rn F M (fun b M' => mR s b M' ∧ XF xWm M M' ∧ mOut M' O')) (hM : RM M P U V x e O) (hC : RC M P2 U2 V2 x2 e2 O2) (hl : Ml M 61 = 1) : Rn F M (fun b M1 => mR s b M1 ∧ RM M1 P U V x e O' ∧ RC M1 P2 U2 V2 x2 e2 O2 ∧ Ml M1 61 = 1 ∧ Mj M1 61 = Mj M 61) := by
  refine h.mono ?_
  rintro b M1 ⟨h1, f, o⟩
  obtain ⟨m, ⟨p1, p2, p3, p4, p5⟩, v, t, w, e0, e1, -⟩ := hM
  refine ⟨h1, ⟨m.xf f, ⟨by rw [f.row (fun _ => rfl)]; exact p1, p2, by rw [f.mi rfl]; exact p3, p4, ?_⟩, fun j hj => ?_, t.xf f rfl (fun _ => rfl), w.xf f (fun _ => rfl), by rw [f.mi rfl]; exact e0, by rw [f.mi rfl]; exact e1, o⟩, mo_all f c_Wm hC hl⟩
  · show rpU (Mi M1 41) U
    rw [f.row (fun _ => rfl)]; exact p5
  · rw [f.row (fun _ => rfl), f.row (fun _ => rfl)]; exact v j hj
theorem mlH {F : Mm → Option (Int32 × Mm)} {s : Rs} {O' : List Nat} (h : Rn F M (fun b M' => mR s b M' ∧ XF xHm M M' ∧ Mi M' 39 = Mi M 39 ∧ mOut M' O')) (hM : RM M P U V x e O) (hC : RC M P2 U2 V2 x2 e2 O2) (hl : Ml M 61 = 1) : Rn F M (fun b M1 => mR s b M1 ∧ RM M1 P U V x e O' ∧ RC M1 P2 U2 V2 x2 e2 O2 ∧ Ml M1 61 = 1 ∧ Mj M1 61 = Mj M 61) := by
  refine h.mono ?_
  rintro b M1 ⟨h1, f, h39, o⟩
  obtain ⟨m, ⟨p1, p2, p3, p4, p5⟩, v, t, w, e0, e1, -⟩ := hM
  refine ⟨h1, ⟨m.xf f, ⟨by rw [h39]; exact p1, p2, by rw [f.mi rfl]; exact p3, p4, ?_⟩, fun j hj => ?_, t.xf f rfl (fun _ => rfl), w.xf f (fun _ => rfl), by rw [f.mi rfl]; exact e0, by rw [f.mi rfl]; exact e1, o⟩, mo_all f c_Hm hC hl⟩
  · show rpU (Mi M1 41) U
    rw [f.row (fun _ => rfl)]; exact p5
  · rw [f.row (fun _ => rfl), f.row (fun _ => rfl)]; exact v j hj
theorem mlS {F : Mm → Option (Unit × Mm)} {c : Nat} {V' : Nat → Option Pg} (h : Rn F M (fun _ M' => Mi M' 38 0 = nI c ∧ XF xSv M M' ∧ mSv M' V')) (hM : RM M P U V x e O) (hC : RC M P2 U2 V2 x2 e2 O2) (hl : Ml M 61 = 1) : Rn F M (fun _ M1 => Mi M1 38 0 = nI c ∧ RM M1 P U V' x e O ∧ RC M1 P2 U2 V2 x2 e2 O2 ∧ Ml M1 61 = 1 ∧ Mj M1 61 = Mj M 61) := by
  refine h.mono ?_
  rintro b M1 ⟨h1, f, v⟩
  obtain ⟨m, ⟨p1, p2, p3, p4, p5⟩, -, t, w, e0, e1, o⟩ := hM
  refine ⟨h1, ⟨m.xf f, ⟨by rw [f.row (fun _ => rfl)]; exact p1, p2, by rw [f.mi rfl]; exact p3, p4, ?_⟩, v, t.xf f rfl (fun _ => rfl), w.xf f (fun _ => rfl), by rw [f.mi rfl]; exact e0, by rw [f.mi rfl]; exact e1, o.xf f rfl (fun _ => rfl)⟩, mo_all f c_Sv hC hl⟩
  show rpU (Mi M1 41) U
  rw [f.row (fun _ => rfl)]; exact p5
theorem mlU {F : Mm → Option (Unit × Mm)} {c : Nat} {q : Pg × List Pg} (h : Rn F M (fun _ M' => Mi M' 38 0 = nI c ∧ XF xEd M M' ∧ mPU M' q)) (hM : RM M P U V x e O) (hC : RC M P2 U2 V2 x2 e2 O2) (hl : Ml M 61 = 1) : Rn F M (fun _ M1 => Mi M1 38 0 = nI c ∧ RM M1 q.1 q.2 V x e O ∧ RC M1 P2 U2 V2 x2 e2 O2 ∧ Ml M1 61 = 1 ∧ Mj M1 61 = Mj M 61) :=
  h.mono (fun b M1 ⟨h1, f, v⟩ => ⟨h1, hM.ed f v, mo_all f c_Ed hC hl⟩)
theorem mlN {F : Mm → Option (Int32 × Mm)} {A : Int32} {q : Pg × List Pg} (h : Rn F M (fun b M' => b = A ∧ XF xEd M M' ∧ mPU M' q)) (hM : RM M P U V x e O) (hC : RC M P2 U2 V2 x2 e2 O2) (hl : Ml M 61 = 1) : Rn F M (fun b M1 => b = A ∧ RM M1 q.1 q.2 V x e O ∧ RC M1 P2 U2 V2 x2 e2 O2 ∧ Ml M1 61 = 1 ∧ Mj M1 61 = Mj M 61) :=
  h.mono (fun b M1 ⟨h1, f, v⟩ => ⟨h1, hM.ed f v, mo_all f c_Ed hC hl⟩)
theorem mlL {F : Mm → Option (Int32 × Mm)} (h : Rn F M (fun b M' => ldM P U x b M M' ∧ Mi M' 38 0 = nI 0)) (hM : RM M P U V x e O) (hC : RC M P2 U2 V2 x2 e2 O2) (hl : Ml M 61 = 1) : Rn F M (fun b M1 => b = (spLoad P U x).1 ∧ RM M1 (spLoad P U x).2.1.1 (spLoad P U x).2.1.2 V (x.1, 0) (spLoad P U x).2.2 O ∧ RC M1 P2 U2 V2 x2 e2 O2 ∧ Ml M1 61 = 1 ∧ Mj M1 61 = Mj M 61) := by
  refine h.mono ?_
  rintro b M1 ⟨⟨h1, f, q, t, e0, e1⟩, -⟩
  obtain ⟨m, -, v, -, w, -, -, o⟩ := hM
  refine ⟨h1, ⟨m.xf f, q, fun j hj => ?_, t, w.xf f (fun _ => rfl), e0, e1, o.xf f rfl (fun _ => rfl)⟩, mo_all f c_Ml hC hl⟩
  rw [f.row (fun _ => rfl), f.row (fun _ => rfl)]; exact v j hj
theorem mlO {F : Mm → Option (Int32 × Mm)} {A : Int32} (h : Rn F M (fun b M' => b = A ∧ Mi M' 38 0 = nI 0 ∧ XF xTh M M')) (hM : RM M P U V x e O) (hC : RC M P2 U2 V2 x2 e2 O2) (hl : Ml M 61 = 1) : Rn F M (fun b M1 => b = A ∧ RM M1 P U V x e O ∧ RC M1 P2 U2 V2 x2 e2 O2 ∧ Ml M1 61 = 1 ∧ Mj M1 61 = Mj M 61) :=
  h.mono (fun b M1 ⟨h1, _, f⟩ => ⟨h1, hM.rd f (f.row (fun _ => rfl)) z_Th, mo_all f c_Th hC hl⟩)
end Ad
