/-! RUNS: what a program over the memory answers and leaves -/
def Rn {α : Type} (F : Mm → Option (α × Mm)) (M : Mm) (Q : α → Mm → Prop) : Prop := ∃ a M', F M = some (a, M') ∧ Q a M'
theorem Rn.mono {α : Type} {F : Mm → Option (α × Mm)} {M : Mm} {Q Q' : α → Mm → Prop} (h : Rn F M Q) (k : ∀ a M', Q a M' → Q' a M') : Rn F M Q' := by
  obtain ⟨a, M', e, q⟩ := h
  exact ⟨a, M', e, k a M' q⟩
theorem Rn_bnd {α β : Type} {m : Mm → Option (α × Mm)} {k : α → Mm → Option (β × Mm)} {M : Mm} {Q : β → Mm → Prop} : Rn (bnd m k) M Q ↔ Rn m M (fun a M1 => Rn (k a) M1 Q) := by
  constructor
  · rintro ⟨b, M', e, q⟩
    obtain ⟨a, M1, e1, e2⟩ := bnd_some e
    exact ⟨a, M1, e1, b, M', e2, q⟩
  · rintro ⟨a, M1, e1, b, M', e2, q⟩
    exact ⟨b, M', by unfold bnd; rw [e1]; exact e2, q⟩
theorem Rn_rtn {α : Type} {a : α} {M : Mm} {Q : α → Mm → Prop} : Rn (rtn a) M Q ↔ Q a M := by
  constructor
  · rintro ⟨b, M', e, q⟩; cases e; exact q
  · intro q; exact ⟨a, M, rfl, q⟩
theorem Rn_grd {α : Type} {b : Bool} {F : Mm → Option (α × Mm)} {M : Mm} {Q : α → Mm → Prop} : Rn (grd b F) M Q ↔ b = true ∧ Rn F M Q := by
  constructor
  · rintro ⟨a, M', e, q⟩
    obtain ⟨h, e⟩ := grd_some e
    exact ⟨h, a, M', e, q⟩
  · rintro ⟨h, a, M', e, q⟩
    exact ⟨a, M', by unfold grd; rw [if_pos h]; exact e, q⟩
theorem Rn_ite {α : Type} {c : Prop} [Decidable c] {F G : Mm → Option (α × Mm)} {M : Mm} {Q : α → Mm → Prop} : Rn (if c then F else G) M Q ↔ (if c then Rn F M Q else Rn G M Q) := by
  by_cases h : c
  · rw [if_pos h, if_pos h]
  · rw [if_neg h, if_neg h]
theorem Rn_cs {α : Type} {c d : Prop} [Decidable c] {F G : Mm → Option (α × Mm)} {M : Mm} {Q : α → Mm → Prop} (e : c ↔ d) (t : d → Rn F M Q) (f : ¬ d → Rn G M Q) : Rn (if c then F else G) M Q := by
  by_cases h : c
  · rw [if_pos h]; exact t (e.mp h)
  · rw [if_neg h]; exact f (fun q => h (e.mpr q))
theorem Rn_fun {α : Type} {F : Mm → Option (α × Mm)} {a : α} {M M' : Mm} {Q : α → Mm → Prop} (e : F M = some (a, M')) : Rn F M Q ↔ Q a M' := by
  constructor
  · rintro ⟨b, M1, e1, q⟩; rw [e] at e1; cases e1; exact q
  · intro q; exact ⟨a, M', e, q⟩
theorem Rn_gI {h k : Nat} {M : Mm} {Q : Int32 → Mm → Prop} : Rn (gI h k) M Q ↔ Q (Mi M h k) M := Rn_fun rfl
theorem Rn_gJ {h k : Nat} {M : Mm} {Q : Int64 → Mm → Prop} : Rn (gJ h k) M Q ↔ Q (Mj M h k) M := Rn_fun rfl
theorem Rn_pI {h k : Nat} {v : Int32} {M : Mm} {Q : Unit → Mm → Prop} : Rn (pI h k v) M Q ↔ Q () (sI M h k v) := Rn_fun rfl
theorem Rn_pJ {h k : Nat} {v : Int64} {M : Mm} {Q : Unit → Mm → Prop} : Rn (pJ h k v) M Q ↔ Q () (sJ M h k v) := Rn_fun rfl
theorem Rn_pA {h k a : Nat} {M : Mm} {Q : Unit → Mm → Prop} : Rn (pA h k a) M Q ↔ Q () (sR M h k (some a)) := Rn_fun rfl
theorem Rn_if {α : Type} {b : Bool} {a : α} {M M' : Mm} {Q : α → Mm → Prop} {F : Mm → Option (α × Mm)} (e : F M = if b = true then some (a, M') else none) : Rn F M Q ↔ b = true ∧ Q a M' := by
  cases b
  · have e : F M = none := e
    constructor
    · rintro ⟨b, M1, e1, q⟩; rw [e] at e1; cases e1
    · rintro ⟨h, q⟩; cases h
  · have e : F M = some (a, M') := e
    rw [Rn_fun e]; exact ⟨fun q => ⟨rfl, q⟩, fun q => q.2⟩
theorem Rn_pZ {h k : Nat} {v : Int32} {M : Mm} {Q : Unit → Mm → Prop} : Rn (pZ h k v) M Q ↔ (v == 0 || v == 1) = true ∧ Q () (sI M h k v) := Rn_if rfl
theorem Rn_gA {h k r : Nat} {M : Mm} {Q : Nat → Mm → Prop} (e : Mr M h k = some r) : Rn (gA h k) M Q ↔ Q r M := Rn_fun (by unfold gA; rw [e])
theorem Rn_nn {r : Nat} {M : Mm} {Q : Nat → Mm → Prop} : Rn (nn (some r)) M Q ↔ Q r M := Rn_fun rfl
theorem vpB_nI {j n : Nat} (hj : j < 2147483648) : vpB (nI j) n = decide (j < n) := by
  unfold vpB
  rw [nI_clamp hj]
  have : ¬ nI j < 0 := nI_pos hj
  by_cases h : j < n
  · simp [this, h]
  · simp [h]; intro _; omega
theorem Rn_lI {h : Nat} {i : Int32} {M : Mm} {Q : Int32 → Mm → Prop} : Rn (lI h i) M Q ↔ vpB i (Ml M h) = true ∧ Q (Mi M h i.toNatClampNeg) M := Rn_if rfl
theorem Rn_lJ {h : Nat} {i : Int32} {M : Mm} {Q : Int64 → Mm → Prop} : Rn (lJ h i) M Q ↔ vpB i (Ml M h) = true ∧ Q (Mj M h i.toNatClampNeg) M := Rn_if rfl
theorem Rn_lQ {h : Nat} {i : Int32} {M : Mm} {Q : Option Nat → Mm → Prop} : Rn (lQ h i) M Q ↔ vpB i (Ml M h) = true ∧ Q (Mr M h i.toNatClampNeg) M := Rn_if rfl
theorem Rn_aI {h : Nat} {i v : Int32} {M : Mm} {Q : Unit → Mm → Prop} : Rn (aI h i v) M Q ↔ vpB i (Ml M h) = true ∧ Q () (sI M h i.toNatClampNeg v) := Rn_if rfl
theorem Rn_aB {h : Nat} {i v : Int32} {M : Mm} {Q : Unit → Mm → Prop} : Rn (aB h i v) M Q ↔ vpB i (Ml M h) = true ∧ Q () (sI M h i.toNatClampNeg (vp_nar .byte v)) := Rn_if rfl
theorem Rn_aJ {h : Nat} {i : Int32} {v : Int64} {M : Mm} {Q : Unit → Mm → Prop} : Rn (aJ h i v) M Q ↔ vpB i (Ml M h) = true ∧ Q () (sJ M h i.toNatClampNeg v) := Rn_if rfl
theorem Rn_aA {h : Nat} {i : Int32} {a : Nat} {M : Mm} {Q : Unit → Mm → Prop} : Rn (aA h i a) M Q ↔ vpB i (Ml M h) = true ∧ Q () (sR M h i.toNatClampNeg (some a)) := Rn_if rfl
theorem Rn_tS {j : Nat} {i : Int32} {M : Mm} {Q : Int32 → Mm → Prop} : Rn (tS j i) M Q ↔ vpB i 6 = true ∧ Q ((sS.getD j ("", [])).2.getD i.toNatClampNeg 0) M := Rn_if rfl
theorem rn_lI {h j : Nat} {M : Mm} {Q : Int32 → Mm → Prop} (hj : j < 2147483648) : Rn (lI h (nI j)) M Q ↔ j < Ml M h ∧ Q (Mi M h j) M := by
  rw [Rn_lI, vpB_nI hj, nI_clamp hj, decide_eq_true_eq]
theorem rn_lJ {h j : Nat} {M : Mm} {Q : Int64 → Mm → Prop} (hj : j < 2147483648) : Rn (lJ h (nI j)) M Q ↔ j < Ml M h ∧ Q (Mj M h j) M := by
  rw [Rn_lJ, vpB_nI hj, nI_clamp hj, decide_eq_true_eq]
theorem rn_lQ {h j : Nat} {M : Mm} {Q : Option Nat → Mm → Prop} (hj : j < 2147483648) : Rn (lQ h (nI j)) M Q ↔ j < Ml M h ∧ Q (Mr M h j) M := by
  rw [Rn_lQ, vpB_nI hj, nI_clamp hj, decide_eq_true_eq]
theorem rn_aI {h j : Nat} {v : Int32} {M : Mm} {Q : Unit → Mm → Prop} (hj : j < 2147483648) : Rn (aI h (nI j) v) M Q ↔ j < Ml M h ∧ Q () (sI M h j v) := by
  rw [Rn_aI, vpB_nI hj, nI_clamp hj, decide_eq_true_eq]
theorem rn_aB {h j : Nat} {v : Int32} {M : Mm} {Q : Unit → Mm → Prop} (hj : j < 2147483648) : Rn (aB h (nI j) v) M Q ↔ j < Ml M h ∧ Q () (sI M h j v.toInt8.toInt32) := by
  rw [Rn_aB, vpB_nI hj, nI_clamp hj, decide_eq_true_eq, vp_nar_byte]
theorem rn_aJ {h j : Nat} {v : Int64} {M : Mm} {Q : Unit → Mm → Prop} (hj : j < 2147483648) : Rn (aJ h (nI j) v) M Q ↔ j < Ml M h ∧ Q () (sJ M h j v) := by
  rw [Rn_aJ, vpB_nI hj, nI_clamp hj, decide_eq_true_eq]
theorem rn_aA {h j a : Nat} {M : Mm} {Q : Unit → Mm → Prop} (hj : j < 2147483648) : Rn (aA h (nI j) a) M Q ↔ j < Ml M h ∧ Q () (sR M h j (some a)) := by
  rw [Rn_aA, vpB_nI hj, nI_clamp hj, decide_eq_true_eq]
/-! NUMBERS: a literal is nI of it; places from -1 on -/
theorem nL0 : (0 : Int32) = nI 0 := rfl
theorem nL1 : (1 : Int32) = nI 1 := rfl
theorem nL2 : (2 : Int32) = nI 2 := rfl
theorem nL3 : (3 : Int32) = nI 3 := rfl
theorem nL4 : (4 : Int32) = nI 4 := rfl
theorem nL5 : (5 : Int32) = nI 5 := rfl
theorem nL6 : (6 : Int32) = nI 6 := rfl
theorem nL10 : (10 : Int32) = nI 10 := rfl
theorem nL20 : (20 : Int32) = nI 20 := rfl
theorem nL40 : (40 : Int32) = nI 40 := rfl
theorem nL41 : (41 : Int32) = nI 41 := rfl
theorem nL900 : (900 : Int32) = nI 900 := rfl
theorem nL1000 : (1000 : Int32) = nI 1000 := rfl
theorem nle {a b : Nat} (ha : a < 2147483648) (hb : b < 2147483648) : nI a ≤ nI b ↔ a ≤ b := nI_leI ha hb
theorem nlt {a b : Nat} (ha : a < 2147483648) (hb : b < 2147483648) : nI a < nI b ↔ a < b := nI_ltI ha hb
theorem neq {a b : Nat} (ha : a < 2147483648) (hb : b < 2147483648) : nI a = nI b ↔ a = b := nI_eq ha hb
theorem nsb {a b : Nat} (h : b ≤ a) : nI a - nI b = nI (a - b) := pk_sub h
def pl (q : Nat) : Int32 := nI q - 1
theorem pl_0 : (-1 : Int32) = pl 0 := by decide
theorem pl_s (q : Nat) : pl (q + 1) = nI q := nI_pred q
theorem pl_1 (q : Nat) : pl q + nI 1 = nI q := by
  show nI q - 1 + 1 = nI q
  exact Int32.sub_add_cancel _ _
theorem pl_toInt {q : Nat} (h : q < 2147483648) : (pl q).toInt = (q : Int) - 1 := by
  unfold pl
  have e1 := nI_toInt h
  rw [Int32.toInt_sub, e1, show (1 : Int32).toInt = 1 from rfl, Int.bmod_eq_of_le (by omega) (by omega)]
theorem nI_tI {n : Nat} (h : n < 2147483648) : (nI n).toInt = (n : Int) := nI_toInt h
theorem pl_ge {q w : Nat} (h : q < 2147483648) (hw : w < 2147483648) : nI w ≤ pl q ↔ w + 1 ≤ q := by
  rw [Int32.le_iff_toInt_le, pl_toInt h, nI_tI hw]; omega
theorem pl_lt {q w : Nat} (h : q < 2147483648) (hw : w < 2147483648) : pl q < nI w ↔ q < w + 1 := by
  rw [Int32.lt_iff_toInt_lt, pl_toInt h, nI_tI hw]; omega
theorem Rn_det {α : Type} {F : Mm → Option (α × Mm)} {M M0 : Mm} {v : α} (h : Rn F M (fun a M' => a = v ∧ M' = M0)) {Q : α → Mm → Prop} : Rn F M Q ↔ Q v M0 := by
  obtain ⟨a, M', e, rfl, rfl⟩ := h
  exact Rn_fun e
/-! TRUTH VALUES as 0 and 1 -/
def bN (b : Bool) : Nat := if b = true then 1 else 0
theorem bN_le (b : Bool) : bN b ≤ 1 := by cases b <;> decide
theorem bN_0 (b : Bool) : nI (bN b) = nI 0 ↔ b = false := by cases b <;> decide
theorem bN_g (b : Bool) : (nI (bN b) == nI 0 || nI (bN b) == nI 1) = true := by cases b <;> decide
/-! READS AFTER WRITES -/
theorem Mi_sI {M : Mm} {h k a b : Nat} {v : Int32} : Mi (sI M h k v) a b = if a = h ∧ b = k then v else Mi M a b := rfl
theorem Mi_sJ {M : Mm} {h k : Nat} {v : Int64} : Mi (sJ M h k v) = Mi M := rfl
theorem Mi_sR {M : Mm} {h k : Nat} {v : Option Nat} : Mi (sR M h k v) = Mi M := rfl
theorem Mj_sI {M : Mm} {h k : Nat} {v : Int32} : Mj (sI M h k v) = Mj M := rfl
theorem Mj_sJ {M : Mm} {h k a b : Nat} {v : Int64} : Mj (sJ M h k v) a b = if a = h ∧ b = k then v else Mj M a b := rfl
theorem Mj_sR {M : Mm} {h k : Nat} {v : Option Nat} : Mj (sR M h k v) = Mj M := rfl
theorem Mr_sI {M : Mm} {h k : Nat} {v : Int32} : Mr (sI M h k v) = Mr M := rfl
theorem Mr_sR {M : Mm} {h k a b : Nat} {v : Option Nat} : Mr (sR M h k v) a b = if a = h ∧ b = k then v else Mr M a b := rfl
theorem Ml_sI {M : Mm} {h k : Nat} {v : Int32} : Ml (sI M h k v) = Ml M := rfl
theorem Ml_sR {M : Mm} {h k : Nat} {v : Option Nat} : Ml (sR M h k v) = Ml M := rfl
/-! FRAMES: only the cells of X may differ -/
def XF (X : Nat → Nat → Bool) (M M' : Mm) : Prop := M'.1 = M.1 ∧ Mr M' = Mr M ∧ (∀ h k, X h k = false → Mi M' h k = Mi M h k) ∧ (∀ h k, X h k = false → Mj M' h k = Mj M h k)
theorem XF.rf {X : Nat → Nat → Bool} {M : Mm} : XF X M M := ⟨rfl, rfl, fun _ _ _ => rfl, fun _ _ _ => rfl⟩
theorem XF.tr {X : Nat → Nat → Bool} {M M1 M2 : Mm} (h : XF X M M1) (h' : XF X M1 M2) : XF X M M2 :=
  ⟨h'.1.trans h.1, h'.2.1.trans h.2.1, fun a b e => (h'.2.2.1 a b e).trans (h.2.2.1 a b e), fun a b e => (h'.2.2.2 a b e).trans (h.2.2.2 a b e)⟩
theorem XF.mono {X Y : Nat → Nat → Bool} {M M1 : Mm} (h : XF X M M1) (s : ∀ a b, Y a b = false → X a b = false) : XF Y M M1 :=
  ⟨h.1, h.2.1, fun a b e => h.2.2.1 a b (s a b e), fun a b e => h.2.2.2 a b (s a b e)⟩
theorem XF.sI {X : Nat → Nat → Bool} {M M1 : Mm} (h : XF X M M1) {a b : Nat} {v : Int32} (e : X a b = true) : XF X M (sI M1 a b v) := by
  refine ⟨h.1, h.2.1, fun c d q => ?_, h.2.2.2⟩
  rw [Mi_sI, if_neg (fun z => by rw [z.1, z.2, e] at q; cases q)]
  exact h.2.2.1 c d q
theorem XF.sJ {X : Nat → Nat → Bool} {M M1 : Mm} (h : XF X M M1) {a b : Nat} {v : Int64} (e : X a b = true) : XF X M (sJ M1 a b v) := by
  refine ⟨h.1, h.2.1, h.2.2.1, fun c d q => ?_⟩
  rw [Mj_sJ, if_neg (fun z => by rw [z.1, z.2, e] at q; cases q)]
  exact h.2.2.2 c d q
theorem XF.mi {X : Nat → Nat → Bool} {M M' : Mm} (h : XF X M M') {a b : Nat} (e : X a b = false) : Mi M' a b = Mi M a b := h.2.2.1 a b e
theorem XF.mj {X : Nat → Nat → Bool} {M M' : Mm} (h : XF X M M') {a b : Nat} (e : X a b = false) : Mj M' a b = Mj M a b := h.2.2.2 a b e
theorem XF.row {X : Nat → Nat → Bool} {M M' : Mm} (h : XF X M M') {a : Nat} (e : ∀ b, X a b = false) : Mi M' a = Mi M a := funext fun b => h.2.2.1 a b (e b)
theorem XF.ml {X : Nat → Nat → Bool} {M M' : Mm} (h : XF X M M') : Ml M' = Ml M := by unfold Ml; rw [h.1]
theorem XF.mr {X : Nat → Nat → Bool} {M M' : Mm} (h : XF X M M') : Mr M' = Mr M := h.2.1
/-- .. with a value that runs along; it may stop anywhere -/
theorem rn_loopv {β σ : Type} {F : Nat → σ → Mm → Option (β × Mm)} {Q : β → Mm → Prop} (I : σ → Mm → Prop) (μ : σ → Nat) (hstep : ∀ n s M, I s M → (∀ s' M', I s' M' → μ s' < μ s → Rn (F n s') M' Q) → Rn (F (n + 1) s) M Q) :
    ∀ (n : Nat) (s : σ) (M : Mm), μ s < n → I s M → Rn (F n s) M Q := by
  intro n
  induction n with
  | zero => intro s M h; omega
  | succ n ih => intro s M hn h; exact hstep n s M h (fun s' M' h' hl => ih s' M' (by omega) h')

