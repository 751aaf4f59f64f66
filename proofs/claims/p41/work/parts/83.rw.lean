/-! RUNS THAT COUNT: what a program answers, leaves and has made so far -/
def Rw {α : Type} (F : Mm → Option (α × Mm × Nat × Nat)) (M : Mm) (c0 s0 : Nat) (Q : α → Mm → Nat → Nat → Prop) : Prop := ∃ a M' c s, F M = some (a, M', c, s) ∧ Q a M' (c0 + c) (s0 + s)
theorem Rw.mono {α : Type} {F : Mm → Option (α × Mm × Nat × Nat)} {M : Mm} {c0 s0 : Nat} {Q Q' : α → Mm → Nat → Nat → Prop} (h : Rw F M c0 s0 Q) (k : ∀ a M' c s, Q a M' c s → Q' a M' c s) : Rw F M c0 s0 Q' := by
  obtain ⟨a, M', c, s, e, q⟩ := h
  exact ⟨a, M', c, s, e, k _ _ _ _ q⟩
theorem Rw_wb {α β : Type} {m : Mm → Option (α × Mm)} {k : α → Mm → Option (β × Mm × Nat × Nat)} {M : Mm} {c0 s0 : Nat} {Q : β → Mm → Nat → Nat → Prop} : Rw (wb m k) M c0 s0 Q ↔ Rn m M (fun a M1 => Rw (k a) M1 c0 s0 Q) := by
  constructor
  · rintro ⟨b, M', c, s, e, q⟩
    obtain ⟨a, M1, e1, e2⟩ := wb_some e
    exact ⟨a, M1, e1, b, M', c, s, e2, q⟩
  · rintro ⟨a, M1, e1, b, M', c, s, e2, q⟩
    exact ⟨b, M', c, s, by unfold wb; rw [e1]; exact e2, q⟩
theorem Rw_wq {α β : Type} {m : Mm → Option (α × Mm × Nat × Nat)} {k : α → Mm → Option (β × Mm × Nat × Nat)} {M : Mm} {c0 s0 : Nat} {Q : β → Mm → Nat → Nat → Prop} : Rw (wq m k) M c0 s0 Q ↔ Rw m M c0 s0 (fun a M1 c1 s1 => Rw (k a) M1 c1 s1 Q) := by
  constructor
  · rintro ⟨b, M', c, s, e, q⟩
    obtain ⟨a, M1, c1, s1, c2, s2, e1, e2, rfl, rfl⟩ := wq_some e
    exact ⟨a, M1, c1, s1, e1, b, M', c2, s2, e2, by rw [Nat.add_assoc, Nat.add_assoc]; exact q⟩
  · rintro ⟨a, M1, c1, s1, e1, b, M', c2, s2, e2, q⟩
    refine ⟨b, M', c1 + c2, s1 + s2, by unfold wq; rw [e1]; dsimp only; rw [e2], ?_⟩
    rw [← Nat.add_assoc, ← Nat.add_assoc]; exact q
theorem Rw_wr {α : Type} {a : α} {M : Mm} {c0 s0 : Nat} {Q : α → Mm → Nat → Nat → Prop} : Rw (wr a) M c0 s0 Q ↔ Q a M c0 s0 := by
  constructor
  · rintro ⟨b, M', c, s, e, q⟩; cases e; exact q
  · intro q; exact ⟨a, M, 0, 0, rfl, q⟩
theorem Rw_grd {α : Type} {b : Bool} {F : Mm → Option (α × Mm × Nat × Nat)} {M : Mm} {c0 s0 : Nat} {Q : α → Mm → Nat → Nat → Prop} : Rw (wgrd b F) M c0 s0 Q ↔ b = true ∧ Rw F M c0 s0 Q := by
  constructor
  · rintro ⟨a, M', c, s, e, q⟩
    obtain ⟨h, e⟩ := wgrd_some e
    exact ⟨h, a, M', c, s, e, q⟩
  · rintro ⟨h, a, M', c, s, e, q⟩
    exact ⟨a, M', c, s, by unfold wgrd; rw [if_pos h]; exact e, q⟩
theorem Rw_cs {α : Type} {c d : Prop} [Decidable c] {F G : Mm → Option (α × Mm × Nat × Nat)} {M : Mm} {c0 s0 : Nat} {Q : α → Mm → Nat → Nat → Prop} (e : c ↔ d) (t : d → Rw F M c0 s0 Q) (f : ¬ d → Rw G M c0 s0 Q) : Rw (if c then F else G) M c0 s0 Q := by
  by_cases h : c
  · rw [if_pos h]; exact t (e.mp h)
  · rw [if_neg h]; exact f (fun q => h (e.mpr q))
theorem Rw_yes {α : Type} {c : Prop} [Decidable c] {F G : Mm → Option (α × Mm × Nat × Nat)} {M : Mm} {c0 s0 : Nat} {Q : α → Mm → Nat → Nat → Prop} (e : c) (t : Rw F M c0 s0 Q) : Rw (if c then F else G) M c0 s0 Q := by rw [if_pos e]; exact t
theorem Rw_no {α : Type} {c : Prop} [Decidable c] {F G : Mm → Option (α × Mm × Nat × Nat)} {M : Mm} {c0 s0 : Nat} {Q : α → Mm → Nat → Nat → Prop} (e : ¬ c) (t : Rw G M c0 s0 Q) : Rw (if c then F else G) M c0 s0 Q := by rw [if_neg e]; exact t
theorem Rw_cc {α : Type} {kc ks : Nat} {m : Mm → Option (α × Mm)} {M : Mm} {c0 s0 : Nat} {Q : α → Mm → Nat → Nat → Prop} : Rw (wcc kc ks m) M c0 s0 Q ↔ Rn m M (fun a M' => Q a M' (c0 + kc) (s0 + ks)) := by
  constructor
  · rintro ⟨a, M', c, s, e, q⟩
    unfold wcc at e
    split at e
    · rename_i e1; cases e; exact ⟨_, _, e1, q⟩
    · cases e
  · rintro ⟨a, M', e, q⟩
    exact ⟨a, M', kc, ks, by unfold wcc; rw [e], q⟩
theorem Rw_cx {α : Type} {kc ks : Nat} {m : Mm → Option ((Nat ⊕ α) × Mm)} {M : Mm} {c0 s0 : Nat} {Q : α → Mm → Nat → Nat → Prop} (h : Rn m M (fun r M' => ∃ a, r = .inr a ∧ Q a M' (c0 + kc) (s0 + ks))) : Rw (wcx kc ks m) M c0 s0 Q := by
  obtain ⟨r, M', e, a, rfl, q⟩ := h
  exact ⟨a, M', kc, ks, by unfold wcx; rw [e], q⟩
theorem Rw_op1 {α : Type} {r : Nat} {F : Mm → Option (α × Mm × Nat × Nat)} {G : Nat → Mm → Option (α × Mm × Nat × Nat)} {M : Mm} {c0 s0 : Nat} {Q : α → Mm → Nat → Nat → Prop} : Rw (wopc (some r) F G) M c0 s0 Q ↔ Rw (G r) M c0 s0 Q := Iff.rfl
theorem Rw_op0 {α : Type} {F : Mm → Option (α × Mm × Nat × Nat)} {G : Nat → Mm → Option (α × Mm × Nat × Nat)} {M : Mm} {c0 s0 : Nat} {Q : α → Mm → Nat → Nat → Prop} : Rw (wopc none F G) M c0 s0 Q ↔ Rw F M c0 s0 Q := Iff.rfl
/-- loops: a value, an invariant with what has been made so far, a measure -/
theorem rw_loopv {β σ : Type} {F : Nat → σ → Mm → Option (β × Mm × Nat × Nat)} {Q : β → Mm → Nat → Nat → Prop} (I : σ → Mm → Nat → Nat → Prop) (μ : σ → Nat) (hstep : ∀ n s M c0 s0, I s M c0 s0 → (∀ s' M' c1 s1, I s' M' c1 s1 → μ s' < μ s → Rw (F n s') M' c1 s1 Q) → Rw (F (n + 1) s) M c0 s0 Q) :
    ∀ (n : Nat) (s : σ) (M : Mm) (c0 s0 : Nat), μ s < n → I s M c0 s0 → Rw (F n s) M c0 s0 Q := by
  intro n
  induction n with
  | zero => intro s M c0 s0 h; omega
  | succ n ih => intro s M c0 s0 hn h; exact hstep n s M c0 s0 h (fun s' M' c1 s1 h' hl => ih s' M' c1 s1 (by omega) h')
/-! FRAMES: below n, only the things of X differ -/
def Gx (X : Nat → Bool) (n : Nat) (M M' : Mm) : Prop := Mn M ≤ Mn M' ∧ Mx M' = Mx M ∧ (∀ h, h < Mn M ∨ SB ≤ h → Mk M' h = Mk M h ∧ Ml M' h = Ml M h) ∧ ∀ h, h < n → X h = false → Mi M' h = Mi M h ∧ Mj M' h = Mj M h ∧ Mr M' h = Mr M h
theorem Gx.rf {X : Nat → Bool} {n : Nat} {M : Mm} : Gx X n M M := ⟨Nat.le_refl _, rfl, fun _ _ => ⟨rfl, rfl⟩, fun _ _ _ => ⟨rfl, rfl, rfl⟩⟩
theorem Gx.tr {X : Nat → Bool} {n : Nat} {M M1 M2 : Mm} (a : Gx X n M M1) (b : Gx X n M1 M2) : Gx X n M M2 := by
  refine ⟨Nat.le_trans a.1 b.1, b.2.1.trans a.2.1, fun h q => ?_, fun h q z => ?_⟩
  · have a1 := a.2.2.1 h q
    have b1 := b.2.2.1 h (q.elim (fun q => Or.inl (Nat.lt_of_lt_of_le q a.1)) Or.inr)
    exact ⟨b1.1.trans a1.1, b1.2.trans a1.2⟩
  · have a1 := a.2.2.2 h q z
    have b1 := b.2.2.2 h q z
    exact ⟨b1.1.trans a1.1, b1.2.1.trans a1.2.1, b1.2.2.trans a1.2.2⟩
theorem Gx.mono {X Y : Nat → Bool} {n m : Nat} {M M1 : Mm} (a : Gx X n M M1) (hm : m ≤ n) (s : ∀ h, h < m → Y h = false → X h = false) : Gx Y m M M1 := ⟨a.1, a.2.1, a.2.2.1, fun h q z => a.2.2.2 h (by omega) (s h q z)⟩
theorem Gx.sI {X : Nat → Bool} {n : Nat} {M M1 : Mm} (a : Gx X n M M1) {h k : Nat} {v : Int32} (z : h < n → X h = true) : Gx X n M (sI M1 h k v) := by
  refine ⟨a.1, a.2.1, a.2.2.1, fun q hq hz => ?_⟩
  have a1 := a.2.2.2 q hq hz
  refine ⟨?_, a1.2.1, a1.2.2⟩
  have : q ≠ h := fun e => by subst e; rw [z hq] at hz; cases hz
  exact (up2_ne this).trans a1.1
theorem Gx.sR {X : Nat → Bool} {n : Nat} {M M1 : Mm} (a : Gx X n M M1) {h k : Nat} {v : Option Nat} (z : h < n → X h = true) : Gx X n M (sR M1 h k v) := by
  refine ⟨a.1, a.2.1, a.2.2.1, fun q hq hz => ?_⟩
  have a1 := a.2.2.2 q hq hz
  refine ⟨a1.1, a1.2.1, ?_⟩
  have : q ≠ h := fun e => by subst e; rw [z hq] at hz; cases hz
  exact (up2_ne this).trans a1.2.2
theorem Gx.nw {X : Nat → Bool} {n : Nat} {M M1 : Mm} (a : Gx X n M M1) (hn : n ≤ Mn M1) (hs : Mn M1 < SB) {kd ln : Nat} : Gx X n M (nw M1 kd ln) := by
  refine ⟨Nat.le_trans a.1 (Nat.le_succ _), a.2.1, fun q hq => ?_, fun q hq hz => ?_⟩
  · have a1 := a.2.2.1 q hq
    have hne : q ≠ M1.1.1 := by
      have h1 := a.1
      have : Mn M1 = M1.1.1 := rfl
      rcases hq with h | h <;> omega
    refine ⟨?_, ?_⟩
    · show va_up _ _ _ q = _
      unfold va_up; rw [if_neg hne]; exact a1.1
    · show va_up _ _ _ q = _
      unfold va_up; rw [if_neg hne]; exact a1.2
  · have a1 := a.2.2.2 q hq hz
    have hne : q ≠ M1.1.1 := by
      have : Mn M1 = M1.1.1 := rfl
      omega
    refine ⟨?_, ?_, ?_⟩
    · exact (funext fun b => if_neg hne).trans a1.1
    · exact (funext fun b => if_neg hne).trans a1.2.1
    · exact (funext fun b => if_neg hne).trans a1.2.2
theorem Gx.mn {X : Nat → Bool} {n : Nat} {M M1 : Mm} (a : Gx X n M M1) : Mn M ≤ Mn M1 := a.1
theorem Gx.mk {X : Nat → Bool} {n : Nat} {M M1 : Mm} (a : Gx X n M M1) {h : Nat} (q : h < Mn M) : Mk M1 h = Mk M h := (a.2.2.1 h (Or.inl q)).1
theorem Gx.ml {X : Nat → Bool} {n : Nat} {M M1 : Mm} (a : Gx X n M M1) {h : Nat} (q : h < Mn M) : Ml M1 h = Ml M h := (a.2.2.1 h (Or.inl q)).2
theorem Gx.mc {X : Nat → Bool} {n : Nat} {M M1 : Mm} (a : Gx X n M M1) {h : Nat} (q : SB ≤ h) : Ml M1 h = Ml M h := (a.2.2.1 h (Or.inr q)).2
theorem Gx.mi {X : Nat → Bool} {n : Nat} {M M1 : Mm} (a : Gx X n M M1) {h : Nat} (q : h < n) (z : X h = false) : Mi M1 h = Mi M h := (a.2.2.2 h q z).1
theorem Gx.mr {X : Nat → Bool} {n : Nat} {M M1 : Mm} (a : Gx X n M M1) {h : Nat} (q : h < n) (z : X h = false) : Mr M1 h = Mr M h := (a.2.2.2 h q z).2.2
theorem Gx.mx {X : Nat → Bool} {n : Nat} {M M1 : Mm} (a : Gx X n M M1) : Mx M1 = Mx M := a.2.1
/-- nothing old changes -/
def xO (_ : Nat) : Bool := false
def x1 (a h : Nat) : Bool := h == a
def x2 (a b h : Nat) : Bool := h == a || h == b
def x3 (a b d h : Nat) : Bool := h == a || (h == b || h == d)
theorem x1_f {a h : Nat} (n : h ≠ a) : x1 a h = false := by simp [x1, n]
theorem x2_f {a b h : Nat} (n : h ≠ a) (m : h ≠ b) : x2 a b h = false := by simp [x2, n, m]
/-! THE POOL'S SIZE: no more than has been made -/
theorem SB_v : SB = 1000000000 := rfl
theorem Rw_nO {cl : Nat} {M : Mm} {c0 s0 : Nat} {Q : Nat → Mm → Nat → Nat → Prop} (h : Mn M < 1000000000) : Rw (nO cl) M c0 s0 Q ↔ Q (Mn M) (nw M cl 0) (c0 + 1) (s0 + nsl cl) := by
  have e : nO cl M = some (Mn M, nw M cl 0, 1, nsl cl) := by unfold nO; rw [if_pos (decide_eq_true (show Mn M < SB from h))]
  constructor
  · rintro ⟨a, M', c, s, e1, q⟩; rw [e] at e1; cases e1; exact q
  · intro q; exact ⟨_, _, _, _, e, q⟩
theorem Rw_nA {kd n : Nat} {M : Mm} {c0 s0 : Nat} {Q : Nat → Mm → Nat → Nat → Prop} (h : Mn M < 1000000000) (hn : n ≤ 100000) : Rw (nA kd (nI n)) M c0 s0 Q ↔ Q (Mn M) (nw M kd n) (c0 + 1) (s0 + n) := by
  have e : nA kd (nI n) M = some (Mn M, nw M kd n, 1, n) := by
    unfold nA
    rw [nI_clamp (by omega), if_pos]
    have : ¬ nI n < 0 := nI_pos (by omega)
    simp [this, hn, SB_v, h]
  constructor
  · rintro ⟨a, M', c, s, e1, q⟩; rw [e] at e1; cases e1; exact q
  · intro q; exact ⟨_, _, _, _, e, q⟩
theorem Rn_gN {h : Nat} {M : Mm} {Q : Int32 → Mm → Prop} : Rn (gN h) M Q ↔ Q (nI (Ml M h)) M := Rn_fun rfl
theorem rn_aZ {h j : Nat} {v : Int32} {M : Mm} {Q : Unit → Mm → Prop} (hj : j < 2147483648) (hv : v = nI 0 ∨ v = nI 1) : Rn (aZ h (nI j) v) M Q ↔ j < Ml M h ∧ Q () (sI M h j v) := by
  have e : vp_nar .boolean v = v := by rcases hv with h | h <;> subst h <;> decide
  have e2 : Rn (aZ h (nI j) v) M Q ↔ vpB (nI j) (Ml M h) = true ∧ Q () (sI M h (nI j).toNatClampNeg (vp_nar .boolean v)) := Rn_if rfl
  rw [e2, vpB_nI hj, nI_clamp hj, decide_eq_true_eq, e]
theorem rn_lA {h j r : Nat} {M : Mm} {Q : Nat → Mm → Prop} (hj : j < 2147483648) (hl : j < Ml M h) (e : Mr M h j = some r) : Rn (lA h (nI j)) M Q ↔ Q r M := by
  refine Rn_fun ?_
  unfold lA
  rw [vpB_nI hj, nI_clamp hj, if_pos (by simpa using hl), e]
theorem Rn_ckK {kd h : Nat} {M : Mm} {Q : Unit → Mm → Prop} (h1 : h < Mn M) (h2 : Mk M h = kd) : Rn (ckK kd h) M Q ↔ Q () M := Rn_fun (by unfold ckK; rw [if_pos (by simp [h1, h2])])
theorem Rn_ckI {h : Nat} {M : Mm} {Q : Unit → Mm → Prop} (h1 : IB ≤ h) (h2 : h < IB + 256) : Rn (ckI h) M Q ↔ Q () M := Rn_fun (by unfold ckI; rw [if_pos (by simp [h1, h2])])
theorem Rn_xI {j : Nat} {M : Mm} {Q : Int32 → Mm → Prop} (hj : j < 2147483648) (hl : j < (Mx M).1) : Rn (xI (nI j)) M Q ↔ Q ((Mx M).2 j) M := Rn_fun (by unfold xI; rw [vpB_nI hj, nI_clamp hj, if_pos (by simpa using hl)])
theorem Rn_xN {M : Mm} {Q : Int32 → Mm → Prop} : Rn xN M Q ↔ Q (nI (Mx M).1) M := Rn_fun rfl
