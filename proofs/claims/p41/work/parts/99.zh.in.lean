/-! THE START: what the constructors leave, by the kernel; the script takes no part in it -/
def stX (X : Nat × (Nat → Int32)) (M : Mm) : Mm := ((M.1.1, M.1.2.1, M.1.2.2.1, X), M.2)
def Cm {α : Type} (F : Mm → Option (α × Mm)) : Prop := ∀ X M, F (stX X M) = (F M).map (fun q => (q.1, stX X q.2))
theorem Cm_bnd {α β : Type} {m : Mm → Option (α × Mm)} {k : α → Mm → Option (β × Mm)} (h : Cm m) (hk : ∀ a, Cm (k a)) : Cm (bnd m k) := by
  intro X M
  unfold bnd
  rw [h X M]
  cases m M with
  | none => rfl
  | some q => exact hk q.1 X q.2
theorem Cm_rtn {α : Type} (a : α) : Cm (rtn a) := fun _ _ => rfl
theorem Cm_fail {α : Type} : Cm (fail : Mm → Option (α × Mm)) := fun _ _ => rfl
theorem Cm_nwO (c : Nat) : Cm (nwO c) := by
  intro X M
  show (if _ then _ else _) = Option.map _ (if _ then _ else _)
  by_cases h : decide (Mn M < SB) = true
  · rw [if_pos h, if_pos (show decide (Mn (stX X M) < SB) = true from h)]; rfl
  · rw [if_neg h, if_neg (show ¬ decide (Mn (stX X M) < SB) = true from h)]; rfl
theorem Cm_nwA (c n : Nat) : Cm (nwA c n) := by
  intro X M
  show (if _ then _ else _) = Option.map _ (if _ then _ else _)
  by_cases h : decide (Mn M < SB) = true
  · rw [if_pos h, if_pos (show decide (Mn (stX X M) < SB) = true from h)]; rfl
  · rw [if_neg h, if_neg (show ¬ decide (Mn (stX X M) < SB) = true from h)]; rfl
theorem Cm_pA (h k a : Nat) : Cm (pA h k a) := fun _ _ => rfl
theorem Cm_pI (h k : Nat) (v : Int32) : Cm (pI h k v) := fun _ _ => rfl
theorem Cm_gA (h k : Nat) : Cm (gA h k) := by
  intro X M
  unfold gA
  show (match Mr M h k with | some r => _ | none => _) = _
  cases Mr M h k <;> rfl
theorem Cm_tS (j : Nat) (i : Int32) : Cm (tS j i) := by
  intro X M
  unfold tS
  split <;> rfl
theorem Cm_aI (h : Nat) (i v : Int32) : Cm (aI h i v) := by
  intro X M
  unfold aI
  show (if vpB i (Ml M h) = true then _ else _) = _
  split <;> rfl
theorem Cm_if {α : Type} {c : Prop} [Decidable c] {F G : Mm → Option (α × Mm)} (h1 : Cm F) (h2 : Cm G) : Cm (if c then F else G) := by
  split
  · exact h1
  · exact h2
theorem Cm_i4 (x : Nat) : Cm (fX4_init x) := Cm_rtn _
theorem Cm_i2L : ∀ (n x : Nat) (v : Int32), Cm (fX2_init_L41 n x v) := by
  intro n
  induction n with
  | zero => intro x v; exact Cm_fail
  | succ n ih =>
    intro x v
    unfold fX2_init_L41
    exact Cm_if (Cm_rtn _) (Cm_bnd (Cm_gA _ _) (fun _ => Cm_bnd (Cm_tS _ _) (fun _ => Cm_bnd (Cm_aI _ _ _) (fun _ => ih _ _))))
theorem Cm_i2 (x : Nat) : Cm (fX2_init x) := by
  unfold fX2_init
  repeat' first | exact Cm_i2L _ _ _ | exact Cm_rtn _ | exact Cm_nwA _ _ | exact Cm_nwO _ | exact Cm_pA _ _ _ | exact Cm_pI _ _ _ | exact Cm_gA _ _ | refine Cm_bnd ?_ (fun _ => ?_)
theorem Cm_i6 (x : Nat) : Cm (fX6_init x) := by
  unfold fX6_init
  repeat' first | exact Cm_rtn _ | exact Cm_nwA _ _ | exact Cm_nwO _ | exact Cm_pA _ _ _ | exact Cm_pI _ _ _ | exact Cm_gA _ _ | refine Cm_bnd ?_ (fun _ => ?_)
theorem Cm_i1 (x : Nat) : Cm (fX1_init x) := by
  unfold fX1_init
  repeat' first | exact Cm_rtn _ | exact Cm_nwA _ _ | exact Cm_nwO _ | exact Cm_pA _ _ _ | exact Cm_pI _ _ _ | exact Cm_gA _ _ | refine Cm_bnd ?_ (fun _ => ?_)
theorem Cm_i0 (x : Nat) : Cm (fX0_init x) := by
  unfold fX0_init
  repeat' first | exact Cm_i4 _ | exact Cm_rtn _ | exact Cm_nwA _ _ | exact Cm_nwO _ | exact Cm_pA _ _ _ | exact Cm_pI _ _ _ | exact Cm_gA _ _ | refine Cm_bnd ?_ (fun _ => ?_)
theorem Cm_i3 (x : Nat) : Cm (fX3_init x) := by
  unfold fX3_init
  repeat' first | exact Cm_i6 _ | exact Cm_i2 _ | exact Cm_i4 _ | exact Cm_rtn _ | exact Cm_nwA _ _ | exact Cm_nwO _ | exact Cm_pA _ _ _ | exact Cm_pI _ _ _ | exact Cm_gA _ _ | refine Cm_bnd ?_ (fun _ => ?_)
theorem Cm_i5 (x : Nat) : Cm (fX5_init x) := by
  unfold fX5_init
  repeat' first | exact Cm_i0 _ | exact Cm_i4 _ | exact Cm_rtn _ | exact Cm_nwA _ _ | exact Cm_nwO _ | exact Cm_pA _ _ _ | exact Cm_pI _ _ _ | exact Cm_gA _ _ | refine Cm_bnd ?_ (fun _ => ?_)
theorem Cm_i7 (x : Nat) : Cm (fX7_init x) := by
  unfold fX7_init
  repeat' first | exact Cm_i2 _ | exact Cm_i1 _ | exact Cm_i3 _ | exact Cm_i0 _ | exact Cm_i5 _ | exact Cm_rtn _ | exact Cm_nwA _ _ | exact Cm_nwO _ | exact Cm_pA _ _ _ | exact Cm_pI _ _ _ | exact Cm_gA _ _ | refine Cm_bnd ?_ (fun _ => ?_)
def E0 : Mm := ((0, fun _ => 0, fun _ => 0, (0, fun _ => 0)), fun _ _ => 0, fun _ _ => 0, fun _ _ => none)
def begP : Mm → Option (Unit × Mm) := bnd (nwO 55) fun t => bnd (pA t 0 (SB + 400)) fun _ => bnd (nwO 7) fun o => fX7_init o
theorem Cm_begP : Cm begP := Cm_bnd (Cm_nwO _) (fun _ => Cm_bnd (Cm_pA _ _ _) (fun _ => Cm_bnd (Cm_nwO _) (fun _ => Cm_i7 _)))
/-- what the constructors leave, renumbered, cell by cell -/
def begB (M : Mm) : Bool :=
  (Mn M == 39) && coR.all (fun q => Mr M q.1 q.2.1 == some q.2.2) && coL.all (fun q => Ml M q.1 == q.2) &&
  (Mi M 1 0 == 16) && (Mi M 1 1 == 0) && (List.range 20).all (fun l => Mi M 3 l == 0) && (List.range 6).all (fun k => Mi M 4 k == nI ([4, 0, 0, 0, 8, 16].getD k 0)) &&
  (Mi M 5 0 == 0) && (Mi M 5 1 == 0) && (List.range 12).all (fun i => owR M i == none) &&
  (Mi M 9 0 == 0) && (Mr M 38 0 == some (SB + 400)) && (Mi M 38 1 == 0) && (Ml M EB == 0)
def begC : Bool := match begP E0 with
  | some (_, M) => (Mn M == 39) && begB (perm M)
  | none => false
theorem begC_t : begC = true := by decide +kernel
