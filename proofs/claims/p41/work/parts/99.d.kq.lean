/-! THE CLASS'S THINGS BESIDE THE LAW'S -/
def xK (q : Nat) : Bool := decide (q < 38)
theorem xK_f {q : Nat} (h : 38 ≤ q) : xK q = false := by unfold xK; simp; exact h
theorem XF.gk {X : Nat → Nat → Bool} {M M' : Mm} (x : XF X M M') (hX : ∀ a b, 38 ≤ a → X a b = false) (n : Nat) : Gx xK n M M' := by
  obtain ⟨x1, x2, x3, x4⟩ := x
  have hn : Mn M' = Mn M := by unfold Mn; rw [x1]
  refine ⟨by rw [hn]; exact Nat.le_refl _, by unfold Mx; rw [x1], fun h _ => ⟨by unfold Mk; rw [x1], by unfold Ml; rw [x1]⟩, fun h _ hz => ?_⟩
  have h38 : 38 ≤ h := by unfold xK at hz; simpa using hz
  exact ⟨funext fun k => x3 h k (hX h k h38), funext fun k => x4 h k (hX h k h38), by rw [x2]⟩
theorem xCo_K : ∀ a b, 38 ≤ a → xCo 16 a b = false := fun a b h => by unfold xCo; simp; omega
theorem xSd_K : ∀ a b, 38 ≤ a → xSd a b = false := fun a b h => by unfold xSd; simp; omega
/-- what the class's questions need -/
abbrev Hq : Type := Nat × Nat × (Nat → Option Nat) × (Nat → Option Nat)
def KQ (M : Mm) (P : Pg) (nU : Hq) : Prop := CO M ∧ isPgC M 1 P ∧ wfP P ∧ (Mi M 5 0 = nI nU.1 ∧ Mi M 5 1 = nI nU.2.1 ∧ Mr M 6 = nU.2.2.1 ∧ Mr M 7 = nU.2.2.2) ∧ 38 ≤ Mn M
theorem KQ.gx {M M' : Mm} {P : Pg} {nU : Hq} (k : KQ M P nU) {X : Nat → Bool} {n : Nat} (x : Gx X n M M') (hn : 38 ≤ n) (hX : ∀ q, q < 38 → X q = false) : KQ M' P nU := by
  obtain ⟨k1, ⟨h1, h2, h3, h4, h5⟩, k3, ⟨k4, k4b, k4c, k4d⟩, k5⟩ := k
  have i : ∀ q, q < 38 → Mi M' q = Mi M q := fun q hq => x.mi (by omega) (hX q hq)
  have j : ∀ q, q < 38 → Mj M' q = Mj M q := fun q hq => (x.2.2.2 q (by omega) (hX q hq)).2.1
  have r : ∀ q, q < 38 → Mr M' q = Mr M q := fun q hq => x.mr (by omega) (hX q hq)
  have a1 : ∀ q ∈ coR, q.1 < 38 := by decide
  have a2 : ∀ q ∈ coL, q.1 < 38 := by decide
  refine ⟨⟨fun i q hq => ?_, fun i q hq => ?_⟩, ⟨by rw [i 1 (by omega)]; exact h1, by rw [i 1 (by omega)]; exact h2, fun l hl => by rw [j 2 (by omega)]; exact h3 l hl, fun l hl => by rw [i 3 (by omega)]; exact h4 l hl, fun l hl => by rw [i 4 (by omega)]; exact h5 l hl⟩, k3, ⟨by rw [i 5 (by omega)]; exact k4, by rw [i 5 (by omega)]; exact k4b, by rw [r 6 (by omega)]; exact k4c, by rw [r 7 (by omega)]; exact k4d⟩, by have := x.mn; omega⟩
  · rw [r q.1 (a1 q (List.mem_of_getElem? hq))]; exact k1.1 i q hq
  · rw [x.ml (by have := a2 q (List.mem_of_getElem? hq); omega)]; exact k1.2 i q hq
theorem KQ.xf {M M' : Mm} {P : Pg} {nU : Hq} (k : KQ M P nU) {X : Nat → Nat → Bool} (x : XF X M M') (hX : ∀ a b, a ≤ 5 → X a b = false) : KQ M' P nU := by
  obtain ⟨k1, k2, k3, ⟨k4, k4b, k4c, k4d⟩, k5⟩ := k
  exact ⟨k1.xf x, k2.xf x (fun a b z => hX a b (by unfold xPgH at z; simp at z; omega)), k3, ⟨by rw [x.mi (hX 5 0 (by omega))]; exact k4, by rw [x.mi (hX 5 1 (by omega))]; exact k4b, by rw [x.mr]; exact k4c, by rw [x.mr]; exact k4d⟩, by rw [x.mn]; exact k5⟩
/-- a question to the class -/
theorem kAsk {X : Nat → Nat → Bool} {M : Mm} {P : Pg} {nU : Hq} {kc ks c s : Nat} (k : KQ M P nU) (hX : ∀ a b, (a ≤ 5 ∨ 38 ≤ a) → X a b = false) {F : Mm → Option ((Nat ⊕ Int32) × Mm)} {v : Int32} {r : Rs} {a b : Nat} (h : Rn F M (fun x M' => x = xc a b r ∧ XF X M M')) (hr : r = .inr v) {Q : Int32 → Mm → Nat → Nat → Prop} (kk : ∀ M', KQ M' P nU → Gx xK (Mn M) M M' → Mn M' = Mn M → Q v M' (c + kc) (s + ks)) : Rw (wcx kc ks F) M c s Q := by
  refine Rw_cx (h.mono ?_)
  rintro x M' ⟨rfl, x⟩
  subst hr
  exact ⟨v, rfl, kk M' (k.xf x (fun a b z => hX a b (Or.inl z))) (x.gk (fun a b z => hX a b (Or.inr z)) _) x.mn⟩
theorem kAsk0 {X : Nat → Nat → Bool} {M : Mm} {P : Pg} {nU : Hq} {kc ks c s : Nat} (k : KQ M P nU) (hX : ∀ a b, (a ≤ 5 ∨ 38 ≤ a) → X a b = false) {F : Mm → Option (Int32 × Mm)} {v : Int32} (h : Rn F M (fun x M' => x = v ∧ XF X M M')) {Q : Int32 → Mm → Nat → Nat → Prop} (kk : ∀ M', KQ M' P nU → Gx xK (Mn M) M M' → Mn M' = Mn M → Q v M' (c + kc) (s + ks)) : Rw (wcc kc ks F) M c s Q := by
  rw [Rw_cc]
  refine h.mono ?_
  rintro x M' ⟨rfl, x⟩
  exact kk M' (k.xf x (fun a b z => hX a b (Or.inl z))) (x.gk (fun a b z => hX a b (Or.inr z)) _) x.mn
theorem xCo_Q : ∀ a b, (a ≤ 5 ∨ 38 ≤ a) → xCo 16 a b = false := fun a b h => by unfold xCo; simp; omega
theorem xSd_Q : ∀ a b, (a ≤ 5 ∨ 38 ≤ a) → xSd a b = false := fun a b h => by unfold xSd; simp; omega
/-- the law's page lies behind the class's things -/
def QL (p hs hl h a : Nat) (R : List Nat) : Prop := 38 ≤ p ∧ 38 ≤ hs ∧ 38 ≤ hl ∧ 38 ≤ h ∧ (a = EB ∨ 38 ≤ a) ∧ ∀ y, y ∈ R → 38 ≤ y
theorem QP.gk {M M1 : Mm} {p : Nat} {P : Pg} {lo : Nat → Nat} {hs hl h a : Nat} {R : List Nat} (L : QP M p P lo hs hl h a R) (q : QL p hs hl h a R) (x : Gx xK (Mn M) M M1) : QP M1 p P lo hs hl h a R := by
  obtain ⟨⟨a1, a2, a3, a4, a5⟩, ⟨b1, b2, b3⟩, ⟨c1, c2, c3⟩, ⟨d1, d2, d3⟩, e1, e2, e3, e4, e5⟩ := L
  obtain ⟨q1, q2, q3, q4, q5, q6⟩ := q
  have hm := x.mn
  have hEn : EB = 1000000500 := EB_v
  refine ⟨⟨by omega, by rw [x.mi a1 (xK_f q1)]; exact a2, by rw [x.mr a1 (xK_f q1)]; exact a3, by rw [x.mr a1 (xK_f q1)]; exact a4, by rw [x.mr a1 (xK_f q1)]; exact a5⟩, ⟨by omega, by rw [x.ml b1]; exact b2, fun k hk => by rw [x.mi b1 (xK_f q2)]; exact b3 k hk⟩, ⟨by omega, by rw [x.ml c1]; exact c2, fun k hk => by rw [x.mi c1 (xK_f q3)]; exact c3 k hk⟩, ⟨d1.gx x d1.1 (xK_f q4) (fun z => ⟨d1.lt z, xK_f (q5.resolve_left z)⟩), d2, fun l y hy => ?_⟩, e1, e2, e3, e4, e5⟩
  have := d3 l y hy
  exact this.gx x this.1 (xK_f (q6 y (List.mem_of_getElem? hy)))
theorem QS.gk {M M1 : Mm} {N p : Nat} {P : Pg} {S : Sn} {ag x : Nat} {G : List Nat} (q : QS M N p P S ag x G) (hp : 38 ≤ p) (g : Gx xK (Mn M) M M1) : QS M1 N p P S ag x G := by
  obtain ⟨⟨a1, a2, a3, a4⟩, ⟨b1, b2, b3, b4⟩, ⟨c1, c2, c3, c4, c5⟩, d, ⟨e1, e2, e3, e4⟩, f1, f2, f3, f4⟩ := q
  have hm := g.mn
  have hpM : p < Mn M := by omega
  have i : ∀ y, y < Mn M → 38 ≤ y → Mi M1 y = Mi M y := fun y hy z => g.mi hy (xK_f z)
  have r : Mr M1 p = Mr M p := g.mr hpM (xK_f hp)
  refine ⟨⟨by rw [r]; exact a1, a2.gx g a2.1 (xK_f (by omega)) (fun z => ⟨a2.lt z, xK_f (by have := f3.resolve_left z; omega)⟩), a3, fun l y hy => ?_⟩, ⟨by rw [r]; exact b1, by rw [r]; exact b2, by rw [r]; exact b3, by rw [r]; exact b4⟩, ⟨by omega, by rw [g.ml (by omega)]; exact c2, by rw [g.ml (by omega)]; exact c3, by rw [g.ml (by omega)]; exact c4, by rw [g.ml (by omega)]; exact c5⟩, fun l hl => ?_, ⟨by rw [i p hpM hp]; exact e1, by rw [i p hpM hp]; exact e2, by rw [i p hpM hp]; exact e3, by rw [i p hpM hp]; exact e4⟩, f1, f2, f3, f4⟩
  · have := f4 y (List.mem_of_getElem? hy)
    exact (a4 l y hy).gx g (a4 l y hy).1 (xK_f (by omega))
  · rw [i x (by omega) (by omega), i (x + 1) (by omega) (by omega), i (x + 2) (by omega) (by omega), i (x + 3) (by omega) (by omega)]
    exact d l hl
/-- all sendings: the lines' together -/
theorem zT_sum {P : Pg} (lo : Nat → Nat) : ∀ n s l, l ≤ PL P → sm (zT s) (PL P) = zD s → sm (zT (sndN P lo n s l)) (PL P) = zD (sndN P lo n s l) := by
  have up : ∀ (f : Nat → Nat) (l n : Nat), l < n → sm (updN f l (f l + 1)) n = sm f n + 1 := by
    intro f l n hl
    have := sm_upd (f := f) (Y := fun _ => 1) hl
    simpa using this
  intro n
  induction n with
  | zero => intro s l _ h; exact h
  | succ n ih =>
    intro s l hl h
    unfold sndN
    by_cases z : l < PL P
    · rw [if_pos z]
      have e := up (zT s) l (PL P) z
      unfold snd1
      have hf : ∀ how, sm (zT (zFail P l how (zPut P l s)).1) (PL P) = zD (zFail P l how (zPut P l s)).1 ∧ (zFail P l how (zPut P l s)).2 ≤ PL P := by
        intro how
        unfold zFail
        split
        · exact ⟨by show sm (updN (zT s) l (zT s l + 1)) (PL P) = zD s + 1; omega, by have := mkU_le P l; show mkU P l ≤ PL P; omega⟩
        · exact ⟨by show sm (updN (zT s) l (zT s l + 1)) (PL P) = zD s + 1; omega, by show l + 1 ≤ PL P; omega⟩
      split
      · exact ih _ _ (hf 1).2 (hf 1).1
      · split
        · exact ih _ _ (by show l + 1 ≤ PL P; omega) (by show sm (updN (zT s) l (zT s l + 1)) (PL P) = zD s + 1; omega)
        · exact ih _ _ (hf 2).2 (hf 2).1
    · rw [if_neg z]; exact h
