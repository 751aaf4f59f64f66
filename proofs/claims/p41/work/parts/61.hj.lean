/-! THE CLASS: which slot holds which page -/
def owR (M : Mm) (i : Nat) : Option Nat := if i < 10 then Mr M 6 i else Mr M 7 (i - 10)
def CD (B : Nat × Nat) (M : Mm) : Prop := ∃ m, B.1 ≤ Mn M ∧ 38 ≤ B.1 ∧ Mn M + 4 * (12 - m) ≤ min B.2 900000000 ∧ m = cn (fun i => (owR M i).isSome) 12 ∧ (∀ i p, i < 12 → owR M i = some p → B.1 ≤ p ∧ p + 4 ≤ Mn M ∧ PgO M p) ∧ ∀ i j p q, i < 12 → j < 12 → owR M i = some p → owR M j = some q → i ≠ j → p + 3 < q ∨ q + 3 < p
def isHi (M : Mm) (U : List Pg) : Prop := ∃ n, n < 10 ∧ Mi M 5 1 = nI n ∧ Mi M 5 0 = nI U.length ∧ U.length ≤ 10 ∧ ∀ i Q, U[i]? = some Q → ∃ p, owR M ((n + 10 - U.length + i) % 10) = some p ∧ isPgC M p Q ∧ wfP Q
def isSa1 (M : Mm) (r : Option Nat) : Option Pg → Prop
  | none => r = none
  | some Q => ∃ p, r = some p ∧ isPgC M p Q ∧ wfP Q
def isSa (M : Mm) (V : Nat → Option Pg) : Prop := ∀ j, j < 2 → isSa1 M (owR M (10 + j)) (V j)
def CPg (B : Nat × Nat) (M : Mm) (P : Pg) (U : List Pg) (V : Nat → Option Pg) : Prop := CO M ∧ isPgC M 1 P ∧ wfP P ∧ CD B M ∧ isHi M U ∧ isSa M V
def xEc (B : Nat × Nat) (a _ : Nat) : Bool := (decide (1 ≤ a) && decide (a ≤ 7)) || decide (B.1 ≤ a)
theorem CD.b {B : Nat × Nat} {M : Mm} (h : CD B M) : B.1 ≤ Mn M ∧ (Mn M + 4 < SB ∧ 38 ≤ B.1) := by
  obtain ⟨m, h1, h2, h3, _⟩ := h
  unfold SB; omega
theorem CD.pg {B : Nat × Nat} {M : Mm} (h : CD B M) {i p : Nat} (hi : i < 12) (e : owR M i = some p) : B.1 ≤ p ∧ p + 4 ≤ Mn M ∧ PgO M p := by
  obtain ⟨m, _, _, _, _, h3, _⟩ := h
  exact h3 i p hi e
theorem CD.dj {B : Nat × Nat} {M : Mm} (h : CD B M) {i j p q : Nat} (hi : i < 12) (hj : j < 12) (e : owR M i = some p) (e' : owR M j = some q) (n : i ≠ j) : p + 3 < q ∨ q + 3 < p := by
  obtain ⟨m, _, _, _, _, _, h4⟩ := h
  exact h4 i j p q hi hj e e' n
theorem cn_lt_of {p : Nat → Bool} {w i : Nat} (hi : i < w) (h : p i = false) : cn p w < w := by
  induction w with
  | zero => omega
  | succ w ih =>
    rw [cn_s]
    have b1 := cn_le p w
    by_cases g : i = w
    · subst g; rw [h]; show cn p i + bN false < i + 1; rw [show bN false = 0 from rfl]; omega
    · have := ih (by omega)
      have b2 : bN (p w) ≤ 1 := bN_le _
      omega
theorem owR_mr {M M' : Mm} (h6 : Mr M' 6 = Mr M 6) (h7 : Mr M' 7 = Mr M 7) (i : Nat) : owR M' i = owR M i := by unfold owR; rw [h6, h7]
/-- only cells change -/
theorem CD.xf {B : Nat × Nat} {X : Nat → Nat → Bool} {M M' : Mm} (h : CD B M) (x : XF X M M') : CD B M' := by
  obtain ⟨m, h1, h1b, h1c, h2, h3, h4⟩ := h
  have e : owR M' = owR M := funext (owR_mr (by rw [x.mr]) (by rw [x.mr]))
  refine ⟨m, by rw [x.mn]; exact h1, h1b, by rw [x.mn]; exact h1c, by rw [e]; exact h2, fun i p hi hp => ?_, by rw [e]; exact h4⟩
  rw [e] at hp
  obtain ⟨a, c, d⟩ := h3 i p hi hp
  exact ⟨a, by rw [x.mn]; exact c, d.xf x⟩
theorem isHi.xf {B : Nat × Nat} {X : Nat → Nat → Bool} {M M' : Mm} {U : List Pg} (hd : CD B M) (h : isHi M U) (x : XF X M M') (q : ∀ a b, a = 5 ∨ B.1 ≤ a → X a b = false) : isHi M' U := by
  obtain ⟨n, h1, h2, h3, h4, h5⟩ := h
  have e : owR M' = owR M := funext (owR_mr (by rw [x.mr]) (by rw [x.mr]))
  refine ⟨n, h1, by rw [x.mi (q _ _ (Or.inl rfl))]; exact h2, by rw [x.mi (q _ _ (Or.inl rfl))]; exact h3, h4, fun i Q hQ => ?_⟩
  obtain ⟨p, p1, p2, p3⟩ := h5 i Q hQ
  have := hd.pg (Nat.lt_of_lt_of_le (Nat.mod_lt _ (by decide)) (by decide)) p1
  exact ⟨p, by rw [e]; exact p1, p2.xf x (fun a b z => q a b (Or.inr (by unfold xPgH at z; simp at z; omega))), p3⟩
theorem isSa.xf {B : Nat × Nat} {X : Nat → Nat → Bool} {M M' : Mm} {V : Nat → Option Pg} (hd : CD B M) (h : isSa M V) (x : XF X M M') (q : ∀ a b, B.1 ≤ a → X a b = false) : isSa M' V := by
  have e : owR M' = owR M := funext (owR_mr (by rw [x.mr]) (by rw [x.mr]))
  intro j hj
  have := h j hj
  rw [e]
  revert this
  cases V j with
  | none => exact id
  | some Q =>
    rintro ⟨p, p1, p2, p3⟩
    have := hd.pg (by omega) p1
    exact ⟨p, p1, p2.xf x (fun a b z => q a b (by unfold xPgH at z; simp at z; omega)), p3⟩
/-- an empty slot gets a page of its own -/
theorem cNewAt {B : Nat × Nat} {M : Mm} {P : Pg} {U : List Pg} {V : Nat → Option Pg} (h : CPg B M P U V) {i a k : Nat} (hi : i < 12) (ha : (a = 6 ∧ k = i ∧ i < 10) ∨ (a = 7 ∧ k = i - 10 ∧ 10 ≤ i)) (he : owR M i = none) {M1 : Mm} (n1 : XN M M1) (n2 : Mn M1 = Mn M + 4) (n3 : PgO M1 (Mn M)) : XG (xEc B) M (sR M1 a k (some (Mn M))) ∧ CO (sR M1 a k (some (Mn M))) ∧ isPgC (sR M1 a k (some (Mn M))) 1 P ∧ CD B (sR M1 a k (some (Mn M))) ∧ isHi (sR M1 a k (some (Mn M))) U ∧ (∀ j, j < 2 → 10 + j ≠ i → isSa1 (sR M1 a k (some (Mn M))) (owR (sR M1 a k (some (Mn M))) (10 + j)) (V j)) ∧ owR (sR M1 a k (some (Mn M))) i = some (Mn M) := by
  obtain ⟨c1, c2, c3, c4, c5, c6⟩ := h
  have hB9 := c4.b
  obtain ⟨b1, b2⟩ := c4.b
  have x : XG (xEc B) M (sR M1 a k (some (Mn M))) := (n1.xg).sR (by omega)
  generalize hM2 : sR M1 a k (some (Mn M)) = M2 at x
  have mn : Mn M2 = Mn M + 4 := by rw [← hM2]; exact n2
  have ow : ∀ j, j < 12 → owR M2 j = if j = i then some (Mn M) else owR M j := by
    intro j hj
    rw [← hM2]
    unfold owR
    by_cases g : j < 10
    · rw [if_pos g, Mr_sR, (n1.2 6 (by omega)).2.2.2]
      by_cases g1 : j = i
      · rw [if_pos (by omega), if_pos g1]
      · rw [if_neg (by omega), if_neg g1, if_pos g]
    · rw [if_neg g, Mr_sR, (n1.2 7 (by omega)).2.2.2]
      by_cases g1 : j = i
      · rw [if_pos (by omega), if_pos g1]
      · rw [if_neg (by omega), if_neg g1, if_neg g]
  have mi : ∀ b, b < Mn M → Mi M2 b = Mi M b ∧ Mj M2 b = Mj M b := fun b hb => by rw [← hM2]; exact ⟨(n1.2 b hb).2.1, (n1.2 b hb).2.2.1⟩
  have pg : ∀ p Q, p + 4 ≤ Mn M → isPgC M p Q → isPgC M2 p Q := by
    rintro p Q hp ⟨h1, h2, h3, h4, h5⟩
    exact ⟨by rw [(mi p (by omega)).1]; exact h1, by rw [(mi p (by omega)).1]; exact h2, fun l hl => by rw [(mi _ (by omega)).2]; exact h3 l hl, fun l hl => by rw [(mi _ (by omega)).1]; exact h4 l hl, fun l hl => by rw [(mi _ (by omega)).1]; exact h5 l hl⟩
  refine ⟨x, c1.xg (by omega) x, pg 1 P (by omega) c2, ?_, ?_, ?_, by rw [ow i hi, if_pos rfl]⟩
  · obtain ⟨m, h1, h1b, h1c, h2, h3, h4⟩ := c4
    have hm12 : m < 12 := by
      rw [h2]
      exact cn_lt_of (p := fun i => (owR M i).isSome) hi (by show (owR M i).isSome = false; rw [he]; rfl)
    refine ⟨m + 1, by omega, h1b, by omega, ?_, fun j p hj hp => ?_, fun j j' p p' hj hj' hp hp' hne => ?_⟩
    · rw [h2]
      have key : ∀ t, t ≤ 12 → cn (fun j => (owR M2 j).isSome) t = cn (fun j => (owR M j).isSome) t + (if i < t then 1 else 0) := by
        intro t
        induction t with
        | zero => intro _; rw [if_neg (by omega)]; rfl
        | succ t ih =>
          intro ht
          rw [cn_s, cn_s, ih (by omega), ow t (by omega)]
          by_cases g : t = i
          · subst g
            rw [if_pos rfl, he, if_neg (by omega), if_pos (by omega)]; rfl
          · rw [if_neg g]
            by_cases g1 : i < t
            · rw [if_pos g1, if_pos (by omega)]; omega
            · rw [if_neg g1, if_neg (by omega)]; omega
      rw [key 12 (by omega), if_pos hi]
    · rw [ow j hj] at hp
      by_cases g : j = i
      · rw [if_pos g] at hp
        cases hp
        refine ⟨b1, by omega, ?_⟩
        rw [← hM2]
        obtain ⟨o1, o2, o3, o4, o5, o6⟩ := n3
        exact ⟨by rw [Mr_sR, if_neg (by omega)]; exact o1, by rw [Mr_sR, if_neg (by omega)]; exact o2, by rw [Mr_sR, if_neg (by omega)]; exact o3, o4, o5, o6⟩
      · rw [if_neg g] at hp
        obtain ⟨q1, q3, q4⟩ := h3 j p hj hp
        exact ⟨q1, by omega, q4.xg q3 (Or.inr (by omega)) x⟩
    · rw [ow j hj] at hp
      rw [ow j' hj'] at hp'
      by_cases g : j = i
      · rw [if_pos g] at hp
        rw [if_neg (by omega)] at hp'
        cases hp
        have := (h3 j' _ hj' hp').2.1
        omega
      · rw [if_neg g] at hp
        by_cases g' : j' = i
        · rw [if_pos g'] at hp'
          cases hp'
          have := (h3 j _ hj hp).2.1
          omega
        · rw [if_neg g'] at hp'
          exact h4 j j' p p' hj hj' hp hp' hne
  · obtain ⟨n, h1, h2, h3, h4, h5⟩ := c5
    refine ⟨n, h1, by rw [(mi 5 (by omega)).1]; exact h2, by rw [(mi 5 (by omega)).1]; exact h3, h4, fun j Q hQ => ?_⟩
    obtain ⟨p, p1, p2, p3⟩ := h5 j Q hQ
    have hs : (n + 10 - U.length + j) % 10 < 12 := Nat.lt_of_lt_of_le (Nat.mod_lt _ (by decide)) (by decide)
    have := c4.pg hs p1
    refine ⟨p, ?_, pg p Q this.2.1 p2, p3⟩
    rw [ow _ hs, if_neg]
    · exact p1
    · intro z; rw [z, he] at p1; cases p1
  · intro j hj hne
    have := c6 j hj
    rw [ow _ (by omega), if_neg hne]
    revert this
    cases V j with
    | none => exact id
    | some Q =>
      rintro ⟨p, p1, p2, p3⟩
      exact ⟨p, p1, pg p Q (c4.pg (by omega) p1).2.1 p2, p3⟩

