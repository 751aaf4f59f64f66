/-! THE LAW'S PAGE IS SENT: what it holds meanwhile -/
theorem isL.set {M : Mm} {h a : Nat} {xs : List Nat} (l : isL M h a xs) {j r : Nat} (e : xs[j]? = some r) (y : Nat) (hah : a ≠ h) : isL (sR M a j (some y)) h a (xs.set j y) := by
  obtain ⟨b0, b1, b2, b3, b4, b5, b6⟩ := l.at e
  obtain ⟨l1, l2, l3, l4, l5⟩ := l
  rcases l5 with ⟨z, -⟩ | ⟨-, d1, d2, d3, d4, d5⟩
  · exact absurd z b0
  refine ⟨l1, l2, by rw [List.length_set]; exact l3, by rw [Mr_sR, if_neg (fun z => hah z.1.symm)]; exact l4, Or.inr ⟨b0, d1, d2, by rw [List.length_set]; exact d3, by rw [List.length_set]; exact d4, fun i x hi => ?_⟩⟩
  rw [Mr_sR]
  by_cases q : i = j
  · rw [if_pos ⟨rfl, q⟩]
    rw [q, List.getElem?_set_self b5] at hi
    exact hi
  · rw [if_neg (fun z => q z.2)]
    rw [List.getElem?_set_ne (Ne.symm q)] at hi
    exact d5 i x hi
theorem lSet {M : Mm} {h a : Nat} {xs : List Nat} (l : isL M h a xs) {j r : Nat} (e : xs[j]? = some r) {y : Nat} {c s : Nat} {Q : Nat → Mm → Nat → Nat → Prop} (k : Q r (sR M a j (some y)) c s) : Rw (gJx4a65c_set_bcc79 h (nI j) y) M c s Q := by
  obtain ⟨b0, b1, b2, b3, b4, b5, b6⟩ := l.at e
  unfold gJx4a65c_set_bcc79
  rw [Rw_wb, Rn_gI, l.2.2.1, Rw_wq, lCheck b5 (by omega), Rw_wq, lElem l e, Rw_wb, Rn_gA l.2.2.2.1, Rw_grd]
  refine ⟨by simp [b0], ?_⟩
  rw [Rw_wb, rn_aA (by omega)]
  refine ⟨b3, ?_⟩
  rw [Rw_wr]; exact k
def QS (M : Mm) (N p : Nat) (P : Pg) (S : Sn) (ag x : Nat) (G : List Nat) : Prop :=
  QG M p (Pw P) (zG S) (PL P) N ag G ∧
  (Mr M p 5 = some x ∧ Mr M p 6 = some (x + 1) ∧ Mr M p 7 = some (x + 2) ∧ Mr M p 8 = some (x + 3)) ∧
  (x + 4 ≤ Mn M ∧ Ml M x = PL P ∧ Ml M (x + 1) = PL P ∧ Ml M (x + 2) = PL P ∧ Ml M (x + 3) = PL P) ∧
  (∀ l, l < PL P → Mi M x l = nI (zS S l) ∧ Mi M (x + 1) l = nI (zT S l) ∧ Mi M (x + 2) l = nI (zC S l) ∧ Mi M (x + 3) l = nI (zK S l)) ∧
  (Mi M p 9 = nI (zA S) ∧ Mi M p 10 = nI (zP S) ∧ Mi M p 11 = nI (zL S) ∧ Mi M p 12 = nI (zU S)) ∧
  (p < N ∧ N < x ∧ (ag = EB ∨ (N < ag ∧ ag < x)) ∧ ∀ y, y ∈ G → N < y ∧ (y < x ∨ x + 4 ≤ y))
theorem QS.go {M M1 : Mm} {N p : Nat} {P : Pg} {S : Sn} {ag x : Nat} {G : List Nat} (q : QS M N p P S ag x G) (g : Gx xO (Mn M) M M1) : QS M1 N p P S ag x G := by
  obtain ⟨⟨a1, a2, a3, a4⟩, ⟨b1, b2, b3, b4⟩, ⟨c1, c2, c3, c4, c5⟩, d, ⟨e1, e2, e3, e4⟩, f1, f2, f3, f4⟩ := q
  have hm := g.mn
  have hp : p < Mn M := by omega
  have i : ∀ y, y < Mn M → Mi M1 y = Mi M y := fun y hy => g.mi hy rfl
  have r : Mr M1 p = Mr M p := g.mr hp rfl
  refine ⟨⟨by rw [r]; exact a1, a2.gx g a2.1 rfl (fun z => ⟨a2.lt z, rfl⟩), a3, fun l y hy => (a4 l y hy).gx g (a4 l y hy).1 rfl⟩, ⟨by rw [r]; exact b1, by rw [r]; exact b2, by rw [r]; exact b3, by rw [r]; exact b4⟩, ⟨by omega, by rw [g.ml (by omega)]; exact c2, by rw [g.ml (by omega)]; exact c3, by rw [g.ml (by omega)]; exact c4, by rw [g.ml (by omega)]; exact c5⟩, fun l hl => ?_, ⟨by rw [i p hp]; exact e1, by rw [i p hp]; exact e2, by rw [i p hp]; exact e3, by rw [i p hp]; exact e4⟩, f1, f2, f3, f4⟩
  rw [i x (by omega), i (x + 1) (by omega), i (x + 2) (by omega), i (x + 3) (by omega)]
  exact d l hl
/-- ints are written: into the page and its four rows of numbers -/
theorem QS.up {M M1 : Mm} {N p : Nat} {P : Pg} {S S' : Sn} {ag x : Nat} {G : List Nat} (q : QS M N p P S ag x G) (h1 : M1.1 = M.1) (h2 : Mr M1 = Mr M) (hr : ∀ y, y ≠ p → (y < x ∨ x + 4 ≤ y) → Mi M1 y = Mi M y) (hx : ∀ l, l < PL P → Mi M1 x l = nI (zS S' l) ∧ Mi M1 (x + 1) l = nI (zT S' l) ∧ Mi M1 (x + 2) l = nI (zC S' l) ∧ Mi M1 (x + 3) l = nI (zK S' l)) (hp : Mi M1 p 9 = nI (zA S') ∧ Mi M1 p 10 = nI (zP S') ∧ Mi M1 p 11 = nI (zL S') ∧ Mi M1 p 12 = nI (zU S')) (hG : zG S' = zG S) : QS M1 N p P S' ag x G := by
  obtain ⟨⟨a1, a2, a3, a4⟩, ⟨b1, b2, b3, b4⟩, ⟨c1, c2, c3, c4, c5⟩, d, e, f1, f2, f3, f4⟩ := q
  have hn : Mn M1 = Mn M := by unfold Mn; rw [h1]
  have hk : Mk M1 = Mk M := by unfold Mk; rw [h1]
  have hl : Ml M1 = Ml M := by unfold Ml; rw [h1]
  refine ⟨⟨by rw [h2]; exact a1, ?_, a3, fun l y hy => ?_⟩, by rw [h2]; exact ⟨b1, b2, b3, b4⟩, by rw [hn, hl]; exact ⟨c1, c2, c3, c4, c5⟩, hx, hp, f1, f2, f3, f4⟩
  · obtain ⟨l1, l2, l3, l4, l5⟩ := a2
    refine ⟨by rw [hn]; exact l1, by rw [hk]; exact l2, by rw [hr N (by omega) (by omega)]; exact l3, by rw [h2]; exact l4, ?_⟩
    rw [hn, hk, hl, h2]; exact l5
  · obtain ⟨b1, b2, b3, b4⟩ := a4 l y hy
    obtain ⟨z1, z2⟩ := f4 y (List.mem_of_getElem? hy)
    refine ⟨by rw [hn]; exact b1, by rw [hk]; exact b2, by rw [hl]; exact b3, fun k hk => ?_⟩
    rw [hr y (by omega) z2, hG]; exact b4 k hk
/-- a row is had -/
theorem QS.got {M : Mm} {N p : Nat} {P : Pg} {S : Sn} {ag x : Nat} {G : List Nat} (q : QS M N p P S ag x G) {l y r : Nat} (hl : l < PL P) (hy : isBr M y (Pw P) r) (hy1 : N < y) (hy2 : y < x ∨ x + 4 ≤ y) {S' : Sn} (h : S' = (updN (zG S) l r, zS S, zT S, zC S, zK S, zA S, zD S, zP S, zL S, zU S)) : QS (sR M ag l (some y)) N p P S' ag x (G.set l y) := by
  obtain ⟨⟨a1, a2, a3, a4⟩, ⟨b1, b2, b3, b4⟩, c, d, e, f1, f2, f3, f4⟩ := q
  subst h
  obtain ⟨o, ho⟩ := gt_some G (show l < G.length by omega)
  have hEn : EB = 1000000500 := EB_v
  have hag : ag ≠ EB := (a2.at ho).1
  have hpa : p ≠ ag := by omega
  have rp : ∀ k, Mr (sR M ag l (some y)) p k = Mr M p k := fun k => by rw [Mr_sR, if_neg (fun z => hpa z.1)]
  refine ⟨⟨by rw [rp]; exact a1, a2.set ho y (by omega), by rw [List.length_set]; exact a3, fun i z hi => ?_⟩, ⟨by rw [rp]; exact b1, by rw [rp]; exact b2, by rw [rp]; exact b3, by rw [rp]; exact b4⟩, c, d, e, f1, f2, f3, fun z hz => ?_⟩
  · by_cases v : i = l
    · rw [v, List.getElem?_set_self (by omega)] at hi
      cases hi
      show isBr M y (Pw P) (updN (zG S) l r i)
      rw [v, updN_s]; exact hy
    · rw [List.getElem?_set_ne (Ne.symm v)] at hi
      show isBr M z (Pw P) (updN (zG S) l r i)
      rw [updN_n v]; exact a4 i z hi
  · rcases List.mem_or_eq_of_mem_set hz with w | w
    · exact f4 z w
    · subst w; exact ⟨hy1, hy2⟩
/-! what is made by one sending, at most: the walk over the lines, steps back -/
def uRd (b : Nat → Nat) (l : Nat) : Nat := uCo b l + kRd 28 (bu b l)
def vRd (b : Nat → Nat) (l : Nat) : Nat := vCo b l + sRd 27 28 (bu b l)
def uRx (b : Nat → Nat) (l : Nat) : Nat := uCo b l + kRd 28 27
def vRx (b : Nat → Nat) (l : Nat) : Nat := vCo b l + sRd 27 28 27
/-- a line in its place: all above is had as it was sent; or not -/
def uW (b : Nat → Nat) (e l : Nat) : Nat := uBi b e l + uMk b e l + (if l % e = 0 then 1 else max 1 (uRd b l))
def vW (b : Nat → Nat) (e l : Nat) : Nat := vBi b e l + vMk b e l + (if l % e = 0 then 27 else max 27 (vRd b l))
def uF (b : Nat → Nat) (e l : Nat) : Nat := uBi b e l + uMk b e l + (if l % e = 0 then 1 else max 1 (uRx b l)) + 2
def vF (b : Nat → Nat) (e l : Nat) : Nat := vBi b e l + vMk b e l + (if l % e = 0 then 27 else max 27 (vRx b l)) + 54
/-- a step back from a line -/
def uX (b : Nat → Nat) (e l : Nat) : Nat := uBi b e l + sm (uMk b e) (l + 1) + sm (uW b e) l
def vX (b : Nat → Nat) (e l : Nat) : Nat := vBi b e l + sm (vMk b e) (l + 1) + sm (vW b e) l
theorem sm_upd {f : Nat → Nat} {Y : Nat → Nat} {l n : Nat} (hl : l < n) : sm (fun j => updN f l (f l + 1) j * Y j) n = sm (fun j => f j * Y j) n + Y l := by
  have key : ∀ m, sm (fun j => updN f l (f l + 1) j * Y j) m = sm (fun j => f j * Y j) m + (if l < m then Y l else 0) := by
    intro m
    induction m with
    | zero => rfl
    | succ m ih =>
      rw [sm_s, sm_s, ih]
      by_cases e : m = l
      · subst e
        rw [updN_s, if_neg (Nat.lt_irrefl _), if_pos (Nat.lt_succ_self _), Nat.succ_mul]; omega
      · rw [updN_n e]
        by_cases h : l < m
        · rw [if_pos h, if_pos (by omega)]; omega
        · rw [if_neg h, if_neg (by omega)]; omega
  rw [key n, if_pos hl]
theorem sm_mono {f : Nat → Nat} {a b : Nat} (h : a ≤ b) : sm f a ≤ sm f b := by
  induction b with
  | zero => have : a = 0 := by omega
            subst this; exact Nat.le_refl _
  | succ b ih =>
    by_cases q : a = b + 1
    · subst q; exact Nat.le_refl _
    · have := ih (by omega)
      rw [sm_s]; omega
theorem sm_lef {f g : Nat → Nat} (h : ∀ i, f i ≤ g i) (n : Nat) : sm f n ≤ sm g n := by
  induction n with
  | zero => exact Nat.le_refl _
  | succ n ih => rw [sm_s, sm_s]; have := h n; omega
theorem uW_F (b : Nat → Nat) (e l : Nat) : uW b e l ≤ uF b e l := by
  unfold uW uF uRd uRx kRd
  have : cpC (bu b l) ≤ cpC 27 := by have := cpC_le (bu b l); exact this
  split <;> omega
