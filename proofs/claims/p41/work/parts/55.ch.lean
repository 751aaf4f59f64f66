/-! THE CLASS: changes and runs of a row -/
theorem cn_flat {p : Nat → Bool} {a b : Nat} (h : a ≤ b) (h2 : ∀ k, a ≤ k → k < b → p k = false) : cn p b = cn p a := by
  induction b with
  | zero => rw [show a = 0 by omega]
  | succ b ih =>
    by_cases g : a = b + 1
    · rw [g]
    · rw [cn_s, ih (by omega) (fun k h1 h3 => h2 k h1 (by omega)), h2 b (by omega) (by omega)]; rfl
theorem cn_mono {p : Nat → Bool} {a b : Nat} (h : a ≤ b) : cn p a ≤ cn p b := by
  induction b with
  | zero => rw [show a = 0 by omega]; exact Nat.le_refl _
  | succ b ih =>
    by_cases g : a = b + 1
    · rw [g]; exact Nat.le_refl _
    · rw [cn_s]; exact Nat.le_trans (ih (by omega)) (Nat.le_add_right _ _)
theorem cn_t {p : Nat → Bool} {k : Nat} (h : p k = true) : cn p (k + 1) = cn p k + 1 := by rw [cn_s, h]; rfl
/-- the parity of the changes up to a dot is its colour -/
theorem cn_par (r : Nat) : ∀ k, r.testBit k = decide (cn (fun k => chg r k) (k + 1) % 2 = 1) := by
  intro k
  induction k with
  | zero =>
    rw [cn_s]
    show _ = decide ((0 + bN (chg r 0)) % 2 = 1)
    unfold chg
    cases r.testBit 0 <;> decide
  | succ k ih =>
    rw [cn_s]
    have e : chg r (k + 1) = (r.testBit (k + 1) != r.testBit k) := by unfold chg; simp
    generalize hx : cn (fun k => chg r k) (k + 1) = x at ih
    rw [e, ih]
    have := Nat.mod_two_eq_zero_or_one x
    rcases this with g | g
    · have e1 : decide (x % 2 = 1) = false := by simp [g]
      rw [e1]
      cases r.testBit (k + 1)
      · show false = decide ((x + 0) % 2 = 1); rw [Nat.add_zero, e1]
      · show true = decide ((x + 1) % 2 = 1); have : (x + 1) % 2 = 1 := by omega
        simp [this]
    · have e1 : decide (x % 2 = 1) = true := by simp [g]
      rw [e1]
      cases r.testBit (k + 1)
      · show false = decide ((x + 1) % 2 = 1); have : (x + 1) % 2 = 0 := by omega
        simp [this]
      · show true = decide ((x + 0) % 2 = 1); rw [Nat.add_zero, e1]
theorem ncf_f {w r : Nat} : ∀ j p, p ≤ w → p ≤ ncf w r p j ∧ ncf w r p j ≤ w ∧ cn (fun k => chg r k) (ncf w r p j) ≤ cn (fun k => chg r k) p + j ∧ (ncf w r p j < w → chg r (ncf w r p j) = true ∧ cn (fun k => chg r k) (ncf w r p j) = cn (fun k => chg r k) p + j) := by
  intro j
  induction j with
  | zero =>
    intro p hp
    have f1 := fb_ge (fun i => chg r i) hp
    have f2 := fb_le (fun i => chg r i) w p
    have f3 : cn (fun k => chg r k) (fb (fun i => chg r i) w p) = cn (fun k => chg r k) p := cn_flat f1 (fun k h1 h2 => fb_no h1 h2)
    exact ⟨f1, f2, by show cn _ (fb (fun i => chg r i) w p) ≤ _; omega, fun h => ⟨fb_yes (p := fun i => chg r i) h, f3⟩⟩
  | succ j ih =>
    intro p hp
    have f1 := fb_ge (fun i => chg r i) hp
    have f2 := fb_le (fun i => chg r i) w p
    have f3 : cn (fun k => chg r k) (fb (fun i => chg r i) w p) = cn (fun k => chg r k) p := cn_flat f1 (fun k h1 h2 => fb_no h1 h2)
    have e : ncf w r p (j + 1) = if fb (fun i => chg r i) w p < w then ncf w r (fb (fun i => chg r i) w p + 1) j else w := rfl
    rw [e]
    by_cases g : fb (fun i => chg r i) w p < w
    · rw [if_pos g]
      obtain ⟨i1, i2, i3, i4⟩ := ih (fb (fun i => chg r i) w p + 1) (by omega)
      have f4 := cn_t (p := fun i => chg r i) (fb_yes (p := fun i => chg r i) g)
      refine ⟨by omega, i2, by omega, fun h => ⟨(i4 h).1, by rw [(i4 h).2]; omega⟩⟩
    · rw [if_neg g]
      have : fb (fun i => chg r i) w p = w := by omega
      rw [this] at f3
      exact ⟨hp, Nat.le_refl _, by omega, fun h => absurd h (Nat.lt_irrefl _)⟩
theorem ncf_m {w r : Nat} : ∀ j p, p ≤ w → ncf w r p j ≤ ncf w r p (j + 1) ∧ (ncf w r p j < w → ncf w r p j < ncf w r p (j + 1)) := by
  intro j
  induction j with
  | zero =>
    intro p hp
    have e : ncf w r p (0 + 1) = if fb (fun i => chg r i) w p < w then ncf w r (fb (fun i => chg r i) w p + 1) 0 else w := rfl
    have e0 : ncf w r p 0 = fb (fun i => chg r i) w p := rfl
    have f2 := fb_le (fun i => chg r i) w p
    rw [e, e0]
    by_cases g : fb (fun i => chg r i) w p < w
    · rw [if_pos g]
      have := (ncf_f (w := w) (r := r) 0 (fb (fun i => chg r i) w p + 1) g).1
      omega
    · rw [if_neg g]; omega
  | succ j ih =>
    intro p hp
    have e : ∀ j, ncf w r p (j + 1) = if fb (fun i => chg r i) w p < w then ncf w r (fb (fun i => chg r i) w p + 1) j else w := fun _ => rfl
    rw [e, e]
    by_cases g : fb (fun i => chg r i) w p < w
    · rw [if_pos g, if_pos g]; exact ih _ g
    · rw [if_neg g, if_neg g]; exact ⟨Nat.le_refl _, fun h => absurd h (Nat.lt_irrefl _)⟩
/-- where a run begins -/
def st (w r : Nat) : Nat → Nat
  | 0 => 0
  | i + 1 => ncf w r 0 i
theorem st_le (w r i : Nat) : st w r i ≤ w := by
  cases i with
  | zero => exact Nat.zero_le _
  | succ i => exact (ncf_f i 0 (Nat.zero_le _)).2.1
theorem st_m (w r i : Nat) : st w r i ≤ st w r (i + 1) := by
  cases i with
  | zero => exact Nat.zero_le _
  | succ i => exact (ncf_m i 0 (Nat.zero_le _)).1
theorem st_w {w r i : Nat} : st w r i < w ∨ i = 0 ↔ i ≤ nch w r := by
  unfold nch
  have z : cn (fun k => chg r k) 0 = 0 := rfl
  cases i with
  | zero => simp
  | succ i =>
    have f := ncf_f (w := w) (r := r) i 0 (Nat.zero_le _)
    show ncf w r 0 i < w ∨ _ ↔ _
    constructor
    · rintro (h | h)
      · have := f.2.2.2 h
        have t := cn_t (p := fun k => chg r k) this.1
        have m2 : cn (fun k => chg r k) (ncf w r 0 i + 1) ≤ cn (fun k => chg r k) w := cn_mono h
        omega
      · omega
    · intro h
      left
      rcases Nat.lt_or_ge (ncf w r 0 i) w with q | q
      · exact q
      · have : ncf w r 0 i = w := by omega
        rw [this] at f; omega
/-- the list of the runs, by the changes -/
theorem rT_p {w r p f : Nat} {c : Bool} (h : (f = 0 ∧ p = 0 ∧ c = false) ∨ (p = f + 1 ∧ f < w ∧ r.testBit f = c)) : rT w r f c = fb (fun i => chg r i) w p := by
  rcases h with ⟨rfl, rfl, rfl⟩ | ⟨rfl, h2, h3⟩
  · unfold rT
    rcases fb_spec (fun i => chg r i) w 0 with ⟨e, no⟩ | ⟨_, e, ys, no⟩
    · rw [e]
      apply fb_end
      intro j _ hj
      have : r.testBit j = false := by
        rw [cn_par, cn_flat (Nat.zero_le (j + 1)) (fun k _ hk => no k (Nat.zero_le _) (by omega))]
        rfl
      rw [this]; rfl
    · have bt : ∀ j, j < fb (fun i => chg r i) w 0 → r.testBit j = false := fun j hj => by
        rw [cn_par, cn_flat (Nat.zero_le (j + 1)) (fun k _ hk => no k (Nat.zero_le _) (by omega))]
        rfl
      generalize fb (fun i => chg r i) w 0 = t at e ys no bt
      refine fb_un (Nat.zero_le _) e ?_ (fun j _ hj => by rw [bt j hj]; rfl)
      rw [cn_par, cn_t (p := fun i => chg r i) ys, cn_flat (Nat.zero_le t) (fun k _ hk => no k (Nat.zero_le _) hk)]
      rfl
  · unfold rT
    have same : ∀ j, f ≤ j → (∀ k, f + 1 ≤ k → k ≤ j → chg r k = false) → r.testBit j = c := by
      intro j hj hn
      rw [cn_par, cn_flat (Nat.succ_le_succ hj) (fun k h1 h2 => hn k h1 (by omega)), ← cn_par]; exact h3
    have hge : f + 1 ≤ fb (fun i => chg r i) w (f + 1) := fb_ge _ h2
    rcases fb_spec (fun i => chg r i) w (f + 1) with ⟨e, no⟩ | ⟨_, e, ys, no⟩
    · rw [e]
      apply fb_end
      intro j h1 hj
      rw [same j h1 (fun k h4 h5 => no k h4 (by omega))]; cases c <;> rfl
    · generalize fb (fun i => chg r i) w (f + 1) = t at e ys no hge
      refine fb_un (by omega) e ?_ (fun j h1 hj => by rw [same j h1 (fun k h4 h5 => no k h4 (by omega))]; cases c <;> rfl)
      have e1 := same (t - 1) (by omega) (fun k h4 h5 => no k h4 (by omega))
      have e2 : chg r t = (r.testBit t != r.testBit (t - 1)) := by
        unfold chg
        have : decide (0 < t) = true := by simp; omega
        rw [this]; rfl
      have ys : chg r t = true := ys
      rw [e2, e1] at ys
      revert ys; cases r.testBit t <;> cases c <;> simp
theorem rL_at {w r : Nat} : ∀ j n f p c, w + 1 ≤ n + p → ((f = 0 ∧ p = 0 ∧ c = false) ∨ (p = f + 1 ∧ f < w ∧ r.testBit f = c)) → (rL w r n f c)[j]? = match j with | 0 => some (ncf w r p 0 - f) | j + 1 => if ncf w r p j < w then some (ncf w r p (j + 1) - ncf w r p j) else none := by
  intro j
  induction j with
  | zero =>
    intro n f p c hn h
    obtain ⟨n, rfl⟩ : ∃ m, n = m + 1 := ⟨n - 1, by omega⟩
    show ((rT w r f c - f) :: _)[0]? = some (fb (fun i => chg r i) w p - f)
    rw [rT_p h]; rfl
  | succ j ih =>
    intro n f p c hn h
    obtain ⟨n, rfl⟩ : ∃ m, n = m + 1 := ⟨n - 1, by omega⟩
    have hb : rT w r f c < w → r.testBit (rT w r f c) = !c := fun g => eq_of_beq (fb_yes (p := fun k => r.testBit k == !c) g)
    show (if rT w r f c < w then rL w r n (rT w r f c) (!c) else [])[j]? = if ncf w r p j < w then some (ncf w r p (j + 1) - ncf w r p j) else none
    rw [rT_p h] at hb ⊢
    have ge : p ≤ fb (fun i => chg r i) w p := fb_ge _ (by omega)
    by_cases g : fb (fun i => chg r i) w p < w
    · rw [if_pos g, ih n _ (fb (fun i => chg r i) w p + 1) (!c) (by omega) (Or.inr ⟨rfl, g, hb g⟩)]
      have e : ∀ j, ncf w r p (j + 1) = ncf w r (fb (fun i => chg r i) w p + 1) j := fun j => by
        show (if fb (fun i => chg r i) w p < w then ncf w r (fb (fun i => chg r i) w p + 1) j else w) = _
        rw [if_pos g]
      cases j with
      | zero =>
        show some _ = if fb (fun i => chg r i) w p < w then some (ncf w r p (0 + 1) - fb (fun i => chg r i) w p) else none
        rw [if_pos g, e]
      | succ j =>
        rw [e, e]
    · rw [if_neg g]
      have e : ncf w r p j = w := by
        cases j with
        | zero => have := fb_le (fun i => chg r i) w p; show fb (fun i => chg r i) w p = w; omega
        | succ j => show (if fb (fun i => chg r i) w p < w then _ else w) = w; rw [if_neg g]
      rw [e, if_neg (Nat.lt_irrefl _)]; rfl
theorem runs_at (w r j : Nat) : (runs w r)[j]? = if j ≤ nch w r then some (st w r (j + 1) - st w r j) else none := by
  unfold runs
  rw [rL_at j (w + 1) 0 0 false (by omega) (Or.inl ⟨rfl, rfl, rfl⟩)]
  have := st_w (w := w) (r := r) (i := j)
  cases j with
  | zero => rw [if_pos (Nat.zero_le _)]; rfl
  | succ j =>
    show (if ncf w r 0 j < w then some (ncf w r 0 (j + 1) - ncf w r 0 j) else none) = if j + 1 ≤ nch w r then some (ncf w r 0 (j + 1) - ncf w r 0 j) else none
    by_cases g : j + 1 ≤ nch w r
    · rw [if_pos g, if_pos]
      rcases this.mpr g with h | h
      · exact h
      · cases h
    · rw [if_neg g, if_neg]
      intro h; exact g (this.mp (Or.inl h))
theorem runs_n (w r : Nat) : (runs w r).length = nch w r + 1 := by
  have h1 := runs_at w r (nch w r)
  have h2 := runs_at w r (nch w r + 1)
  rw [if_pos (Nat.le_refl _)] at h1
  rw [if_neg (by omega)] at h2
  have h3 : nch w r < (runs w r).length := by
    rcases Nat.lt_or_ge (nch w r) (runs w r).length with q | q
    · exact q
    · rw [List.getElem?_eq_none q] at h1; cases h1
  have h4 := List.getElem?_eq_none_iff.mp h2
  omega
/-! numbers of a row -/
theorem pcn_w {w r : Nat} (h : w ≤ 64) (hr : r < 2 ^ w) : pcn 64 r = blk w r := by
  unfold blk
  rw [pcn_cn]
  exact cn_up h (fun k hk => Nat.testBit_lt_two_pow (Nat.lt_of_lt_of_le hr (pw_le hk)))
theorem fBlk {w r : Nat} (h40 : w ≤ 40) (hr : r < 2 ^ w) {M : Mm} {Q : Int32 → Mm → Prop} : Rn (fJ13_bitCount_95d88 (lN r)) M Q ↔ Q (nI (blk w r)) M := by
  have : 2 ^ w ≤ 2 ^ 40 := pw_le h40
  rw [fBit (by omega), pcn_w (by omega) hr]
theorem fNch {w r : Nat} (h40 : w ≤ 40) {M : Mm} {Q : Int32 → Mm → Prop} : Rn (fJ13_bitCount_95d88 (lN (chs w r))) M Q ↔ Q (nI (nch w r)) M := by
  rw [fBlk h40 (chs_lt w r)]
  have : blk w (chs w r) = nch w r := by
    unfold blk nch
    refine cn_cg (fun k hk => ?_)
    rw [chs_bit]; simp [hk]
  rw [this]
/-- the bits from p on -/
def hib (b p : Nat) : Nat := b / 2 ^ p * 2 ^ p
theorem hib_bit (b p k : Nat) : (hib b p).testBit k = (decide (p ≤ k) && b.testBit k) := by
  unfold hib
  rw [Nat.testBit_mul_two_pow]
  by_cases h : p ≤ k
  · rw [Nat.testBit_div_two_pow, show k - p + p = k by omega]
  · simp [h]
theorem hib_le (b p : Nat) : hib b p ≤ b := Nat.div_mul_le_self _ _
theorem hib_0 (b : Nat) : hib b 0 = b := by unfold hib; simp
section CHib
variable {w r p : Nat}
theorem hib_z (h40 : w ≤ 40) (hp : p ≤ w) : lg_cmp (lN (hib (chs w r) p)) 0 = 0 ↔ ¬ fb (fun i => chg r i) w p < w := by
  have l1 := chs_lt w r
  have l2 := hib_le (chs w r) p
  have : 2 ^ w ≤ 2 ^ 40 := pw_le h40
  rw [lg_cmp_eq, lN_0 (by omega)]
  constructor
  · intro h g
    have := fb_yes (p := fun i => chg r i) g
    have b := hib_bit (chs w r) p (fb (fun i => chg r i) w p)
    rw [h, Nat.zero_testBit, chs_bit, this] at b
    have := fb_ge (fun i => chg r i) hp
    simp [g, this] at b
  · intro h
    have h : fb (fun i => chg r i) w p = w := by have := fb_le (fun i => chg r i) w p; omega
    apply Nat.eq_of_testBit_eq
    intro k
    rw [Nat.zero_testBit, hib_bit, chs_bit]
    by_cases g : p ≤ k ∧ k < w
    · have := fb_no (p := fun i => chg r i) (w := w) g.1 (by omega)
      simp [this]
    · simp; omega
theorem hib_t (hp : p ≤ w) (g : fb (fun i => chg r i) w p < w) : (hib (chs w r) p).testBit (fb (fun i => chg r i) w p) = true ∧ ∀ j, j < fb (fun i => chg r i) w p → (hib (chs w r) p).testBit j = false := by
  have := fb_yes (p := fun i => chg r i) g
  have h1 := fb_ge (fun i => chg r i) hp
  refine ⟨by rw [hib_bit, chs_bit, this]; simp [g, h1], fun j hj => ?_⟩
  rw [hib_bit, chs_bit]
  by_cases q : p ≤ j
  · have := fb_no (p := fun i => chg r i) q hj
    simp [this]
  · simp [q]
theorem hib_n (h40 : w ≤ 40) (hp : p ≤ w) (g : fb (fun i => chg r i) w p < w) : lN (hib (chs w r) p) &&& (lN (hib (chs w r) p) - 1) = lN (hib (chs w r) (fb (fun i => chg r i) w p + 1)) := by
  obtain ⟨hb, hl⟩ := hib_t hp g
  have l1 := chs_lt w r
  have l2 := hib_le (chs w r) p
  have : 2 ^ w ≤ 2 ^ 40 := pw_le h40
  have h0 : hib (chs w r) p ≠ 0 := by intro h; rw [h, Nat.zero_testBit] at hb; cases hb
  rw [show (1 : Int64) = lN 1 from rfl, lN_sb (by omega), wb_and (by omega) (by omega)]
  congr 1
  apply Nat.eq_of_testBit_eq
  intro k
  rw [Nat.testBit_and, low_pred hb hl]
  by_cases q : k < fb (fun i => chg r i) w p
  · rw [hl k q, hib_bit]
    have : ¬ fb (fun i => chg r i) w p + 1 ≤ k := by omega
    simp [this]
  · by_cases q2 : k = fb (fun i => chg r i) w p
    · rw [if_neg q, if_pos q2, Bool.and_false, hib_bit]
      have : ¬ fb (fun i => chg r i) w p + 1 ≤ k := by omega
      simp [this]
    · rw [if_neg q, if_neg q2, hib_bit, hib_bit]
      have h1 := fb_ge (fun i => chg r i) hp
      have t1 : fb (fun i => chg r i) w p + 1 ≤ k := by omega
      have t2 : p ≤ k := by omega
      simp [t1, t2]
theorem fLow (h40 : w ≤ 40) (hp : p ≤ w) (g : fb (fun i => chg r i) w p < w) {M : Mm} {Q : Int32 → Mm → Prop} : Rn (fX7_lowestOf (lN (hib (chs w r) p))) M Q ↔ Q (nI (fb (fun i => chg r i) w p)) M := by
  obtain ⟨hb, hl⟩ := hib_t hp g
  have l1 := chs_lt w r
  have l2 := hib_le (chs w r) p
  have : 2 ^ w ≤ 2 ^ 40 := pw_le h40
  have : 2 ^ fb (fun i => chg r i) w p ≤ 2 ^ 40 := pw_le (by omega)
  unfold fX7_lowestOf
  rw [Rn_bnd, lowL (by omega) hb hl, fBit (by omega), Rn_rtn, pcn_pred _ _ (by omega)]
theorem fChangeAt {j : Nat} (h40 : w ≤ 40) (hj : j < 2147483648) {M : Mm} {Q : Int32 → Mm → Prop} : Rn (fX7_changeAt (lN (chs w r)) (nI j)) M Q ↔ Q (chV w r j) M := by
  refine Rn_det ?_
  unfold fX7_changeAt
  have key : ∀ (p m : Nat), p ≤ w → ncf w r p m = ncf w r 0 j → (m = 0 ∨ ¬ fb (fun i => chg r i) w p < w) → Rn (fX7_changeAt_L29 (lN (hib (chs w r) p))) M (fun a M' => a = chV w r j ∧ M' = M) := by
    intro p m hp hm h
    unfold fX7_changeAt_L29 chV
    rw [← hm]
    refine Rn_cs (hib_z h40 hp) (fun g => ?_) (fun g => ?_)
    · have : ncf w r p m = w := by
        have := fb_le (fun i => chg r i) w p
        cases m with
        | zero => show fb (fun i => chg r i) w p = w; omega
        | succ m => show (if fb (fun i => chg r i) w p < w then _ else w) = w; rw [if_neg g]
      rw [Rn_rtn, this, if_neg (Nat.lt_irrefl _)]; exact ⟨rfl, rfl⟩
    · have g : fb (fun i => chg r i) w p < w := by omega
      have hm : m = 0 := by rcases h with h | h; exact h; exact absurd g h
      subst hm
      rw [Rn_bnd, fLow h40 hp g, Rn_rtn]
      show _ = (if fb (fun i => chg r i) w p < w then nI (fb (fun i => chg r i) w p) else -1) ∧ _
      rw [if_pos g]; exact ⟨rfl, rfl⟩
  refine rn_loopv (F := fun n (s : Nat × Nat) => fX7_changeAt_L5 n (nI j) (lN (hib (chs w r) s.1)) (nI s.2)) (fun s M' => M' = M ∧ s.1 ≤ w ∧ s.2 ≤ j ∧ ncf w r s.1 (j - s.2) = ncf w r 0 j) (fun s => w - s.1) ?_ fu (0, 0) M (by show w - 0 < fu; unfold fu; omega) ⟨rfl, Nat.zero_le _, Nat.zero_le _, rfl⟩ |> fun z => by
    have z : Rn (fX7_changeAt_L5 fu (nI j) (lN (hib (chs w r) 0)) (nI 0)) M _ := z
    rw [hib_0] at z; exact z
  rintro n ⟨p, i⟩ M1 ⟨rfl, hp, hi, he⟩ ih
  have hp : p ≤ w := hp
  have hi : i ≤ j := hi
  have he : ncf w r p (j - i) = ncf w r 0 j := he
  show Rn (fX7_changeAt_L5 (n + 1) (nI j) (lN (hib (chs w r) p)) (nI i)) M1 _
  unfold fX7_changeAt_L5
  refine Rn_cs (nle (by omega) (by omega)) (fun g => key p _ hp he (Or.inl (by omega))) (fun g => ?_)
  refine Rn_cs (hib_z h40 hp) (fun g1 => key p _ hp he (Or.inr g1)) (fun g1 => ?_)
  have g1 : fb (fun i => chg r i) w p < w := by omega
  rw [Rn_bnd, Rn_rtn, hib_n h40 hp g1, nL1, nI_add]
  have h1 := fb_ge (fun i => chg r i) hp
  refine ih (fb (fun i => chg r i) w p + 1, i + 1) M1 ⟨rfl, g1, by show i + 1 ≤ j; omega, ?_⟩ (by show w - (fb (fun i => chg r i) w p + 1) < w - p; omega)
  show ncf w r (fb (fun i => chg r i) w p + 1) (j - (i + 1)) = _
  rw [← he, show j - i = (j - (i + 1)) + 1 by omega]
  show _ = if fb (fun i => chg r i) w p < w then ncf w r (fb (fun i => chg r i) w p + 1) (j - (i + 1)) else w
  rw [if_pos g1]
end CHib

