/-! THE CLASS: runs of a row -/
theorem chV_st (w r j : Nat) : chV w r j = if st w r (j + 1) < w then nI (st w r (j + 1)) else -1 := rfl
section CRuns
variable {w r : Nat}
theorem nch_le (w r : Nat) : nch w r ≤ w := cn_le _ _
theorem fRunAt {j : Nat} (h40 : w ≤ 40) (hr : r < 2 ^ w) (hj : j < 2147483648) {M : Mm} {Q : Int32 → Mm → Prop} : Rn (fX7_runAt (lN r) (nI w) (nI j)) M Q ↔ Q (rnV (runs w r) j) M := by
  refine Rn_det ?_
  have hn := nch_le w r
  unfold fX7_runAt
  rw [Rn_bnd, fChs h40 hr, Rn_bnd, fNch h40]
  unfold rnV
  rw [runs_at]
  refine Rn_cs (nle (by omega) (by omega)) (fun g => ?_) (fun g => ?_)
  · rw [if_pos g]
    have s1 := st_le w r j
    have s2 := st_le w r (j + 1)
    have s3 := st_m w r j
    have last : Rn (fX7_runAt_L34 (nI w) (nI j) (lN (chs w r)) (nI (st w r j))) M (fun a M' => a = nI (st w r (j + 1) - st w r j) ∧ M' = M) := by
      unfold fX7_runAt_L34 fX7_runAt_L56
      rw [Rn_bnd, fChangeAt h40 hj, chV_st]
      by_cases g1 : st w r (j + 1) < w
      · rw [if_pos g1, if_neg (ne_m1 (by omega)), Rn_rtn, nsb s3]; exact ⟨rfl, rfl⟩
      · rw [if_neg g1, if_pos rfl, Rn_rtn, show st w r (j + 1) = w by omega, nsb s1]; exact ⟨rfl, rfl⟩
    refine Rn_cs (show nI j = 0 ↔ j = 0 from neq (b := 0) hj (by omega)) (fun g1 => ?_) (fun g1 => ?_)
    · subst g1; exact last
    · obtain ⟨j, rfl⟩ : ∃ i, j = i + 1 := ⟨j - 1, by omega⟩
      have : st w r (j + 1) < w := by
        rcases (st_w (w := w) (r := r) (i := j + 1)).mpr g with q | q
        · exact q
        · omega
      rw [Rn_bnd, nL1, nsb (by omega), show j + 1 - 1 = j by omega, fChangeAt h40 (by omega), chV_st, if_pos this]
      exact last
  · rw [if_neg g, Rn_rtn]; exact ⟨rfl, rfl⟩
theorem runs_sum (w r : Nat) {j : Nat} (h : j ≤ nch w r) : ∃ L, runs w r = L ++ (runs w r).drop j ∧ L.length = j := ⟨(runs w r).take j, (List.take_append_drop _ _).symm, by rw [List.length_take, runs_n]; omega⟩
theorem runs_drop {j : Nat} (h : j ≤ nch w r) : (runs w r).drop j = (st w r (j + 1) - st w r j) :: (runs w r).drop (j + 1) := by
  have hl : j < (runs w r).length := by rw [runs_n]; omega
  rw [List.drop_eq_getElem_cons hl]
  have e := runs_at w r j
  rw [if_pos h, List.getElem?_eq_getElem hl] at e
  rw [Option.some.inj e]
theorem fAlone (h40 : w ≤ 40) (hr : r < 2 ^ w) {M : Mm} {Q : Int32 → Mm → Prop} : Rn (fX7_aloneBits (lN r) (nI w)) M Q ↔ Q (nI (nS (runs w r))) M := by
  refine Rn_det ?_
  unfold fX7_aloneBits
  rw [Rn_bnd, fChs h40 hr]
  refine rn_loopv (F := fun n (s : Nat × Nat × Nat) => fX7_aloneBits_L15 n (nI w) (lN (hib (chs w r) s.2.2)) (nI s.2.1) (nI (st w r s.1)) (nI s.1)) (fun s M' => M' = M ∧ s.1 ≤ nch w r ∧ s.2.1 + nS ((runs w r).drop s.1) = nS (runs w r) ∧ s.1 ≤ s.2.2 ∧ s.2.2 ≤ w ∧ st w r (s.1 + 1) = fb (fun i => chg r i) w s.2.2) (fun s => w - s.2.2) ?_ fu (0, 0, 0) M (by show w - 0 < fu; unfold fu; omega) ⟨rfl, Nat.zero_le _, by show 0 + nS (runs w r) = _; omega, Nat.le_refl _, Nat.zero_le _, rfl⟩ |> fun z => by
    have z : Rn (fX7_aloneBits_L15 fu (nI w) (lN (hib (chs w r) 0)) (nI 0) (nI 0) (nI 0)) M _ := z
    rw [hib_0] at z; exact z
  rintro n ⟨i, b, p⟩ M1 ⟨rfl, hi, hb, hip, hp, hs⟩ ih
  have hi : i ≤ nch w r := hi
  have hb : b + nS ((runs w r).drop i) = nS (runs w r) := hb
  have hip : i ≤ p := hip
  have hp : p ≤ w := hp
  have hs : st w r (i + 1) = fb (fun i => chg r i) w p := hs
  show Rn (fX7_aloneBits_L15 (n + 1) (nI w) (lN (hib (chs w r) p)) (nI b) (nI (st w r i)) (nI i)) M1 _
  have hn := nch_le w r
  have s3 := st_m w r i
  have s1 := st_le w r i
  have f2 := fb_le (fun i => chg r i) w p
  have stop : ¬ fb (fun i => chg r i) w p < w → Rn (fX7_aloneBits_L63 (nI w) (nI b) (nI (st w r i))) M1 (fun a M' => a = nI (nS (runs w r)) ∧ M' = M1) := by
    intro g
    have e1 : st w r (i + 1) = w := by omega
    have e2 : i = nch w r := by
      rcases Nat.lt_or_ge i (nch w r) with q | q
      · rcases (st_w (w := w) (r := r) (i := i + 1)).mpr q with z | z <;> omega
      · omega
    unfold fX7_aloneBits_L63
    rw [Rn_bnd, nsb s1, cNB, Rn_rtn, nI_add]
    rw [runs_drop hi, List.drop_eq_nil_of_le (by rw [runs_n]; omega), e1] at hb
    have hb : b + (nb (w - st w r i) + 0) = nS (runs w r) := hb
    rw [Nat.add_zero] at hb
    rw [← hb]; exact ⟨rfl, rfl⟩
  unfold fX7_aloneBits_L15
  refine Rn_cs (show (40 : Int32) ≤ nI i ↔ 40 ≤ i from nle (a := 40) (by omega) (by omega)) (fun g => stop ?_) (fun g => ?_)
  · rw [fb_ge_w (by omega)]; exact Nat.lt_irrefl _
  · refine Rn_cs (hib_z h40 hp) (fun g1 => stop g1) (fun g1 => ?_)
    have g1 : fb (fun i => chg r i) w p < w := by omega
    have h1 := fb_ge (fun i => chg r i) hp
    rw [Rn_bnd, fLow h40 hp g1, Rn_bnd, ← hs, nsb s3, cNB, Rn_bnd, Rn_rtn, Rn_bnd, Rn_rtn, hib_n h40 hp g1, nL1, nI_add, nI_add]
    have hi' : i + 1 ≤ nch w r := st_w.mp (Or.inl (by rw [hs]; exact g1))
    rw [runs_drop hi] at hb
    have hb : b + (nb (st w r (i + 1) - st w r i) + nS ((runs w r).drop (i + 1))) = nS (runs w r) := hb
    refine ih (i + 1, b + nb (st w r (i + 1) - st w r i), fb (fun i => chg r i) w p + 1) M1 ⟨rfl, hi', by show b + nb (st w r (i + 1) - st w r i) + nS ((runs w r).drop (i + 1)) = nS (runs w r); omega, by show i + 1 ≤ fb (fun i => chg r i) w p + 1; omega, g1, ?_⟩ (by show w - (fb (fun i => chg r i) w p + 1) < w - p; omega)
    show st w r (i + 1 + 1) = fb (fun i => chg r i) w (fb (fun i => chg r i) w p + 1)
    rw [← hs]
    show ncf w r 0 (i + 1) = fb (fun i => chg r i) w (ncf w r 0 i + 1)
    have : ∀ j p, p ≤ w → ncf w r p j < w → ncf w r p (j + 1) = fb (fun i => chg r i) w (ncf w r p j + 1) := by
      intro j
      induction j with
      | zero =>
        intro p hp h
        show (if fb (fun i => chg r i) w p < w then fb (fun i => chg r i) w (fb (fun i => chg r i) w p + 1) else w) = _
        have h : fb (fun i => chg r i) w p < w := h
        rw [if_pos h]; rfl
      | succ j ihj =>
        intro p hp h
        have e : ∀ j, ncf w r p (j + 1) = if fb (fun i => chg r i) w p < w then ncf w r (fb (fun i => chg r i) w p + 1) j else w := fun _ => rfl
        rw [e] at h ⊢
        rw [e]
        by_cases q : fb (fun i => chg r i) w p < w
        · rw [if_pos q] at h; rw [if_pos q, if_pos q]; exact ihj _ q h
        · rw [if_neg q] at h; exact absurd h (Nat.lt_irrefl _)
    exact this i 0 (Nat.zero_le _) (by show st w r (i + 1) < w; omega)
/-! the longest run of a colour, and how many runs have just so many dots -/
theorem mxo_flat {g : Nat → Nat} {a b : Nat} (h : a ≤ b) (h2 : ∀ k, a ≤ k → k < b → g k = 0) : mxo g b = mxo g a := by
  induction b with
  | zero => rw [show a = 0 by omega]
  | succ b ih =>
    by_cases q : a = b + 1
    · rw [q]
    · show (if mxo g b < g b then g b else mxo g b) = _
      rw [h2 b (by omega) (by omega), if_neg (by omega), ih (by omega) (fun k h1 h3 => h2 k h1 (by omega))]
theorem mxo_run {g : Nat → Nat} {a b : Nat} (h : a < b) (h2 : ∀ k, a ≤ k → k < b → g k = b - k) : mxo g b = if mxo g a < b - a then b - a else mxo g a := by
  have : ∀ d, d < b - a → mxo g (a + d + 1) = if mxo g a < b - a then b - a else mxo g a := by
    intro d
    induction d with
    | zero =>
      intro hd
      show (if mxo g a < g a then g a else mxo g a) = _
      rw [h2 a (Nat.le_refl _) h]
    | succ d ih =>
      intro hd
      show (if mxo g (a + d + 1) < g (a + d + 1) then g (a + d + 1) else mxo g (a + d + 1)) = _
      rw [ih (by omega), h2 (a + d + 1) (by omega) (by omega), if_neg]
      split <;> omega
  have e := this (b - a - 1) (by omega)
  rw [show a + (b - a - 1) + 1 = b by omega] at e
  exact e
theorem rT_in {i k : Nat} (h1 : st w r i ≤ k) (h2 : k < st w r (i + 1)) : rT w r k (decide (i % 2 = 1)) = st w r (i + 1) := by
  have s2 := st_le w r (i + 1)
  unfold rT
  by_cases g : st w r (i + 1) < w
  · refine fb_un (by omega) g ?_ (fun j h3 h4 => by rw [st_bit (by omega) h4]; cases decide (i % 2 = 1) <;> rfl)
    have m := st_m w r (i + 1)
    have m2 := st_lt (w := w) (r := r) (i := i + 1) (by omega) g
    rw [st_bit (Nat.le_refl _) m2]
    have e : decide ((i + 1) % 2 = 1) = !decide (i % 2 = 1) := by
      rcases Nat.mod_two_eq_zero_or_one i with q | q
      · have : (i + 1) % 2 = 1 := by omega
        rw [q, this]; rfl
      · have : (i + 1) % 2 = 0 := by omega
        rw [q, this]; rfl
    rw [e]; cases decide (i % 2 = 1) <;> rfl
  · have : st w r (i + 1) = w := by omega
    rw [this]
    exact fb_end (fun j h3 h4 => by rw [st_bit (w := w) (i := i) (by omega) (by omega)]; cases decide (i % 2 = 1) <;> rfl)
theorem rT_out {i k : Nat} (h1 : st w r i ≤ k) (h2 : k < st w r (i + 1)) : rT w r k (!decide (i % 2 = 1)) = k := by
  have s2 := st_le w r (i + 1)
  unfold rT
  refine fb_at (by omega) ?_
  rw [st_bit h1 h2]; cases decide (i % 2 = 1) <;> rfl
theorem par_2 (i : Nat) : decide ((i + 2) % 2 = 1) = decide (i % 2 = 1) := by congr 1; rw [Nat.add_mod_right]
theorem par_1 (i : Nat) : decide ((i + 1) % 2 = 1) = !decide (i % 2 = 1) := by
  rcases Nat.mod_two_eq_zero_or_one i with q | q
  · have : (i + 1) % 2 = 1 := by omega
    rw [q, this]; rfl
  · have : (i + 1) % 2 = 0 := by omega
    rw [q, this]; rfl
theorem mx_nI {a b : Nat} (ha : a < 2147483648) (hb : b < 2147483648) : mmax (nI a) (nI b) = nI (if a < b then b else a) := by
  unfold mmax
  by_cases h : a < b
  · rw [if_pos ((nlt ha hb).mpr h), if_pos h]
  · rw [if_neg (fun z => h ((nlt ha hb).mp z)), if_neg h]
theorem st_z {i : Nat} (h : ¬ i ≤ nch w r) : st w r i = w := by
  have := st_le w r i
  rcases Nat.lt_or_ge (st w r i) w with q | q
  · exact absurd (st_w.mp (Or.inl q)) h
  · omega
theorem rnV_s {j : Nat} (h : j ≤ nch w r) : rnV (runs w r) j = nI (st w r (j + 1) - st w r j) := by unfold rnV; rw [runs_at, if_pos h]
theorem lgs_2 (i : Nat) (h : i ≤ nch w r) : mxo (fun k => rT w r k (decide (i % 2 = 1)) - k) (st w r (i + 2)) = if mxo (fun k => rT w r k (decide (i % 2 = 1)) - k) (st w r i) < st w r (i + 1) - st w r i then st w r (i + 1) - st w r i else mxo (fun k => rT w r k (decide (i % 2 = 1)) - k) (st w r i) := by
  have m1 := st_m w r i
  rw [mxo_flat (st_m w r (i + 1)) (fun k h1 h2 => by
    have := rT_out h1 h2
    rw [par_1, Bool.not_not] at this
    show rT w r k (decide (i % 2 = 1)) - k = 0
    rw [this]; omega)]
  rcases Nat.eq_or_lt_of_le m1 with q | q
  · rw [← q, Nat.sub_self, if_neg (Nat.not_lt_zero _)]
  · exact mxo_run q (fun k h1 h2 => by show rT w r k (decide (i % 2 = 1)) - k = _; rw [rT_in h1 h2])
theorem st_col {i : Nat} {c : Bool} (hc : c = decide (i % 2 = 1)) (hi : i < 2) (g : (fun k => rT w r k c - k) = fun k => rT w r k (decide (i % 2 = 1)) - k) : mxo (fun k => rT w r k c - k) (st w r i) = 0 := by
  have : i = 0 ∨ i = 1 := by omega
  rcases this with rfl | rfl
  · rfl
  · rw [g]
    rw [mxo_flat (Nat.zero_le _) (fun k h1 h2 => by
      have := rT_out (i := 0) h1 h2
      show rT w r k (!decide (0 % 2 = 1)) - k = 0
      rw [this]; omega)]
    rfl
theorem lgs_e {i : Nat} {c : Bool} (h : ¬ i ≤ nch w r) : mxo (fun k => rT w r k c - k) (st w r i) = lgs w r c := by rw [st_z h]; rfl
theorem rno_2 (i : Nat) (h : i ≤ nch w r) {n : Nat} (hn : 1 ≤ n) : cn (fun k => bgn r k (decide (i % 2 = 1)) && decide (rT w r k (decide (i % 2 = 1)) - k = n)) (st w r (i + 2)) = cn (fun k => bgn r k (decide (i % 2 = 1)) && decide (rT w r k (decide (i % 2 = 1)) - k = n)) (st w r i) + if st w r (i + 1) - st w r i = n then 1 else 0 := by
  have m1 := st_m w r i
  have m2 := st_m w r (i + 1)
  rw [cn_flat m2 (fun k h1 h2 => by
    have := st_bit h1 h2
    show (bgn r k (decide (i % 2 = 1)) && _) = false
    unfold bgn
    rw [this, par_1]; cases decide (i % 2 = 1) <;> simp)]
  rcases Nat.eq_or_lt_of_le m1 with q | q
  · rw [← q, Nat.sub_self, if_neg (by omega)]; rfl
  · rw [cn_flat (show st w r i + 1 ≤ st w r (i + 1) from q) (fun k h1 h2 => by
      have b1 := st_bit (w := w) (r := r) (i := i) (k := k - 1) (by omega) (by omega)
      show (bgn r k (decide (i % 2 = 1)) && _) = false
      unfold bgn
      have : decide (k = 0) = false := by simp; omega
      rw [b1, this]; cases decide (i % 2 = 1) <;> simp), cn_s]
    congr 1
    have e1 : rT w r (st w r i) (decide (i % 2 = 1)) = st w r (i + 1) := rT_in (Nat.le_refl _) q
    have e2 : bgn r (st w r i) (decide (i % 2 = 1)) = true := by
      unfold bgn
      rw [st_bit (Nat.le_refl _) q]
      by_cases z : st w r i = 0
      · simp [z]
      · cases i with
        | zero => exact absurd rfl z
        | succ i =>
          have m3 := st_m w r i
          have lt : st w r i < st w r (i + 1) := by
            cases i with
            | zero => show 0 < _; omega
            | succ i =>
              rcases Nat.eq_or_lt_of_le m3 with y | y
              · have s2 := st_le w r (i + 1 + 1 + 1)
                have := st_lt (w := w) (r := r) (i := i + 1) (by omega) (by omega)
                omega
              · exact y
          rw [st_bit (w := w) (r := r) (i := i) (k := st w r (i + 1) - 1) (by omega) (by omega), par_1]
          cases decide (i % 2 = 1) <;> simp
    show bN (bgn r (st w r i) (decide (i % 2 = 1)) && decide (rT w r (st w r i) (decide (i % 2 = 1)) - st w r i = n)) = _
    rw [e1, e2, Bool.true_and]
    by_cases z : st w r (i + 1) - st w r i = n
    · rw [if_pos z]; simp [z, bN]
    · rw [if_neg z]; simp [z, bN]
theorem rno_0 {i n : Nat} {c : Bool} (hc : c = decide (i % 2 = 1)) (hi : i < 2) : cn (fun k => bgn r k c && decide (rT w r k c - k = n)) (st w r i) = 0 := by
  have : i = 0 ∨ i = 1 := by omega
  rcases this with rfl | rfl
  · rfl
  · rw [hc, cn_flat (Nat.zero_le _) (fun k h1 h2 => by
      have := st_bit (w := w) (r := r) (i := 0) h1 h2
      show (bgn r k (decide (1 % 2 = 1)) && _) = false
      unfold bgn
      rw [this]; simp)]
    rfl
theorem rno_e {i n : Nat} {c : Bool} (h : ¬ i ≤ nch w r) : cn (fun k => bgn r k c && decide (rT w r k c - k = n)) (st w r i) = rno w r c n := by rw [st_z h]; rfl
theorem cLongestRun {M : Mm} {c : Bool} (hM : CO M) (hp : Mi M 1 0 = nI w) (h40 : w ≤ 40) (hr : r < 2 ^ w) {Q : Int32 → Mm → Prop} : Rn (fX7_longestRun 0 (lN r) (nI (bN c))) M Q ↔ Q (nI (lgs w r c)) M := by
  refine Rn_det ?_
  have hn := nch_le w r
  have hb : decide (bN c % 2 = 1) = c := by cases c <;> rfl
  have hl := bN_le c
  unfold fX7_longestRun
  rw [Rn_bnd, cA0_0 hM, Rn_bnd, Rn_gI, hp, Rn_bnd, fChs h40 hr, Rn_bnd, fNch h40, Rn_bnd, Rn_rtn, nL1, nI_add]
  refine rn_loopv (F := fun n (s : Nat × Nat) => fX7_longestRun_L24 n 0 (lN r) (nI (nch w r + 1)) (nI s.1) (nI s.2)) (fun s M' => M' = M ∧ decide (s.2 % 2 = 1) = c ∧ s.1 = mxo (fun k => rT w r k c - k) (st w r s.2) ∧ s.2 ≤ nch w r + 2) (fun s => nch w r + 2 - s.2) ?_ fu (0, bN c) M (by show nch w r + 2 - bN c < fu; unfold fu; omega) ⟨rfl, hb, (by have := st_col (w := w) (r := r) (i := bN c) hb.symm (by omega) (by rw [hb]); exact this.symm), by show bN c ≤ nch w r + 2; omega⟩
  rintro n ⟨m, i⟩ M1 ⟨rfl, hc, hm, hi⟩ ih
  have hc : decide (i % 2 = 1) = c := hc
  have hm : m = mxo (fun k => rT w r k c - k) (st w r i) := hm
  have hi : i ≤ nch w r + 2 := hi
  have hm40 : m ≤ 40 := by
    rw [hm]
    exact Nat.le_trans (mxo_le (b := w) (fun k => by have := fb_le (fun j => r.testBit j == !c) w k; show fb (fun j => r.testBit j == !c) w k - k ≤ w; omega) _) h40
  show Rn (fX7_longestRun_L24 (n + 1) 0 (lN r) (nI (nch w r + 1)) (nI m) (nI i)) M1 _
  unfold fX7_longestRun_L24
  refine Rn_cs (nle (by omega) (by omega)) (fun g => ?_) (fun g => ?_)
  · rw [Rn_rtn, hm, lgs_e (by omega)]; exact ⟨rfl, rfl⟩
  · have hi' : i ≤ nch w r := by omega
    have s2 := st_le w r (i + 1)
    rw [Rn_bnd, cA0_0 hM, Rn_bnd, Rn_gI, hp, Rn_bnd, fRunAt h40 hr (by omega), rnV_s hi', Rn_bnd, Rn_rtn, mx_nI (by omega) (by omega), nL2, nI_add]
    refine ih (if m < st w r (i + 1) - st w r i then st w r (i + 1) - st w r i else m, i + 2) M1 ⟨rfl, by show decide ((i + 2) % 2 = 1) = c; rw [par_2]; exact hc, ?_, by show i + 2 ≤ nch w r + 2; omega⟩ (by show nch w r + 2 - (i + 2) < nch w r + 2 - i; omega)
    show (if m < st w r (i + 1) - st w r i then st w r (i + 1) - st w r i else m) = mxo (fun k => rT w r k c - k) (st w r (i + 2))
    rw [← hc] at hm ⊢
    rw [lgs_2 i hi', ← hm]
theorem cRunsJustOf {M : Mm} {c : Bool} {m : Nat} (hM : CO M) (hp : Mi M 1 0 = nI w) (h40 : w ≤ 40) (hr : r < 2 ^ w) (hm1 : 1 ≤ m) (hm2 : m ≤ 40) {Q : Int32 → Mm → Prop} : Rn (fX7_runsJustOf 0 (lN r) (nI (bN c)) (nI m)) M Q ↔ Q (nI (rno w r c m)) M := by
  refine Rn_det ?_
  have hn := nch_le w r
  have hb : decide (bN c % 2 = 1) = c := by cases c <;> rfl
  have hl := bN_le c
  unfold fX7_runsJustOf
  rw [Rn_bnd, cA0_0 hM, Rn_bnd, Rn_gI, hp, Rn_bnd, fChs h40 hr, Rn_bnd, fNch h40, Rn_bnd, Rn_rtn, nL1, nI_add]
  refine rn_loopv (F := fun n (s : Nat × Nat) => fX7_runsJustOf_L24 n 0 (lN r) (nI m) (nI (nch w r + 1)) (nI s.1) (nI s.2)) (fun s M' => M' = M ∧ decide (s.2 % 2 = 1) = c ∧ s.1 = cn (fun k => bgn r k c && decide (rT w r k c - k = m)) (st w r s.2) ∧ s.2 ≤ nch w r + 2) (fun s => nch w r + 2 - s.2) ?_ fu (0, bN c) M (by show nch w r + 2 - bN c < fu; unfold fu; omega) ⟨rfl, hb, (by have := rno_0 (w := w) (r := r) (i := bN c) (n := m) hb.symm (by omega); exact this.symm), by show bN c ≤ nch w r + 2; omega⟩
  rintro n ⟨a, i⟩ M1 ⟨rfl, hc, hm, hi⟩ ih
  have hc : decide (i % 2 = 1) = c := hc
  have hm : a = cn (fun k => bgn r k c && decide (rT w r k c - k = m)) (st w r i) := hm
  have hi : i ≤ nch w r + 2 := hi
  show Rn (fX7_runsJustOf_L24 (n + 1) 0 (lN r) (nI m) (nI (nch w r + 1)) (nI a) (nI i)) M1 _
  unfold fX7_runsJustOf_L24 fX7_runsJustOf_L52
  refine Rn_cs (nle (by omega) (by omega)) (fun g => ?_) (fun g => ?_)
  · rw [Rn_rtn, hm, rno_e (by omega)]; exact ⟨rfl, rfl⟩
  · have hi' : i ≤ nch w r := by omega
    have s2 := st_le w r (i + 1)
    have nx := ih (a + if st w r (i + 1) - st w r i = m then 1 else 0, i + 2) M1 ⟨rfl, by show decide ((i + 2) % 2 = 1) = c; rw [par_2]; exact hc, by
      show a + (if st w r (i + 1) - st w r i = m then 1 else 0) = cn (fun k => bgn r k c && decide (rT w r k c - k = m)) (st w r (i + 2))
      rw [← hc] at hm ⊢
      rw [rno_2 i hi' hm1, ← hm], by show i + 2 ≤ nch w r + 2; omega⟩ (by show nch w r + 2 - (i + 2) < nch w r + 2 - i; omega)
    rw [Rn_bnd, cA0_0 hM, Rn_bnd, Rn_gI, hp, Rn_bnd, fRunAt h40 hr (by omega), rnV_s hi', nL2, nI_add]
    refine Rn_cs (neq (by omega) (by omega)) (fun g1 => ?_) (fun g1 => ?_)
    · rw [nL1, nI_add]; rw [if_pos g1] at nx; exact nx
    · rw [if_neg g1] at nx; exact nx
end CRuns
