/-! THE CLASS: runs of a row -/
theorem chV_st (w r j : Nat) : chV w r j = if st w r (j + 1) < w then nI (st w r (j + 1)) else -1 := rfl
section CRuns
variable {w r : Nat}
theorem nch_le (w r : Nat) : nch w r ≤ w := cn_le _ _
theorem fRunAt {j : Nat} (h40 : w ≤ 40) (hr : r < 2 ^ w) (hj : j < 2147483648) {M : Mm} {Q : Int32 → Mm → Prop} : Rn (fX7_runAt (lN r) (nI w) (nI j)) M Q ↔ Q (rnV (runs w r) j) M := by
  refine Rn_det ?_
  have hn := nch_le w r
  unfold fX7_runAt
  rw [Rn_bnd, fChs h40 hr, Rn_bnd, fNch h40]
  unfold rnV
  rw [runs_at]
  refine Rn_cs (nle (by omega) (by omega)) (fun g => ?_) (fun g => ?_)
  · rw [if_pos g]
    have s1 := st_le w r j
    have s2 := st_le w r (j + 1)
    have s3 := st_m w r j
    have last : Rn (fX7_runAt_L34 (nI w) (nI j) (lN (chs w r)) (nI (st w r j))) M (fun a M' => a = nI (st w r (j + 1) - st w r j) ∧ M' = M) := by
      unfold fX7_runAt_L34 fX7_runAt_L56
      rw [Rn_bnd, fChangeAt h40 hj, chV_st]
      by_cases g1 : st w r (j + 1) < w
      · rw [if_pos g1, if_neg (ne_m1 (by omega)), Rn_rtn, nsb s3]; exact ⟨rfl, rfl⟩
      · rw [if_neg g1, if_pos rfl, Rn_rtn, show st w r (j + 1) = w by omega, nsb s1]; exact ⟨rfl, rfl⟩
    refine Rn_cs (show nI j = 0 ↔ j = 0 from neq (b := 0) hj (by omega)) (fun g1 => ?_) (fun g1 => ?_)
    · subst g1; exact last
    · obtain ⟨j, rfl⟩ : ∃ i, j = i + 1 := ⟨j - 1, by omega⟩
      have : st w r (j + 1) < w := by
        rcases (st_w (w := w) (r := r) (i := j + 1)).mpr g with q | q
        · exact q
        · omega
      rw [Rn_bnd, nL1, nsb (by omega), show j + 1 - 1 = j by omega, fChangeAt h40 (by omega), chV_st, if_pos this]
      exact last
  · rw [if_neg g, Rn_rtn]; exact ⟨rfl, rfl⟩
theorem runs_drop {j : Nat} (h : j ≤ nch w r) : (runs w r).drop j = (st w r (j + 1) - st w r j) :: (runs w r).drop (j + 1) := by
  have hl : j < (runs w r).length := by rw [runs_n]; omega
  rw [List.drop_eq_getElem_cons hl]
  have e := runs_at w r j
  rw [if_pos h, List.getElem?_eq_getElem hl] at e
  rw [Option.some.inj e]
theorem fAlone (h40 : w ≤ 40) (hr : r < 2 ^ w) {M : Mm} {Q : Int32 → Mm → Prop} : Rn (fX7_aloneBits (lN r) (nI w)) M Q ↔ Q (nI (nS (runs w r))) M := by
  refine Rn_det ?_
  unfold fX7_aloneBits
  rw [Rn_bnd, fChs h40 hr]
  refine rn_loopv (F := fun n (s : Nat × Nat × Nat) => fX7_aloneBits_L15 n (nI w) (lN (hib (chs w r) s.2.2)) (nI s.2.1) (nI (st w r s.1)) (nI s.1)) (fun s M' => M' = M ∧ s.1 ≤ nch w r ∧ s.2.1 + nS ((runs w r).drop s.1) = nS (runs w r) ∧ s.1 ≤ s.2.2 ∧ s.2.2 ≤ w ∧ st w r (s.1 + 1) = fb (fun i => chg r i) w s.2.2) (fun s => w - s.2.2) ?_ fu (0, 0, 0) M (by show w - 0 < fu; unfold fu; omega) ⟨rfl, Nat.zero_le _, by show 0 + nS (runs w r) = _; omega, Nat.le_refl _, Nat.zero_le _, rfl⟩ |> fun z => by
    have z : Rn (fX7_aloneBits_L15 fu (nI w) (lN (hib (chs w r) 0)) (nI 0) (nI 0) (nI 0)) M _ := z
    rw [hib_0] at z; exact z
  rintro n ⟨i, b, p⟩ M1 ⟨rfl, hi, hb, hip, hp, hs⟩ ih
  have hi : i ≤ nch w r := hi
  have hb : b + nS ((runs w r).drop i) = nS (runs w r) := hb
  have hip : i ≤ p := hip
  have hp : p ≤ w := hp
  have hs : st w r (i + 1) = fb (fun i => chg r i) w p := hs
  show Rn (fX7_aloneBits_L15 (n + 1) (nI w) (lN (hib (chs w r) p)) (nI b) (nI (st w r i)) (nI i)) M1 _
  have hn := nch_le w r
  have s3 := st_m w r i
  have s1 := st_le w r i
  have f2 := fb_le (fun i => chg r i) w p
  have stop : ¬ fb (fun i => chg r i) w p < w → Rn (fX7_aloneBits_L63 (nI w) (nI b) (nI (st w r i))) M1 (fun a M' => a = nI (nS (runs w r)) ∧ M' = M1) := by
    intro g
    have e1 : st w r (i + 1) = w := by omega
    have e2 : i = nch w r := by
      rcases Nat.lt_or_ge i (nch w r) with q | q
      · rcases (st_w (w := w) (r := r) (i := i + 1)).mpr q with z | z <;> omega
      · omega
    unfold fX7_aloneBits_L63
    rw [Rn_bnd, nsb s1, cNB, Rn_rtn, nI_add]
    rw [runs_drop hi, List.drop_eq_nil_of_le (by rw [runs_n]; omega), e1] at hb
    have hb : b + (nb (w - st w r i) + 0) = nS (runs w r) := hb
    rw [Nat.add_zero] at hb
    rw [← hb]; exact ⟨rfl, rfl⟩
  unfold fX7_aloneBits_L15
  refine Rn_cs (show (40 : Int32) ≤ nI i ↔ 40 ≤ i from nle (a := 40) (by omega) (by omega)) (fun g => stop ?_) (fun g => ?_)
  · rw [fb_ge_w (by omega)]; exact Nat.lt_irrefl _
  · refine Rn_cs (hib_z h40 hp) (fun g1 => stop g1) (fun g1 => ?_)
    have g1 : fb (fun i => chg r i) w p < w := by omega
    have h1 := fb_ge (fun i => chg r i) hp
    rw [Rn_bnd, fLow h40 hp g1, Rn_bnd, ← hs, nsb s3, cNB, Rn_bnd, Rn_rtn, Rn_bnd, Rn_rtn, hib_n h40 hp g1, nL1, nI_add, nI_add]
    have hi' : i + 1 ≤ nch w r := st_w.mp (Or.inl (by rw [hs]; exact g1))
    rw [runs_drop hi] at hb
    have hb : b + (nb (st w r (i + 1) - st w r i) + nS ((runs w r).drop (i + 1))) = nS (runs w r) := hb
    refine ih (i + 1, b + nb (st w r (i + 1) - st w r i), fb (fun i => chg r i) w p + 1) M1 ⟨rfl, hi', by show b + nb (st w r (i + 1) - st w r i) + nS ((runs w r).drop (i + 1)) = nS (runs w r); omega, by show i + 1 ≤ fb (fun i => chg r i) w p + 1; omega, g1, ?_⟩ (by show w - (fb (fun i => chg r i) w p + 1) < w - p; omega)
    show st w r (i + 1 + 1) = fb (fun i => chg r i) w (fb (fun i => chg r i) w p + 1)
    rw [← hs]
    show ncf w r 0 (i + 1) = fb (fun i => chg r i) w (ncf w r 0 i + 1)
    have : ∀ j p, p ≤ w → ncf w r p j < w → ncf w r p (j + 1) = fb (fun i => chg r i) w (ncf w r p j + 1) := by
      intro j
      induction j with
      | zero =>
        intro p hp h
        show (if fb (fun i => chg r i) w p < w then fb (fun i => chg r i) w (fb (fun i => chg r i) w p + 1) else w) = _
        have h : fb (fun i => chg r i) w p < w := h
        rw [if_pos h]; rfl
      | succ j ihj =>
        intro p hp h
        have e : ∀ j, ncf w r p (j + 1) = if fb (fun i => chg r i) w p < w then ncf w r (fb (fun i => chg r i) w p + 1) j else w := fun _ => rfl
        rw [e] at h ⊢
        rw [e]
        by_cases q : fb (fun i => chg r i) w p < w
        · rw [if_pos q] at h; rw [if_pos q, if_pos q]; exact ihj _ q h
        · rw [if_neg q] at h; exact absurd h (Nat.lt_irrefl _)
    exact this i 0 (Nat.zero_le _) (by show st w r (i + 1) < w; omega)
end CRuns

