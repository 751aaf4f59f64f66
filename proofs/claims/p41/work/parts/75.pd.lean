/-! THE CLASS: a code by the line above -/
theorem pStep_1 {w u pos p' : Nat} {m : Md} {s : Rst} {v : Nat × Rst} (h : pStep w u m s pos p' = .inr v) : v.1 = p' := by
  unfold pStep at h
  split at h
  · cases h; rfl
  · cases h
theorem pNum_1 {x : Tx} {p lo hi : Nat} {v : Nat × Nat} (h : pNum x p lo hi = .inr v) : v.2 = tkE x p := by
  unfold pNum at h
  split at h
  · split at h
    · cases h; rfl
    · cases h
  · cases h
theorem pMode_gt {x : Tx} (hb : ∀ i, i < x.2 → x.1 i < 256) {w u p : Nat} {s : Rst} {v : Nat × Rst} (h0 : tkK x p ≠ 0) (hp : p ≤ x.2) (h : pMode x w u p s = .inr v) : p < v.1 := by
  have h1 := tkE_gt hb h0
  have h2 := tkS_ge hp
  have h3 := tkE_le hb p
  have ge : ∀ q, q ≤ x.2 → q ≤ tkE x q := fun q hq => tkE_ge hb hq
  unfold pMode at h
  split at h
  · cases h
  · split at h
    · rw [pStep_1 h]; omega
    · split at h
      · cases hn : pNum x (if tkK x (tkE x p) = 4 then tkE x (tkE x p) else tkE x p) 0 3 with
        | inl e => rw [hn] at h; cases h
        | inr n =>
          rw [hn] at h
          have := pStep_1 h
          rw [this, pNum_1 hn]
          have e1 := ge _ h3
          have e2 := ge _ (tkE_le hb (tkE x p))
          split <;> omega
      · cases hn : pNum x (tkE x p) 0 w with
        | inl e => rw [hn] at h; cases h
        | inr n =>
          rw [hn] at h
          have h : pB (pNum x n.2 0 w) (fun v2 => pStep w u (nI 2, nI n.1, nI v2.1, 0) s (tkS x p) v2.2) = .inr v := h
          cases hn2 : pNum x n.2 0 w with
          | inl e => rw [hn2] at h; cases h
          | inr n2 =>
            rw [hn2] at h
            have := pStep_1 h
            rw [this, pNum_1 hn2, pNum_1 hn]
            have e1 := ge _ h3
            have e2 := ge _ (tkE_le hb (tkE x p))
            omega
section CPar4
variable {M : Mm} {x : Tx} {p : Nat} {P : Pg}
theorem prM_a {α : Type} {r : Pe α} {G : α → Mm → Prop} {a : Int32} {M M' : Mm} (h : prM r G a M M') : a = nI 0 ∨ a = nI 1 := by
  unfold prM at h
  cases r with
  | inl e => exact Or.inl h.1
  | inr v => exact Or.inr h.1
theorem aboveN_s (x : Tx) (w u n p : Nat) (s : Rst) : aboveN x w u (n + 1) p s = if 6 ≤ wd x p ∧ wd x p ≤ 8 then pB (pMode x w u p s) (fun v => aboveN x w u n v.1 v.2) else .inr (p, s) := rfl
theorem rwA_last (hw : wfP P) : rwA P (nI (PL P) - 1) = uLast P := by
  unfold uLast
  have := hw.2.2.1
  by_cases h : PL P = 0
  · rw [if_pos h, h]; unfold rwA; rw [h]
    rw [if_neg (by decide)]
  · rw [if_neg h, nL1, nsb (by omega), rwA_n hw (by omega)]
theorem uLast_lt (hw : wfP P) : uLast P < 2 ^ Pw P := by
  unfold uLast; split
  · exact Nat.two_pow_pos _
  · exact hw.2.2.2.1 _ (by omega)
theorem cReadAbove (hM : CO M) (hx : isTx M x) (hk : isTk M x p) (hpx : p ≤ x.2) (hP : isPgC M 11 P) (hw : wfP P) (hl : PL P < 20) : Rn (fX3_readAbove 8) M (fun a M' => prM (pAboveT x P p) (atG x) a M M') := by
  have h40 := hw.2.1
  have h9 := hx.2.1
  have hb := hx.2.2.2
  have hu := uLast_lt hw
  unfold fX3_readAbove pAboveT
  rw [Rn_bnd, cA8_4 hM, Rn_bnd, cA8_3 hM, Rn_bnd, cA8_3 hM, Rn_bnd, Rn_gI, hP.2.1, Rn_bnd, cRowAt hM.p11 hP hw, rwA_last hw, Rn_bnd, cA8_3 hM, Rn_bnd, Rn_gI, hP.1, Rn_bnd]
  refine (cBegin h40 hu).mono ?_
  rintro - M0 ⟨x0, r0⟩
  have X0 := x0.mono xH_Pr
  have t0 := hx.pr X0
  rw [Rn_bnd, cA8_2 (hM.xf x0), Rn_bnd, Rn_gI, t0.1]
  generalize hA : aboveN x (Pw P) (uLast P) 1000 p (0, false, 0) = A0
  refine rn_loopv (F := fun n (s : Nat × Option (Nat × Rst)) => fX3_readAbove_L40 n 8 (nI (bN s.2.isSome)) (nI (x.2 - s.1))) (fun s M' => XF xPr M M' ∧ match s.2 with
    | none => ∃ e, pB A0 (fun v => pEnd x v.1 (decide (v.2.1 = Pw P + 1)) P v.2.2.2) = .inl e ∧ Mi M' 8 0 = nI e.1 ∧ Mi M' 8 1 = nI e.2
    | some v => Mi M' 8 0 = Mi M 8 0 ∧ Mi M' 8 1 = Mi M 8 1 ∧ moG x (Pw P) (uLast P) P v M' ∧ s.1 ≤ v.1 ∧ aboveN x (Pw P) (uLast P) (1000 - s.1) v.1 v.2 = A0) (fun s => match s.2 with | none => 0 | some v => x.2 - v.1 + 1) ?_ fu (0, some (p, (0, false, 0))) M0 (by show x.2 - p + 1 < fu; unfold fu; omega) ⟨X0, x0.mi rfl, x0.mi rfl, ⟨r0, hk.xf x0 (fun _ _ => rfl), hpx, hP.rd x0⟩, Nat.zero_le _, hA⟩
  rintro n ⟨k, o⟩ M1 ⟨x1, inv⟩ ih
  have m1 := hM.xf x1
  have t1 := hx.pr x1
  show Rn (fX3_readAbove_L40 (n + 1) 8 (nI (bN o.isSome)) (nI (x.2 - k))) M1 _
  cases o with
  | none =>
    obtain ⟨e, h1, h2, h3⟩ := inv
    have stop : Rn (fX3_readAbove_L138 8 (nI (bN false))) M1 (fun a M' => prM (pB A0 (fun v => pEnd x v.1 (decide (v.2.1 = Pw P + 1)) P v.2.2.2)) (atG x) a M M') := by
      unfold fX3_readAbove_L138
      rw [if_pos (by decide), Rn_grd, Rn_rtn, h1]
      exact ⟨by decide, rfl, h2, h3, x1⟩
    unfold fX3_readAbove_L40
    refine Rn_cs (show nI (x.2 - k) ≤ 0 ↔ x.2 - k ≤ 0 from nle (b := 0) (by omega) (by omega)) (fun _ => stop) (fun _ => ?_)
    rw [if_pos (by show nI (bN false) = 0; decide)]; exact stop
  | some v =>
    obtain ⟨q, s⟩ := v
    obtain ⟨e0, e1, ⟨hr, k1, hq, p1⟩, hkq, he⟩ := inv
    have hr : isRd M1 15 (Pw P) (uLast P) s := hr
    have k1 : isTk M1 x q := k1
    have hq : q ≤ x.2 := hq
    have hkq : k ≤ q := hkq
    have he : aboveN x (Pw P) (uLast P) (1000 - k) q s = A0 := he
    have hs3 : s.2.2 < 2 ^ Pw P := Nat.lt_of_lt_of_le hr.2.2 (pw_le (by have := hr.1.2.2.2.2.2; omega))
    -- no more modes
    have stop : ∀ M2, XF xPr M M2 → Mi M2 8 0 = Mi M 8 0 → Mi M2 8 1 = Mi M 8 1 → isRd M2 15 (Pw P) (uLast P) s → isTk M2 x q → isPgC M2 11 P → A0 = .inr (q, s) → Rn (fX3_readAbove_L138 8 (nI (bN true))) M2 (fun a M' => prM (pB A0 (fun v => pEnd x v.1 (decide (v.2.1 = Pw P + 1)) P v.2.2.2)) (atG x) a M M') := by
      rintro M2 x2 f0 f1 hr2 k2 p2 rfl
      have m2 := hM.xf x2
      unfold fX3_readAbove_L138
      rw [if_neg (by decide), Rn_bnd, cA8_4 m2, Rn_bnd, cHasEnd h40 hr2.1, Rn_bnd, cA8_4 m2, Rn_bnd, Rn_gJ, hr2.2.1, Rn_bnd]
      refine (cEndCode m2 (hx.pr x2) k2 p2 hw hl hs3).mono ?_
      intro a M3 h
      have h := h.tr x2 f0 f1
      rcases prM_a h with rfl | rfl
      · rw [if_pos (by decide), Rn_grd, Rn_rtn]; exact ⟨by decide, h⟩
      · rw [if_neg (by decide), Rn_grd, Rn_rtn]; exact ⟨by decide, h⟩
    unfold fX3_readAbove_L40
    have kl : tkK x q ≤ 6 := srt_le _
    have nomode : tkK x q ≠ 1 → A0 = .inr (q, s) := by
      intro h
      rw [← he, show 1000 - k = (999 - k) + 1 by omega, aboveN_s, if_neg]
      intro z
      exact h (wd_k (by omega))
    refine Rn_cs (show nI (x.2 - k) ≤ 0 ↔ x.2 - k ≤ 0 from nle (b := 0) (by omega) (by omega)) (fun g => ?_) (fun g => ?_)
    · have : tkK x q = 0 := (tkK_0 hb q).mpr (by have := tkS_ge hq; have := tkS_le x q; omega)
      exact stop M1 x1 e0 e1 hr k1 p1 (nomode (by omega))
    rw [if_neg (by show ¬ nI (bN true) = 0; decide), Rn_bnd, cA8_2 m1, Rn_bnd, Rn_gI, k1.1]
    refine Rn_cs (show nI (tkK x q) = 1 ↔ tkK x q = 1 from neq (b := 1) (by omega) (by omega)) (fun g1 => ?_) (fun g1 => stop M1 x1 e0 e1 hr k1 p1 (nomode g1))
    rw [Rn_bnd, cA8_4 m1, Rn_bnd]
    refine (cLook h40 hu hr.1).mono ?_
    rintro - M2 ⟨x2, l2⟩
    have y2 : XF (xH 15) M1 M2 := x2.mono (xLk_H _)
    have X2 : XF xPr M M2 := x1.tr (y2.mono xH_Pr)
    have m2 := hM.xf X2
    have t2 := hx.pr X2
    have k2 : isTk M2 x q := k1.xf y2 (fun _ _ => rfl)
    have p2 : isPgC M2 11 P := p1.rd y2
    have hr2 : isRd M2 15 (Pw P) (uLast P) s := hr.xf x2 (xLk_z _)
    have f0 : Mi M2 8 0 = Mi M 8 0 := (y2.mi rfl).trans e0
    have f1 : Mi M2 8 1 = Mi M 8 1 := (y2.mi rfl).trans e1
    have ek : nI (x.2 - k) + -1 = nI (x.2 - (k + 1)) := by rw [add_m1, nL1, nsb (by omega)]; congr 1
    -- behind a mode
    have go : (6 ≤ wd x q ∧ wd x q ≤ 8) → ∀ (a : Int32) (M3 : Mm), prM (pMode x (Pw P) (uLast P) q s) (moG x (Pw P) (uLast P) P) a M2 M3 → Rn (fX3_readAbove_L132 (fX3_readAbove_L40 n) 8 a (nI (x.2 - k))) M3 (fun a M' => prM (pB A0 (fun v => pEnd x v.1 (decide (v.2.1 = Pw P + 1)) P v.2.2.2)) (atG x) a M M') := by
      intro hwd a M3 h
      have h := h.tr X2 f0 f1
      unfold fX3_readAbove_L132
      rw [ek]
      have eA : A0 = pB (pMode x (Pw P) (uLast P) q s) (fun v => aboveN x (Pw P) (uLast P) (1000 - (k + 1)) v.1 v.2) := by
        rw [← he, show 1000 - k = (1000 - (k + 1)) + 1 by omega, aboveN_s, if_pos hwd]
      cases hm : pMode x (Pw P) (uLast P) q s with
      | inl e =>
        rw [hm] at h eA
        obtain ⟨rfl, h1, h2, h3⟩ := h
        exact ih (k + 1, none) M3 ⟨h3, e, by rw [eA]; rfl, h1, h2⟩ (by show 0 < x.2 - q + 1; omega)
      | inr v =>
        rw [hm] at h eA
        obtain ⟨rfl, h1, h2, h3, h4⟩ := h
        have gt := pMode_gt hb (show tkK x q ≠ 0 by omega) hq hm
        have vle := h4.2.2.1
        exact ih (k + 1, some v) M3 ⟨h1, h2, h3, h4, (by show k + 1 ≤ v.1; omega), eA.symm⟩ (by show x.2 - v.1 + 1 < x.2 - q + 1; omega)
    rw [Rn_bnd, cA8_2 m2, Rn_bnd, cWord m2 t2 k2 (i := 6) (w := 6) (by decide)]
    refine Rn_cs (bN_0 _) (fun q6 => ?_) (fun q6 => ?_)
    · have q6 : wd x q ≠ 6 := fun z => by rw [(wd_w (by omega)).mp z] at q6; cases q6
      rw [Rn_bnd, cA8_2 m2, Rn_bnd, cWord m2 t2 k2 (i := 7) (w := 7) (by decide)]
      refine Rn_cs (bN_0 _) (fun q7 => ?_) (fun q7 => ?_)
      · have q7 : wd x q ≠ 7 := fun z => by rw [(wd_w (by omega)).mp z] at q7; cases q7
        rw [Rn_bnd, cA8_2 m2, Rn_bnd, cWord m2 t2 k2 (i := 8) (w := 8) (by decide)]
        refine Rn_cs (bN_0 _) (fun q8 => ?_) (fun q8 => ?_)
        · have q8 : wd x q ≠ 8 := fun z => by rw [(wd_w (by omega)).mp z] at q8; cases q8
          have eA : A0 = .inr (q, s) := by
            rw [← he, show 1000 - k = (999 - k) + 1 by omega, aboveN_s, if_neg (by omega)]
          rw [Rn_bnd]
          refine (cFailHere (c := 1) m2 k2).mono ?_
          rintro a M3 ⟨rfl, h1, h2, h3⟩
          unfold fX3_readAbove_L132
          rw [ek]
          refine ih (k + 1, none) M3 ⟨X2.tr h3, (1, tkS x q), ?_, h1, h2⟩ (by show 0 < x.2 - q + 1; omega)
          rw [eA]
          show pEnd x q _ P _ = _
          unfold pEnd; rw [if_neg (by omega)]
        · have q8 : wd x q = 8 := (wd_w (by omega)).mpr (by simpa using q8)
          rw [Rn_bnd]
          refine (cReadHori m2 t2 k2 p2 rfl h40 hr2 q8).mono ?_
          intro a M3 h
          exact go (by omega) a M3 h
      · have q7 : wd x q = 7 := (wd_w (by omega)).mpr (by simpa using q7)
        rw [Rn_bnd]
        refine (cReadVert m2 t2 k2 p2 h40 hr2 l2 q7).mono ?_
        intro a M3 h
        exact go (by omega) a M3 h
    · have q6 : wd x q = 6 := (wd_w (by omega)).mpr (by simpa using q6)
      rw [Rn_bnd]
      refine (cReadPass m2 t2 k2 p2 h40 hr2 l2 q6).mono ?_
      intro a M3 h
      exact go (by omega) a M3 h
end CPar4

