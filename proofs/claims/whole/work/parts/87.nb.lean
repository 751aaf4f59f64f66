/-! THE REFERENCE: a code alone -/
def pFull (x : Tx) (p : Nat) (full : Bool) (row : Nat) : Pe (Nat × Nat) := if tkK x p = 5 then (if full = true then .inr (p, row) else .inl (3, tkS x p)) else .inl (1, tkS x p)
theorem pEnd_eq (x : Tx) (p : Nat) (full : Bool) (P : Pg) (row : Nat) : pEnd x p full P row = pB (pFull x p full row) (fun v => pB (pSemi x v.1) (fun p' => .inr (pAdd P v.2, p'))) := by
  unfold pEnd pFull
  by_cases h : tkK x p = 5
  · rw [if_pos h, if_pos h]
    by_cases h2 : full = true
    · rw [if_pos h2, if_pos h2]
      show _ = pB (pSemi x p) (fun p' => .inr (pAdd P row, p'))
      unfold pSemi
      rw [if_pos h]; rfl
    · rw [if_neg h2, if_neg h2]; rfl
  · rw [if_neg h, if_neg h]; rfl
theorem pB_as {α β γ : Type} (a : Pe α) (g : α → Pe β) (h : β → Pe γ) : pB (pB a g) h = pB a (fun v => pB (g v) h) := by cases a <;> rfl
section MAl
variable {M : Mm} {x : Tx} {p : Nat} {P : Pg} {e : Nat × Nat}
theorem mFullAE (h : erS M e) (v : Int32) : Rn (fX8_readsAlone_L100 38 v) M (fun _ M' => M' = M) := by
  have l114 : ∀ b, Rn (fX8_readsAlone_L114 38 v b 38) M (fun _ M' => M' = M) := by
    intro b
    unfold fX8_readsAlone_L114 fX8_readsAlone_L132
    rw [Rn_bnd, mMustE h, Rn_bnd, Rn_gI]
    refine Rn_cs Iff.rfl (fun _ => ?_) (fun _ => ?_)
    · rw [Rn_bnd, mMustE h, Rn_rtn]
    · rw [Rn_bnd, mMustE h, Rn_rtn]
  unfold fX8_readsAlone_L100
  rw [Rn_bnd, Rn_gI]
  exact Rn_cs Iff.rfl (fun _ => l114 1) (fun _ => l114 0)
theorem mFullA (hk : mTk M x p) (g : gd M) (hw : wfP P) {f r : Nat} (hf : f ≤ Pw P) (hG : lnG x P (p, r) M) : Rn (fX8_readsAlone_L100 38 (nI f)) M (fun _ M' => mP (pFull x p (decide (f = Pw P)) r) (lnG x P) M M') := by
  have h40 := hw.2.1
  have k6 : tkK x p ≤ 6 := srt_le _
  have s6 := srM_le k6
  have h9 : Mi M 38 9 = nI (Pw P) := hG.2.2.2.2.1
  unfold fX8_readsAlone_L100 pFull
  rw [Rn_bnd, Rn_gI, hk.2.2.1]
  refine Rn_cs ((show nI (srM (tkK x p)) = 4 ↔ srM (tkK x p) = 4 from neq (b := 4) (by omega) (by omega)).trans (srM_4 _)) (fun h => ?_) (fun h => ?_)
  · unfold fX8_readsAlone_L114 fX8_readsAlone_L132
    rw [if_pos h, Rn_bnd, mMustT (by decide), Rn_bnd, Rn_gI, h9]
    refine Rn_cs (neq (by omega) (by omega)) (fun q => ?_) (fun q => ?_)
    · rw [if_pos (by simp [q]), Rn_bnd, mMustT (by decide), Rn_rtn]
      exact ⟨XF.rf, g, hG⟩
    · rw [if_neg (by simp [q]), Rn_bnd]
      refine mMustF (c := 3) g hk.2.1 (by omega) (by omega) (fun M1 x1 e1 => ?_)
      rw [Rn_rtn]; exact ⟨x1.mono xEr_Mp, e1⟩
  · unfold fX8_readsAlone_L114 fX8_readsAlone_L132
    rw [if_neg h, Rn_bnd]
    refine mMustF (c := 1) g hk.2.1 (by omega) (by omega) (fun M1 x1 e1 => ?_)
    rw [Rn_bnd, Rn_gI]
    refine Rn_cs Iff.rfl (fun _ => ?_) (fun _ => ?_)
    · rw [Rn_bnd, mMustE e1, Rn_rtn]; exact ⟨x1.mono xEr_Mp, e1⟩
    · rw [Rn_bnd, mMustE e1, Rn_rtn]; exact ⟨x1.mono xEr_Mp, e1⟩
theorem mAloneR (hM : MO M) (hx : isTxM M x) (hk : mTk M x p) (hp : p ≤ x.2) (g : gd M) (hF : isFr M P) (hw : wfP P) (h9 : Mi M 38 9 = nI (Pw P)) (hr : isRow (Mi M 50) 0) : Rn (fX8_readsAlone 38) M (fun _ M' => mP (pB (aloneN x (Pw P) 1000 p 0 false 0 true) (fun v => pFull x v.1 (decide (v.2.1 = Pw P)) v.2.2)) (lnG x P) M M') := by
  have h40 := hw.2.1
  have h900 := hx.2.1
  have hb := hx.2.2.2
  generalize hA : aloneN x (Pw P) 1000 p 0 false 0 true = A0
  unfold fX8_readsAlone
  show Rn (fX8_readsAlone_L6 fu 38 (nI 0) (nI (bN false)) (nI (bN true))) M _
  refine rn_loopv (F := fun n (s : Nat × Bool × Bool × Option (Nat × Nat × Nat)) => fX8_readsAlone_L6 n 38 (nI s.1) (nI (bN s.2.1)) (nI (bN s.2.2.1))) (fun s M' => XF xMp M M' ∧ s.1 ≤ Pw P ∧ match s.2.2.2 with
    | none => s.2.2.1 = false ∧ ∃ e, pB A0 (fun v => pFull x v.1 (decide (v.2.1 = Pw P)) v.2.2) = .inl e ∧ erS M' e
    | some v => gd M' ∧ mTk M' x v.2.1 ∧ v.2.1 ≤ x.2 ∧ v.1 ≤ v.2.1 ∧ isRow (Mi M' 50) v.2.2 ∧ v.2.2 < 2 ^ s.1 ∧ Mi M' 38 9 = nI (Pw P) ∧ isFr M' P ∧ aloneN x (Pw P) (1000 - v.1) v.2.1 s.1 s.2.1 v.2.2 s.2.2.1 = A0) (fun s => match s.2.2.2 with | none => 0 | some v => x.2 - v.2.1 + 1) ?_ fu (0, false, true, some (0, p, 0)) M (by show x.2 - p + 1 < fu; unfold fu; omega) ⟨XF.rf, Nat.zero_le _, g, hk, hp, Nat.zero_le _, hr, Nat.two_pow_pos _, h9, hF, hA⟩
  rintro n ⟨f, c, first, o⟩ M1 ⟨x1, hf, inv⟩ ih
  have hf : f ≤ Pw P := hf
  have m1 := hM.xf x1
  have t1 := hx.mp x1
  show Rn (fX8_readsAlone_L6 (n + 1) 38 (nI f) (nI (bN c)) (nI (bN first))) M1 _
  cases o with
  | none =>
    obtain ⟨hfi, e, he, hE⟩ := inv
    have hfi : first = false := hfi
    subst hfi
    unfold fX8_readsAlone_L6
    rw [if_pos (by decide), Rn_bnd, Rn_gI, if_neg hE.n0]
    refine (mFullAE hE _).mono ?_
    rintro - M2 rfl
    rw [he]; exact ⟨x1, hE⟩
  | some v =>
    obtain ⟨k, q, r⟩ := v
    obtain ⟨g1, k1, hq, hkq, r1, hr1, f9, F1, he⟩ := inv
    have g1 : gd M1 := g1
    have k1 : mTk M1 x q := k1
    have hq : q ≤ x.2 := hq
    have hkq : k ≤ q := hkq
    have r1 : isRow (Mi M1 50) r := r1
    have hr1 : r < 2 ^ f := hr1
    have he : aloneN x (Pw P) (1000 - k) q f c r first = A0 := he
    have kl : tkK x q ≤ 6 := srt_le _
    have s6 := srM_le kl
    have he' : A0 = if first = true ∨ tkK x q = 2 then pB (pNum x q (if first = true then 0 else 1) (Pw P)) (fun v => if Pw P < f + v.1 then .inl (4, tkS x q) else aloneN x (Pw P) (1000 - (k + 1)) v.2 (f + v.1) (!c) (pnt r f (f + v.1) c) false) else .inr (q, f, r) := by
      rw [← he, show 1000 - k = (1000 - (k + 1)) + 1 by omega, aloneN_s]
    -- behind an error
    have bad : ∀ M2 e, XF xMp M M2 → erS M2 e → A0 = .inl e → Rn (fX8_readsAlone_L91 (fX8_readsAlone_L6 n) 38 (nI f) (nI (bN c))) M2 (fun _ M' => mP (pB A0 (fun v => pFull x v.1 (decide (v.2.1 = Pw P)) v.2.2)) (lnG x P) M M') := by
      intro M2 e x2 e2 hA0
      unfold fX8_readsAlone_L91
      rw [Rn_bnd, mGoE e2]
      exact ih (f, c, false, none) M2 ⟨x2, hf, rfl, e, by rw [hA0]; rfl, e2⟩ (by show 0 < x.2 - q + 1; omega)
    -- a number is wanted here
    have body : (first = true ∨ tkK x q = 2) → ∀ lo : Nat, lo = (if first = true then 0 else 1) → Rn (fX8_readsAlone_L35 (fX8_readsAlone_L6 n) 38 (nI f) (nI (bN c)) (nI lo) 38) M1 (fun _ M' => mP (pB A0 (fun v => pFull x v.1 (decide (v.2.1 = Pw P)) v.2.2)) (lnG x P) M M') := by
      intro hyes lo hlo
      rw [if_pos hyes, ← hlo] at he'
      have l1 : lo ≤ 1 := by rw [hlo]; split <;> omega
      unfold fX8_readsAlone_L35
      rw [Rn_bnd, Rn_gI, f9, Rn_bnd]
      refine mLooks t1 k1 g1 (by omega) (by omega) (fun e hn M2 x2 e2 => ?_) (fun h2 h3 h4 => ?_)
      · rw [hn] at he'
        have X2 := x1.tr (x2.mono xEr_Mp)
        rw [Rn_bnd, Rn_gI]
        have l61 : ∀ b, Rn (fX8_readsAlone_L61 (fX8_readsAlone_L6 n) 38 (nI f) (nI (bN c)) (nI lo) b 38) M2 (fun _ M' => mP (pB A0 (fun v => pFull x v.1 (decide (v.2.1 = Pw P)) v.2.2)) (lnG x P) M M') := by
          intro b
          unfold fX8_readsAlone_L61
          rw [Rn_bnd, mMustE e2, Rn_bnd, Rn_gI, if_neg e2.n0]
          exact bad M2 e X2 e2 he'
        exact Rn_cs Iff.rfl (fun _ => l61 0) (fun _ => l61 1)
      · have pn : pNum x q lo (Pw P) = .inr (dcv x q, tkE x q) := by unfold pNum; rw [if_pos h2, if_pos ⟨h3, h4⟩]
        have he2 : A0 = if Pw P < f + dcv x q then .inl (4, tkS x q) else aloneN x (Pw P) (1000 - (k + 1)) (tkE x q) (f + dcv x q) (!c) (pnt r f (f + dcv x q) c) false := by rw [he', pn]; rfl
        have eg := tkE_gt hb (p := q) (by omega)
        have sg := tkS_ge hq
        have el := tkE_le hb q
        rw [Rn_bnd, Rn_gI, f9, nI_add]
        refine Rn_cs (nlt (by omega) (by omega)) (fun z => ?_) (fun z => ?_)
        · rw [if_pos z] at he2
          unfold fX8_readsAlone_L61
          rw [Rn_bnd]
          refine mMustF (c := 4) g1 k1.2.1 (by omega) (by omega) (fun M2 x2 e2 => ?_)
          rw [Rn_bnd, Rn_gI, if_neg e2.n0]
          exact bad M2 _ (x1.tr (x2.mono xEr_Mp)) e2 he2
        · rw [if_neg z] at he2
          unfold fX8_readsAlone_L61
          rw [Rn_bnd, mMustT (by decide), Rn_bnd, Rn_gI, g1.1, if_pos (by decide), nI_add, Rn_bnd]
          refine (mPaints m1 c r1 (show f ≤ f + dcv x q by omega) (by omega) hr1).mono ?_
          rintro - M2 ⟨x2, h38, r2⟩
          have X2 := x1.tr (x2.mono xD_Mp)
          unfold fX8_readsAlone_L91
          rw [Rn_bnd, Rn_rtn, Rn_bnd, Rn_rtn, nL1, bN_1, Rn_bnd]
          refine mGo (hM.xf X2) (hx.mp X2) (k1.xf x2 (fun b hb => by unfold xMt at hb; unfold xD; simp at hb ⊢; omega)) (g1.xf x2 rfl rfl) (fun M3 x3 m3 t3 k3 g3 => ?_)
          refine ih (f + dcv x q, !c, false, some (k + 1, tkE x q, pnt r f (f + dcv x q) c)) M3 ⟨X2.tr (x3.mono xMt_Mp), (by show f + dcv x q ≤ Pw P; omega), g3, k3, el, (by show k + 1 ≤ tkE x q; omega), ?_, pnt_lt (by omega) hr1, ?_, (F1.xf x2 (fun _ => rfl)).xf x3 (fun _ => rfl), he2.symm⟩ (by show x.2 - tkE x q + 1 < x.2 - q + 1; omega)
          · show isRow (Mi M3 50) _
            rw [x3.row (fun _ => rfl)]; exact r2
          · show Mi M3 38 9 = _
            rw [x3.mi rfl, h38]; exact f9
    unfold fX8_readsAlone_L6 fX8_readsAlone_L25
    refine Rn_cs (bN_0 first) (fun z => ?_) (fun z => ?_)
    · rw [Rn_bnd, Rn_gI, g1.1, if_pos (by decide), Rn_bnd, Rn_gI, k1.2.2.1]
      have s2 : srM (tkK x q) = 2 ↔ tkK x q = 2 := by unfold srM; repeat' split
                                                      all_goals omega
      refine Rn_cs ((show nI (srM (tkK x q)) = 2 ↔ srM (tkK x q) = 2 from neq (b := 2) (by omega) (by omega)).trans s2) (fun h2 => ?_) (fun h2 => ?_)
      · rw [if_pos (show nI (bN first) = 0 from (bN_0 first).mpr z)]
        exact body (Or.inr h2) 1 (by rw [z]; rfl)
      · have eA : A0 = .inr (q, f, r) := by rw [he', if_neg (fun y => y.elim (fun y => by rw [z] at y; cases y) h2)]
        refine (mFullA k1 g1 hw hf ⟨k1, hq, r1, Nat.lt_of_lt_of_le hr1 (pw_le hf), f9, F1⟩).mono ?_
        intro _ M2 h
        rw [eA]
        exact h.tr x1
    · have z : first = true := by simpa using z
      rw [if_neg (show ¬ nI (bN first) = 0 by rw [z]; decide)]
      exact body (Or.inl z) 0 (by rw [if_pos z])
end MAl
