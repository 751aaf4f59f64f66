/-! THE REFERENCE: a code by the line above -/
def moM (x : Tx) (w u : Nat) (P : Pg) (v : Nat × Rst) (M' : Mm) : Prop := mTk M' x v.1 ∧ v.1 ≤ x.2 ∧ rdSt M' w v.2 ∧ isRow (Mi M' 44) u ∧ Mi M' 38 9 = nI w ∧ isFr M' P
theorem mt_D (b : Nat) (hb : xMt 38 b = true) : xD 38 b = false := by unfold xMt at hb; unfold xD; simp at hb ⊢; omega
theorem rdSt.xf {X : Nat → Nat → Bool} {M M1 : Mm} {w : Nat} {s : Rst} (h : rdSt M w s) (f : XF X M M1) (z : X 38 16 = false) (z1 : X 38 17 = false) (z2 : ∀ b, X 50 b = false) : rdSt M1 w s :=
  ⟨by rw [f.mi z]; exact h.1, by rw [f.mi z1]; exact h.2.1, by rw [f.row z2]; exact h.2.2.1, h.2.2.2⟩
theorem moM.mt {x : Tx} {w u p p' : Nat} {s : Rst} {P : Pg} {M M1 : Mm} (h : moM x w u P (p, s) M) (f : XF xMt M M1) (k : mTk M1 x p') (hp : p' ≤ x.2) : moM x w u P (p', s) M1 :=
  ⟨k, hp, h.2.2.1.xf f rfl rfl (fun _ => rfl), by rw [f.row (fun _ => rfl)]; exact h.2.2.2.1, by rw [f.mi rfl]; exact h.2.2.2.2.1, h.2.2.2.2.2.xf f (fun _ => rfl)⟩
section MAb
variable {M : Mm} {x : Tx} {p : Nat} {P : Pg} {e : Nat × Nat} {w u : Nat}
theorem mOneE (h : erS M e) (k v : Int32) (b : Int32) : Rn (fX8_readsOne_L63 38 k v b) M (fun _ M' => M' = M) := by
  have l123 : ∀ a c d, Rn (fX8_readsOne_L123 38 k v a c d) M (fun _ M' => M' = M) := by
    intro a c d
    unfold fX8_readsOne_L123
    rw [Rn_bnd, Rn_gI, if_neg h.n0, Rn_rtn]
  have l103 : ∀ a c, Rn (fX8_readsOne_L103 38 k v a c) M (fun _ M' => M' = M) := by
    intro a c
    unfold fX8_readsOne_L103
    refine Rn_cs Iff.rfl (fun _ => ?_) (fun _ => l123 _ _ _)
    rw [Rn_bnd, Rn_gI, Rn_bnd, mReadsE h]; exact l123 _ _ _
  have l72 : Rn (fX8_readsOne_L72 38 k v b) M (fun _ M' => M' = M) := by
    unfold fX8_readsOne_L72
    refine Rn_cs Iff.rfl (fun _ => l103 _ _) (fun _ => ?_)
    refine Rn_cs Iff.rfl (fun _ => ?_) (fun _ => ?_)
    · rw [Rn_bnd, mReadsE h]; exact l103 _ _
    · rw [Rn_bnd, Rn_gI, Rn_bnd, mReadsE h]; exact l103 _ _
  unfold fX8_readsOne_L63
  refine Rn_cs Iff.rfl (fun _ => l72) (fun _ => ?_)
  rw [Rn_bnd, mGoE h]; exact l72
theorem mModeEnd (hM : MO M) (g : gd M) (h40 : w ≤ 40) {m : Md} (hm : mdOk m) {s : Rst} {pos p' : Nat} (h : moM x w u P (p', s) M) : Rn (fX8_readsOne_L146 38 (nI pos) m.2.2.1 m.2.1 m.1 38) M (fun _ M' => mP (pStep w u m s pos p') (moM x w u P) M M') := by
  unfold fX8_readsOne_L146 pStep
  rw [Rn_bnd]
  refine (mMode hM h.2.2.2.2.1 h40 h.2.2.2.1 hm h.2.2.1).mono ?_
  rintro a M1 ⟨rfl, x1, hs⟩
  have X1 := x1.mono xD_Mp
  refine Rn_cs (bN_0 _) (fun z => ?_) (fun z => ?_)
  · have : rStep w u m s = none := by cases hh : rStep w u m s with
      | none => rfl
      | some v => rw [hh] at z; cases z
    rw [this, Rn_bnd, Rn_pI, Rn_bnd, Rn_pI, Rn_rtn]
    exact ⟨(X1.sI rfl).sI rfl, by rw [Mi_sI, if_neg (by omega), sI_self]; rfl, sI_self, by show 1 ≤ 4; omega, by show 4 ≤ 5; omega⟩
  · cases hh : rStep w u m s with
    | none => rw [hh] at z; exact absurd rfl z
    | some v =>
      rw [Rn_rtn]
      refine ⟨X1, g.xf x1 rfl rfl, h.1.xf x1 mt_D, h.2.1, hs v hh, ?_, ?_, h.2.2.2.2.2.xf x1 (fun _ => rfl)⟩
      · rw [x1.row (fun _ => rfl)]; exact h.2.2.2.1
      · rw [x1.mi rfl]; exact h.2.2.2.2.1
theorem mOne (hM : MO M) (hx : isTxM M x) (g : gd M) (hW : isWd M) (h40 : w ≤ 40) {s : Rst} (h : moM x w u P (p, s) M) (h6 : 6 ≤ wd x p) (h8 : wd x p ≤ 8) : Rn (fX8_readsOne 38) M (fun _ M' => mP (pMode x w u p s) (moM x w u P) M M') := by
  have hb := hx.2.2.2
  have hk : mTk M x p := h.1
  have hs : rdSt M w s := h.2.2.1
  have s1 := hs.2.2.2.2
  have h9 : Mi M 38 9 = nI w := h.2.2.2.2.1
  obtain ⟨k, hk2, hwd⟩ : ∃ k, k ≤ 2 ∧ wd x p = 6 + k := ⟨wd x p - 6, by omega, by omega⟩
  have ew : ∀ k, k ≤ 2 → wdI (6 + k) - 6 = nI k := by decide
  have ew := ew k hk2
  unfold fX8_readsOne pMode
  rw [Rn_bnd, mWord hM hx hk hW, hwd, Rn_bnd, Rn_rtn, ew, Rn_bnd, Rn_gI, hs.1, Rn_bnd, Rn_gI, h9]
  refine Rn_cs (pl_ge (by omega) (by omega)) (fun z => ?_) (fun z => ?_)
  · rw [if_pos (by omega)]
    unfold fX8_readsOne_L25
    rw [Rn_bnd]
    refine mMustF (c := 4) g hk.2.1 (by omega) (by omega) (fun M1 x1 e1 => ?_)
    unfold fX8_readsOne_L62
    rw [Rn_bnd, Rn_gI, Rn_bnd, mGoE e1, Rn_bnd, Rn_gI, if_neg e1.n0]
    refine (mOneE e1 _ _ _).mono ?_
    rintro - M2 rfl
    exact ⟨x1.mono xEr_Mp, e1⟩
  · rw [if_neg (by omega)]
    unfold fX8_readsOne_L25
    rw [Rn_bnd, mMustT (by decide), Rn_bnd, Rn_gI, hk.2.1, Rn_bnd]
    refine mGo hM hx hk g (fun M1 x1 m1 t1 k1 g1 => ?_)
    have X1 := x1.mono xMt_Mp
    have el := tkE_le hb p
    have h1 : moM x w u P (tkE x p, s) M1 := h.mt x1 k1 el
    have s9 : Mi M1 38 9 = nI w := h1.2.2.2.2.1
    rw [Rn_bnd, Rn_gI, g1.1, if_pos (by decide)]
    -- the end, in an error that was told
    have bad : ∀ {α : Type} (G : α → Mm → Prop) (e : Nat × Nat) (M2 : Mm) (a c : Int32) (kk : Int32), XF xMp M M2 → erS M2 e → Rn (fX8_readsOne_L103 38 kk (nI (tkS x p)) a c) M2 (fun _ M' => mP (.inl e) G M M') := by
      intro α G e M2 a c kk x2 e2
      have l123 : ∀ a c d, Rn (fX8_readsOne_L123 38 kk (nI (tkS x p)) a c d) M2 (fun _ M' => mP (.inl e) G M M') := by
        intro a c d
        unfold fX8_readsOne_L123
        rw [Rn_bnd, Rn_gI, if_neg e2.n0, Rn_rtn]; exact ⟨x2, e2⟩
      unfold fX8_readsOne_L103
      refine Rn_cs Iff.rfl (fun _ => ?_) (fun _ => l123 _ _ _)
      rw [Rn_bnd, Rn_gI, Rn_bnd, mReadsE e2]; exact l123 _ _ _
    rcases (show k = 0 ∨ k = 1 ∨ k = 2 by omega) with rfl | rfl | rfl
    · unfold fX8_readsOne_L62 fX8_readsOne_L63 fX8_readsOne_L72 fX8_readsOne_L103 fX8_readsOne_L123
      rw [if_neg (by decide), if_pos rfl, if_pos (by decide), if_neg (by decide), Rn_bnd, Rn_gI, g1.1, if_pos (by decide), if_pos rfl, if_pos (by omega)]
      refine (mModeEnd m1 g1 h40 (m := (nI 0, nI 0, nI 0, 0)) (pos := tkS x p) (Or.inl rfl) h1).mono ?_
      intro _ M2 q
      exact q.tr X1
    · rw [if_pos (by decide), if_neg (by omega), if_pos (by omega)]
      have kl : tkK x (tkE x p) ≤ 6 := srt_le _
      have s6 := srM_le kl
      have num : ∀ (mi : Bool) (q : Nat) (M2 : Mm), mi = decide (tkK x (tkE x p) = 4) → XF xMp M M2 → gd M2 → moM x w u P (q, s) M2 → Rn (fX8_readsOne_L72 38 (nI 1) (nI (tkS x p)) (nI (bN mi))) M2 (fun _ M' => mP (pB (pNum x q 0 3) (fun v => pStep w u (nI 1, if tkK x (tkE x p) = 4 then -nI v.1 else nI v.1, nI 0, 0) s (tkS x p) v.2)) (moM x w u P) M M') := by
        intro mi q M2 hmi x2 g2 h2
        have m2 := hM.xf x2
        have t2 := hx.mp x2
        unfold fX8_readsOne_L72
        rw [if_neg (by decide), if_pos (by decide), Rn_bnd, show (0 : Int32) = nI 0 from rfl, show (3 : Int32) = nI 3 from rfl]
        refine mReadsN m2 t2 h2.1 g2 (by omega) (by omega) (fun e hn M3 x3 e3 => ?_) (fun h2' _ h3 M3 x3 m3 t3 k3 g3 => ?_)
        · rw [hn]
          exact bad _ e M3 _ _ _ (x2.tr (x3.mono xEr_Mp)) e3
        · have pn : pNum x q 0 3 = .inr (dcv x q, tkE x q) := by unfold pNum; rw [if_pos h2', if_pos ⟨Nat.zero_le _, h3⟩]
          have hm3 : moM x w u P (tkE x q, s) M3 := h2.mt x3 k3 (tkE_le hb q)
          generalize hd : dcv x q = d at h3 pn ⊢
          have X3 := x2.tr (x3.mono xMt_Mp)
          rw [pn]
          unfold fX8_readsOne_L103 fX8_readsOne_L123
          rw [if_neg (by decide), Rn_bnd, Rn_gI, g3.1, if_pos (by decide)]
          have neg : ∀ d, d ≤ 3 → -nI d = nI (3 - d) - nI 3 := by decide
          have pos : ∀ d, d ≤ 3 → nI d = nI (d + 3) - nI 3 := by decide
          refine Rn_cs (bN_0 mi) (fun y => ?_) (fun y => ?_)
          · have z4 : ¬ tkK x (tkE x p) = 4 := by rw [y] at hmi; simpa using hmi
            show Rn _ _ (fun _ M' => mP (pStep w u (nI 1, (if tkK x (tkE x p) = 4 then -nI d else nI d), nI 0, 0) s (tkS x p) (tkE x q)) (moM x w u P) M M')
            rw [if_neg z4]
            refine (mModeEnd m3 g3 h40 (m := (nI 1, nI d, nI 0, 0)) (pos := tkS x p) (Or.inr (Or.inl ⟨rfl, d + 3, by omega, pos d h3⟩)) hm3).mono ?_
            intro _ M4 q4
            exact q4.tr X3
          · have z4 : tkK x (tkE x p) = 4 := by rw [show mi = true by simpa using y] at hmi; simpa using hmi
            show Rn _ _ (fun _ M' => mP (pStep w u (nI 1, (if tkK x (tkE x p) = 4 then -nI d else nI d), nI 0, 0) s (tkS x p) (tkE x q)) (moM x w u P) M M')
            rw [if_pos z4]
            refine (mModeEnd m3 g3 h40 (m := (nI 1, -nI d, nI 0, 0)) (pos := tkS x p) (Or.inr (Or.inl ⟨rfl, 3 - d, by omega, neg d h3⟩)) hm3).mono ?_
            intro _ M4 q4
            exact q4.tr X3
      have s5 : srM (tkK x (tkE x p)) = 5 ↔ tkK x (tkE x p) = 4 := by unfold srM; repeat' split
                                                                      all_goals omega
      rw [Rn_bnd, Rn_gI, k1.2.2.1]
      unfold fX8_readsOne_L62 fX8_readsOne_L63
      refine Rn_cs ((show nI (srM (tkK x (tkE x p))) = 5 ↔ srM (tkK x (tkE x p)) = 5 from neq (b := 5) (by omega) (by omega)).trans s5) (fun y => ?_) (fun y => ?_)
      · rw [if_neg (by decide), if_pos y, Rn_bnd]
        refine mGo m1 t1 k1 g1 (fun M2 x2 m2 t2 k2 g2 => ?_)
        exact num true (tkE x (tkE x p)) M2 (by simp [y]) (X1.tr (x2.mono xMt_Mp)) g2 (h1.mt x2 k2 (tkE_le hb _))
      · rw [if_pos rfl, if_neg y]
        exact num false (tkE x p) M1 (by simp [y]) X1 g1 h1
    · rw [if_neg (by decide), if_neg (by omega), if_neg (by omega)]
      unfold fX8_readsOne_L62 fX8_readsOne_L63 fX8_readsOne_L72
      rw [if_pos rfl, if_neg (by decide), if_neg (by decide), Rn_bnd, Rn_gI, s9, Rn_bnd]
      show Rn (fX8_reads 38 (nI 0) (nI w)) M1 _
      refine mReadsN m1 t1 k1 g1 (by omega) (by omega) (fun e hn M2 x2 e2 => ?_) (fun h2 _ h3 M2 x2 m2 t2 k2 g2 => ?_)
      · rw [hn]
        exact bad _ e M2 _ _ _ (X1.tr (x2.mono xEr_Mp)) e2
      · have pn : pNum x (tkE x p) 0 w = .inr (dcv x (tkE x p), tkE x (tkE x p)) := by unfold pNum; rw [if_pos h2, if_pos ⟨Nat.zero_le _, h3⟩]
        have hm2 : moM x w u P (tkE x (tkE x p), s) M2 := h1.mt x2 k2 (tkE_le hb _)
        have X2 := X1.tr (x2.mono xMt_Mp)
        generalize hd : dcv x (tkE x p) = a at h3 pn ⊢
        rw [pn]
        unfold fX8_readsOne_L103
        rw [if_pos (by decide), Rn_bnd, Rn_gI, hm2.2.2.2.2.1, Rn_bnd]
        show Rn (fX8_reads 38 (nI 0) (nI w)) M2 (fun _ _ => Rn _ _ (fun _ M' => mP (pB (pNum x (tkE x (tkE x p)) 0 w) (fun v2 => pStep w u (nI 2, nI a, nI v2.1, 0) s (tkS x p) v2.2)) (moM x w u P) M M'))
        refine mReadsN m2 t2 k2 g2 (by omega) (by omega) (fun e hn M3 x3 e3 => ?_) (fun h2' _ h3' M3 x3 m3 t3 k3 g3 => ?_)
        · rw [hn]
          unfold fX8_readsOne_L123
          rw [Rn_bnd, Rn_gI, if_neg e3.n0, Rn_rtn]
          exact ⟨X2.tr (x3.mono xEr_Mp), e3⟩
        · have pn2 : pNum x (tkE x (tkE x p)) 0 w = .inr (dcv x (tkE x (tkE x p)), tkE x (tkE x (tkE x p))) := by unfold pNum; rw [if_pos h2', if_pos ⟨Nat.zero_le _, h3'⟩]
          have hm3 : moM x w u P (tkE x (tkE x (tkE x p)), s) M3 := hm2.mt x3 k3 (tkE_le hb _)
          have X3 := X2.tr (x3.mono xMt_Mp)
          generalize hd2 : dcv x (tkE x (tkE x p)) = b at h3' pn2 ⊢
          rw [pn2]
          unfold fX8_readsOne_L123
          rw [Rn_bnd, Rn_gI, g3.1, if_pos (by decide), if_pos rfl]
          refine (mModeEnd m3 g3 h40 (m := (nI 2, nI a, nI b, 0)) (pos := tkS x p) (Or.inr (Or.inr ⟨rfl, a, b, by omega, by omega, rfl, rfl⟩)) hm3).mono ?_
          intro _ M4 q4
          exact q4.tr X3
theorem mFullBE (h : erS M e) : Rn (fX8_readsAbove_L28 38) M (fun _ M' => M' = M) := by
  have l42 : ∀ b, Rn (fX8_readsAbove_L42 38 b 38) M (fun _ M' => M' = M) := by
    intro b
    unfold fX8_readsAbove_L42 fX8_readsAbove_L63
    rw [Rn_bnd, mMustE h, Rn_bnd, Rn_gI, Rn_bnd, Rn_gI]
    refine Rn_cs Iff.rfl (fun _ => ?_) (fun _ => ?_)
    · rw [Rn_bnd, mMustE h, Rn_rtn]
    · rw [Rn_bnd, mMustE h, Rn_rtn]
  unfold fX8_readsAbove_L28
  rw [Rn_bnd, Rn_gI]
  exact Rn_cs Iff.rfl (fun _ => l42 1) (fun _ => l42 0)
theorem mFullB (g : gd M) (hw : wfP P) {s : Rst} (h : moM x (Pw P) u P (p, s) M) : Rn (fX8_readsAbove_L28 38) M (fun _ M' => mP (pFull x p (decide (s.1 = Pw P + 1)) s.2.2) (lnG x P) M M') := by
  have h40 := hw.2.1
  have k6 : tkK x p ≤ 6 := srt_le _
  have s6 := srM_le k6
  have hk : mTk M x p := h.1
  have hs : rdSt M (Pw P) s := h.2.2.1
  have s1 := hs.2.2.2.2
  unfold fX8_readsAbove_L28 pFull
  rw [Rn_bnd, Rn_gI, hk.2.2.1]
  refine Rn_cs ((show nI (srM (tkK x p)) = 4 ↔ srM (tkK x p) = 4 from neq (b := 4) (by omega) (by omega)).trans (srM_4 _)) (fun z => ?_) (fun z => ?_)
  · unfold fX8_readsAbove_L42 fX8_readsAbove_L63
    rw [if_pos z, Rn_bnd, mMustT (by decide), Rn_bnd, Rn_gI, hs.1, Rn_bnd, Rn_gI, h.2.2.2.2.1]
    refine Rn_cs (pl_eq (by omega) (by omega)) (fun q => ?_) (fun q => ?_)
    · rw [if_pos (by simp [q]), Rn_bnd, mMustT (by decide), Rn_rtn]
      exact ⟨XF.rf, g, hk, h.2.1, hs.2.2.1, Nat.lt_of_lt_of_le hs.2.2.2.1 (pw_le (by omega)), h.2.2.2.2.1, h.2.2.2.2.2⟩
    · rw [if_neg (by simp [q]), Rn_bnd]
      refine mMustF (c := 3) g hk.2.1 (by omega) (by omega) (fun M1 x1 e1 => ?_)
      rw [Rn_rtn]; exact ⟨x1.mono xEr_Mp, e1⟩
  · unfold fX8_readsAbove_L42 fX8_readsAbove_L63
    rw [if_neg z, Rn_bnd]
    refine mMustF (c := 1) g hk.2.1 (by omega) (by omega) (fun M1 x1 e1 => ?_)
    rw [Rn_bnd, Rn_gI, Rn_bnd, Rn_gI]
    refine Rn_cs Iff.rfl (fun _ => ?_) (fun _ => ?_)
    · rw [Rn_bnd, mMustE e1, Rn_rtn]; exact ⟨x1.mono xEr_Mp, e1⟩
    · rw [Rn_bnd, mMustE e1, Rn_rtn]; exact ⟨x1.mono xEr_Mp, e1⟩
theorem mAboveR (hM : MO M) (hx : isTxM M x) (g : gd M) (hW : isWd M) (hw : wfP P) (h : moM x (Pw P) u P (p, (0, false, 0)) M) : Rn (fX8_readsAbove 38) M (fun _ M' => mP (pB (aboveN x (Pw P) u 1000 p (0, false, 0)) (fun v => pFull x v.1 (decide (v.2.1 = Pw P + 1)) v.2.2.2)) (lnG x P) M M') := by
  have h40 := hw.2.1
  have h900 := hx.2.1
  have hb := hx.2.2.2
  generalize hA : aboveN x (Pw P) u 1000 p (0, false, 0) = A0
  unfold fX8_readsAbove
  have hp : p ≤ x.2 := h.2.1
  refine rn_loopv (F := fun n (_ : Nat × Option (Nat × Rst)) => fX8_readsAbove_L0 n 38) (fun s M' => XF xMp M M' ∧ match s.2 with
    | none => ∃ e, pB A0 (fun v => pFull x v.1 (decide (v.2.1 = Pw P + 1)) v.2.2.2) = .inl e ∧ erS M' e
    | some v => gd M' ∧ moM x (Pw P) u P v M' ∧ s.1 ≤ v.1 ∧ aboveN x (Pw P) u (1000 - s.1) v.1 v.2 = A0) (fun s => match s.2 with | none => 0 | some v => x.2 - v.1 + 1) ?_ fu (0, some (p, (0, false, 0))) M (by show x.2 - p + 1 < fu; unfold fu; omega) ⟨XF.rf, g, h, Nat.zero_le _, hA⟩
  rintro n ⟨k, o⟩ M1 ⟨x1, inv⟩ ih
  have m1 := hM.xf x1
  have t1 := hx.mp x1
  show Rn (fX8_readsAbove_L0 (n + 1) 38) M1 _
  unfold fX8_readsAbove_L0
  cases o with
  | none =>
    obtain ⟨e, he, hE⟩ := inv
    rw [Rn_bnd, Rn_gI, if_neg hE.n0]
    refine (mFullBE hE).mono ?_
    rintro - M2 rfl
    rw [he]; exact ⟨x1, hE⟩
  | some v =>
    obtain ⟨q, s⟩ := v
    obtain ⟨g1, h1, hkq, he⟩ := inv
    have g1 : gd M1 := g1
    have h1 : moM x (Pw P) u P (q, s) M1 := h1
    have hkq : k ≤ q := hkq
    have hq : q ≤ x.2 := h1.2.1
    have he : aboveN x (Pw P) u (1000 - k) q s = A0 := he
    have he' : A0 = if 6 ≤ wd x q ∧ wd x q ≤ 8 then pB (pMode x (Pw P) u q s) (fun v => aboveN x (Pw P) u (1000 - (k + 1)) v.1 v.2) else .inr (q, s) := by
      rw [← he, show 1000 - k = (1000 - (k + 1)) + 1 by omega, aboveN_s]
    rw [Rn_bnd, Rn_gI, g1.1, if_pos (by decide), Rn_bnd, mWord m1 t1 (show mTk M1 x q from h1.1) (hW.mp x1), Rn_bnd, mInW (lo := 6) (hi := 8) (l := 6) (h := 8) (wd_le x q) (by omega) rfl rfl (by omega)]
    refine Rn_cs (bN_0 _) (fun z => ?_) (fun z => ?_)
    · have z : ¬ (6 ≤ wd x q ∧ wd x q ≤ 8) := by simpa using z
      rw [if_neg z] at he'
      refine (mFullB g1 hw h1).mono ?_
      intro _ M2 y
      rw [he']
      exact y.tr x1
    · have z : 6 ≤ wd x q ∧ wd x q ≤ 8 := by simpa using z
      rw [if_pos z] at he'
      rw [Rn_bnd]
      refine (mOne m1 t1 g1 (hW.mp x1) h40 h1 z.1 z.2).mono ?_
      intro _ M2 y
      have y := y.tr x1
      cases hm : pMode x (Pw P) u q s with
      | inl e =>
        rw [hm] at y he'
        exact ih (k + 1, none) M2 ⟨y.1, e, by rw [he']; rfl, y.2⟩ (by show 0 < x.2 - q + 1; omega)
      | inr v =>
        rw [hm] at y he'
        have k0 := wd_k (x := x) (p := q) (by omega)
        have gt := pMode_gt hb (show tkK x q ≠ 0 by omega) hq hm
        have vle := pMode_le hb hm
        exact ih (k + 1, some v) M2 ⟨y.1, y.2.1, y.2.2, (by show k + 1 ≤ v.1; omega), he'.symm⟩ (by show x.2 - v.1 + 1 < x.2 - q + 1; omega)
end MAb
