/-! THE CLASS: statements with numbers -/
section CPar2
variable {M : Mm} {x : Tx} {p : Nat} {P : Pg}
theorem cNN0 {β : Type} {G : β → Mm → Prop} {f : Nat × Nat → Pe β} {F : Mm → Option (Int32 × Mm)} {M0 : Mm} (X : XF xPr M0 M) (e0 : Mi M 8 0 = Mi M0 8 0) (e1 : Mi M 8 1 = Mi M0 8 1) (hM : CO M) (hx : isTx M x) (hk : isTk M x p) {lo hi : Nat} (hlo : lo < 1000) (hhi : hi < 1000) (k : tkK x p = 2 → lo ≤ dcv x p → dcv x p ≤ hi → Rn F M (fun a M' => prM (f (dcv x p, tkE x p)) G a M0 M')) : Rn (bnd (fX3_needNumber 8 (nI lo) (nI hi)) fun v => if (v : Int32) = 0 then grd ((0 : Int32) == 0 || (0 : Int32) == 1) (rtn 0) else F) M (fun a M' => prM (pB (pNum x p lo hi) f) G a M0 M') := by
  rw [Rn_bnd]
  refine (cNeedNumber hM hx hk hlo hhi).mono ?_
  intro a M1 h
  unfold prM at h
  cases hs : pNum x p lo hi with
  | inl e =>
    rw [hs] at h
    obtain ⟨rfl, h⟩ := h
    rw [if_pos (by decide), Rn_grd, Rn_rtn]
    exact ⟨by decide, erM.tr X ⟨rfl, h⟩⟩
  | inr v =>
    rw [hs] at h
    obtain ⟨rfl, -, -, -, rfl, rfl, h2, h3, h4⟩ := h
    rw [if_neg (by decide)]
    exact k h2 h3 h4
theorem cNN {β : Type} {G : β → Mm → Prop} {f : Nat × Nat → Pe β} {F : Mm → Option (Int32 × Mm)} (hM : CO M) (hx : isTx M x) (hk : isTk M x p) {lo hi : Nat} (hlo : lo < 1000) (hhi : hi < 1000) (k : tkK x p = 2 → lo ≤ dcv x p → dcv x p ≤ hi → Rn F M (fun a M' => prM (f (dcv x p, tkE x p)) G a M M')) : Rn (bnd (fX3_needNumber 8 (nI lo) (nI hi)) fun v => if (v : Int32) = 0 then grd ((0 : Int32) == 0 || (0 : Int32) == 1) (rtn 0) else F) M (fun a M' => prM (pB (pNum x p lo hi) f) G a M M') := cNN0 XF.rf rfl rfl hM hx hk hlo hhi k
theorem tsLo {k : Nat} (h : k < 6) {Q : Int32 → Mm → Prop} : Rn (tS 1 (nI k)) M Q ↔ Q (nI (stLo k)) M := by
  rw [Rn_tS, vpB_nI (by omega), nI_clamp (by omega), sS1 k h]
  simp [h]
theorem tsHi {k : Nat} (h : k < 6) {Q : Int32 → Mm → Prop} : Rn (tS 2 (nI k)) M Q ↔ Q (nI (stHi k)) M := by
  rw [Rn_tS, vpB_nI (by omega), nI_clamp (by omega), sS2 k h]
  simp [h]
theorem cReadSet (hM : CO M) (hx : isTx M x) (hk : isTk M x p) (hP : isPgC M 11 P) (hw : wfP P) : Rn (fX3_readSet 8) M (fun a M' => prM (pSetT x P (tkE x p)) (atG x) a M M') := by
  unfold fX3_readSet pSetT
  refine cNx hM hx hk (fun M1 x1 m1 t1 k1 => ?_)
  have X1 := x1.mono xTk_Pr
  have p1 := hP.tk x1
  refine Rn.mono (Q := fun a M' => prM _ (atG x) a M1 M') ?_ (fun a M' h => prM.tr X1 (x1.mi rfl) (x1.mi rfl) h)
  refine cNN m1 t1 k1 (lo := 0) (hi := 5) (by omega) (by omega) (fun h2 _ h5 => ?_)
  have dk : dcv x (tkE x p) < 6 := by omega
  generalize hd : dcv x (tkE x p) = k at dk
  rw [Rn_bnd, cA8_2 m1, Rn_bnd, cNum m1 t1 k1 h2 (by omega), hd]
  refine cNx m1 t1 k1 (fun M2 x2 m2 t2 k2 => ?_)
  have X2 := x2.mono xTk_Pr
  have p2 := p1.tk x2
  refine Rn.mono (Q := fun a M' => prM _ (atG x) a M2 M') ?_ (fun a M' h => prM.tr X2 (x2.mi rfl) (x2.mi rfl) h)
  have lo := stLo_le k
  have hi := stHi_le k
  rw [if_neg (by rw [nL0, nlt (by omega) (by omega)]; omega), if_neg (by rw [nL6, nle (by omega) (by omega)]; omega), Rn_bnd, tsLo dk, Rn_bnd, tsHi dk]
  refine cNN m2 t2 k2 (by omega) (by omega) (fun h2' h3' h4' => ?_)
  generalize hd2 : dcv x (tkE x (tkE x p)) = v at h3' h4'
  rw [Rn_bnd, cA8_3 m2, Rn_bnd, cA11_4 m2, Rn_bnd, cA8_2 m2, Rn_bnd, cNum m2 t2 k2 h2' (by omega), hd2, Rn_bnd, rn_aI (by omega), cL14 m2]
  refine ⟨dk, ?_⟩
  have x3 : XF (xPgH 11) M2 (sI M2 14 k (nI v)) := XF.rf.sI (xPgH_t (by omega) (by omega))
  have e4 : ∀ a b, a ≠ 14 → Mi (sI M2 14 k (nI v)) a b = Mi M2 a b := fun a b z => ne_row z b
  have p3 : isPgC (sI M2 14 k (nI v)) 11 (pSet P k v) := by
    refine ⟨by rw [e4 _ _ (by omega)]; exact p2.1, by rw [e4 _ _ (by omega)]; exact p2.2.1, p2.2.2.1, fun l hl => by rw [e4 _ _ (by omega)]; exact p2.2.2.2.1 l hl, fun j hj => ?_⟩
    show Mi (sI M2 14 k (nI v)) 14 j = nI (updN (Pt P) k v j)
    rw [Mi_sI]
    by_cases q : j = k
    · rw [if_pos ⟨rfl, q⟩, q, updN_s]
    · rw [if_neg (fun z => q z.2), updN_n q]; exact p2.2.2.2.2 j hj
  generalize sI M2 14 k (nI v) = M3 at x3 p3
  have X3 := x3.mono xPg_Pr
  refine cNx (m2.xf x3) (t2.pr X3) (k2.xf x3 (fun b _ => xPgH_0 (by omega))) (fun M4 x4 m4 t4 k4 => ?_)
  refine (cSemiG m4 t4 k4 (p3.tk x4) (wf_set hw dk h3' h4')).mono ?_
  intro a M5 h
  exact h.tr (X3.tr (x4.mono xTk_Pr)) ((x4.mi rfl).trans (x3.mi (xPgH_0 (by omega)))) ((x4.mi rfl).trans (x3.mi (xPgH_0 (by omega))))
theorem cReadLoss (hM : CO M) (hx : isTx M x) (hk : isTk M x p) (hP : isPgC M 11 P) (hw : wfP P) : Rn (fX3_readLoss 8) M (fun a M' => prM (pLossT x P (tkE x p)) (atG x) a M M') := by
  unfold fX3_readLoss pLossT
  refine cNx hM hx hk (fun M1 x1 m1 t1 k1 => ?_)
  have X1 := x1.mono xTk_Pr
  have p1 := hP.tk x1
  refine Rn.mono (Q := fun a M' => prM _ (atG x) a M1 M') ?_ (fun a M' h => prM.tr X1 (x1.mi rfl) (x1.mi rfl) h)
  refine cNN m1 t1 k1 (lo := 0) (hi := 19) (by omega) (by omega) (fun h2 _ h5 => ?_)
  have dk : dcv x (tkE x p) < 20 := by omega
  generalize hd : dcv x (tkE x p) = k at dk
  rw [Rn_bnd, cA8_2 m1, Rn_bnd, cNum m1 t1 k1 h2 (by omega), hd]
  refine cNx m1 t1 k1 (fun M2 x2 m2 t2 k2 => ?_)
  have X2 := x2.mono xTk_Pr
  have p2 := p1.tk x2
  refine Rn.mono (Q := fun a M' => prM _ (atG x) a M2 M') ?_ (fun a M' h => prM.tr X2 (x2.mi rfl) (x2.mi rfl) h)
  rw [if_neg (by rw [nL0, nlt (by omega) (by omega)]; omega), if_neg (by rw [nL20, nle (by omega) (by omega)]; omega)]
  refine cNN m2 t2 k2 (lo := 0) (hi := 5) (by omega) (by omega) (fun h2' _ h4' => ?_)
  generalize hd2 : dcv x (tkE x (tkE x p)) = v at h4'
  rw [Rn_bnd, cA8_3 m2, Rn_bnd, cA11_3 m2, Rn_bnd, cA8_2 m2, Rn_bnd, cNum m2 t2 k2 h2' (by omega), hd2, Rn_bnd, rn_aI (by omega), cL13 m2]
  refine ⟨dk, ?_⟩
  have x3 : XF (xPgH 11) M2 (sI M2 13 k (nI v)) := XF.rf.sI (xPgH_t (by omega) (by omega))
  have e4 : ∀ a b, a ≠ 13 → Mi (sI M2 13 k (nI v)) a b = Mi M2 a b := fun a b z => ne_row z b
  have p3 : isPgC (sI M2 13 k (nI v)) 11 (pLose P k v) := by
    refine ⟨by rw [e4 _ _ (by omega)]; exact p2.1, by rw [e4 _ _ (by omega)]; exact p2.2.1, p2.2.2.1, fun j hj => ?_, fun l hl => by rw [e4 _ _ (by omega)]; exact p2.2.2.2.2 l hl⟩
    show Mi (sI M2 13 k (nI v)) 13 j = nI (updN (Ps P) k v j)
    rw [Mi_sI]
    by_cases q : j = k
    · rw [if_pos ⟨rfl, q⟩, q, updN_s]
    · rw [if_neg (fun z => q z.2), updN_n q]; exact p2.2.2.2.1 j hj
  generalize sI M2 13 k (nI v) = M3 at x3 p3
  have X3 := x3.mono xPg_Pr
  refine cNx (m2.xf x3) (t2.pr X3) (k2.xf x3 (fun b _ => xPgH_0 (by omega))) (fun M4 x4 m4 t4 k4 => ?_)
  refine (cSemiG m4 t4 k4 (p3.tk x4) (wf_lose hw h4')).mono ?_
  intro a M5 h
  exact h.tr (X3.tr (x4.mono xTk_Pr)) ((x4.mi rfl).trans (x3.mi (xPgH_0 (by omega)))) ((x4.mi rfl).trans (x3.mi (xPgH_0 (by omega))))
theorem aloneN_s (x : Tx) (w n p f r : Nat) (c first : Bool) : aloneN x w (n + 1) p f c r first = if first = true ∨ tkK x p = 2 then pB (pNum x p (if first = true then 0 else 1) w) (fun v => if w < f + v.1 then .inl (4, tkS x p) else aloneN x w n v.2 (f + v.1) (!c) (pnt r f (f + v.1) c) false) else .inr (p, f, r) := rfl
theorem cReadAlone (hM : CO M) (hx : isTx M x) (hk : isTk M x p) (hpx : p ≤ x.2) (hP : isPgC M 11 P) (hw : wfP P) (hl : PL P < 20) : Rn (fX3_readAlone 8) M (fun a M' => prM (pAloneT x P p) (atG x) a M M') := by
  have h40 := hw.2.1
  have h9 := hx.2.1
  have hb := hx.2.2.2
  have kl : ∀ q, tkK x q ≤ 6 := fun q => srt_le _
  have fin : ∀ (M1 : Mm) (q f r : Nat), XF xTk M M1 → isTk M1 x q → f ≤ Pw P → r < 2 ^ f → Rn (fX3_readAlone_L148 8 (lN r) (nI f)) M1 (fun a M' => prM (pEnd x q (decide (f = Pw P)) P r) (atG x) a M M') := by
    intro M1 q f r x1 k1 hf hr
    have X1 := x1.mono xTk_Pr
    have m1 := hM.xf x1
    have p1 := hP.tk x1
    have hr' : r < 2 ^ Pw P := Nat.lt_of_lt_of_le hr (pw_le hf)
    have go : ∀ v : Bool, v = decide (f = Pw P) → Rn (fX3_readAlone_L165 (lN r) (nI (bN v)) 8) M1 (fun a M' => prM (pEnd x q (decide (f = Pw P)) P r) (atG x) a M M') := by
      rintro v rfl
      unfold fX3_readAlone_L165
      rw [Rn_bnd]
      refine (cEndCode m1 (hx.pr X1) k1 p1 hw hl hr').mono ?_
      intro a M2 h
      have ha : a = nI 0 ∨ a = nI 1 := by
        unfold prM at h
        cases hs : pEnd x q (decide (f = Pw P)) P r with
        | inl e => rw [hs] at h; exact Or.inl h.1
        | inr v => rw [hs] at h; exact Or.inr h.1
      rw [Rn_grd, Rn_rtn]
      refine ⟨by rcases ha with rfl | rfl <;> decide, h.tr X1 (x1.mi rfl) (x1.mi rfl)⟩
    unfold fX3_readAlone_L148
    rw [Rn_bnd, cA8_3 m1, Rn_bnd, Rn_gI, p1.1]
    refine Rn_cs (neq (by omega) (by omega)) (fun g => go true (by simp [g])) (fun g => go false (by simp [g]))
  unfold fX3_readAlone pAloneT
  rw [Rn_bnd, cA8_3 hM, Rn_bnd, Rn_gI, hP.1]
  have e0 : pB (aloneN x (Pw P) 1000 p 0 false 0 true) (fun v => pEnd x v.1 (decide (v.2.1 = Pw P)) P v.2.2) = pB (pNum x p 0 (Pw P)) (fun _ => pB (aloneN x (Pw P) 1000 p 0 false 0 true) (fun v => pEnd x v.1 (decide (v.2.1 = Pw P)) P v.2.2)) := by
    rw [aloneN_s x (Pw P) 999, if_pos (Or.inl rfl), if_pos rfl]
    cases pNum x p 0 (Pw P) <;> rfl
  rw [e0]
  refine cNN hM hx hk (lo := 0) (hi := Pw P) (by omega) (by omega) (fun h2 _ _ => ?_)
  rw [Rn_bnd, cA8_2 hM, Rn_bnd, Rn_gI, hx.1]
  refine rn_loopv (F := fun n (s : Nat × Nat × Nat × Bool × Nat × Bool) => fX3_readAlone_L36 n 8 (lN s.2.2.2.2.1) (nI s.2.2.1) (nI (bN s.2.2.2.1)) (nI (if s.2.2.2.2.2 = true then 0 else 1)) (nI (x.2 - s.1))) (fun s M' => XF xTk M M' ∧ isTk M' x s.2.1 ∧ s.1 ≤ s.2.1 ∧ s.2.1 ≤ x.2 ∧ s.2.2.1 ≤ Pw P ∧ s.2.2.2.2.1 < 2 ^ s.2.2.1 ∧ (s.2.2.2.2.2 = true → tkK x s.2.1 = 2) ∧ aloneN x (Pw P) (1000 - s.1) s.2.1 s.2.2.1 s.2.2.2.1 s.2.2.2.2.1 s.2.2.2.2.2 = aloneN x (Pw P) 1000 p 0 false 0 true) (fun s => x.2 - s.2.1) ?_ fu (0, p, 0, false, 0, true) M (by show x.2 - p < fu; unfold fu; omega) ⟨XF.rf, hk, Nat.zero_le _, hpx, Nat.zero_le _, Nat.two_pow_pos _, fun _ => h2, rfl⟩
  rintro n ⟨k, q, f, c, r, first⟩ M1 ⟨x1, k1, hkq, hqx, hf, hr, hfi, he⟩ ih
  have k1 : isTk M1 x q := k1
  have hkq : k ≤ q := hkq
  have hqx : q ≤ x.2 := hqx
  have hf : f ≤ Pw P := hf
  have hr : r < 2 ^ f := hr
  have hfi : first = true → tkK x q = 2 := hfi
  have he : aloneN x (Pw P) (1000 - k) q f c r first = aloneN x (Pw P) 1000 p 0 false 0 true := he
  have X1 := x1.mono xTk_Pr
  have m1 := hM.xf x1
  have t1 := hx.pr X1
  have p1 := hP.tk x1
  show Rn (fX3_readAlone_L36 (n + 1) 8 (lN r) (nI f) (nI (bN c)) (nI (if first = true then 0 else 1)) (nI (x.2 - k))) M1 _
  rw [← he, show 1000 - k = (999 - k) + 1 by omega, aloneN_s]
  have stop : tkK x q ≠ 2 → Rn (fX3_readAlone_L148 8 (lN r) (nI f)) M1 (fun a M' => prM (pB (if first = true ∨ tkK x q = 2 then pB (pNum x q (if first = true then 0 else 1) (Pw P)) (fun v => if Pw P < f + v.1 then .inl (4, tkS x q) else aloneN x (Pw P) (999 - k) v.2 (f + v.1) (!c) (pnt r f (f + v.1) c) false) else .inr (q, f, r)) (fun v => pEnd x v.1 (decide (v.2.1 = Pw P)) P v.2.2)) (atG x) a M M') := by
    intro h
    rw [if_neg (fun z => z.elim (fun y => h (hfi y)) h)]
    exact fin M1 q f r x1 k1 hf hr
  unfold fX3_readAlone_L36
  refine Rn_cs (show nI (x.2 - k) ≤ 0 ↔ x.2 - k ≤ 0 from nle (b := 0) (by omega) (by omega)) (fun g => stop ?_) (fun g => ?_)
  · have : tkK x q = 0 := (tkK_0 hb q).mpr (by have := tkS_ge hqx; have := tkS_le x q; omega)
    omega
  rw [Rn_bnd, cA8_2 m1, Rn_bnd, Rn_gI, k1.1]
  have := kl q
  refine Rn_cs (show nI (tkK x q) = 2 ↔ tkK x q = 2 from neq (b := 2) (by omega) (by omega)) (fun g1 => ?_) (fun g1 => stop g1)
  rw [if_pos (Or.inr g1), Rn_bnd, cA8_3 m1, Rn_bnd, Rn_gI, p1.1]
  have assoc : ∀ (a : Pe (Nat × Nat)) (g : Nat × Nat → Pe (Nat × Nat × Nat)) (h : Nat × Nat × Nat → Pe (Pg × Nat)), pB (pB a g) h = pB a (fun v => pB (g v) h) := fun a g h => by cases a <;> rfl
  rw [assoc]
  have fl : (if first = true then 0 else 1) < 1000 := by split <;> omega
  refine cNN0 X1 (x1.mi rfl) (x1.mi rfl) m1 t1 k1 fl (by omega) (fun _ hlo hd => ?_)
  have pn : pNum x q (if first = true then 0 else 1) (Pw P) = .inr (dcv x q, tkE x q) := by unfold pNum; rw [if_pos g1, if_pos ⟨hlo, hd⟩]
  have eg := tkE_gt hb (p := q) (by omega)
  have sg := tkS_ge hqx
  have el := tkE_le hb q
  rw [Rn_bnd, cA8_2 m1, Rn_bnd, cNum m1 t1 k1 g1 (by omega), Rn_bnd, Rn_rtn, nI_add, Rn_bnd, cA8_3 m1, Rn_bnd, Rn_gI, p1.1]
  refine Rn_cs (nle (by omega) (by omega)) (fun g2 => ?_) (fun g2 => ?_)
  · rw [if_neg (show ¬ Pw P < f + (dcv x q, tkE x q).1 from by show ¬ Pw P < f + dcv x q; omega), show 999 - k = 1000 - (k + 1) by omega]
    have hr2 : pnt r f (f + dcv x q) c < 2 ^ (f + dcv x q) := pnt_lt (by omega) hr
    have p40 : 2 ^ f ≤ 2 ^ 40 := pw_le (by omega)
    have eA : aloneN x (Pw P) (1000 - (k + 1)) (tkE x q) (f + dcv x q) (!c) (pnt r f (f + dcv x q) c) false = aloneN x (Pw P) (1000 - k) q f c r first := by
      rw [show 1000 - k = (1000 - (k + 1)) + 1 by omega, aloneN_s, if_pos (Or.inr g1), pn]
      show _ = if Pw P < f + dcv x q then .inl (4, tkS x q) else aloneN x (Pw P) (1000 - (k + 1)) (tkE x q) (f + dcv x q) (!c) (pnt r f (f + dcv x q) c) false
      rw [if_neg (by omega)]
    have go : ∀ m, lN r ||| lN m = lN (pnt r f (f + dcv x q) c) → Rn (fX3_readAlone_L115 (fX3_readAlone_L36 n) 8 (nI (bN c)) (nI (x.2 - k)) (nI (f + dcv x q)) (lN m) (lN r)) M1 (fun a M' => prM (pB (aloneN x (Pw P) (1000 - (k + 1)) (tkE x q) (f + dcv x q) (!c) (pnt r f (f + dcv x q) c) false) (fun v => pEnd x v.1 (decide (v.2.1 = Pw P)) P v.2.2)) (atG x) a M M') := by
      intro m hm
      unfold fX3_readAlone_L115
      rw [Rn_bnd, Rn_rtn, hm]
      have step : ∀ v : Bool, v = !c → Rn (fX3_readAlone_L130 (fX3_readAlone_L36 n) 8 (lN (pnt r f (f + dcv x q) c)) (nI (f + dcv x q)) (nI (x.2 - k)) (nI (bN v))) M1 (fun a M' => prM (pB (aloneN x (Pw P) (1000 - (k + 1)) (tkE x q) (f + dcv x q) (!c) (pnt r f (f + dcv x q) c) false) (fun v => pEnd x v.1 (decide (v.2.1 = Pw P)) P v.2.2)) (atG x) a M M') := by
        rintro v rfl
        unfold fX3_readAlone_L130
        refine cNx m1 t1 k1 (fun M2 x2 m2 t2 k2 => ?_)
        have nx := ih (k + 1, tkE x q, f + dcv x q, !c, pnt r f (f + dcv x q) c, false) M2 ⟨x1.tr x2, k2, (by show k + 1 ≤ tkE x q; omega), el, g2, hr2, (fun z => absurd (show false = true from z) (by decide)), (eA.trans he)⟩ (by show x.2 - tkE x q < x.2 - q; omega)
        rw [eA, he]
        have e : nI (x.2 - k) + -1 = nI (x.2 - (k + 1)) := by rw [add_m1, nL1, nsb (by omega)]; congr 1
        rw [e]
        exact nx
      refine Rn_cs (bN_0 c) (fun z => step true (by rw [z]; rfl)) (fun z => step false (by rw [show c = true by simpa using z]; rfl))
    refine Rn_cs (bN_0 c) (fun z => ?_) (fun z => ?_)
    · exact go 0 (by rw [wb_or (by omega) (by omega), Nat.or_zero, z]; rfl)
    · have z : c = true := by simpa using z
      rw [Rn_bnd, fSpan (by omega) (by omega)]
      exact go _ (by rw [z]; exact lN_orp hr (by omega) (by omega))
  · rw [if_pos (show Pw P < f + (dcv x q, tkE x q).1 from by show Pw P < f + dcv x q; omega)]
    exact (cFailG (c := 4) m1 k1).mono (fun a M' h => erM.tr X1 h)
end CPar2

