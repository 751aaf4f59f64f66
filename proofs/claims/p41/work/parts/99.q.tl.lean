/-! WHAT IS TOLD: the best EVERY, the least STEPS, the whole -/
theorem okP_set {P : Pg} {b : Nat → Nat} (hP : okP P b) {j w : Nat} (h : (j = 0 ∧ 1 ≤ w ∧ w ≤ 8) ∨ (j = 3 ∧ w ≤ 9)) : okP (pSet P j w) b := by
  obtain ⟨⟨h1, h2, h3, h4, h5, h6, h7, h8, h9, h10, h11⟩, k2, k3, k4⟩ := hP
  rcases h with ⟨rfl, w1, w2⟩ | ⟨rfl, w1⟩
  · exact ⟨⟨h1, h2, h3, h4, h5, ⟨w1, w2⟩, h7, h8, h9, h10, h11⟩, k2, k3, k4⟩
  · exact ⟨⟨h1, h2, h3, h4, h5, h6, h7, h8, w1, h10, h11⟩, k2, k3, k4⟩
def tSu (b : Nat → Nat) (e st : Nat) : Nat := if st = 0 then 1000000 else uX b e (5 - (st - 1) / 3)
def tSv (b : Nat → Nat) (e st : Nat) : Nat := if st = 0 then 1000000 else vX b e (5 - (st - 1) / 3)
def uHm (b : Nat → Nat) (e l : Nat) : Nat := 67 + US b e 0 1 1000000 6 + uCo b l + kRd 28 27
def vHm (b : Nat → Nat) (e l : Nat) : Nat := 556 + VS b e 0 1 1000000 6 + vCo b l + sRd 27 28 27
def uEv (b : Nat → Nat) (i : Nat) : Nat := 28 + US b (i + 1) 4 3 (uX b (i + 1) 4) 6
def vEv (b : Nat → Nat) (i : Nat) : Nat := 461 + VS b (i + 1) 4 3 (vX b (i + 1) 4) 6
def uSt (b : Nat → Nat) (e k : Nat) : Nat := 28 + US b e k 3 (tSu b e k) 6
def vSt (b : Nat → Nat) (e k : Nat) : Nat := 461 + VS b e k 3 (tSv b e k) 6
def UT (b : Nat → Nat) (e : Nat) : Nat := sm (uHm b e) 6 + sm (uEv b) 8 + sm (uSt b e) 10
def VT (b : Nat → Nat) (e : Nat) : Nat := sm (vHm b e) 6 + sm (vEv b) 8 + sm (vSt b e) 10
theorem bEv_b {P : Pg} (h : wfP P) : ∀ n, (bEv P n).1 ≤ n ∧ (bEv P n).2.1 ≤ 800 ∧ (n ≤ 8 → (bEv P n).2.2 ≤ 1000000) := by
  intro n
  induction n with
  | zero => exact ⟨Nat.le_refl _, Nat.zero_le _, fun _ => Nat.zero_le _⟩
  | succ n ih =>
    unfold bEv
    split
    · refine ⟨Nat.le_refl _, zWs_le h _, fun hn => sndA_b ?_ _⟩
      obtain ⟨h1, h2, h3, h4, h5, h6, h7, h8, h9, h10, h11⟩ := h
      exact ⟨h1, h2, h3, h4, h5, ⟨show 1 ≤ n + 1 by omega, hn⟩, h7, h8, h9, h10, h11⟩
    · exact ⟨by omega, ih.2.1, fun hn => ih.2.2 (by omega)⟩
theorem pl_m1 (m : Nat) : nI m + (-1) = pl m := by
  unfold pl
  rw [Int32.sub_eq_add_neg]
section TQ
variable {M0 M : Mm} {p : Nat} {P : Pg} {b : Nat → Nat} {hs hl h a : Nat} {R : List Nat} {c0 s0 t c s u v : Nat} {nU : Hq}
theorem lt432 (k : TS M0 p P nU hs hl h a R c0 s0 M t c s u v) (qt : QT p hs hl h a R) (hP : okP P b) (h6 : PL P ≤ 6) (h3 : ∀ l, l < 20 → Ps P l ≤ 3) (hu : c0 + (u + sm (uSt b (Pt P 0)) 10) ≤ 800000000) : Rw (gL_isTold_L432 fu 0 p (pl (wrst P (PL P)).1) (nI (bEv P 8).1) (-1) (nI 9)) M c s (fun w M' c' s' => w = 1 ∧ TS M0 p P nU hs hl h a R c0 s0 M' t c' s' (u + sm (uSt b (Pt P 0)) 10) (v + sm (vSt b (Pt P 0)) 10)) := by
  have h27 := hP.2.1
  refine rw_loopv (F := fun n (m : Nat) => gL_isTold_L432 n 0 p (pl (wrst P (PL P)).1) (nI (bEv P 8).1) (nStp P (10 - m) m) (pl m)) (fun m M' c' s' => m ≤ 10 ∧ TS M0 p P nU hs hl h a R c0 s0 M' t c' s' (u + (sm (uSt b (Pt P 0)) 10 - sm (uSt b (Pt P 0)) m)) (v + (sm (vSt b (Pt P 0)) 10 - sm (vSt b (Pt P 0)) m))) (fun m => m) ?_ fu 10 M c s (by unfold fu; omega) ⟨Nat.le_refl _, k.up (by omega) (by omega)⟩
  rintro n m M1 c1 s1 ⟨hm, k1⟩ ih
  show Rw (gL_isTold_L432 (n + 1) 0 p (pl (wrst P (PL P)).1) (nI (bEv P 8).1) (nStp P (10 - m) m) (pl m)) _ _ _ _
  unfold gL_isTold_L432
  refine Rw_cs (d := m = 0) ((pl_lt (q := m) (w := 0) (by omega) (by omega)).trans (by omega)) (fun z => ?_) (fun z => ?_)
  · subst z
    rw [Rw_wq]
    refine kAsk0 k1.1 xSd_Q (cWorstOp k1.1.1 k1.1.2.1 k1.1.2.2.1) (fun M2 k2 g2 n2 => ?_)
    have t2 := k1.ask qt k2 g2 n2 (kc := 0) (ks := 0)
    refine Rw_yes rfl ?_
    rw [Rw_wq]
    refine kAsk0 t2.1 xSd_Q (cBestOp t2.1.1 t2.1.2.1 t2.1.2.2.1) (fun M3 k3 g3 n3 => ?_)
    have t3 := t2.ask qt k3 g3 n3 (kc := 0) (ks := 0)
    refine Rw_yes rfl ?_
    rw [Rw_wq]
    refine kAsk0 t3.1 xSd_Q (cStepsOp t3.1.1 t3.1.2.1 t3.1.2.2.1) (fun M4 k4 g4 n4 => ?_)
    have t4 := t3.ask qt k4 g4 n4 (kc := 0) (ks := 0)
    refine Rw_yes rfl ?_
    rw [Rw_grd, Rw_wr]
    exact ⟨by decide, rfl, t4.up (by omega) (by omega)⟩
  · obtain ⟨m, rfl⟩ : ∃ j, m = j + 1 := ⟨m - 1, by omega⟩
    have hP' : okP (pSet P 3 m) b := okP_set hP (Or.inr ⟨rfl, by omega⟩)
    have e1 : sm (uSt b (Pt P 0)) (m + 1) = sm (uSt b (Pt P 0)) m + uSt b (Pt P 0) m := rfl
    have e2 : sm (vSt b (Pt P 0)) (m + 1) = sm (vSt b (Pt P 0)) m + vSt b (Pt P 0) m := rfl
    have m1 : sm (uSt b (Pt P 0)) (m + 1) ≤ sm (uSt b (Pt P 0)) 10 := sm_mono hm
    have m2 : sm (vSt b (Pt P 0)) (m + 1) ≤ sm (vSt b (Pt P 0)) 10 := sm_mono hm
    have en : 10 - m = (10 - (m + 1)) + 1 := by omega
    rw [pl_s]
    refine tVar (j := 3) (w := m) (st := m) (tu := tSu b (Pt P 0) m) (tv := tSv b (Pt P 0) m) k1 hP h6 h3 (by omega) (by omega) hP' (Nat.le_refl _) (fun M2 c2 s2 q k2 sc => ?_)
    have k2' : TS M0 p P nU hs hl h a R c0 s0 M2 t c2 s2 (u + (sm (uSt b (Pt P 0)) 10 - sm (uSt b (Pt P 0)) m)) (v + (sm (vSt b (Pt P 0)) 10 - sm (vSt b (Pt P 0)) m)) := by
      have ePt : Pt (pSet P 3 m) 0 = Pt P 0 := rfl
      rw [ePt] at k2
      have d1 : uSt b (Pt P 0) m = 28 + US b (Pt P 0) m 3 (tSu b (Pt P 0) m) 6 := rfl
      have d2 : vSt b (Pt P 0) m = 461 + VS b (Pt P 0) m 3 (tSv b (Pt P 0) m) 6 := rfl
      exact k2.up (by omega) (by omega)
    have w8 : zWs (pSet P 3 m) (sndA (pSet P 3 m) (Ps P)) ≤ 800 := zWs_le hP'.1 _
    rw [Rw_wq, sc.all h27 (show PL P ≤ 7 by omega)]
    refine Rw_cs (d := zWs (pSet P 3 m) (sndA (pSet P 3 m) (Ps P)) = 0) (neq (b := 0) (by omega) (by omega)) (fun y => ?_) (fun y => ?_)
    · unfold gL_isTold_L472
      have := ih m M2 c2 s2 ⟨by omega, k2'⟩ (by omega)
      have e3 : nStp P (10 - m) m = nI m := by
        rw [en]
        show (if zWs P (sndA (pSet P 3 m) (Ps P)) = 0 then _ else _) = _
        exact if_pos y
      rw [e3] at this
      rw [pl_m1]
      exact this
    · unfold gL_isTold_L472
      have := ih m M2 c2 s2 ⟨by omega, k2'⟩ (by omega)
      have e3 : nStp P (10 - m) m = nStp P (10 - (m + 1)) (m + 1) := by
        rw [en]
        show (if zWs P (sndA (pSet P 3 m) (Ps P)) = 0 then _ else _) = _
        exact if_neg y
      rw [e3] at this
      rw [pl_m1]
      exact this
theorem lt336 (k : TS M0 p P nU hs hl h a R c0 s0 M t c s u v) (qt : QT p hs hl h a R) (hP : okP P b) (h6 : PL P ≤ 6) (h3 : ∀ l, l < 20 → Ps P l ≤ 3) (h4 : Pt P 3 ≤ 4) (hu : c0 + (u + sm (uEv b) 8 + sm (uSt b (Pt P 0)) 10) ≤ 800000000) : Rw (gL_isTold_L336 fu 0 p (pl (wrst P (PL P)).1) (nI 0) (nI 0) (nI 0) (nI 1)) M c s (fun w M' c' s' => w = 1 ∧ TS M0 p P nU hs hl h a R c0 s0 M' t c' s' (u + sm (uEv b) 8 + sm (uSt b (Pt P 0)) 10) (v + sm (vEv b) 8 + sm (vSt b (Pt P 0)) 10)) := by
  have h27 := hP.2.1
  refine rw_loopv (F := fun n (m : Nat) => gL_isTold_L336 n 0 p (pl (wrst P (PL P)).1) (nI (bEv P m).1) (nI (bEv P m).2.1) (nI (bEv P m).2.2) (nI (m + 1))) (fun m M' c' s' => m ≤ 8 ∧ TS M0 p P nU hs hl h a R c0 s0 M' t c' s' (u + sm (uEv b) m) (v + sm (vEv b) m)) (fun m => 8 - m) ?_ fu 0 M c s (by unfold fu; omega) ⟨Nat.zero_le _, k⟩
  rintro n m M1 c1 s1 ⟨hm, k1⟩ ih
  show Rw (gL_isTold_L336 (n + 1) 0 p (pl (wrst P (PL P)).1) (nI (bEv P m).1) (nI (bEv P m).2.1) (nI (bEv P m).2.2) (nI (m + 1))) _ _ _ _
  unfold gL_isTold_L336
  refine Rw_cs (d := 8 < m + 1) (nlt (a := 8) (by omega) (by omega)) (fun z => ?_) (fun z => ?_)
  · have : m = 8 := by omega
    subst this
    exact lt432 k1 qt hP h6 h3 (by omega)
  · have hP' : okP (pSet P 0 (m + 1)) b := okP_set hP (Or.inl ⟨rfl, by omega, by omega⟩)
    have m1 : sm (uEv b) (m + 1) ≤ sm (uEv b) 8 := sm_mono (by omega)
    have e1 : sm (uEv b) (m + 1) = sm (uEv b) m + uEv b m := rfl
    have e2 : sm (vEv b) (m + 1) = sm (vEv b) m + vEv b m := rfl
    refine tVar (j := 0) (w := m + 1) (st := 4) (tu := uX b (m + 1) 4) (tv := vX b (m + 1) 4) k1 hP h6 h3 (by omega) (by omega) hP' h4 (fun M2 c2 s2 q k2 sc => ?_)
    have k2' : TS M0 p P nU hs hl h a R c0 s0 M2 t c2 s2 (u + sm (uEv b) (m + 1)) (v + sm (vEv b) (m + 1)) := by
      have ePt : Pt (pSet P 0 (m + 1)) 0 = m + 1 := rfl
      rw [ePt] at k2
      have d1 : uEv b m = 28 + US b (m + 1) 4 3 (uX b (m + 1) 4) 6 := rfl
      have d2 : vEv b m = 461 + VS b (m + 1) 4 3 (vX b (m + 1) 4) 6 := rfl
      exact k2.up (by omega) (by omega)
    obtain ⟨b1, b2, b3⟩ := bEv_b hP.1 m
    have b3 := b3 (by omega)
    have w8 : zWs P (sndA (pSet P 0 (m + 1)) (Ps P)) ≤ 800 := zWs_le hP.1 _
    have a8 : zA (sndA (pSet P 0 (m + 1)) (Ps P)) ≤ 1000000 := sndA_b hP'.1 _
    have nx := ih (m + 1) M2 c2 s2 ⟨by omega, k2'⟩ (by omega)
    have upd : ((bEv P m).1 = 0 ∨ zWs P (sndA (pSet P 0 (m + 1)) (Ps P)) < (bEv P m).2.1 ∨ (zWs P (sndA (pSet P 0 (m + 1)) (Ps P)) = (bEv P m).2.1 ∧ zA (sndA (pSet P 0 (m + 1)) (Ps P)) < (bEv P m).2.2)) → Rw (gL_isTold_L401 (gL_isTold_L336 n) 0 p (pl (wrst P (PL P)).1) (nI (m + 1)) q) M2 c2 s2 (fun w M' c' s' => w = 1 ∧ TS M0 p P nU hs hl h a R c0 s0 M' t c' s' (u + sm (uEv b) 8 + sm (uSt b (Pt P 0)) 10) (v + sm (vEv b) 8 + sm (vSt b (Pt P 0)) 10)) := by
      intro hw
      have e : bEv P (m + 1) = (m + 1, zWs P (sndA (pSet P 0 (m + 1)) (Ps P)), zA (sndA (pSet P 0 (m + 1)) (Ps P))) := by
        show (if _ then _ else _) = _
        rw [if_pos hw]
      unfold gL_isTold_L401 gL_isTold_L419
      rw [Rw_wq, sc.all h27 (show PL P ≤ 7 by omega), Rw_wb, sc.bits, nL1, nI_add]
      rw [e] at nx
      exact nx
    have old : ¬ ((bEv P m).1 = 0 ∨ zWs P (sndA (pSet P 0 (m + 1)) (Ps P)) < (bEv P m).2.1 ∨ (zWs P (sndA (pSet P 0 (m + 1)) (Ps P)) = (bEv P m).2.1 ∧ zA (sndA (pSet P 0 (m + 1)) (Ps P)) < (bEv P m).2.2)) → Rw (gL_isTold_L419 (gL_isTold_L336 n) 0 p (pl (wrst P (PL P)).1) (nI (bEv P m).1) (nI (bEv P m).2.1) (nI (bEv P m).2.2) (nI (m + 1))) M2 c2 s2 (fun w M' c' s' => w = 1 ∧ TS M0 p P nU hs hl h a R c0 s0 M' t c' s' (u + sm (uEv b) 8 + sm (uSt b (Pt P 0)) 10) (v + sm (vEv b) 8 + sm (vSt b (Pt P 0)) 10)) := by
      intro hw
      have e : bEv P (m + 1) = bEv P m := by
        show (if _ then _ else _) = _
        rw [if_neg hw]
      unfold gL_isTold_L419
      rw [nL1, nI_add]
      rw [e] at nx
      exact nx
    have all : ∀ {Q : Int32 → Mm → Nat → Nat → Prop}, Rw (gX9_allWrong q) M2 c2 s2 Q ↔ Q (nI (zWs P (sndA (pSet P 0 (m + 1)) (Ps P)))) M2 c2 s2 := sc.all h27 (show PL P ≤ 7 by omega)
    refine Rw_cs (d := (bEv P m).1 = 0) ((nle (b := 0) (by omega) (by omega)).trans Nat.le_zero) (fun y => ?_) (fun y => ?_)
    · exact upd (Or.inl y)
    · rw [Rw_wq, all]
      refine Rw_cs (d := (bEv P m).2.1 < zWs P (sndA (pSet P 0 (m + 1)) (Ps P))) (nlt (b := zWs P (sndA (pSet P 0 (m + 1)) (Ps P))) (by omega) (by omega)) (fun x => ?_) (fun x => ?_)
      · exact old (fun e => by omega)
      · rw [Rw_wq, all]
        refine Rw_cs (d := zWs P (sndA (pSet P 0 (m + 1)) (Ps P)) = (bEv P m).2.1) (neq (a := zWs P (sndA (pSet P 0 (m + 1)) (Ps P))) (by omega) (by omega)) (fun w => ?_) (fun w => ?_)
        · rw [Rw_wb, sc.bits]
          refine Rw_cs (d := zA (sndA (pSet P 0 (m + 1)) (Ps P)) < (bEv P m).2.2) (nlt (a := zA (sndA (pSet P 0 (m + 1)) (Ps P))) (by omega) (by omega)) (fun e => ?_) (fun e => ?_)
          · exact upd (Or.inr (Or.inr ⟨w, e⟩))
          · exact old (fun z => by omega)
        · exact upd (Or.inr (Or.inl (by omega)))
theorem lIsTold (kq : KQ M P nU) (L : QP M p P (Ps P) hs hl h a R) (o : isTo M t) (hp : Pl M c) (qt : QT p hs hl h a R) (hP : okP P b) (h6 : PL P ≤ 6) (h3 : ∀ l, l < 20 → Ps P l ≤ 3) (h4 : Pt P 3 ≤ 4) (ht : t < 800000) (hu : c + UT b (Pt P 0) ≤ 790000000) : Rw (gL_isTold 0 p 38) M c s (fun w M' c' s' => w = 1 ∧ TS M p P nU hs hl h a R c s M' (t + PL P) c' s' (UT b (Pt P 0)) (VT b (Pt P 0))) := by
  have k : TS M p P nU hs hl h a R c s M t c s 0 0 := ⟨kq, L, o, hp, Gx.rf, Nat.le_refl _, Nat.le_refl _, Nat.le_refl _, Nat.le_refl _⟩
  have eU : UT b (Pt P 0) = sm (uHm b (Pt P 0)) 6 + sm (uEv b) 8 + sm (uSt b (Pt P 0)) 10 := rfl
  have eV : VT b (Pt P 0) = sm (vHm b (Pt P 0)) 6 + sm (vEv b) 8 + sm (vSt b (Pt P 0)) 10 := rfl
  unfold gL_isTold
  rw [Rw_wb, Rn_gA L.1.2.2.2.2, Rw_wq, lSize L.2.2.2.1.1, L.2.2.2.1.2.1]
  refine rw_loopv (F := fun n (l : Nat) => gL_isTold_L17 n 0 p 38 (nI (PL P)) (pl (wrst P l).1) (nI (wrst P l).2) (nI l)) (fun l M' c' s' => l ≤ PL P ∧ TS M p P nU hs hl h a R c s M' (t + l) c' s' (sm (uHm b (Pt P 0)) l) (sm (vHm b (Pt P 0)) l)) (fun l => PL P - l) ?_ fu 0 M c s (by unfold fu; omega) ⟨Nat.zero_le _, k⟩
  rintro n l M1 c1 s1 ⟨hl0, k1⟩ ih
  show Rw (gL_isTold_L17 (n + 1) 0 p 38 (nI (PL P)) (pl (wrst P l).1) (nI (wrst P l).2) (nI l)) _ _ _ _
  unfold gL_isTold_L17
  refine Rw_cs (d := PL P ≤ l) (nle (by omega) (by omega)) (fun z => ?_) (fun z => ?_)
  · have : l = PL P := by omega
    subst this
    have m1 : sm (uHm b (Pt P 0)) (PL P) ≤ sm (uHm b (Pt P 0)) 6 := sm_mono h6
    have m2 : sm (vHm b (Pt P 0)) (PL P) ≤ sm (vHm b (Pt P 0)) 6 := sm_mono h6
    exact (lt336 k1 qt hP h6 h3 h4 (by omega)).mono (fun w M' c' s' e => ⟨e.1, e.2.up (by omega) (by omega)⟩)
  · have hl' : l < PL P := by omega
    have e1 : sm (uHm b (Pt P 0)) (l + 1) = sm (uHm b (Pt P 0)) l + uHm b (Pt P 0) l := rfl
    have e2 : sm (vHm b (Pt P 0)) (l + 1) = sm (vHm b (Pt P 0)) l + vHm b (Pt P 0) l := rfl
    have m1 : sm (uHm b (Pt P 0)) (l + 1) ≤ sm (uHm b (Pt P 0)) 6 := sm_mono (by omega)
    have d1 : uHm b (Pt P 0) l = 67 + US b (Pt P 0) 0 1 1000000 6 + uCo b l + kRd 28 27 := rfl
    have d2 : vHm b (Pt P 0) l = 556 + VS b (Pt P 0) 0 1 1000000 6 + vCo b l + sRd 27 28 27 := rfl
    refine tOne (tu := 1000000) (tv := 1000000) k1 hP h6 (by omega) hl' (okP_set hP (Or.inr ⟨rfl, by omega⟩)) (fun M2 c2 s2 q k2 sc => ?_)
    refine lt69 k2 qt hP (by omega) hl' (by omega) sc (fun M' c' s' k' => ?_)
    exact ih (l + 1) M' c' s' ⟨by omega, k'.up (by omega) (by omega)⟩ (by omega)
end TQ
