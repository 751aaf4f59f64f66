/-! THE REFERENCE: tokens -/
def xMt (a b : Nat) : Bool := a == 38 && (decide (33 ≤ b) && decide (b ≤ 36))
def dvM (x : Tx) (s : Nat) : Nat → Nat
  | 0 => 0
  | j + 1 => if 10000 < dvM x s j then dvM x s j else 10 * dvM x s j + (x.1 (s + j) - 48)
theorem dvM_n (x : Tx) (s : Nat) : ∀ j, (∀ i, i < j → srt (x.1 (s + i)) = 2) → (dvM x s j = dvN x s j ∨ (10000 < dvM x s j ∧ 10000 < dvN x s j)) ∧ dvM x s j ≤ 100100
  | 0, _ => ⟨Or.inl rfl, Nat.zero_le _⟩
  | j + 1, h => by
    have d := srt_2 (h j (by omega))
    have ih := dvM_n x s j (fun i hi => h i (by omega))
    have e : dvM x s (j + 1) = if 10000 < dvM x s j then dvM x s j else 10 * dvM x s j + (x.1 (s + j) - 48) := rfl
    have e2 : dvN x s (j + 1) = 10 * dvN x s j + (x.1 (s + j) - 48) := rfl
    rw [e, e2]
    by_cases g : 10000 < dvM x s j
    · rw [if_pos g]; omega
    · rw [if_neg g]; omega
def nuM (x : Tx) (p : Nat) : Nat := dvM x (tkS x p) (tkE x p - tkS x p)
def mTk (M : Mm) (x : Tx) (p : Nat) : Prop := Mi M 38 33 = nI (tkE x p) ∧ Mi M 38 34 = nI (tkS x p) ∧ Mi M 38 35 = nI (srM (tkK x p)) ∧ (tkK x p = 2 → Mi M 38 36 = nI (nuM x p))
theorem mTk.xf {X : Nat → Nat → Bool} {M M1 : Mm} {x : Tx} {p : Nat} (h : mTk M x p) (f : XF X M M1) (z : ∀ b, xMt 38 b = true → X 38 b = false) : mTk M1 x p :=
  ⟨by rw [f.mi (z 33 rfl)]; exact h.1, by rw [f.mi (z 34 rfl)]; exact h.2.1, by rw [f.mi (z 35 rfl)]; exact h.2.2.1, fun q => by rw [f.mi (z 36 rfl)]; exact h.2.2.2 q⟩
theorem srM_le {k : Nat} (h : k ≤ 6) : srM k ≤ 6 := by unfold srM; repeat' split
                                                       all_goals omega
theorem srM_inj {a b : Nat} : srM a = srM b ↔ a = b := by unfold srM; repeat' split
                                                          all_goals omega
theorem srM_13 (k : Nat) : (1 ≤ srM k ∧ srM k ≤ 3) ↔ (1 ≤ k ∧ k ≤ 3) := by
  unfold srM
  repeat' split
  all_goals omega
theorem bI_eq {b c : Nat} (hb : b ≤ 256) (hc : c < 256) : bI b = nI c ↔ b = c := by
  unfold bI
  by_cases h : b = 256
  · rw [if_pos h]
    exact ⟨fun z => absurd z.symm (ne_m1 (by omega)), fun z => by omega⟩
  · rw [if_neg h, neq (by omega) (by omega)]
section MTok
variable {M : Mm} {x : Tx}
theorem bAt_leM (hx : isTxM M x) (i : Nat) : bAt x i ≤ 256 := by
  unfold bAt; split
  · rename_i h; have := hx.2.2.2 i h; omega
  · exact Nat.le_refl _
theorem isTxM.mt {M1 : Mm} (hx : isTxM M x) (f : XF xMt M M1) : isTxM M1 x := hx.xf f rfl (fun _ => rfl)
theorem mTok (hM : MO M) (hx : isTxM M x) {p : Nat} (h1 : 1 ≤ tkK x p) (h3 : tkK x p ≤ 3) (a0 : Mi M 38 33 = nI (tkS x p)) (a1 : Mi M 38 34 = nI (tkS x p)) (a2 : Mi M 38 35 = nI (srM (tkK x p))) (a3 : Mi M 38 36 = nI 0) : Rn (fX8_advances_L77 fu 38) M (fun _ M' => XF xMt M M' ∧ mTk M' x p) := by
  have h9 := hx.2.1
  have hb := hx.2.2.2
  have sle := tkS_le x p
  have eE : tkE x p = fb (fun j => srt (x.1 j) != tkK x p) x.2 (tkS x p) := by unfold tkE; rw [if_neg (by omega), if_pos (by omega)]
  have sr3 : srM (tkK x p) = tkK x p := by unfold srM; rw [if_neg (by omega), if_neg (by omega)]
  refine rn_loopv (F := fun n (_ : Nat) => fX8_advances_L77 n 38) (fun a M' => XF xMt M M' ∧ Mi M' 38 33 = nI a ∧ Mi M' 38 34 = nI (tkS x p) ∧ Mi M' 38 35 = nI (srM (tkK x p)) ∧ (tkK x p = 2 → Mi M' 38 36 = nI (dvM x (tkS x p) (a - tkS x p))) ∧ tkS x p ≤ a ∧ a ≤ x.2 ∧ tkE x p = fb (fun j => srt (x.1 j) != tkK x p) x.2 a ∧ ∀ c, tkS x p ≤ c → c < a → srt (x.1 c) = tkK x p) (fun a => x.2 - a) ?_ fu (tkS x p) M (by unfold fu; omega) ⟨XF.rf, a0, a1, a2, fun _ => by rw [Nat.sub_self]; exact a3, Nat.le_refl _, sle, eE, fun c hc hc2 => by omega⟩
  rintro n a M1 ⟨x1, b0, b1, b2, b3, ha1, ha2, he, hall⟩ ih
  have m1 := hM.xf x1
  have t1 := hx.mt x1
  show Rn (fX8_advances_L77 (n + 1) 38) M1 _
  unfold fX8_advances_L77
  rw [Rn_bnd, Rn_gI, b2, sr3, Rn_bnd, mIn (x := tkK x p) (a := 1) (b := 3) (lo := 1) (hi := 3) rfl rfl rfl (by omega) (by omega) (by omega), decide_eq_true (show 1 ≤ tkK x p ∧ tkK x p ≤ 3 from ⟨h1, h3⟩), if_neg (by decide), Rn_bnd, mSee m1 t1 (by omega) b0, Rn_bnd, mSort (bAt_leM hx a), Rn_bnd, Rn_gI, b2]
  have s6 := srM_le (srt_le (bAt x a))
  have stop : srt (bAt x a) ≠ tkK x p → tkE x p = a := by
    intro q
    rcases Nat.eq_or_lt_of_le ha2 with z | z
    · rw [he, fb_ge_w (by omega), z]
    · rw [he, fb_at z]
      show (srt (x.1 a) != tkK x p) = true
      have : srt (bAt x a) = srt (x.1 a) := by unfold bAt; rw [if_pos z]
      rw [← this]; simpa using q
  refine Rn_cs ((neq (by omega) (by omega)).trans srM_inj) (fun q => ?_) (fun q => ?_)
  · have hlt : a < x.2 := by
      rcases Nat.eq_or_lt_of_le ha2 with z | z
      · exfalso
        have : srt (bAt x a) = 0 := by unfold bAt; rw [if_neg (by omega)]; rfl
        omega
      · exact z
    have eb : bAt x a = x.1 a := by unfold bAt; rw [if_pos hlt]
    have eb2 : bI (bAt x a) = nI (x.1 a) := by rw [eb]; unfold bI; rw [if_neg (by have := hb a hlt; omega)]
    have hq : srt (x.1 a) = tkK x p := by rw [← eb]; exact q
    have next : ∀ v : Int32, (tkK x p = 2 → v = nI (dvM x (tkS x p) (a + 1 - tkS x p))) → Rn (fX8_advances_L144 (fX8_advances_L77 n) 38 v 38) M1 (fun _ M' => XF xMt M M' ∧ mTk M' x p) := by
      intro v hv
      unfold fX8_advances_L144
      have e33 : Mi (sI M1 38 36 v) 38 33 = nI a := by rw [Mi_sI, if_neg (by omega)]; exact b0
      rw [Rn_bnd, Rn_pI, Rn_bnd, Rn_gI, e33, Rn_bnd, Rn_pI, nL1, nI_add]
      refine ih (a + 1) _ ⟨(x1.sI rfl).sI rfl, sI_self, ?_, ?_, ?_, by omega, hlt, ?_, ?_⟩ (by omega)
      · rw [Mi_sI, if_neg (by omega), Mi_sI, if_neg (by omega)]; exact b1
      · rw [Mi_sI, if_neg (by omega), Mi_sI, if_neg (by omega)]; exact b2
      · intro z; rw [Mi_sI, if_neg (by omega), sI_self]; exact hv z
      · rw [he, fb_next hlt (by show (srt (x.1 a) != tkK x p) = false; rw [hq]; simp)]
      · intro c hc1 hc2
        by_cases z : c = a
        · rw [z]; exact hq
        · exact hall c hc1 (by omega)
    have same : ∀ v, Mi M1 38 36 = v → (tkK x p = 2 → v = nI (dvM x (tkS x p) (a + 1 - tkS x p))) → Rn (fX8_advances_L122 (fX8_advances_L77 n) 38 38) M1 (fun _ M' => XF xMt M M' ∧ mTk M' x p) := by
      intro v e hv
      unfold fX8_advances_L122
      rw [Rn_bnd, Rn_gI, e]; exact next v hv
    rw [Rn_bnd, Rn_gI, b2, sr3]
    refine Rn_cs (show nI (tkK x p) = 2 ↔ tkK x p = 2 from neq (b := 2) (by omega) (by omega)) (fun g => ?_) (fun g => same _ rfl (fun z => absurd z g))
    have b3 := b3 g
    have dd := dvM_n x (tkS x p) (a - tkS x p) (fun i hi => (hall _ (by omega) (by omega)).trans g)
    have es : a + 1 - tkS x p = (a - tkS x p) + 1 := by omega
    have ed : dvM x (tkS x p) (a + 1 - tkS x p) = if 10000 < dvM x (tkS x p) (a - tkS x p) then dvM x (tkS x p) (a - tkS x p) else 10 * dvM x (tkS x p) (a - tkS x p) + (x.1 a - 48) := by
      rw [es]
      show (if 10000 < dvM x (tkS x p) (a - tkS x p) then dvM x (tkS x p) (a - tkS x p) else 10 * dvM x (tkS x p) (a - tkS x p) + (x.1 (tkS x p + (a - tkS x p)) - 48)) = _
      rw [show tkS x p + (a - tkS x p) = a by omega]
    have d := srt_2 (hq.trans g)
    rw [Rn_bnd, Rn_gI, b3]
    refine Rn_cs (show nI (dvM x (tkS x p) (a - tkS x p)) ≤ 10000 ↔ dvM x (tkS x p) (a - tkS x p) ≤ 10000 from nle (b := 10000) (by omega) (by omega)) (fun z => ?_) (fun z => ?_)
    · rw [Rn_bnd, Rn_gI, b3, Rn_bnd, mSee m1 t1 (by omega) b0, eb2]
      have hn : (10 : Int32) * nI (dvM x (tkS x p) (a - tkS x p)) + nI (x.1 a) - 48 = nI (10 * dvM x (tkS x p) (a - tkS x p) + (x.1 a - 48)) := by
        rw [show (10 : Int32) = nI 10 from rfl, show (48 : Int32) = nI 48 from rfl, pk_mul, nI_add, nsb (by omega)]
        congr 1; omega
      rw [hn]
      exact next _ (fun _ => by rw [ed, if_neg (by omega)])
    · exact same _ b3 (fun _ => by rw [ed, if_pos (by omega)])
  · rw [Rn_rtn]
    have ea := stop q
    refine ⟨x1, ?_, b1, b2, fun z => ?_⟩
    · rw [ea]; exact b0
    · unfold nuM; rw [ea]; exact b3 z
theorem mAdv (hM : MO M) (hx : isTxM M x) {p : Nat} (hp : p ≤ x.2) (h3 : Mi M 38 33 = nI p) : Rn (fX8_advances 38) M (fun _ M' => XF xMt M M' ∧ mTk M' x p) := by
  have h9 := hx.2.1
  have hb := hx.2.2.2
  unfold fX8_advances
  refine rn_loopv (F := fun n (_ : Nat) => fX8_advances_L0 n 38) (fun i M' => XF xMt M M' ∧ Mi M' 38 33 = nI i ∧ p ≤ i ∧ i ≤ x.2 ∧ tkS x p = fb (nsp x) x.2 i) (fun i => x.2 - i) ?_ fu p M (by unfold fu; omega) ⟨XF.rf, h3, Nat.le_refl _, hp, rfl⟩
  rintro n i M1 ⟨x1, f1, hpi, hi, he⟩ ih
  have m1 := hM.xf x1
  have t1 := hx.mt x1
  have sle := tkS_le x p
  have kle : tkK x p ≤ 6 := srt_le _
  show Rn (fX8_advances_L0 (n + 1) 38) M1 _
  have space : bAt x i = 32 ∨ bAt x i = 10 → Rn (fX8_advances_L18 (fX8_advances_L0 n) 38) M1 (fun _ M' => XF xMt M M' ∧ mTk M' x p) := by
    intro g
    have hlt : i < x.2 := by
      unfold bAt at g
      by_cases z : i < x.2
      · exact z
      · rw [if_neg z] at g; omega
    have eb : bAt x i = x.1 i := by unfold bAt; rw [if_pos hlt]
    unfold fX8_advances_L18
    rw [Rn_bnd, Rn_gI, f1, Rn_bnd, Rn_pI, nL1, nI_add]
    refine ih (i + 1) _ ⟨x1.sI rfl, sI_self, by omega, hlt, ?_⟩ (by omega)
    rw [he, fb_next hlt]
    show (!(x.1 i == 32 || x.1 i == 10)) = false
    rw [← eb]
    rcases g with g | g <;> simp [g]
  unfold fX8_advances_L0
  rw [Rn_bnd, mSee m1 t1 (by omega) f1]
  refine Rn_cs (bI_eq (c := 32) (bAt_leM hx i) (by omega)) (fun g => space (Or.inl g)) (fun g => ?_)
  rw [Rn_bnd, mSee m1 t1 (by omega) f1]
  refine Rn_cs (bI_eq (c := 10) (bAt_leM hx i) (by omega)) (fun g1 => space (Or.inr g1)) (fun g1 => ?_)
  have hs : tkS x p = i := by
    by_cases z : i < x.2
    · have eb : bAt x i = x.1 i := by unfold bAt; rw [if_pos z]
      rw [he, fb_at z]
      show (!(x.1 i == 32 || x.1 i == 10)) = true
      rw [← eb, beq_false_of_ne g, beq_false_of_ne g1]; rfl
    · rw [he, fb_ge_w (by omega)]; omega
  rw [Rn_bnd, Rn_gI, f1, Rn_bnd, Rn_pI]
  have x2 : XF xMt M (sI M1 38 34 (nI i)) := x1.sI rfl
  have f2 : Mi (sI M1 38 34 (nI i)) 38 33 = nI i := by rw [Mi_sI, if_neg (by omega)]; exact f1
  have s2 : Mi (sI M1 38 34 (nI i)) 38 34 = nI i := sI_self
  generalize sI M1 38 34 (nI i) = M2 at x2 f2 s2 ⊢
  have ek : srt (bAt x i) = tkK x p := by unfold tkK; rw [hs]
  rw [Rn_bnd, mSee (hM.xf x2) (hx.mt x2) (by omega) f2, Rn_bnd, mSort (bAt_leM hx i), ek, Rn_bnd, Rn_pI, Rn_bnd, Rn_pI]
  have x3 : XF xMt M (sI (sI M2 38 35 (nI (srM (tkK x p)))) 38 36 0) := (x2.sI rfl).sI rfl
  have g0 : Mi (sI (sI M2 38 35 (nI (srM (tkK x p)))) 38 36 0) 38 33 = nI i := by rw [Mi_sI, if_neg (by omega), Mi_sI, if_neg (by omega)]; exact f2
  have g1 : Mi (sI (sI M2 38 35 (nI (srM (tkK x p)))) 38 36 0) 38 34 = nI i := by rw [Mi_sI, if_neg (by omega), Mi_sI, if_neg (by omega)]; exact s2
  have g2 : Mi (sI (sI M2 38 35 (nI (srM (tkK x p)))) 38 36 0) 38 35 = nI (srM (tkK x p)) := by rw [Mi_sI, if_neg (by omega), sI_self]
  have g3 : Mi (sI (sI M2 38 35 (nI (srM (tkK x p)))) 38 36 0) 38 36 = nI 0 := sI_self
  generalize sI (sI M2 38 35 (nI (srM (tkK x p)))) 38 36 0 = M3 at x3 g0 g1 g2 g3 ⊢
  have s6 := srM_le kle
  have s4 : srM (tkK x p) < 4 ↔ tkK x p < 4 := by unfold srM; repeat' split
                                                  all_goals omega
  rw [Rn_bnd, Rn_gI, g0, Rn_bnd, Rn_gI, g2]
  -- no loop
  have none : ∀ e, (tkK x p < 1 ∨ 3 < tkK x p) → tkE x p = e → Rn (fX8_advances_L77 fu 38) (sI M3 38 33 (nI e)) (fun _ M' => XF xMt M M' ∧ mTk M' x p) := by
    intro e z ee
    have h35 : Mi (sI M3 38 33 (nI e)) 38 35 = nI (srM (tkK x p)) := by rw [Mi_sI, if_neg (by omega)]; exact g2
    show Rn (fX8_advances_L77 (19999 + 1) 38) _ _
    unfold fX8_advances_L77
    rw [Rn_bnd, Rn_gI, h35, Rn_bnd, mIn (x := srM (tkK x p)) (a := 1) (b := 3) (lo := 1) (hi := 3) rfl rfl rfl (by omega) (by omega) (by omega), decide_eq_false (fun y => by have := (srM_13 (tkK x p)).mp y; omega), if_pos (by decide), Rn_rtn]
    refine ⟨x3.sI rfl, ?_, ?_, h35, fun y => by omega⟩
    · rw [sI_self, ee]
    · rw [Mi_sI, if_neg (by omega), hs]; exact g1
  unfold fX8_advances_L73
  refine Rn_cs ((show nI (srM (tkK x p)) < 4 ↔ srM (tkK x p) < 4 from nlt (b := 4) (by omega) (by omega)).trans s4) (fun z => ?_) (fun z => ?_)
  · rw [Rn_bnd, Rn_pI, show nI i + 0 = nI i from by rw [nL0, nI_add]; rfl]
    by_cases k0 : tkK x p = 0
    · exact none i (by omega) (by unfold tkE; rw [if_pos k0]; exact hs)
    · have x4 : XF xMt M (sI M3 38 33 (nI i)) := x3.sI rfl
      refine (mTok (hM.xf x4) (hx.mt x4) (p := p) (by omega) (by omega) ?_ ?_ ?_ ?_).mono ?_
      · rw [sI_self, hs]
      · rw [Mi_sI, if_neg (by omega), hs]; exact g1
      · rw [Mi_sI, if_neg (by omega)]; exact g2
      · rw [Mi_sI, if_neg (by omega)]; exact g3
      · rintro - M5 ⟨x5, k5⟩
        exact ⟨x4.tr x5, k5⟩
  · rw [Rn_bnd, Rn_pI, nL1, nI_add]
    exact none (i + 1) (by omega) (by unfold tkE; rw [if_neg (by omega), if_neg (by omega), hs])
end MTok
