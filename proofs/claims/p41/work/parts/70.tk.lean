/-! THE CLASS: tokens -/
def isTx (M : Mm) (x : Tx) : Prop := Mi M 9 0 = nI x.2 ∧ x.2 ≤ 900 ∧ (∀ i, i < x.2 → Mi M 10 i &&& 255 = nI (x.1 i)) ∧ ∀ i, i < x.2 → x.1 i < 256
def isTk (M : Mm) (x : Tx) (p : Nat) : Prop := Mi M 9 1 = nI (tkK x p) ∧ Mi M 9 2 = nI (tkS x p) ∧ Mi M 9 3 = nI (tkE x p)
def xTk (a b : Nat) : Bool := a == 9 && b != 0
theorem isTx.xf {X : Nat → Nat → Bool} {M M1 : Mm} {x : Tx} (h : isTx M x) (f : XF X M M1) (z : X 9 0 = false) (z2 : ∀ i, X 10 i = false) : isTx M1 x :=
  ⟨by rw [f.mi z]; exact h.1, h.2.1, fun i hi => by rw [f.mi (z2 i)]; exact h.2.2.1 i hi, h.2.2.2⟩
theorem isTk.xf {X : Nat → Nat → Bool} {M M1 : Mm} {x : Tx} {p : Nat} (h : isTk M x p) (f : XF X M M1) (z : ∀ b, b ≠ 0 → X 9 b = false) : isTk M1 x p :=
  ⟨by rw [f.mi (z _ (by omega))]; exact h.1, by rw [f.mi (z _ (by omega))]; exact h.2.1, by rw [f.mi (z _ (by omega))]; exact h.2.2⟩
def bI (b : Nat) : Int32 := if b = 256 then -1 else nI b
section CTok
variable {M : Mm} {x : Tx}
theorem cByteAt (hM : CO M) (hx : isTx M x) {i : Nat} (hi : i < 2147483648) {Q : Int32 → Mm → Prop} : Rn (fX6_byteAt 9 (nI i)) M Q ↔ Q (bI (bAt x i)) M := by
  refine Rn_det ?_
  obtain ⟨h0, h9, hb, h256⟩ := hx
  unfold fX6_byteAt bI bAt
  rw [if_neg (nI_pos hi), Rn_bnd, Rn_gI, h0]
  refine Rn_cs (nle (by omega) hi) (fun g => ?_) (fun g => ?_)
  · rw [Rn_rtn, if_neg (show ¬ i < x.2 by omega), if_pos rfl]; exact ⟨rfl, rfl⟩
  · have := h256 i (by omega)
    rw [if_pos (show i < x.2 by omega), if_neg (show ¬ x.1 i = 256 by omega), nL900, if_neg (by rw [nle (by omega) hi]; omega), Rn_bnd, cA9_4 hM, Rn_bnd, rn_lI hi, cL10 hM, Rn_rtn, hb i (by omega)]
    exact ⟨by omega, rfl, rfl⟩
theorem cIsSpace {b : Nat} (hb : b < 256) {Q : Int32 → Mm → Prop} : Rn (fX6_isSpace (nI b)) M Q ↔ Q (nI (bN (b == 32 || b == 10))) M := by
  refine Rn_det ?_
  unfold fX6_isSpace fX6_isSpace_L12
  refine Rn_cs (show nI b = 32 ↔ b = 32 from neq (b := 32) (by omega) (by omega)) (fun g => ?_) (fun g => ?_)
  · rw [Rn_grd, Rn_rtn]; refine ⟨by decide, ?_, rfl⟩; simp [g]; rfl
  · refine Rn_cs (show nI b = 10 ↔ b = 10 from neq (b := 10) (by omega) (by omega)) (fun g1 => ?_) (fun g1 => ?_)
    · rw [Rn_grd, Rn_rtn]; refine ⟨by decide, ?_, rfl⟩; simp [g1]; rfl
    · rw [Rn_grd, Rn_rtn]; refine ⟨by decide, ?_, rfl⟩; rw [beq_false_of_ne g, beq_false_of_ne g1]; rfl
theorem cKindOf {b : Nat} (hb : b ≤ 256) {Q : Int32 → Mm → Prop} : Rn (fX6_kindOf (bI b)) M Q ↔ Q (nI (srt b)) M := by
  refine Rn_det ?_
  unfold fX6_kindOf bI srt
  by_cases h : b = 256
  · rw [if_pos h, if_pos h, if_pos rfl, Rn_rtn]; exact ⟨rfl, rfl⟩
  · rw [if_neg h, if_neg h, if_neg (ne_m1 (by omega))]
    have low : ¬ (97 ≤ b ∧ b ≤ 122) → Rn (fX6_kindOf_L21 (nI b)) M (fun a M' => a = nI (if 97 ≤ b ∧ b ≤ 122 then 1 else if 48 ≤ b ∧ b ≤ 57 then 2 else if b = 46 ∨ b = 35 then 3 else if b = 45 then 4 else if b = 59 then 5 else 6) ∧ M' = M) := by
      intro g
      rw [if_neg g]
      have low2 : ¬ (48 ≤ b ∧ b ≤ 57) → Rn (fX6_kindOf_L35 (nI b)) M (fun a M' => a = nI (if 48 ≤ b ∧ b ≤ 57 then 2 else if b = 46 ∨ b = 35 then 3 else if b = 45 then 4 else if b = 59 then 5 else 6) ∧ M' = M) := by
        intro g2
        rw [if_neg g2]
        unfold fX6_kindOf_L35
        refine Rn_cs (show nI b = 46 ↔ b = 46 from neq (b := 46) (by omega) (by omega)) (fun q => ?_) (fun q => ?_)
        · rw [Rn_rtn, if_pos (Or.inl q)]; exact ⟨rfl, rfl⟩
        refine Rn_cs (show nI b = 35 ↔ b = 35 from neq (b := 35) (by omega) (by omega)) (fun q1 => ?_) (fun q1 => ?_)
        · rw [Rn_rtn, if_pos (Or.inr q1)]; exact ⟨rfl, rfl⟩
        rw [if_neg (show ¬ (b = 46 ∨ b = 35) by omega)]
        refine Rn_cs (show nI b = 45 ↔ b = 45 from neq (b := 45) (by omega) (by omega)) (fun q2 => ?_) (fun q2 => ?_)
        · rw [Rn_rtn, if_pos q2]; exact ⟨rfl, rfl⟩
        rw [if_neg q2]
        refine Rn_cs (show nI b = 59 ↔ b = 59 from neq (b := 59) (by omega) (by omega)) (fun q3 => ?_) (fun q3 => ?_)
        · rw [Rn_rtn, if_pos q3]; exact ⟨rfl, rfl⟩
        · rw [Rn_rtn, if_neg q3]; exact ⟨rfl, rfl⟩
      unfold fX6_kindOf_L21
      refine Rn_cs (show nI b < 48 ↔ b < 48 from nlt (b := 48) (by omega) (by omega)) (fun q => low2 (by omega)) (fun q => ?_)
      refine Rn_cs (show (57 : Int32) < nI b ↔ 57 < b from nlt (a := 57) (by omega) (by omega)) (fun q1 => low2 (by omega)) (fun q1 => ?_)
      rw [Rn_rtn, if_pos ⟨by omega, by omega⟩]; exact ⟨rfl, rfl⟩
    refine Rn_cs (show nI b < 97 ↔ b < 97 from nlt (b := 97) (by omega) (by omega)) (fun q => low (by omega)) (fun q => ?_)
    refine Rn_cs (show (122 : Int32) < nI b ↔ 122 < b from nlt (a := 122) (by omega) (by omega)) (fun q1 => low (by omega)) (fun q1 => ?_)
    rw [Rn_rtn, if_pos ⟨by omega, by omega⟩]; exact ⟨rfl, rfl⟩
theorem bAt_le (hx : isTx M x) (i : Nat) : bAt x i ≤ 256 := by
  unfold bAt; split
  · rename_i h; have := hx.2.2.2 i h; omega
  · exact Nat.le_refl _
theorem cNext (hM : CO M) (hx : isTx M x) {p : Nat} (hp : p ≤ x.2) (h3 : Mi M 9 3 = nI p) : Rn (fX6_next 9) M (fun _ M' => XF xTk M M' ∧ isTk M' x p) := by
  have h9 := hx.2.1
  have hb := hx.2.2.2
  unfold fX6_next
  rw [Rn_bnd, Rn_gI, h3, Rn_bnd, Rn_pI]
  have x0 : XF xTk M (sI M 9 2 (nI p)) := XF.rf.sI rfl
  have f0 : Mi (sI M 9 2 (nI p)) 9 2 = nI p := sI_self
  generalize sI M 9 2 (nI p) = M0 at x0 f0
  refine rn_loopv (F := fun n (_ : Nat) => fX6_next_L8 n 9) (fun i M' => XF xTk M M' ∧ Mi M' 9 2 = nI i ∧ p ≤ i ∧ i ≤ x.2 ∧ tkS x p = fb (nsp x) x.2 i) (fun i => x.2 - i) ?_ fu p M0 (by unfold fu; omega) ⟨x0, f0, Nat.le_refl _, hp, rfl⟩
  rintro n i M1 ⟨x1, f1, hpi, hi, he⟩ ih
  have m1 := hM.xf x1
  have t1 := hx.xf x1 rfl (fun _ => rfl)
  have sle := tkS_le x p
  -- the end of the spaces
  have tail : tkS x p = i → Rn (fX6_next_L46 9) M1 (fun _ M' => XF xTk M M' ∧ isTk M' x p) := by
    intro hs
    unfold fX6_next_L46
    rw [Rn_bnd, Rn_gI, f1, Rn_bnd, cByteAt m1 t1 (by omega), Rn_bnd, cKindOf (bAt_le t1 i), Rn_bnd, Rn_pI]
    have ek : srt (bAt x i) = tkK x p := by unfold tkK; rw [hs]
    rw [ek]
    have x2 : XF xTk M (sI M1 9 1 (nI (tkK x p))) := x1.sI rfl
    have f2 : Mi (sI M1 9 1 (nI (tkK x p))) 9 1 = nI (tkK x p) := sI_self
    have f3 : Mi (sI M1 9 1 (nI (tkK x p))) 9 2 = nI (tkS x p) := by rw [Mi_sI, if_neg (by omega), hs]; exact f1
    generalize sI M1 9 1 (nI (tkK x p)) = M2 at x2 f2 f3
    have kle := srt_le (bAt x (tkS x p))
    have kle : tkK x p ≤ 6 := kle
    have eE : tkE x p = if tkK x p = 0 then tkS x p else if tkK x p ≤ 3 then fb (fun j => srt (x.1 j) != tkK x p) x.2 (tkS x p) else tkS x p + 1 := rfl
    have done : ∀ (M3 : Mm) (e : Nat), XF xTk M M3 → Mi M3 9 1 = nI (tkK x p) → Mi M3 9 2 = nI (tkS x p) → Mi M3 9 3 = nI e → (¬ (tkK x p = 1 ∨ tkK x p = 2 ∨ tkK x p = 3) → e = tkE x p) → ((tkK x p = 1 ∨ tkK x p = 2 ∨ tkK x p = 3) → tkS x p < x.2 ∧ e = tkS x p + 1) → Rn (bnd (gI 9 1) fun v8 => if (v8 : Int32) = 1 then fX6_next_L109 fu 9 else bnd (gI 9 1) fun v9 => if (v9 : Int32) = 2 then fX6_next_L109 fu 9 else bnd (gI 9 1) fun v10 => if (v10 : Int32) = 3 then fX6_next_L109 fu 9 else rtn ()) M3 (fun _ M' => XF xTk M M' ∧ isTk M' x p) := by
      intro M3 e x3 g1 g2 g3 hno hyes
      have loop : (tkK x p = 1 ∨ tkK x p = 2 ∨ tkK x p = 3) → Rn (fX6_next_L109 fu 9) M3 (fun _ M' => XF xTk M M' ∧ isTk M' x p) := by
        intro hk
        obtain ⟨hlt, rfl⟩ := hyes hk
        have same : (fun j => srt (x.1 j) != tkK x p) (tkS x p) = false := by
          show (srt (x.1 (tkS x p)) != tkK x p) = false
          have : tkK x p = srt (x.1 (tkS x p)) := by unfold tkK bAt; rw [if_pos hlt]
          rw [← this]; simp
        have eE' : tkE x p = fb (fun j => srt (x.1 j) != tkK x p) x.2 (tkS x p + 1) := by rw [eE, if_neg (by omega), if_pos (by omega), fb_next hlt same]
        refine rn_loopv (F := fun n (_ : Nat) => fX6_next_L109 n 9) (fun i M' => XF xTk M M' ∧ Mi M' 9 1 = nI (tkK x p) ∧ Mi M' 9 2 = nI (tkS x p) ∧ Mi M' 9 3 = nI i ∧ i ≤ x.2 ∧ tkE x p = fb (fun j => srt (x.1 j) != tkK x p) x.2 i) (fun i => x.2 - i) ?_ fu (tkS x p + 1) M3 (by unfold fu; omega) ⟨x3, g1, g2, g3, hlt, eE'⟩
        rintro n i M4 ⟨x4, g1, g2, g3, hi, he⟩ ih
        have m4 := hM.xf x4
        have t4 := hx.xf x4 rfl (fun _ => rfl)
        show Rn (fX6_next_L109 (n + 1) 9) M4 _
        unfold fX6_next_L109
        rw [Rn_bnd, Rn_gI, g3, Rn_bnd, Rn_gI, t4.1]
        refine Rn_cs (nle (by omega) (by omega)) (fun q => ?_) (fun q => ?_)
        · rw [Rn_rtn]
          exact ⟨x4, g1, g2, by rw [g3, he, fb_ge_w q, show i = x.2 by omega]⟩
        · have hlt : i < x.2 := by omega
          rw [Rn_bnd, Rn_gI, g3, Rn_bnd, cByteAt m4 t4 (by omega), Rn_bnd, cKindOf (bAt_le t4 i), Rn_bnd, Rn_gI, g1]
          have sle := srt_le (bAt x i)
          have eb : srt (bAt x i) = srt (x.1 i) := by unfold bAt; rw [if_pos hlt]
          refine Rn_cs (neq (by omega) (by omega)) (fun q1 => ?_) (fun q1 => ?_)
          · rw [Rn_bnd, Rn_gI, g3, Rn_bnd, Rn_pI, nL1, nI_add]
            refine ih (i + 1) _ ⟨x4.sI rfl, by rw [Mi_sI, if_neg (by omega)]; exact g1, by rw [Mi_sI, if_neg (by omega)]; exact g2, sI_self, hlt, ?_⟩ (by omega)
            rw [he, fb_next hlt (by show (srt (x.1 i) != tkK x p) = false; rw [← eb, q1]; simp)]
          · rw [Rn_rtn]
            refine ⟨x4, g1, g2, ?_⟩
            rw [g3, he, fb_at hlt (by show (srt (x.1 i) != tkK x p) = true; rw [← eb]; simpa using q1)]
      rw [Rn_bnd, Rn_gI, g1]
      refine Rn_cs (show nI (tkK x p) = 1 ↔ tkK x p = 1 from neq (b := 1) (by omega) (by omega)) (fun q => loop (by omega)) (fun q => ?_)
      rw [Rn_bnd, Rn_gI, g1]
      refine Rn_cs (show nI (tkK x p) = 2 ↔ tkK x p = 2 from neq (b := 2) (by omega) (by omega)) (fun q1 => loop (by omega)) (fun q1 => ?_)
      rw [Rn_bnd, Rn_gI, g1]
      refine Rn_cs (show nI (tkK x p) = 3 ↔ tkK x p = 3 from neq (b := 3) (by omega) (by omega)) (fun q2 => loop (by omega)) (fun q2 => ?_)
      rw [Rn_rtn]
      exact ⟨x3, g1, g2, by rw [g3, hno (by omega)]⟩
    have k0 := tkK_0 hb p
    rw [Rn_bnd, Rn_gI, f2]
    refine Rn_cs (show nI (tkK x p) = 0 ↔ tkK x p = 0 from neq (b := 0) (by omega) (by omega)) (fun q => ?_) (fun q => ?_)
    · unfold fX6_next_L82
      rw [Rn_bnd, Rn_gI, f3, Rn_bnd, Rn_pI]
      refine done _ (tkS x p) (x2.sI rfl) (by rw [Mi_sI, if_neg (by omega)]; exact f2) (by rw [Mi_sI, if_neg (by omega)]; exact f3) sI_self (fun _ => by rw [eE, if_pos q]) (fun z => by omega)
    · unfold fX6_next_L82
      rw [Rn_bnd, Rn_gI, f3, Rn_bnd, Rn_pI, nL1, nI_add]
      refine done _ (tkS x p + 1) (x2.sI rfl) (by rw [Mi_sI, if_neg (by omega)]; exact f2) (by rw [Mi_sI, if_neg (by omega)]; exact f3) sI_self (fun z => by rw [eE, if_neg q, if_neg (by omega)]) (fun z => ⟨by
        have : tkS x p ≠ x.2 := fun y => q (k0.mpr y)
        omega, rfl⟩)
  show Rn (fX6_next_L8 (n + 1) 9) M1 _
  unfold fX6_next_L8
  rw [Rn_bnd, Rn_gI, f1, Rn_bnd, Rn_gI, t1.1]
  refine Rn_cs (nle (by omega) (by omega)) (fun g => tail (by rw [he, fb_ge_w g]; omega)) (fun g => ?_)
  have hlt : i < x.2 := by omega
  have hbi := hb i hlt
  rw [Rn_bnd, Rn_gI, f1, Rn_bnd, cByteAt m1 t1 (by omega), show bI (bAt x i) = nI (x.1 i) from by unfold bI bAt; rw [if_pos hlt, if_neg (by omega)], Rn_bnd, cIsSpace hbi]
  refine Rn_cs (bN_0 _) (fun q => tail (by rw [he, fb_at hlt (by show (!(x.1 i == 32 || x.1 i == 10)) = true; rw [q]; rfl)])) (fun q => ?_)
  rw [Rn_bnd, Rn_gI, f1, Rn_bnd, Rn_pI, nL1, nI_add]
  refine ih (i + 1) _ ⟨x1.sI rfl, sI_self, by omega, hlt, ?_⟩ (by omega)
  rw [he, fb_next hlt (by show (!(x.1 i == 32 || x.1 i == 10)) = false; simpa using q)]
/-! a token's number, dots, word -/
def cap (n : Nat) : Nat := if n < 1000 then n else 1000
theorem cap_s (v d : Nat) : cap (cap v * 10 + d) = cap (10 * v + d) := by
  unfold cap
  by_cases h : v < 1000
  · rw [if_pos h, Nat.mul_comm]
  · rw [if_neg h, if_neg (by omega), if_neg (by omega)]
theorem tk_in {p i : Nat} (hx : isTx M x) (hk : tkK x p = 1 ∨ tkK x p = 2 ∨ tkK x p = 3) (h1 : tkS x p ≤ i) (h2 : i < tkE x p) : srt (x.1 i) = tkK x p := by
  have e : tkE x p = fb (fun j => srt (x.1 j) != tkK x p) x.2 (tkS x p) := by unfold tkE; rw [if_neg (by omega), if_pos (by omega)]
  rw [e] at h2
  have := fb_no (p := fun j => srt (x.1 j) != tkK x p) h1 h2
  simpa using this
theorem srt_2 {b : Nat} (h : srt b = 2) : 48 ≤ b ∧ b ≤ 57 := by
  unfold srt at h
  repeat' split at h
  all_goals omega
theorem cNumber (hM : CO M) (hx : isTx M x) {p : Nat} (hk : isTk M x p) (h2 : tkK x p = 2) {Q : Int32 → Mm → Prop} : Rn (fX6_number 9) M Q ↔ Q (nI (cap (dcv x p))) M := by
  refine Rn_det ?_
  have h9 := hx.2.1
  have el := tkE_le hx.2.2.2 p
  have eg := tkE_gt hx.2.2.2 (p := p) (by omega)
  unfold fX6_number
  rw [Rn_bnd, Rn_gI, hk.2.1]
  refine rn_loopv (F := fun n j => fX6_number_L7 n 9 (nI (cap (dvN x (tkS x p) j))) (nI (tkS x p + j))) (fun j M' => M' = M ∧ tkS x p + j ≤ tkE x p) (fun j => tkE x p - (tkS x p + j)) ?_ fu 0 M (by unfold fu; omega) ⟨rfl, by omega⟩
  rintro n j M1 ⟨rfl, hj⟩ ih
  show Rn (fX6_number_L7 (n + 1) 9 (nI (cap (dvN x (tkS x p) j))) (nI (tkS x p + j))) M1 _
  unfold fX6_number_L7
  rw [Rn_bnd, Rn_gI, hk.2.2]
  refine Rn_cs (nle (by omega) (by omega)) (fun g => ?_) (fun g => ?_)
  · rw [Rn_rtn]
    have : j = tkE x p - tkS x p := by omega
    rw [this]; exact ⟨rfl, rfl⟩
  · have hlt : tkS x p + j < x.2 := by omega
    have d := srt_2 ((tk_in hx (Or.inr (Or.inl h2)) (show tkS x p ≤ tkS x p + j by omega) (by omega)).trans h2)
    have eb : bI (bAt x (tkS x p + j)) = nI (x.1 (tkS x p + j)) := by unfold bI bAt; rw [if_pos hlt, if_neg (by omega)]
    have cl : cap (dvN x (tkS x p) j) ≤ 1000 := by unfold cap; split <;> omega
    have e1 : nI (cap (dvN x (tkS x p) j)) * 10 + nI (x.1 (tkS x p + j)) - 48 = nI (cap (dvN x (tkS x p) j) * 10 + (x.1 (tkS x p + j) - 48)) := by
      rw [show (10 : Int32) = nI 10 from rfl, show (48 : Int32) = nI 48 from rfl, pk_mul, nI_add, nsb (by omega)]
      congr 1; omega
    have e2 : mmin (nI 1000) (nI (cap (dvN x (tkS x p) j) * 10 + (x.1 (tkS x p + j) - 48))) = nI (cap (dvN x (tkS x p) (j + 1))) := by
      rw [mm_nI (by omega) (by omega)]
      show nI (cap (cap (dvN x (tkS x p) j) * 10 + (x.1 (tkS x p + j) - 48))) = nI (cap (10 * dvN x (tkS x p) j + (x.1 (tkS x p + j) - 48)))
      rw [cap_s]
    rw [Rn_bnd, cByteAt hM hx (by omega), eb, Rn_bnd, Rn_rtn, e1, nL1000, e2, nL1, nI_add]
    exact ih (j + 1) M1 ⟨rfl, by omega⟩ (by omega)
theorem dotsN_lt (x : Tx) (s : Nat) : ∀ n, dotsN x s n < 2 ^ n
  | 0 => by show 0 < 1; omega
  | n + 1 => by
    have := dotsN_lt x s n
    show (if x.1 (s + n) = 35 then dotsN x s n ||| 2 ^ n else dotsN x s n) < 2 ^ (n + 1)
    have e : 2 ^ (n + 1) = 2 ^ n * 2 := Nat.pow_succ _ _
    split
    · exact Nat.or_lt_two_pow (by omega) (by omega)
    · omega
theorem cDots (hM : CO M) (hx : isTx M x) {p : Nat} (hk : isTk M x p) (h3 : tkK x p = 3) (h40 : tkE x p - tkS x p ≤ 40) {Q : Int64 → Mm → Prop} : Rn (fX6_dots 9) M Q ↔ Q (lN (dotsN x (tkS x p) (tkE x p - tkS x p))) M := by
  refine Rn_det ?_
  have h9 := hx.2.1
  have el := tkE_le hx.2.2.2 p
  have eg := tkE_gt hx.2.2.2 (p := p) (by omega)
  unfold fX6_dots
  refine rn_loopv (F := fun n j => fX6_dots_L4 n 9 (lN (dotsN x (tkS x p) j)) (nI j)) (fun j M' => M' = M ∧ tkS x p + j ≤ tkE x p) (fun j => tkE x p - (tkS x p + j)) ?_ fu 0 M (by unfold fu; omega) ⟨rfl, by omega⟩
  rintro n j M1 ⟨rfl, hj⟩ ih
  show Rn (fX6_dots_L4 (n + 1) 9 (lN (dotsN x (tkS x p) j)) (nI j)) M1 _
  unfold fX6_dots_L4 fX6_dots_L44
  rw [Rn_bnd, Rn_gI, hk.2.2, Rn_bnd, Rn_gI, hk.2.1, nsb (by omega)]
  refine Rn_cs (nle (by omega) (by omega)) (fun g => ?_) (fun g => ?_)
  · rw [Rn_rtn, show j = tkE x p - tkS x p by omega]; exact ⟨rfl, rfl⟩
  · have hlt : tkS x p + j < x.2 := by omega
    have hb := hx.2.2.2 _ hlt
    have dl := dotsN_lt x (tkS x p) j
    have : 2 ^ j ≤ 2 ^ 40 := pw_le (by omega)
    have eb : bI (bAt x (tkS x p + j)) = nI (x.1 (tkS x p + j)) := by unfold bI bAt; rw [if_pos hlt, if_neg (by omega)]
    have nx := ih (j + 1) M1 ⟨rfl, by omega⟩ (by omega)
    have ed : dotsN x (tkS x p) (j + 1) = if x.1 (tkS x p + j) = 35 then dotsN x (tkS x p) j ||| 2 ^ j else dotsN x (tkS x p) j := rfl
    rw [if_neg (by rw [nL40, nle (by omega) (by omega)]; omega), Rn_bnd, Rn_gI, hk.2.1, Rn_bnd, nI_add, cByteAt hM hx (by omega), eb]
    refine Rn_cs (show nI (x.1 (tkS x p + j)) = 35 ↔ x.1 (tkS x p + j) = 35 from neq (b := 35) (by omega) (by omega)) (fun q => ?_) (fun q => ?_)
    · rw [ed, if_pos q] at nx
      rw [Rn_bnd, Rn_rtn, show (1 : Int64) = lN 1 from rfl, lsh1 (by omega), Nat.one_mul, wb_or (by omega) (by omega), nL1, nI_add]
      exact nx
    · rw [ed, if_neg q] at nx
      rw [nL1, nI_add]
      exact nx
end CTok

