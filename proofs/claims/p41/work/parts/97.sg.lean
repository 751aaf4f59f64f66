/-! A SENDING: a row is had; the walk over the lines -/
theorem cn_0 {p : Nat → Bool} : ∀ {w : Nat}, cn p w = 0 → ∀ k, k < w → p k = false
  | 0, _, k, hk => absurd hk (Nat.not_lt_zero k)
  | w + 1, h, k, hk => by
    rw [cn_s] at h
    by_cases e : k = w
    · subst e
      cases q : p k with
      | false => rfl
      | true => rw [q] at h; have : bN true = 1 := rfl; omega
    · exact cn_0 (p := p) (w := w) (by omega) k (by omega)
theorem dif_z {w a b : Nat} (ha : a < 2 ^ w) (hb : b < 2 ^ w) : dif w a b = 0 ↔ a = b := by
  constructor
  · intro h
    apply Nat.eq_of_testBit_eq
    intro k
    by_cases hk : k < w
    · have := cn_0 h k hk
      simpa using this
    · rw [Nat.testBit_lt_two_pow (Nat.lt_of_lt_of_le ha (pw_le (by omega))), Nat.testBit_lt_two_pow (Nat.lt_of_lt_of_le hb (pw_le (by omega)))]
  · rintro rfl
    unfold dif
    exact sm_z (fun i _ => by simp [bN])
section SG
variable {M0 M : Mm} {p : Nat} {P : Pg} {lo b : Nat → Nat} {hs hl h a : Nat} {R : List Nat} {c s : Nat} {k96 : Nat → Int32 → Int32 → Mm → Option (Unit × Mm × Nat × Nat)} {Q : Unit → Mm → Nat → Nat → Prop} {N ag x : Nat} {G : List Nat} {S : Sn}
theorem lHad (L : QP M0 p P lo hs hl h a R) (hN : N = Mn M0) (hP : okP P b) (q : QS M N p P S ag x G) (g : SK M0 M N p) {l : Nat} (hl' : l < PL P) (hp : Pl M c) {y r : Nat} (hy : isBr M y (Pw P) r) (hy2 : x + 4 ≤ y) (hr : r < 2 ^ Pw P) (k : ∀ M' G', SK M0 M' N p → QS M' N p P (zGot P l r S) ag x G' → Pl M' c → Mn M' = Mn M → Rw (k96 p (nI (PL P)) (nI (l + 1))) M' c s Q) : Rw (gX9_send_L220 k96 p (nI (PL P)) (nI l) 0 (some y)) M c s Q := by
  have h7 := hP.2.2.1
  have h27 := hP.2.1
  have hpN := q.2.2.2.2.2.1
  have hrow := hP.1.2.2.2.1 l hl'
  have e11 := q.2.2.2.2.1.2.2.1
  unfold gX9_send_L220
  rw [Rw_wb, Rn_gI, e11]
  refine Rw_yes rfl ?_
  unfold gX9_send_L237
  rw [Rw_wb, Rn_pI, nL0, nI_add]
  have q1 := q.pk (k := 11) (v := zL S + 0) S ⟨rfl, rfl, rfl, rfl, rfl⟩ rfl rfl rfl rfl
  have g1 := g.sIp (k := 11) (v := nI (zL S + 0)) (by omega)
  have p1 : Pl (sI M p 11 (nI (zL S + 0))) c := hp
  have n1 : Mn (sI M p 11 (nI (zL S + 0))) = Mn M := rfl
  have hyp : y ≠ p := by have := q.2.2.2.2.2.2.1; omega
  have y1 : isBr (sI M p 11 (nI (zL S + 0))) y (Pw P) r := hy.gx (Gx.rf.sI (X := x1 p) (n := Mn M) (fun _ => by simp [x1])) hy.1 (x1_f hyp)
  generalize sI M p 11 (nI (zL S + 0)) = M1 at q1 g1 p1 n1 y1
  have e12 : Mi M1 p 12 = nI (zU S) := q1.2.2.2.2.1.2.2.2
  rw [Rw_wb, Rn_gI, e12]
  refine Rw_yes rfl ?_
  rw [Rw_op1]
  unfold gX9_send_L260 gX9_send_L261
  rw [Rw_wb, Rn_pI, nL0, nI_add, Rw_op1]
  have q2 := q1.pk (k := 12) (v := zU S + 0) S ⟨rfl, rfl, rfl, rfl, rfl⟩ rfl rfl rfl rfl
  have g2 := g1.sIp (k := 12) (v := nI (zU S + 0)) (by omega)
  have p2 : Pl (sI M1 p 12 (nI (zU S + 0))) c := p1
  have n2 : Mn (sI M1 p 12 (nI (zU S + 0))) = Mn M := n1
  have y2 : isBr (sI M1 p 12 (nI (zU S + 0))) y (Pw P) r := y1.gx (Gx.rf.sI (X := x1 p) (n := Mn M1) (fun _ => by simp [x1])) y1.1 (x1_f hyp)
  generalize sI M1 p 12 (nI (zU S + 0)) = M2 at q2 g2 p2 n2 y2
  rw [Rw_wb, Rn_gA q2.1.1]
  refine lPlace q2 g2 hl' (by omega) y2 (by have := q2.2.2.2.2.2.2.1; omega) (Or.inr hy2) p2 (fun M3 G3 g3 q3 p3 n3 => ?_)
  have L3 := g3.qp L hN
  rw [Rw_wb, Rn_gA q3.2.1.1, Rw_wq, lWrong L3 q3.1 (by omega) hl' hl']
  have eg : zG (updN (zG S) l r, zS S, zT S, zC S, zK S, zA S, zD S, zP S, zL S, zU S) l = r := updN_s _ _ _
  rw [eg]
  have hd : dif (Pw P) r (Pr P l) ≤ Pw P := cn_le _ _
  have key : ∀ v, v = (if r = Pr P l then 0 else 3) → Rw (gX9_send_L299 k96 p (nI (PL P)) (nI l) (nI v) (nI l) x) M3 c s Q := by
    intro v hv
    unfold gX9_send_L299 gX9_send_L430
    rw [Rw_wb, aI_x q3.2.2.1.2.1 hl' (by omega), nL1, nI_add]
    refine k _ G3 (g3.sIx (by have := q3.2.2.2.2.2.2.1; omega) hpN) ?_ p3 (by show Mn M3 = _; omega)
    have q5 := q3.x5 (l := l) (v := v)
    rw [hv] at q5 ⊢
    exact q5
  refine Rw_cs (d := r = Pr P l) ((neq (b := 0) (by omega) (by omega)).trans (dif_z hr hrow)) (fun z => ?_) (fun z => ?_)
  · exact key 0 (by rw [if_pos z])
  · exact key 3 (by rw [if_neg z])
/-- how a sending has gone so far; what has been made -/
def sOk (P : Pg) (lo b : Nat → Nat) (S : Sn) (l c1 s1 tu tv c s : Nat) : Prop :=
  zOk P S l ∧ (∀ j, zK S j ≤ zT S j ∧ zK S j ≤ lo j) ∧ c + 10000 * zMu P S l ≤ c1 + 3000000 ∧
  (((∀ j, j < l → zG S j = Pr P j) ∧ c ≤ c1 + sm (uW b (Pt P 0)) l + zP S * tu + sm (fun j => zK S j * (uX b (Pt P 0) j - tu)) (PL P) ∧ s ≤ s1 + sm (vW b (Pt P 0)) l + zP S * tv + sm (fun j => zK S j * (vX b (Pt P 0) j - tv)) (PL P)) ∨
   (¬ zP S < Pt P 3 ∧ c ≤ c1 + sm (uF b (Pt P 0)) l + zP S * tu + sm (fun j => zK S j * (uX b (Pt P 0) j - tu)) (PL P) ∧ s ≤ s1 + sm (vF b (Pt P 0)) l + zP S * tv + sm (fun j => zK S j * (vX b (Pt P 0) j - tv)) (PL P)))
theorem vW_F (b : Nat → Nat) (e l : Nat) : vW b e l ≤ vF b e l := by
  unfold vW vF vRd vRx sRd
  have : cpS (bu b l) ≤ cpS 27 := by have := cpS_le (bu b l); exact this
  split <;> omega
theorem uF_m (b : Nat → Nat) (e l : Nat) : uF b e l ≤ 1500 := by
  unfold uF uRx kRd
  have h1 := uBi_m b e l
  have h2 := uMk_m b e l
  have h3 : uCo b l ≤ 230 := by
    unfold uCo
    have := kCd_m (m := 28) (Nat.le_refl _) (bu b l)
    split <;> omega
  have : cpC 27 = 4 := rfl
  split <;> omega
/-- a step back -/
theorem sOk_step {lo : Nat → Nat} {l c1 s1 tu tv c' s' : Nat} (hw : wfP P) (h7 : PL P ≤ 7) (hl' : l < PL P) (h : sOk P lo b S l c1 s1 tu tv c s) (hlost : zT (zPut P l S) l ≤ lo l) (hz : zP S < Pt P 3) (hc : c' ≤ c + (uBi b (Pt P 0) l + sm (uMk b (Pt P 0)) (l + 1))) (hs' : s' ≤ s + (vBi b (Pt P 0) l + sm (vMk b (Pt P 0)) (l + 1))) : sOk P lo b (zStep P l (zMiss 1 (zPut P l S))) (mkU P l) c1 s1 tu tv c' s' := by
  obtain ⟨z1, z2, z3, z4⟩ := h
  have hf := zFail_ok (lo := lo) (how := 1) hw hl' z1
  have hfe : zFail P l 1 (zPut P l S) = (zStep P l (zMiss 1 (zPut P l S)), mkU P l) := by
    unfold zFail; rw [if_pos (show zP (zPut P l S) < Pt P 3 from hz)]
  rw [hfe] at hf
  obtain ⟨f1, f2⟩ := hf
  have f1 : zOk P (zStep P l (zMiss 1 (zPut P l S))) (mkU P l) := f1
  have f2 : zMu P (zStep P l (zMiss 1 (zPut P l S))) (mkU P l) < zMu P S l := f2
  have eT : zT (zPut P l S) l = zT S l + 1 := updN_s _ _ _
  have hmk := mkU_le P l
  have h1 := uBi_m b (Pt P 0) l
  have h2 := sm_le243 b (Pt P 0) (l + 1)
  have cU := sm_upd (f := zK S) (Y := fun j => uX b (Pt P 0) j - tu) hl'
  have cV := sm_upd (f := zK S) (Y := fun j => vX b (Pt P 0) j - tv) hl'
  have eu : uX b (Pt P 0) l = uBi b (Pt P 0) l + sm (uMk b (Pt P 0)) (l + 1) + sm (uW b (Pt P 0)) l := rfl
  have ev : vX b (Pt P 0) l = vBi b (Pt P 0) l + sm (vMk b (Pt P 0)) (l + 1) + sm (vW b (Pt P 0)) l := rfl
  refine ⟨f1, fun j => ?_, by omega, ?_⟩
  · show updN (zK S) l (zK S l + 1) j ≤ updN (zT S) l (zT S l + 1) j ∧ updN (zK S) l (zK S l + 1) j ≤ lo j
    have zl := z2 l
    have zj := z2 j
    by_cases e : j = l
    · subst e; rw [updN_s, updN_s]; omega
    · rw [updN_n e, updN_n e]; exact zj
  · rcases z4 with ⟨w1, w2, w3⟩ | ⟨w1, w2, w3⟩
    · left
      refine ⟨fun j hj => w1 j (by omega), ?_, ?_⟩
      · show c' ≤ c1 + sm (uW b (Pt P 0)) (mkU P l) + (zP S + 1) * tu + sm (fun j => updN (zK S) l (zK S l + 1) j * (uX b (Pt P 0) j - tu)) (PL P)
        rw [cU, Nat.succ_mul]; omega
      · show s' ≤ s1 + sm (vW b (Pt P 0)) (mkU P l) + (zP S + 1) * tv + sm (fun j => updN (zK S) l (zK S l + 1) j * (vX b (Pt P 0) j - tv)) (PL P)
        rw [cV, Nat.succ_mul]; omega
    · exact absurd hz w1
/-- a line is filled, steps being used up -/
theorem sOk_fill {lo : Nat → Nat} {l how c1 s1 tu tv c' s' : Nat} (hw : wfP P) (h7 : PL P ≤ 7) (hl' : l < PL P) (h : sOk P lo b S l c1 s1 tu tv c s) (hz : ¬ zP S < Pt P 3) (hc : c' ≤ c + uF b (Pt P 0) l) (hs' : s' ≤ s + vF b (Pt P 0) l) : sOk P lo b (zFill P l how (zMiss how (zPut P l S))) (l + 1) c1 s1 tu tv c' s' := by
  obtain ⟨z1, z2, z3, z4⟩ := h
  have hf := zFail_ok (lo := lo) (how := how) hw hl' z1
  have hfe : zFail P l how (zPut P l S) = (zFill P l how (zMiss how (zPut P l S)), l + 1) := by
    unfold zFail; rw [if_neg (show ¬ zP (zPut P l S) < Pt P 3 from hz)]
  rw [hfe] at hf
  obtain ⟨f1, f2⟩ := hf
  have f2 : zMu P (zFill P l how (zMiss how (zPut P l S))) (l + 1) < zMu P S l := f2
  have h1 := uF_m b (Pt P 0) l
  have sW := sm_lef (uW_F b (Pt P 0)) l
  have sV := sm_lef (vW_F b (Pt P 0)) l
  refine ⟨f1, fun j => ?_, by omega, Or.inr ⟨hz, ?_, ?_⟩⟩
  · show zK S j ≤ updN (zT S) l (zT S l + 1) j ∧ zK S j ≤ lo j
    have zj := z2 j
    have zl := z2 l
    by_cases e : j = l
    · subst e; rw [updN_s]; omega
    · rw [updN_n e]; exact zj
  · show c' ≤ c1 + sm (uF b (Pt P 0)) (l + 1) + zP S * tu + sm (fun j => zK S j * (uX b (Pt P 0) j - tu)) (PL P)
    rw [sm_s]
    rcases z4 with ⟨w1, w2, w3⟩ | ⟨w1, w2, w3⟩ <;> omega
  · show s' ≤ s1 + sm (vF b (Pt P 0)) (l + 1) + zP S * tv + sm (fun j => zK S j * (vX b (Pt P 0) j - tv)) (PL P)
    rw [sm_s]
    rcases z4 with ⟨w1, w2, w3⟩ | ⟨w1, w2, w3⟩ <;> omega
/-- a row is had: the right one, where all above is right -/
theorem sOk_got {lo : Nat → Nat} {l r c1 s1 tu tv c' s' : Nat} (hw : wfP P) (h7 : PL P ≤ 7) (hl' : l < PL P) (h : sOk P lo b S l c1 s1 tu tv c s) (hnl : ¬ zT (zPut P l S) l ≤ lo l) (hr : zRead P l (zPut P l S) = some r) (hc : c' ≤ c + uF b (Pt P 0) l) (hs' : s' ≤ s + vF b (Pt P 0) l) (hcl : (∀ j, j < l → zG S j = Pr P j) → c' ≤ c + uW b (Pt P 0) l ∧ s' ≤ s + vW b (Pt P 0) l) : sOk P lo b (zGot P l r (zPut P l S)) (l + 1) c1 s1 tu tv c' s' := by
  obtain ⟨z1, z2, z3, z4⟩ := h
  have hf := snd1_ok (lo := lo) hw hl' z1
  have hfe : snd1 P lo S l = (zGot P l r (zPut P l S), l + 1) := by
    unfold snd1; rw [if_neg hnl, hr]
  rw [hfe] at hf
  obtain ⟨f1, f2⟩ := hf
  have f2 : zMu P (zGot P l r (zPut P l S)) (l + 1) < zMu P S l := f2
  have h1 := uF_m b (Pt P 0) l
  refine ⟨f1, fun j => ?_, by omega, ?_⟩
  · show zK S j ≤ updN (zT S) l (zT S l + 1) j ∧ zK S j ≤ lo j
    have zj := z2 j
    have zl := z2 l
    by_cases e : j = l
    · subst e; rw [updN_s]; omega
    · rw [updN_n e]; exact zj
  · rcases z4 with ⟨w1, w2, w3⟩ | ⟨w1, w2, w3⟩
    · left
      obtain ⟨y1, y2⟩ := hcl w1
      refine ⟨fun j hj => ?_, ?_, ?_⟩
      · show updN (zG S) l r j = Pr P j
        by_cases e : j = l
        · subst e
          rw [updN_s]
          unfold zRead at hr
          by_cases m : isMk P j = true
          · rw [if_pos m] at hr; cases hr; rfl
          · rw [if_neg m] at hr
            have eu : rowAb (zPut P j S) j = Pu P j := by
              unfold rowAb Pu
              by_cases j0 : j = 0
              · rw [if_pos j0, if_pos j0]
              · rw [if_neg j0, if_neg j0]; exact w1 (j - 1) (by omega)
            rw [eu, rt_C (by have := hw.2.1; omega) (hw.2.2.2.1 j hl')] at hr
            cases hr; rfl
        · rw [updN_n e]; exact w1 j (by omega)
      · show c' ≤ c1 + sm (uW b (Pt P 0)) (l + 1) + zP S * tu + sm (fun j => zK S j * (uX b (Pt P 0) j - tu)) (PL P)
        rw [sm_s]; omega
      · show s' ≤ s1 + sm (vW b (Pt P 0)) (l + 1) + zP S * tv + sm (fun j => zK S j * (vX b (Pt P 0) j - tv)) (PL P)
        rw [sm_s]; omega
    · right
      refine ⟨w1, ?_, ?_⟩
      · show c' ≤ c1 + sm (uF b (Pt P 0)) (l + 1) + zP S * tu + sm (fun j => zK S j * (uX b (Pt P 0) j - tu)) (PL P)
        rw [sm_s]; omega
      · show s' ≤ s1 + sm (vF b (Pt P 0)) (l + 1) + zP S * tv + sm (fun j => zK S j * (vX b (Pt P 0) j - tv)) (PL P)
        rw [sm_s]; omega
end SG
