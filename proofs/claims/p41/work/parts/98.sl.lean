/-! A SENDING: the walk over the lines -/
theorem kRd_le {m n n' : Nat} (h : m ≤ 28) (h2 : n ≤ n') : kRd m n ≤ kRd 28 n' := by
  unfold kRd
  have b := cpC_mono h2
  have : m * (3 + cpC n) ≤ 28 * (3 + cpC n') := Nat.mul_le_mul h (by omega)
  omega
theorem sRd_le {w m n n' : Nat} (hw : w ≤ 27) (h : m ≤ 28) (h2 : n ≤ n') : sRd w m n ≤ sRd 27 28 n' := by
  unfold sRd
  have b := cpS_mono h2
  have : m * (9 + cpS n) ≤ 28 * (9 + cpS n') := Nat.mul_le_mul h (by omega)
  omega
section SL
variable {M0 M1 : Mm} {p : Nat} {P : Pg} {lo b : Nat → Nat} {hs hl h a : Nat} {R : List Nat} {c1 s1 tu tv : Nat} {N ag x : Nat} {G : List Nat}
theorem lLoop (L : QP M0 p P lo hs hl h a R) (hN : N = Mn M0) (hP : okP P b) (hlo : ∀ l, l < 20 → lo l ≤ 5) (q0 : QS M1 N p P zO ag x G) (g0 : SK M0 M1 N p) (hp1 : Pl M1 c1) (hc1 : c1 ≤ 860000000) : Rw (gX9_send_L96 fu p (nI (PL P)) (nI 0)) M1 c1 s1 (fun _ M' c' s' => ∃ G', SK M0 M' N p ∧ QS M' N p P (sndA P lo) ag x G' ∧ Pl M' c' ∧ Mn M' + c1 ≤ Mn M1 + c' ∧ c1 ≤ c' ∧ sOk P lo b (sndA P lo) (PL P) c1 s1 tu tv c' s') := by
  have h7 := hP.2.2.1
  have h27 := hP.2.1
  have hw := hP.1
  have hpN := q0.2.2.2.2.2.1
  have z0 := zOk_0 hw
  have hmu0 : zMu P zO 0 ≤ 300 := zMu_le z0
  refine rw_loopv (F := fun n (y : Sn × Nat) => gX9_send_L96 n p (nI (PL P)) (nI y.2)) (fun y M' c' s' => y.2 ≤ PL P ∧ sndR P lo y.1 y.2 = sndA P lo ∧ (∃ G', QS M' N p P y.1 ag x G') ∧ SK M0 M' N p ∧ Pl M' c' ∧ Mn M' + c1 ≤ Mn M1 + c' ∧ c1 ≤ c' ∧ sOk P lo b y.1 y.2 c1 s1 tu tv c' s') (fun y => zMu P y.1 y.2) ?_ fu (zO, 0) M1 c1 s1 (by unfold fu; show zMu P zO 0 < 20000; omega) ⟨Nat.zero_le _, rfl, ⟨G, q0⟩, g0, hp1, Nat.le_refl _, Nat.le_refl _, z0, fun j => ⟨Nat.le_refl _, Nat.zero_le _⟩, by show c1 + 10000 * zMu P zO 0 ≤ _; omega, Or.inl ⟨fun j hj => absurd hj (Nat.not_lt_zero j), Nat.le_trans (Nat.le_add_right _ _) (Nat.le_add_right _ _), Nat.le_trans (Nat.le_add_right _ _) (Nat.le_add_right _ _)⟩⟩
  rintro n ⟨S, l⟩ M c s ⟨hl0, hR, ⟨G2, q⟩, g, hp, e1, e2, so⟩ ih
  have hl0 : l ≤ PL P := hl0
  have hR : sndR P lo S l = sndA P lo := hR
  have q : QS M N p P S ag x G2 := q
  have so : sOk P lo b S l c1 s1 tu tv c s := so
  have hcb : c ≤ 863000000 := by have := so.2.2.1; omega
  have L1 := g.qp L hN
  show Rw (gX9_send_L96 (n + 1) p (nI (PL P)) (nI l)) _ _ _ _
  unfold gX9_send_L96
  refine Rw_cs (d := PL P ≤ l) (nle (by omega) (by omega)) (fun z => ?_) (fun z => ?_)
  · have : l = PL P := by omega
    subst this
    rw [Rw_wr]
    rw [sndR_e lo (Nat.lt_irrefl _)] at hR
    rw [← hR]
    exact ⟨G2, g, q, hp, e1, e2, so⟩
  have hl' : l < PL P := by omega
  have hsnd := sndR_s hw lo so.1 hl'
  rw [hR] at hsnd
  have t4 := hw.2.2.2.2.2.2.2.2.2.1
  have hzP : zP S < 1000 := by have := so.1.1; have := hw.2.2.2.2.2.2.2.2.1; omega
  rw [Rw_wb, Rn_gA L1.1.2.2.1, Rw_wb, show (4 : Int32) = nI 4 from rfl, L1.set (by omega), Rw_wq]
  refine (lBitsOfL L1 hP hl' hp (by omega)).mono ?_
  rintro v M2 c2 s2 ⟨rfl, g2, ⟨f1, f2, f3, f4⟩, p2⟩
  have hNM : N ≤ Mn M := by have := g.1.mn; omega
  have q2 := q.go g2
  have k2 := g.go g2 hNM hpN
  have ub := uBi_m b (Pt P 0) l
  rw [Rw_wb, Rn_rtn, nI_add]
  have ec : Pt P 4 + sBt P l = zCost P l := rfl
  rw [ec, Rw_wb, Rn_gI, q2.2.2.2.2.1.1, Rw_wb, Rn_pI, nI_add]
  have q3 := q2.pk (k := 9) (v := zA S + zCost P l) (zG S, zS S, zT S, zC S, zK S, zA S + zCost P l, zD S, zP S, zL S, zU S) ⟨rfl, rfl, rfl, rfl, rfl⟩ rfl rfl rfl rfl
  have k3 := k2.sIp (k := 9) (v := nI (zA S + zCost P l)) (by omega)
  have p3 : Pl (sI M2 p 9 (nI (zA S + zCost P l))) c2 := p2
  have n3 : Mn (sI M2 p 9 (nI (zA S + zCost P l))) = Mn M2 := rfl
  generalize sI M2 p 9 (nI (zA S + zCost P l)) = M3 at q3 k3 p3 n3
  have zc := (q3.2.2.2.1 l hl').2.2.1
  rw [Rw_wb, Rn_gA q3.2.1.2.2.1, Rw_wb, lI_x (f := zC S) q3.2.2.1.2.2.2.1 hl' (by omega) zc, Rw_wb, nI_add, aI_x q3.2.2.1.2.2.2.1 hl' (by omega)]
  have hNx := q3.2.2.2.2.2.2.1
  have q4 := q3.x7 (l := l) (v := zC S l + zCost P l)
  have k4 := k3.sIx (y := x + 2) (k := l) (v := nI (zC S l + zCost P l)) (by omega) hpN
  have p4 : Pl (sI M3 (x + 2) l (nI (zC S l + zCost P l))) c2 := p3
  have n4 : Mn (sI M3 (x + 2) l (nI (zC S l + zCost P l))) = Mn M2 := n3
  generalize sI M3 (x + 2) l (nI (zC S l + zCost P l)) = M4 at q4 k4 p4 n4
  have zt := (q4.2.2.2.1 l hl').2.1
  rw [Rw_wb, Rn_gA q4.2.1.2.1, Rw_wb, lI_x (f := zT S) q4.2.2.1.2.2.1 hl' (by omega) zt, Rw_wb, nL1, nI_add, aI_x q4.2.2.1.2.2.1 hl' (by omega)]
  have q5 : QS (sI M4 (x + 1) l (nI (zT S l + 1))) N p P (zPut P l S) ag x G2 := q4.x6 (l := l) (v := zT S l + 1) (d9 := zD S + 1)
  have k5 := k4.sIx (y := x + 1) (k := l) (v := nI (zT S l + 1)) (by omega) hpN
  have p5 : Pl (sI M4 (x + 1) l (nI (zT S l + 1))) c2 := p4
  have n5 : Mn (sI M4 (x + 1) l (nI (zT S l + 1))) = Mn M2 := n4
  generalize sI M4 (x + 1) l (nI (zT S l + 1)) = M5 at q5 k5 p5 n5
  have L5 := k5.qp L hN
  have zt5 := (q5.2.2.2.1 l hl').2.1
  have eT : zT (zPut P l S) l = zT S l + 1 := updN_s _ _ _
  rw [Rw_wb, Rn_gA q5.2.1.2.1, Rw_wb, lI_x (f := zT (zPut P l S)) q5.2.2.1.2.2.1 hl' (by omega) zt5, Rw_wb, Rn_gA L5.1.2.2.2.1, Rw_wb, L5.loss (by omega)]
  have hlo5 := hlo l (by omega)
  have hzT : zT S l ≤ 300 := by have := so.1.2.2.2.2.1 l; have := so.1.2.2.1; omega
  have sm243 := sm_le243 b (Pt P 0) (l + 1)
  have hm5 : Mn M5 + c1 ≤ Mn M1 + c2 := by omega
  refine Rw_cs (d := lo l < zT (zPut P l S) l) (nlt (by omega) (by omega)) (fun y => ?_) (fun y => ?_)
  · -- it comes
    have hnl : ¬ zT (zPut P l S) l ≤ lo l := by omega
    have had : ∀ (M' : Mm) (c' s' yy r : Nat), SK M0 M' N p → QS M' N p P (zPut P l S) ag x G2 → Pl M' c' → Mn M' + c1 ≤ Mn M1 + c' → c1 ≤ c' → isBr M' yy (Pw P) r → x + 4 ≤ yy → r < 2 ^ Pw P → zRead P l (zPut P l S) = some r → c' ≤ c + uF b (Pt P 0) l → s' ≤ s + vF b (Pt P 0) l → ((∀ j, j < l → zG S j = Pr P j) → c' ≤ c + uW b (Pt P 0) l ∧ s' ≤ s + vW b (Pt P 0) l) → Rw (gX9_send_L220 (gX9_send_L96 n) p (nI (PL P)) (nI l) 0 (some yy)) M' c' s' (fun _ M' c' s' => ∃ G', SK M0 M' N p ∧ QS M' N p P (sndA P lo) ag x G' ∧ Pl M' c' ∧ Mn M' + c1 ≤ Mn M1 + c' ∧ c1 ≤ c' ∧ sOk P lo b (sndA P lo) (PL P) c1 s1 tu tv c' s') := by
      intro M' c' s' yy r w1 w2 w3 w4 w5 w6 w7 w8 w9 w10 w11 w12
      refine lHad L hN hP w2 w1 hl' w3 w6 w7 w8 (fun M6 G6 g6 q6 p6 n6 => ?_)
      have hs1 : snd1 P lo S l = (zGot P l r (zPut P l S), l + 1) := by
        unfold snd1; rw [if_neg hnl, w9]
      rw [hs1] at hsnd
      have hmu := (snd1_ok (lo := lo) hw hl' so.1).2
      rw [hs1] at hmu
      exact ih (zGot P l r (zPut P l S), l + 1) M6 c' s' ⟨hl', hsnd.symm, ⟨G6, q6⟩, g6, p6, by omega, w5, sOk_got hw h7 hl' so hnl w9 w10 w11 w12⟩ hmu
    unfold gX9_send_L164
    refine Rw_yes rfl ?_
    rw [Rw_wq]
    refine (lIsMark L5 hP hl' p5 (by omega)).mono ?_
    rintro v M6 c6 s6 ⟨rfl, g6, ⟨h1, h2, h3, h4⟩, p6⟩
    have um := uMk_m b (Pt P 0) l
    have hNM5 : N ≤ Mn M5 := by have := k5.1.mn; omega
    have q6 := q5.go g6
    have k6 := k5.go g6 hNM5 hpN
    have L6 := k6.qp L hN
    have hm6 := p6.1
    have hx6 := q6.2.2.1.1
    refine Rw_cs (d := isMk P l = false) (bN_t _) (fun m => ?_) (fun m => ?_)
    · have hl00 : l ≠ 0 := fun e => by
        have : isMk P 0 = true := by unfold isMk; simp
        rw [e, this] at m; cases m
      have hzz : ¬ l % Pt P 0 = 0 := fun e => by
        unfold isMk at m; simp [e] at m
      rw [Rw_wq]
      refine (lCodeOf L6 hP hl' p6 (by omega)).mono ?_
      rintro v M7 c7 s7 ⟨g7, ⟨j1, j2, j3, j4⟩, p7, cl⟩
      have q7 := q6.go g7
      have k7 := k6.go g7 (by omega) hpN
      have L7 := k7.qp L hN
      have uco : uCo b l ≤ 230 := by
        unfold uCo
        have := kCd_m (m := 28) (Nat.le_refl _) (bu b l)
        split <;> omega
      rw [Rw_wb, Rn_gA q7.1.1, Rw_wq]
      refine (lAbove (u := rowAb S l) L7.1.2.1 (by omega) q7.1.2.1 (fun w => ?_) (fun w => absurd w hl00) (by omega) p7 (by omega)).mono ?_
      · obtain ⟨o, ho⟩ := gt_some G2 (show l - 1 < G2.length by rw [q7.1.2.2.1]; omega)
        exact ⟨o, ho, by unfold rowAb; rw [if_neg w]; exact q7.1.2.2.2 _ o ho⟩
      rintro hu M8 c8 s8 ⟨g8, ⟨i1, i2, i3, i4⟩, p8, bu8⟩
      rw [if_neg hl00] at i3 i4
      have cl8 : isCl M8 (Mn M6) v (cod (Pw P) (Pr P l) (Pu P l)) := cl.gx g8 (Nat.le_refl _) (fun _ _ _ => rfl)
      have hcl : (cod (Pw P) (Pr P l) (Pu P l)).length ≤ 28 := by have := cod_len (Pw P) (Pr P l) (Pu P l); omega
      rw [Rw_wq]
      refine (lRead cl8 bu8 h27 (cod_ok (by omega)) p8 (by omega)).mono ?_
      rintro o M9 c9 s9 ⟨g9, ⟨d1, d2, d3, d4⟩, p9, ra, rb⟩
      have q9 := (q7.go g8).go g9
      have hm68 := g7.mn
      have hm78 := g8.mn
      have k9 := (k7.go g8 (by omega) hpN).go g9 (by omega) hpN
      have hch : (chU (rowAb S l) (Pw P)).length ≤ 27 := Nat.le_trans (chU_len _ _) h27
      have r1 := kRd_le hcl hch
      have r2 := sRd_le h27 hcl hch
      have hu27 : uRx b l = uCo b l + kRd 28 27 := rfl
      have hv27 : vRx b l = vCo b l + sRd 27 28 27 := rfl
      have r3 : kRd 28 27 = 198 := rfl
      have eF : uF b (Pt P 0) l = uBi b (Pt P 0) l + uMk b (Pt P 0) l + max 1 (uRx b l) + 2 := by unfold uF; rw [if_neg hzz]
      have eFv : vF b (Pt P 0) l = vBi b (Pt P 0) l + vMk b (Pt P 0) l + max 27 (vRx b l) + 54 := by unfold vF; rw [if_neg hzz]
      have bC : c9 + 2 ≤ c + uF b (Pt P 0) l := by omega
      have bS : s9 + 54 ≤ s + vF b (Pt P 0) l := by omega
      have hzr : zRead P l (zPut P l S) = rdC (Pw P) (rowAb S l) (cod (Pw P) (Pr P l) (Pu P l)) := by
        unfold zRead; rw [m]; rfl
      cases hrd : rdC (Pw P) (rowAb S l) (cod (Pw P) (Pr P l) (Pu P l)) with
      | some r =>
        obtain ⟨yy, rfl, byy, hyy⟩ := ra r hrd
        refine had M9 c9 s9 yy r k9 q9 p9 (by omega) (by omega) byy (by omega) (rdC_lt (by omega) (cod_ok (by omega)) hrd) (by rw [hzr, hrd]) (by omega) (by omega) (fun cln => ?_)
        have eab : rowAb S l = Pu P l := by
          unfold rowAb Pu; rw [if_neg hl00, if_neg hl00]; exact cln (l - 1) (by omega)
        have hch2 : (chU (rowAb S l) (Pw P)).length ≤ bu b l := by
          rw [eab]; unfold bu Pu; rw [if_neg hl00, if_neg hl00]; exact hP.2.2.2 (l - 1) (by omega)
        have r4 := kRd_le hcl hch2
        have r5 := sRd_le h27 hcl hch2
        have hu : uRd b l = uCo b l + kRd 28 (bu b l) := rfl
        have hv : vRd b l = vCo b l + sRd 27 28 (bu b l) := rfl
        have eW : uW b (Pt P 0) l = uBi b (Pt P 0) l + uMk b (Pt P 0) l + max 1 (uRd b l) := by unfold uW; rw [if_neg hzz]
        have eWv : vW b (Pt P 0) l = vBi b (Pt P 0) l + vMk b (Pt P 0) l + max 27 (vRd b l) := by unfold vW; rw [if_neg hzz]
        exact ⟨by omega, by omega⟩
      | none =>
        have ho := rb hrd
        subst ho
        have hzn : zRead P l (zPut P l S) = none := by rw [hzr, hrd]
        have hs1 : snd1 P lo S l = zFail P l 2 (zPut P l S) := by
          unfold snd1; rw [if_neg hnl, hzn]
        have hnz : ¬ zP S < Pt P 3 := by
          intro zz
          rcases so.2.2.2 with ⟨w1, -⟩ | ⟨w1, -⟩
          · have eab : rowAb S l = Pu P l := by
              unfold rowAb Pu; rw [if_neg hl00, if_neg hl00]; exact w1 (l - 1) (by omega)
            rw [eab, rt_C (by omega) (hw.2.2.2.1 l hl')] at hrd
            cases hrd
          · exact w1 zz
        refine lMiss L hN hP q9 k9 hl' p9 (by omega) false (fun zz => absurd zz hnz) (fun _ M' c' s' G' w1 w2 w3 w4 w5 w6 w7 => ?_) hzP
        have hfe : zFail P l 2 (zPut P l S) = (zFill P l 2 (zMiss 2 (zPut P l S)), l + 1) := by
          unfold zFail; rw [if_neg (show ¬ zP (zPut P l S) < Pt P 3 from hnz)]
        rw [hs1, hfe] at hsnd
        have hmu := (snd1_ok (lo := lo) hw hl' so.1).2
        rw [hs1, hfe] at hmu
        exact ih (zFill P l 2 (zMiss 2 (zPut P l S)), l + 1) M' c' s' ⟨hl', hsnd.symm, ⟨G', w2⟩, w1, w3, by omega, by omega, sOk_fill hw h7 hl' so hnz (by omega) (by omega)⟩ hmu
    · have m : isMk P l = true := by cases qq : isMk P l with
        | true => rfl
        | false => exact absurd qq m
      obtain ⟨o, ho, bo⟩ := L6.row hl'
      rw [Rw_wb, Rn_gA L6.1.2.2.2.2, Rw_wq, lGet L6.2.2.2.1.1 ho, Rw_wb, Rn_ckK bo.1 bo.2.1, Rw_wq]
      refine (lClone bo (by omega)).mono ?_
      rintro yy M7 c7 s7 ⟨rfl, g7, n7, b7, rfl, rfl⟩
      have hzr : zRead P l (zPut P l S) = some (Pr P l) := by unfold zRead; rw [if_pos m]
      have hUF : uBi b (Pt P 0) l + uMk b (Pt P 0) l + 1 ≤ uW b (Pt P 0) l := by unfold uW; split <;> omega
      have hVF : vBi b (Pt P 0) l + vMk b (Pt P 0) l + 27 ≤ vW b (Pt P 0) l := by unfold vW; split <;> omega
      have wf1 := uW_F b (Pt P 0) l
      have wf2 := vW_F b (Pt P 0) l
      exact had M7 _ _ (Mn M6) (Pr P l) (k6.go g7 (by omega) hpN) (q6.go g7) (p6.go g7 (by omega)) (by omega) (by omega) b7 (by omega) (hw.2.2.2.1 l hl') hzr (by omega) (by omega) (fun _ => ⟨by omega, by omega⟩)
  · -- it is lost
    have hlost : zT (zPut P l S) l ≤ lo l := by omega
    unfold gX9_send_L164
    refine Rw_no (by decide) ?_
    have hs1 : snd1 P lo S l = zFail P l 1 (zPut P l S) := by
      unfold snd1; rw [if_pos hlost]
    have hmu := (snd1_ok (lo := lo) hw hl' so.1).2
    rw [hs1] at hsnd hmu
    refine lMiss L hN hP q5 k5 hl' p5 (by omega) true (fun zz M' c' s' w1 w2 w3 w4 w5 w6 w7 => ?_) (fun zz M' c' s' G' w1 w2 w3 w4 w5 w6 w7 => ?_) hzP
    · have hfe : zFail P l 1 (zPut P l S) = (zStep P l (zMiss 1 (zPut P l S)), mkU P l) := by
        unfold zFail; rw [if_pos (show zP (zPut P l S) < Pt P 3 from zz)]
      rw [hfe] at hsnd hmu
      exact ih (zStep P l (zMiss 1 (zPut P l S)), mkU P l) M' c' s' ⟨by have := mkU_le P l; show mkU P l ≤ PL P; omega, hsnd.symm, ⟨G2, w2⟩, w1, w3, by omega, by omega, sOk_step hw h7 hl' so hlost zz (by omega) (by omega)⟩ hmu
    · have hfe : zFail P l 1 (zPut P l S) = (zFill P l 1 (zMiss 1 (zPut P l S)), l + 1) := by
        unfold zFail; rw [if_neg (show ¬ zP (zPut P l S) < Pt P 3 from zz)]
      rw [hfe] at hsnd hmu
      have hUF : uBi b (Pt P 0) l + 2 ≤ uF b (Pt P 0) l := by unfold uF; split <;> omega
      have hVF : vBi b (Pt P 0) l + 54 ≤ vF b (Pt P 0) l := by unfold vF; split <;> omega
      exact ih (zFill P l 1 (zMiss 1 (zPut P l S)), l + 1) M' c' s' ⟨hl', hsnd.symm, ⟨G', w2⟩, w1, w3, by omega, by omega, sOk_fill hw h7 hl' so zz (by omega) (by omega)⟩ hmu
end SL
