/-! A SENDING: what a failure does -/
def SK (M0 M : Mm) (N p : Nat) : Prop := Gx (x1 p) N M0 M ∧ Mi M p 0 = Mi M0 p 0 ∧ Mr M p 1 = Mr M0 p 1 ∧ Mr M p 2 = Mr M0 p 2 ∧ Mr M p 3 = Mr M0 p 3
theorem SK.rf {M : Mm} {N p : Nat} : SK M M N p := ⟨Gx.rf, rfl, rfl, rfl, rfl⟩
theorem SK.sIp {M0 M : Mm} {N p k : Nat} {v : Int32} (g : SK M0 M N p) (hk : k ≠ 0) : SK M0 (sI M p k v) N p := by
  obtain ⟨g1, g2, g3⟩ := g
  exact ⟨g1.sI (fun _ => by simp [x1]), by rw [Mi_sI, if_neg (fun z => hk z.2.symm)]; exact g2, g3⟩
theorem SK.sIx {M0 M : Mm} {N p y k : Nat} {v : Int32} (g : SK M0 M N p) (hy : N ≤ y) (hp : p < N) : SK M0 (sI M y k v) N p := by
  obtain ⟨g1, g2, g3⟩ := g
  exact ⟨g1.sI (fun z => by omega), by rw [Mi_sI, if_neg (by omega)]; exact g2, g3⟩
theorem SK.sRx {M0 M : Mm} {N p y k : Nat} {v : Option Nat} (g : SK M0 M N p) (hy : N ≤ y) (hp : p < N) : SK M0 (sR M y k v) N p := by
  obtain ⟨g1, g2, g3, g4, g5⟩ := g
  refine ⟨g1.sR (fun z => by omega), g2, ?_, ?_, ?_⟩ <;> rw [Mr_sR, if_neg (by omega)]
  · exact g3
  · exact g4
  · exact g5
theorem SK.sRp {M0 M : Mm} {N p k : Nat} {v : Option Nat} (g : SK M0 M N p) (hk : 3 < k) : SK M0 (sR M p k v) N p := by
  obtain ⟨g1, g2, g3, g4, g5⟩ := g
  refine ⟨g1.sR (fun _ => by simp [x1]), g2, ?_, ?_, ?_⟩ <;> rw [Mr_sR, if_neg (by omega)]
  · exact g3
  · exact g4
  · exact g5
theorem SK.go {M0 M M1 : Mm} {N p : Nat} (g : SK M0 M N p) (x : Gx xO (Mn M) M M1) (hN : N ≤ Mn M) (hp : p < N) : SK M0 M1 N p := by
  obtain ⟨g1, g2, g3, g4, g5⟩ := g
  have r : Mr M1 p = Mr M p := x.mr (by omega) rfl
  have i : Mi M1 p = Mi M p := x.mi (by omega) rfl
  exact ⟨g1.tr (x.mono hN (fun _ _ _ => rfl)), by rw [i]; exact g2, by rw [r]; exact g3, by rw [r]; exact g4, by rw [r]; exact g5⟩
section SF
variable {M0 M : Mm} {p : Nat} {P : Pg} {lo b : Nat → Nat} {hs hl h a : Nat} {R : List Nat} {c s : Nat} {k96 : Nat → Int32 → Int32 → Mm → Option (Unit × Mm × Nat × Nat)} {Q : Unit → Mm → Nat → Nat → Prop} {N ag x : Nat} {G : List Nat} {S : Sn}
theorem SK.qp (g : SK M0 M N p) (L : QP M0 p P lo hs hl h a R) (hN : N = Mn M0) : QP M p P lo hs hl h a R :=
  L.gX g.1 (by omega) (fun q _ hq => x1_f hq) g.2.1 g.2.2.1 g.2.2.2.1 g.2.2.2.2
/-- a row comes to its place, with its state -/
theorem lPlace (q : QS M N p P S ag x G) (g : SK M0 M N p) {l y r : Nat} (hl' : l < PL P) (h7 : PL P ≤ 20) (hy : isBr M y (Pw P) r) (hy1 : N < y) (hy2 : y < x ∨ x + 4 ≤ y) (hp : Pl M c) {α : Type} {F : Mm → Option (α × Mm × Nat × Nat)} {Q : α → Mm → Nat → Nat → Prop} (k : ∀ M' G', SK M0 M' N p → QS M' N p P (updN (zG S) l r, zS S, zT S, zC S, zK S, zA S, zD S, zP S, zL S, zU S) ag x G' → Pl M' c → Mn M' = Mn M → Rw F M' c s Q) : Rw (wq (gJx4a65c_set_bcc79 N (nI l) y) fun _ => F) M c s Q := by
  obtain ⟨⟨a1, a2, a3, a4⟩, -, -, -, -, f1, f2, f3, f4⟩ := id q
  obtain ⟨o, ho⟩ := gt_some G (show l < G.length by omega)
  have hEn : EB = 1000000500 := EB_v
  have hag : ag ≠ EB := (a2.at ho).1
  rw [Rw_wq]
  exact lSet a2 ho (k _ _ (g.sRx (by omega) f1) (q.got hl' hy hy1 hy2 rfl) hp rfl)
theorem bN_ne (v : Bool) : (nI (bN v) = 0 ↔ v = false) := bN_t v
theorem lMiss (L : QP M0 p P lo hs hl h a R) (hN : N = Mn M0) (hP : okP P b) (q : QS M N p P S ag x G) (g : SK M0 M N p) {l : Nat} (hl' : l < PL P) (hp : Pl M c) (hc : c ≤ 866000000) (one : Bool) (kstep : zP S < Pt P 3 → ∀ M' c' s', SK M0 M' N p → QS M' N p P (zStep P l (zMiss (if one = true then 1 else 2) S)) ag x G → Pl M' c' → Mn M' + c ≤ Mn M + c' → c ≤ c' → c' ≤ c + sm (uMk b (Pt P 0)) (l + 1) → s' ≤ s + sm (vMk b (Pt P 0)) (l + 1) → Rw (k96 p (nI (PL P)) (nI (mkU P l))) M' c' s' Q) (kfill : ¬ zP S < Pt P 3 → ∀ M' c' s' G', SK M0 M' N p → QS M' N p P (zFill P l (if one = true then 1 else 2) (zMiss (if one = true then 1 else 2) S)) ag x G' → Pl M' c' → Mn M' + c ≤ Mn M + c' → c ≤ c' → c' ≤ c + 2 → s' ≤ s + 54 → Rw (k96 p (nI (PL P)) (nI (l + 1))) M' c' s' Q) (hzP : zP S < 1000) : Rw (gX9_send_L220 k96 p (nI (PL P)) (nI l) (nI (bN one)) none) M c s Q := by
  have h7 := hP.2.2.1
  have h27 := hP.2.1
  have t2 := hP.1.2.2.2.2.2.2.2.1
  have t3 := hP.1.2.2.2.2.2.2.2.2.1
  have hm := hp.1
  have hpN := q.2.2.2.2.2.1
  have hNM : N ≤ Mn M := by have := g.1.mn; omega
  have body : ∀ M', SK M0 M' N p → QS M' N p P (zMiss (if one = true then 1 else 2) S) ag x G → Pl M' c → Mn M' = Mn M → Rw (wb (gI p 10) fun v5 => wb (gA p 1) fun v6 => wb (lI v6 3) fun v7 => if v7 ≤ (v5 : Int32) then wb (gA p 4) fun v8 => wb (gA p 1) fun v9 => wb (lI v9 2) fun v10 => if (v10 : Int32) = 1 then wb (gI p 0) fun v14 => wq (nA 13 v14) fun h15 => gX9_send_L410 k96 p (nI (PL P)) (nI l) (nI (bN one)) h15 (nI l) v8 else wb (gA p 4) fun v11 => wq (gX9_above p v11 (nI l)) fun h12 => wq (nC 13 h12) fun h13 => gX9_send_L410 k96 p (nI (PL P)) (nI l) (nI (bN one)) h13 (nI l) v8 else wb (gI p 10) fun v16 => wb (pI p 10 (v16 + 1)) fun _ => wb (gA p 8) fun v17 => wb (lI v17 (nI l)) fun v18 => wb (aI v17 (nI l) (v18 + 1)) fun _ => wb (gI p 9) fun v19 => wb (gA p 1) fun v20 => wb (lI v20 5) fun v21 => wb (pI p 9 (v19 + v21)) fun _ => gX9_send_L351 k96 fu p (nI (PL P)) (nI l)) M' c s Q := by
    intro M' g' q' p' n'
    have L' := g'.qp L hN
    rw [Rw_wb, Rn_gI, q'.2.2.2.2.1.2.1, Rw_wb, Rn_gA L'.1.2.2.1, Rw_wb, show (3 : Int32) = nI 3 from rfl, L'.set (by omega)]
    have ezP : zP (zMiss (if one = true then 1 else 2) S) = zP S := rfl
    rw [ezP]
    refine Rw_cs (d := Pt P 3 ≤ zP S) (nle (by omega) (by omega)) (fun z => ?_) (fun z => ?_)
    · -- filled
      have L410 : ∀ (M2 : Mm) (y r c2 s2 : Nat), SK M0 M2 N p → QS M2 N p P (zMiss (if one = true then 1 else 2) S) ag x G → Pl M2 c2 → isBr M2 y (Pw P) r → x + 4 ≤ y → r = (if Pt P 2 = 1 then 0 else rowAb S l) → Mn M2 + c ≤ Mn M + c2 → c ≤ c2 → c2 ≤ c + 2 → s2 ≤ s + 54 → Rw (gX9_send_L410 k96 p (nI (PL P)) (nI l) (nI (bN one)) y (nI l) N) M2 c2 s2 Q := by
        intro M2 y r c2 s2 g2 q2 p2 by2 hy hr e1 e2 e3 e4
        unfold gX9_send_L410
        refine lPlace q2 g2 hl' (by omega) by2 (by have := q2.2.2.2.2.2.2.1; omega) (Or.inr hy) p2 (fun M3 G3 g3 q3 p3 n3 => ?_)
        rw [Rw_wb, Rn_gA q3.2.1.1]
        have key : ∀ v, v = (if one = true then 1 else 2) → Rw (gX9_send_L429 k96 p (nI (PL P)) (nI l) (nI v) (nI l) x) M3 c2 s2 Q := by
          intro v hv
          unfold gX9_send_L429 gX9_send_L430
          rw [Rw_wb, aI_x q3.2.2.1.2.1 hl' (by omega), nL1, nI_add]
          refine kfill (by omega) _ _ _ G3 (g3.sIx (by have := q3.2.2.2.2.2.2.1; omega) hpN) ?_ p3 (by show Mn M3 + c ≤ _; omega) e2 e3 e4
          have q5 := q3.x5 (l := l) (v := v)
          rw [hv] at q5 ⊢
          rw [hr] at q5
          exact q5
        refine Rw_cs (d := one = false) (bN_t one) (fun w => ?_) (fun w => ?_)
        · exact key 2 (by rw [w]; rfl)
        · have w : one = true := by cases one with
            | true => rfl
            | false => exact absurd rfl w
          exact key 1 (by rw [w]; rfl)
      rw [Rw_wb, Rn_gA q'.1.1, Rw_wb, Rn_gA L'.1.2.2.1, Rw_wb, show (2 : Int32) = nI 2 from rfl, L'.set (by omega)]
      have hx4 := q'.2.2.1.1
      refine Rw_cs (d := Pt P 2 = 1) (neq (b := 1) (by omega) (by omega)) (fun y => ?_) (fun y => ?_)
      · rw [Rw_wb, Rn_gI, L'.1.2.1, Rw_wq, Rw_nA (by omega) (by omega)]
        have g1 : Gx xO (Mn M') M' (nw M' 13 (Pw P)) := Gx.rf.nw (Nat.le_refl _) (by rw [SB_v]; omega)
        have n1 : Mn (nw M' 13 (Pw P)) = Mn M' + 1 := rfl
        refine L410 _ (Mn M') 0 _ _ (g'.go g1 (by omega) hpN) (q'.go g1) (p'.go g1 (by omega)) ⟨by omega, by rw [Mk_nw, if_pos rfl], by rw [Ml_nw, if_pos rfl], fun k _ => ?_⟩ hx4 (by rw [if_pos y]) (by omega) (by omega) (by omega) (by omega)
        rw [Mi_nw, if_pos rfl, Nat.zero_testBit]; rfl
      · rw [Rw_wb, Rn_gA q'.1.1, Rw_wq]
        refine (lAbove (u := rowAb S l) L'.1.2.1 (by omega) q'.1.2.1 (fun w => ?_) (fun w => by unfold rowAb; rw [if_pos w]) (by omega) p' (by omega)).mono ?_
        · obtain ⟨o, ho⟩ := gt_some G (show l - 1 < G.length by rw [q'.1.2.2.1]; omega)
          exact ⟨o, ho, by unfold rowAb; rw [if_neg w]; exact q'.1.2.2.2 _ o ho⟩
        rintro y2 M2 c2 s2 ⟨g2, ⟨e1, e2, e3, e4⟩, p2, b2⟩
        have hm2 := p2.1
        have i1 : (if l = 0 then 1 else 0) ≤ 1 := by split <;> omega
        have i2 : (if l = 0 then Pw P else 0) ≤ 27 := by split <;> omega
        rw [Rw_wq]
        refine (lClone b2 (by omega)).mono ?_
        rintro y3 M3 c3 s3 ⟨rfl, g3, n3, b3, rfl, rfl⟩
        have g23 := g2.tr (g3.mono g2.mn (fun _ _ z => z))
        have hg2 := g2.mn
        exact L410 _ (Mn M2) _ _ _ (g'.go g23 (by omega) hpN) (q'.go g23) (p2.go g3 (by omega)) b3 (by omega) (by rw [if_neg y]) (by omega) (by omega) (by omega) (by omega)
    · -- a step back
      have hzK := q'.2.2.2.1 l hl'
      rw [Rw_wb, Rn_gI, q'.2.2.2.2.1.2.1, ezP, Rw_wb, Rn_pI, nL1, nI_add]
      have q1 := q'.pk (k := 10) (v := zP S + 1) (zG S, zS S, zT S, zC S, zK S, zA S, zD S, zP S + 1, zL (zMiss (if one = true then 1 else 2) S), zU (zMiss (if one = true then 1 else 2) S)) ⟨rfl, rfl, rfl, rfl, rfl⟩ rfl rfl rfl rfl
      have g1 := g'.sIp (k := 10) (v := nI (zP S + 1)) (by omega)
      have p1 : Pl (sI M' p 10 (nI (zP S + 1))) c := p'
      have n1 : Mn (sI M' p 10 (nI (zP S + 1))) = Mn M := n'
      generalize sI M' p 10 (nI (zP S + 1)) = M1 at q1 g1 p1 n1
      have z4 := (q1.2.2.2.1 l hl').2.2.2
      rw [Rw_wb, Rn_gA q1.2.1.2.2.2, Rw_wb, lI_x (f := zK S) q1.2.2.1.2.2.2.2 hl' (by omega) z4, Rw_wb, nI_add, aI_x q1.2.2.1.2.2.2.2 hl' (by omega)]
      have q2 := q1.x8 (l := l) (v := zK S l + 1)
      have g2 := g1.sIx (y := x + 3) (k := l) (v := nI (zK S l + 1)) (by have := q1.2.2.2.2.2.2.1; omega) hpN
      have p2 : Pl (sI M1 (x + 3) l (nI (zK S l + 1))) c := p1
      have n2 : Mn (sI M1 (x + 3) l (nI (zK S l + 1))) = Mn M := n1
      generalize sI M1 (x + 3) l (nI (zK S l + 1)) = M2 at q2 g2 p2 n2
      have L2 := g2.qp L hN
      have z9 : Mi M2 p 9 = nI (zA S) := q2.2.2.2.2.1.1
      rw [Rw_wb, Rn_gI, z9, Rw_wb, Rn_gA L2.1.2.2.1, Rw_wb, show (5 : Int32) = nI 5 from rfl, L2.set (by omega), Rw_wb, Rn_pI, nI_add]
      have q3 := q2.pk (k := 9) (v := zA S + Pt P 5) (zStep P l (zMiss (if one = true then 1 else 2) S)) ⟨rfl, rfl, rfl, rfl, rfl⟩ rfl rfl rfl rfl
      have g3 := g2.sIp (k := 9) (v := nI (zA S + Pt P 5)) (by omega)
      have p3 : Pl (sI M2 p 9 (nI (zA S + Pt P 5))) c := p2
      have n3 : Mn (sI M2 p 9 (nI (zA S + Pt P 5))) = Mn M := n2
      generalize sI M2 p 9 (nI (zA S + Pt P 5)) = M3 at q3 g3 p3 n3
      refine lWalk (g3.qp L hN) hP hl' p3 (by omega) (fun M4 c4 s4 g4 p4 e1 e2 e3 e4 => ?_)
      exact kstep (by omega) M4 c4 s4 (g3.go g4 (by omega) hpN) (q3.go g4) p4 (by omega) e2 e3 e4
  have e11 := q.2.2.2.2.1.2.2.1
  unfold gX9_send_L220
  rw [Rw_wb, Rn_gI, e11]
  cases one with
  | true =>
    refine Rw_no (by decide) ?_
    unfold gX9_send_L237
    rw [Rw_wb, Rn_pI, nL1, nI_add]
    have q1 := q.pk (k := 11) (v := zL S + 1) (zG S, zS S, zT S, zC S, zK S, zA S, zD S, zP S, zL S + 1, zU S) ⟨rfl, rfl, rfl, rfl, rfl⟩ rfl rfl rfl rfl
    have g1 := g.sIp (k := 11) (v := nI (zL S + 1)) (by omega)
    have p1 : Pl (sI M p 11 (nI (zL S + 1))) c := hp
    have n1 : Mn (sI M p 11 (nI (zL S + 1))) = Mn M := rfl
    generalize sI M p 11 (nI (zL S + 1)) = M1 at q1 g1 p1 n1
    have e12 : Mi M1 p 12 = nI (zU S) := q1.2.2.2.2.1.2.2.2
    rw [Rw_wb, Rn_gI, e12]
    refine Rw_no (by decide) ?_
    unfold gX9_send_L260 gX9_send_L261
    rw [Rw_wb, Rn_pI, nL0, nI_add, Rw_op0]
    exact body _ (g1.sIp (by omega)) (q1.pk (k := 12) (v := zU S + 0) _ ⟨rfl, rfl, rfl, rfl, rfl⟩ rfl rfl rfl rfl) p1 n1
  | false =>
    refine Rw_yes (by decide) ?_
    unfold gX9_send_L237
    rw [Rw_wb, Rn_pI, nL0, nI_add]
    have q1 := q.pk (k := 11) (v := zL S + 0) (zG S, zS S, zT S, zC S, zK S, zA S, zD S, zP S, zL S, zU S) ⟨rfl, rfl, rfl, rfl, rfl⟩ rfl rfl rfl rfl
    have g1 := g.sIp (k := 11) (v := nI (zL S + 0)) (by omega)
    have p1 : Pl (sI M p 11 (nI (zL S + 0))) c := hp
    have n1 : Mn (sI M p 11 (nI (zL S + 0))) = Mn M := rfl
    generalize sI M p 11 (nI (zL S + 0)) = M1 at q1 g1 p1 n1
    have e12 : Mi M1 p 12 = nI (zU S) := q1.2.2.2.2.1.2.2.2
    rw [Rw_wb, Rn_gI, e12]
    refine Rw_yes (by decide) ?_
    rw [Rw_op0]
    unfold gX9_send_L261
    rw [Rw_wb, Rn_pI, show (1 : Int32) = nI 1 from rfl, nI_add, Rw_op0]
    exact body _ (g1.sIp (by omega)) (q1.pk (k := 12) (v := zU S + 1) _ ⟨rfl, rfl, rfl, rfl, rfl⟩ rfl rfl rfl rfl) p1 n1
end SF
