/-! THE LAW BEHIND THE DRAWN TEXT: one drawn edit -/
def lawD (p f : Nat) : Mm → Option (Int32 × Mm × Nat × Nat) :=
  wb (gA p 3) fun v58 =>
  wq (gJx4a65c_size_8abf5 v58) fun v59 =>
  wq (gX10_next 38 v59) fun v60 =>
  wq (gX10_next 38 6) fun v61 =>
  if (v61 : Int32) = 0 then
    wq (gX10_next 38 9) fun v88 =>
    wb (rtn (v88 - 4)) fun v89 =>
    wb (gI p 0) fun v90 =>
    wq (nA 13 v90) fun h91 =>
    gL_law_L442 fu 0 p f v60 v89 h91 0 0
  else
    if (v61 : Int32) = 1 then
      wb (gI p 0) fun v82 =>
      wq (gX10_next 38 (v82 + 1)) fun v83 =>
      wb (gI p 0) fun v84 =>
      wq (gX10_next 38 ((v84 + 1) - v83)) fun v85 =>
      wb (rtn (v83 + v85)) fun v86 =>
      wq (gX10_next 38 2) fun v87 =>
      if (v87 : Int32) = 1 then
        gL_law_L606 0 p f v60 v83 v86 1
      else
        gL_law_L606 0 p f v60 v83 v86 0
    else
      if (v61 : Int32) = 2 then
        wb (gA p 3) fun v72 =>
        wq (gJx4a65c_size_8abf5 v72) fun v73 =>
        wq (gX10_next 38 (v73 + 1)) fun v74 =>
        wb (gA p 3) fun v75 =>
        wb (gA p 3) fun v76 =>
        wq (gJx4a65c_get_915e3 v76 v60) fun h77 =>
        wb (ckK 13 h77) fun _ =>
        wq (nC 13 h77) fun h78 =>
        wq (gJx4a65c_add_7a177 v75 v74 h78) fun _ =>
        wq (wcx 6 63 (fX7_copyLine 0 v60 v74)) fun v79 =>
        wb (gA p 3) fun v80 =>
        wq (gJx4a65c_size_8abf5 v80) fun v81 =>
        if (v79 : Int32) = v81 then
          gL_law_L1056 0 p f
        else
          wgrd ((0 : Int32) == 0 || (0 : Int32) == 1) (wr 0)
      else
        if (v61 : Int32) = 3 then
          wb (gA p 3) fun v67 =>
          wq (gJx4a65c_remove_915e3 v67 v60) fun h68 =>
          wb (ckK 13 h68) fun _ =>
          wq (wcx 5 57 (fX7_removeLine 0 v60)) fun v69 =>
          wb (gA p 3) fun v70 =>
          wq (gJx4a65c_size_8abf5 v70) fun v71 =>
          if (v69 : Int32) = v71 then
            gL_law_L1056 0 p f
          else
            wgrd ((0 : Int32) == 0 || (0 : Int32) == 1) (wr 0)
        else
          if (v61 : Int32) = 4 then
            gL_law_L829 fu 0 p f v60 0 0
          else
            wb (gA p 3) fun v62 =>
            wq (gJx4a65c_size_8abf5 v62) fun v63 =>
            wq (gX10_next 38 v63) fun v64 =>
            wb (gA p 3) fun v65 =>
            wq (gJx4a65c_get_915e3 v65 v60) fun h66 =>
            wb (ckK 13 h66) fun _ =>
            gL_law_L959 fu 0 p f v60 v64 h66 0 0
section LA
variable {M : Mm} {p hs hl h a f fs fl fh fa : Nat} {R fR : List Nat} {Q : Pg} {nU : Hq} {S N c s e t : Nat}
theorem ED.nx (k : ED M p hs hl h a R f fs fl fh fa fR Q nU S N c) {M1 : Mm} (g : Gx (x1 38) (Mn M) M M1) (n : Mn M1 = Mn M) : ED M1 p hs hl h a R f fs fl fh fa fR Q nU S N c := k.go g (fun q hq => x1_f (by omega)) (by omega)
theorem lDisp (k : ED M p hs hl h a R f fs fl fh fa fR Q nU S N c) (o : isTo M t) (ht : t < 800000) (pc : PC Q e) (hc : c + 200 + uE e ≤ 700000000) : Rw (lawD p f) M c s (fun v _ c' s' => v = 1 ∧ c' ≤ c + 30 + uE e ∧ s' ≤ s + 300 + vE e) := by
  obtain ⟨⟨hw8, -, -, hrow, -⟩, h27, h7, -⟩ := id pc.1
  have hpl := pc.2.1
  unfold lawD
  rw [Rw_wb, Rn_gA k.q.1.2.2.2.2, Rw_wq, lSize k.q.2.2.2.1.1, k.q.2.2.2.1.2.1, Rw_wq]
  refine lNext o (by omega) (by omega) (by omega) (fun M1 l hl' g1 n1 o1 => ?_)
  have k1 := k.nx g1 n1
  rw [Rw_wq]
  refine lNext (m := 6) o1 (by omega) (by omega) (by omega) (fun M2 w hw g2 n2 o2 => ?_)
  have k2 := k1.nx g2 n2
  have up : ∀ (c1 s1 : Nat) {F : Mm → Option (Int32 × Mm × Nat × Nat)} {M' : Mm}, c1 ≤ c + 1 → s1 ≤ s + 27 → Rw F M' c1 s1 (fun v _ c' s' => v = 1 ∧ c' ≤ c1 + 20 + uE e ∧ s' ≤ s1 + 200 + vE e) → Rw F M' c1 s1 (fun v _ c' s' => v = 1 ∧ c' ≤ c + 30 + uE e ∧ s' ≤ s + 300 + vE e) := fun c1 s1 F M' z1 z2 h => h.mono (fun v M' c' s' r => ⟨r.1, by have := r.2.1; omega, by have := r.2.2; omega⟩)
  refine Rw_cs (d := w = 0) (neq (b := 0) (by omega) (by omega)) (fun z => ?_) (fun z => ?_)
  · rw [Rw_wq]
    refine lNext (m := 9) o2 (by omega) (by omega) (by omega) (fun M3 b hb g3 n3 o3 => ?_)
    have k3 := k2.nx g3 n3
    have k36 := k3.2.2.2.2.2
    rw [Rw_wb, Rn_rtn, Rw_wb, Rn_gI, k3.q.1.2.1, Rw_wq, Rw_nA (by omega) (by omega)]
    have g4 : Gx xO (Mn M3) M3 (nw M3 13 (Pw Q)) := Gx.rf.nw (Nat.le_refl _) (by rw [SB_v]; omega)
    have k4 := k3.go (c1 := c + 1) g4 (fun _ _ => rfl) (by show Mn M3 + 1 + c ≤ Mn M3 + (c + 1); omega)
    have qf := k3.2.2.2.2.1
    exact up (c + 1) (s + Pw Q) (by omega) (by omega) (lShift k4 pc (by omega) hl' hb br_new (by omega) ⟨by have := qf.1; omega, by have := qf.2.1; omega, by have := qf.2.2.1; omega, by have := qf.2.2.2.1; omega, fun hx => by have := qf.2.2.2.2.2 _ hx; omega⟩)
  · refine Rw_cs (d := w = 1) (neq (b := 1) (by omega) (by omega)) (fun z1 => ?_) (fun z1 => ?_)
    · rw [Rw_wb, Rn_gI, k2.q.1.2.1, Rw_wq, nL1, nI_add]
      refine lNext o2 (by omega) (by omega) (by omega) (fun M3 fr hfr g3 n3 o3 => ?_)
      have k3 := k2.nx g3 n3
      rw [Rw_wb, Rn_gI, k3.q.1.2.1, Rw_wq, nI_add, nsb (by omega)]
      refine lNext o3 (by omega) (by omega) (by omega) (fun M4 d hd g4 n4 o4 => ?_)
      have k4 := k3.nx g4 n4
      rw [Rw_wb, Rn_rtn, nI_add, Rw_wq]
      refine lNext (m := 2) o4 (by omega) (by omega) (by omega) (fun M5 q hq g5 n5 o5 => ?_)
      have k5 := k4.nx g5 n5
      have go : ∀ cl : Bool, Rw (gL_law_L606 0 p f (nI l) (nI fr) (nI (fr + d)) (nI (bN cl))) M5 c s (fun v _ c' s' => v = 1 ∧ c' ≤ c + 30 + uE e ∧ s' ≤ s + 300 + vE e) := by
        intro cl
        unfold gL_law_L606
        exact up c s (by omega) (by omega) (lPaint k5 pc (by omega) hl' (by omega) (by omega))
      refine Rw_cs (d := q = 1) (neq (by omega) (by omega)) (fun y => ?_) (fun y => ?_)
      · exact go true
      · exact go false
    · refine Rw_cs (d := w = 2) (neq (b := 2) (by omega) (by omega)) (fun z2 => ?_) (fun z2 => ?_)
      · rw [Rw_wb, Rn_gA k2.q.1.2.2.2.2, Rw_wq, lSize k2.q.2.2.2.1.1, k2.q.2.2.2.1.2.1, Rw_wq, nL1, nI_add]
        refine lNext o2 (by omega) (by omega) (by omega) (fun M3 to hto g3 n3 o3 => ?_)
        have k3 := k2.nx g3 n3
        exact up c s (by omega) (by omega) (lCopyE k3 pc (by omega) hl' (by omega))
      · refine Rw_cs (d := w = 3) (neq (b := 3) (by omega) (by omega)) (fun z3 => ?_) (fun z3 => ?_)
        · exact up c s (by omega) (by omega) (lRemE k2 pc (by omega) hl')
        · refine Rw_cs (d := w = 4) (neq (b := 4) (by omega) (by omega)) (fun z4 => ?_) (fun z4 => ?_)
          · exact up c s (by omega) (by omega) (lInv k2 pc (by omega) hl')
          · rw [Rw_wb, Rn_gA k2.q.1.2.2.2.2, Rw_wq, lSize k2.q.2.2.2.1.1, k2.q.2.2.2.1.2.1, Rw_wq]
            refine lNext o2 (by omega) (by omega) (by omega) (fun M3 ot hot g3 n3 o3 => ?_)
            have k3 := k2.nx g3 n3
            obtain ⟨y, hy, byy⟩ := k3.q.row hl'
            rw [Rw_wb, Rn_gA k3.q.1.2.2.2.2, Rw_wq, lGet k3.q.2.2.2.1.1 hy, Rw_wb, Rn_ckK byy.1 byy.2.1]
            exact up c s (by omega) (by omega) (lSwapE k3 pc (by omega) hl' hot hy)
end LA
/-! the drawn page -/
theorem b0_27 (l : Nat) : b0 l ≤ 27 := by unfold b0; split <;> omega
theorem dPg_p {w n : Nat} {rs vs ls : Nat → Nat} : Pw (dPg w n rs vs ls) = w ∧ PL (dPg w n rs vs ls) = n ∧ (∀ l, l < n → Pr (dPg w n rs vs ls) l = rs l) ∧ (∀ k, k < 6 → Pt (dPg w n rs vs ls) k = vs k) ∧ ∀ k, Ps (dPg w n rs vs ls) k = if k < n then ls k else 0 := by
  obtain ⟨p1, p2, p3, p4, p5⟩ := pLn_p w rs n
  obtain ⟨q1, q2, q3, q4, q5⟩ := pSt_p (pLn w rs n) vs 6
  obtain ⟨r1, r2, r3, r4, r5⟩ := pLs_p (pSt (pLn w rs n) vs 6) ls n
  unfold dPg
  refine ⟨by rw [r1, q1, p1], by rw [r2, q2, p2], fun l hl => by rw [r3, q3]; exact p3 l hl, fun k hk => by rw [r4, q5, if_pos hk], fun k => by rw [r5, q4, p4]⟩
theorem dPg_ok {w n : Nat} {rs vs ls : Nat → Nat} (hw : 8 ≤ w) (hw2 : w ≤ 27) (hn : n ≤ 6) (hn1 : 1 ≤ n) (hr : ∀ l, l < n → rs l < 2 ^ w ∧ brn (fun j => (rs l).testBit j) w ≤ 3 * (l + 1)) (hv : ∀ j, j < 6 → stLo j ≤ vs j ∧ vs j ≤ stHi j) (hv3 : vs 3 ≤ 4) (hl : ∀ j, j < n → ls j ≤ 3) : PC (dPg w n rs vs ls) (vs 0) := by
  obtain ⟨p1, p2, p3, p4, p5⟩ := dPg_p (w := w) (n := n) (rs := rs) (vs := vs) (ls := ls)
  have hls : ∀ l, Ps (dPg w n rs vs ls) l ≤ 3 := fun l => by
    rw [p5]
    by_cases q : l < n
    · rw [if_pos q]; exact hl l q
    · rw [if_neg q]; omega
  refine ⟨⟨⟨by omega, by omega, by omega, fun l hl' => by rw [p1, p3 l (by omega)]; exact (hr l (by omega)).1, fun l _ => Nat.le_trans (hls l) (by omega), ⟨?_, ?_⟩, ?_, ?_, ?_, ?_, ?_⟩, by omega, by omega, fun l hl' => ?_⟩, ⟨by omega, by omega⟩, fun l _ => hls l, by rw [p4 3 (by omega)]; exact hv3, p4 0 (by omega)⟩
  · rw [p4 0 (by omega)]; exact (hv 0 (by omega)).1
  · rw [p4 0 (by omega)]; exact (hv 0 (by omega)).2
  · rw [p4 1 (by omega)]; exact (hv 1 (by omega)).2
  · rw [p4 2 (by omega)]; exact (hv 2 (by omega)).2
  · rw [p4 3 (by omega)]; exact (hv 3 (by omega)).2
  · rw [p4 4 (by omega)]; exact (hv 4 (by omega)).2
  · rw [p4 5 (by omega)]; exact (hv 5 (by omega)).2
  · rw [p1, p3 l (by omega)]
    have h1 := chU_le (rs l) w
    have h2 := (hr l (by omega)).2
    have h3 := chU_len (rs l) w
    unfold b0
    split <;> omega
theorem dTx_l {w n : Nat} {rs vs ls : Nat → Nat} (hw2 : w ≤ 27) (hn : n ≤ 6) : (dTx w n rs vs ls).length ≤ 332 := by
  unfold dTx
  rw [List.length_append, List.length_append, List.length_append, List.length_append, List.length_append]
  have h1 := dec2_2 w
  have h2 := foldT_len (f := fun i => tLine (rs i) w) (m := 33) (n := n) (fun l _ => by rw [tLine_l]; omega)
  have h3 := foldT_len (f := fun k => tSet k (vs k)) (m := 10) (n := 6) (fun l _ => tSet_l _ _)
  have h4 := foldT_len (f := fun l => tLoss l (ls l)) (m := 11) (n := n) (fun l _ => tLoss_l _ _)
  have e9 : (wK 9).length = 5 := rfl
  have e10 : (wK 10).length = 1 := rfl
  omega
