/-! THE LAW BEHIND THE DRAWN TEXT: given, read, alike, sent, told, edited, undone -/
def lawZ (p sb : Nat) : Mm → Option (Int32 × Mm × Nat × Nat) :=
  wq (gJ4_toString_0e30d sb) fun h49 =>
  wq (gL_feed 0 h49) fun _ =>
  wq (wcc 0 0 (fX7_load 0)) fun v50 =>
  wb (gA p 3) fun v51 =>
  wq (gJx4a65c_size_8abf5 v51) fun v52 =>
  if (v50 : Int32) = v52 then
    wq (wcc 0 0 (fX7_errorCode 0)) fun v53 =>
    if (v53 : Int32) = 0 then
      wq (gL_isLike 0 p) fun v54 =>
      if (v54 : Int32) = 0 then
        wgrd ((0 : Int32) == 0 || (0 : Int32) == 1) (wr 0)
      else
        wq (gL_isSent 0 p) fun v55 =>
        if (v55 : Int32) = 0 then
          wgrd ((0 : Int32) == 0 || (0 : Int32) == 1) (wr 0)
        else
          wq (gL_isTold 0 p 38) fun v56 =>
          if (v56 : Int32) = 0 then
            wgrd ((0 : Int32) == 0 || (0 : Int32) == 1) (wr 0)
          else
            wq (gX9_copy p) fun h57 => lawD p h57
    else
      wgrd ((0 : Int32) == 0 || (0 : Int32) == 1) (wr 0)
  else
    wgrd ((0 : Int32) == 0 || (0 : Int32) == 1) (wr 0)
def uM (e : Nat) : Nat := 2 + 335 + (8 + sm (uLk b0 e) 6) + (23 + US b0 e 4 3 (uX b0 e 4) 6 + 37 * 6) + UT b0 e + 15 + 30 + uE e
def vM (e : Nat) : Nat := (4 + 332) + 6 * 335 + (48 + sm (vLk b0 e) 6) + (73 + VS b0 e 4 3 (vX b0 e 4) 6 + 253 * 6) + VT b0 e + (100 + 27 * 6) + 300 + vE e
theorem lMain {M : Mm} {t p hs hl h a sb ab w n c s e : Nat} {R : List Nat} {rs vs ls : Nat → Nat} (k : BL M t p hs hl h a sb ab (dPg w n rs vs ls) R (dTx w n rs vs ls) c) (pc : PC (dPg w n rs vs ls) e) (hw : 8 ≤ w) (hw2 : w ≤ 27) (hn : n ≤ 6) (hr : ∀ l, l < n → rs l < 2 ^ w) (hv : ∀ j, j < 6 → stLo j ≤ vs j ∧ vs j ≤ stHi j) (hl3 : ∀ j, j < n → ls j ≤ 3) (hsl : Mn M + 400 ≤ c) (ht : t < 700000) (hc : c + uM e ≤ 600000000) : Rw (lawZ p sb) M c s (fun v _ c' s' => v = 1 ∧ c' ≤ c + uM e ∧ s' ≤ s + vM e) := by
  have d1 : uM e = 2 + 335 + (8 + sm (uLk b0 e) 6) + (23 + US b0 e 4 3 (uX b0 e 4) 6 + 37 * 6) + UT b0 e + 15 + 30 + uE e := rfl
  have d2 : vM e = (4 + 332) + 6 * 335 + (48 + sm (vLk b0 e) 6) + (73 + VS b0 e 4 3 (vX b0 e 4) 6 + 253 * 6) + VT b0 e + (100 + 27 * 6) + 300 + vE e := rfl
  have hlen := dTx_l (n := n) (rs := rs) (vs := vs) (ls := ls) hw2 hn
  obtain ⟨Q, hQ⟩ : ∃ Q, Q = dPg w n rs vs ls := ⟨_, rfl⟩
  obtain ⟨xs, hxs⟩ : ∃ xs, xs = dTx w n rs vs ls := ⟨_, rfl⟩
  have hparse : ∀ x : Tx, AtT x 0 xs → x.2 = xs.length → spText x = .inr Q := fun x h1 h2 => by
    rw [hQ]; rw [hxs] at h1 h2
    exact spText_d h1 h2 hw hw2 hn hr hv (fun i hi => by have := hl3 i hi; omega)
  rw [← hQ] at k pc
  rw [← hxs] at k hlen
  have hpl := pc.2.1
  unfold lawZ
  rw [Rw_wq]
  refine (lToS k.2.2.1 (by omega)).mono ?_
  rintro st M1 c1 s1 ⟨est, ks, g1, n1, rfl, rfl⟩
  have k1 := k.go (c1 := c + 2) g1 (by omega)
  have qt := k1.qt
  have h38 := k.1.1.2.2
  have hC1 : CPg (Mn M1, Mn M1 + 48) M1 (pg0 16) [] (fun _ => none) := k1.1.1.cpg (by show 38 ≤ Mn M1; omega) (Nat.le_refl _) (Nat.le_refl _) (by omega)
  have ht1 : isTx M1 ((fun _ => 0), 0) := ⟨k1.1.1.2.1, Nat.zero_le _, fun i hi => absurd hi (Nat.not_lt_zero _), fun i hi => absurd hi (Nat.not_lt_zero _)⟩
  have hFS : FS M1 M1 (pg0 16) [] (fun _ => none) (Mn M1, Mn M1 + 48) xs st (Mn M + 1) (fun _ => 0) 0 := ⟨hC1, ht1, by rw [est]; exact ks, Gx.rf, rfl, rfl⟩
  rw [Rw_wq]
  refine (lFeed hFS (by omega) (by omega) (by omega)).mono ?_
  rintro - M2 c2 s2 ⟨⟨g, ⟨f1, f2, f3, f4, f5, f6⟩, hg⟩, e1, e2, e3⟩
  have L2 := k1.2.1.gk qt.ql f4
  have o2 := k1.1.2.gx f4 k1.1.2.1 (xK_f (Nat.le_refl _))
  rw [Rw_wq, Rw_cc]
  refine (cLoadOp f1 f2).mono ?_
  rintro v M3 ⟨ew, x3, hC3, -, e8, -, er, en⟩
  have esp : spLoad (pg0 16) [] (g, xs.length) = (nI (PL Q), (Q, []), (nI 0, -1)) := by
    unfold spLoad
    rw [hparse (g, xs.length) ⟨by show 0 + xs.length ≤ xs.length; omega, fun i hi => by rw [Nat.zero_add]; exact hg i hi⟩ rfl]
  rw [esp] at ew hC3 e8
  have ew : v = nI (PL Q) := ew
  have hC3 : CPg (Mn M1, Mn M1 + 48) M3 Q [] (fun _ => none) := hC3
  have e8 : Mi M3 8 0 = nI 0 := e8
  have g3 : Gx xK (Mn M2) M2 M3 := x3.gk (Nat.le_refl _) (fun x y z1 z2 => by
    have : ¬ Mn M1 ≤ x := by omega
    unfold xLd xEc xPr xTk; simp; omega)
  have L3 := L2.gk qt.ql g3
  have o3 := o2.gx g3 o2.1 (xK_f (Nat.le_refl _))
  rw [Rw_wb, Rn_gA L3.1.2.2.2.2, Rw_wq, lSize L3.2.2.2.1.1, L3.2.2.2.1.2.1]
  refine Rw_yes ew ?_
  rw [Rw_wq, Rw_cc, cErrorCode hC3.1, e8]
  refine Rw_yes rfl ?_
  obtain ⟨n0, hn0, kq⟩ := hC3.kq
  have hnon : nonH (hqM M3 [] n0) := by
    have hk6 := k1.1.1.1.2.2.2.2
    refine ⟨rfl, hn0, fun i hi => ?_, fun i hi => ?_⟩
    · show Mr M3 6 i = none
      rw [er, f6]
      have := hk6 i (by omega)
      unfold owR at this
      rw [if_pos hi] at this; exact this
    · show Mr M3 7 i = none
      rw [er, f6]
      have := hk6 (10 + i) (by omega)
      unfold owR at this
      rw [if_neg (by omega), Nat.add_sub_cancel_left] at this; exact this
  have hE1 := k1.2.2.2.1.2
  have hE2 : Ml M2 EB = 0 := by rw [f4.mc (by rw [SB_v, EB_v]; omega)]; exact hE1
  have hE3 : Ml M3 EB = 0 := by rw [g3.mc (by rw [SB_v, EB_v]; omega)]; exact hE2
  have sl := pc.1
  have s1 : sm (uLk b0 e) (PL Q) ≤ sm (uLk b0 e) 6 := sm_mono hpl.2
  have s2' : sm (vLk b0 e) (PL Q) ≤ sm (vLk b0 e) 6 := sm_mono hpl.2
  have he : Pt Q 0 = e := pc.2.2.2.2
  rw [Rw_wq]
  refine (lIsLike kq L3 qt.ql pc.1 ⟨by omega, hE3⟩ (by omega)).mono ?_
  rintro x4 M4 c4 s4 ⟨rfl, k41, k42, k43, k44, k45, k46, k47, k48⟩
  rw [he] at k47 k48
  refine Rw_no (by decide) ?_
  have o4 := o3.gx k44 o3.1 (xK_f (Nat.le_refl _))
  rw [Rw_wq]
  refine (sentB (n := 6) (tu := uX b0 e 4) (tv := vX b0 e 4) k41 k42 qt.ql pc.1 k43 (by omega) pc.2.2.1 pc.2.2.2.1 hpl.2).mono ?_
  rintro x5 M5 c5 s5 ⟨rfl, k51, k52, k53, k54, k55, k56, k57, k58⟩
  rw [he] at k57 k58
  refine Rw_no (by decide) ?_
  have o5 := o4.gx k54 o4.1 (xP_f (Nat.le_refl _) (by have := qt.1; omega))
  rw [Rw_wq]
  refine (lIsTold k51 k52 o5 k53 qt pc.1 hpl.2 pc.2.2.1 pc.2.2.2.1 (by omega) (by rw [he]; omega)).mono ?_
  rintro x6 M6 c6 s6 ⟨rfl, k61, k62, k63, k64, k65, k66, k67, k68, k69⟩
  rw [he] at k68 k69
  refine Rw_no (by decide) ?_
  rw [Rw_wq]
  have hm6 := k64.1
  have h27 := pc.1.2.1
  refine (lCopy k62 h27 (by omega) k64 (by omega)).mono ?_
  rintro f M7 c7 s7 ⟨rfl, g7, p7, ⟨j1, j2, j3, j4⟩, a', R', L7, ha', hR'⟩
  have m3 := g1.mn
  have m4 := f4.mn
  have m5 := g3.mn
  have m6 := k44.mn
  have m7 := k54.mn
  have m8 := k65.mn
  have m9 := g7.mn
  obtain ⟨b1, b2, b3, b4, ⟨h1, h2, h3, h4⟩, ⟨h5, h6, h7, h8⟩, nn, h9, h10⟩ := id k1
  have hsb := b3.1.1
  have hEn : EB = 1000000500 := EB_v
  have hd : QD p hs hl h a R sb (Mn M6) := by
    refine ⟨⟨h1, h5⟩, ⟨h2, h6⟩, ⟨h3, h7⟩, ⟨h4, h8⟩, ?_, fun y hy => ⟨h10 y hy, ?_⟩, nn.2.2.2, ⟨nn.1, nn.2.1, nn.2.2.1⟩, by omega⟩
    · by_cases q : a = EB
      · exact Or.inl q
      · exact Or.inr ⟨h9.resolve_left q, k62.2.2.2.1.1.lt q⟩
    · obtain ⟨i, hi⟩ := List.mem_iff_getElem?.mp hy
      exact (k62.2.2.2.1.2.2 i y hi).1
  have hqf : QB (Mn M6) (Mn M6 + 4) (Mn M6 + 5) (Mn M6 + 3) a' R' (Mn M6) (Mn M7) := by
    have y1 := L7.1.1
    have y2 := L7.2.1.1
    have y3 := L7.2.2.1.1
    have y4 := L7.2.2.2.1.1.1
    refine ⟨by omega, by omega, by omega, by omega, ?_, fun y hy => ?_⟩
    · by_cases q : a' = EB
      · exact Or.inl q
      · have := L7.2.2.2.1.1.lt q
        have := ha'.resolve_left q
        exact Or.inr (by omega)
    · obtain ⟨i, hi⟩ := List.mem_iff_getElem?.mp hy
      have := (L7.2.2.2.1.2.2 i y hi).1
      have := hR' y hy
      omega
  have ked : ED M7 p hs hl h a R (Mn M6) (Mn M6 + 4) (Mn M6 + 5) (Mn M6 + 3) a' R' Q (hqM M3 [] n0) sb (Mn M6) c7 := by
    refine ⟨⟨k61.gx g7 k61.2.2.2.2 (fun _ _ => rfl), hnon⟩, k62.go g7, L7, hd, hqf, ⟨by omega, ?_, by omega⟩⟩
    rw [g7.mc (by rw [SB_v, EB_v]; omega)]; exact k64.2
  have o7 := k63.gx g7 k63.1 rfl
  refine (lDisp ked o7 (by omega) pc (by omega)).mono ?_
  rintro v M8 c8 s8 ⟨r1, r2, r3⟩
  exact ⟨r1, by omega, by omega⟩
