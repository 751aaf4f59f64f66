/-! THE CLASS AND THE LAW'S PAGE ARE ALIKE: modes, runs, a line -/
theorem rnV_end (L : List Nat) : rnV L L.length = -1 := by
  unfold rnV
  rw [List.getElem?_eq_none (Nat.le_refl _)]
theorem rnV_at {L : List Nat} {j y : Nat} (h : L[j]? = some y) : rnV L j = nI y := by
  unfold rnV
  rw [h]
theorem mdV_end (L : List Md) (z : Int32) : mdV L L.length z = -9 := by
  unfold mdV
  rw [List.getElem?_eq_none (Nat.le_refl _)]
theorem chU_0 : ∀ k, chU 0 k = [] := by
  intro k
  induction k with
  | zero => rfl
  | succ k ih => rw [chU_s, ih]; unfold chg; simp
theorem chU_bu {P : Pg} {b : Nat → Nat} (hP : okP P b) {l : Nat} (hl : l < PL P) : (chU (Pu P l) (Pw P)).length ≤ bu b l := by
  unfold bu Pu
  by_cases z : l = 0
  · rw [if_pos z, if_pos z, chU_0]; exact Nat.le_refl _
  · rw [if_neg z, if_neg z]; exact hP.2.2.2 (l - 1) (by omega)
section LM
variable {M0 M : Mm} {p : Nat} {P : Pg} {b : Nat → Nat} {hs hl h a : Nat} {R : List Nat} {c0 s0 c s u v : Nat} {nU : Hq} {k65 : Nat → Nat → Int32 → Int32 → Mm → Option (Int32 × Mm × Nat × Nat)} {Q : Int32 → Mm → Nat → Nat → Prop} {l N hc_ hr_ : Nat}
theorem lk302 (k : LKs M0 p P nU hs hl h a R c0 s0 M c s u v) (ql : QL p hs hl h a R) (hP : okP P b) (hu : c0 + u ≤ 830000000) (hl' : l < PL P) (hN : 38 ≤ N) (cl : isCl M N hc_ (cod (Pw P) (Pr P l) (Pu P l))) (rl : isRl M N hr_ (runs (Pw P) (Pr P l))) (kk : ∀ M' c' s', LKs M0 p P nU hs hl h a R c0 s0 M' c' s' (u + 230 + kRd 28 (bu b l)) (v + 1401 + sRd 27 28 (bu b l)) → Rw (k65 0 p (nI (PL P)) (nI (l + 1))) M' c' s' Q) : Rw (gL_isLike_L302 k65 fu 0 p (nI (PL P)) (nI l) hc_ hr_ (nI 0)) M c s Q := by
  have h7 := hP.2.2.1
  have h27 := hP.2.1
  have hlen := cod_len (Pw P) (Pr P l) (Pu P l)
  have hrn := runs_len (Pw P) (Pr P l)
  refine rw_loopv (F := fun n (j : Nat) => gL_isLike_L302 k65 n 0 p (nI (PL P)) (nI l) hc_ hr_ (nI j)) (fun j M' c' s' => j ≤ (cod (Pw P) (Pr P l) (Pu P l)).length ∧ LKs M0 p P nU hs hl h a R c0 s0 M' c' s' (u + 8 * j) (v + 48 * j) ∧ isCl M' N hc_ (cod (Pw P) (Pr P l) (Pu P l)) ∧ isRl M' N hr_ (runs (Pw P) (Pr P l))) (fun j => (cod (Pw P) (Pr P l) (Pu P l)).length - j) ?_ fu 0 M c s (by unfold fu; omega) ⟨Nat.zero_le _, k, cl, rl⟩
  rintro n j M1 c1 s1 ⟨hj, k1, cl1, rl1⟩ ih
  show Rw (gL_isLike_L302 k65 (n + 1) 0 p (nI (PL P)) (nI l) hc_ hr_ (nI j)) _ _ _ _
  unfold gL_isLike_L302
  obtain ⟨a1, hs1, l1, -, -, len1, -⟩ := id cl1
  rw [Rw_wq, lSize l1, len1]
  refine Rw_cs (d := (cod (Pw P) (Pr P l) (Pu P l)).length ≤ j) (nle (by omega) (by omega)) (fun z => ?_) (fun z => ?_)
  · have hjl : j = (cod (Pw P) (Pr P l) (Pu P l)).length := by omega
    obtain ⟨ar, lr, -, -⟩ := id rl1
    rw [Rw_wq, lSize lr, List.length_map, Rw_wq]
    refine aRun k1 ql h7 hl' (by omega) (fun M2 k2 g2 => ?_)
    rw [rnV_end]
    refine Rw_yes rfl ?_
    have cl2 := cl1.gk hN g2
    obtain ⟨a2, hs2, l2, -, -, len2, -⟩ := id cl2
    rw [Rw_wq, lSize l2, len2, Rw_wq]
    refine aMode (z := 0) k2 ql h7 hl' (by omega) (by omega) (fun M3 k3 g3 => ?_)
    rw [mdV_end]
    refine Rw_yes rfl ?_
    have hc3 := k3.2.2.2.2.2.2.1
    rw [Rw_wb, Rn_gA k3.2.1.1.2.2.2.2, Rw_wq]
    refine (lAbove (u := Pu P l) k3.2.1.1.2.1 (by omega) k3.2.1.2.2.2.1.1 (fun z => ?_) (fun z => by unfold Pu; rw [if_pos z]) (by omega) k3.2.2.1 (by omega)).mono ?_
    · obtain ⟨x, hx, bx⟩ := k3.2.1.row (show l - 1 < PL P by omega)
      exact ⟨x, hx, by unfold Pu; rw [if_neg z]; exact bx⟩
    rintro hu4 M4 c4 s4 ⟨g4, e4, p4, b4⟩
    have k4 := k3.law g4 e4 p4
    have hc4 := k4.2.2.2.2.2.2.1
    have i1 : (if l = 0 then 1 else 0) ≤ 1 := by split <;> omega
    have i2 : (if l = 0 then Pw P else 0) ≤ 27 := by split <;> omega
    rw [Rw_wq]
    refine (lRead ((cl2.gk hN g3).gk hN (xO_K g4)) b4 h27 (cod_ok (by omega)) k4.2.2.1 (by omega)).mono ?_
    rintro o M5 c5 s5 ⟨g5, e5, p5, f5, -⟩
    obtain ⟨r, rfl, br, -⟩ := f5 _ (rt_C (by omega) (hP.1.2.2.2.1 l hl'))
    have k5 := k4.law g5 e5 p5
    have q1 := kRd_le (m := (cod (Pw P) (Pr P l) (Pu P l)).length) (by omega) (chU_bu hP hl')
    have q2 := sRd_le h27 (m := (cod (Pw P) (Pr P l) (Pu P l)).length) (by omega) (chU_bu hP hl')
    rw [Rw_op1]
    exact lk454 (k5.up (u1 := u + 228 + kRd 28 (bu b l)) (v1 := v + 1389 + sRd 27 28 (bu b l)) (by omega) (by omega)) ql hP hl' br (fun M' c' s' k' => kk M' c' s' (k'.up (by omega) (by omega)))
  · obtain ⟨m, hm⟩ := gt_some (cod (Pw P) (Pr P l) (Pu P l)) (show j < _ by omega)
    obtain ⟨a1, hs1, x, l1, len1, hx, md, hxN⟩ := cl1.at hm
    obtain ⟨v1, v2, v3, v4⟩ := mdV_at hm
    have hx38 : xK x = false := xK_f (by omega)
    rw [Rw_wq, lGet l1 hx, Rw_wb, Rn_ckK md.1 md.2.1, Rw_wq]
    refine aMode (z := 0) k1 ql h7 hl' (by omega) (by omega) (fun M2 k2 g2 => ?_)
    have md2 := md.gx g2 md.1 hx38
    rw [Rw_wb, Rn_gI, md2.2.2.1, v1]
    refine Rw_yes rfl ?_
    rw [Rw_wq]
    refine aMode (z := 1) k2 ql h7 hl' (by omega) (by omega) (fun M3 k3 g3 => ?_)
    have md3 := md2.gx g3 md2.1 hx38
    rw [Rw_wb, Rn_gI, md3.2.2.2.1, v2]
    refine Rw_yes rfl ?_
    rw [Rw_wq]
    refine aMode (z := 2) k3 ql h7 hl' (by omega) (by omega) (fun M4 k4 g4 => ?_)
    have md4 := md3.gx g4 md3.1 hx38
    rw [Rw_wb, Rn_gI, md4.2.2.2.2.1, v3]
    refine Rw_yes rfl ?_
    rw [Rw_wq]
    refine aMode (z := 3) k4 ql h7 hl' (by omega) (by omega) (fun M5 k5 g5 => ?_)
    have md5 := md4.gx g5 md4.1 hx38
    rw [Rw_wb, Rn_gI, md5.2.2.2.2.2, v4]
    refine Rw_yes rfl ?_
    rw [nL1, nI_add]
    exact ih (j + 1) M5 _ _ ⟨by omega, k5.up (by omega) (by omega), (((cl1.gk hN g2).gk hN g3).gk hN g4).gk hN g5, (((rl1.gk hN g2).gk hN g3).gk hN g4).gk hN g5⟩ (by omega)
theorem lk258 (k : LKs M0 p P nU hs hl h a R c0 s0 M c s u v) (ql : QL p hs hl h a R) (hP : okP P b) (hu : c0 + u ≤ 820000000) (hl' : l < PL P) (hN : 38 ≤ N) (cl : isCl M N hc_ (cod (Pw P) (Pr P l) (Pu P l))) (rl : isRl M N hr_ (runs (Pw P) (Pr P l))) (kk : ∀ M' c' s', LKs M0 p P nU hs hl h a R c0 s0 M' c' s' (u + 258 + kRd 28 (bu b l)) (v + 1569 + sRd 27 28 (bu b l)) → Rw (k65 0 p (nI (PL P)) (nI (l + 1))) M' c' s' Q) : Rw (gL_isLike_L258 k65 fu 0 p (nI (PL P)) (nI l) hc_ hr_ (nI 0)) M c s Q := by
  have h7 := hP.2.2.1
  have h27 := hP.2.1
  have hrn := runs_len (Pw P) (Pr P l)
  refine rw_loopv (F := fun n (j : Nat) => gL_isLike_L258 k65 n 0 p (nI (PL P)) (nI l) hc_ hr_ (nI j)) (fun j M' c' s' => j ≤ (runs (Pw P) (Pr P l)).length ∧ LKs M0 p P nU hs hl h a R c0 s0 M' c' s' (u + j) (v + 6 * j) ∧ isCl M' N hc_ (cod (Pw P) (Pr P l) (Pu P l)) ∧ isRl M' N hr_ (runs (Pw P) (Pr P l))) (fun j => (runs (Pw P) (Pr P l)).length - j) ?_ fu 0 M c s (by unfold fu; omega) ⟨Nat.zero_le _, k, cl, rl⟩
  rintro n j M1 c1 s1 ⟨hj, k1, cl1, rl1⟩ ih
  show Rw (gL_isLike_L258 k65 (n + 1) 0 p (nI (PL P)) (nI l) hc_ hr_ (nI j)) _ _ _ _
  unfold gL_isLike_L258
  obtain ⟨ar, lr, -, -⟩ := id rl1
  rw [Rw_wq, lSize lr, List.length_map]
  refine Rw_cs (d := (runs (Pw P) (Pr P l)).length ≤ j) (nle (by omega) (by omega)) (fun z => ?_) (fun z => ?_)
  · exact lk302 (k1.up (u1 := u + 28) (v1 := v + 168) (by omega) (by omega)) ql hP (by omega) hl' hN cl1 rl1 (fun M' c' s' k' => kk M' c' s' (k'.up (by omega) (by omega)))
  · obtain ⟨y, hy⟩ := gt_some (runs (Pw P) (Pr P l)) (show j < _ by omega)
    have h128 : y < 128 := runs_128 h27 y (List.mem_of_getElem? hy)
    rw [Rw_wq]
    refine aRun k1 ql h7 hl' (by omega) (fun M2 k2 g2 => ?_)
    have rl2 := rl1.gk hN g2
    obtain ⟨ar2, lr2, -, -⟩ := id rl2
    rw [Rw_wq, lGet lr2 (mp_at hy), Rw_wb, bCk h128, Rw_wq, bInt h128, rnV_at hy]
    refine Rw_yes rfl ?_
    rw [nL1, nI_add]
    exact ih (j + 1) M2 _ _ ⟨by omega, k2.up (by omega) (by omega), cl1.gk hN g2, rl2⟩ (by omega)
theorem lk164 (k : LKs M0 p P nU hs hl h a R c0 s0 M c s u v) (ql : QL p hs hl h a R) (hP : okP P b) (hu : c0 + u ≤ 810000000) (hl' : l < PL P) (hN : 38 ≤ N) (cl : isCl M N hc_ (cod (Pw P) (Pr P l) (Pu P l))) (rl : isRl M N hr_ (runs (Pw P) (Pr P l))) (y : Int32) (kk : ∀ M' c' s', LKs M0 p P nU hs hl h a R c0 s0 M' c' s' (u + 272 + uBi b (Pt P 0) l + kRd 28 (bu b l)) (v + 1649 + vBi b (Pt P 0) l + sRd 27 28 (bu b l)) → Rw (k65 0 p (nI (PL P)) (nI (l + 1))) M' c' s' Q) : Rw (gL_isLike_L164 k65 0 p (nI (PL P)) (nI l) hc_ hr_ y y) M c s Q := by
  have h7 := hP.2.2.1
  have h27 := hP.2.1
  have hrn := runs_len (Pw P) (Pr P l)
  have hbi := uBi_m b (Pt P 0) l
  unfold gL_isLike_L164
  refine Rw_yes rfl ?_
  rw [Rw_wq]
  refine aLine (j := 1) k ql h7 hl' (by omega) (fun M1 k1 g1 => ?_)
  have hc1 := k1.2.2.2.2.2.2.1
  rw [Rw_wq]
  refine (lBits (rl.gk hN g1) (runs_128 h27) (by omega) k1.2.2.1 (by omega)).mono ?_
  rintro w1 M2 c2 s2 ⟨rfl, g2, e2, p2⟩
  have k2 := k1.law g2 e2 p2
  refine Rw_yes rfl ?_
  rw [Rw_wq]
  refine aLine (j := 2) k2 ql h7 hl' (by omega) (fun M3 k3 g3 => ?_)
  have hc3 := k3.2.2.2.2.2.2.1
  have cl3 := ((cl.gk hN g1).gk hN (xO_K g2)).gk hN g3
  rw [Rw_wq]
  refine (lModeBits cl3 k3.2.2.1 (by omega)).mono ?_
  rintro w2 M4 c4 s4 ⟨rfl, g4, e4, p4⟩
  have k4 := k3.law g4 e4 p4
  refine Rw_yes rfl ?_
  rw [Rw_wq]
  refine aLine (j := 3) k4 ql h7 hl' (by omega) (fun M5 k5 g5 => ?_)
  have hc5 := k5.2.2.2.2.2.2.1
  rw [Rw_wq]
  refine (lBitsOfL k5.2.1 hP hl' k5.2.2.1 (by omega)).mono ?_
  rintro w3 M6 c6 s6 ⟨rfl, g6, e6, p6⟩
  have k6 := k5.law g6 e6 p6
  refine Rw_yes rfl ?_
  rw [Rw_wq]
  refine aLine (j := 4) k6 ql h7 hl' (by omega) (fun M7 k7 g7 => ?_)
  have rl7 := (((((rl.gk hN g1).gk hN (xO_K g2)).gk hN g3).gk hN (xO_K g4)).gk hN g5 |>.gk hN (xO_K g6)).gk hN g7
  have cl7 := (((cl3.gk hN (xO_K g4)).gk hN g5).gk hN (xO_K g6)).gk hN g7
  obtain ⟨ar, lr, -, -⟩ := id rl7
  rw [Rw_wq, lSize lr, List.length_map]
  refine Rw_yes rfl ?_
  rw [Rw_wq]
  refine aLine (j := 5) k7 ql h7 hl' (by omega) (fun M8 k8 g8 => ?_)
  have cl8 := cl7.gk hN g8
  obtain ⟨a8, hs8, l8, -, -, len8, -⟩ := id cl8
  rw [Rw_wq, lSize l8, len8]
  refine Rw_yes rfl ?_
  rw [Rw_wq]
  refine aLine (j := 9) k8 ql h7 hl' (by omega) (fun M9 k9 g9 => ?_)
  rw [Rw_wb, Rn_gA k9.2.1.1.2.2.2.1, Rw_wb, k9.2.1.loss (by omega)]
  refine Rw_yes rfl ?_
  exact lk258 (k9.up (u1 := u + 14 + uBi b (Pt P 0) l) (v1 := v + 80 + vBi b (Pt P 0) l) (by omega) (by omega)) ql hP (by omega) hl' hN (cl8.gk hN g9) ((rl7.gk hN g8).gk hN g9) (fun M' c' s' k' => kk M' c' s' (k'.up (by omega) (by omega)))
end LM
