/-! THE LAW, whole, behind the constructors -/
theorem rm_b : ∀ e, e < 9 → 1 ≤ e → uM e ≤ 600000 ∧ vM e ≤ 5200000 := by decide +kernel
theorem Rw_up {α : Type} {F : Mm → Option (α × Mm × Nat × Nat)} {M : Mm} {c s d : Nat} {Q : α → Mm → Nat → Nat → Prop} (h : Rw F M (c + d) s (fun a M' c' s' => Q a M' (c' - d) s')) : Rw F M c s Q := by
  obtain ⟨a, M', kc, ks, e, q⟩ := h
  refine ⟨a, M', kc, ks, e, ?_⟩
  have : c + d + kc - d = c + kc := by omega
  rw [this] at q; exact q
theorem BL.cup {M : Mm} {t p hs hl h a sb ab : Nat} {P : Pg} {R xs : List Nat} {c c1 : Nat} (k : BL M t p hs hl h a sb ab P R xs c) (hc : c ≤ c1) : BL M t p hs hl h a sb ab P R xs c1 := by
  obtain ⟨k1, k2, k3, ⟨k4, k5⟩, k6⟩ := k
  exact ⟨k1, k2, k3, ⟨by omega, k5⟩, k6⟩
def BB (M : Mm) (t W : Nat) : Prop := (CI M ∧ isTo M t) ∧ QP M 39 (pg0 W) (Ps (pg0 W)) 40 41 42 EB [] ∧ Mi M 43 3 = nI 0 ∧ Ml M EB = 0 ∧ 44 ≤ Mn M
theorem BB.gx {M M' : Mm} {t W : Nat} (k : BB M t W) {X : Nat → Bool} {n : Nat} (g : Gx X n M M') (hn : 44 ≤ n) (hX : ∀ q, q < 44 → X q = false) : BB M' t W := by
  obtain ⟨⟨k1, k2⟩, k3, k4, k5, k6⟩ := k
  refine ⟨⟨k1.gx g (by omega) (fun q hq => hX q (by omega)), k2.gx g (by omega) (hX 38 (by omega))⟩, k3.qb (N1 := 39) (N2 := 43) ⟨by omega, by omega, by omega, by omega, Or.inl rfl, fun y hy => absurd hy List.not_mem_nil⟩ g (by omega) (fun q _ z2 => hX q (by omega)), by rw [g.mi (by omega) (hX 43 (by omega))]; exact k4, by rw [g.mc (by rw [SB_v, EB_v]; omega)]; exact k5, by have := g.mn; omega⟩
theorem hZ_l (p sb : Nat) : ∀ (m i : Nat), gL_law_L258 (m + 1) 38 0 p sb (nI i) = (wb (gA p 3) fun v47 => wq (gJx4a65c_size_8abf5 v47) fun v48 => if v48 ≤ nI i then lawZ p sb else wb (gA p 2) fun v92 => wq (gX10_next 38 6) fun v93 => wb (aI v92 (nI i) (mmax 0 (v93 - 2))) fun _ => wq (gJ4_append_15ec4_k sb (SB + 13)) fun h94 => wq (gJ4_append_bf812 h94 (nI i)) fun h95 => wq (gJ4_append_cf468 h95 32) fun h96 => wb (gA p 2) fun v97 => wb (lI v97 (nI i)) fun v98 => wq (gJ4_append_bf812 h96 v98) fun h99 => wq (gJ4_append_cf468 h99 59) fun h100 => gL_law_L258 m 38 0 p sb (nI i + 1)) := fun _ _ => rfl
/-- from the text's head on -/
theorem lTail {M : Mm} {t W n c s ab x : Nat} (hW : 8 ≤ W) (hW2 : W ≤ 27) (hn1 : 1 ≤ n) (hn : n ≤ 6) (k : BL M t 39 40 41 42 EB 43 ab (pg0 W) [] (wK 9 ++ dec2 W ++ wK 10) c) (hb : isBr M x W 0) (hx : 43 < x) (ht : t ≤ 100) (hc : c ≤ 3000) : Rw (gL_law_L94 fu 38 0 39 43 x (nI n)) M c s (fun v _ c' s' => v = 1 ∧ c' ≤ c + 601000 ∧ s' ≤ s + 5210000) := by
  have e9 : (wK 9).length = 5 := rfl
  have e10 : (wK 10).length = 1 := rfl
  have hhd : (wK 9 ++ dec2 W ++ wK 10).length ≤ 10 := by
    have := dec2_2 W
    rw [List.length_append, List.length_append, e9, e10]; omega
  refine l94 ⟨hW, hW2⟩ hn k hhd (by omega) (by omega) hb hx (fun M1 c1 s1 t1 a1 ab1 R1 rs k1 hrs ht1 f1 f2 f3 => ?_)
  have hm1 := k1.mn
  have hb1 := k1.bb
  have cap1 := k1.2.2.1.2.2.1.2.1
  rw [Rw_wq, show (6 : Int32) = nI 6 from rfl, Rw_nA (by omega) (by omega)]
  have g1 : Gx xO (Mn M1) M1 (nw M1 11 6) := Gx.rf.nw (Nat.le_refl _) (by rw [SB_v]; omega)
  have l1 : Ml (nw M1 11 6) (Mn M1) = 6 := by rw [Ml_nw, if_pos rfl]
  have kk1 : Mk (nw M1 11 6) (Mn M1) = 11 := by rw [Mk_nw, if_pos rfl]
  have mm1 : Mn (nw M1 11 6) = Mn M1 + 1 := rfl
  generalize nw M1 11 6 = M2 at g1 l1 kk1 mm1
  have wr6 : ∀ (k : Nat) (v : Int32) (M3 : Mm) {F : Mm → Option (Int32 × Mm × Nat × Nat)} {Q : Int32 → Mm → Nat → Nat → Prop} {c9 s9 : Nat}, Ml M3 (Mn M1) = 6 → k < 6 → Rw F (sI M3 (Mn M1) k v) c9 s9 Q → Rw (wb (aI (Mn M1) (nI k) v) fun _ => F) M3 c9 s9 Q := by
    intro k v M3 F Q c9 s9 h1 h2 h3
    rw [Rw_wb, rn_aI (by omega), h1]
    exact ⟨h2, h3⟩
  refine wr6 0 8 M2 l1 (by omega) ?_
  refine wr6 1 2 _ l1 (by omega) ?_
  refine wr6 2 2 _ l1 (by omega) ?_
  refine wr6 3 5 _ l1 (by omega) ?_
  refine wr6 4 100 _ l1 (by omega) ?_
  refine wr6 5 100 _ l1 (by omega) ?_
  have g2 : Gx xO (Mn M1) M1 (sI (sI (sI (sI (sI (sI M2 (Mn M1) 0 8) (Mn M1) 1 2) (Mn M1) 2 2) (Mn M1) 3 5) (Mn M1) 4 100) (Mn M1) 5 100) := (((((g1.sI (fun z => absurd z (Nat.lt_irrefl _))).sI (fun z => absurd z (Nat.lt_irrefl _))).sI (fun z => absurd z (Nat.lt_irrefl _))).sI (fun z => absurd z (Nat.lt_irrefl _))).sI (fun z => absurd z (Nat.lt_irrefl _))).sI (fun z => absurd z (Nat.lt_irrefl _))
  have m6 : isM6 (sI (sI (sI (sI (sI (sI M2 (Mn M1) 0 8) (Mn M1) 1 2) (Mn M1) 2 2) (Mn M1) 3 5) (Mn M1) 4 100) (Mn M1) 5 100) (Mn M1) 43 := by
    refine ⟨by omega, by show Mn M1 < Mn M2; omega, kk1, l1, fun j hj => ?_⟩
    have : j = 0 ∨ j = 1 ∨ j = 2 ∨ j = 3 ∨ j = 4 ∨ j = 5 := by omega
    rcases this with rfl | rfl | rfl | rfl | rfl | rfl <;> simp [Mi_sI] <;> rfl
  have mm2 : Mn (sI (sI (sI (sI (sI (sI M2 (Mn M1) 0 8) (Mn M1) 1 2) (Mn M1) 2 2) (Mn M1) 3 5) (Mn M1) 4 100) (Mn M1) 5 100) = Mn M1 + 1 := mm1
  generalize sI (sI (sI (sI (sI (sI M2 (Mn M1) 0 8) (Mn M1) 1 2) (Mn M1) 2 2) (Mn M1) 3 5) (Mn M1) 4 100) (Mn M1) 5 100 = M3 at g2 m6 mm2
  have k3 := k1.go (c1 := c1 + 1) g2 (by omega)
  have hL : (wK 9 ++ dec2 W ++ wK 10 ++ foldT (fun i => tLine (rs i) W) n).length ≤ 208 := by
    rw [List.length_append]
    have := foldT_len (f := fun i => tLine (rs i) W) (m := 33) (n := n) (fun l _ => by rw [tLine_l]; omega)
    omega
  have ml3 : Ml M3 ab1 = Ml M1 ab1 := g2.ml hb1.1
  refine l181 k3 m6 (by omega) (by omega) (by omega) (fun M4 c4 s4 t4 ab4 vs k4 hvs hv3 ht4 p1 p2 p3 => ?_)
  obtain ⟨q1, q2, -⟩ := pLn_p W rs n
  obtain ⟨q3, q4, -⟩ := pSt_p (pLn W rs n) vs 6
  have hL4 : (wK 9 ++ dec2 W ++ wK 10 ++ foldT (fun i => tLine (rs i) W) n ++ foldT (fun i => tSet i (vs i)) 6).length ≤ 268 := by
    rw [List.length_append]
    have := foldT_len (f := fun i => tSet i (vs i)) (m := 10) (n := 6) (fun l _ => tSet_l _ _)
    omega
  refine l258 (n := n) (Z := lawZ 39 43) (hZ_l 39 43) k4 (by rw [q4, q2]) hn (by omega) (by omega) (by omega) (fun M5 c5 s5 t5 ab5 ls k5 hls ht5 r1 r2 r3 => ?_)
  have pc := dPg_ok (w := W) (n := n) (rs := rs) (vs := vs) (ls := ls) hW hW2 hn hn1 hrs hvs hv3 hls
  have hm5 := k5.mn
  have cap5 := k5.2.2.1.2.2.1.2.1
  obtain ⟨u1, u2⟩ := rm_b (vs 0) (by have : vs 0 ≤ 8 := (hvs 0 (by omega)).2; omega) (hvs 0 (by omega)).1
  refine Rw_up (d := 500) ?_
  have k6 : BL M5 t5 39 40 41 42 a1 43 ab5 (dPg W n rs vs ls) R1 (dTx W n rs vs ls) (c5 + 500) := k5.cup (by omega)
  refine (lMain (c := c5 + 500) k6 pc hW hW2 hn (fun l hl => (hrs l hl).1) hvs hls (by omega) (by omega) (by omega)).mono ?_
  rintro v M6 c6 s6 ⟨y1, y2, y3⟩
  exact ⟨y1, by omega, by omega⟩
theorem lL17 {M : Mm} {c s : Nat} (hCI : CI M) (o : isTo M 0) (hn : Mn M = 39) (hE : Ml M EB = 0) (hc : 39 ≤ c) (hc2 : c ≤ 1000) : Rw (gL_law_L17 38 0) M c s (fun v _ c' s' => v = 1 ∧ c' ≤ c + 602000 ∧ s' ≤ s + 5220000) := by
  unfold gL_law_L17
  rw [Rw_wq, Rw_nO (by omega), hn]
  have e54 : nsl 54 = 13 := rfl
  have e41 : nsl 41 = 4 := rfl
  rw [e54]
  have g1 : Gx xO 39 M (nw M 54 0) := Gx.rf.nw (by omega) (by rw [SB_v]; omega)
  have n1 : Mn (nw M 54 0) = 40 := by show Mn M + 1 = 40; omega
  generalize nw M 54 0 = M1 at g1 n1
  have ci1 := hCI.gx g1 (by omega) (fun _ _ => rfl)
  have o1 := o.gx g1 (by omega) rfl
  have E1 : Ml M1 EB = 0 := by rw [g1.mc (by rw [SB_v, EB_v]; omega)]; exact hE
  rw [Rw_wq]
  refine (lInit (p := 39) (by omega) (by omega)).mono ?_
  rintro - M2 c2 s2 ⟨g2, n2, rfl, rfl, r1, r2, r3, i2, m1, -, s1, m2, z2, l2⟩
  rw [n1] at g2 n2 r1 r2 r3 m1 s1 m2 z2 l2
  have ci2 := ci1.gx g2 (by omega) (fun q hq => x1_f (by omega))
  have o2 := o1.gx g2 (by omega) (x1_f (by omega))
  have E2' : Ml M2 EB = 0 := by rw [g2.mc (by rw [SB_v, EB_v]; omega)]; exact E1
  rw [Rw_wq]
  refine lNext (m := 20) o2 (by omega) (by omega) (by omega) (fun M3 r hr g3 n3 o3 => ?_)
  have ci3 := ci2.gx g3 (by omega) (fun q hq => x1_f (by omega))
  rw [Rw_wb, Rn_pI, show (8 : Int32) = nI 8 from rfl, nI_add]
  obtain ⟨W, hWr⟩ : ∃ W, W = 8 + r := ⟨_, rfl⟩
  rw [← hWr]
  have g4 : Gx (x1 39) (Mn M3) M3 (sI M3 39 0 (nI W)) := Gx.rf.sI (fun _ => by simp [x1])
  have i4 : Mi (sI M3 39 0 (nI W)) 39 0 = nI W := sI_self
  have n4 : Mn (sI M3 39 0 (nI W)) = 43 := by show Mn M3 = 43; omega
  have r4 : Mr (sI M3 39 0 (nI W)) = Mr M3 := rfl
  generalize sI M3 39 0 (nI W) = M4 at g4 i4 n4 r4
  have ci4 := ci3.gx g4 (by omega) (fun q hq => x1_f (by omega))
  have o4 := o3.gx g4 (by omega) (x1_f (by omega))
  have E4 : Ml M4 EB = 0 := by rw [g4.mc (by rw [SB_v, EB_v]; omega), g3.mc (by rw [SB_v, EB_v]; omega)]; exact E2'
  have f24 : ∀ q, q < 43 → q ≠ 38 → q ≠ 39 → Mi M4 q = Mi M2 q ∧ Ml M4 q = Ml M2 q := fun q hq h1 h2 => ⟨by rw [g4.mi (by omega) (x1_f h2), g3.mi (by omega) (x1_f h1)], by rw [g4.ml (by omega), g3.ml (by omega)]⟩
  have rr : Mr M4 39 = Mr M2 39 := by rw [r4, g3.mr (by omega) (x1_f (by omega))]
  have L4 : QP M4 39 (pg0 W) (Ps (pg0 W)) 40 41 42 EB [] := by
    have hEn : EB = 1000000500 := EB_v
    refine ⟨⟨by omega, i4, by rw [rr]; exact r1, by rw [rr]; exact r2, by rw [rr]; exact r3⟩, ⟨by omega, by rw [(f24 40 (by omega) (by omega) (by omega)).2]; exact m1, fun k hk => by rw [(f24 40 (by omega) (by omega) (by omega)).1]; exact s1 k hk⟩, ⟨by omega, by rw [(f24 41 (by omega) (by omega) (by omega)).2]; exact m2, fun k _ => by rw [(f24 41 (by omega) (by omega) (by omega)).1]; exact z2 k⟩, ⟨(l2.gx g3 (by omega) (x1_f (by omega)) (fun z => absurd rfl z)).gx g4 (by omega) (x1_f (by omega)) (fun z => absurd rfl z), rfl, fun l x hx => by simp at hx⟩, by omega, by omega, by omega, by omega, fun y hy => absurd hy List.not_mem_nil⟩
  rw [Rw_wq, Rw_nO (by omega), Rw_wq, Rw_nO (by show Mn M4 + 1 < _; omega), n4, e41]
  have n5' : Mn (nw M4 41 0) = 44 := by show Mn M4 + 1 = 44; omega
  rw [n5']
  have g6 : Gx xO 43 M4 (nw (nw M4 41 0) 41 0) := (Gx.rf.nw (by omega) (by rw [SB_v]; omega)).nw (by omega) (by rw [SB_v]; omega)
  have n6 : Mn (nw (nw M4 41 0) 41 0) = 45 := by show Mn M4 + 1 + 1 = 45; omega
  have i6 : ∀ j, Mi (nw (nw M4 41 0) 41 0) 43 j = 0 ∧ Mi (nw (nw M4 41 0) 41 0) 44 j = 0 := fun j => by
    refine ⟨?_, ?_⟩
    · rw [Mi_nw, if_neg (by omega), Mi_nw, if_pos n4.symm]
    · rw [Mi_nw, if_pos n5'.symm]
  generalize nw (nw M4 41 0) 41 0 = M6 at g6 n6 i6
  have bb6 : BB M6 1 W := ⟨⟨ci4.gx g6 (by omega) (fun _ _ => rfl), o4.gx g6 (by omega) rfl⟩, L4.qb (N1 := 39) (N2 := 43) ⟨by omega, by omega, by omega, by omega, Or.inl rfl, fun y hy => absurd hy List.not_mem_nil⟩ g6 (by omega) (fun _ _ _ => rfl), (i6 3).1, by rw [g6.mc (by rw [SB_v, EB_v]; omega)]; exact E4, by omega⟩
  rw [Rw_wq]
  refine (lSb0 (h := 44) (by omega) (by omega) (i6 1).2 (i6 3).2).mono ?_
  rintro - M7 c7 s7 ⟨k7, g7, n7, rfl, rfl, cap7⟩
  have bb7 := bb6.gx g7 (by omega) (fun q hq => x1_f (by omega))
  rw [n6] at k7 cap7
  have hW8 : 8 ≤ W ∧ W ≤ 27 := by omega
  have xf : ∀ {ab q : Nat}, q < 44 → 44 < ab → x2 44 ab q = false := fun h1 h2 => x2_f (by omega) (by omega)
  rw [Rw_wq]
  refine (lApK k7 (by omega) (j := 9) (by omega) (by omega) (by show 0 + 5 ≤ 1000; omega)).mono ?_
  rintro v8 M8 c8 s8 ⟨ev8, a8, k8, g8, -, p1, p2, p3, p4, -⟩
  rw [ev8]
  have bb8 := bb7.gx g8 (by omega) (fun q hq => xf hq k7.2.1.1)
  have e9 : ([] ++ wK 9 : List Nat) = wK 9 := rfl
  rw [e9] at k8
  have l9 : (wK 9).length = 5 := rfl
  have hm8 := k8.2.1
  rw [Rw_wb, Rn_gI, bb8.2.1.1.2.1, Rw_wq]
  refine (lApN k8 (by omega) (v := W) (by omega) (by omega)).mono ?_
  rintro v9 M9 c9 s9 ⟨ev9, a9, k9, g9, -, q1, q2, q3, q4, -⟩
  rw [ev9]
  have bb9 := bb8.gx g9 (by omega) (fun q hq => xf hq k8.2.1.1)
  have ld := dec2_2 W
  rw [Rw_wq]
  refine (lApK k9 (by omega) (j := 10) (by omega) (by omega) (by rw [List.length_append, l9]; omega)).mono ?_
  rintro v10 M10 c10 s10 ⟨ev10, a10, k10, g10, -, t1, t2, t3, t4, -⟩
  rw [ev10]
  have bb10 := bb9.gx g10 (by have := bb9.2.2.2.2; omega) (fun q hq => xf hq k9.2.1.1)
  have l10 : (wK 10).length = 1 := rfl
  have lh : (wK 9 ++ dec2 W ++ wK 10).length ≤ 10 := by rw [List.length_append, List.length_append, l9, l10]; omega
  have cap10 := k10.2.2.1.2.1
  rw [Rw_wq]
  refine (lToS k10 (by omega)).mono ?_
  rintro st M11 c11 s11 ⟨est, ks11, g11, n11, rfl, rfl⟩
  have bb11 := bb10.gx g11 (by have := bb10.2.2.2.2; omega) (fun _ _ => rfl)
  have m10 := k10.1.1
  rw [Rw_wq, est]
  refine (lSbS (h := 43) (by omega) (by omega) bb11.2.2.1 ks11 (by omega) (by omega) (by omega)).mono ?_
  rintro - M12 c12 s12 ⟨a12, k12, g12, h12, w1, w2, w3, w4, -⟩
  have cap12 := k12.2.2.1.2.1
  have L12 : QP M12 39 (pg0 W) (Ps (pg0 W)) 40 41 42 EB [] := bb11.2.1.qb (N1 := 39) (N2 := 43) ⟨by omega, by omega, by omega, by omega, Or.inl rfl, fun y hy => absurd hy List.not_mem_nil⟩ g12 (by omega) (fun q _ z2 => x1_f (by omega))
  have hEn : EB = 1000000500 := EB_v
  have bl12 : BL M12 1 39 40 41 42 EB 43 a12 (pg0 W) [] (wK 9 ++ dec2 W ++ wK 10) c12 :=
    ⟨⟨bb11.1.1.gx g12 (by omega) (fun q hq => x1_f (by omega)), bb11.1.2.gx g12 (by omega) (x1_f (by omega))⟩, L12, k12, ⟨by omega, by rw [g12.mc (by rw [SB_v, EB_v]; omega)]; exact bb11.2.2.2.1⟩, ⟨by omega, by omega, by omega, by omega⟩, ⟨by omega, by omega, by omega, by omega⟩, ⟨by omega, by omega, by omega, List.nodup_nil⟩, Or.inl rfl, fun y hy => absurd hy List.not_mem_nil⟩
  have hW12 : Mi M12 39 0 = nI W := L12.1.2.1
  rw [Rw_wb, Rn_gI, hW12, Rw_wq, Rw_nA (by omega) (by omega)]
  have g13 : Gx xO (Mn M12) M12 (nw M12 13 W) := Gx.rf.nw (Nat.le_refl _) (by rw [SB_v]; omega)
  have bl13 := bl12.go (c1 := c12 + 1) g13 (by show Mn M12 + 1 + c12 ≤ _; omega)
  have b13 : isBr (nw M12 13 W) (Mn M12) W 0 := br_new
  have hm12 := k12.1.1
  generalize nw M12 13 W = M13 at g13 bl13 b13
  rw [Rw_wq]
  refine lNext (m := 6) bl13.1.2 (by omega) (by omega) (by omega) (fun M14 n hn6 g14 n14 o14 => ?_)
  have bl14 := bl13.nx (c1 := c12 + 1) g14 o14 (by omega)
  have b14 := b13.gx g14 b13.1 (x1_f (by omega))
  rw [Rw_wb, Rn_rtn, nL1, nI_add]
  refine (lTail hW8.1 hW8.2 (n := 1 + n) (by omega) (by omega) bl14 b14 (by omega) (by omega) (by omega)).mono ?_
  rintro v M15 c15 s15 ⟨y1, y2, y3⟩
  exact ⟨y1, by omega, by omega⟩
/-- the whole law -/
theorem lLaw {M0 : Mm} {L : Nat} {xs : Nat → Int32} (h0 : M0 = stX (L, xs) E0) (hL : L ≤ 100000) : Rw (gL_law (SB + 400)) M0 0 0 (fun v _ c' s' => v = 1 ∧ c' ≤ 603000 ∧ s' ≤ 5230000) := by
  have hb := begC_t
  unfold begC at hb
  cases hq : begP E0 with
  | none => rw [hq] at hb; cases hb
  | some q =>
    obtain ⟨⟨⟩, Mz⟩ := q
    rw [hq] at hb
    have hb : ((Mn Mz == 39) && begB (perm Mz)) = true := hb
    rw [Bool.and_eq_true] at hb
    obtain ⟨hz, hb⟩ := hb
    have hz : Mn Mz = 39 := by simpa using hz
    have hc := Cm_begP (L, xs) E0
    rw [hq, ← h0] at hc
    have hc : begP M0 = some ((), stX (L, xs) Mz) := hc
    -- the prefix, step by step
    have e0 : Mn M0 = 0 := by rw [h0]; rfl
    have n55 : nwO 55 M0 = some (Mn M0, nw M0 55 0) := by
      show (if decide (Mn M0 < SB) = true then _ else _) = _
      rw [if_pos (decide_eq_true (by rw [e0, SB_v]; omega))]
    have n7 : ∀ M, Mn M = 1 → nwO 7 M = some (1, nw M 7 0) := fun M hM => by
      show (if decide (Mn M < SB) = true then some (Mn M, _) else _) = _
      rw [if_pos (decide_eq_true (by rw [hM, SB_v]; omega)), hM]
    have hi : fX7_init 1 (nw (sR (nw M0 55 0) 0 0 (some (SB + 400))) 7 0) = some ((), stX (L, xs) Mz) := by
      have := hc
      unfold begP bnd at this
      rw [n55] at this
      simp only [e0] at this
      have hp : pA 0 0 (SB + 400) (nw M0 55 0) = some ((), sR (nw M0 55 0) 0 0 (some (SB + 400))) := rfl
      rw [hp] at this
      simp only at this
      rw [n7 _ (by show Mn M0 + 1 = 1; omega)] at this
      exact this
    have e55 : nsl 55 = 2 := rfl
    have e7 : nsl 7 ≤ 100 := by decide
    unfold gL_law
    rw [Rw_wq, Rw_nO (by omega), e0, e55, Rw_wq]
    unfold gX10_init
    rw [Rw_wb, Rn_pA, Rw_wr, Rw_wq, Rw_nO (by show Mn M0 + 1 < _; omega)]
    have e1 : Mn (sR (nw M0 55 0) 0 0 (some (SB + 400))) = 1 := by show Mn M0 + 1 = 1; omega
    rw [e1, Rw_wq, Rw_cc, Rn_fun hi, Rw_grd]
    refine ⟨by decide, ?_⟩
    have hper : prm (gL_law_L17 38 0) (stX (L, xs) Mz) = gL_law_L17 38 0 (stX (L, xs) (perm Mz)) := by
      unfold prm
      rw [if_pos (show Mn (stX (L, xs) Mz) = 39 from hz)]; rfl
    unfold begB at hb
    simp only [Bool.and_eq_true, beq_iff_eq, List.all_eq_true] at hb
    obtain ⟨⟨⟨⟨⟨⟨⟨⟨⟨⟨⟨⟨⟨b1, b2⟩, b3⟩, b4⟩, b5⟩, b6⟩, b7⟩, b8⟩, b9⟩, b10⟩, b11⟩, b12⟩, b13⟩, b14⟩ := hb
    have hM : Mn (stX (L, xs) (perm Mz)) = 39 := b1
    have ci : CI (stX (L, xs) (perm Mz)) := by
      refine ⟨⟨⟨fun i q hq => b2 q (List.mem_of_getElem? hq), fun i q hq => b3 q (List.mem_of_getElem? hq)⟩, ⟨b4, b5, fun l hl => absurd hl (Nat.not_lt_zero _), fun l hl => b6 l (List.mem_range.mpr hl), fun k hk => b7 k (List.mem_range.mpr hk)⟩, b8, ⟨0, by omega, b9⟩, fun i hi => b10 i (List.mem_range.mpr hi)⟩, b11, by omega⟩
    have ot : isTo (stX (L, xs) (perm Mz)) 0 := ⟨by omega, b12, b13, hL⟩
    have main := lL17 (c := 100) (s := 5000) ci ot hM b14 (by omega) (by omega)
    obtain ⟨v, M', kc, ks, ee, q1, q2, q3⟩ := main
    exact ⟨v, M', kc, ks, hper.trans ee, q1, by omega, by omega⟩
