/-! THE COPY OF A PAGE -/
section CQ
variable {M : Mm} {p : Nat} {P : Pg} {lo : Nat → Nat} {hs hl h a : Nat} {R : List Nat} {c s : Nat}
theorem lCopy (L : QP M p P lo hs hl h a R) (h27 : Pw P ≤ 27) (h7 : PL P ≤ 7) (hp : Pl M c) (hc : c ≤ 850000000) : Rw (gX9_copy p) M c s (fun p' M' c' s' => p' = Mn M ∧ Gx xO (Mn M) M M' ∧ Pl M' c' ∧ Cs M c s M' c' s' 15 (100 + 27 * PL P) ∧ ∃ a' R', QP M' (Mn M) P lo (Mn M + 4) (Mn M + 5) (Mn M + 3) a' R' ∧ (a' = EB ∨ Mn M + 7 ≤ a') ∧ ∀ y, y ∈ R' → Mn M + 7 ≤ y) := by
  have hm := hp.1
  have hpM := L.1.1
  unfold gX9_copy
  rw [Rw_wq, Rw_nO (by omega)]
  have g1 : Gx xO (Mn M) M (nw M 54 0) := Gx.rf.nw (Nat.le_refl _) (by rw [SB_v]; omega)
  have n1 : Mn (nw M 54 0) = Mn M + 1 := rfl
  have p1 : Pl (nw M 54 0) (c + 1) := hp.go g1 (by omega)
  have e54 : nsl 54 = 13 := rfl
  rw [e54]
  have L1 := L.go g1
  generalize nw M 54 0 = M1 at g1 n1 p1 L1
  rw [Rw_wq]
  refine (lInit (p := Mn M) (by omega) (by omega)).mono ?_
  rintro - M2 c2 s2 ⟨g2, n2, rfl, rfl, r1, r2, r3, i2, m1, kk1, s1, m2, z2, l2⟩
  have g2o : Gx xO (Mn M) M1 M2 := g2.mono (by omega) (fun q hq _ => x1_f (by omega))
  have L2 : QP M2 p P lo hs hl h a R := L.go (g1.tr g2o)
  have g02 := g1.tr g2o
  rw [n1] at n2 r1 r2 r3 l2
  rw [Rw_wb, Rn_gI, L2.1.2.1, Rw_wb, Rn_pI]
  have g3 : Gx xO (Mn M) M (sI M2 (Mn M) 0 (nI (Pw P))) := g02.sI (fun z => absurd z (Nat.lt_irrefl _))
  have n3 : Mn (sI M2 (Mn M) 0 (nI (Pw P))) = Mn M + 4 := by show Mn M2 = _; omega
  have w3 : Mi (sI M2 (Mn M) 0 (nI (Pw P))) (Mn M) 0 = nI (Pw P) := sI_self
  have r33 : Mr (sI M2 (Mn M) 0 (nI (Pw P))) (Mn M) 3 = some (Mn M + 3) := r3
  have l3 : isL (sI M2 (Mn M) 0 (nI (Pw P))) (Mn M + 3) EB [] := by
    obtain ⟨a1, a2, a3, a4, a5⟩ := l2
    exact ⟨a1, a2, by rw [Mi_sI, if_neg (by omega)]; exact a3, a4, Or.inl ⟨rfl, rfl⟩⟩
  have L3 := L.go g3
  have p3 : Pl (sI M2 (Mn M) 0 (nI (Pw P))) (c + 1 + 3) := hp.go g3 (by omega)
  generalize sI M2 (Mn M) 0 (nI (Pw P)) = M3 at g3 n3 w3 r33 l3 L3 p3
  rw [Rw_wb, Rn_gA L3.1.2.2.1, Rw_wq]
  refine (lClone11 L3.2.1.1 L3.2.1.2.1 (by omega)).mono ?_
  rintro h9 M4 c4 s4 ⟨rfl, g4, n4, m4, i4, rfl, rfl⟩
  rw [n3] at n4 m4 i4
  rw [Rw_wb, Rn_pA, n3]
  have g4' : Gx xO (Mn M) M (sR M4 (Mn M) 1 (some (Mn M + 4))) := (g3.tr (g4.mono (by omega) (fun _ _ z => z))).sR (fun z => absurd z (Nat.lt_irrefl _))
  have n4' : Mn (sR M4 (Mn M) 1 (some (Mn M + 4))) = Mn M + 5 := n4
  have L4 := L.go g4'
  have p4 : Pl (sR M4 (Mn M) 1 (some (Mn M + 4))) (c + 1 + 3 + 1) := hp.go g4' (by omega)
  have r41 : Mr (sR M4 (Mn M) 1 (some (Mn M + 4))) (Mn M) 1 = some (Mn M + 4) := sR_self
  have r43 : Mr (sR M4 (Mn M) 1 (some (Mn M + 4))) (Mn M) 3 = some (Mn M + 3) := by rw [Mr_sR, if_neg (by omega), g4.mr (by omega) rfl]; exact r33
  have w4 : Mi (sR M4 (Mn M) 1 (some (Mn M + 4))) (Mn M) 0 = nI (Pw P) := by rw [Mi_sR, g4.mi (by omega) rfl]; exact w3
  have m4' : Ml (sR M4 (Mn M) 1 (some (Mn M + 4))) (Mn M + 4) = 6 := m4
  have s4' : ∀ k, k < 6 → Mi (sR M4 (Mn M) 1 (some (Mn M + 4))) (Mn M + 4) k = nI (Pt P k) := fun k hk => by
    rw [Mi_sR, i4]; exact L3.2.1.2.2 k hk
  have l4 : isL (sR M4 (Mn M) 1 (some (Mn M + 4))) (Mn M + 3) EB [] := by
    obtain ⟨a1, a2, a3, a4, a5⟩ := l3.gx g4 (by omega) rfl (fun z => absurd rfl z)
    exact ⟨a1, a2, a3, by rw [Mr_sR, if_neg (by omega)]; exact a4, Or.inl ⟨rfl, rfl⟩⟩
  generalize sR M4 (Mn M) 1 (some (Mn M + 4)) = M5 at g4' n4' L4 p4 r41 r43 w4 m4' s4' l4
  rw [Rw_wb, Rn_gA L4.1.2.2.2.1, Rw_wq]
  refine (lClone11 L4.2.2.1.1 L4.2.2.1.2.1 (by omega)).mono ?_
  rintro h11 M6 c6 s6 ⟨rfl, g6, n6, m6, i6, rfl, rfl⟩
  rw [n4'] at n6 m6 i6
  rw [Rw_wb, Rn_pA, n4']
  have g6' : Gx xO (Mn M) M (sR M6 (Mn M) 2 (some (Mn M + 5))) := (g4'.tr (g6.mono (by omega) (fun _ _ z => z))).sR (fun z => absurd z (Nat.lt_irrefl _))
  have n6' : Mn (sR M6 (Mn M) 2 (some (Mn M + 5))) = Mn M + 6 := n6
  have L6 := L.go g6'
  have p6 : Pl (sR M6 (Mn M) 2 (some (Mn M + 5))) (c + 1 + 3 + 1 + 1) := hp.go g6' (by omega)
  have r61 : Mr (sR M6 (Mn M) 2 (some (Mn M + 5))) (Mn M) 1 = some (Mn M + 4) := by rw [Mr_sR, if_neg (by omega), g6.mr (by omega) rfl]; exact r41
  have r62 : Mr (sR M6 (Mn M) 2 (some (Mn M + 5))) (Mn M) 2 = some (Mn M + 5) := sR_self
  have r63 : Mr (sR M6 (Mn M) 2 (some (Mn M + 5))) (Mn M) 3 = some (Mn M + 3) := by rw [Mr_sR, if_neg (by omega), g6.mr (by omega) rfl]; exact r43
  have w6 : Mi (sR M6 (Mn M) 2 (some (Mn M + 5))) (Mn M) 0 = nI (Pw P) := by rw [Mi_sR, g6.mi (by omega) rfl]; exact w4
  have m61 : Ml (sR M6 (Mn M) 2 (some (Mn M + 5))) (Mn M + 4) = 6 := by rw [Ml_sR, g6.ml (by omega)]; exact m4'
  have s61 : ∀ k, k < 6 → Mi (sR M6 (Mn M) 2 (some (Mn M + 5))) (Mn M + 4) k = nI (Pt P k) := fun k hk => by
    rw [Mi_sR, g6.mi (by omega) rfl]; exact s4' k hk
  have m62 : Ml (sR M6 (Mn M) 2 (some (Mn M + 5))) (Mn M + 5) = 20 := m6
  have s62 : ∀ k, k < 20 → Mi (sR M6 (Mn M) 2 (some (Mn M + 5))) (Mn M + 5) k = nI (lo k) := fun k hk => by
    rw [Mi_sR, i6]; exact L4.2.2.1.2.2 k hk
  have l6 : isL (sR M6 (Mn M) 2 (some (Mn M + 5))) (Mn M + 3) EB [] := by
    obtain ⟨a1, a2, a3, a4, a5⟩ := l4.gx g6 (by omega) rfl (fun z => absurd rfl z)
    exact ⟨a1, a2, a3, by rw [Mr_sR, if_neg (by omega)]; exact a4, Or.inl ⟨rfl, rfl⟩⟩
  generalize sR M6 (Mn M) 2 (some (Mn M + 5)) = M7 at g6' n6' L6 p6 r61 r62 r63 w6 m61 s61 m62 s62 l6
  rw [Rw_wb, Rn_gA L6.1.2.2.2.2, Rw_wq]
  refine (itNew L6.2.2.2.1.1.1 (by omega)).mono ?_
  rintro it M8 c8 s8 ⟨rfl, n8, rfl, rfl, g8, it8⟩
  rw [n6'] at n8 it8
  rw [n6']
  have g8' : Gx xO (Mn M) M M8 := g6'.tr (g8.mono (by omega) (fun _ _ z => z))
  have p8 : Pl M8 (c + 1 + 3 + 1 + 1 + 1) := hp.go g8' (by omega)
  have hRl := L.2.2.2.1.2.1
  have hhM := L.2.2.2.1.1.1
  have hEn : EB = 1000000500 := EB_v
  refine rw_loopv (F := fun n (i : Nat) => gX9_copy_L52 n (Mn M) (Mn M + 6)) (fun i M' c' s' => i ≤ PL P ∧ Gx xO (Mn M) M M' ∧ Gx (fun q => decide (q = Mn M + 3) || decide (q = Mn M + 6)) (Mn M + 7) M8 M' ∧ isIt M' (Mn M + 6) h i ∧ Pl M' c' ∧ Mn M' + c ≤ Mn M + c' ∧ c ≤ c' ∧ c' ≤ c + 7 + i + cpC i ∧ s' ≤ s + 82 + 27 * i + cpS i ∧ ∃ a' G, isL M' (Mn M + 3) a' G ∧ G.length = i ∧ (a' = EB ∨ Mn M + 7 ≤ a') ∧ (∀ y, y ∈ G → Mn M + 7 ≤ y) ∧ ∀ (l y : Nat), G[l]? = some y → isBr M' y (Pw P) (Pr P l)) (fun i => PL P - i) ?_ fu 0 M8 _ _ (by unfold fu; omega) ⟨Nat.zero_le _, g8', Gx.rf, it8, p8, by omega, by omega, by show _ ≤ c + 7 + 0 + 0; omega, by show _ ≤ s + 82 + 27 * 0 + 0; omega, EB, [], l6.gx g8 (by omega) rfl (fun z => absurd rfl z), rfl, Or.inl rfl, fun y hy => (List.not_mem_nil hy).elim, fun l y hy => by simp at hy⟩
  rintro n i M9 c9 s9 ⟨hi, g9, x9, it9, p9, f1, f2, f3, f4, a9, G9, l9, hG9, ha9, hy9, hb9⟩ ih
  have L9 := L.go g9
  have hm9 := p9.1
  have hn9 : Mn M + 7 ≤ Mn M9 := by have := x9.mn; omega
  have C1 := cpC_le i
  show Rw (gX9_copy_L52 (n + 1) (Mn M) (Mn M + 6)) _ _ _ _
  unfold gX9_copy_L52
  rw [Rw_wq]
  by_cases hf : i < PL P
  · obtain ⟨y, hy⟩ := gt_some R (show i < R.length by omega)
    rw [itMore it9 L9.2.2.2.1.1 (by omega)]
    refine Rw_no (by decide) ?_
    rw [Rw_wq]
    refine itNext it9 L9.2.2.2.1.1 hy (by omega) (fun Ma ga na ita => ?_)
    have ga0 : Gx xO (Mn M) M Ma := g9.tr (ga.mono (by omega) (fun q hq _ => x1_f (by omega)))
    have La := L.go ga0
    have ba := La.2.2.2.1.2.2 i y hy
    have r3a : Mr Ma (Mn M) 3 = some (Mn M + 3) := by
      rw [ga.mr (by omega) (x1_f (by omega)), x9.mr (by omega) (by simp), g8.mr (by omega) rfl]; exact r63
    have pa : Pl Ma c9 := p9.go ga (by omega)
    rw [Rw_wb, Rn_ckK ba.1 ba.2.1, Rw_wb, Rn_gA r3a, Rw_wq]
    refine (lClone ba (by omega)).mono ?_
    rintro z Mb cb sb ⟨rfl, gb, nb, bb, rfl, rfl⟩
    have pb : Pl Mb (c9 + 1) := pa.go gb (by omega)
    have l9b : isL Mb (Mn M + 3) a9 G9 := (l9.gx ga l9.1 (x1_f (by omega)) (fun z => ⟨l9.lt z, x1_f (by omega)⟩)).gx gb (by omega) rfl (fun z => ⟨by have := l9.lt z; omega, rfl⟩)
    rw [Rw_wq]
    refine (lAdd l9b pb.2 (by omega) (by omega) (Mn Ma)).mono ?_
    rintro v Mc cc sc ⟨-, gc, e1, e2, e3, e4, ac, lc, hc1, hc2⟩
    rw [hG9] at e1 e2
    have C2 := cpC_le (i + 1)
    have hX : ∀ q, q < Mn M + 7 → (fun q => decide (q = Mn M + 3) || decide (q = Mn M + 6)) q = false → q ≠ Mn M + 3 ∧ q ≠ Mn M + 6 := fun q _ z => by simpa using z
    have x9c : Gx (fun q => decide (q = Mn M + 3) || decide (q = Mn M + 6)) (Mn M + 7) M8 Mc := by
      refine x9.tr ((ga.mono (by omega) (fun q hq z => x1_f (hX q hq z).2)).tr ((gb.mono (by omega) (fun _ _ _ => rfl)).tr (gc.mono (by omega) (fun q hq z => x2_f (hX q hq z).1 (by omega)))))
    have g0c : Gx xO (Mn M) M Mc := ga0.tr ((gb.mono (by omega) (fun _ _ z => z)).tr (gc.mono (by omega) (fun q hq _ => x2_f (by omega) (by omega))))
    have hkind : ∀ y, isBr Mb y (Pw P) 0 ∨ Mk Mb y = 13 → y < Mn Mb → y ≠ Mn M + 3 ∧ y ≠ a9 := by
      intro y hy1 hy2
      have hk : Mk Mb y = 13 := hy1.elim (fun z => z.2.1) id
      refine ⟨fun e => (by rw [e, l9b.2.1] at hk; cases hk), fun e => ?_⟩
      rcases ha9 with w | w
      · omega
      · obtain ⟨-, -, -, -, ⟨w1, -⟩ | ⟨-, -, w2, -⟩⟩ := l9b
        · omega
        · rw [e, w2] at hk; cases hk
    refine ih (i + 1) Mc cc sc ⟨hf, g0c, x9c, ?_, pb.go gc e3, by omega, by omega, by omega, by omega, ac, G9 ++ [Mn Ma], lc, by rw [List.length_append, hG9]; rfl, ?_, fun y hy => ?_, fun l y hy => ?_⟩ (by omega)
    · exact (ita.gx gb ita.1 rfl (by omega) rfl).gx gc (by have := ita.1; omega) (x2_f (by omega) (by omega)) (by omega) (x2_f (by omega) (by omega))
    · rcases hc2 with w | w
      · rw [w.1]; exact ha9
      · exact Or.inr (by omega)
    · rcases List.mem_append.mp hy with w | w
      · exact hy9 y w
      · have : y = Mn Ma := by simpa using w
        omega
    · by_cases q : l < G9.length
      · rw [List.getElem?_append_left q] at hy
        have b1 := hb9 l y hy
        have hyM := hy9 y (List.mem_of_getElem? hy)
        have b2 := (b1.gx ga b1.1 (x1_f (by omega))).gx gb (by have := b1.1; omega) rfl
        obtain ⟨u1, u2⟩ := hkind y (Or.inr b2.2.1) b2.1
        exact b2.gx gc b2.1 (x2_f u1 u2)
      · have hi' : l < (G9 ++ [Mn Ma]).length := (List.getElem?_eq_some_iff.mp hy).1
        rw [List.length_append] at hi'
        have e1 : ([Mn Ma] : List Nat).length = 1 := rfl
        have : l = G9.length := by omega
        subst this
        rw [List.getElem?_append_right (Nat.le_refl _), Nat.sub_self] at hy
        have hy : some (Mn Ma) = some y := hy
        cases hy
        obtain ⟨u1, u2⟩ := hkind (Mn Ma) (Or.inr bb.2.1) bb.1
        rw [hG9]
        exact bb.gx gc bb.1 (x2_f u1 u2)
  · have : i = PL P := by omega
    subst this
    rw [itEnd it9 L9.2.2.2.1.1 (by omega)]
    refine Rw_yes rfl ?_
    rw [Rw_wr]
    have hC : cpC (PL P) ≤ 1 := by
      unfold cpC; repeat' split
      all_goals omega
    have hS : cpS (PL P) ≤ 10 := by
      unfold cpS; repeat' split
      all_goals omega
    have kp : ∀ q, q < Mn M + 7 → q ≠ Mn M + 3 → q ≠ Mn M + 6 → Mi M9 q = Mi M8 q ∧ Mr M9 q = Mr M8 q ∧ (q < Mn M8 → Ml M9 q = Ml M8 q) := by
      intro q q1 q2 q3
      have z : (fun q => decide (q = Mn M + 3) || decide (q = Mn M + 6)) q = false := by simp [q2, q3]
      exact ⟨x9.mi q1 z, x9.mr q1 z, fun w => x9.ml w⟩
    have k8 : ∀ q, q < Mn M7 → Mi M8 q = Mi M7 q ∧ Mr M8 q = Mr M7 q ∧ Ml M8 q = Ml M7 q := fun q hq => ⟨g8.mi hq rfl, g8.mr hq rfl, g8.ml hq⟩
    obtain ⟨t1, t2, t3⟩ := kp (Mn M) (by omega) (by omega) (by omega)
    obtain ⟨t4, t5, t6⟩ := k8 (Mn M) (by omega)
    obtain ⟨u1, u2, u3⟩ := kp (Mn M + 4) (by omega) (by omega) (by omega)
    obtain ⟨u4, u5, u6⟩ := k8 (Mn M + 4) (by omega)
    obtain ⟨v1, v2, v3⟩ := kp (Mn M + 5) (by omega) (by omega) (by omega)
    obtain ⟨v4, v5, v6⟩ := k8 (Mn M + 5) (by omega)
    refine ⟨rfl, g9, p9, ⟨by omega, by omega, by omega, by omega⟩, a9, G9, ⟨⟨by omega, by rw [t1, t4]; exact w6, by rw [t2, t5]; exact r61, by rw [t2, t5]; exact r62, by rw [t2, t5]; exact r63⟩, ⟨by omega, by rw [u3 (by omega), u6]; exact m61, fun k hk => by rw [u1, u4]; exact s61 k hk⟩, ⟨by omega, by rw [v3 (by omega), v6]; exact m62, fun k hk => by rw [v1, v4]; exact s62 k hk⟩, ⟨l9, hG9, hb9⟩, by omega, by omega, by omega, by omega, fun y hy => by have := hy9 y hy; omega⟩, ha9, hy9⟩
end CQ
