/-! A SENDING, whole -/
section SI
variable {M : Mm} {p : Nat} {P : Pg} {lo b : Nat → Nat} {hs hl h a : Nat} {R : List Nat} {c s tu tv : Nat}
theorem zRow {M1 : Mm} {x n : Nat} (hr : Mi M1 x = fun _ => 0) : ∀ l, l < n → Mi M1 x l = nI 0 := fun l _ => by rw [hr]; rfl
theorem lSend (L : QP M p P lo hs hl h a R) (hP : okP P b) (hlo : ∀ l, l < 20 → lo l ≤ 5) (hp : Pl M c) (hc : c ≤ 850000000) : Rw (gX9_send p) M c s (fun _ M' c' s' => ∃ ag x G, SK M M' (Mn M) p ∧ QS M' (Mn M) p P (sndA P lo) ag x G ∧ Pl M' c' ∧ Mn M' + c ≤ Mn M + c' ∧ c ≤ c' ∧ sOk P lo b (sndA P lo) (PL P) (c + 13) (s + 13 + 31 * PL P) tu tv c' s') := by
  have h7 := hP.2.2.1
  have h27 := hP.2.1
  have hm := hp.1
  have hpM := L.1.1
  unfold gX9_send
  rw [Rw_wb, Rn_gA L.1.2.2.2.2, Rw_wq, lSize L.2.2.2.1.1, L.2.2.2.1.2.1]
  refine lNew (by omega) (fun M1 g1 n1 l1 => ?_)
  have k1 : SK M M1 (Mn M) p := SK.rf.go g1 (Nat.le_refl _) hpM
  have p1 := hp.go g1 (c' := c + 1) (by omega)
  rw [Rw_wb, Rn_pA]
  have k2 := k1.sRp (k := 4) (v := some (Mn M)) (by omega)
  have l2 : isL (sR M1 p 4 (some (Mn M))) (Mn M) EB [] := by
    obtain ⟨a1, a2, a3, a4, a5⟩ := l1
    exact ⟨a1, a2, a3, by rw [Mr_sR, if_neg (by omega)]; exact a4, Or.inl ⟨rfl, rfl⟩⟩
  have r4 : Mr (sR M1 p 4 (some (Mn M))) p 4 = some (Mn M) := sR_self
  have p2 : Pl (sR M1 p 4 (some (Mn M))) (c + 1) := p1
  have n2 : Mn (sR M1 p 4 (some (Mn M))) = Mn M + 1 := n1
  generalize sR M1 p 4 (some (Mn M)) = M2 at k2 l2 r4 p2 n2
  clear k1 l1 p1 g1 n1
  have hEn : EB = 1000000500 := EB_v
  refine rw_loopv (F := fun n (k : Nat) => gX9_send_L21 n p (nI (PL P)) (nI k)) (fun k M' c' s' => k ≤ PL P ∧ SK M M' (Mn M) p ∧ Mr M' p 4 = some (Mn M) ∧ Pl M' c' ∧ Mn M' + c ≤ Mn M + c' ∧ c + 1 ≤ c' ∧ c' ≤ c + 1 + cpC k + k ∧ s' ≤ s + 3 + cpS k + 27 * k ∧ ∃ a' G, isL M' (Mn M) a' G ∧ G.length = k ∧ (a' = EB ∨ Mn M < a') ∧ ∀ y, y ∈ G → isBr M' y (Pw P) 0 ∧ Mn M < y) (fun k => PL P - k) ?_ fu 0 M2 (c + 1) (s + 3) (by unfold fu; omega) ⟨Nat.zero_le _, k2, r4, p2, by omega, by omega, Nat.le_refl _, Nat.le_refl _, EB, [], l2, rfl, Or.inl rfl, fun y hy => (List.not_mem_nil hy).elim⟩
  rintro n k M3 c3 s3 ⟨hk, k3, r3, p3, f1, f2, f3, f4, a3, G3, l3, hG, ha3, hb3⟩ ih
  have hm3 := p3.1
  have hNM := k3.1.mn
  have C1 := cpC_le k
  have L3 := k3.qp L rfl
  show Rw (gX9_send_L21 (n + 1) p (nI (PL P)) (nI k)) _ _ _ _
  unfold gX9_send_L21
  refine Rw_cs (d := PL P ≤ k) (nle (by omega) (by omega)) (fun z => ?_) (fun z => ?_)
  · have hkn : k = PL P := by omega
    subst hkn
    have hC : cpC (PL P) ≤ 1 := by unfold cpC; repeat' split
                                   all_goals omega
    have hS : cpS (PL P) ≤ 10 := by unfold cpS; repeat' split
                                    all_goals omega
    -- four rows of numbers
    have arr : ∀ (M4 : Mm) (c4 s4 kk : Nat), SK M M4 (Mn M) p → Pl M4 c4 → c4 ≤ 860000000 → 4 < kk → ∀ {F : Mm → Option (Unit × Mm × Nat × Nat)} {Q : Unit → Mm → Nat → Nat → Prop}, (∀ M5, SK M M5 (Mn M) p → Pl M5 (c4 + 1) → Mn M5 = Mn M4 + 1 → Gx (x1 p) (Mn M4) M4 M5 → (∀ j, Mi M5 p j = Mi M4 p j) → (∀ j, j ≠ kk → Mr M5 p j = Mr M4 p j) → Mr M5 p kk = some (Mn M4) → Ml M5 (Mn M4) = PL P → Mi M5 (Mn M4) = (fun _ => 0) → Rw F M5 (c4 + 1) (s4 + PL P) Q) → Rw (wq (nA 11 (nI (PL P))) fun h50 => wb (pA p kk h50) fun _ => F) M4 c4 s4 Q := by
      intro M4 c4 s4 kk g4 p4 hc4 hkk F Q kF
      have hm4 := p4.1
      have hN4 := g4.1.mn
      rw [Rw_wq, Rw_nA (by omega) (by omega), Rw_wb, Rn_pA]
      have gg : Gx xO (Mn M4) M4 (nw M4 11 (PL P)) := Gx.rf.nw (Nat.le_refl _) (by rw [SB_v]; omega)
      have hne : p ≠ Mn M4 := by omega
      refine kF _ ((g4.go gg hN4 hpM).sRp (by omega)) (show Pl (nw M4 11 (PL P)) (c4 + 1) from p4.go gg (by show Mn M4 + 1 + _ ≤ _; omega)) rfl ((gg.mono (Nat.le_refl _) (fun _ _ _ => rfl)).sR (fun _ => by simp [x1])) (fun j => ?_) (fun j hj => ?_) sR_self ?_ ?_
      · rw [Mi_sR, Mi_nw, if_neg hne]
      · rw [Mr_sR, if_neg (fun z => hj z.2), Mr_nw, if_neg hne]
      · rw [Ml_sR, Ml_nw, if_pos rfl]
      · rw [Mi_sR]; funext j; rw [Mi_nw, if_pos rfl]
    refine arr M3 c3 s3 5 k3 p3 (by omega) (by omega) (fun M5 g5 p5 n5 x5 i5 o5 r5 m5 z5 => ?_)
    refine arr M5 _ _ 6 g5 p5 (by omega) (by omega) (fun M6 g6 p6 n6 x6 i6 o6 r6 m6 z6 => ?_)
    refine arr M6 _ _ 7 g6 p6 (by omega) (by omega) (fun M7 g7 p7 n7 x7 i7 o7 r7 m7 z7 => ?_)
    refine arr M7 _ _ 8 g7 p7 (by omega) (by omega) (fun M8 g8 p8 n8 x8 i8 o8 r8 m8 z8 => ?_)
    rw [Rw_wb, Rn_pI, Rw_wb, Rn_pI, Rw_wb, Rn_pI, Rw_wb, Rn_pI]
    have x57 : Gx (x1 p) (Mn M3) M3 M8 := ((x5.tr (x6.mono (by omega) (fun _ _ z => z))).tr (x7.mono (by omega) (fun _ _ z => z))).tr (x8.mono (by omega) (fun _ _ z => z))
    have g9 := (((g8.sIp (k := 9) (v := 0) (by omega)).sIp (k := 10) (v := 0) (by omega)).sIp (k := 11) (v := 0) (by omega)).sIp (k := 12) (v := 0) (by omega)
    have x9 : Gx (x1 p) (Mn M3) M3 (sI (sI (sI (sI M8 p 9 0) p 10 0) p 11 0) p 12 0) := (((x57.sI (fun _ => by simp [x1])).sI (fun _ => by simp [x1])).sI (fun _ => by simp [x1])).sI (fun _ => by simp [x1])
    have i9 : Mi (sI (sI (sI (sI M8 p 9 0) p 10 0) p 11 0) p 12 0) p 9 = nI 0 ∧ Mi (sI (sI (sI (sI M8 p 9 0) p 10 0) p 11 0) p 12 0) p 10 = nI 0 ∧ Mi (sI (sI (sI (sI M8 p 9 0) p 10 0) p 11 0) p 12 0) p 11 = nI 0 ∧ Mi (sI (sI (sI (sI M8 p 9 0) p 10 0) p 11 0) p 12 0) p 12 = nI 0 := by
      refine ⟨?_, ?_, ?_, sI_self⟩
      · rw [Mi_sI, if_neg (by omega), Mi_sI, if_neg (by omega), Mi_sI, if_neg (by omega), sI_self]; rfl
      · rw [Mi_sI, if_neg (by omega), Mi_sI, if_neg (by omega), sI_self]; rfl
      · rw [Mi_sI, if_neg (by omega), sI_self]; rfl
    have iy : ∀ y, y ≠ p → Mi (sI (sI (sI (sI M8 p 9 0) p 10 0) p 11 0) p 12 0) y = Mi M8 y := fun y hy => (up2_ne hy).trans ((up2_ne hy).trans ((up2_ne hy).trans (up2_ne hy)))
    have hM5 : Mn M5 = Mn M3 + 1 := n5
    have hM6 : Mn M6 = Mn M3 + 2 := by omega
    have hM7 : Mn M7 = Mn M3 + 3 := by omega
    have hM8 : Mn M8 = Mn M3 + 4 := by omega
    have y0 : Mi M8 (Mn M3) = fun _ => 0 := by
      rw [x8.mi (by omega) (x1_f (by omega)), x7.mi (by omega) (x1_f (by omega)), x6.mi (by omega) (x1_f (by omega))]; exact z5
    have y1 : Mi M8 (Mn M3 + 1) = fun _ => 0 := by
      rw [← hM5, x8.mi (by omega) (x1_f (by omega)), x7.mi (by omega) (x1_f (by omega))]; exact z6
    have y2 : Mi M8 (Mn M3 + 2) = fun _ => 0 := by
      rw [← hM6, x8.mi (by omega) (x1_f (by omega))]; exact z7
    have y3 : Mi M8 (Mn M3 + 3) = fun _ => 0 := by rw [← hM7]; exact z8
    have w0 : Ml M8 (Mn M3) = PL P := by
      rw [x8.ml (by omega), x7.ml (by omega), x6.ml (by omega)]; exact m5
    have w1 : Ml M8 (Mn M3 + 1) = PL P := by
      rw [← hM5, x8.ml (by omega), x7.ml (by omega)]; exact m6
    have w2 : Ml M8 (Mn M3 + 2) = PL P := by
      rw [← hM6, x8.ml (by omega)]; exact m7
    have w3 : Ml M8 (Mn M3 + 3) = PL P := by rw [← hM7]; exact m8
    have q : QS (sI (sI (sI (sI M8 p 9 0) p 10 0) p 11 0) p 12 0) (Mn M) p P zO a3 (Mn M3) G3 := by
      refine ⟨⟨?_, l3.gx x9 l3.1 (x1_f (by omega)) (fun z => ⟨l3.lt z, x1_f (by omega)⟩), hG, fun l y hy => ?_⟩, ⟨?_, ?_, ?_, ?_⟩, ⟨by show Mn M3 + 4 ≤ Mn M8; omega, w0, w1, w2, w3⟩, fun l hl => ?_, i9, hpM, l3.1, ?_, fun y hy => ?_⟩
      · show Mr M8 p 4 = _
        rw [o8 4 (by omega), o7 4 (by omega), o6 4 (by omega), o5 4 (by omega)]; exact r3
      · obtain ⟨v1, v2⟩ := hb3 y (List.mem_of_getElem? hy)
        exact v1.gx x9 v1.1 (x1_f (by omega))
      · show Mr M8 p 5 = _
        rw [o8 5 (by omega), o7 5 (by omega), o6 5 (by omega)]; exact r5
      · show Mr M8 p 6 = _
        rw [o8 6 (by omega), o7 6 (by omega), ← hM5]; exact r6
      · show Mr M8 p 7 = _
        rw [o8 7 (by omega), ← hM6]; exact r7
      · show Mr M8 p 8 = _
        rw [← hM7]; exact r8
      · rw [iy _ (by omega), iy _ (by omega), iy _ (by omega), iy _ (by omega), y0, y1, y2, y3]
        exact ⟨rfl, rfl, rfl, rfl⟩
      · by_cases z : a3 = EB
        · exact Or.inl z
        · have := l3.lt z
          exact Or.inr (by omega)
      · obtain ⟨v1, v2⟩ := hb3 y hy
        exact ⟨v2, Or.inl v1.1⟩
    have p9 : Pl (sI (sI (sI (sI M8 p 9 0) p 10 0) p 11 0) p 12 0) (c3 + 1 + 1 + 1 + 1) := p8
    have n9 : Mn (sI (sI (sI (sI M8 p 9 0) p 10 0) p 11 0) p 12 0) = Mn M3 + 4 := hM8
    generalize sI (sI (sI (sI M8 p 9 0) p 10 0) p 11 0) p 12 0 = M9 at g9 q p9 n9
    refine (lLoop (tu := tu) (tv := tv) L rfl hP hlo q g9 p9 (by omega)).mono ?_
    rintro - M' c' s' ⟨G', v1, v2, v3, v4, v5, v6, v7, v8, v9⟩
    refine ⟨a3, Mn M3, G', v1, v2, v3, by omega, by omega, v6, v7, by omega, ?_⟩
    rcases v9 with ⟨u1, u2, u3⟩ | ⟨u1, u2, u3⟩
    · exact Or.inl ⟨u1, by omega, by omega⟩
    · exact Or.inr ⟨u1, by omega, by omega⟩
  · rw [Rw_wb, Rn_gA r3, Rw_wb, Rn_gI, L3.1.2.1, Rw_wq, Rw_nA (by omega) (by omega)]
    have gg : Gx xO (Mn M3) M3 (nw M3 13 (Pw P)) := Gx.rf.nw (Nat.le_refl _) (by rw [SB_v]; omega)
    have k4 := k3.go gg hNM hpM
    have p4 : Pl (nw M3 13 (Pw P)) (c3 + 1) := p3.go gg (by show Mn M3 + 1 + _ ≤ _; omega)
    have n4 : Mn (nw M3 13 (Pw P)) = Mn M3 + 1 := rfl
    have l4 : isL (nw M3 13 (Pw P)) (Mn M) a3 G3 := l3.gx gg l3.1 rfl (fun z => ⟨l3.lt z, rfl⟩)
    have b4 : isBr (nw M3 13 (Pw P)) (Mn M3) (Pw P) 0 := ⟨by omega, by rw [Mk_nw, if_pos rfl], by rw [Ml_nw, if_pos rfl], fun j _ => by rw [Mi_nw, if_pos rfl, Nat.zero_testBit]; rfl⟩
    have hb4 : ∀ y, y ∈ G3 → isBr (nw M3 13 (Pw P)) y (Pw P) 0 ∧ Mn M < y := fun y hy => ⟨(hb3 y hy).1.gx gg (hb3 y hy).1.1 rfl, (hb3 y hy).2⟩
    have r4' : Mr (nw M3 13 (Pw P)) p 4 = some (Mn M) := by rw [Mr_nw, if_neg (by omega)]; exact r3
    have hl3 := l3.1
    generalize nw M3 13 (Pw P) = M4 at gg k4 p4 n4 l4 b4 hb4 r4'
    rw [Rw_wq]
    refine (lAdd l4 p4.2 (by omega) (by omega) (Mn M3)).mono ?_
    rintro v M5 c5 s5 ⟨-, g5, e1, e2, e3, e4, a5, l5, h5, h5'⟩
    rw [hG] at e1 e2
    have hne : p ≠ a3 := by omega
    have r5 : Mr M5 p = Mr M4 p := g5.mr (by omega) (x2_f (by omega) hne)
    have i5 : Mi M5 p = Mi M4 p := g5.mi (by omega) (x2_f (by omega) hne)
    have k5 : SK M M5 (Mn M) p := by
      obtain ⟨u1, u2, u3, u4, u5⟩ := k4
      refine ⟨u1.tr (g5.mono (by have := u1.mn; omega) (fun q hq _ => x2_f (by omega) (by omega))), by rw [i5]; exact u2, by rw [r5]; exact u3, by rw [r5]; exact u4, by rw [r5]; exact u5⟩
    have C2 := cpC_le (k + 1)
    rw [nL1, nI_add]
    refine ih (k + 1) M5 c5 s5 ⟨by omega, k5, by rw [r5]; exact r4', p4.go g5 e3, by omega, by omega, by omega, by omega, a5, G3 ++ [Mn M3], l5, by rw [List.length_append, hG]; rfl, ?_, fun y hy => ?_⟩ (by omega)
    · rcases h5' with w | w
      · rw [w.1]; exact ha3
      · exact Or.inr (by omega)
    · have ka : ∀ y, isBr M4 y (Pw P) 0 → Mn M < y → isBr M5 y (Pw P) 0 := by
        intro y by4 hy
        refine by4.gx g5 by4.1 (x2_f (by omega) (fun e => ?_))
        rcases ha3 with w | w
        · have := by4.1; omega
        · obtain ⟨-, -, -, -, ⟨w1, -⟩ | ⟨-, -, w2, -⟩⟩ := l4
          · have := by4.1; omega
          · have := by4.2.1; rw [e, w2] at this; cases this
      rcases List.mem_append.mp hy with w | w
      · exact ⟨ka y (hb4 y w).1 (hb4 y w).2, (hb4 y w).2⟩
      · have : y = Mn M3 := by simpa using w
        subst this
        exact ⟨ka _ b4 (by omega), by omega⟩
end SI
