/-! A PAGE OF ITS OWN, AND ITS COPY -/
def st0 (k : Nat) : Nat := [4, 0, 0, 0, 8, 16].getD k 0
theorem lInit {M : Mm} {p c s : Nat} (hp : p < Mn M) (hn : Mn M + 3 < 1000000000) : Rw (gX9_init p) M c s (fun _ M' c' s' => Gx (x1 p) (Mn M) M M' ∧ Mn M' = Mn M + 3 ∧ c' = c + 3 ∧ s' = s + 29 ∧ Mr M' p 1 = some (Mn M) ∧ Mr M' p 2 = some (Mn M + 1) ∧ Mr M' p 3 = some (Mn M + 2) ∧ Mi M' p = Mi M p ∧ Ml M' (Mn M) = 6 ∧ Mk M' (Mn M) = 11 ∧ (∀ k, k < 6 → Mi M' (Mn M) k = nI (st0 k)) ∧ Ml M' (Mn M + 1) = 20 ∧ (∀ k, Mi M' (Mn M + 1) k = nI 0) ∧ isL M' (Mn M + 2) EB []) := by
  unfold gX9_init
  rw [Rw_wq, show (6 : Int32) = nI 6 from rfl, Rw_nA (by omega) (by omega)]
  have g1 : Gx (x1 p) (Mn M) M (nw M 11 6) := Gx.rf.nw (Nat.le_refl _) (by rw [SB_v]; omega)
  have n1 : Mn (nw M 11 6) = Mn M + 1 := rfl
  have m1 : Ml (nw M 11 6) (Mn M) = 6 := by rw [Ml_nw, if_pos rfl]
  have kk1 : Mk (nw M 11 6) (Mn M) = 11 := by rw [Mk_nw, if_pos rfl]
  have i1 : Mi (nw M 11 6) p = Mi M p := by funext j; rw [Mi_nw, if_neg (by omega)]
  generalize nw M 11 6 = M1 at g1 n1 m1 kk1 i1
  have wr6 : ∀ (k : Nat) (v : Int32) (M2 : Mm) {F : Mm → Option (Unit × Mm × Nat × Nat)} {Q : Unit → Mm → Nat → Nat → Prop} {c9 s9 : Nat}, Ml M2 (Mn M) = 6 → k < 6 → Rw F (sI M2 (Mn M) k v) c9 s9 Q → Rw (wb (aI (Mn M) (nI k) v) fun _ => F) M2 c9 s9 Q := by
    intro k v M2 F Q c9 s9 h1 h2 h3
    rw [Rw_wb, rn_aI (by omega), h1]
    exact ⟨h2, h3⟩
  refine wr6 0 4 M1 m1 (by omega) ?_
  refine wr6 1 0 _ m1 (by omega) ?_
  refine wr6 2 0 _ m1 (by omega) ?_
  refine wr6 3 0 _ m1 (by omega) ?_
  refine wr6 4 8 _ m1 (by omega) ?_
  refine wr6 5 16 _ m1 (by omega) ?_
  have g2 : Gx (x1 p) (Mn M) M (sI (sI (sI (sI (sI (sI M1 (Mn M) 0 4) (Mn M) 1 0) (Mn M) 2 0) (Mn M) 3 0) (Mn M) 4 8) (Mn M) 5 16) := (((((g1.sI (fun z => absurd z (Nat.lt_irrefl _))).sI (fun z => absurd z (Nat.lt_irrefl _))).sI (fun z => absurd z (Nat.lt_irrefl _))).sI (fun z => absurd z (Nat.lt_irrefl _))).sI (fun z => absurd z (Nat.lt_irrefl _))).sI (fun z => absurd z (Nat.lt_irrefl _))
  have s2 : ∀ k, k < 6 → Mi (sI (sI (sI (sI (sI (sI M1 (Mn M) 0 4) (Mn M) 1 0) (Mn M) 2 0) (Mn M) 3 0) (Mn M) 4 8) (Mn M) 5 16) (Mn M) k = nI (st0 k) := by
    intro k hk
    have : k = 0 ∨ k = 1 ∨ k = 2 ∨ k = 3 ∨ k = 4 ∨ k = 5 := by omega
    rcases this with rfl | rfl | rfl | rfl | rfl | rfl <;> simp [Mi_sI] <;> rfl
  have n2 : Mn (sI (sI (sI (sI (sI (sI M1 (Mn M) 0 4) (Mn M) 1 0) (Mn M) 2 0) (Mn M) 3 0) (Mn M) 4 8) (Mn M) 5 16) = Mn M + 1 := n1
  have m2 : Ml (sI (sI (sI (sI (sI (sI M1 (Mn M) 0 4) (Mn M) 1 0) (Mn M) 2 0) (Mn M) 3 0) (Mn M) 4 8) (Mn M) 5 16) (Mn M) = 6 := m1
  have kk2 : Mk (sI (sI (sI (sI (sI (sI M1 (Mn M) 0 4) (Mn M) 1 0) (Mn M) 2 0) (Mn M) 3 0) (Mn M) 4 8) (Mn M) 5 16) (Mn M) = 11 := kk1
  have i2 : Mi (sI (sI (sI (sI (sI (sI M1 (Mn M) 0 4) (Mn M) 1 0) (Mn M) 2 0) (Mn M) 3 0) (Mn M) 4 8) (Mn M) 5 16) p = Mi M p := by
    rw [← i1]
    have z : ∀ (X : Mm) k v, Mi (sI X (Mn M) k v) p = Mi X p := fun X k v => up2_ne (by omega)
    rw [z, z, z, z, z, z]
  generalize sI (sI (sI (sI (sI (sI M1 (Mn M) 0 4) (Mn M) 1 0) (Mn M) 2 0) (Mn M) 3 0) (Mn M) 4 8) (Mn M) 5 16 = M2 at g2 s2 n2 m2 kk2 i2
  rw [Rw_wb, Rn_pA, Rw_wq, show (20 : Int32) = nI 20 from rfl, Rw_nA (by show Mn M2 < _; omega) (by omega), Rw_wb, Rn_pA]
  have n3 : Mn (sR M2 p 1 (some (Mn M))) = Mn M + 1 := n2
  rw [n3]
  have g3 : Gx (x1 p) (Mn M) M (sR (nw (sR M2 p 1 (some (Mn M))) 11 20) p 2 (some (Mn M + 1))) := ((g2.sR (fun _ => by simp [x1])).nw (by rw [n3]; omega) (by rw [n3, SB_v]; omega)).sR (fun _ => by simp [x1])
  have r1 : Mr (sR (nw (sR M2 p 1 (some (Mn M))) 11 20) p 2 (some (Mn M + 1))) p 1 = some (Mn M) := by
    rw [Mr_sR, if_neg (by omega), Mr_nw, if_neg (by rw [n3]; omega), sR_self]
  have r2 : Mr (sR (nw (sR M2 p 1 (some (Mn M))) 11 20) p 2 (some (Mn M + 1))) p 2 = some (Mn M + 1) := sR_self
  have n4 : Mn (sR (nw (sR M2 p 1 (some (Mn M))) 11 20) p 2 (some (Mn M + 1))) = Mn M + 2 := by show Mn M2 + 1 = _; omega
  have m4 : Ml (sR (nw (sR M2 p 1 (some (Mn M))) 11 20) p 2 (some (Mn M + 1))) (Mn M) = 6 := by
    rw [Ml_sR, Ml_nw, if_neg (by rw [n3]; omega)]; exact m2
  have kk4 : Mk (sR (nw (sR M2 p 1 (some (Mn M))) 11 20) p 2 (some (Mn M + 1))) (Mn M) = 11 := by
    rw [Mk_sR, Mk_nw, if_neg (by rw [n3]; omega)]; exact kk2
  have m5 : Ml (sR (nw (sR M2 p 1 (some (Mn M))) 11 20) p 2 (some (Mn M + 1))) (Mn M + 1) = 20 := by
    rw [Ml_sR, Ml_nw, if_pos n3.symm]
  have i4 : Mi (sR (nw (sR M2 p 1 (some (Mn M))) 11 20) p 2 (some (Mn M + 1))) p = Mi M p := by
    rw [← i2]; funext j; rw [Mi_sR, Mi_nw, if_neg (by rw [n3]; omega)]; rfl
  have s4 : ∀ k, k < 6 → Mi (sR (nw (sR M2 p 1 (some (Mn M))) 11 20) p 2 (some (Mn M + 1))) (Mn M) k = nI (st0 k) := by
    intro k hk
    rw [Mi_sR, Mi_nw, if_neg (by rw [n3]; omega)]; exact s2 k hk
  have s5 : ∀ k, Mi (sR (nw (sR M2 p 1 (some (Mn M))) 11 20) p 2 (some (Mn M + 1))) (Mn M + 1) k = nI 0 := by
    intro k
    rw [Mi_sR, Mi_nw, if_pos n3.symm]; rfl
  generalize sR (nw (sR M2 p 1 (some (Mn M))) 11 20) p 2 (some (Mn M + 1)) = M4 at g3 r1 r2 n4 m4 kk4 m5 i4 s4 s5
  refine lNew (by omega) (fun M5 g5 n5 l5 => ?_)
  rw [Rw_wb, Rn_pA, Rw_wr]
  rw [n4] at l5 g5 ⊢
  have rp : Mr M5 p = Mr M4 p := g5.mr (by omega) rfl
  have ip : Mi M5 p = Mi M4 p := g5.mi (by omega) rfl
  refine ⟨(g3.tr (g5.mono (by omega) (fun _ _ _ => rfl))).sR (fun _ => by simp [x1]), by show Mn M5 = _; omega, rfl, rfl, ?_, ?_, sR_self, ?_, ?_, ?_, fun k hk => ?_, ?_, fun k => ?_, ?_⟩
  · rw [Mr_sR, if_neg (by omega), rp]; exact r1
  · rw [Mr_sR, if_neg (by omega), rp]; exact r2
  · rw [Mi_sR, ip]; exact i4
  · rw [Ml_sR, g5.ml (by omega)]; exact m4
  · rw [Mk_sR, g5.mk (by omega)]; exact kk4
  · rw [Mi_sR, g5.mi (by omega) rfl]; exact s4 k hk
  · rw [Ml_sR, g5.ml (by omega)]; exact m5
  · rw [Mi_sR, g5.mi (by omega) rfl]; exact s5 k
  · obtain ⟨a1, a2, a3, a4, a5⟩ := l5
    refine ⟨a1, a2, a3, by rw [Mr_sR, if_neg (by omega)]; exact a4, Or.inl ⟨rfl, rfl⟩⟩
/-- a row of numbers, once more -/
theorem lClone11 {M : Mm} {h n : Nat} (b1 : h < Mn M) (b3 : Ml M h = n) (hn : Mn M < 1000000000) {c s : Nat} : Rw (nC 11 h) M c s (fun h' M' c' s' => h' = Mn M ∧ Gx xO (Mn M) M M' ∧ Mn M' = Mn M + 1 ∧ Ml M' (Mn M) = n ∧ Mi M' (Mn M) = Mi M h ∧ c' = c + 1 ∧ s' = s + n) := by
  have e : nC 11 h M = some (Mn M, cpy M 11 h, 1, Ml M h) := by
    unfold nC
    rw [if_pos]
    rw [Bool.and_eq_true]
    refine ⟨decide_eq_true (show Mn M < SB from hn), List.all_eq_true.mpr (fun i hi => ?_)⟩
    unfold fitK
    rw [if_neg (by omega), if_neg (by omega)]; rfl
  refine ⟨_, _, _, _, e, rfl, ?_, rfl, ?_, ?_, rfl, by rw [b3]⟩
  · have g := Gx.rf (X := xO) (n := Mn M) (M := M) |>.nw (Nat.le_refl _) hn (kd := 11) (ln := Ml M h)
    refine ⟨g.1, g.2.1, g.2.2.1, fun q hq hz => ⟨?_, (g.2.2.2 q hq hz).2.1, (g.2.2.2 q hq hz).2.2⟩⟩
    funext b
    show (if q = M.1.1 then _ else _) = _
    rw [if_neg (by have : Mn M = M.1.1 := rfl; omega)]; rfl
  · show Ml (nw M 11 (Ml M h)) (Mn M) = n; rw [Ml_nw, if_pos rfl, b3]
  · funext k
    show (if Mn M = M.1.1 then Mi M h k else _) = _
    exact if_pos (show Mn M = M.1.1 from rfl)
