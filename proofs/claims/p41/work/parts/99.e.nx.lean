/-! WHAT IS DRAWN -/
def isTo (M : Mm) (t : Nat) : Prop := 38 < Mn M ∧ Mr M 38 0 = some (SB + 400) ∧ Mi M 38 1 = nI t ∧ (Mx M).1 ≤ 100000
theorem isTo.gx {X : Nat → Bool} {n : Nat} {M M1 : Mm} {t : Nat} (o : isTo M t) (x : Gx X n M M1) (h1 : 38 < n) (h2 : X 38 = false) : isTo M1 t := by
  obtain ⟨o1, o2, o3, o4⟩ := o
  exact ⟨Nat.lt_of_lt_of_le o1 x.mn, by rw [x.mr h1 h2]; exact o2, by rw [x.mi h1 h2]; exact o3, by rw [x.mx]; exact o4⟩
theorem lNext {M : Mm} {t m c s : Nat} (o : isTo M t) (ht : t < 1000000) (hm : 0 < m) (hm2 : m < 1000000) {Q : Int32 → Mm → Nat → Nat → Prop} (k : ∀ M' r, r < m → Gx (x1 38) (Mn M) M M' → Mn M' = Mn M → isTo M' (t + 1) → Q (nI r) M' c s) : Rw (gX10_next 38 (nI m)) M c s Q := by
  obtain ⟨o1, o2, o3, o4⟩ := o
  unfold gX10_next
  rw [Rw_wb, Rn_gI, o3, Rw_wb, Rn_pI, nL1, nI_add]
  have g : Gx (x1 38) (Mn M) M (sI M 38 1 (nI (t + 1))) := Gx.rf.sI (fun _ => by simp [x1])
  have o' : isTo (sI M 38 1 (nI (t + 1))) (t + 1) := ⟨o1, o2, sI_self, o4⟩
  have n' : Mn (sI M 38 1 (nI (t + 1))) = Mn M := rfl
  have x' : Mx (sI M 38 1 (nI (t + 1))) = Mx M := rfl
  generalize sI M 38 1 (nI (t + 1)) = M1 at g o' n' x'
  rw [Rw_wb, Rn_gA o'.2.1, Rw_wb, Rn_gI, o'.2.2.1, Rw_wq]
  have fin : ∀ w : Int32, Rw (gL_pick_L16 w) M1 c s (fun a M2 c2 s2 => Rw (wgrd (!(nI m == 0)) (wr (a - a / nI m * nI m))) M2 c2 s2 Q) := by
    intro w
    unfold gL_pick_L16
    rw [Rw_wr, Rw_grd]
    refine ⟨?_, ?_⟩
    · have : ¬ nI m = 0 := by rw [nL0, neq (by omega) (by omega)]; omega
      simpa using this
    rw [Rw_wr, pk_and w (m := 2147483647) 31 (by decide), pk_rem (Nat.mod_lt _ (by decide)) hm (by omega)]
    exact k M1 _ (Nat.mod_lt _ hm) g n' o'
  unfold gL_pick
  rw [Rw_grd]
  refine ⟨by simp, ?_⟩
  rw [Rw_wb, Rn_xN, x']
  refine Rw_cs (d := (Mx M).1 ≤ t + 1) (nle (by omega) (by omega)) (fun z => ?_) (fun z => ?_)
  · exact fin _
  · rw [Rw_grd]
    refine ⟨by simp, ?_⟩
    rw [Rw_wb, Rn_xI (by omega) (by rw [x']; omega)]
    exact fin _
