/-! THE CLASS: pages change -/
section CPg1
variable {M : Mm} {h : Nat}
theorem cHasN {n : Nat} (h1 : Mi M h 1 = nI n) (h20 : n ≤ 20) {l : Nat} (hl : l < n) {Q : Int32 → Mm → Prop} : Rn (fX2_hasLine h (nI l)) M Q ↔ Q (nI 1) M := by
  refine Rn_det ?_
  unfold fX2_hasLine
  rw [if_neg (nI_pos (by omega)), Rn_bnd, Rn_gI, h1, if_neg (by rw [nle (by omega) (by omega)]; omega), nL20, if_neg (by rw [nle (by omega) (by omega)]; omega), Rn_grd, Rn_rtn]
  exact ⟨by decide, rfl, rfl⟩
theorem cPutRow0 (o2 : Mr M h 2 = some (h + 1)) (l20 : Ml M (h + 1) = 20) {w n : Nat} (h0 : Mi M h 0 = nI w) (h40 : w ≤ 40) (h1 : Mi M h 1 = nI n) (h20 : n ≤ 20) {l m : Nat} (hl : l < n) (hm : m < 2 ^ 64) {Q : Unit → Mm → Prop} : Rn (fX2_putRow h (nI l) (lN m)) M Q ↔ Q () (sJ M (h + 1) l (lN (m % 2 ^ w))) := by
  refine Rn_det ?_
  unfold fX2_putRow
  rw [Rn_bnd, cHasN h1 h20 hl, if_neg (by decide), Rn_bnd, Rn_gA o2, Rn_bnd, Rn_gI, h0, Rn_bnd, fAll (by omega), wb_mask hm (by omega), Rn_bnd, rn_aJ (by omega), Rn_rtn]
  exact ⟨by omega, rfl, rfl⟩
theorem xPgH_t {h a b : Nat} (h1 : h ≤ a) (h2 : a ≤ h + 3) : xPgH h a b = true := by unfold xPgH; simp [h1, h2]
theorem cPutRow {P : Pg} (o : PgO M h) (hP : isPgC M h P) (hw : wfP P) {l m : Nat} (hl : l < PL P) (hm : m < 2 ^ 64) : Rn (fX2_putRow h (nI l) (lN m)) M (fun _ M' => XF (xPgH h) M M' ∧ isPgC M' h (pRow P l (m % 2 ^ Pw P))) := by
  have h20 := hw.2.2.1
  obtain ⟨p1, p2, p3, p4, p5⟩ := hP
  rw [cPutRow0 o.1 o.2.2.2.1 p1 hw.2.1 p2 h20 hl hm]
  refine ⟨XF.rf.sJ (xPgH_t (by omega) (by omega)), p1, p2, fun k hk => ?_, p4, p5⟩
  show Mj _ _ _ = lN (if k = l then m % 2 ^ Pw P else Pr P k)
  rw [Mj_sJ]
  by_cases g : k = l
  · rw [if_pos ⟨rfl, g⟩, if_pos g]
  · rw [if_neg (fun z => g z.2), if_neg g]; exact p3 k hk
theorem cInsert {P : Pg} (o : PgO M h) (hP : isPgC M h P) (hw : wfP P) {t m : Nat} (ht : t ≤ PL P) (hl : PL P < 20) (hm : m < 2 ^ Pw P) : Rn (fX2_insertRow h (nI t) (lN m)) M (fun _ M' => XF (xPgH h) M M' ∧ isPgC M' h (pIns P t m)) := by
  have h40 := hw.2.1
  have p40 : 2 ^ Pw P ≤ 2 ^ 40 := pw_le h40
  obtain ⟨p1, p2, p3, p4, p5⟩ := hP
  unfold fX2_insertRow
  rw [Rn_bnd, Rn_gI, p2, if_pos (by rw [nL20, nlt (by omega) (by omega)]; exact hl), Rn_bnd, Rn_gI, p2]
  refine rn_loopv (F := fun n i => fX2_insertRow_L16 n h (nI t) (lN m) (nI i)) (fun i M' => XF (xPgH h) M M' ∧ Mi M' = Mi M ∧ t ≤ i ∧ i ≤ PL P ∧ (∀ l, l ≤ i → Mj M' (h + 1) l = Mj M (h + 1) l) ∧ ∀ l, i < l → l ≤ PL P → Mj M' (h + 1) l = Mj M (h + 1) (l - 1)) (fun i => i) ?_ fu (PL P) M (by unfold fu; omega) ⟨XF.rf, rfl, ht, Nat.le_refl _, fun _ _ => rfl, fun l h1 h2 => by omega⟩
  rintro n i M1 ⟨x1, mi, ti, il, a1, a2⟩ ih
  show Rn (fX2_insertRow_L16 (n + 1) h (nI t) (lN m) (nI i)) M1 _
  have o1 := o.xf x1
  have last : i = t → Rn (fX2_insertRow_L49 h (nI t) (lN m)) M1 (fun _ M' => XF (xPgH h) M M' ∧ isPgC M' h (pIns P t m)) := by
    rintro rfl
    unfold fX2_insertRow_L49
    rw [Rn_bnd, Rn_gI, mi, p2, Rn_bnd, Rn_pI, nL1, nI_add, Rn_bnd]
    have q0 : Mi (sI M1 h 1 (nI (PL P + 1))) h 0 = nI (Pw P) := by rw [Mi_sI, if_neg (by omega), mi]; exact p1
    rw [cPutRow0 (M := sI M1 h 1 (nI (PL P + 1))) (n := PL P + 1) o1.1 o1.2.2.2.1 q0 h40 sI_self hl (by omega) (by omega), Rn_rtn, Nat.mod_eq_of_lt hm]
    refine ⟨(x1.sI (xPgH_t (by omega) (by omega))).sJ (xPgH_t (by omega) (by omega)), q0, sI_self, fun k hk => ?_, fun k hk => ?_, fun k hk => ?_⟩
    · show _ = lN (if k < i then Pr P k else if k = i then m else Pr P (k - 1))
      have hk : k < PL P + 1 := hk
      rw [Mj_sJ]
      by_cases g : k = i
      · rw [if_pos ⟨rfl, g⟩, if_neg (by omega), if_pos g]
      · rw [if_neg (fun z => g z.2)]
        show Mj M1 (h + 1) k = _
        by_cases g1 : k < i
        · rw [if_pos g1, a1 k (by omega)]; exact p3 k (by omega)
        · rw [if_neg g1, if_neg g, a2 k (by omega) (by omega)]; exact p3 (k - 1) (by omega)
    · show Mi (sI M1 h 1 _) _ _ = _
      rw [Mi_sI, if_neg (by omega), mi]; exact p4 k hk
    · show Mi (sI M1 h 1 _) _ _ = _
      rw [Mi_sI, if_neg (by omega), mi]; exact p5 k hk
  unfold fX2_insertRow_L16
  refine Rn_cs (nle (by omega) (by omega)) (fun g => last (by omega)) (fun g => ?_)
  refine Rn_cs (show nI i ≤ 0 ↔ i ≤ 0 from nle (b := 0) (by omega) (by omega)) (fun g1 => last (by omega)) (fun g1 => ?_)
  rw [add_m1, Rn_bnd, Rn_gA o1.1, Rn_bnd, Rn_gA o1.1, Rn_bnd, nL1, nsb (by omega), rn_lJ (by omega), o1.2.2.2.1]
  refine ⟨by omega, ?_⟩
  rw [Rn_bnd, rn_aJ (by omega), o1.2.2.2.1]
  refine ⟨by omega, ?_⟩
  refine ih (i - 1) _ ⟨x1.sJ (xPgH_t (by omega) (by omega)), mi, by omega, by omega, fun l hl => ?_, fun l h1 h2 => ?_⟩ (by omega)
  · rw [Mj_sJ, if_neg (by omega)]; exact a1 l (by omega)
  · rw [Mj_sJ]
    by_cases g2 : l = i
    · rw [if_pos ⟨rfl, g2⟩, g2, a1 (i - 1) (by omega)]
    · rw [if_neg (fun z => g2 z.2)]; exact a2 l (by omega) h2
theorem cDelete {P : Pg} (o : PgO M h) (hP : isPgC M h P) (hw : wfP P) {d : Nat} (hd : d < PL P) : Rn (fX2_deleteRow h (nI d)) M (fun _ M' => XF (xPgH h) M M' ∧ isPgC M' h (pDel P d)) := by
  have h20 := hw.2.2.1
  obtain ⟨p1, p2, p3, p4, p5⟩ := hP
  unfold fX2_deleteRow
  rw [Rn_bnd, cHasN p2 h20 hd, if_neg (by decide), Rn_bnd, Rn_gI, p2, Rn_bnd, Rn_pI, nL1, nsb (by omega)]
  have s1 : Mi (sI M h 1 (nI (PL P - 1))) h 1 = nI (PL P - 1) := sI_self
  have x0 : XF (xPgH h) M (sI M h 1 (nI (PL P - 1))) := XF.rf.sI (xPgH_t (by omega) (by omega))
  have k0 : ∀ a b, ¬ (a = h ∧ b = 1) → Mi (sI M h 1 (nI (PL P - 1))) a b = Mi M a b := fun a b z => by rw [Mi_sI, if_neg z]
  have j0 : Mj (sI M h 1 (nI (PL P - 1))) = Mj M := rfl
  generalize sI M h 1 (nI (PL P - 1)) = M0 at s1 x0 k0 j0
  refine rn_loopv (F := fun n i => fX2_deleteRow_L21 n h (nI i)) (fun i M' => XF (xPgH h) M M' ∧ Mi M' = Mi M0 ∧ d ≤ i ∧ i ≤ PL P - 1 ∧ (∀ l, i ≤ l → Mj M' (h + 1) l = Mj M (h + 1) l) ∧ ∀ l, l < i → Mj M' (h + 1) l = Mj M (h + 1) (if l < d then l else l + 1)) (fun i => PL P - 1 - i) ?_ fu d M0 (by show PL P - 1 - d < fu; unfold fu; omega) ⟨x0, rfl, Nat.le_refl _, by omega, fun _ _ => by rw [j0], fun l hl => by rw [j0, if_pos hl]⟩
  rintro n i M1 ⟨x1, mi, di, il, a1, a2⟩ ih
  show Rn (fX2_deleteRow_L21 (n + 1) h (nI i)) M1 _
  have o1 := o.xf x1
  unfold fX2_deleteRow_L21
  rw [Rn_bnd, Rn_gI, mi, s1]
  refine Rn_cs (nle (by omega) (by omega)) (fun g => ?_) (fun g => ?_)
  · rw [Rn_rtn]
    refine ⟨x1, by rw [mi, k0 _ _ (by omega)]; exact p1, by rw [mi]; exact s1, fun k hk => ?_, fun k hk => by rw [mi, k0 _ _ (by omega)]; exact p4 k hk, fun k hk => by rw [mi, k0 _ _ (by omega)]; exact p5 k hk⟩
    have hk : k < PL P - 1 := hk
    show _ = lN (if k < d then Pr P k else Pr P (k + 1))
    rw [a2 k (by omega)]
    split
    · exact p3 k (by omega)
    · exact p3 (k + 1) (by omega)
  · rw [Rn_bnd, Rn_gA o1.1, Rn_bnd, Rn_gA o1.1, Rn_bnd, nL1, nI_add, rn_lJ (by omega), o1.2.2.2.1]
    refine ⟨by omega, ?_⟩
    rw [Rn_bnd, rn_aJ (by omega), o1.2.2.2.1]
    refine ⟨by omega, ?_⟩
    refine ih (i + 1) _ ⟨x1.sJ (xPgH_t (by omega) (by omega)), mi, by omega, by omega, fun l hl => ?_, fun l hl => ?_⟩ (by omega)
    · rw [Mj_sJ, if_neg (by omega)]; exact a1 l (by omega)
    · rw [Mj_sJ]
      by_cases g2 : l = i
      · rw [if_pos ⟨rfl, g2⟩, g2, if_neg (by omega), a1 (i + 1) (by omega)]
      · rw [if_neg (fun z => g2 z.2)]; exact a2 l (by omega)
theorem cCopyFrom {P : Pg} {g : Nat} (o : PgO M h) (og : PgO M g) (hP : isPgC M g P) (hd : h + 3 < g ∨ g + 3 < h) (hw : wfP P) : Rn (fX2_copyFrom h g) M (fun _ M' => XF (xPgH h) M M' ∧ isPgC M' h P) := by
  have h20 := hw.2.2.1
  have T : ∀ a b, h ≤ a → a ≤ h + 3 → xPgH h a b = true := fun a b h1 h2 => xPgH_t h1 h2
  have G : ∀ a b, g ≤ a → a ≤ g + 3 → xPgH h a b = false := fun a b h1 h2 => by unfold xPgH; simp; omega
  unfold fX2_copyFrom
  rw [Rn_bnd, Rn_gI, hP.1, Rn_bnd, Rn_pI, Rn_bnd, Rn_gI, show Mi (sI M h 0 (nI (Pw P))) g 1 = nI (PL P) from by rw [Mi_sI, if_neg (by omega)]; exact hP.2.1, Rn_bnd, Rn_pI]
  have x0 : XF (xPgH h) M (sI (sI M h 0 (nI (Pw P))) h 1 (nI (PL P))) := (XF.rf.sI (T _ _ (by omega) (by omega))).sI (T _ _ (by omega) (by omega))
  have s0 : Mi (sI (sI M h 0 (nI (Pw P))) h 1 (nI (PL P))) h 0 = nI (Pw P) := by rw [Mi_sI, if_neg (by omega), sI_self]
  have s1 : Mi (sI (sI M h 0 (nI (Pw P))) h 1 (nI (PL P))) h 1 = nI (PL P) := sI_self
  generalize sI (sI M h 0 (nI (Pw P))) h 1 (nI (PL P)) = M0 at x0 s0 s1
  refine rn_loopv (F := fun n i => fX2_copyFrom_L18 n h g (nI i)) (fun i M' => XF (xPgH h) M M' ∧ Mi M' h 0 = nI (Pw P) ∧ Mi M' h 1 = nI (PL P) ∧ i ≤ 20 ∧ (∀ l, l < i → l < PL P → Mj M' (h + 1) l = lN (Pr P l)) ∧ ∀ l, l < i → Mi M' (h + 2) l = nI (Ps P l)) (fun i => 20 - i) ?_ fu 0 M0 (by unfold fu; omega) ⟨x0, s0, s1, by omega, fun l hl => by omega, fun l hl => by omega⟩
  rintro n i M1 ⟨x1, t0, t1, hi, a1, a2⟩ ih
  show Rn (fX2_copyFrom_L18 (n + 1) h g (nI i)) M1 _
  unfold fX2_copyFrom_L18
  refine Rn_cs (show (20 : Int32) ≤ nI i ↔ 20 ≤ i from nle (a := 20) (by omega) (by omega)) (fun q => ?_) (fun q => ?_)
  · refine rn_loopv (F := fun n i => fX2_copyFrom_L56 n h g (nI i)) (fun i M' => XF (xPgH h) M M' ∧ Mi M' h 0 = nI (Pw P) ∧ Mi M' h 1 = nI (PL P) ∧ i ≤ 6 ∧ (∀ l, l < 20 → l < PL P → Mj M' (h + 1) l = lN (Pr P l)) ∧ (∀ l, l < 20 → Mi M' (h + 2) l = nI (Ps P l)) ∧ ∀ l, l < i → Mi M' (h + 3) l = nI (Pt P l)) (fun i => 6 - i) ?_ fu 0 M1 (by unfold fu; omega) ⟨x1, t0, t1, by omega, fun l hl => a1 l (by omega), fun l hl => a2 l (by omega), fun l hl => by omega⟩
    rintro n i M1 ⟨x1, t0, t1, hi, a1, a2, a3⟩ ih
    show Rn (fX2_copyFrom_L56 (n + 1) h g (nI i)) M1 _
    have o1 := o.xf x1
    have og1 := og.xf x1
    have g1 := hP.xf x1 (fun a b z => G a b (by unfold xPgH at z; simp at z; omega) (by unfold xPgH at z; simp at z; omega))
    unfold fX2_copyFrom_L56
    refine Rn_cs (show (6 : Int32) ≤ nI i ↔ 6 ≤ i from nle (a := 6) (by omega) (by omega)) (fun q => ?_) (fun q => ?_)
    · rw [Rn_rtn]
      exact ⟨x1, t0, t1, fun l hl => a1 l (by omega) hl, a2, fun l hl => a3 l (by omega)⟩
    · rw [Rn_bnd, Rn_gA o1.2.2.1, Rn_bnd, Rn_gA og1.2.2.1, Rn_bnd, rn_lI (by omega), og1.2.2.2.2.2, g1.2.2.2.2 i (by omega)]
      refine ⟨by omega, ?_⟩
      rw [Rn_bnd, rn_aI (by omega), o1.2.2.2.2.2]
      refine ⟨by omega, ?_⟩
      rw [nL1, nI_add]
      refine ih (i + 1) _ ⟨x1.sI (T _ _ (by omega) (by omega)), by rw [Mi_sI, if_neg (by omega)]; exact t0, by rw [Mi_sI, if_neg (by omega)]; exact t1, by omega, a1, fun l hl => by rw [Mi_sI, if_neg (by omega)]; exact a2 l hl, fun l hl => ?_⟩ (by omega)
      rw [Mi_sI]
      by_cases q2 : l = i
      · rw [if_pos ⟨rfl, q2⟩, q2]
      · rw [if_neg (fun z => q2 z.2)]; exact a3 l (by omega)
  · have o1 := o.xf x1
    have og1 := og.xf x1
    have g1 := hP.xf x1 (fun a b z => G a b (by unfold xPgH at z; simp at z; omega) (by unfold xPgH at z; simp at z; omega))
    rw [Rn_bnd, Rn_gA o1.1, Rn_bnd, Rn_gA og1.1, Rn_bnd, rn_lJ (by omega), og1.2.2.2.1]
    refine ⟨by omega, ?_⟩
    rw [Rn_bnd, rn_aJ (by omega), o1.2.2.2.1]
    refine ⟨by omega, ?_⟩
    have x2 : XF (xPgH h) M (sJ M1 (h + 1) i (Mj M1 (g + 1) i)) := x1.sJ (T _ _ (by omega) (by omega))
    have o2 := o.xf x2
    have og2 := og.xf x2
    rw [Rn_bnd, Rn_gA o2.2.1, Rn_bnd, Rn_gA og2.2.1, Rn_bnd, rn_lI (by omega), og2.2.2.2.2.1, Mi_sJ, g1.2.2.2.1 i (by omega)]
    refine ⟨by omega, ?_⟩
    rw [Rn_bnd, rn_aI (by omega), o2.2.2.2.2.1]
    refine ⟨by omega, ?_⟩
    rw [nL1, nI_add]
    refine ih (i + 1) _ ⟨x2.sI (T _ _ (by omega) (by omega)), by rw [Mi_sI, if_neg (by omega)]; exact t0, by rw [Mi_sI, if_neg (by omega)]; exact t1, by omega, fun l hl hl2 => ?_, fun l hl => ?_⟩ (by omega)
    · rw [Mj_sI, Mj_sJ]
      by_cases q2 : l = i
      · rw [if_pos ⟨rfl, q2⟩, q2]; exact g1.2.2.1 i (by omega)
      · rw [if_neg (fun z => q2 z.2)]; exact a1 l (by omega) hl2
    · rw [Mi_sI]
      by_cases q2 : l = i
      · rw [if_pos ⟨rfl, q2⟩, q2]
      · rw [if_neg (fun z => q2 z.2)]; exact a2 l (by omega)
end CPg1

