theorem isCC.xf {X : Nat → Nat → Bool} {M M1 : Mm} {h : Nat} {L : List Md} (c : isCC M h L) (x : XF X M M1) (z : ∀ a b, h ≤ a → a ≤ h + 4 → X a b = false) : isCC M1 h L := by
  obtain ⟨c0, c1, cd⟩ := c
  refine ⟨by rw [x.mi (z _ _ (by omega) (by omega))]; exact c0, by rw [x.mi (z _ _ (by omega) (by omega))]; exact c1, ?_⟩
  rw [x.row (fun k => z _ k (by omega) (by omega)), x.row (fun k => z _ k (by omega) (by omega)), x.row (fun k => z _ k (by omega) (by omega)), x.row (fun k => z _ k (by omega) (by omega))]
  exact cd
theorem xH5 (h a b : Nat) (h1 : h ≤ a) (h2 : a ≤ h + 4) : xH (h + 5) a b = false := by unfold xH; simp; omega
theorem xLk5 (h a b : Nat) (h1 : h ≤ a) (h2 : a ≤ h + 4) : xLk (h + 5) a b = false := xLk_H _ _ _ (xH5 h a b h1 h2)
def rdU : Option Nat → Int64
  | some q => lN q
  | none => -1
theorem cStep_w {w r u q : Nat} {c : Bool} : (cStep w r u q c).2.1 ≤ w + 1 := by
  have a2 := sA_le w r q c
  have d2 := sD_le w u (sB w u q c)
  have e2 := sE_le w r (sA w r q c) c
  unfold cStep
  split
  · exact Nat.succ_le_succ d2
  · split
    · exact Nat.succ_le_succ a2
    · exact Nat.succ_le_succ e2
theorem add_m1 (x : Int32) : x + -1 = x - 1 := (Int32.sub_eq_add_neg x 1).symm
section CCode2
variable {M : Mm} {h w r u : Nat}
theorem cMake (o : CdO M h) (h40 : w ≤ 40) (hr : r < 2 ^ w) (hu : u < 2 ^ w) : Rn (fX0_makeFor h (lN r) (lN u) (nI w)) M (fun _ M' => XF (xCo h) M M' ∧ isCC M' h (cod w r u)) := by
  have o6 := o.2.2.2.2.1
  unfold fX0_makeFor
  rw [Rn_bnd, Rn_pI, Rn_bnd, Rn_pI, Rn_bnd, Rn_gA (show Mr (sI (sI M h 0 0) h 1 0) h 6 = some (h + 5) from o6), Rn_bnd]
  refine (cBegin h40 hu).mono ?_
  rintro - M0 ⟨x0, r0, r3, r4⟩
  have z0 : Mi M0 h 0 = nI 0 := by rw [x0.mi (xH5 h h 0 (by omega) (by omega)), Mi_sI, if_neg (by omega), sI_self]; rfl
  have z1 : Mi M0 h 1 = nI 0 := by rw [x0.mi (xH5 h h 1 (by omega) (by omega)), sI_self]; rfl
  have X : ∀ a b, h ≤ a → a ≤ h + 5 → xCo h a b = true := fun a b h1 h2 => xCo_t h1 h2
  have x00 : XF (xCo h) M M0 := ((XF.rf.sI (X _ _ (by omega) (by omega))).sI (X _ _ (by omega) (by omega))).tr (x0.mono (xH_Co h))
  refine rn_loopv (F := fun n (s : List Md × Nat × Bool) => fX0_makeFor_L24 n h (lN r) (nI w) (nI (41 - s.1.length))) (fun s M' => XF (xCo h) M M' ∧ isCC M' h s.1 ∧ isR0 M' (h + 5) w u s.2.1 s.2.2 ∧ s.1 ++ cRest w r u s.2.1 s.2.2 = cod w r u ∧ s.1.length ≤ s.2.1 ∧ s.2.1 ≤ w + 1) (fun s => w + 1 - s.2.1) ?_ fu ([], 0, false) M0 (by show w + 1 - 0 < fu; unfold fu; omega) ⟨x00, ⟨z0, z1, isCd_nil _ _ _ _⟩, r0, rfl, Nat.le_refl _, Nat.zero_le _⟩
  rintro n ⟨L, q, c⟩ M1 ⟨x1, c1, r1, hL, hl, hq⟩ ih
  have hq : q ≤ w + 1 := hq
  have hl : L.length ≤ q := hl
  have hL : L ++ cRest w r u q c = cod w r u := hL
  have c1 : isCC M1 h L := c1
  have r1 : isR0 M1 (h + 5) w u q c := r1
  show Rn (fX0_makeFor_L24 (n + 1) h (lN r) (nI w) (nI (41 - L.length))) M1 _
  have o1 := o.xf x1
  have fin : q = w + 1 → XF (xCo h) M M1 ∧ isCC M1 h (cod w r u) := by
    intro e
    subst e
    rw [cRest_end, List.append_nil] at hL
    rw [← hL]; exact ⟨x1, c1⟩
  unfold fX0_makeFor_L24
  refine Rn_cs (show nI (41 - L.length) ≤ 0 ↔ 41 - L.length ≤ 0 from by rw [nL0, nle (by omega) (by omega)]) (fun g => ?_) (fun g => ?_)
  · rw [Rn_rtn]; exact fin (by omega)
  · rw [Rn_bnd, Rn_gA o1.2.2.2.2.1, Rn_bnd, cHasEnd h40 r1]
    refine Rn_cs (bN_0 _) (fun g1 => ?_) (fun g1 => ?_)
    · have g1 : q ≠ w + 1 := by simpa using g1
      have hqw : q ≤ w := by omega
      have hs := cStep_q (r := r) (u := u) (c := c) hqw
      have hw1 : (cStep w r u q c).2.1 ≤ w + 1 := cStep_w
      rw [cRest_s hqw] at hL
      rw [Rn_bnd, Rn_gA o1.2.2.2.2.1, Rn_bnd]
      refine (cLook h40 hu r1).mono ?_
      rintro - M2 ⟨x2, k2⟩
      have o2 := o1.xf x2
      have c2 : isCC M2 h L := c1.xf x2 (xLk5 h)
      have r2 : isR0 M2 (h + 5) w u q c := r1.xf x2 (xLk_z _)
      rw [Rn_bnd]
      refine (cAdd o2 h40 hr c2 (by omega) hqw r2 k2).mono ?_
      rintro - M3 ⟨x3, c3, r3⟩
      have nx := ih (L ++ [(cStep w r u q c).1], (cStep w r u q c).2.1, (cStep w r u q c).2.2) M3 ⟨(x1.tr (x2.mono (fun a b z => xLk_H _ _ _ (xH_Co h a b z)))).tr x3, c3, r3, by show _ ++ _ = _; rw [List.append_assoc]; exact hL, by show (L ++ [_]).length ≤ _; rw [List.length_append]; show L.length + 1 ≤ (cStep w r u q c).2.1; omega, hw1⟩ (by show w + 1 - (cStep w r u q c).2.1 < w + 1 - q; omega)
      have e : nI (41 - L.length) + -1 = nI (41 - (L ++ [(cStep w r u q c).1]).length) := by
        rw [List.length_append, add_m1, nL1, nsb (by omega)]
        show nI _ = nI _; congr 1
      rw [e]; exact nx
    · rw [Rn_rtn]; exact fin (by simpa using g1)
theorem cReadUnder (o : CdO M h) (h40 : w ≤ 40) (hu : u < 2 ^ w) {L : List Md} (hL : ∀ m, m ∈ L → mdOk m) (h48 : L.length ≤ 41) (hC : isCC M h L) : Rn (fX0_readUnder h (lN u) (nI w)) M (fun a M' => XF (xH (h + 5)) M M' ∧ a = rdU (rdC w u L) ∧ ∀ q, rdC w u L = some q → q < 2 ^ w) := by
  unfold fX0_readUnder
  rw [Rn_bnd, Rn_gA o.2.2.2.2.1, Rn_bnd]
  refine (cBegin h40 hu).mono ?_
  rintro - M0 ⟨x0, s0⟩
  refine rn_loopv (F := fun n (s : Option Rst × Nat) => fX0_readUnder_L15 n h (nI (bN s.1.isSome)) (nI s.2)) (fun s M' => XF (xH (h + 5)) M M' ∧ s.2 ≤ L.length ∧ (∀ z, s.1 = some z → isRd M' (h + 5) w u z ∧ rdC w u L = rdE w (rdL w u (L.drop s.2) z)) ∧ (s.1 = none → rdC w u L = none)) (fun s => L.length - s.2) ?_ fu (some (0, false, 0), 0) M0 (by show L.length - 0 < fu; unfold fu; omega) ⟨x0, Nat.zero_le _, fun z hz => by cases hz; exact ⟨s0, rfl⟩, fun z => by cases z⟩
  rintro n ⟨o', i⟩ M1 ⟨x1, hi, hs, hno⟩ ih
  have hi : i ≤ L.length := hi
  show Rn (fX0_readUnder_L15 (n + 1) h (nI (bN o'.isSome)) (nI i)) M1 _
  have o1 := o.xf x1
  have c1 : isCC M1 h L := hC.xf x1 (xH5 h)
  obtain ⟨k0, k1, kd⟩ := c1
  have stop : (o' = none ∨ L.length ≤ i) → Rn (fX0_readUnder_L133 h (nI (bN o'.isSome))) M1 (fun a M' => XF (xH (h + 5)) M M' ∧ a = rdU (rdC w u L) ∧ ∀ q, rdC w u L = some q → q < 2 ^ w) := by
    intro hst
    unfold fX0_readUnder_L133 fX0_readUnder_L158
    cases o' with
    | none =>
      rw [if_pos (by decide), Rn_rtn, hno rfl]
      exact ⟨x1, rfl, fun r z => by cases z⟩
    | some z =>
      obtain ⟨⟨a1, a2, a3⟩, hr⟩ := hs z rfl
      have hil : L.length ≤ i := by rcases hst with q | q; cases q; exact q
      have hr : rdC w u L = rdE w (rdL w u (L.drop i) z) := hr
      rw [List.drop_of_length_le hil] at hr
      have hr : rdC w u L = if z.1 = w + 1 then some z.2.2 else none := hr
      rw [if_neg (by show ¬ nI (bN true) = 0; decide), Rn_bnd, Rn_gA o1.2.2.2.2.1, Rn_bnd, cHasEnd h40 a1]
      refine Rn_cs (bN_0 _) (fun g => ?_) (fun g => ?_)
      · have g : z.1 ≠ w + 1 := by simpa using g
        rw [Rn_rtn, hr, if_neg g]
        exact ⟨x1, rfl, fun r hz => by cases hz⟩
      · have g : z.1 = w + 1 := by simpa using g
        rw [Rn_bnd, Rn_gA o1.2.2.2.2.1, Rn_bnd, Rn_gJ, Rn_rtn, hr, if_pos g]
        refine ⟨x1, a2, fun q hz => ?_⟩
        cases hz
        rw [g] at a3; exact a3
  unfold fX0_readUnder_L15 fX0_readUnder_L127
  rw [Rn_bnd, Rn_gI, k0]
  refine Rn_cs (nle (by omega) (by omega)) (fun g => stop (Or.inr g)) (fun g => ?_)
  cases o' with
  | none => rw [if_pos (by decide)]; exact stop (Or.inl rfl)
  | some z =>
    rw [if_neg (by show ¬ nI (bN true) = 0; decide)]
    obtain ⟨sz, hr⟩ := hs z rfl
    have hr : rdC w u L = rdE w (rdL w u (L.drop i) z) := hr
    have hm : L[i]? = some (L[i]'(by omega)) := List.getElem?_eq_getElem (by omega)
    have hmem : L[i]'(by omega) ∈ L := List.getElem_mem _
    rw [List.drop_eq_getElem_cons (by omega)] at hr
    generalize L[i]'(by omega) = m at hm hmem hr
    obtain ⟨d1, d2, d3, d4⟩ := kd i m hm
    have hr : rdC w u L = rdE w (match rStep w u m z with | some s' => rdL w u (L.drop (i + 1)) s' | none => none) := hr
    have nx : ∀ (a : Int32) (M2 : Mm), XF (xH (h + 5)) M1 M2 → a = nI (bN (rStep w u m z).isSome) → (∀ s', rStep w u m z = some s' → isRd M2 (h + 5) w u s') → Rn (fX0_readUnder_L15 n h a (nI i + 1)) M2 (fun a M' => XF (xH (h + 5)) M M' ∧ a = rdU (rdC w u L) ∧ ∀ q, rdC w u L = some q → q < 2 ^ w) := by
      rintro a M2 x2 rfl h2
      rw [nL1, nI_add]
      refine ih (rStep w u m z, i + 1) M2 ⟨x1.tr x2, by show i + 1 ≤ L.length; omega, fun z' hz => ?_, fun hz => ?_⟩ (by show L.length - (i + 1) < L.length - i; omega)
      · have hz : rStep w u m z = some z' := hz
        rw [hz] at hr
        exact ⟨h2 z' hz, hr⟩
      · have hz : rStep w u m z = none := hz
        rw [hz] at hr
        exact hr
    rw [Rn_bnd, Rn_gA o1.2.2.2.2.1, Rn_bnd]
    refine (cLook h40 hu sz.1).mono ?_
    rintro - M2 ⟨x2, k2⟩
    have o2 := o1.xf x2
    have s2 : isRd M2 (h + 5) w u z := sz.xf x2 (xLk_z _)
    have y2 : XF (xH (h + 5)) M1 M2 := x2.mono (xLk_H _)
    obtain ⟨o22, o23, o24, o25, o26, l1, l2, l3, l4⟩ := id o2
    have e1 : Mi M2 (h + 1) i = m.1 := by rw [x2.mi (xLk5 h _ _ (by omega) (by omega))]; exact d1
    have e2 : Mi M2 (h + 2) i = m.2.1 := by rw [x2.mi (xLk5 h _ _ (by omega) (by omega))]; exact d2
    have e3 : Mi M2 (h + 3) i = m.2.2.1 := by rw [x2.mi (xLk5 h _ _ (by omega) (by omega))]; exact d3
    rw [Rn_bnd, Rn_gA o26, Rn_bnd, cHasEnd h40 s2.1]
    refine Rn_cs (bN_0 _) (fun g1 => ?_) (fun g1 => ?_)
    · have g1 : z.1 ≠ w + 1 := by simpa using g1
      rw [Rn_bnd, Rn_gA o22, Rn_bnd, rn_lI (by omega), l1, e1]
      refine ⟨by omega, ?_⟩
      obtain ⟨m1, m2, m3, m4⟩ := m
      have hok := hL _ hmem
      refine Rn_cs (d := m1 = nI 0) Iff.rfl (fun g2 => ?_) (fun g2 => ?_)
      · have g2 : m1 = nI 0 := g2
        subst g2
        rw [Rn_bnd, Rn_gA o26, Rn_bnd]
        refine (cPass h40 s2 k2 g1 (x := m2) (y := m3) (z := m4)).mono ?_
        rintro a M3 ⟨x3, ha, h3⟩
        exact nx a M3 (y2.tr x3) ha h3
      · have g2 : m1 ≠ nI 0 := g2
        rw [Rn_bnd, Rn_gA o22, Rn_bnd, rn_lI (by omega), l1, e1]
        refine ⟨by omega, Rn_cs (d := m1 = nI 1) Iff.rfl (fun g3 => ?_) (fun g3 => ?_)⟩
        · subst g3
          rcases hok with q | ⟨_, x, hx, hv⟩ | ⟨q, _⟩
          · exact absurd q g2
          · rw [Rn_bnd, Rn_gA o26, Rn_bnd, Rn_gA o23, Rn_bnd, rn_lI (by omega), l2, e2]
            refine ⟨by omega, ?_⟩
            rw [Rn_bnd]
            refine (cVert h40 s2 k2 g1 hx hv (y := m3) (z := m4)).mono ?_
            rintro a M3 ⟨x3, ha, h3⟩
            exact nx a M3 (y2.tr x3) ha h3
          · have q : nI 1 = nI 2 := q
            exact absurd q (by decide)
        · rcases hok with q | ⟨q, _⟩ | ⟨q, a, b, ha, hb, hva, hvb⟩
          · exact absurd q g2
          · exact absurd q g3
          · have q : m1 = nI 2 := q
            have hva : m2 = nI a := hva
            have hvb : m3 = nI b := hvb
            subst q hva hvb
            rw [Rn_bnd, Rn_gA o26, Rn_bnd, Rn_gA o23, Rn_bnd, rn_lI (by omega), l2, e2]
            refine ⟨by omega, ?_⟩
            rw [Rn_bnd, Rn_gA o24, Rn_bnd, rn_lI (by omega), l3, e3]
            refine ⟨by omega, ?_⟩
            rw [Rn_bnd]
            refine (cHori h40 s2 g1 ha hb (z := m4)).mono ?_
            rintro a' M3 ⟨x3, ha', h3⟩
            exact nx a' M3 (y2.tr x3) ha' h3
    · have g1 : z.1 = w + 1 := by simpa using g1
      refine nx 0 M2 y2 ?_ (fun s' hz => ?_)
      · unfold rStep; rw [if_pos g1]; rfl
      · unfold rStep at hz; rw [if_pos g1] at hz; cases hz
end CCode2

