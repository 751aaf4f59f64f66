/-! THE REFERENCE: reading a code -/
theorem vm3 {x : Nat} (h : x ≤ 6) : ix (nI x - nI 3 + nI 3) = x := by
  rw [Int32.sub_add_cancel, ix_n (by omega)]
theorem v_le {y q : Nat} (hy : y < 1000) (hq : q < 1000) : nI y - nI 3 ≤ pl q ↔ y < q + 3 := by
  rw [Int32.le_iff_toInt_le, pk_sub_toInt (by omega) (by omega), pl_toInt (by omega)]; omega
theorem v_lw {y w : Nat} (hy : y < 1000) (hw : w < 1000) : nI y - nI 3 ≤ nI w ↔ y ≤ w + 3 := by
  rw [Int32.le_iff_toInt_le, pk_sub_toInt (by omega) (by omega), nI_tI (by omega)]; omega
theorem cod_ok {w r u : Nat} (h40 : w ≤ 40) : ∀ m, m ∈ cod w r u → mdOk m := by
  have : ∀ n q c, q ≤ w + 1 → ∀ m, m ∈ cList w r u n q c → mdOk m := by
    intro n
    induction n with
    | zero => intro q c _ m hm; cases hm
    | succ n ih =>
      intro q c hq m hm
      unfold cList at hm
      by_cases h : q = w + 1
      · rw [if_pos h] at hm; cases hm
      · rw [if_neg h] at hm
        have hqw : q ≤ w := by omega
        rcases List.mem_cons.mp hm with rfl | hm
        · have a2 := sA_le w r q c
          have b2 := sB_le w u q c
          have e2 := sE_le w r (sA w r q c) c
          unfold cStep
          split
          · exact Or.inl rfl
          · split
            · rename_i h1 h2
              refine Or.inr (Or.inl ⟨rfl, sA w r q c + 3 - sB w u q c, by omega, ?_⟩)
              show nI (sA w r q c) - nI (sB w u q c) = _
              apply Int32.toInt_inj.mp
              rw [pk_sub_toInt (by omega) (by omega), pk_sub_toInt (by omega) (by omega)]
              omega
            · exact Or.inr (Or.inr ⟨rfl, _, _, by omega, by omega, rfl, rfl⟩)
        · exact ih _ _ (cStep_q hqw).2 m hm
  exact this _ _ _ (Nat.zero_le _)
def rdSt (M : Mm) (w : Nat) (s : Nat × Bool × Nat) : Prop := Mi M 38 16 = pl s.1 ∧ Mi M 38 17 = nI (bN s.2.1) ∧ isRow (Mi M 50) s.2.2 ∧ s.2.2 < 2 ^ (s.1 - 1) ∧ s.1 ≤ w + 1
section MReading
variable {M : Mm} {w u : Nat}
theorem mStart (hM : MO M) : Rn (fX8_startsReading 38) M (fun _ M' => XF xD M M' ∧ rdSt M' w (0, false, 0)) := by
  unfold fX8_startsReading
  rw [Rn_bnd, Rn_pI, Rn_bnd, Rn_pI]
  have x0 : XF xD M (sI (sI M 38 16 (-1)) 38 17 0) := (XF.rf.sI rfl).sI rfl
  have a0 : Mi (sI (sI M 38 16 (-1)) 38 17 0) 38 16 = pl 0 := by rw [Mi_sI, if_neg (by omega), sI_self]; exact pl_0
  have b0 : Mi (sI (sI M 38 16 (-1)) 38 17 0) 38 17 = nI (bN false) := sI_self
  generalize sI (sI M 38 16 (-1)) 38 17 0 = M0 at x0 a0 b0 ⊢
  refine rn_loopv (F := fun n i => fX8_startsReading_L12 n 38 (nI i)) (fun i M' => XF xD M M' ∧ Mi M' 38 16 = pl 0 ∧ Mi M' 38 17 = nI (bN false) ∧ i ≤ 40 ∧ ∀ k, k < i → Mi M' 50 k = nI (bN ((0 : Nat).testBit k))) (fun i => 40 - i) ?_ fu 0 M0 (by unfold fu; omega) ⟨x0, a0, b0, by omega, fun k hk => by omega⟩
  rintro n i M1 ⟨x1, a1, b1, hi, hr⟩ ih
  show Rn (fX8_startsReading_L12 (n + 1) 38 (nI i)) M1 _
  have m1 := hM.xf x1
  unfold fX8_startsReading_L12
  refine Rn_cs (nle (a := 40) (by omega) (by omega)) (fun h => ?_) (fun h => ?_)
  · rw [Rn_rtn]; exact ⟨x1, a1, b1, fun k hk => hr k (by omega), by decide, Nat.zero_le _⟩
  · rw [Rn_bnd, mA15 m1, Rn_bnd, rn_aI (by omega), mL50 m1, nL1, nI_add]
    refine ⟨by omega, ih (i + 1) _ ⟨x1.sI rfl, ?_, ?_, by omega, fill_s hr ?_⟩ (by omega)⟩
    · rw [Mi_sI, if_neg (by omega)]; exact a1
    · rw [Mi_sI, if_neg (by omega)]; exact b1
    · rw [Nat.zero_testBit]; rfl
theorem mPaints (hM : MO M) {r f t : Nat} (c : Bool) (hr : isRow (Mi M 50) r) (hf : f ≤ t) (ht : t ≤ 40) (hlt : r < 2 ^ f) : Rn (fX8_paints 38 (nI f) (nI t) (nI (bN c))) M (fun _ M' => XF xD M M' ∧ Mi M' 38 = Mi M 38 ∧ isRow (Mi M' 50) (pnt r f t c)) := by
  unfold fX8_paints
  refine rn_loopv (F := fun n i => fX8_paints_L3 n 38 (nI t) (nI (bN c)) (nI i)) (fun i M' => XF xD M M' ∧ Mi M' 38 = Mi M 38 ∧ f ≤ i ∧ i ≤ t ∧ ∀ k, k < 40 → Mi M' 50 k = nI (bN (if f ≤ k ∧ k < i then c else r.testBit k))) (fun i => t - i) ?_ fu f M (by unfold fu; omega) ⟨XF.rf, rfl, Nat.le_refl _, hf, fun k hk => by rw [if_neg (by omega)]; exact hr k hk⟩
  rintro n i M1 ⟨x1, h38, hfi, hi, hk⟩ ih
  show Rn (fX8_paints_L3 (n + 1) 38 (nI t) (nI (bN c)) (nI i)) M1 _
  have m1 := hM.xf x1
  unfold fX8_paints_L3
  refine Rn_cs (nle (by omega) (by omega)) (fun h => ?_) (fun h => ?_)
  · rw [Rn_rtn]
    refine ⟨x1, h38, fun k hk2 => ?_⟩
    rw [hk k hk2, pnt_bit hf hlt, show i = t by omega]
  · rw [Rn_bnd, mA15 m1, Rn_bnd, rn_aI (by omega), mL50 m1, nL1, nI_add]
    refine ⟨by omega, ih (i + 1) _ ⟨x1.sI rfl, ?_, by omega, by omega, fun k hk2 => ?_⟩ (by omega)⟩
    · funext k; rw [Mi_sI, if_neg (by omega)]; rw [h38]
    · rw [Mi_sI]
      by_cases e : k = i
      · rw [if_pos ⟨rfl, e⟩, if_pos (by omega)]
      · rw [if_neg (fun z => e z.2), hk k hk2]
        by_cases q : f ≤ k ∧ k < i
        · rw [if_pos q, if_pos (by omega)]
        · rw [if_neg q, if_neg (by omega)]
theorem mMode (hM : MO M) (hw : Mi M 38 9 = nI w) (h40 : w ≤ 40) (hu : isRow (Mi M 44) u) {m : Md} (hm : mdOk m) {s : Nat × Bool × Nat} (hs : rdSt M w s) : Rn (fX8_readsMode 38 m.1 m.2.1 m.2.2.1) M (fun a M' => a = nI (bN (rStep w u m s).isSome) ∧ XF xD M M' ∧ ∀ s', rStep w u m s = some s' → rdSt M' w s') := by
  obtain ⟨q, c, r⟩ := s
  obtain ⟨h1, h2, h3, h4, h5⟩ := hs
  have h1 : Mi M 38 16 = pl q := h1
  have h2 : Mi M 38 17 = nI (bN c) := h2
  have h3 : isRow (Mi M 50) r := h3
  have h4 : r < 2 ^ (q - 1) := h4
  have h5 : q ≤ w + 1 := h5
  unfold fX8_readsMode
  rw [Rn_bnd, Rn_gI, h1, Rn_bnd, Rn_gI, hw]
  refine Rn_cs (pl_eq (by omega) (by omega)) (fun h => ?_) (fun h => ?_)
  · rw [Rn_grd, Rn_rtn]
    have e : rStep w u m (q, c, r) = none := by unfold rStep; rw [if_pos h]
    rw [e]
    exact ⟨by decide, rfl, XF.rf, fun s' z => by cases z⟩
  · have hq : q ≤ w := by omega
    have b1 := sB_ge (u := u) (c := c) hq
    have b2 := sB_le w u q c
    have d1 := sD_ge (u := u) b2
    have d2 := sD_le w u (sB w u q c)
    rw [Rn_bnd, Rn_gI, h1, Rn_bnd, mLeast (by omega), Rn_bnd, Rn_gI, h1, Rn_bnd, Rn_gI, h2, Rn_bnd, mCBb c hM hw h40 hu h5]
    have body : ∀ a e : Nat, ∀ kind : Int32, q - 1 ≤ a → a ≤ e → (e + 1 ≤ q ∨ w < e → rStep w u m (q, c, r) = none) → (¬ (e + 1 ≤ q ∨ w < e) → rStep w u m (q, c, r) = some (e + 1, (if kind = 1 then !c else c), pnt (pnt r (q - 1) a c) a e (!c))) → e < 1000 → Rn (fX8_readsMode_L117 38 kind (nI (q - 1)) (nI a) (nI e)) M (fun a M' => a = nI (bN (rStep w u m (q, c, r)).isSome) ∧ XF xD M M' ∧ ∀ s', rStep w u m (q, c, r) = some s' → rdSt M' w s') := by
      intro a e kind ha hae hno hyes he
      unfold fX8_readsMode_L117
      rw [Rn_bnd, Rn_gI, h1]
      refine Rn_cs (pl_ge (by omega) (by omega)) (fun g1 => ?_) (fun g1 => ?_)
      · rw [Rn_grd, Rn_rtn, hno (Or.inl g1)]
        exact ⟨by decide, rfl, XF.rf, fun s' z => by cases z⟩
      · rw [Rn_bnd, Rn_gI, hw]
        refine Rn_cs (nle (by omega) (by omega)) (fun g2 => ?_) (fun g2 => ?_)
        · rw [hyes (by omega), Rn_bnd, Rn_gI, h2, Rn_bnd]
          refine (mPaints hM c h3 ha (by omega) h4).mono ?_
          rintro - M1 ⟨x1, t1, r1⟩
          have m1 := hM.xf x1
          have c1 : Mi M1 38 17 = nI (bN c) := by rw [t1]; exact h2
          rw [Rn_bnd, Rn_gI, c1, nL1, bN_1, Rn_bnd]
          refine (mPaints m1 (!c) r1 hae (by omega) (pnt_lt ha h4)).mono ?_
          rintro - M2 ⟨x2, t2, r2⟩
          have c2 : Mi M2 38 17 = nI (bN c) := by rw [t2]; exact c1
          rw [Rn_bnd, Rn_pI]
          have fin : ∀ v : Bool, v = (if kind = 1 then !c else c) → Rn (fX8_readsMode_L190 (nI (bN v)) 38) (sI M2 38 16 (nI e)) (fun z M' => z = nI (bN (some (e + 1, (if kind = 1 then !c else c), pnt (pnt r (q - 1) a c) a e (!c))).isSome) ∧ XF xD M M' ∧ ∀ s', some (e + 1, (if kind = 1 then !c else c), pnt (pnt r (q - 1) a c) a e (!c)) = some s' → rdSt M' w s') := by
            intro v hv
            unfold fX8_readsMode_L190
            rw [Rn_bnd, Rn_pI, Rn_grd, Rn_rtn]
            refine ⟨by decide, rfl, (((x1.tr x2).sI rfl).sI rfl), fun s' z => ?_⟩
            cases z
            refine ⟨?_, ?_, ?_, ?_, ?_⟩
            · rw [Mi_sI, if_neg (by omega), sI_self, pl_s]
            · rw [sI_self, hv]
            · intro k hk
              rw [Mi_sI, if_neg (by omega), Mi_sI, if_neg (by omega)]; exact r2 k hk
            · exact pnt_lt hae (pnt_lt ha h4)
            · show e + 1 ≤ w + 1; omega
          have c3 : Mi (sI M2 38 16 (nI e)) 38 17 = nI (bN c) := by rw [Mi_sI, if_neg (by omega)]; exact c2
          refine Rn_cs Iff.rfl (fun k1 => ?_) (fun k1 => ?_)
          · rw [Rn_bnd, Rn_gI, c3, bN_1]
            exact fin (!c) (by rw [if_pos (show kind = 1 from k1)])
          · rw [Rn_bnd, Rn_gI, c3]
            exact fin c (by rw [if_neg (show ¬ kind = 1 from k1)])
        · rw [Rn_grd, Rn_rtn, hno (Or.inr (by omega))]
          exact ⟨by decide, rfl, XF.rf, fun s' z => by cases z⟩
    rcases hm with k0 | ⟨k1, x, hx, ho⟩ | ⟨k2, ma, mb, hma, hmb, ho, ht⟩
    · rw [k0, if_pos (by decide), Rn_bnd, Rn_gI, hw]
      have e : rStep w u m (q, c, r) = some (sD w u (sB w u q c) + 1, c, pnt r (q - 1) (sD w u (sB w u q c)) c) := by
        unfold rStep; rw [if_neg h, if_pos k0]
      have key : Rn (fX8_readsMode_L63 38 (nI (q - 1)) (nI (sD w u (sB w u q c)))) M (fun a M' => a = nI (bN (rStep w u m (q, c, r)).isSome) ∧ XF xD M M' ∧ ∀ s', rStep w u m (q, c, r) = some s' → rdSt M' w s') := by
        unfold fX8_readsMode_L63
        rw [Rn_bnd, Rn_gI, h2, Rn_bnd]
        refine (mPaints hM c h3 (show q - 1 ≤ sD w u (sB w u q c) by omega) (by omega) h4).mono ?_
        rintro - M1 ⟨x1, t1, r1⟩
        rw [Rn_bnd, Rn_pI, Rn_grd, Rn_rtn, e]
        refine ⟨by decide, rfl, x1.sI rfl, fun s' z => ?_⟩
        cases z
        refine ⟨?_, ?_, ?_, ?_, ?_⟩
        · rw [sI_self, pl_s]
        · rw [Mi_sI, if_neg (by omega), t1]; exact h2
        · intro k hk
          rw [Mi_sI, if_neg (by omega)]; exact r1 k hk
        · exact pnt_lt (by omega) h4
        · show sD w u (sB w u q c) + 1 ≤ w + 1; omega
      refine Rn_cs (neq (by omega) (by omega)) (fun hB => ?_) (fun hB => ?_)
      · have : sD w u (sB w u q c) = w := by unfold sD; rw [fb_ge_w (by omega)]
        rw [this] at key
        rw [Rn_bnd, Rn_gI, hw]
        exact key
      · rw [Rn_bnd, mCBd hM hw h40 hu b2]
        exact key
    · rw [k1, if_neg (by decide), if_pos (by decide), ho]
      have ey : nI (sB w u q c) + (nI x - nI 3) = nI (sB w u q c + x) - nI 3 := by
        rw [Int32.sub_eq_add_neg, ← Int32.add_assoc, nI_add, ← Int32.sub_eq_add_neg]
      have e : rStep w u m (q, c, r) = if sB w u q c + x < q + 3 ∨ w + 3 < sB w u q c + x then none else some (sB w u q c + x - 3 + 1, !c, pnt r (q - 1) (sB w u q c + x - 3) c) := by
        unfold rStep; rw [if_neg h, if_neg (by rw [k1]; decide), if_pos k1, ho, vm3 hx]
      unfold fX8_readsMode_L101
      rw [if_pos (by decide), ey]
      by_cases hy : sB w u q c + x < q + 3
      · unfold fX8_readsMode_L117
        rw [Rn_bnd, Rn_gI, h1, if_pos ((v_le (by omega) (by omega)).mpr hy), Rn_grd, Rn_rtn, e, if_pos (Or.inl hy)]
        exact ⟨by decide, rfl, XF.rf, fun s' z => by cases z⟩
      · rw [nsb (by omega)]
        refine body (sB w u q c + x - 3) (sB w u q c + x - 3) (nI 1) (by omega) (Nat.le_refl _) (fun g => ?_) (fun g => ?_) (by omega)
        · rw [e, if_pos (by omega)]
        · rw [e, if_neg (by omega), if_pos (show nI 1 = 1 from rfl), pnt_id]
    · rw [k2, if_neg (by decide), if_neg (by decide), ho, ht, nI_add]
      have e : rStep w u m (q, c, r) = if q - 1 + ma + mb + 1 ≤ q ∨ w < q - 1 + ma + mb then none else some (q - 1 + ma + mb + 1, c, pnt (pnt r (q - 1) (q - 1 + ma) c) (q - 1 + ma) (q - 1 + ma + mb) (!c)) := by
        unfold rStep; rw [if_neg h, if_neg (by rw [k2]; decide), if_neg (by rw [k2]; decide), ho, ht, ix_n (by omega), ix_n (by omega)]
      unfold fX8_readsMode_L101
      rw [if_neg (by decide), nI_add]
      refine body (q - 1 + ma) (q - 1 + ma + mb) (nI 2) (by omega) (by omega) (fun g => ?_) (fun g => ?_) (by omega)
      · rw [e, if_pos g]
      · rw [e, if_neg g, if_neg (by decide)]
theorem mReads {L : List Md} (hM : MO M) (hw : Mi M 38 9 = nI w) (h40 : w ≤ 40) (hu : isRow (Mi M 44) u) (hL : ∀ m, m ∈ L → mdOk m) (h48 : L.length ≤ 48) (hn : Mi M 38 14 = nI L.length) (hC : isCd (Mi M 46) (Mi M 47) (Mi M 48) (Mi M 49) L) : Rn (fX8_readsCode 38) M (fun a M' => a = nI (bN (rdC w u L).isSome) ∧ XF xD M M' ∧ ∀ r, rdC w u L = some r → isRow (Mi M' 50) r) := by
  unfold fX8_readsCode
  rw [Rn_bnd]
  refine (mStart (w := w) hM).mono ?_
  rintro - M0 ⟨x0, s0⟩
  refine rn_loopv (F := fun n (s : Option (Nat × Bool × Nat) × Nat) => fX8_readsCode_L8 n 38 (nI (bN s.1.isSome)) (nI s.2)) (fun s M' => XF xD M M' ∧ s.2 ≤ L.length ∧ (∀ z, s.1 = some z → rdSt M' w z ∧ rdC w u L = rdE w (rdL w u (L.drop s.2) z)) ∧ (s.1 = none → rdC w u L = none)) (fun s => L.length - s.2) ?_ fu (some (0, false, 0), 0) M0 (by show L.length - 0 < fu; unfold fu; omega) ⟨x0, Nat.zero_le _, fun z hz => by cases hz; exact ⟨s0, rfl⟩, fun z => by cases z⟩
  rintro n ⟨o, i⟩ M1 ⟨x1, hi, hs, hno⟩ ih
  have hi : i ≤ L.length := hi
  show Rn (fX8_readsCode_L8 (n + 1) 38 (nI (bN o.isSome)) (nI i)) M1 _
  have m1 := hM.xf x1
  have n1 : Mi M1 38 14 = nI L.length := by rw [x1.mi rfl]; exact hn
  have w1 : Mi M1 38 9 = nI w := by rw [x1.mi rfl]; exact hw
  have u1 : isRow (Mi M1 44) u := by rw [x1.row (fun _ => rfl)]; exact hu
  have c1 : isCd (Mi M1 46) (Mi M1 47) (Mi M1 48) (Mi M1 49) L := by rw [x1.row (fun _ => rfl), x1.row (fun _ => rfl), x1.row (fun _ => rfl), x1.row (fun _ => rfl)]; exact hC
  have stop : (o = none ∨ L.length ≤ i) → Rn (fX8_readsCode_L49 38 (nI (bN o.isSome))) M1 (fun a M' => a = nI (bN (rdC w u L).isSome) ∧ XF xD M M' ∧ ∀ r, rdC w u L = some r → isRow (Mi M' 50) r) := by
    intro hst
    unfold fX8_readsCode_L49
    cases o with
    | none =>
      rw [if_pos (by decide), Rn_grd, Rn_rtn, hno rfl]
      exact ⟨by decide, rfl, x1, fun r z => by cases z⟩
    | some z =>
      obtain ⟨⟨a1, a2, a3, a4, a5⟩, hr⟩ := hs z rfl
      have hil : L.length ≤ i := by rcases hst with q | q; cases q; exact q
      have hr : rdC w u L = rdE w (rdL w u (L.drop i) z) := hr
      rw [List.drop_of_length_le hil] at hr
      have hr : rdC w u L = if z.1 = w + 1 then some z.2.2 else none := hr
      rw [if_neg (by show ¬ nI (bN true) = 0; decide), Rn_bnd, Rn_gI, a1, Rn_bnd, Rn_gI, w1]
      refine Rn_cs (pl_eq (by omega) (by omega)) (fun g => ?_) (fun g => ?_)
      · rw [Rn_grd, Rn_rtn, hr, if_pos g]
        exact ⟨by decide, rfl, x1, fun r hz => by cases hz; exact a3⟩
      · rw [Rn_grd, Rn_rtn, hr, if_neg g]
        exact ⟨by decide, rfl, x1, fun r hz => by cases hz⟩
  unfold fX8_readsCode_L8
  rw [Rn_bnd, Rn_gI, n1]
  refine Rn_cs (nle (by omega) (by omega)) (fun h => stop (Or.inr h)) (fun h => ?_)
  cases o with
  | none => rw [if_pos (by decide)]; exact stop (Or.inl rfl)
  | some z =>
    rw [if_neg (by show ¬ nI (bN true) = 0; decide)]
    obtain ⟨sz, hr⟩ := hs z rfl
    have hr : rdC w u L = rdE w (rdL w u (L.drop i) z) := hr
    have hm : L[i]? = some (L[i]'(by omega)) := List.getElem?_eq_getElem (by omega)
    have hmem : L[i]'(by omega) ∈ L := List.getElem_mem _
    rw [List.drop_eq_getElem_cons (by omega)] at hr
    generalize L[i]'(by omega) = m at hm hmem hr
    obtain ⟨d1, d2, d3, d4⟩ := c1 i m hm
    rw [Rn_bnd, mA10 m1, Rn_bnd, rn_lI (by omega), mL46 m1, d1]
    refine ⟨by omega, ?_⟩
    rw [Rn_bnd, mA11 m1, Rn_bnd, rn_lI (by omega), mL47 m1, d2]
    refine ⟨by omega, ?_⟩
    rw [Rn_bnd, mA12 m1, Rn_bnd, rn_lI (by omega), mL48 m1, d3]
    refine ⟨by omega, ?_⟩
    rw [Rn_bnd]
    refine (mMode m1 w1 h40 u1 (hL m hmem) sz).mono ?_
    rintro a M2 ⟨rfl, x2, h2⟩
    rw [nL1, nI_add]
    have hr : rdC w u L = rdE w (match rStep w u m z with | some s' => rdL w u (L.drop (i + 1)) s' | none => none) := hr
    refine ih (rStep w u m z, i + 1) M2 ⟨x1.tr x2, by show i + 1 ≤ L.length; omega, fun z' hz => ?_, fun hz => ?_⟩ (by show L.length - (i + 1) < L.length - i; omega)
    · have hz : rStep w u m z = some z' := hz
      rw [hz] at hr
      exact ⟨h2 z' hz, hr⟩
    · have hz : rStep w u m z = none := hz
      rw [hz] at hr
      exact hr
end MReading
section MReadE
variable {M : Mm} {P : Pg}
theorem mReadBelow (hM : MO M) (hP : isPgM (Mi M 39) P) (hw : wfP P) (x y : Int32) : Rn (fX8_readBelow 38 x y) M (fun b M' => mR (spReadBelow P x y) b M' ∧ XF xRd M M') := by
  have h40 := hw.2.1
  have h20 := hw.2.2.1
  have bad : Rn (fX8_readBelow_L26 38 x y 38) M (fun b M' => mR (.inl 1) b M' ∧ XF xRd M M') := by
    unfold fX8_readBelow_L26 fX8_readBelow_L27
    refine mPI0 hM hP (fun M0 x0 t0 m0 p0 => ?_)
    rw [Rn_bnd, Rn_gI, t0, if_neg (by decide), Rn_rtn]
    exact ⟨mR_l t0, x0⟩
  unfold fX8_readBelow spReadBelow
  rw [Rn_bnd, mIsLine hM hP hw]
  by_cases h : isLn (PL P) x = true
  · rw [h, if_neg (by decide)]
    obtain ⟨l, hl, rfl⟩ := isLn_t (by omega) h
    rw [ix_n (by omega)]
    have good : ∀ u : Nat, (y = -1 ∧ u = 0) ∨ (∃ l2, l2 < PL P ∧ y = nI l2 ∧ u = Pr P l2) → Rn (fX8_readBelow_L22 38 (nI l) y 38) M (fun b M' => mR (.inr (rbV P l u)) b M' ∧ XF xRd M M') := by
      intro u hu
      unfold fX8_readBelow_L22 fX8_readBelow_L27
      refine mPI0 hM hP (fun M0 x0 t0 m0 p0 => ?_)
      rw [Rn_bnd, Rn_gI, t0, if_pos (by decide), Rn_bnd]
      refine (mCLine m0 p0 hw hl).mono ?_
      rintro - M1 ⟨x1, c1, c2, c3, c4, c5, c6, c7⟩
      have m1 := m0.xf x1
      have p1 : isPgM (Mi M1 39) P := by rw [x1.row (fun _ => rfl)]; exact p0
      have t1 : Mi M1 38 0 = nI 0 := by rw [x1.mi rfl]; exact t0
      have lc := cod_len (Pw P) (Pr P l) (Pu P l)
      have key : ∀ s0, Rn (fX8_laysUpper 38 39 s0) M1 (fun _ M' => XF xU M1 M' ∧ Mi M' 38 = Mi M1 38 ∧ isRow (Mi M' 44) u) → Rn (fX8_readBelow_L63 38 s0 39 38) M1 (fun b M' => mR (.inr (rbV P l u)) b M' ∧ XF xRd M M') := by
        intro s0 hs0
        unfold fX8_readBelow_L63
        rw [Rn_bnd]
        refine hs0.mono ?_
        rintro - M2 ⟨x2, t2, u2⟩
        have m2 := m1.xf x2
        rw [Rn_bnd]
        refine (mReads (L := cod (Pw P) (Pr P l) (Pu P l)) m2 (by rw [t2]; exact c1) h40 u2 (cod_ok h40) (by omega) (by rw [t2]; exact c4) (by rw [x2.row (fun _ => rfl), x2.row (fun _ => rfl), x2.row (fun _ => rfl), x2.row (fun _ => rfl)]; exact c5)).mono ?_
        rintro a M3 ⟨rfl, x3, r3⟩
        have m3 := m2.xf x3
        have w3 : Mi M3 38 9 = nI (Pw P) := by rw [x3.mi rfl, t2]; exact c1
        have l3 : isRow (Mi M3 45) (Pr P l) := by rw [x3.row (fun _ => rfl), x2.row (fun _ => rfl)]; exact c3
        have t3 : Mi M3 38 0 = nI 0 := by rw [x3.mi rfl, t2]; exact t1
        have x03 : XF xRd M M3 := ((x0.tr (x1.mono xCd_Rd)).tr ((x2.mono xU_L).mono (fun a b z => xL_Cd a b (xCd_Rd a b z)))).tr (x3.mono (fun a b z => xD_Cd a b (xCd_Rd a b z)))
        cases hr : rdC (Pw P) u (cod (Pw P) (Pr P l) (Pu P l)) with
        | none =>
          rw [if_pos (by decide), Rn_rtn]
          have : rbV P l u = -1 := by unfold rbV; rw [hr]
          rw [this]
          exact ⟨mR_r t3, x03⟩
        | some q =>
          rw [if_neg (by show ¬ nI (bN true) = 0; decide)]
          have : rbV P l u = nI (dif (Pw P) q (Pr P l)) := by unfold rbV; rw [hr]
          rw [this]
          have q3 := r3 q hr
          refine rn_loopv (F := fun n i => fX8_readBelow_L80 n 38 (nI (cn (fun k => q.testBit k != (Pr P l).testBit k) i)) (nI i)) (fun i M' => M' = M3 ∧ i ≤ Pw P) (fun i => Pw P - i) ?_ fu 0 M3 (by unfold fu; omega) ⟨rfl, Nat.zero_le _⟩
          rintro n i M4 ⟨rfl, hi⟩ ih
          show Rn (fX8_readBelow_L80 (n + 1) 38 (nI (cn (fun k => q.testBit k != (Pr P l).testBit k) i)) (nI i)) M4 _
          unfold fX8_readBelow_L80 fX8_readBelow_L112
          rw [Rn_bnd, Rn_gI, w3]
          refine Rn_cs (nle (by omega) (by omega)) (fun h4 => ?_) (fun h4 => ?_)
          · rw [Rn_rtn, show i = Pw P by omega]; exact ⟨mR_r t3, x03⟩
          · have nx := ih (i + 1) M4 ⟨rfl, by omega⟩ (by omega)
            rw [cn_s] at nx
            rw [Rn_bnd, mA15 m3, Rn_bnd, rn_lI (by omega), mL50 m3, q3 i (by omega)]
            refine ⟨by omega, ?_⟩
            rw [Rn_bnd, mA8 m3, Rn_bnd, rn_lI (by omega), mL45 m3, l3 i (by omega)]
            refine ⟨by omega, Rn_cs (bx_eq _ _) (fun h5 => ?_) (fun h5 => ?_)⟩
            · rw [Rn_bnd, Rn_rtn, nL0, nI_add, nL1, nI_add]
              rw [h5] at nx; exact nx
            · rw [Rn_bnd, Rn_rtn, nL1, nI_add, nI_add]
              rw [show (q.testBit i != (Pr P l).testBit i) = true by simpa using h5] at nx; exact nx
      rw [Rn_bnd, mA1 m1]
      rcases hu with ⟨rfl, rfl⟩ | ⟨l2, hl2, rfl, rfl⟩
      · rw [if_pos rfl]
        exact key _ (mUpper0 m1 39)
      · rw [if_neg (ne_m1 (by omega)), Rn_bnd, nL0, mDotAt]
        exact key _ (mUpperF m1 (by decide) (by decide) (by rw [mL39 m1]; omega) (by omega) (fun k hk => p1.d hl2 hk))
    by_cases h1 : y = -1
    · subst h1
      rw [if_pos rfl, if_pos ⟨rfl, Or.inl rfl⟩, if_pos rfl]
      exact good 0 (Or.inl ⟨rfl, rfl⟩)
    · rw [if_neg h1, Rn_bnd, mIsLine hM hP hw]
      by_cases h2 : isLn (PL P) y = true
      · rw [h2, if_neg (by decide), if_pos ⟨rfl, Or.inr rfl⟩, if_neg h1]
        obtain ⟨l2, hl2, rfl⟩ := isLn_t (by omega) h2
        rw [ix_n (by omega)]
        exact good _ (Or.inr ⟨l2, hl2, rfl, rfl⟩)
      · have h3 : isLn (PL P) y = false := by simpa using h2
        rw [h3, if_pos (by decide), if_neg (fun z => z.2.elim h1 (fun q => absurd q (by decide)))]
        exact bad
  · have h3 : isLn (PL P) x = false := by simpa using h
    rw [h3, if_pos (by decide), if_neg (fun z => absurd z.1 (by decide))]; exact bad
end MReadE
