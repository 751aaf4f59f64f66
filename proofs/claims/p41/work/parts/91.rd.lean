/-! READING A CODE BELOW A ROW -/
theorem br_pt {M : Mm} {h w p f k : Nat} {c : Bool} (b : isBr M h w (pnt p f k c)) (hp : p < 2 ^ f) (hf : f ≤ k) : isBr (sI M h k (nI (bN c))) h w (pnt p f (k + 1) c) := by
  obtain ⟨b1, b2, b3, b4⟩ := b
  refine ⟨b1, b2, b3, fun j hj => ?_⟩
  rw [Mi_sI, pnt_bit (by omega) hp]
  by_cases q : j = k
  · rw [if_pos ⟨rfl, q⟩, if_pos (by omega)]
  · rw [if_neg (fun z => q z.2), b4 j hj, pnt_bit hf hp]
    by_cases z : f ≤ j ∧ j < k
    · rw [if_pos z, if_pos (by omega)]
    · rw [if_neg z, if_neg (by omega)]
theorem pnt_0 {p f : Nat} {c : Bool} (hp : p < 2 ^ f) : pnt p f f c = p := by
  apply Nat.eq_of_testBit_eq
  intro k
  rw [pnt_bit (Nat.le_refl _) hp, if_neg (by omega)]
section RD
variable {k16 : Nat → Nat → Int32 → Int32 → Nat → Mm → Option ((Option Nat) × Mm × Nat × Nat)} {Q : Option Nat → Mm → Nat → Nat → Prop} {c0 s0 : Nat}
theorem pt1 {M : Mm} {hu hr it x6 w p f t e : Nat} {c : Bool} (b : isBr M hr w p) (hp : p < 2 ^ f) (hf : f ≤ t) (ht : t ≤ w) (hw : w ≤ 27) (k : ∀ M', Gx (x1 hr) (Mn M) M M' → Mn M' = Mn M → isBr M' hr w (pnt p f t c) → Rw (gL_read_L183 k16 fu hu hr (nI (bN c)) it x6 (nI e) (nI t)) M' c0 s0 Q) : Rw (gL_read_L160 k16 fu hu hr (nI (bN c)) it x6 (nI t) (nI e) (nI f)) M c0 s0 Q := by
  refine rw_loopv (F := fun n (j : Nat) => gL_read_L160 k16 n hu hr (nI (bN c)) it x6 (nI t) (nI e) (nI j)) (fun j M' c' s' => f ≤ j ∧ j ≤ t ∧ Gx (x1 hr) (Mn M) M M' ∧ Mn M' = Mn M ∧ isBr M' hr w (pnt p f j c) ∧ c' = c0 ∧ s' = s0) (fun j => t - j) ?_ fu f M c0 s0 (by unfold fu; omega) ⟨Nat.le_refl _, hf, Gx.rf, rfl, by rw [pnt_0 hp]; exact b, rfl, rfl⟩
  rintro n j M1 c1 s1 ⟨h1, h2, g, n1, b1, rfl, rfl⟩ ih
  show Rw (gL_read_L160 k16 (n + 1) hu hr (nI (bN c)) it x6 (nI t) (nI e) (nI j)) _ _ _ _
  unfold gL_read_L160
  refine Rw_cs (d := t ≤ j) (nle (by omega) (by omega)) (fun z => ?_) (fun z => ?_)
  · have : j = t := by omega
    subst this
    exact k M1 g n1 b1
  · rw [Rw_wb, rn_aZ (by omega) (by cases c; exact Or.inl rfl; exact Or.inr rfl), b1.2.2.1, nL1, nI_add]
    refine ⟨by omega, ?_⟩
    exact ih (j + 1) _ _ _ ⟨by omega, by omega, g.sI (fun _ => by simp [x1]), n1, br_pt b1 hp h1, rfl, rfl⟩ (by omega)
theorem pt2 {M : Mm} {hu hr it x6 w p f e : Nat} {c : Bool} (b : isBr M hr w p) (hp : p < 2 ^ f) (hf : f ≤ e) (ht : e ≤ w) (hw : w ≤ 27) (k : ∀ M', Gx (x1 hr) (Mn M) M M' → Mn M' = Mn M → isBr M' hr w (pnt p f e (!c)) → Rw (wb (gI x6 0) fun v1 => if (v1 : Int32) = 1 then gL_read_L227 k16 hu hr (nI e) (nI (bN c)) it 1 else gL_read_L227 k16 hu hr (nI e) (nI (bN c)) it 0) M' c0 s0 Q) : Rw (gL_read_L183 k16 fu hu hr (nI (bN c)) it x6 (nI e) (nI f)) M c0 s0 Q := by
  refine rw_loopv (F := fun n (j : Nat) => gL_read_L183 k16 n hu hr (nI (bN c)) it x6 (nI e) (nI j)) (fun j M' c' s' => f ≤ j ∧ j ≤ e ∧ Gx (x1 hr) (Mn M) M M' ∧ Mn M' = Mn M ∧ isBr M' hr w (pnt p f j (!c)) ∧ c' = c0 ∧ s' = s0) (fun j => e - j) ?_ fu f M c0 s0 (by unfold fu; omega) ⟨Nat.le_refl _, hf, Gx.rf, rfl, by rw [pnt_0 hp]; exact b, rfl, rfl⟩
  rintro n j M1 c1 s1 ⟨h1, h2, g, n1, b1, rfl, rfl⟩ ih
  show Rw (gL_read_L183 k16 (n + 1) hu hr (nI (bN c)) it x6 (nI e) (nI j)) _ _ _ _
  unfold gL_read_L183
  refine Rw_cs (d := e ≤ j) (nle (by omega) (by omega)) (fun z => ?_) (fun z => ?_)
  · have : j = e := by omega
    subst this
    exact k M1 g n1 b1
  · have key : Rw (gL_read_L203 (gL_read_L183 k16 n) hu hr (nI (bN c)) it x6 (nI e) (nI j) (nI (bN (!c))) (nI j) hr) M1 c1 s1 Q := by
      unfold gL_read_L203
      rw [Rw_wb, rn_aZ (by omega) (by cases c; exact Or.inr rfl; exact Or.inl rfl), b1.2.2.1, nL1, nI_add]
      refine ⟨by omega, ?_⟩
      exact ih (j + 1) _ _ _ ⟨by omega, by omega, g.sI (fun _ => by simp [x1]), n1, br_pt b1 hp h1, rfl, rfl⟩ (by omega)
    have hn := bN_not c
    refine Rw_cs (d := nI (bN c) = 0) Iff.rfl (fun x => ?_) (fun x => ?_)
    · rw [← hn.1 x]; exact key
    · rw [← hn.2 x]; exact key
theorem rd227 {M : Mm} {hu hr it e : Nat} {c k1 : Bool} (k : Rw (k16 hu hr (nI e) (nI (bN (k1 != c))) it) M c0 s0 Q) : Rw (gL_read_L227 k16 hu hr (nI e) (nI (bN c)) it (nI (bN k1))) M c0 s0 Q := by
  unfold gL_read_L227 gL_read_L237
  refine Rw_cs (d := k1 = c) (bN_eq _ _) (fun z => ?_) (fun z => ?_)
  · subst z
    have : (k1 != k1) = false := by cases k1 <;> rfl
    rw [this] at k; exact k
  · have : (k1 != c) = true := by cases k1 <;> cases c <;> simp at z ⊢
    rw [this] at k; exact k
/-- both colours painted, then on -/
theorem rd156 {M : Mm} {hu hr it x6 w p f t e : Nat} {c k1 : Bool} {m : Md} (b : isBr M hr w p) (hp : p < 2 ^ f) (hf : f ≤ t) (ht : t ≤ e) (he : e ≤ w) (hw : w ≤ 27) (hm : isMd M x6 m) (hne : x6 ≠ hr) (hk1 : (m.1 = 1) ↔ k1 = true) (k : ∀ M', Gx (x1 hr) (Mn M) M M' → Mn M' = Mn M → isBr M' hr w (pnt (pnt p f t c) t e (!c)) → Rw (k16 hu hr (nI e) (nI (bN (k1 != c))) it) M' c0 s0 Q) : Rw (gL_read_L156 k16 hu hr (nI (bN c)) it x6 (nI f) (nI t) (nI e)) M c0 s0 Q := by
  unfold gL_read_L156
  refine pt1 b hp hf (by omega) hw (fun M1 g1 n1 b1 => ?_)
  refine pt2 b1 (pnt_lt hf hp) ht he hw (fun M2 g2 n2 b2 => ?_)
  have g12 : Gx (x1 hr) (Mn M) M M2 := g1.tr (g2.mono (by omega) (fun _ _ z => z))
  have hm2 := hm.gx g12 hm.1 (x1_f hne)
  rw [Rw_wb, Rn_gI, hm2.2.2.1]
  refine Rw_cs (d := k1 = true) hk1 (fun z => ?_) (fun z => ?_)
  · subst z
    exact rd227 (k1 := true) (k M2 g12 (by omega) b2)
  · have : k1 = false := by cases k1 with
      | true => exact absurd rfl z
      | false => rfl
    subst this
    exact rd227 (k1 := false) (k M2 g12 (by omega) b2)
end RD
def kRd (m n : Nat) : Nat := 2 + m * (3 + cpC n)
def sRd (w m n : Nat) : Nat := w + 4 + m * (9 + cpS n)
theorem dropG {α : Type} {L : List α} {i : Nat} {y : α} (h : L[i]? = some y) : L.drop i = y :: L.drop (i + 1) := by
  have hi := (List.getElem?_eq_some_iff.mp h)
  obtain ⟨h1, h2⟩ := hi
  rw [List.drop_eq_getElem_cons h1, h2]
theorem lRead {M : Mm} {N hc_ hu w u : Nat} {L : List Md} (l : isCl M N hc_ L) (bu : isBr M hu w u) (hw : w ≤ 27) (hok : ∀ m, m ∈ L → mdOk m) {c s : Nat} (hp : Pl M c) (hc : c ≤ 880000000) : Rw (gL_read hc_ hu) M c s (fun o M' c' s' => Gx xO (Mn M) M M' ∧ Cs M c s M' c' s' (kRd L.length (chU u w).length) (sRd w L.length (chU u w).length) ∧ Pl M' c' ∧ (∀ p, rdC w u L = some p → ∃ h, o = some h ∧ isBr M' h w p ∧ Mn M ≤ h) ∧ (rdC w u L = none → o = none)) := by
  have hm := hp.1
  obtain ⟨a, hs, l0, h1, h2, h3, h4⟩ := l
  have hlen := l0.len
  have hlt := l0.1
  have hu0 := bu.1
  unfold gL_read
  rw [Rw_wb, bu.gN, Rw_wq, Rw_nA (by omega) (by omega)]
  have g1 : Gx xO (Mn M) M (nw M 13 w) := Gx.rf.nw (Nat.le_refl _) (by rw [SB_v]; omega)
  have n1 : Mn (nw M 13 w) = Mn M + 1 := rfl
  have br1 : isBr (nw M 13 w) (Mn M) w 0 := by
    refine ⟨by rw [n1]; omega, by rw [Mk_nw, if_pos rfl], by rw [Ml_nw, if_pos rfl], fun k _ => ?_⟩
    rw [Mi_nw, if_pos rfl, Nat.zero_testBit]; rfl
  have p1 := hp.go g1 (c' := c + 1) (by omega)
  generalize nw M 13 w = M1 at g1 n1 br1 p1
  have bu1 := bu.gx g1 hu0 rfl
  have l1 : isL M1 hc_ a hs := l0.gx g1 hlt rfl (fun z => ⟨l0.lt z, rfl⟩)
  have d1 : ∀ (i x : Nat) (m : Md), hs[i]? = some x → L[i]? = some m → isMd M1 x m ∧ x < Mn M := fun i x m q1 q2 => ⟨(h4 i x m q1 q2).1.gx g1 (h4 i x m q1 q2).1.1 rfl, (h4 i x m q1 q2).1.1⟩
  have la : a ≠ EB → a < Mn M := fun z => l0.lt z
  clear h4 l0 bu
  rw [Rw_wq]
  refine (itNew (M := M1) (h := hc_) (by omega) (by omega)).mono ?_
  rintro it M2 c2 s2 ⟨rfl, n2, rfl, rfl, g2, it2⟩
  have br2 := br1.gx g2 br1.1 rfl
  have p2 : Pl M2 (c + 1 + 1) := p1.go g2 (by omega)
  generalize hKU : 3 + cpC (chU u w).length = KU
  generalize hKV : 9 + cpS (chU u w).length = KV
  have hK8 : KU ≤ 7 := by have := cpC_le (chU u w).length; omega
  have g12 : Gx xO (Mn M) M M2 := g1.tr (g2.mono (by omega) (fun _ _ z => z))
  refine rw_loopv (F := fun n (x : Nat × Nat × Bool × Nat) => gL_read_L16 n hu (Mn M) (pl x.2.1) (nI (bN x.2.2.1)) (Mn M1)) (fun x M' c' s' => x.1 ≤ L.length ∧ x.2.1 ≤ w + 1 ∧ x.2.2.2 < 2 ^ (x.2.1 - 1) ∧ rdL w u L (0, false, 0) = rdL w u (L.drop x.1) (x.2.1, x.2.2.1, x.2.2.2) ∧ Gx (x2 (Mn M) (Mn M1)) (Mn M2) M2 M' ∧ isIt M' (Mn M1) hc_ x.1 ∧ isBr M' (Mn M) w x.2.2.2 ∧ Mn M' + (c + 2) ≤ Mn M2 + c' ∧ c + 2 ≤ c' ∧ c' ≤ c + 2 + x.1 * KU ∧ s' ≤ s + w + 4 + x.1 * KV) (fun x => L.length - x.1) ?_ fu (0, 0, false, 0) M2 (c + 1 + 1) (s + w + 4) (by unfold fu; show L.length - 0 < 20000; omega) ⟨Nat.zero_le _, Nat.zero_le _, by decide, rfl, Gx.rf, it2, br2, by omega, by omega, by omega, by omega⟩
  rintro n ⟨i, q, cl, p⟩ M3 c3 s3 ⟨hi, hq, hpp, hrd, g3, it3, br3, f1, f2, f3, f4⟩ ih
  have hi : i ≤ L.length := hi
  have hq : q ≤ w + 1 := hq
  have hpp : p < 2 ^ (q - 1) := hpp
  have hrd : rdL w u L (0, false, 0) = rdL w u (L.drop i) (q, cl, p) := hrd
  have it3 : isIt M3 (Mn M1) hc_ i := it3
  have br3 : isBr M3 (Mn M) w p := br3
  have f3 : c3 ≤ c + 2 + i * KU := f3
  have f4 : s3 ≤ s + w + 4 + i * KV := f4
  have hiK : i * KU ≤ 33 * 7 := Nat.mul_le_mul (by omega) hK8
  have p3 : Pl M3 c3 := p2.go g3 (by omega)
  have X : ∀ {z : Nat}, z < Mn M → x2 (Mn M) (Mn M1) z = false := fun h => x2_f (by omega) (by omega)
  have l3 : isL M3 hc_ a hs := (l1.gx g2 (by omega) rfl (fun z => ⟨by have := la z; omega, rfl⟩)).gx g3 (by omega) (X hlt) (fun z => ⟨by have := la z; omega, X (la z)⟩)
  have bu3 : isBr M3 hu w u := (bu1.gx g2 (by omega) rfl).gx g3 (by omega) (X hu0)
  have hm23 := g3.mn
  show Rw (gL_read_L16 (n + 1) hu (Mn M) (pl q) (nI (bN cl)) (Mn M1)) _ _ _ _
  unfold gL_read_L16
  rw [Rw_wq]
  have gfin : Gx xO (Mn M) M M3 := g12.tr (g3.mono (by omega) (fun z hz _ => X hz))
  have mkm : ∀ j, j ≤ L.length → j * KU ≤ L.length * KU ∧ j * KV ≤ L.length * KV := fun j hj => ⟨Nat.mul_le_mul_right _ hj, Nat.mul_le_mul_right _ hj⟩
  have fin0 : ∀ (M' : Mm) (c' s' : Nat), Gx xO (Mn M) M M' → Pl M' c' → Mn M' + c ≤ Mn M + c' → c + 2 ≤ c' → c' ≤ c + 2 + L.length * KU → s' ≤ s + w + 4 + L.length * KV → Cs M c s M' c' s' (kRd L.length (chU u w).length) (sRd w L.length (chU u w).length) := by
    intro M' c' s' _ _ z1 z2 z3 z4
    unfold kRd sRd
    rw [hKU, hKV]
    refine ⟨z1, by omega, by omega, by omega⟩
  by_cases hf : i < L.length
  · obtain ⟨md, hmd⟩ := gt_some L hf
    obtain ⟨x6, hx⟩ := gt_some hs (show i < hs.length by omega)
    obtain ⟨d0, d00⟩ := d1 i x6 md hx hmd
    have d3 : isMd M3 x6 md := (d0.gx g2 (by omega) rfl).gx g3 (by omega) (X d00)
    rw [itMore it3 l3 (by omega)]
    refine Rw_no (by decide) ?_
    rw [Rw_wq]
    refine itNext it3 l3 hx (by omega) (fun M4 g4 n4 it4 => ?_)
    have d4 : isMd M4 x6 md := d3.gx g4 d3.1 (x1_f (by omega))
    have bu4 := bu3.gx g4 bu3.1 (x1_f (by omega))
    have br4 := br3.gx g4 br3.1 (x1_f (by omega))
    have g34 : Gx (x2 (Mn M) (Mn M1)) (Mn M2) M2 M4 := g3.tr (g4.mono hm23 (fun z _ y => by unfold x1; unfold x2 at y; simp at y ⊢; exact y.2))
    have p4 : Pl M4 c3 := p3.go g4 (by omega)
    rw [Rw_wb, Rn_ckK d4.1 d4.2.1, Rw_wb, br4.gN]
    rw [dropG hmd] at hrd
    have hok1 := hok md (List.mem_of_getElem? hmd)
    have hnone : rStep w u md (q, cl, p) = none → rdC w u L = none := by
      intro z
      unfold rdC
      rw [hrd]
      show rdE w (match rStep w u md (q, cl, p) with | some s' => rdL w u (L.drop (i + 1)) s' | none => none) = none
      rw [z]; rfl
    have hqw : pl q = nI w ↔ q = w + 1 := by
      constructor
      · intro z
        have := congrArg Int32.toInt z
        rw [pl_toInt (by omega), nI_tI (by omega)] at this; omega
      · intro z; rw [z, pl_s]
    refine Rw_cs (d := q = w + 1) hqw (fun z => ?_) (fun z => ?_)
    · rw [Rw_wr]
      have e0 := hnone (by unfold rStep; rw [if_pos (show (q, cl, p).1 = w + 1 from z)])
      have := mkm i hi
      have g04 : Gx xO (Mn M) M M4 := g12.tr (g34.mono (by omega) (fun z hz _ => X hz))
      exact ⟨g04, fin0 M4 c3 s3 g04 p4 (by omega) f2 (by omega) (by omega), p4, fun p e => (by rw [e0] at e; cases e), fun _ => rfl⟩
    · rw [Rw_wq]
      refine (lMarks bu4 hw (show q ≤ w by omega) p4 (by omega)).mono ?_
      rintro b M5 c5 s5 ⟨g5, ⟨e1, e2, e3, e4⟩, p5, b5, hb5⟩
      have d5 := d4.gx g5 d4.1 rfl
      have br5 := br4.gx g5 br4.1 rfl
      have it5 : isIt M5 (Mn M1) hc_ (i + 1) := it4.gx g5 it4.1 rfl (by omega) rfl
      have g35 : Gx (x2 (Mn M) (Mn M1)) (Mn M2) M2 M5 := g34.tr (g5.mono (by omega) (fun _ _ _ => rfl))
      have hB := sB_le w u q cl
      have hBq := sB_ge (u := u) (c := cl) (show q ≤ w by omega)
      have hS := sD_le w u (sB w u q cl)
      have hSB := sD_ge (u := u) hB
      have hiK1 : (i + 1) * KU = i * KU + KU := Nat.succ_mul _ _
      have hiV1 : (i + 1) * KV = i * KV + KV := Nat.succ_mul _ _
      have b0 : ∀ {Q : Int32 → Mm → Prop}, Rn (lI b 0) M5 Q ↔ Q (nI (sB w u q cl)) M5 := by
        intro Q
        rw [show (0 : Int32) = nI 0 from rfl, rn_lI (by omega), b5.2.1, b5.2.2.1]
        exact ⟨fun z => z.2, fun z => ⟨by omega, z⟩⟩
      have b1 : ∀ {Q : Int32 → Mm → Prop}, Rn (lI b 1) M5 Q ↔ Q (nI (sD w u (sB w u q cl))) M5 := by
        intro Q
        rw [show (1 : Int32) = nI 1 from rfl, rn_lI (by omega), b5.2.1, b5.2.2.2]
        exact ⟨fun z => z.2, fun z => ⟨by omega, z⟩⟩
      rw [Rw_wb, mmax0 (by omega), Rn_rtn, Rw_wb, Rn_gI, d5.2.2.1]
      -- it cannot be
      have stop : rStep w u md (q, cl, p) = none → Rw gL_read_L154 M5 c5 s5 (fun o M' c' s' => Gx xO (Mn M) M M' ∧ Cs M c s M' c' s' (kRd L.length (chU u w).length) (sRd w L.length (chU u w).length) ∧ Pl M' c' ∧ (∀ p, rdC w u L = some p → ∃ h, o = some h ∧ isBr M' h w p ∧ Mn M ≤ h) ∧ (rdC w u L = none → o = none)) := by
        intro y
        have e0 := hnone y
        have := mkm (i + 1) hf
        have g05 : Gx xO (Mn M) M M5 := g12.tr (g35.mono (by omega) (fun z hz _ => X hz))
        unfold gL_read_L154
        rw [Rw_wr]
        exact ⟨g05, fin0 M5 c5 s5 g05 p5 (by omega) (by omega) (by omega) (by omega), p5, fun p e => (by rw [e0] at e; cases e), fun _ => rfl⟩
      -- painted, and on
      have go : ∀ (t e : Nat) (k1 : Bool), q - 1 ≤ t → t ≤ e → e ≤ w → (md.1 = 1 ↔ k1 = true) → rStep w u md (q, cl, p) = some (e + 1, (k1 != cl), pnt (pnt p (q - 1) t cl) t e (!cl)) → Rw (gL_read_L156 (gL_read_L16 n) hu (Mn M) (nI (bN cl)) (Mn M1) x6 (nI (q - 1)) (nI t) (nI e)) M5 c5 s5 (fun o M' c' s' => Gx xO (Mn M) M M' ∧ Cs M c s M' c' s' (kRd L.length (chU u w).length) (sRd w L.length (chU u w).length) ∧ Pl M' c' ∧ (∀ p, rdC w u L = some p → ∃ h, o = some h ∧ isBr M' h w p ∧ Mn M ≤ h) ∧ (rdC w u L = none → o = none)) := by
        intro t e k1 t1 t2 t3 t4 t5
        refine rd156 br5 hpp t1 t2 t3 hw d5 (by omega) t4 (fun M6 g6 n6 br6 => ?_)
        rw [← pl_s]
        refine ih (i + 1, e + 1, (k1 != cl), pnt (pnt p (q - 1) t cl) t e (!cl)) M6 c5 s5 ⟨hf, by show e + 1 ≤ w + 1; omega, ?_, ?_, g35.tr (g6.mono (by have := g35.mn; omega) (fun z _ y => by unfold x1; unfold x2 at y; simp at y ⊢; exact y.1)), it5.gx g6 it5.1 (x1_f (by omega)) (by have := g5.mn; omega) (x1_f (by omega)), br6, by omega, by omega, by show c5 ≤ c + 2 + (i + 1) * KU; omega, by show s5 ≤ s + w + 4 + (i + 1) * KV; omega⟩ (by show L.length - (i + 1) < L.length - i; omega)
        · exact pnt_lt t2 (pnt_lt t1 hpp)
        · rw [hrd]
          show (match rStep w u md (q, cl, p) with | some s' => rdL w u (L.drop (i + 1)) s' | none => none) = _
          rw [t5]
      rcases hok1 with k0 | ⟨k0, x, hx6, hv⟩ | ⟨k0, x, y, hx40, hy40, hv, hv2⟩
      · refine Rw_yes k0 ?_
        rw [Rw_wb, b1]
        unfold gL_read_L107
        rw [Rw_wb, Rn_gI, d5.2.2.1]
        refine Rw_no (by rw [k0]; decide) ?_
        unfold gL_read_L131
        rw [Rw_wb, Rn_gI, d5.2.2.1]
        refine Rw_yes (by rw [k0]; decide) ?_
        refine go _ _ false (by omega) (Nat.le_refl _) hS (by rw [k0]; decide) ?_
        unfold rStep
        rw [if_neg (show ¬ (q, cl, p).1 = w + 1 from z), if_pos k0, pnt_0 (pnt_lt (by omega) hpp)]
        simp
      · refine Rw_no (by rw [k0]; decide) ?_
        rw [Rw_wb, Rn_gI, d5.2.2.1]
        refine Rw_yes k0 ?_
        rw [Rw_wb, b0, Rw_wb, Rn_gI, d5.2.2.2.1, hv, v_add]
        unfold gL_read_L107
        rw [Rw_wb, Rn_gI, d5.2.2.1]
        refine Rw_no (by rw [k0]; decide) ?_
        unfold gL_read_L131
        rw [Rw_wb, Rn_gI, d5.2.2.1]
        refine Rw_no (by rw [k0]; decide) ?_
        have er : rStep w u md (q, cl, p) = (if sB w u q cl + x < q + 3 ∨ w + 3 < sB w u q cl + x then none else some (sB w u q cl + x - 3 + 1, !cl, pnt p (q - 1) (sB w u q cl + x - 3) cl)) := by
          unfold rStep
          rw [if_neg (show ¬ (q, cl, p).1 = w + 1 from z), if_neg (by rw [k0]; decide), if_pos k0, hv, vm3 hx6]
        refine Rw_cs (d := sB w u q cl + x < q + 3) (v_le (by omega) (by omega)) (fun y => stop ?_) (fun y => ?_)
        · rw [er, if_pos (Or.inl y)]
        · rw [Rw_wb, br5.gN]
          refine Rw_cs (d := sB w u q cl + x ≤ w + 3) (v_lw (by omega) (by omega)) (fun y2 => ?_) (fun y2 => stop ?_)
          · rw [nsb (by omega)]
            refine go _ _ true (by omega) (Nat.le_refl _) (by omega) (by rw [k0]; decide) ?_
            rw [er, if_neg (by omega), pnt_0 (pnt_lt (by omega) hpp)]
            simp
          · rw [er, if_pos (Or.inr (by omega))]
      · refine Rw_no (by rw [k0]; decide) ?_
        rw [Rw_wb, Rn_gI, d5.2.2.1]
        refine Rw_no (by rw [k0]; decide) ?_
        rw [Rw_wb, Rn_gI, d5.2.2.2.1, hv, nI_add]
        unfold gL_read_L107
        rw [Rw_wb, Rn_gI, d5.2.2.1]
        refine Rw_yes k0 ?_
        rw [Rw_wb, Rn_gI, d5.2.2.2.2.1, hv2, nI_add]
        unfold gL_read_L131
        rw [Rw_wb, Rn_gI, d5.2.2.1]
        refine Rw_no (by rw [k0]; decide) ?_
        have er : rStep w u md (q, cl, p) = (if q - 1 + x + y + 1 ≤ q ∨ w < q - 1 + x + y then none else some (q - 1 + x + y + 1, cl, pnt (pnt p (q - 1) (q - 1 + x) cl) (q - 1 + x) (q - 1 + x + y) (!cl))) := by
          unfold rStep
          rw [if_neg (show ¬ (q, cl, p).1 = w + 1 from z), if_neg (by rw [k0]; decide), if_neg (by rw [k0]; decide), hv, hv2, ix_n (by omega), ix_n (by omega)]
        refine Rw_cs (d := q - 1 + x + y + 1 ≤ q) (pl_ge (by omega) (by omega)) (fun v => stop ?_) (fun v => ?_)
        · rw [er, if_pos (Or.inl v)]
        · rw [Rw_wb, br5.gN]
          refine Rw_cs (d := q - 1 + x + y ≤ w) (nle (by omega) (by omega)) (fun y2 => ?_) (fun y2 => stop ?_)
          · refine go _ _ false (by omega) (by omega) y2 (by rw [k0]; decide) ?_
            rw [er, if_neg (by omega)]
            simp
          · rw [er, if_pos (Or.inr (by omega))]
  · have hil : i = L.length := by omega
    rw [itEnd it3 l3 (by omega)]
    refine Rw_yes rfl ?_
    rw [Rw_wb, br3.gN]
    have hdr : L.drop i = [] := by rw [hil]; exact List.drop_length
    rw [hdr] at hrd
    have hC : rdC w u L = if q = w + 1 then some p else none := by
      unfold rdC; rw [hrd]; rfl
    have := mkm i hi
    have hqw : pl q = nI w ↔ q = w + 1 := by
      constructor
      · intro z
        have := congrArg Int32.toInt z
        rw [pl_toInt (by omega), nI_tI (by omega)] at this; omega
      · intro z; rw [z, pl_s]
    unfold gL_read_L253
    refine Rw_cs (d := q = w + 1) hqw (fun z => ?_) (fun z => ?_)
    · rw [Rw_wr]
      rw [if_pos z] at hC
      refine ⟨gfin, fin0 M3 c3 s3 gfin p3 (by omega) f2 (by omega) (by omega), p3, fun p' e => ?_, fun e => by rw [hC] at e; cases e⟩
      rw [hC] at e; cases e
      exact ⟨Mn M, rfl, br3, Nat.le_refl _⟩
    · rw [Rw_wr]
      rw [if_neg z] at hC
      exact ⟨gfin, fin0 M3 c3 s3 gfin p3 (by omega) f2 (by omega) (by omega), p3, fun p' e => (by rw [hC] at e; cases e), fun _ => rfl⟩
