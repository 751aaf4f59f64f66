/-! THE CODE OF A ROW, as a list of modes -/
def isMd (M : Mm) (h : Nat) (m : Md) : Prop := h < Mn M ∧ Mk M h = 53 ∧ Mi M h 0 = m.1 ∧ Mi M h 1 = m.2.1 ∧ Mi M h 2 = m.2.2.1 ∧ Mi M h 3 = m.2.2.2
theorem isMd.gx {X : Nat → Bool} {n : Nat} {M M1 : Mm} {h : Nat} {m : Md} (b : isMd M h m) (x : Gx X n M M1) (h1 : h < n) (h2 : X h = false) : isMd M1 h m := by
  obtain ⟨b1, b2, b3⟩ := b
  exact ⟨Nat.lt_of_lt_of_le b1 x.mn, by rw [x.mk b1]; exact b2, by rw [x.mi h1 h2]; exact b3⟩
/-- a list of modes whose things lie from N on -/
def isCl (M : Mm) (N h : Nat) (L : List Md) : Prop := ∃ a hs, isL M h a hs ∧ (a ≠ EB → N ≤ a) ∧ N ≤ h ∧ hs.length = L.length ∧ ∀ (i x : Nat) (m : Md), hs[i]? = some x → L[i]? = some m → isMd M x m ∧ N ≤ x
theorem isCl.gx {X : Nat → Bool} {n N : Nat} {M M1 : Mm} {h : Nat} {L : List Md} (b : isCl M N h L) (x : Gx X n M M1) (hn : Mn M ≤ n) (hX : ∀ q, N ≤ q → q < Mn M → X q = false) : isCl M1 N h L := by
  obtain ⟨a, hs, l, h1, h2, h3, h4⟩ := b
  refine ⟨a, hs, l.gx x (Nat.lt_of_lt_of_le l.1 hn) (hX h h2 l.1) (fun z => ?_), h1, h2, h3, fun i y m hi hm => ?_⟩
  · have : a < Mn M := by
      obtain ⟨-, -, -, -, ⟨q, -⟩ | ⟨-, q, -⟩⟩ := l
      · exact absurd q z
      · exact q
    exact ⟨Nat.lt_of_lt_of_le this hn, hX a (h1 z) this⟩
  · obtain ⟨d1, d2⟩ := h4 i y m hi hm
    exact ⟨d1.gx x (Nat.lt_of_lt_of_le d1.1 hn) (hX y d2 d1.1), d2⟩
theorem isCl.mono {N N' : Nat} {M : Mm} {h : Nat} {L : List Md} (b : isCl M N h L) (e : N' ≤ N) : isCl M N' h L := by
  obtain ⟨a, hs, l, h1, h2, h3, h4⟩ := b
  exact ⟨a, hs, l, fun z => Nat.le_trans e (h1 z), Nat.le_trans e h2, h3, fun i y m hi hm => ⟨(h4 i y m hi hm).1, Nat.le_trans e (h4 i y m hi hm).2⟩⟩
theorem lMode {M : Mm} {x y z t : Int32} (hn : Mn M < 1000000000) {α : Type} {G : Nat → Mm → Option (α × Mm × Nat × Nat)} {c s : Nat} {Q : α → Mm → Nat → Nat → Prop} (k : ∀ M', Gx xO (Mn M) M M' → Mn M' = Mn M + 1 → isMd M' (Mn M) (x, y, z, t) → Rw (G (Mn M)) M' (c + 1) (s + 4) Q) {W : Nat → Mm → Option (Unit × Mm × Nat × Nat)} (hW : ∀ h, W h = gX8_init h x y z t) : Rw (wq (W (Mn M)) fun _ => G (Mn M)) (nw M 53 0) (c + 1) (s + 4) Q := by
  rw [Rw_wq, hW]
  unfold gX8_init
  rw [Rw_wb, Rn_pI, Rw_wb, Rn_pI, Rw_wb, Rn_pI, Rw_wb, Rn_pI, Rw_wr]
  refine k _ ?_ rfl ⟨?_, ?_, ?_, ?_, ?_, ?_⟩
  · exact ((((Gx.rf.nw (Nat.le_refl _) hn).sI (fun z => absurd z (Nat.lt_irrefl _))).sI (fun z => absurd z (Nat.lt_irrefl _))).sI (fun z => absurd z (Nat.lt_irrefl _))).sI (fun z => absurd z (Nat.lt_irrefl _))
  · show Mn M < Mn M + 1; omega
  · rw [Mk_sI, Mk_sI, Mk_sI, Mk_sI, Mk_nw, if_pos rfl]
  · rw [Mi_sI, if_neg (by omega), Mi_sI, if_neg (by omega), Mi_sI, if_neg (by omega), sI_self]
  · rw [Mi_sI, if_neg (by omega), Mi_sI, if_neg (by omega), sI_self]
  · rw [Mi_sI, if_neg (by omega), sI_self]
  · rw [sI_self]
/-- one more mode: a thing of its own, and its place in the list -/
theorem lPut {α : Type} {M : Mm} {N : Nat} {hL : Nat} {L : List Md} (l : isCl M N hL L) {x y z t : Int32} {c s : Nat} (hp : Pl M c) (hc : c ≤ 899999990) (hlen : L.length < 33) (hN : N ≤ Mn M) {G : Mm → Option (α × Mm × Nat × Nat)} {Q : α → Mm → Nat → Nat → Prop} (k : ∀ M' c' s', Gx xO N M M' → Pl M' c' → isCl M' N hL (L ++ [(x, y, z, t)]) → Mn M' + c ≤ Mn M + c' → c ≤ c' → c' + cpC L.length ≤ c + 1 + cpC (L.length + 1) → s' + cpS L.length ≤ s + 4 + cpS (L.length + 1) → Rw G M' c' s' Q) : Rw (wq (nO 53) fun h => wq (gX8_init h x y z t) fun _ => wq (gJx4a65c_add_9ea2d hL h) fun _ => G) M c s Q := by
  have hm := hp.1
  have C4 := cpC_le (L.length + 1)
  rw [Rw_wq, Rw_nO (by omega)]
  refine lMode (G := fun h => wq (gJx4a65c_add_9ea2d hL h) fun _ => G) (by omega) (fun M1 g1 n1 m1 => ?_) (W := fun h => gX8_init h x y z t) (fun _ => rfl)
  obtain ⟨a, hs, l0, h1, h2, h3, h4⟩ := l
  have l1 : isL M1 hL a hs := l0.gx g1 l0.1 rfl (fun z => ⟨by
    obtain ⟨-, -, -, -, ⟨q, -⟩ | ⟨-, q, -⟩⟩ := l0
    · exact absurd q z
    · exact q, rfl⟩)
  have p1 : Pl M1 (c + 1) := hp.go g1 (by omega)
  rw [Rw_wq]
  refine (lAdd l1 p1.2 (by omega) (by rw [h3]; exact hlen) (Mn M)).mono ?_
  rintro v M2 c2 s2 ⟨-, g2, f1, f2, f3, f4, a2, l2, e2, e3⟩
  rw [h3] at f1 f2
  have hEn : EB = 1000000500 := EB_v
  have ha : a = EB ∨ N ≤ a := by
    by_cases q : a = EB
    · exact Or.inl q
    · exact Or.inr (h1 q)
  have g2' : Gx xO N M1 M2 := g2.mono (by omega) (fun q hq _ => x2_f (by omega) (by omega))
  refine k M2 c2 s2 ((g1.mono hN (fun _ _ z => z)).tr g2') (p1.go g2 f3) ⟨a2, hs ++ [Mn M], l2, fun _ => ?_, h2, by rw [List.length_append, List.length_append, h3]; rfl, fun i w m hi hm => ?_⟩ (by omega) (by omega) (by omega) (by omega)
  · rcases e3 with e3 | e3
    · rw [e3.1]; exact h1 e3.2
    · omega
  · have hae : a = EB ∨ a < Mn M := by
      obtain ⟨-, -, -, -, ⟨y, -⟩ | ⟨-, y, -⟩⟩ := l0
      · exact Or.inl y
      · exact Or.inr y
    have hka : a = EB ∨ Mk M1 a = 15 := by
      obtain ⟨-, -, -, -, ⟨y, -⟩ | ⟨-, -, y, -⟩⟩ := l1
      · exact Or.inl y
      · exact Or.inr y
    by_cases q : i < hs.length
    · rw [List.getElem?_append_left q] at hi
      rw [List.getElem?_append_left (by omega)] at hm
      obtain ⟨d1, d2⟩ := h4 i w m hi hm
      have d3 := d1.gx g1 d1.1 rfl
      refine ⟨d3.gx g2 d3.1 (x2_f (fun e => ?_) (fun e => ?_)), d2⟩
      · have := d3.2.1; rw [e, l1.2.1] at this; cases this
      · rcases hka with y | y
        · have := d3.1; omega
        · have := d3.2.1; rw [e, y] at this; cases this
    · have hi' : i < (hs ++ [Mn M]).length := (List.getElem?_eq_some_iff.mp hi).1
      rw [List.length_append] at hi'
      have e1 : ([Mn M] : List Nat).length = 1 := rfl
      have : i = hs.length := by omega
      subst this
      rw [List.getElem?_append_right (Nat.le_refl _), Nat.sub_self] at hi
      rw [h3, List.getElem?_append_right (Nat.le_refl _), Nat.sub_self] at hm
      have hi : some (Mn M) = some w := hi
      have hm : some (x, y, z, t) = some m := hm
      cases hi
      cases hm
      have := l0.1
      exact ⟨m1.gx g2 m1.1 (x2_f (by omega) (by omega)), hN⟩
theorem mabs4 {a b : Nat} (ha : a ≤ 27) (hb : b ≤ 27) : 4 ≤ mabs (nI a - nI b) ↔ ¬ (a ≤ b + 3 ∧ b ≤ a + 3) := by
  have : ∀ a, a ≤ 27 → ∀ b, b ≤ 27 → (4 ≤ mabs (nI a - nI b) ↔ ¬ (a ≤ b + 3 ∧ b ≤ a + 3)) := by decide +kernel
  exact this a ha b hb
theorem mmax0 {q : Nat} (hq : q ≤ 28) : mmax (pl q) 0 = nI (q - 1) := by
  have : ∀ q, q ≤ 28 → mmax (pl q) 0 = nI (q - 1) := by decide +kernel
  exact this q hq
/-- the modes of a row below another: what is made -/
def kCd (m n : Nat) : Nat := 1 + cpC m + m * (4 + cpC n)
def sCd (m n : Nat) : Nat := 3 + cpS m + m * (13 + cpS n)
theorem lCode {M : Mm} {hu hr w u r : Nat} (bu : isBr M hu w u) (br : isBr M hr w r) (hw : w ≤ 27) {c s : Nat} (hp : Pl M c) (hc : c ≤ 880000000) : Rw (gL_code hu hr) M c s (fun l M' c' s' => Gx xO (Mn M) M M' ∧ Cs M c s M' c' s' (kCd (cod w r u).length (chU u w).length) (sCd (cod w r u).length (chU u w).length) ∧ Pl M' c' ∧ isCl M' (Mn M) l (cod w r u)) := by
  have hm := hp.1
  unfold gL_code
  refine lNew (by omega) (fun M1 g1 n1 l1 => ?_)
  have hlen : (cod w r u).length ≤ 28 := by have := cod_len w r u; omega
  generalize hU : 4 + cpC (chU u w).length = KU
  generalize hV : 13 + cpS (chU u w).length = KV
  have hKU : KU ≤ 8 := by have := cpC_le (chU u w).length; omega
  refine rw_loopv (F := fun n (x : List Md × Nat × Bool) => gL_code_L13 n hu hr (Mn M) (pl x.2.1) (nI (bN x.2.2))) (fun x M' c' s' => x.2.1 ≤ w + 1 ∧ cod w r u = x.1 ++ cRest w r u x.2.1 x.2.2 ∧ Gx xO (Mn M) M M' ∧ Pl M' c' ∧ isCl M' (Mn M) (Mn M) x.1 ∧ Mn M' + c ≤ Mn M + c' ∧ c ≤ c' ∧ c' ≤ c + (1 + cpC x.1.length + x.1.length * KU) ∧ s' ≤ s + (3 + cpS x.1.length + x.1.length * KV)) (fun x => w + 2 - x.2.1) ?_ fu ([], 0, false) M1 (c + 1) (s + 3) (by unfold fu; show w + 2 - 0 < 20000; omega) ⟨Nat.zero_le _, rfl, g1, hp.go g1 (by omega), ⟨EB, [], l1, fun z => absurd rfl z, Nat.le_refl _, rfl, fun i x m hi => by simp at hi⟩, by omega, by omega, by show c + 1 ≤ c + (1 + 0 + 0 * KU); omega, by show s + 3 ≤ s + (3 + 0 + 0 * KV); omega⟩
  rintro n ⟨D, q, cl⟩ M2 c2 s2 ⟨hq, hD, g2, p2, l2, e1, e2, e3, e4⟩ ih
  have hq : q ≤ w + 1 := hq
  have hD : cod w r u = D ++ cRest w r u q cl := hD
  have l2 : isCl M2 (Mn M) (Mn M) D := l2
  have e3 : c2 ≤ c + (1 + cpC D.length + D.length * KU) := e3
  have e4 : s2 ≤ s + (3 + cpS D.length + D.length * KV) := e4
  have hDl : D.length ≤ 28 := by rw [hD, List.length_append] at hlen; omega
  have hDK : D.length * KU ≤ 28 * 8 := Nat.mul_le_mul hDl hKU
  have hDC := cpC_le D.length
  have bu2 : isBr M2 hu w u := bu.gx g2 bu.1 rfl
  have br2 : isBr M2 hr w r := br.gx g2 br.1 rfl
  show Rw (gL_code_L13 (n + 1) hu hr (Mn M) (pl q) (nI (bN cl))) _ _ _ _
  unfold gL_code_L13
  rw [Rw_wb, br2.gN]
  refine Rw_cs (d := w + 1 ≤ q) (pl_ge (by omega) (by omega)) (fun z => ?_) (fun z => ?_)
  · have : q = w + 1 := by omega
    subst this
    rw [cRest_end, List.append_nil] at hD
    rw [Rw_wr, hD]
    refine ⟨g2, ⟨e1, e2, ?_, ?_⟩, p2, l2⟩
    · unfold kCd; rw [hU]; exact e3
    · unfold sCd; rw [hV]; exact e4
  have hs := cRest_s (w := w) (r := r) (u := u) (q := q) (c := cl) (by omega)
  have hstep := cStep_q (w := w) (r := r) (u := u) (q := q) (c := cl) (by omega)
  have hA := sA_le w r q cl
  have hB := sB_le w u q cl
  have hS := sD_le w u (sB w u q cl)
  have hE := sE_le w r (sA w r q cl) cl
  have hE2 := sE_ge (r := r) (c := cl) hA
  have hA2 := sA_ge (r := r) (c := cl) (show q ≤ w by omega)
  have hDl' : D.length < 28 := by
    rw [hD, List.length_append, hs, List.length_cons] at hlen; omega
  -- the tail that the three kinds of mode share
  have T : ∀ (md : Md) (q' : Nat) (cl' : Bool), cStep w r u q cl = (md, q', cl') → ∀ (M3 : Mm) (c3 s3 : Nat), Gx xO (Mn M) M M3 → Pl M3 c3 → isCl M3 (Mn M) (Mn M) D → Mn M3 + c ≤ Mn M + c3 → c ≤ c3 → c3 + 1 ≤ c2 + KU → s3 + 4 ≤ s2 + KV → ∀ {G : Mm → Option (Nat × Mm × Nat × Nat)}, (∀ M4 c4 s4, Rw (gL_code_L13 n hu hr (Mn M) (pl q') (nI (bN cl'))) M4 c4 s4 (fun l M' c' s' => Gx xO (Mn M) M M' ∧ Cs M c s M' c' s' (kCd (cod w r u).length (chU u w).length) (sCd (cod w r u).length (chU u w).length) ∧ Pl M' c' ∧ isCl M' (Mn M) l (cod w r u)) → Rw G M4 c4 s4 (fun l M' c' s' => Gx xO (Mn M) M M' ∧ Cs M c s M' c' s' (kCd (cod w r u).length (chU u w).length) (sCd (cod w r u).length (chU u w).length) ∧ Pl M' c' ∧ isCl M' (Mn M) l (cod w r u))) → Rw (wq (nO 53) fun h => wq (gX8_init h md.1 md.2.1 md.2.2.1 md.2.2.2) fun _ => wq (gJx4a65c_add_9ea2d (Mn M) h) fun _ => G) M3 c3 s3 (fun l M' c' s' => Gx xO (Mn M) M M' ∧ Cs M c s M' c' s' (kCd (cod w r u).length (chU u w).length) (sCd (cod w r u).length (chU u w).length) ∧ Pl M' c' ∧ isCl M' (Mn M) l (cod w r u)) := by
    rintro ⟨m1, m2, m3, m4⟩ q' cl' hcs M3 c3 s3 g3 p3 l3 f1 f2 f3 f4 G kG
    have C1 := cpC_le (D.length + 1)
    rw [hcs] at hstep hs
    refine lPut l3 p3 (by omega) (by omega) g3.mn (fun M4 c4 s4 g4 p4 l4 z1 z2 z3 z4 => ?_)
    refine kG M4 c4 s4 (ih (D ++ [(m1, m2, m3, m4)], q', cl') M4 c4 s4 ⟨hstep.2, ?_, g3.tr g4, p4, l4, by omega, by omega, ?_, ?_⟩ ?_)
    · show cod w r u = (D ++ [(m1, m2, m3, m4)]) ++ cRest w r u q' cl'
      rw [hD, hs, List.append_assoc]; rfl
    · show c4 ≤ c + (1 + cpC (D ++ [(m1, m2, m3, m4)]).length + (D ++ [(m1, m2, m3, m4)]).length * KU)
      rw [List.length_append]
      show c4 ≤ c + (1 + cpC (D.length + 1) + (D.length + 1) * KU)
      rw [Nat.succ_mul]; omega
    · show s4 ≤ s + (3 + cpS (D ++ [(m1, m2, m3, m4)]).length + (D ++ [(m1, m2, m3, m4)]).length * KV)
      rw [List.length_append]
      show s4 ≤ s + (3 + cpS (D.length + 1) + (D.length + 1) * KV)
      rw [Nat.succ_mul]; omega
    · show w + 2 - q' < w + 2 - q
      have h9 : q < q' := hstep.1
      omega
  have mid : Rw (gL_code_L31 (gL_code_L13 n) hu hr (Mn M) (pl q) (nI (bN cl)) (nI (bN (!cl))) (pl q) hr) M2 c2 s2 (fun l M' c' s' => Gx xO (Mn M) M M' ∧ Cs M c s M' c' s' (kCd (cod w r u).length (chU u w).length) (sCd (cod w r u).length (chU u w).length) ∧ Pl M' c' ∧ isCl M' (Mn M) l (cod w r u)) := by
    unfold gL_code_L31
    rw [Rw_wq, lFind br2 (by omega) (by omega), Rw_wq]
    show Rw (gL_marksBehind hu (pl q) (nI (bN cl))) M2 c2 s2 _
    refine (lMarks bu2 hw (by omega) p2 (by omega)).mono ?_
    rintro b M3 c3 s3 ⟨g3, ⟨f1, f2, f3, f4⟩, p3, b3, hb⟩
    have hfb : fb (fun k => r.testBit k == !cl) w q = sA w r q cl := rfl
    rw [hfb]
    have g3' : Gx xO (Mn M) M2 M3 := g3.mono g2.mn (fun _ _ z => z)
    have g03 := g2.tr g3'
    have l3 : isCl M3 (Mn M) (Mn M) D := l2.gx g3 (Nat.le_refl _) (fun _ _ _ => rfl)
    have br3 : isBr M3 hr w r := br.gx g03 br.1 rfl
    have b0 : ∀ {Q : Int32 → Mm → Prop}, Rn (lI b 0) M3 Q ↔ Q (nI (sB w u q cl)) M3 := by
      intro Q
      rw [show (0 : Int32) = nI 0 from rfl, rn_lI (by omega), b3.2.1, b3.2.2.1]
      exact ⟨fun z => z.2, fun z => ⟨by omega, z⟩⟩
    have b1 : ∀ {Q : Int32 → Mm → Prop}, Rn (lI b 1) M3 Q ↔ Q (nI (sD w u (sB w u q cl))) M3 := by
      intro Q
      rw [show (1 : Int32) = nI 1 from rfl, rn_lI (by omega), b3.2.1, b3.2.2.2]
      exact ⟨fun z => z.2, fun z => ⟨by omega, z⟩⟩
    rw [Rw_wb, b1]
    refine Rw_cs (d := sA w r q cl ≤ sD w u (sB w u q cl)) (nle (by omega) (by omega)) (fun y => ?_) (fun y => ?_)
    · rw [Rw_wb, b0]
      refine Rw_cs (d := ¬ (sA w r q cl ≤ sB w u q cl + 3 ∧ sB w u q cl ≤ sA w r q cl + 3)) (mabs4 (by omega) (by omega)) (fun v => ?_) (fun v => ?_)
      · have hcs : cStep w r u q cl = ((nI 2, nI (sA w r q cl - (q - 1)), nI (sE w r (sA w r q cl) cl - sA w r q cl), nI (sE w r (sA w r q cl) cl)), sE w r (sA w r q cl) cl + 1, cl) := by
          unfold cStep; rw [if_neg (by omega), if_neg v]
        rw [Rw_wq, ← pl_s, lFind br3 (by omega) (by omega)]
        have hfe : fb (fun k => r.testBit k == cl) w (sA w r q cl + 1) = sE w r (sA w r q cl) cl := rfl
        rw [hfe, pl_s, mmax0 (by omega), nsb (by omega), nsb hE2]
        refine T _ _ _ hcs M3 c3 s3 g03 p3 l3 (by omega) (by omega) (by omega) (by omega) (fun M4 c4 s4 kk => ?_)
        unfold gL_code_L173
        rw [pl_s] at kk
        exact kk
      · have v : sA w r q cl ≤ sB w u q cl + 3 ∧ sB w u q cl ≤ sA w r q cl + 3 := Decidable.not_not.mp v
        have hcs : cStep w r u q cl = ((nI 1, nI (sA w r q cl) - nI (sB w u q cl), nI 0, nI (sA w r q cl)), sA w r q cl + 1, !cl) := by
          unfold cStep; rw [if_neg (by omega), if_pos v]
        have key : Rw (gL_code_L105 (gL_code_L13 n) hu hr (Mn M) (nI (sA w r q cl)) (nI (sA w r q cl)) b (nI (bN (!cl)))) M3 c3 s3 (fun l M' c' s' => Gx xO (Mn M) M M' ∧ Cs M c s M' c' s' (kCd (cod w r u).length (chU u w).length) (sCd (cod w r u).length (chU u w).length) ∧ Pl M' c' ∧ isCl M' (Mn M) l (cod w r u)) := by
          unfold gL_code_L105
          have hm3 := p3.1
          have hnb : Mn M3 < 1000000000 := by omega
          have t := T _ _ _ hcs M3 c3 s3 g03 p3 l3 (by omega) (by omega) (by omega) (by omega) (G := gL_code_L173 (gL_code_L13 n) hu hr (Mn M) (nI (sA w r q cl)) (nI (bN (!cl)))) (fun M4 c4 s4 kk => by
            unfold gL_code_L173
            rw [pl_s] at kk
            exact kk)
          rw [Rw_wq, Rw_nO hnb] at t
          rw [Rw_wq, Rw_nO hnb]
          have b0' : ∀ {Q : Int32 → Mm → Prop}, Rn (lI b 0) (nw M3 53 0) Q ↔ Q (nI (sB w u q cl)) (nw M3 53 0) := by
            intro Q
            have hne : b ≠ Mn M3 := by have := b3.1; omega
            rw [show (0 : Int32) = nI 0 from rfl, rn_lI (by omega), Ml_nw, if_neg hne, b3.2.1, Mi_nw, if_neg hne, b3.2.2.1]
            exact ⟨fun z => z.2, fun z => ⟨by omega, z⟩⟩
          rw [Rw_wb, b0']
          exact t
        have hn := bN_not cl
        refine Rw_cs (d := nI (bN cl) = 0) Iff.rfl (fun x => ?_) (fun x => ?_)
        · rw [← hn.1 x]; exact key
        · rw [← hn.2 x]; exact key
    · have hcs : cStep w r u q cl = ((nI 0, nI 0, nI 0, nI (sD w u (sB w u q cl))), sD w u (sB w u q cl) + 1, cl) := by
        unfold cStep; rw [if_pos (by omega)]
      rw [Rw_wb, b1]
      refine T _ _ _ hcs M3 c3 s3 g03 p3 l3 (by omega) (by omega) (by omega) (by omega) (fun M4 c4 s4 kk => ?_)
      unfold gL_code_L173
      rw [pl_s] at kk
      exact kk
  have hn := bN_not cl
  refine Rw_cs (d := nI (bN cl) = 0) Iff.rfl (fun x => ?_) (fun x => ?_)
  · rw [← hn.1 x]; exact mid
  · rw [← hn.2 x]; exact mid
