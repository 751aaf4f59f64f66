/-! THE CLASS: new pages, the history, the saved pages -/
theorem Mi_nw {M : Mm} {kd n a b : Nat} : Mi (nw M kd n) a b = if a = Mn M then 0 else Mi M a b := rfl
theorem Mj_nw {M : Mm} {kd n a b : Nat} : Mj (nw M kd n) a b = if a = Mn M then 0 else Mj M a b := rfl
theorem Mr_nw {M : Mm} {kd n a b : Nat} : Mr (nw M kd n) a b = if a = Mn M then none else Mr M a b := rfl
theorem Ml_nw {M : Mm} {kd n a : Nat} : Ml (nw M kd n) a = if a = Mn M then n else Ml M a := rfl
theorem Mn_nw {M : Mm} {kd n : Nat} : Mn (nw M kd n) = Mn M + 1 := rfl
theorem Mn_sI {M : Mm} {a b : Nat} {v : Int32} : Mn (sI M a b v) = Mn M := rfl
theorem Mn_sR {M : Mm} {a b : Nat} {v : Option Nat} : Mn (sR M a b v) = Mn M := rfl
theorem Rn_nwO {M : Mm} {c : Nat} {Q : Nat → Mm → Prop} (h : Mn M < SB) : Rn (nwO c) M Q ↔ Q (Mn M) (nw M c 0) := Rn_fun (by unfold nwO; rw [if_pos (by simpa using h)])
theorem Rn_nwA {M : Mm} {c n : Nat} {Q : Nat → Mm → Prop} (h : Mn M < SB) : Rn (nwA c n) M Q ↔ Q (Mn M) (nw M c n) := Rn_fun (by unfold nwA; rw [if_pos (by simpa using h)])
/-- kinds, lengths and the script stay -/
def Gk (M M' : Mm) : Prop := Mx M' = Mx M ∧ ∀ h, h < Mn M ∨ SB ≤ h → Mk M' h = Mk M h ∧ Ml M' h = Ml M h
theorem Gk.rf {M : Mm} : Gk M M := ⟨rfl, fun _ _ => ⟨rfl, rfl⟩⟩
theorem Gk.of {M M' : Mm} (h : M'.1 = M.1) : Gk M M' := by
  refine ⟨by unfold Mx; rw [h], fun _ _ => ⟨by unfold Mk; rw [h], by unfold Ml; rw [h]⟩⟩
theorem Gk.tr {M M1 M2 : Mm} (h : Gk M M1) (hn : Mn M ≤ Mn M1) (h' : Gk M1 M2) : Gk M M2 := by
  refine ⟨h'.1.trans h.1, fun a ha => ?_⟩
  have a1 := h.2 a ha
  have a2 := h'.2 a (ha.elim (fun z => Or.inl (Nat.lt_of_lt_of_le z hn)) Or.inr)
  exact ⟨a2.1.trans a1.1, a2.2.trans a1.2⟩
theorem Gk.nw {M M1 : Mm} (h : Gk M M1) (hn : Mn M ≤ Mn M1) (hs : Mn M1 < SB) {kd n : Nat} : Gk M (nw M1 kd n) := by
  refine h.tr hn ⟨rfl, fun a ha => ?_⟩
  have e : Mn M1 = M1.1.1 := rfl
  have : a ≠ M1.1.1 := by rcases ha with z | z <;> omega
  exact ⟨va_up_ne _ _ this, va_up_ne _ _ this⟩
/-- all that was there is as it was -/
def XN (M M' : Mm) : Prop := (Mn M ≤ Mn M' ∧ Gk M M') ∧ ∀ h, h < Mn M → Ml M' h = Ml M h ∧ Mi M' h = Mi M h ∧ Mj M' h = Mj M h ∧ Mr M' h = Mr M h
/-- .. but for cells of X, and what the arrays of pages hold -/
def XG (X : Nat → Nat → Bool) (M M' : Mm) : Prop := (Mn M ≤ Mn M' ∧ Gk M M') ∧ ∀ h, h < Mn M → Ml M' h = Ml M h ∧ (∀ k, X h k = false → Mi M' h k = Mi M h k ∧ Mj M' h k = Mj M h k) ∧ (h ≠ 6 → h ≠ 7 → Mr M' h = Mr M h)
theorem XG.rf {X : Nat → Nat → Bool} {M : Mm} : XG X M M := ⟨⟨Nat.le_refl _, Gk.rf⟩, fun _ _ => ⟨rfl, fun _ _ => ⟨rfl, rfl⟩, fun _ _ => rfl⟩⟩
theorem XG.tr {X : Nat → Nat → Bool} {M M1 M2 : Mm} (h : XG X M M1) (h' : XG X M1 M2) : XG X M M2 := by
  refine ⟨⟨Nat.le_trans h.1.1 h'.1.1, h.1.2.tr h.1.1 h'.1.2⟩, fun a ha => ?_⟩
  obtain ⟨a1, a2, a3⟩ := h.2 a ha
  obtain ⟨b1, b2, b3⟩ := h'.2 a (Nat.lt_of_lt_of_le ha h.1.1)
  exact ⟨b1.trans a1, fun k hk => ⟨(b2 k hk).1.trans (a2 k hk).1, (b2 k hk).2.trans (a2 k hk).2⟩, fun h6 h7 => (b3 h6 h7).trans (a3 h6 h7)⟩
theorem XG.mono {X Y : Nat → Nat → Bool} {M M1 : Mm} (h : XG X M M1) (s : ∀ a b, Y a b = false → X a b = false) : XG Y M M1 :=
  ⟨h.1, fun a ha => ⟨(h.2 a ha).1, fun k hk => (h.2 a ha).2.1 k (s a k hk), (h.2 a ha).2.2⟩⟩
theorem XF.mn {X : Nat → Nat → Bool} {M M' : Mm} (h : XF X M M') : Mn M' = Mn M := by unfold Mn; rw [h.1]
theorem XF.xg {X : Nat → Nat → Bool} {M M' : Mm} (h : XF X M M') : XG X M M' := by
  refine ⟨⟨by rw [h.mn]; exact Nat.le_refl _, Gk.of h.1⟩, fun a _ => ⟨by rw [h.ml], fun k hk => ⟨h.mi hk, h.mj hk⟩, fun _ _ => by rw [h.mr]⟩⟩
theorem XN.xg {X : Nat → Nat → Bool} {M M' : Mm} (h : XN M M') : XG X M M' := by
  refine ⟨h.1, fun a ha => ?_⟩
  obtain ⟨h1, h2, h3, h4⟩ := h.2 a ha
  exact ⟨h1, fun k _ => ⟨by rw [h2], by rw [h3]⟩, fun _ _ => h4⟩
theorem XG.sR {X : Nat → Nat → Bool} {M M1 : Mm} (h : XG X M M1) {a b : Nat} {v : Option Nat} (ha : a = 6 ∨ a = 7) : XG X M (sR M1 a b v) := by
  refine ⟨h.1, fun c hc => ?_⟩
  obtain ⟨h1, h2, h3⟩ := h.2 c hc
  refine ⟨h1, h2, fun h6 h7 => ?_⟩
  rw [← h3 h6 h7]
  funext k
  rw [Mr_sR, if_neg (by omega)]
theorem CO.xg {X : Nat → Nat → Bool} {M M1 : Mm} (h : CO M) (hn : 38 ≤ Mn M) (x : XG X M M1) : CO M1 := by
  have a1 : ∀ q ∈ coR, q.1 ≠ 6 ∧ q.1 ≠ 7 ∧ q.1 < 38 := by decide
  have a2 : ∀ q ∈ coL, q.1 < 38 := by decide
  refine ⟨fun i q hq => ?_, fun i q hq => ?_⟩
  · obtain ⟨b1, b2, b3⟩ := a1 q (List.mem_of_getElem? hq)
    rw [(x.2 q.1 (by omega)).2.2 b1 b2]; exact h.1 i q hq
  · have b := a2 q (List.mem_of_getElem? hq)
    rw [(x.2 q.1 (by omega)).1]; exact h.2 i q hq
theorem PgO.xg {X : Nat → Nat → Bool} {M M1 : Mm} {h : Nat} (o : PgO M h) (hn : h + 4 ≤ Mn M) (h67 : h + 4 ≤ 6 ∨ 8 ≤ h) (x : XG X M M1) : PgO M1 h := by
  obtain ⟨o1, o2, o3, o4, o5, o6⟩ := o
  have e := (x.2 h (by omega)).2.2 (by omega) (by omega)
  refine ⟨by rw [e]; exact o1, by rw [e]; exact o2, by rw [e]; exact o3, ?_, ?_, ?_⟩
  · rw [(x.2 (h + 1) (by omega)).1]; exact o4
  · rw [(x.2 (h + 2) (by omega)).1]; exact o5
  · rw [(x.2 (h + 3) (by omega)).1]; exact o6
theorem isPgC.xg {X : Nat → Nat → Bool} {M M1 : Mm} {h : Nat} {P : Pg} (p : isPgC M h P) (hn : h + 4 ≤ Mn M) (x : XG X M M1) (q : ∀ a b, h ≤ a → a ≤ h + 3 → X a b = false) : isPgC M1 h P := by
  obtain ⟨h1, h2, h3, h4, h5⟩ := p
  have e : ∀ a b, h ≤ a → a ≤ h + 3 → Mi M1 a b = Mi M a b ∧ Mj M1 a b = Mj M a b := fun a b z1 z2 => (x.2 a (by omega)).2.1 b (q a b z1 z2)
  exact ⟨by rw [(e h 0 (by omega) (by omega)).1]; exact h1, by rw [(e h 1 (by omega) (by omega)).1]; exact h2, fun l hl => by rw [(e _ l (by omega) (by omega)).2]; exact h3 l hl, fun l hl => by rw [(e _ l (by omega) (by omega)).1]; exact h4 l hl, fun l hl => by rw [(e _ l (by omega) (by omega)).1]; exact h5 l hl⟩
theorem sS0 : ∀ k, k < 6 → (sS.getD 0 ("", [])).2.getD k 0 = nI ([4, 0, 0, 0, 8, 16].getD k 0) := by decide
theorem cNewPage {M : Mm} (hn : Mn M + 4 < SB) : Rn (bnd (nwO 2) fun h => bnd (fX2_init h) fun _ => rtn h) M (fun h M' => h = Mn M ∧ XN M M' ∧ Mn M' = Mn M + 4 ∧ PgO M' (Mn M) ∧ isPgC M' (Mn M) (pg0 16)) := by
  rw [Rn_bnd, Rn_nwO (by omega), Rn_bnd]
  unfold fX2_init
  rw [Rn_bnd, Rn_nwA (by rw [Mn_nw]; omega), Rn_bnd, Rn_pA, Rn_bnd, Rn_nwA (by rw [Mn_sR, Mn_nw, Mn_nw]; omega), Rn_bnd, Rn_pA, Rn_bnd, Rn_nwA (by rw [Mn_sR, Mn_nw, Mn_sR, Mn_nw, Mn_nw]; omega), Rn_bnd, Rn_pA, Rn_bnd, Rn_pI, Rn_bnd, Rn_pI]
  simp only [Mn_nw, Mn_sR]
  generalize hN : Mn M = N
  generalize hM0 : sI (sI (sR (nw (sR (nw (sR (nw (nw M 2 0) 12 20) N 2 (some (N + 1))) 11 20) N 3 (some (N + 1 + 1))) 11 6) N 4 (some (N + 1 + 1 + 1))) N 0 16) N 1 0 = M0
  have f1 : Mn M0 = N + 4 := by rw [← hM0]; simp only [Mn_sI, Mn_sR, Mn_nw, hN]
  have k2 : Gk M M0 := by
    rw [← hM0]
    have e : Mn M = M.1.1 := rfl
    refine Gk.nw (M1 := sR (nw (sR (nw (nw M 2 0) 12 20) N 2 (some (N + 1))) 11 20) N 3 (some (N + 1 + 1))) (Gk.nw (M1 := sR (nw (nw M 2 0) 12 20) N 2 (some (N + 1))) (Gk.nw (M1 := nw M 2 0) (Gk.nw (M1 := M) Gk.rf (Nat.le_refl _) (by omega)) ?_ ?_) ?_ ?_) ?_ ?_
    all_goals (simp only [Mn_sI, Mn_sR, Mn_nw]; omega)
  have f2 : XN M M0 := by
    refine ⟨⟨by omega, k2⟩, fun a ha => ?_⟩
    have n1 : a ≠ N := by omega
    have n2 : a ≠ N + 1 := by omega
    have n3 : a ≠ N + 1 + 1 := by omega
    have n4 : a ≠ N + 1 + 1 + 1 := by omega
    rw [← hM0]
    refine ⟨?_, ?_, ?_, ?_⟩
    · simp only [Ml_sI, Ml_sR, Ml_nw, Mn_sR, Mn_nw, hN, n1, n2, n3, n4, if_false]
    · funext k; simp only [Mi_sI, Mi_sR, Mi_nw, Mn_sR, Mn_nw, hN, n1, n2, n3, n4, if_false, false_and]
    · funext k; simp only [Mj_sI, Mj_sR, Mj_nw, Mn_sR, Mn_nw, hN, n1, n2, n3, n4, if_false]
    · funext k; simp only [Mr_sI, Mr_sR, Mr_nw, Mn_sR, Mn_nw, hN, n1, n2, n3, n4, if_false, false_and]
  have f3 : PgO M0 N := by
    rw [← hM0]
    refine ⟨?_, ?_, ?_, ?_, ?_, ?_⟩
    · simp [Mr_sI, Mr_sR, Mr_nw, Mn_sR, Mn_nw, hN]; omega
    · simp [Mr_sI, Mr_sR, Mr_nw, Mn_sR, Mn_nw, hN]; omega
    · simp [Mr_sI, Mr_sR, Mr_nw, Mn_sR, Mn_nw, hN]
    · simp [Ml_sI, Ml_sR, Ml_nw, Mn_sR, Mn_nw, hN]
    · simp [Ml_sI, Ml_sR, Ml_nw, Mn_sR, Mn_nw, hN]
    · simp [Ml_sI, Ml_sR, Ml_nw, Mn_sR, Mn_nw, hN]
  have f4 : Mi M0 N 0 = nI 16 := by rw [← hM0]; simp [Mi_sI]; rfl
  have f5 : Mi M0 N 1 = nI 0 := by rw [← hM0]; simp [Mi_sI]; rfl
  have f6 : ∀ l, Mi M0 (N + 2) l = nI 0 := fun l => by
    rw [← hM0]; simp [Mi_sI, Mi_sR, Mi_nw, Mn_sR, Mn_nw, hN]; rfl
  clear hM0
  refine rn_loopv (F := fun n i => fX2_init_L41 n N (nI i)) (fun i M' => XN M M' ∧ Mn M' = N + 4 ∧ PgO M' N ∧ Mi M' N 0 = nI 16 ∧ Mi M' N 1 = nI 0 ∧ (∀ l, Mi M' (N + 2) l = nI 0) ∧ i ≤ 6 ∧ ∀ k, k < i → Mi M' (N + 3) k = nI ([4, 0, 0, 0, 8, 16].getD k 0)) (fun i => 6 - i) ?_ fu 0 M0 (by unfold fu; omega) ⟨f2, f1, f3, f4, f5, f6, by omega, fun k hk => by omega⟩
  rintro n i M1 ⟨x1, n1, o1, g1, g2, g3, hi, g4⟩ ih
  show Rn (fX2_init_L41 (n + 1) N (nI i)) M1 _
  unfold fX2_init_L41
  refine Rn_cs (show (6 : Int32) ≤ nI i ↔ 6 ≤ i from nle (a := 6) (by omega) (by omega)) (fun q => ?_) (fun q => ?_)
  · rw [Rn_rtn, Rn_rtn]
    refine ⟨rfl, x1, n1, o1, g1, g2, fun l hl => ?_, fun l _ => g3 l, fun k hk => g4 k (by omega)⟩
    exact absurd hl (Nat.not_lt_zero _)
  · rw [Rn_bnd, Rn_gA o1.2.2.1, Rn_bnd, Rn_tS, vpB_nI (by omega), nI_clamp (by omega), sS0 i (by omega)]
    refine ⟨by simp; omega, ?_⟩
    rw [Rn_bnd, rn_aI (by omega), o1.2.2.2.2.2]
    refine ⟨by omega, ?_⟩
    rw [nL1, nI_add]
    refine ih (i + 1) _ ⟨⟨x1.1, fun a ha => ?_⟩, n1, o1, ?_, ?_, fun l => ?_, by omega, fun k hk => ?_⟩ (by omega)
    · obtain ⟨y1, y2, y3, y4⟩ := x1.2 a ha
      refine ⟨y1, ?_, y3, y4⟩
      rw [← y2]; funext k; rw [Mi_sI, if_neg (by omega)]
    · rw [Mi_sI, if_neg (by omega)]; exact g1
    · rw [Mi_sI, if_neg (by omega)]; exact g2
    · rw [Mi_sI, if_neg (by omega)]; exact g3 l
    · rw [Mi_sI]
      by_cases q2 : k = i
      · rw [if_pos ⟨rfl, q2⟩, q2]
      · rw [if_neg (fun z => q2 z.2)]; exact g4 k (by omega)

