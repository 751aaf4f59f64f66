/-! THE LAW'S OWN PAGE: settings, losses, rows; codes, marks, bits of its lines -/
def QP (M : Mm) (p : Nat) (P : Pg) (lo : Nat → Nat) (hs hl h a : Nat) (R : List Nat) : Prop :=
  (p < Mn M ∧ Mi M p 0 = nI (Pw P) ∧ Mr M p 1 = some hs ∧ Mr M p 2 = some hl ∧ Mr M p 3 = some h) ∧
  (hs < Mn M ∧ Ml M hs = 6 ∧ ∀ k, k < 6 → Mi M hs k = nI (Pt P k)) ∧
  (hl < Mn M ∧ Ml M hl = 20 ∧ ∀ l, l < 20 → Mi M hl l = nI (lo l)) ∧
  (isL M h a R ∧ R.length = PL P ∧ ∀ (l x : Nat), R[l]? = some x → isBr M x (Pw P) (Pr P l)) ∧
  (hs ≠ p ∧ hl ≠ p ∧ h ≠ p ∧ a ≠ p ∧ ∀ x, x ∈ R → x ≠ p)
theorem QP.gX {M M1 : Mm} {p : Nat} {P : Pg} {lo : Nat → Nat} {hs hl h a : Nat} {R : List Nat} (L : QP M p P lo hs hl h a R) {X : Nat → Bool} {n : Nat} (x : Gx X n M M1) (hn : Mn M ≤ n) (hX : ∀ q, q < Mn M → q ≠ p → X q = false) (k0 : Mi M1 p 0 = Mi M p 0) (k1 : Mr M1 p 1 = Mr M p 1) (k2 : Mr M1 p 2 = Mr M p 2) (k3 : Mr M1 p 3 = Mr M p 3) : QP M1 p P lo hs hl h a R := by
  obtain ⟨⟨a1, a2, a3, a4, a5⟩, ⟨b1, b2, b3⟩, ⟨c1, c2, c3⟩, ⟨d1, d2, d3⟩, e1, e2, e3, e4, e5⟩ := L
  have hm := x.mn
  refine ⟨⟨by omega, by rw [k0]; exact a2, by rw [k1]; exact a3, by rw [k2]; exact a4, by rw [k3]; exact a5⟩, ⟨by omega, by rw [x.ml b1]; exact b2, fun k hk => by rw [x.mi (by omega) (hX _ b1 e1)]; exact b3 k hk⟩, ⟨by omega, by rw [x.ml c1]; exact c2, fun k hk => by rw [x.mi (by omega) (hX _ c1 e2)]; exact c3 k hk⟩, ⟨d1.gx x (by have := d1.1; omega) (hX _ d1.1 e3) (fun z => ⟨by have := d1.lt z; omega, hX _ (d1.lt z) e4⟩), d2, fun l y hy => ?_⟩, e1, e2, e3, e4, e5⟩
  have := d3 l y hy
  exact this.gx x (by have := this.1; omega) (hX _ this.1 (e5 y (List.mem_of_getElem? hy)))
theorem QP.go {M M1 : Mm} {p : Nat} {P : Pg} {lo : Nat → Nat} {hs hl h a : Nat} {R : List Nat} (L : QP M p P lo hs hl h a R) (x : Gx xO (Mn M) M M1) : QP M1 p P lo hs hl h a R := by
  have hp := L.1.1
  exact L.gX x (Nat.le_refl _) (fun _ _ _ => rfl) (by rw [x.mi hp rfl]) (by rw [x.mr hp rfl]) (by rw [x.mr hp rfl]) (by rw [x.mr hp rfl])
theorem lAbove {M : Mm} {p w : Nat} (hw0 : Mi M p 0 = nI w) (hw : w ≤ 40) {of a u l : Nat} {xs : List Nat} (hof : isL M of a xs) (hu : l ≠ 0 → ∃ x, xs[l - 1]? = some x ∧ isBr M x w u) (hu0 : l = 0 → u = 0) (hl : l < 1000) {c s : Nat} (hp : Pl M c) (hc : c ≤ 900000000) : Rw (gX9_above p of (nI l)) M c s (fun h M' c' s' => Gx xO (Mn M) M M' ∧ Cs M c s M' c' s' (if l = 0 then 1 else 0) (if l = 0 then w else 0) ∧ Pl M' c' ∧ isBr M' h w u) := by
  have hm := hp.1
  unfold gX9_above gX9_above_L23
  refine Rw_cs (d := l = 0) (neq (b := 0) (by omega) (by omega)) (fun z => ?_) (fun z => ?_)
  · rw [Rw_wb, Rn_gI, hw0, Rw_wq, Rw_nA (by omega) (by omega), Rw_wr, if_pos z, if_pos z]
    have g1 : Gx xO (Mn M) M (nw M 13 w) := Gx.rf.nw (Nat.le_refl _) (by rw [SB_v]; omega)
    have n1 : Mn (nw M 13 w) = Mn M + 1 := rfl
    refine ⟨g1, ⟨by omega, by omega, by omega, by omega⟩, hp.go g1 (by omega), ⟨by omega, by rw [Mk_nw, if_pos rfl], by rw [Ml_nw, if_pos rfl], fun k _ => ?_⟩⟩
    rw [hu0 z, Mi_nw, if_pos rfl, Nat.zero_testBit]; rfl
  · obtain ⟨x, hx, bx⟩ := hu z
    have e : nI l - 1 = nI (l - 1) := by rw [nL1]; exact nsb (by omega)
    rw [Rw_wq, e, lGet hof hx, Rw_wb, Rn_ckK bx.1 bx.2.1, Rw_wr, if_neg z, if_neg z]
    exact ⟨Gx.rf, ⟨by omega, by omega, by omega, by omega⟩, hp, bx⟩
/-! what is made for a line, at most: cells u.., places v.., where the rows have b l changes at most -/
def bu (b : Nat → Nat) (l : Nat) : Nat := if l = 0 then 0 else b (l - 1)
def uCo (b : Nat → Nat) (l : Nat) : Nat := kCd 28 (bu b l) + (if l = 0 then 1 else 0)
def vCo (b : Nat → Nat) (l : Nat) : Nat := sCd 28 (bu b l) + (if l = 0 then 27 else 0)
def uMk (b : Nat → Nat) (e l : Nat) : Nat := if l % e = 0 then 0 else kAl (b l) + 1 + (uCo b l + 1)
def vMk (b : Nat → Nat) (e l : Nat) : Nat := if l % e = 0 then 0 else sAl (b l) + 4 + (vCo b l + 4)
def uBi (b : Nat → Nat) (e l : Nat) : Nat := uMk b e l + (if l % e = 0 then kAl (b l) + 1 else max (kAl (b l) + 1) (uCo b l + 1))
def vBi (b : Nat → Nat) (e l : Nat) : Nat := vMk b e l + (if l % e = 0 then sAl (b l) + 4 else max (sAl (b l) + 4) (vCo b l + 4))
/-- pages of the law: widths, lines, changes -/
def okP (P : Pg) (b : Nat → Nat) : Prop := wfP P ∧ Pw P ≤ 27 ∧ PL P ≤ 7 ∧ ∀ l, l < PL P → (chU (Pr P l) (Pw P)).length ≤ b l
theorem kCd_le {m m' n n' : Nat} (h : m ≤ m') (h2 : n ≤ n') : kCd m n ≤ kCd m' n' := by
  unfold kCd
  have a := cpC_mono h
  have b := cpC_mono h2
  have : m * (4 + cpC n) ≤ m' * (4 + cpC n') := Nat.mul_le_mul h (by omega)
  omega
theorem sCd_le {m m' n n' : Nat} (h : m ≤ m') (h2 : n ≤ n') : sCd m n ≤ sCd m' n' := by
  unfold sCd
  have a := cpS_mono h
  have b := cpS_mono h2
  have : m * (13 + cpS n) ≤ m' * (13 + cpS n') := Nat.mul_le_mul h (by omega)
  omega
theorem kAl_le {n n' : Nat} (h : n ≤ n') : kAl n ≤ kAl n' := by
  unfold kAl
  have a := cpC_mono h
  have b := cpC_mono (Nat.succ_le_succ h)
  show 3 + cpC n + cpC (n + 1) ≤ 3 + cpC n' + cpC (n' + 1)
  have b : cpC (n + 1) ≤ cpC (n' + 1) := b
  omega
theorem sAl_le {n n' : Nat} (h : n ≤ n') : sAl n ≤ sAl n' := by
  unfold sAl
  have a := cpS_mono h
  have b := cpS_mono (Nat.succ_le_succ h)
  have b : cpS (n + 1) ≤ cpS (n' + 1) := b
  omega
theorem kAl_m (n : Nat) : kAl n ≤ 11 := by
  unfold kAl; have := cpC_le n; have := cpC_le (n + 1); omega
theorem kCd_m {m : Nat} (h : m ≤ 28) (n : Nat) : kCd m n ≤ 229 := by
  unfold kCd
  have a := cpC_le m
  have b := cpC_le n
  have : m * (4 + cpC n) ≤ 28 * 8 := Nat.mul_le_mul h (by omega)
  omega
section PG
variable {M : Mm} {p : Nat} {P : Pg} {lo b : Nat → Nat} {hs hl h a : Nat} {R : List Nat} {c s : Nat}
theorem QP.row (L : QP M p P lo hs hl h a R) {l : Nat} (hl' : l < PL P) : ∃ x, R[l]? = some x ∧ isBr M x (Pw P) (Pr P l) := by
  obtain ⟨x, hx⟩ := gt_some R (show l < R.length by rw [L.2.2.2.1.2.1]; exact hl')
  exact ⟨x, hx, L.2.2.2.1.2.2 l x hx⟩
theorem lCodeOf (L : QP M p P lo hs hl h a R) (hP : okP P b) {l : Nat} (hl' : l < PL P) (hp : Pl M c) (hc : c ≤ 870000000) : Rw (gX9_codeOf p (nI l)) M c s (fun v M' c' s' => Gx xO (Mn M) M M' ∧ Cs M c s M' c' s' (uCo b l) (vCo b l) ∧ Pl M' c' ∧ isCl M' (Mn M) v (cod (Pw P) (Pr P l) (Pu P l))) := by
  obtain ⟨hw, h27, h7, hb⟩ := hP
  unfold gX9_codeOf
  rw [Rw_wb, Rn_gA L.1.2.2.2.2, Rw_wq]
  refine (lAbove (u := Pu P l) L.1.2.1 (by omega) L.2.2.2.1.1 (fun z => ?_) (fun z => by unfold Pu; rw [if_pos z]) (by omega) hp (by omega)).mono ?_
  · obtain ⟨x, hx, bx⟩ := L.row (show l - 1 < PL P by omega)
    exact ⟨x, hx, by unfold Pu; rw [if_neg z]; exact bx⟩
  rintro hu M1 c1 s1 ⟨g1, ⟨e1, e2, e3, e4⟩, p1, bu1⟩
  have L1 := L.go g1
  obtain ⟨x, hx, bx⟩ := L1.row hl'
  rw [Rw_wb, Rn_gA L1.1.2.2.2.2, Rw_wq, lGet L1.2.2.2.1.1 hx, Rw_wb, Rn_ckK bx.1 bx.2.1, Rw_wq]
  have hif : (if l = 0 then 1 else 0) ≤ 1 := by split <;> omega
  refine (lCode bu1 bx h27 p1 (by omega)).mono ?_
  rintro v M2 c2 s2 ⟨g2, ⟨f1, f2, f3, f4⟩, p2, cl⟩
  rw [Rw_wr]
  have hmod : (cod (Pw P) (Pr P l) (Pu P l)).length ≤ 28 := by have := cod_len (Pw P) (Pr P l) (Pu P l); omega
  have hch : (chU (Pu P l) (Pw P)).length ≤ bu b l := by
    unfold bu Pu
    by_cases z : l = 0
    · rw [if_pos z, if_pos z]
      have : ∀ k, chU 0 k = [] := by
        intro k
        induction k with
        | zero => rfl
        | succ k ih => rw [chU_s, ih]; unfold chg; simp
      rw [this]; exact Nat.le_refl _
    · rw [if_neg z, if_neg z]; exact hb (l - 1) (by omega)
  have k1 := kCd_le hmod hch
  have k2 := sCd_le hmod hch
  refine ⟨g1.tr (g2.mono g1.mn (fun _ _ z => z)), ⟨by omega, by omega, ?_, ?_⟩, p2, cl.mono g1.mn⟩
  · unfold uCo; omega
  · unfold vCo
    have : (if l = 0 then Pw P else 0) ≤ (if l = 0 then 27 else 0) := by split <;> omega
    omega
theorem lAloneOf (L : QP M p P lo hs hl h a R) (hP : okP P b) {l : Nat} (hl' : l < PL P) (hp : Pl M c) (hc : c ≤ 870000000) : Rw (wq (gJx4a65c_get_915e3 h (nI l)) fun h5 => wb (ckK 13 h5) fun _ => wq (gL_alone h5) fun h6 => gL_bits h6) M c s (fun v M' c' s' => v = nI (aBt P l) ∧ Gx xO (Mn M) M M' ∧ Cs M c s M' c' s' (kAl (b l) + 1) (sAl (b l) + 4) ∧ Pl M' c') := by
  obtain ⟨hw, h27, h7, hb⟩ := hP
  obtain ⟨x, hx, bx⟩ := L.row hl'
  rw [Rw_wq, lGet L.2.2.2.1.1 hx, Rw_wb, Rn_ckK bx.1 bx.2.1, Rw_wq]
  have h8 := hw.1
  refine (lAlone bx h27 (by omega) hp (by omega)).mono ?_
  rintro v M1 c1 s1 ⟨g1, ⟨e1, e2, e3, e4⟩, p1, rl, hlen⟩
  have k1 := kAl_le (hb l hl')
  have k2 := sAl_le (hb l hl')
  have k3 := kAl_m (b l)
  have hrl := runs_len (Pw P) (Pr P l)
  have hr27 : ∀ y, y ∈ runs (Pw P) (Pr P l) → y < 128 := by
    have : ∀ n f cl, ∀ y, y ∈ rL (Pw P) (Pr P l) n f cl → y < 128 := by
      intro n
      induction n with
      | zero => intro f cl y hy; cases hy
      | succ n ih =>
        intro f cl y hy
        rw [rL_s] at hy
        rcases List.mem_cons.mp hy with e | e
        · have : rT (Pw P) (Pr P l) f cl ≤ Pw P := fb_le _ _ _
          omega
        · split at e
          · exact ih _ _ y e
          · cases e
    exact fun y hy => this _ _ _ y hy
  refine (lBits rl hr27 (by omega) p1 (by omega)).mono ?_
  rintro u M2 c2 s2 ⟨rfl, g2, ⟨f1, f2, f3, f4⟩, p2⟩
  exact ⟨rfl, g1.tr (g2.mono g1.mn (fun _ _ z => z)), ⟨by omega, by omega, by omega, by omega⟩, p2⟩
theorem lCodeBits (L : QP M p P lo hs hl h a R) (hP : okP P b) {l : Nat} (hl' : l < PL P) (hp : Pl M c) (hc : c ≤ 870000000) : Rw (wq (gX9_codeOf p (nI l)) fun h2 => gL_modeBits h2) M c s (fun v M' c' s' => v = nI (cBt P l) ∧ Gx xO (Mn M) M M' ∧ Cs M c s M' c' s' (uCo b l + 1) (vCo b l + 4) ∧ Pl M' c') := by
  rw [Rw_wq]
  refine (lCodeOf L hP hl' hp hc).mono ?_
  rintro v M1 c1 s1 ⟨g1, ⟨e1, e2, e3, e4⟩, p1, cl⟩
  have hu : uCo b l ≤ 230 := by
    unfold uCo
    have := kCd_m (m := 28) (Nat.le_refl _) (bu b l)
    split <;> omega
  refine (lModeBits cl p1 (by omega)).mono ?_
  rintro u M2 c2 s2 ⟨rfl, g2, ⟨f1, f2, f3, f4⟩, p2⟩
  exact ⟨rfl, g1.tr (g2.mono g1.mn (fun _ _ z => z)), ⟨by omega, by omega, by omega, by omega⟩, p2⟩
end PG
theorem Rw_re {α β : Type} {m : Mm → Option (α × Mm × Nat × Nat)} {f : α → Mm → Option (β × Mm × Nat × Nat)} {M : Mm} {c s : Nat} {Q : β → Mm → Nat → Nat → Prop} {γ : Type} {k : β → Mm → Option (γ × Mm × Nat × Nat)} {Q' : γ → Mm → Nat → Nat → Prop} (h : Rw (wq m f) M c s Q) (hk : ∀ v M' c' s', Q v M' c' s' → Rw (k v) M' c' s' Q') : Rw (wq m fun x => wq (f x) k) M c s Q' := by
  rw [Rw_wq] at h ⊢
  refine h.mono (fun x M1 c1 s1 h1 => ?_)
  rw [Rw_wq]
  exact h1.mono hk
