/-! THE ROW ALONE: runs; bits -/
def isRl (M : Mm) (N h : Nat) (L : List Nat) : Prop := ∃ a, isL M h a (L.map bx) ∧ (a ≠ EB → N ≤ a) ∧ N ≤ h
theorem isL.lt {M : Mm} {h a : Nat} {xs : List Nat} (l : isL M h a xs) (z : a ≠ EB) : a < Mn M := by
  obtain ⟨-, -, -, -, ⟨y, -⟩ | ⟨-, y, -⟩⟩ := l
  · exact absurd y z
  · exact y
theorem isRl.gx {X : Nat → Bool} {n N : Nat} {M M1 : Mm} {h : Nat} {L : List Nat} (b : isRl M N h L) (x : Gx X n M M1) (hn : Mn M ≤ n) (hX : ∀ q, N ≤ q → q < Mn M → X q = false) : isRl M1 N h L := by
  obtain ⟨a, l, h1, h2⟩ := b
  exact ⟨a, l.gx x (Nat.lt_of_lt_of_le l.1 hn) (hX h h2 l.1) (fun z => ⟨Nat.lt_of_lt_of_le (l.lt z) hn, hX a (h1 z) (l.lt z)⟩), h1, h2⟩
theorem isRl.mono {N N' : Nat} {M : Mm} {h : Nat} {L : List Nat} (b : isRl M N h L) (e : N' ≤ N) : isRl M N' h L := by
  obtain ⟨a, l, h1, h2⟩ := b
  exact ⟨a, l, fun z => Nat.le_trans e (h1 z), Nat.le_trans e h2⟩
def kAl (n : Nat) : Nat := 3 + cpC n + cpC (n + 1)
def sAl (n : Nat) : Nat := 10 + cpS n + cpS (n + 1)
/-- the other colour comes with the next change -/
theorem rT_chg {w r t : Nat} {c : Bool} (hc : bf r t = c) : rT w r t c = fb (fun k => chg r k) w t := by
  unfold rT
  have key : ∀ n t, w ≤ t + n → bf r t = c → fb (fun k => r.testBit k == !c) w t = fb (fun k => chg r k) w t := by
    intro n
    induction n with
    | zero => intro t h _; rw [fb_ge_w (by omega), fb_ge_w (by omega)]
    | succ n ih =>
      intro t h hb
      by_cases hw : t < w
      · have hg := chg_bf r t
        by_cases q : r.testBit t = c
        · have g : chg r t = false := hg.mp (by rw [hb]; exact q)
          rw [fb_next (p := fun k => r.testBit k == !c) hw (by simp [q]), fb_next (p := fun k => chg r k) hw g]
          exact ih (t + 1) (by omega) (by rw [bf_s]; exact q)
        · have g : chg r t = true := by
            cases z : chg r t with
            | true => rfl
            | false => exact absurd ((hg.mpr z).trans hb) q
          have q' : r.testBit t = !c := by revert q; cases r.testBit t <;> cases c <;> simp
          rw [fb_at (p := fun k => r.testBit k == !c) hw (by simp [q']), fb_at (p := fun k => chg r k) hw g]
      · rw [fb_ge_w (by omega), fb_ge_w (by omega)]
  exact key w t (by omega) hc
theorem rT_step {w r f : Nat} {c : Bool} (hf : f < w) (hc : r.testBit f = c) : rT w r f c = rT w r (f + 1) c := by
  unfold rT
  exact fb_next (p := fun k => r.testBit k == !c) hf (by simp [hc])
theorem rL_s (w r n f : Nat) (c : Bool) : rL w r (n + 1) f c = (rT w r f c - f) :: (if rT w r f c < w then rL w r n (rT w r f c) (!c) else []) := rfl
theorem lAlone {M : Mm} {h w r : Nat} (hb : isBr M h w r) (hw : w ≤ 27) (hw8 : 1 ≤ w) {c s : Nat} (hp : Pl M c) (hc : c ≤ 880000000) : Rw (gL_alone h) M c s (fun l M' c' s' => Gx xO (Mn M) M M' ∧ Cs M c s M' c' s' (kAl (chU r w).length) (sAl (chU r w).length) ∧ Pl M' c' ∧ isRl M' (Mn M) l (runs w r) ∧ (runs w r).length = (chU r w).length + 1) := by
  have hm := hp.1
  unfold gL_alone
  refine lNew (by omega) (fun M1 g1 n1 l1 => ?_)
  have b1 := hb.gx g1 hb.1 rfl
  have p1 := hp.go g1 (c' := c + 1) (by omega)
  rw [Rw_wq]
  refine (lChanges b1 hw p1 (by omega)).mono ?_
  rintro l M4 c4 s4 ⟨rfl, g4, ⟨e1, e2, e3, e4⟩, p4, a, l4, ha⟩
  have hC := cpC_le (chU r w).length
  have hm4 := p4.1
  have hl := l4.1
  rw [Rw_wq]
  refine (itNew hl (by omega)).mono ?_
  rintro it M5 c5 s5 ⟨rfl, n5, rfl, rfl, g5, it5⟩
  have l5 : isL M5 (Mn M1) a ((chU r w).map bx) := l4.gx g5 hl rfl (fun z => ⟨l4.lt z, rfl⟩)
  have haf : a ≠ EB → a < Mn M4 := l4.lt
  have hM14 := g4.mn
  have hEn : EB = 1000000500 := EB_v
  have r1 : isL M5 (Mn M) EB [] := (l1.gx g4 l1.1 rfl (fun z => absurd rfl z)).gx g5 (by omega) rfl (fun z => absurd rfl z)
  have g05 : Gx xO (Mn M) M M5 := (g1.tr (g4.mono (by omega) (fun _ _ _ => rfl))).tr (g5.mono (by omega) (fun _ _ _ => rfl))
  have p5 : Pl M5 (c4 + 1) := p4.go g5 (by omega)
  have hlen : (chU r w).length ≤ 27 := Nat.le_trans (chU_len r w) hw
  generalize hU : chU r w = CH at *
  refine rw_loopv (F := fun n (x : List Nat × Nat × Nat × Nat × Bool) => gL_alone_L18 n h (Mn M) (nI x.2.2.1) (Mn M4)) (fun x M' c' s' => x.2.1 ≤ w ∧ x.2.2.1 ≤ w ∧ runs w r = x.1 ++ rL w r (x.2.2.2.1 + 1) x.2.2.1 x.2.2.2.2 ∧ ((x.2.1 = 0 ∧ x.2.2.1 = 0 ∧ x.2.2.2.1 = w) ∨ (x.2.2.1 < x.2.1 ∧ w ≤ x.2.2.2.1 + x.2.2.1 + 1)) ∧ bf r x.2.1 = x.2.2.2.2 ∧ rT w r x.2.2.1 x.2.2.2.2 = fb (fun k => chg r k) w x.2.1 ∧ x.1.length = (chU r x.2.1).length ∧ (∀ y, y ∈ x.1 → y ≤ 27) ∧ Gx (fun q => q == Mn M || q == Mn M4) (Mn M5) M5 M' ∧ isIt M' (Mn M4) (Mn M1) (chU r x.2.1).length ∧ (∃ a', isL M' (Mn M) a' (x.1.map bx) ∧ (a' ≠ EB → Mn M5 ≤ a')) ∧ Mn M' + (c4 + 1) ≤ Mn M5 + c' ∧ c4 + 1 ≤ c' ∧ c' ≤ c4 + 1 + cpC x.1.length ∧ s' ≤ s4 + 4 + cpS x.1.length ∧ Pl M' c') (fun x => w - x.2.1) ?_ fu ([], 0, 0, w, false) M5 (c4 + 1) (s4 + 4) (by unfold fu; show w - 0 < 20000; omega) ⟨Nat.zero_le _, Nat.zero_le _, rfl, Or.inl ⟨rfl, rfl, rfl⟩, rfl, rT_chg rfl, rfl, fun y hy => (List.not_mem_nil hy).elim, Gx.rf, it5, ⟨EB, r1, fun z => absurd rfl z⟩, by omega, by omega, by show c4 + 1 ≤ c4 + 1 + 0; omega, by show s4 + 4 ≤ s4 + 4 + 0; omega, p5⟩
  rintro n ⟨D, t, at_, nf, cl⟩ M6 c6 s6 ⟨ht, hat, hD, hfu, hbf, hrT, hDl, hD27, g6, it6, ⟨a6, r6, ha6⟩, f1, f2, f3, f4, p6⟩ ih
  have ht : t ≤ w := ht
  have hat : at_ ≤ w := hat
  have hD : runs w r = D ++ rL w r (nf + 1) at_ cl := hD
  have hfu : (t = 0 ∧ at_ = 0 ∧ nf = w) ∨ (at_ < t ∧ w ≤ nf + at_ + 1) := hfu
  have hm56 : Mn M5 ≤ Mn M6 := g6.mn
  have hbf : bf r t = cl := hbf
  have hrT : rT w r at_ cl = fb (fun k => chg r k) w t := hrT
  have hDl : D.length = (chU r t).length := hDl
  have it6 : isIt M6 (Mn M4) (Mn M1) (chU r t).length := it6
  have r6 : isL M6 (Mn M) a6 (D.map bx) := r6
  have f3 : c6 ≤ c4 + 1 + cpC D.length := f3
  have f4 : s6 ≤ s4 + 4 + cpS D.length := f4
  have hCD := cpC_le D.length
  have hm6 := p6.1
  have XX : ∀ q, q ≠ Mn M → q ≠ Mn M4 → (fun q => q == Mn M || q == Mn M4) q = false := fun q z1 z2 => by simp [z1, z2]
  have l6 : isL M6 (Mn M1) a (CH.map bx) := l5.gx g6 (by omega) (XX _ (by omega) (by omega)) (fun z => ⟨by have := haf z; omega, XX _ (by have := ha z; omega) (by have := haf z; omega)⟩)
  have h0 : h < Mn M := hb.1
  have b6 : isBr M6 h w r := (hb.gx g05 h0 rfl).gx g6 (by omega) (XX _ (by omega) (by omega))
  have hDt : D.length ≤ 27 := by have := chU_len r t; omega
  have hlU : (chU r t).length ≤ CH.length := by rw [← hU]; exact chU_mono r ht
  show Rw (gL_alone_L18 (n + 1) h (Mn M) (nI at_) (Mn M4)) _ _ _ _
  unfold gL_alone_L18
  rw [Rw_wq]
  have hfl := fb_le (fun k => chg r k) w t
  have hfg := fb_ge (fun k => chg r k) ht
  -- one more run
  have put : ∀ (M7 : Mm) (v : Nat), v ≤ 27 → Gx (x1 (Mn M4)) (Mn M6) M6 M7 → Mn M7 = Mn M6 → ∀ {α : Type} {G : Mm → Option (α × Mm × Nat × Nat)} {Q : α → Mm → Nat → Nat → Prop}, (∀ M8 c8 s8 a8, Gx (x2 (Mn M) a6) (Mn M7) M7 M8 → isL M8 (Mn M) a8 ((D ++ [v]).map bx) → (a8 ≠ EB → Mn M5 ≤ a8) → c8 + cpC D.length ≤ c6 + cpC (D.length + 1) → s8 + cpS D.length ≤ s6 + cpS (D.length + 1) → Mn M8 + c6 ≤ Mn M7 + c8 → c6 ≤ c8 → Pl M8 c8 → Rw G M8 c8 s8 Q) → Rw (wq (gJx4a65c_add_9ea2d (Mn M) (bx v)) fun _ => G) M7 c6 s6 Q := by
    intro M7 v hv g7 n7 α G Q kG
    have p7 : Pl M7 c6 := p6.go g7 (by omega)
    have r7 : isL M7 (Mn M) a6 (D.map bx) := r6.gx g7 (by omega) (x1_f (by omega)) (fun z => ⟨r6.lt z, x1_f (by have := ha6 z; omega)⟩)
    rw [Rw_wq]
    refine (lAdd r7 p7.2 (by omega) (by rw [List.length_map]; omega) (bx v)).mono ?_
    rintro - M8 c8 s8 ⟨-, g8, z1, z2, z3, z4, a8, r8, y1, y2⟩
    rw [List.length_map] at z1 z2
    refine kG M8 c8 s8 a8 g8 (by rw [List.map_append]; exact r8) (fun _ => ?_) z1 z2 z3 z4 (p7.go g8 z3)
    rcases y2 with y2 | y2
    · rw [y2.1]; exact ha6 y2.2
    · have := g6.mn; omega
  by_cases hf : fb (fun k => chg r k) w t < w
  · obtain ⟨hx1, hx2⟩ := chU_next ht hf
    have hck := fb_yes (p := fun k => chg r k) hf
    have hno : ∀ j, t ≤ j → j < fb (fun k => chg r k) w t → chg r j = false := fun j a b => fb_no (p := fun k => chg r k) (w := w) a b
    generalize fb (fun k => chg r k) w t = k at hf hx1 hx2 hck hfl hfg hrT hno
    have hck : chg r k = true := hck
    rw [hU] at hx1
    have hilen : (chU r t).length < (CH.map bx).length := (List.getElem?_eq_some_iff.mp (mp_at (f := bx) hx1)).1
    rw [itMore it6 l6 hilen]
    refine Rw_no (by decide) ?_
    rw [Rw_wq]
    refine itNext it6 l6 (mp_at hx1) (by omega) (fun M7 g7 n7 it7 => ?_)
    rw [← hx2] at it7
    rw [Rw_wb, bCk (by omega), Rw_wq, bInt (by omega), Rw_wq, nsb (by omega), bVal (by omega)]
    refine put M7 (k - at_) (by omega) g7 n7 (fun M8 c8 s8 a8 g8 r8 ha8 z1 z2 z3 z4 p8 => ?_)
    have hbk : r.testBit k = !cl := by
      have e1 : bf r k = cl := by
        by_cases q : k = t
        · rw [q]; exact hbf
        · have hk1 : chg r (k - 1) = false := hno (k - 1) (by omega) (by omega)
          have : ∀ m, t ≤ m → m ≤ k → bf r m = cl := by
            intro m
            induction m with
            | zero => intro h1 _; have : t = 0 := by omega
                      subst this; exact hbf
            | succ m im =>
              intro h1 h2
              by_cases z : t = m + 1
              · rw [← z]; exact hbf
              · rw [bf_s]
                have := im (by omega) (by omega)
                rw [← this]
                exact (chg_bf r m).mpr (hno m (by omega) (by omega))
          exact this k (by omega) (Nat.le_refl _)
      have := chg_bf r k
      rw [e1] at this
      have h2 : ¬ r.testBit k = cl := fun z => by rw [this.mp z] at hck; cases hck
      revert h2; cases r.testBit k <;> cases cl <;> simp
    have hn1 : 1 ≤ nf := by omega
    have hrun : runs w r = (D ++ [k - at_]) ++ rL w r (nf - 1 + 1) k (!cl) := by
      rw [hD, rL_s, hrT, if_pos hf, Nat.sub_add_cancel hn1, List.append_assoc]; rfl
    have g68 : Gx (fun q => q == Mn M || q == Mn M4) (Mn M5) M5 M8 := by
      refine g6.tr ((g7.mono (by have := g6.mn; omega) (fun q _ z => ?_)).tr (g8.mono (by have := g6.mn; omega) (fun q hq z => ?_)))
      · simp at z; exact x1_f z.2
      · simp at z
        refine x2_f z.1 (fun e => ?_)
        by_cases w6 : a6 = EB
        · have := p5.1; omega
        · have := ha6 w6; omega
    refine ih (D ++ [k - at_], k + 1, k, nf - 1, !cl) M8 c8 s8 ⟨by show k + 1 ≤ w; omega, by show k ≤ w; omega, hrun, ?_, by rw [bf_s]; exact hbk, ?_, ?_, ?_, g68, ?_, ⟨a8, r8, ha8⟩, by omega, by omega, ?_, ?_, p8⟩ (by show w - (k + 1) < w - t; omega)
    · refine Or.inr ⟨?_, ?_⟩
      · show k < k + 1; omega
      · show w ≤ nf - 1 + k + 1; omega
    · show rT w r k (!cl) = fb (fun k => chg r k) w (k + 1)
      rw [rT_step hf hbk]
      exact rT_chg (by rw [bf_s]; exact hbk)
    · show (D ++ [k - at_]).length = (chU r (k + 1)).length
      rw [List.length_append, hx2, hDl]; rfl
    · intro y hy
      rcases List.mem_append.mp hy with hy | hy
      · exact hD27 y hy
      · have : y = k - at_ := by simpa using hy
        omega
    · refine it7.gx g8 (by omega) (x2_f (by omega) (fun e => ?_)) (by omega) (x2_f (by omega) (fun e => ?_))
      · by_cases w6 : a6 = EB
        · have := p5.1; omega
        · have := ha6 w6; omega
      · by_cases w6 : a6 = EB
        · have := p5.1; omega
        · have := ha6 w6; omega
    · show c8 ≤ c4 + 1 + cpC (D ++ [k - at_]).length
      rw [List.length_append]; show c8 ≤ c4 + 1 + cpC (D.length + 1); omega
    · show s8 ≤ s4 + 4 + cpS (D ++ [k - at_]).length
      rw [List.length_append]; show s8 ≤ s4 + 4 + cpS (D.length + 1); omega
  · have he := chU_end ht hf
    rw [hU] at he
    rw [itEnd it6 l6 (by rw [List.length_map, he])]
    refine Rw_yes rfl ?_
    have hfw : fb (fun k => chg r k) w t = w := by omega
    rw [hfw] at hrT
    rw [Rw_wb, b6.gN, Rw_wq, nsb hat, bVal (by omega)]
    refine put M6 (w - at_) (by omega) Gx.rf rfl (fun M8 c8 s8 a8 g8 r8 ha8 z1 z2 z3 z4 p8 => ?_)
    rw [Rw_wr]
    have hrun : runs w r = D ++ [w - at_] := by
      rw [hD, rL_s, hrT, if_neg (Nat.lt_irrefl _)]
    have hm5 : Mn M5 ≤ Mn M6 := g6.mn
    refine ⟨?_, ⟨by omega, by omega, ?_, ?_⟩, p8, ⟨a8, by rw [hrun]; exact r8, fun z => by have := ha8 z; omega, Nat.le_refl _⟩, by rw [hrun, List.length_append, hDl, he]; rfl⟩
    · refine g05.tr ((g6.mono (by omega) (fun q hq _ => XX _ (by omega) (by omega))).tr (g8.mono (by omega) (fun q hq _ => x2_f (by omega) (fun e => ?_))))
      by_cases w6 : a6 = EB
      · omega
      · have := ha6 w6; omega
    · unfold kAl
      rw [hDl, he] at z1 f3
      omega
    · unfold sAl
      rw [hDl, he] at z2 f4
      omega
