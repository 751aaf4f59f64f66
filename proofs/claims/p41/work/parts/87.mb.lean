/-- B and D, as an array of two -/
def isBd (M : Mm) (h w u q : Nat) (c : Bool) : Prop := h < Mn M ∧ Ml M h = 2 ∧ Mi M h 0 = nI (sB w u q c) ∧ Mi M h 1 = nI (sD w u (sB w u q c))
theorem isBd.gx {X : Nat → Bool} {n : Nat} {M M1 : Mm} {h w u q : Nat} {c : Bool} (b : isBd M h w u q c) (x : Gx X n M M1) (h1 : h < n) (h2 : X h = false) : isBd M1 h w u q c := by
  obtain ⟨b1, b2, b3, b4⟩ := b
  exact ⟨Nat.lt_of_lt_of_le b1 x.mn, by rw [x.ml b1]; exact b2, by rw [x.mi h1 h2]; exact b3, by rw [x.mi h1 h2]; exact b4⟩
def cut (t w x : Nat) : Nat := if x < t then x else w
theorem cut_no {t k w x : Nat} (ht : t ≤ k + 1) (h : x < t ∨ k < x ∨ w ≤ x) (hw : x ≤ w) (hk : k < w) : cut (k + 1) w x = cut t w x := by
  unfold cut
  rcases h with h | h | h
  · rw [if_pos (by omega), if_pos h]
  · rw [if_neg (by omega)]; split <;> omega
  · rw [if_neg (by omega)]; split <;> omega
theorem sB_chg {w u q : Nat} {c : Bool} (h : sB w u q c < w) : chg u (sB w u q c) = true ∧ (u.testBit (sB w u q c) ≠ c) := by
  have := fb_yes (p := fun k => chg u k && (bN (u.testBit k) != bN c)) h
  have h2 : (chg u (sB w u q c) && (bN (u.testBit (sB w u q c)) != bN c)) = true := this
  rw [Bool.and_eq_true] at h2
  refine ⟨h2.1, fun e => ?_⟩
  rw [e] at h2
  simp at h2
theorem sD_gt {w u b : Nat} (h : sD w u b < w) : b < sD w u b := by
  unfold sD at h ⊢
  rcases fb_spec (fun k => chg u k) w (b + 1) with z | z <;> omega
theorem sD_chg {w u b : Nat} (h : sD w u b < w) : chg u (sD w u b) = true := fb_yes (p := fun k => chg u k) h
theorem lMarks {M : Mm} {h w u q : Nat} {cl : Bool} (hb : isBr M h w u) (hw : w ≤ 27) (hq : q ≤ w) {c s : Nat} (hp : Pl M c) (hc : c ≤ 890000000) : Rw (gL_marksBehind h (pl q) (nI (bN cl))) M c s (fun b M' c' s' => Gx xO (Mn M) M M' ∧ Cs M c s M' c' s' (3 + cpC (chU u w).length) (9 + cpS (chU u w).length) ∧ Pl M' c' ∧ isBd M' b w u q cl ∧ Mn M ≤ b) := by
  have hm := hp.1
  have hE := hp.2
  unfold gL_marksBehind
  rw [Rw_wq, show (2 : Int32) = nI 2 from rfl, Rw_nA (by omega) (by omega)]
  have g1 : Gx xO (Mn M) M (nw M 11 2) := Gx.rf.nw (Nat.le_refl _) (by rw [SB_v]; omega)
  have n1 : Mn (nw M 11 2) = Mn M + 1 := rfl
  have b1 : isBr (nw M 11 2) h w u := hb.gx g1 hb.1 rfl
  have q1 : Ml (nw M 11 2) (Mn M) = 2 := by rw [Ml_nw, if_pos rfl]
  have p1 := hp.go g1 (c' := c + 1) (by omega)
  generalize nw M 11 2 = M1 at g1 n1 b1 q1 p1
  rw [Rw_wb, b1.gN, Rw_wb, show (0 : Int32) = nI 0 from rfl, rn_aI (by omega), q1]
  refine ⟨by omega, ?_⟩
  have g2 : Gx xO (Mn M) M (sI M1 (Mn M) 0 (nI w)) := g1.sI (fun z => absurd z (Nat.lt_irrefl _))
  have b2 : isBr (sI M1 (Mn M) 0 (nI w)) h w u := hb.gx g2 hb.1 rfl
  rw [Rw_wb, b2.gN, Rw_wb, show (1 : Int32) = nI 1 from rfl, rn_aI (by omega), Ml_sI, q1]
  refine ⟨by omega, ?_⟩
  have g3 : Gx xO (Mn M) M (sI (sI M1 (Mn M) 0 (nI w)) (Mn M) 1 (nI w)) := g2.sI (fun z => absurd z (Nat.lt_irrefl _))
  have b3 : isBr (sI (sI M1 (Mn M) 0 (nI w)) (Mn M) 1 (nI w)) h w u := hb.gx g3 hb.1 rfl
  have n3 : Mn (sI (sI M1 (Mn M) 0 (nI w)) (Mn M) 1 (nI w)) = Mn M + 1 := n1
  have q3 : Ml (sI (sI M1 (Mn M) 0 (nI w)) (Mn M) 1 (nI w)) (Mn M) = 2 := q1
  have i0 : Mi (sI (sI M1 (Mn M) 0 (nI w)) (Mn M) 1 (nI w)) (Mn M) 0 = nI w := by rw [Mi_sI, if_neg (by omega), sI_self]
  have i1 : Mi (sI (sI M1 (Mn M) 0 (nI w)) (Mn M) 1 (nI w)) (Mn M) 1 = nI w := sI_self
  have p3 : Pl (sI (sI M1 (Mn M) 0 (nI w)) (Mn M) 1 (nI w)) (c + 1) := p1
  generalize sI (sI M1 (Mn M) 0 (nI w)) (Mn M) 1 (nI w) = M3 at g3 b3 n3 q3 i0 i1 p3
  clear g1 n1 b1 q1 p1 g2 b2
  rw [Rw_wq]
  refine (lChanges b3 hw p3 (by omega)).mono ?_
  rintro l M4 c4 s4 ⟨rfl, g4, ⟨e1, e2, e3, e4⟩, p4, a, l4, ha⟩
  have hC := cpC_le (chU u w).length
  have hm4 := p4.1
  have hl := l4.1
  rw [Rw_wq]
  refine (itNew hl (by omega)).mono ?_
  rintro it M5 c5 s5 ⟨rfl, n5, rfl, rfl, g5, it5⟩
  have l5 : isL M5 (Mn M3) a ((chU u w).map bx) := l4.gx g5 hl rfl (fun z => ⟨by
    obtain ⟨-, -, -, -, ⟨y, -⟩ | ⟨-, y, -⟩⟩ := l4
    · exact absurd y z
    · exact y, rfl⟩)
  have g45 : Gx xO (Mn M + 1) M3 M5 := (g4.mono (by omega) (fun _ _ _ => rfl)).tr (g5.mono (by have := g4.mn; omega) (fun _ _ _ => rfl))
  have q5 : Ml M5 (Mn M) = 2 := by rw [g45.ml (by omega)]; exact q3
  have j0 : Mi M5 (Mn M) 0 = nI w := by rw [g45.mi (by omega) rfl]; exact i0
  have j1 : Mi M5 (Mn M) 1 = nI w := by rw [g45.mi (by omega) rfl]; exact i1
  have g05 : Gx xO (Mn M) M M5 := g3.tr (g45.mono (by omega) (fun _ _ _ => rfl))
  have p5 : Pl M5 (c4 + 1) := p3.go g45 (by omega)
  have hlen : (chU u w).length ≤ 27 := Nat.le_trans (chU_len u w) hw
  have hsB := sB_le w u q cl
  have hsBq := sB_ge (u := u) (c := cl) hq
  have hsD := sD_le w u (sB w u q cl)
  have haf : a ≠ EB → a < Mn M4 := fun z => by
    obtain ⟨-, -, -, -, ⟨y, -⟩ | ⟨-, y, -⟩⟩ := l4
    · exact absurd y z
    · exact y
  refine rw_loopv (F := fun n (t : Nat) => gL_marksBehind_L23 n h (pl q) (nI (bN cl)) (Mn M) (Mn M4)) (fun t M' c' s' => t ≤ w ∧ c' = c4 + 1 ∧ s' = s4 + 4 ∧ Gx (x2 (Mn M) (Mn M4)) (Mn M5) M5 M' ∧ Mn M' = Mn M5 ∧ isIt M' (Mn M4) (Mn M3) (chU u t).length ∧ Mi M' (Mn M) 0 = nI (cut t w (sB w u q cl)) ∧ Mi M' (Mn M) 1 = nI (cut t w (sD w u (sB w u q cl)))) (fun t => w - t) ?_ fu 0 M5 (c4 + 1) (s4 + 4) (by unfold fu; omega) ⟨Nat.zero_le _, rfl, rfl, Gx.rf, rfl, it5, by rw [j0]; unfold cut; rw [if_neg (by omega)], by rw [j1]; unfold cut; rw [if_neg (by omega)]⟩
  rintro n t M6 c6 s6 ⟨ht, rfl, rfl, g6, n6, it6, k0, k1⟩ ih
  have hM4 : Mn M + 1 ≤ Mn M4 := by have := g4.mn; omega
  have X1 : x2 (Mn M) (Mn M4) (Mn M3) = false := x2_f (by omega) (by omega)
  have l6 : isL M6 (Mn M3) a ((chU u w).map bx) := l5.gx g6 (by omega) X1 (fun z => ⟨by have := haf z; omega, x2_f (by have := ha z; omega) (by have := haf z; omega)⟩)
  have b6 : isBr M6 h w u := by
    have h0 : h < Mn M := hb.1
    exact (hb.gx g05 h0 rfl).gx g6 (by have := g05.mn; omega) (x2_f (by omega) (by omega))
  have q6 : Ml M6 (Mn M) = 2 := by rw [g6.ml (by omega)]; exact q5
  show Rw (gL_marksBehind_L23 (n + 1) h (pl q) (nI (bN cl)) (Mn M) (Mn M4)) _ _ _ _
  unfold gL_marksBehind_L23
  rw [Rw_wq]
  by_cases hf : fb (fun k => chg u k) w t < w
  · obtain ⟨hx1, hx2⟩ := chU_next ht hf
    have hge := fb_ge (fun k => chg u k) ht
    have hno : ∀ j, t ≤ j → j < fb (fun k => chg u k) w t → chg u j = false := fun j a b => fb_no (p := fun k => chg u k) (w := w) a b
    have hck := fb_yes (p := fun k => chg u k) hf
    generalize fb (fun k => chg u k) w t = k at hf hx1 hx2 hge hno hck
    have hck : chg u k = true := hck
    have hsBk : sB w u q cl < t ∨ sB w u q cl = k ∨ k < sB w u q cl ∨ w ≤ sB w u q cl := by
      by_cases z : sB w u q cl < w
      · have z1 := (sB_chg z).1
        by_cases z2 : sB w u q cl < t
        · exact Or.inl z2
        · by_cases z3 : sB w u q cl < k
          · rw [hno _ (by omega) z3] at z1; cases z1
          · omega
      · omega
    have hsDk : sD w u (sB w u q cl) < t ∨ sD w u (sB w u q cl) = k ∨ k < sD w u (sB w u q cl) ∨ w ≤ sD w u (sB w u q cl) := by
      by_cases z : sD w u (sB w u q cl) < w
      · have z1 := sD_chg z
        by_cases z2 : sD w u (sB w u q cl) < t
        · exact Or.inl z2
        · by_cases z3 : sD w u (sB w u q cl) < k
          · rw [hno _ (by omega) z3] at z1; cases z1
          · omega
      · omega
    have hilen : (chU u t).length < ((chU u w).map bx).length := (List.getElem?_eq_some_iff.mp (mp_at (f := bx) hx1)).1
    rw [itMore it6 l6 hilen]
    refine Rw_no (by decide) ?_
    rw [Rw_wq]
    refine itNext it6 l6 (mp_at hx1) (by omega) (fun M7 g7 n7 it7 => ?_)
    rw [← hx2] at it7
    have y0 : Mi M7 (Mn M) = Mi M6 (Mn M) := g7.mi (by omega) (x1_f (by omega))
    rw [← congrFun y0 0] at k0
    rw [← congrFun y0 1] at k1
    have q7 : Ml M7 (Mn M) = 2 := by rw [g7.ml (by omega)]; exact q6
    have b7 : isBr M7 h w u := b6.gx g7 b6.1 (x1_f (by have := hb.1; omega))
    have g57 : Gx (x2 (Mn M) (Mn M4)) (Mn M5) M5 M7 := g6.tr (g7.mono (by omega) (fun r _ z => by unfold x1; unfold x2 at z; simp at z ⊢; exact z.2))
    clear y0 q6 b6 l6 it6 g6 g7
    rw [Rw_wb, bCk (by omega), Rw_wq, bInt (by omega)]
    -- where the second one is looked for
    have L107 : ∀ M8, Gx (x2 (Mn M) (Mn M4)) (Mn M5) M5 M8 → Mn M8 = Mn M5 → isIt M8 (Mn M4) (Mn M3) (chU u (k + 1)).length → Mi M8 (Mn M) 0 = nI (cut (k + 1) w (sB w u q cl)) → Mi M8 (Mn M) 1 = nI (cut (k + 1) w (sD w u (sB w u q cl))) → Rw (gL_marksBehind_L107 (gL_marksBehind_L23 n) h (pl q) (nI (bN cl)) (Mn M) (Mn M4)) M8 (c4 + 1) (s4 + 4) (fun b M' c' s' => Gx xO (Mn M) M M' ∧ Cs M c s M' c' s' (3 + cpC (chU u w).length) (9 + cpS (chU u w).length) ∧ Pl M' c' ∧ isBd M' b w u q cl ∧ Mn M ≤ b) := by
      intro M8 z1 z2 z3 z4 z5
      unfold gL_marksBehind_L107
      exact ih (k + 1) M8 _ _ ⟨by omega, rfl, rfl, z1, z2, z3, z4, z5⟩ (by omega)
    have L78 : sB w u q cl ≠ k → Rw (gL_marksBehind_L78 (gL_marksBehind_L23 n) h (pl q) (nI (bN cl)) (Mn M) (Mn M4) (nI k)) M7 (c4 + 1) (s4 + 4) (fun b M' c' s' => Gx xO (Mn M) M M' ∧ Cs M c s M' c' s' (3 + cpC (chU u w).length) (9 + cpS (chU u w).length) ∧ Pl M' c' ∧ isBd M' b w u q cl ∧ Mn M ≤ b) := by
      intro hne
      have c0 : cut (k + 1) w (sB w u q cl) = cut t w (sB w u q cl) := cut_no (t := t) (k := k) (by omega) (by omega) hsB hf
      unfold gL_marksBehind_L78
      rw [Rw_wb, show (0 : Int32) = nI 0 from rfl, rn_lI (by omega), q7]
      refine ⟨by omega, ?_⟩
      rw [k0, Rw_wb, b7.gN]
      have hcu : cut t w (sB w u q cl) ≤ w := by unfold cut; split <;> omega
      refine Rw_cs (d := w ≤ cut t w (sB w u q cl)) (nle (by omega) (by omega)) (fun z => ?_) (fun z => ?_)
      · refine L107 M7 g57 (by omega) it7 (by rw [c0]; exact k0) ?_
        rw [cut_no (t := t) (k := k) (by omega) ?_ hsD hf]
        · exact k1
        · have : ¬ sB w u q cl < t := fun y => by unfold cut at z; rw [if_pos y] at z; omega
          by_cases y : sD w u (sB w u q cl) < w
          · have := sD_gt y; omega
          · omega
      · have hlt : sB w u q cl < t ∧ cut t w (sB w u q cl) = sB w u q cl := by
          unfold cut at z ⊢
          by_cases y : sB w u q cl < t
          · rw [if_pos y]; exact ⟨y, rfl⟩
          · rw [if_neg y] at z; omega
        rw [Rw_wb, rn_lI (by omega), q7]
        refine ⟨by omega, ?_⟩
        rw [k0]
        refine Rw_no (fun y => ?_) ?_
        · rw [nle (by omega) (by omega)] at y; omega
        rw [Rw_wb, show (1 : Int32) = nI 1 from rfl, rn_lI (by omega), q7]
        refine ⟨by omega, ?_⟩
        rw [k1, Rw_wb, b7.gN]
        have hcd : cut t w (sD w u (sB w u q cl)) ≤ w := by unfold cut; split <;> omega
        refine Rw_cs (d := cut t w (sD w u (sB w u q cl)) = w) (neq (by omega) (by omega)) (fun y => ?_) (fun y => ?_)
        · have hd : sD w u (sB w u q cl) = k := by
            have a1 : ¬ sD w u (sB w u q cl) < t := fun y2 => by unfold cut at y; rw [if_pos y2] at y; omega
            have a2 : sD w u (sB w u q cl) ≤ k := by
              unfold sD
              rcases fb_spec (fun k => chg u k) w (sB w u q cl + 1) with ⟨v1, v2⟩ | ⟨v1, v2, v3, v4⟩
              · exact absurd (v2 k (by omega) hf) (by rw [hck]; decide)
              · by_cases v5 : fb (fun k => chg u k) w (sB w u q cl + 1) ≤ k
                · exact v5
                · exact absurd (v4 k (by omega) (by omega)) (by rw [hck]; decide)
            omega
          rw [Rw_wb, rn_aI (by omega), q7]
          refine ⟨by omega, ?_⟩
          refine L107 _ (g57.sI (fun _ => by simp [x2])) (by show Mn M7 = Mn M5; omega) ⟨it7.1, it7.2.1, ?_, ?_⟩ ?_ ?_
          · rw [Mi_sI, if_neg (by omega)]; exact it7.2.2.1
          · rw [Mi_sI, if_neg (by omega), Mi_sI, if_neg (by omega)]; exact it7.2.2.2
          · rw [Mi_sI, if_neg (by omega), k0, c0]
          · rw [sI_self, hd]; unfold cut; rw [if_pos (by omega)]
        · have hd : sD w u (sB w u q cl) < t := by
            by_cases v : sD w u (sB w u q cl) < t
            · exact v
            · unfold cut at y; rw [if_neg v] at y; exact absurd rfl y
          refine L107 M7 g57 (by omega) it7 (by rw [c0]; exact k0) ?_
          rw [cut_no (t := t) (k := k) (by omega) (Or.inl hd) hsD hf]
          exact k1
    have hpl : nI k ≤ pl q ↔ k + 1 ≤ q := pl_ge (by omega) (by omega)
    refine Rw_cs (d := k + 1 ≤ q) hpl (fun z => L78 (by omega)) (fun z => ?_)
    rw [Rw_wb, b7.lI hf (by omega)]
    refine Rw_cs (d := u.testBit k = cl) (bN_eq _ _) (fun y => L78 (fun e => ?_)) (fun y => ?_)
    · have := (sB_chg (w := w) (u := u) (q := q) (c := cl) (by omega)).2
      rw [e] at this; exact this y
    rw [Rw_wb, show (0 : Int32) = nI 0 from rfl, rn_lI (by omega), q7]
    refine ⟨by omega, ?_⟩
    rw [k0, Rw_wb, b7.gN]
    have hcu : cut t w (sB w u q cl) ≤ w := by unfold cut; split <;> omega
    have hBk : sB w u q cl ≤ k := by
      show fb _ w q ≤ k
      rcases fb_spec (fun k => chg u k && (bN (u.testBit k) != bN cl)) w q with ⟨v1, v2⟩ | ⟨v1, v2, v3, v4⟩
      · refine absurd (v2 k (by omega) hf) ?_
        show ¬ (chg u k && (bN (u.testBit k) != bN cl)) = false
        rw [hck]
        have : bN (u.testBit k) ≠ bN cl := fun e => y (by
          have : nI (bN (u.testBit k)) = nI (bN cl) := by rw [e]
          exact (bN_eq _ _).mp this)
        simp [this]
      · by_cases v5 : fb (fun k => chg u k && (bN (u.testBit k) != bN cl)) w q ≤ k
        · exact v5
        · refine absurd (v4 k (by omega) (by omega)) ?_
          show ¬ (chg u k && (bN (u.testBit k) != bN cl)) = false
          rw [hck]
          have : bN (u.testBit k) ≠ bN cl := fun e => y (by
            have : nI (bN (u.testBit k)) = nI (bN cl) := by rw [e]
            exact (bN_eq _ _).mp this)
          simp [this]
    refine Rw_cs (d := cut t w (sB w u q cl) = w) (neq (by omega) (by omega)) (fun v => ?_) (fun v => L78 (fun e => ?_))
    · have hB : sB w u q cl = k := by
        have : ¬ sB w u q cl < t := fun y2 => by unfold cut at v; rw [if_pos y2] at v; omega
        omega
      rw [Rw_wb, rn_aI (by omega), q7]
      refine ⟨by omega, ?_⟩
      refine L107 _ (g57.sI (fun _ => by simp [x2])) (by show Mn M7 = Mn M5; omega) ⟨it7.1, it7.2.1, ?_, ?_⟩ ?_ ?_
      · rw [Mi_sI, if_neg (by omega)]; exact it7.2.2.1
      · rw [Mi_sI, if_neg (by omega), Mi_sI, if_neg (by omega)]; exact it7.2.2.2
      · rw [sI_self, hB]; unfold cut; rw [if_pos (by omega)]
      · rw [Mi_sI, if_neg (by omega), k1, cut_no (t := t) (k := k) (by omega) ?_ hsD hf]
        by_cases y : sD w u (sB w u q cl) < w
        · have := sD_gt y; omega
        · omega
    · apply v; unfold cut; rw [if_neg (by omega)]
  · have he := chU_end ht hf
    rw [itEnd it6 l6 (by rw [List.length_map, he])]
    refine Rw_yes rfl ?_
    rw [Rw_wr]
    have hfw : fb (fun k => chg u k) w t = w := by have := fb_le (fun k => chg u k) w t; omega
    have hall : ∀ j, t ≤ j → j < w → chg u j = false := fun j a b => fb_no (p := fun k => chg u k) (w := w) a (by rw [hfw]; exact b)
    have hm5 : Mn M ≤ Mn M5 := g05.mn
    refine ⟨g05.tr (g6.mono hm5 (fun r hr _ => x2_f (by omega) (by omega))), ⟨by omega, by omega, by omega, by omega⟩, p5.go g6 (by omega), ⟨by omega, q6, ?_, ?_⟩, Nat.le_refl _⟩
    · rw [k0]
      unfold cut
      split
      · rfl
      · rename_i z
        by_cases y : sB w u q cl < w
        · exact absurd (sB_chg y).1 (by rw [hall _ (by omega) y]; decide)
        · congr 1; omega
    · rw [k1]
      unfold cut
      split
      · rfl
      · rename_i z
        by_cases y : sD w u (sB w u q cl) < w
        · exact absurd (sD_chg y) (by rw [hall _ (by omega) y]; decide)
        · congr 1; omega
