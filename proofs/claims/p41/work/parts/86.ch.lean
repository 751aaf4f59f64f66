/-! CHANGES OF A ROW, AND B AND D BEHIND A PLACE -/
def chU (r k : Nat) : List Nat := (List.range k).filter (fun i => chg r i)
theorem chU_s (r k : Nat) : chU r (k + 1) = chU r k ++ (if chg r k = true then [k] else []) := by
  unfold chU
  rw [List.range_succ, List.filter_append]
  by_cases h : chg r k = true
  · simp [h]
  · simp [h]
theorem chU_len (r : Nat) : ∀ k, (chU r k).length ≤ k
  | 0 => Nat.le_refl _
  | k + 1 => by
    have := chU_len r k
    rw [chU_s, List.length_append]
    split <;> simp <;> omega
theorem chU_mono (r : Nat) {a b : Nat} (h : a ≤ b) : (chU r a).length ≤ (chU r b).length := by
  induction b with
  | zero => have : a = 0 := by omega
            subst this; exact Nat.le_refl _
  | succ b ih =>
    by_cases q : a = b + 1
    · subst q; exact Nat.le_refl _
    · have := ih (by omega)
      rw [chU_s, List.length_append]; omega
theorem chU_lt {r w i k : Nat} (h : (chU r w)[i]? = some k) : k < w := by
  have := List.mem_of_getElem? h
  unfold chU at this
  exact List.mem_range.mp (List.mem_filter.mp this).1
theorem chU_no {r t : Nat} : ∀ {k : Nat}, t ≤ k → (∀ j, t ≤ j → j < k → chg r j = false) → chU r k = chU r t := by
  intro k
  induction k with
  | zero => intro h _; have : t = 0 := by omega
            subst this; rfl
  | succ k ih =>
    intro h hn
    by_cases q : t = k + 1
    · subst q; rfl
    · rw [chU_s, ih (by omega) (fun j a b => hn j a (by omega)), if_neg (by rw [hn k (by omega) (by omega)]; decide), List.append_nil]
theorem chU_pre (r : Nat) {a b : Nat} (h : a ≤ b) : ∃ l, chU r b = chU r a ++ l := by
  induction b with
  | zero => have : a = 0 := by omega
            subst this; exact ⟨[], (List.append_nil _).symm⟩
  | succ b ih =>
    by_cases q : a = b + 1
    · subst q; exact ⟨[], (List.append_nil _).symm⟩
    · obtain ⟨l, e⟩ := ih (by omega)
      exact ⟨l ++ _, by rw [chU_s, e, List.append_assoc]⟩
/-- the next one of the list -/
theorem chU_next {r w t : Nat} (ht : t ≤ w) (h : fb (fun k => chg r k) w t < w) : (chU r w)[(chU r t).length]? = some (fb (fun k => chg r k) w t) ∧ (chU r (fb (fun k => chg r k) w t + 1)).length = (chU r t).length + 1 := by
  have h1 := fb_ge (fun k => chg r k) ht
  have h2 : chU r (fb (fun k => chg r k) w t + 1) = chU r t ++ [fb (fun k => chg r k) w t] := by
    rw [chU_s, chU_no h1 (fun j a b => fb_no (p := fun k => chg r k) a b), if_pos (fb_yes (p := fun k => chg r k) h)]
  obtain ⟨l, e⟩ := chU_pre r (show fb (fun k => chg r k) w t + 1 ≤ w by omega)
  refine ⟨?_, by rw [h2, List.length_append]; rfl⟩
  rw [e, h2, List.append_assoc, List.getElem?_append_right (Nat.le_refl _), Nat.sub_self]
  rfl
theorem chU_end {r w t : Nat} (ht : t ≤ w) (h : ¬ fb (fun k => chg r k) w t < w) : (chU r t).length = (chU r w).length := by
  rw [chU_no ht (fun j a b => fb_no (p := fun k => chg r k) (w := w) a (by omega))]
theorem nch_len (w r : Nat) : nch w r = (chU r w).length := by
  unfold nch
  induction w with
  | zero => rfl
  | succ w ih =>
    rw [cn_s, ih, chU_s, List.length_append]
    by_cases h : chg r w = true
    · simp [h, bN]
    · simp [h, bN]
def bf (r k : Nat) : Bool := decide (0 < k) && r.testBit (k - 1)
theorem bf_s (r k : Nat) : bf r (k + 1) = r.testBit k := by unfold bf; simp
theorem chg_bf (r k : Nat) : (r.testBit k = bf r k) ↔ chg r k = false := by
  unfold chg bf; simp
theorem mp_at {xs : List Nat} {i x : Nat} {f : Nat → Nat} (h : xs[i]? = some x) : (xs.map f)[i]? = some (f x) := by rw [List.getElem?_map, h]; rfl
/-- the list of all changes -/
theorem lChanges {M : Mm} {h w r : Nat} (hb : isBr M h w r) (hw : w ≤ 27) {c s : Nat} (hp : Pl M c) (hc : c ≤ 900000000) : Rw (gL_changes h) M c s (fun l M' c' s' => l = Mn M ∧ Gx xO (Mn M) M M' ∧ Cs M c s M' c' s' (1 + cpC (chU r w).length) (3 + cpS (chU r w).length) ∧ Pl M' c' ∧ ∃ a, isL M' l a ((chU r w).map bx) ∧ (a ≠ EB → Mn M ≤ a)) := by
  have hm := hp.1
  have hE := hp.2
  unfold gL_changes
  refine lNew (by omega) (fun M1 g1 n1 l1 => ?_)
  refine rw_loopv (F := fun n k => gL_changes_L12 n h (Mn M) (nI (bN (bf r k))) (nI k)) (fun k M' c' s' => k ≤ w ∧ Gx xO (Mn M) M M' ∧ Cs M c s M' c' s' (1 + cpC (chU r k).length) (3 + cpS (chU r k).length) ∧ Pl M' c' ∧ ∃ a, isL M' (Mn M) a ((chU r k).map bx) ∧ (a ≠ EB → Mn M ≤ a)) (fun k => w - k) ?_ fu 0 M1 (c + 1) (s + 3) (by unfold fu; omega) ⟨Nat.zero_le _, g1, ⟨by omega, by omega, Nat.le_refl _, Nat.le_refl _⟩, hp.go g1 (by omega), EB, l1, fun z => absurd rfl z⟩
  rintro n k M2 c2 s2 ⟨hk, g2, ⟨e1, e2, e3, e4⟩, p2, a2, l2, ha2⟩ ih
  have hb2 : isBr M2 h w r := hb.gx g2 hb.1 rfl
  have hl1 := chU_len r k
  have cp : cpC (chU r k).length ≤ 4 := by unfold cpC; repeat' split
                                           all_goals omega
  have hm2 := p2.1
  show Rw (gL_changes_L12 (n + 1) h (Mn M) (nI (bN (bf r k))) (nI k)) _ _ _ _
  unfold gL_changes_L12
  rw [Rw_wb, hb2.gN]
  refine Rw_cs (d := w ≤ k) (nle (by omega) (by omega)) (fun z => ?_) (fun z => ?_)
  · have : k = w := by omega
    subst this
    rw [Rw_wr]
    exact ⟨rfl, g2, ⟨e1, e2, e3, e4⟩, p2, a2, l2, ha2⟩
  · rw [Rw_wb, hb2.lI (by omega) (by omega)]
    refine Rw_cs (d := chg r k = false) ((bN_eq _ _).trans (chg_bf r k)) (fun y => ?_) (fun y => ?_)
    · unfold gL_changes_L34
      rw [Rw_wb, hb2.lI (by omega) (by omega), nL1, nI_add, ← bf_s]
      have ec : chU r (k + 1) = chU r k := by rw [chU_s, if_neg (by rw [y]; decide), List.append_nil]
      exact ih (k + 1) M2 c2 s2 ⟨by omega, g2, by rw [ec]; exact ⟨e1, e2, e3, e4⟩, p2, a2, by rw [ec]; exact l2, ha2⟩ (by omega)
    · have y : chg r k = true := by cases q : chg r k with
        | true => rfl
        | false => exact absurd q y
      have ec : chU r (k + 1) = chU r k ++ [k] := by rw [chU_s, if_pos y]
      rw [Rw_wq, bVal (by omega), Rw_wq]
      refine (lAdd l2 p2.2 (by omega) (by rw [List.length_map]; omega) (bx k)).mono ?_
      rintro v M3 c3 s3 ⟨-, g3, f1, f2, f3, f4, a3, l3, h3, h3'⟩
      rw [List.length_map] at f1 f2
      have g3' : Gx xO (Mn M) M2 M3 := g3.mono (by have := g2.mn; omega) (fun q hq _ => x2_f (by omega) (fun e => by
        by_cases z : a2 = EB
        · rw [z, EB_v] at e; omega
        · have := ha2 z; omega))
      have hb3 : isBr M3 h w r := hb.gx (g2.tr g3') hb.1 rfl
      unfold gL_changes_L34
      rw [Rw_wb, hb3.lI (by omega) (by omega), nL1, nI_add, ← bf_s]
      refine ih (k + 1) M3 c3 s3 ⟨by omega, g2.tr g3', ?_, p2.go g3 f3, a3, ?_, fun z => ?_⟩ (by omega)
      · rw [ec, List.length_append]
        show Mn M3 + c ≤ Mn M + c3 ∧ c ≤ c3 ∧ c3 ≤ c + (1 + cpC ((chU r k).length + 1)) ∧ s3 ≤ s + (3 + cpS ((chU r k).length + 1))
        refine ⟨by omega, by omega, by omega, by omega⟩
      · rw [ec, List.map_append]; exact l3
      · rcases h3' with h3' | h3'
        · rw [h3'.1]; exact ha2 h3'.2
        · have := g2.mn; omega
theorem cpC_le (n : Nat) : cpC n ≤ 4 := by
  unfold cpC; repeat' split
  all_goals omega
theorem cpS_le (n : Nat) : cpS n ≤ 80 := by
  unfold cpS; repeat' split
  all_goals omega
theorem cpC_mono {a b : Nat} (h : a ≤ b) : cpC a ≤ cpC b := by
  unfold cpC; repeat' split
  all_goals omega
theorem cpS_mono {a b : Nat} (h : a ≤ b) : cpS a ≤ cpS b := by
  unfold cpS; repeat' split
  all_goals omega
