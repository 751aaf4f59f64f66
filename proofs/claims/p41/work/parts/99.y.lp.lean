/-! THE DRAWN PAGE AND ITS TEXT ARE MADE: lines -/
theorem pLn_cg {w : Nat} {rs rs' : Nat → Nat} : ∀ {n : Nat}, (∀ l, l < n → rs l = rs' l) → pLn w rs n = pLn w rs' n := by
  intro n
  induction n with
  | zero => intro _; rfl
  | succ n ih =>
    intro h
    show pAdd (pLn w rs n) (rs n) = pAdd (pLn w rs' n) (rs' n)
    rw [ih (fun l hl => h l (by omega)), h n (by omega)]
theorem foldT_cg {f g : Nat → List Nat} : ∀ {n : Nat}, (∀ l, l < n → f l = g l) → foldT f n = foldT g n := by
  intro n
  induction n with
  | zero => intro _; rfl
  | succ n ih =>
    intro h
    show foldT f n ++ f n = foldT g n ++ g n
    rw [ih (fun l hl => h l (by omega)), h n (by omega)]
theorem foldT_len {f : Nat → List Nat} {m : Nat} : ∀ {n : Nat}, (∀ l, l < n → (f l).length ≤ m) → (foldT f n).length ≤ m * n := by
  intro n
  induction n with
  | zero => intro _; exact Nat.zero_le _
  | succ n ih =>
    intro h
    show (foldT f n ++ f n).length ≤ m * (n + 1)
    rw [List.length_append, Nat.mul_succ]
    have := ih (fun l hl => h l (by omega))
    have := h n (by omega)
    omega
theorem tLine_l (r w : Nat) : (tLine r w).length = 6 + w := by
  unfold tLine; rw [List.length_append, List.length_append, rowT_l]; show 5 + w + 1 = _; omega
theorem dec2_2 (v : Nat) : (dec2 v).length ≤ 2 := by rw [dec2_l]; split <;> omega
theorem tSet_l (k v : Nat) : (tSet k v).length ≤ 10 := by
  unfold tSet
  rw [List.length_append, List.length_append, List.length_append, List.length_append]
  have h1 := dec2_2 k
  have h2 := dec2_2 v
  show 4 + _ + 1 + _ + 1 ≤ 10
  omega
theorem tLoss_l (k v : Nat) : (tLoss k v).length ≤ 11 := by
  unfold tLoss
  rw [List.length_append, List.length_append, List.length_append, List.length_append]
  have h1 := dec2_2 k
  have h2 := dec2_2 v
  show 5 + _ + 1 + _ + 1 ≤ 11
  omega
section LP
variable {M : Mm} {t p hs hl h a sb ab : Nat} {P : Pg} {R xs : List Nat} {c s : Nat} {Q : Int32 → Mm → Nat → Nat → Prop} {F : Nat → Mm → Option (Int32 × Mm × Nat × Nat)}
theorem BL.mn (k : BL M t p hs hl h a sb ab P R xs c) : Mn M ≤ c := k.2.2.2.1.1
theorem BL.apK (k : BL M t p hs hl h a sb ab P R xs c) (hc : c ≤ 800000000) {j : Nat} (hj : j < 14) (hj9 : 9 ≤ j) (hl9 : xs.length + 5 ≤ 1000) (kk : ∀ M' c' s' ab', BL M' t p hs hl h a sb ab' P R (xs ++ wK j) c' → Gx (x2 sb ab) (Mn M) M M' → c ≤ c' → c' ≤ c + 1 → s' + 2 * Ml M ab ≤ s + 2 * Ml M' ab' → Rw (F sb) M' c' s' Q) : Rw (wq (gJ4_append_15ec4_k sb (SB + j)) F) M c s Q := by
  have hm := k.mn
  rw [Rw_wq]
  refine (lApK k.2.2.1 (by omega) hj hj9 hl9).mono ?_
  rintro v M' c' s' ⟨ev, ab', kb, g, -, e1, e2, e3, e4, -⟩
  rw [ev]
  exact kk M' c' s' ab' (k.txt g kb e1) g e2 e3 e4
theorem BL.apC (k : BL M t p hs hl h a sb ab P R xs c) (hc : c ≤ 800000000) {y : Nat} (hy : y < 128) (hl9 : xs.length + 1 ≤ 1000) (kk : ∀ M' c' s' ab', BL M' t p hs hl h a sb ab' P R (xs ++ [y]) c' → Gx (x2 sb ab) (Mn M) M M' → c ≤ c' → c' ≤ c + 1 → s' + 2 * Ml M ab ≤ s + 2 * Ml M' ab' → Rw (F sb) M' c' s' Q) : Rw (wq (gJ4_append_cf468 sb (nI y)) F) M c s Q := by
  have hm := k.mn
  rw [Rw_wq]
  refine (lApC k.2.2.1 (by omega) hy hl9).mono ?_
  rintro v M' c' s' ⟨ev, ab', kb, g, -, e1, e2, e3, e4, -⟩
  rw [ev]
  exact kk M' c' s' ab' (k.txt g kb e1) g e2 e3 e4
theorem BL.apN (k : BL M t p hs hl h a sb ab P R xs c) (hc : c ≤ 800000000) {y : Nat} (hy : y < 100) (hl9 : xs.length + 2 < 1000) (kk : ∀ M' c' s' ab', BL M' t p hs hl h a sb ab' P R (xs ++ dec2 y) c' → Gx (x2 sb ab) (Mn M) M M' → c ≤ c' → c' ≤ c + 1 → s' + 2 * Ml M ab ≤ s + 2 * Ml M' ab' → Rw (F sb) M' c' s' Q) : Rw (wq (gJ4_append_bf812 sb (nI y)) F) M c s Q := by
  have hm := k.mn
  rw [Rw_wq]
  refine (lApN k.2.2.1 (by omega) hy hl9).mono ?_
  rintro v M' c' s' ⟨ev, ab', kb, g, -, e1, e2, e3, e4, -⟩
  rw [ev]
  exact kk M' c' s' ab' (k.txt g kb e1) g e2 e3 e4
theorem BL.apS (k : BL M t p hs hl h a sb ab P R xs c) (hc : c ≤ 800000000) {st u : Nat} {ys : List Nat} (ks : isSr M st u ys) (n1 : st ≠ sb) (n2 : u ≠ sb) (hl9 : xs.length + ys.length ≤ 1000) (kk : ∀ M' c' s' ab', BL M' t p hs hl h a sb ab' P R (xs ++ ys) c' → Gx (x2 sb ab) (Mn M) M M' → c ≤ c' → c' ≤ c + 1 → s' + 2 * Ml M ab ≤ s + 2 * Ml M' ab' → Rw (F sb) M' c' s' Q) : Rw (wq (gJ4_append_15ec4 sb st) F) M c s Q := by
  have hm := k.mn
  rw [Rw_wq]
  refine (lApS k.2.2.1 (by omega) ks n1 n2 hl9).mono ?_
  rintro v M' c' s' ⟨ev, ab', kb, g, -, e1, e2, e3, e4, -⟩
  rw [ev]
  exact kk M' c' s' ab' (k.txt g kb e1) g e2 e3 e4
theorem BL.bb (k : BL M t p hs hl h a sb ab P R xs c) : ab < Mn M ∧ Mk M ab = 10 ∧ sb < Mn M ∧ sb < ab := ⟨k.2.2.1.2.1.2.1, k.2.2.1.2.1.2.2, k.2.2.1.1.1, k.2.2.1.2.1.1⟩
/-- a row beside the text -/
theorem BL.br (k : BL M t p hs hl h a sb ab P R xs c) {M' : Mm} {x w r : Nat} (b : isBr M x w r) (hx : sb < x) (g : Gx (x2 sb ab) (Mn M) M M') : isBr M' x w r := by
  refine b.gx g b.1 (x2_f (by omega) (fun e => ?_))
  have h1 := k.bb.2.1
  have h2 := b.2.1
  rw [e, h1] at h2; cases h2
theorem l94 {hd : List Nat} {W n ab0 : Nat} (hW : 8 ≤ W ∧ W ≤ 27) (hn : n ≤ 6) (k : BL M t p hs hl h a sb ab (pg0 W) [] hd c) (hhd : hd.length ≤ 10) (ht : t + 1000 < 800000) (hc : c ≤ 700000000) (hb : isBr M ab0 W 0) (hab0 : sb < ab0) (kk : ∀ M' c' s' t' a' ab' R' rs, BL M' t' p hs hl h a' sb ab' (pLn W rs n) R' (hd ++ foldT (fun i => tLine (rs i) W) n) c' → (∀ l, l < n → rs l < 2 ^ W ∧ brn (fun j => (rs l).testBit j) W ≤ 3 * (l + 1)) → t' ≤ t + 100 * n → c ≤ c' → c' ≤ c + 40 * n → s' ≤ s + 2 * Ml M' ab' + 250 * n → Rw (wq (nA 11 6) fun h111 => wb (aI h111 0 8) fun _ => wb (aI h111 1 2) fun _ => wb (aI h111 2 2) fun _ => wb (aI h111 3 5) fun _ => wb (aI h111 4 100) fun _ => wb (aI h111 5 100) fun _ => gL_law_L181 fu 38 0 p sb h111 0) M' c' s' Q) : Rw (gL_law_L94 fu 38 0 p sb ab0 (nI n)) M c s Q := by
  refine rw_loopv (F := fun m (z : Nat × Nat) => gL_law_L94 m 38 0 p sb z.2 (nI (n - z.1))) (fun z M' c' s' => z.1 ≤ n ∧ ∃ t' a' ab' R' rs, BL M' t' p hs hl h a' sb ab' (pLn W rs z.1) R' (hd ++ foldT (fun i => tLine (rs i) W) z.1) c' ∧ (∀ l, l < z.1 → rs l < 2 ^ W ∧ brn (fun j => (rs l).testBit j) W ≤ 3 * (l + 1)) ∧ isBr M' z.2 W (if z.1 = 0 then 0 else rs (z.1 - 1)) ∧ sb < z.2 ∧ t' ≤ t + 100 * z.1 ∧ c ≤ c' ∧ c' ≤ c + 40 * z.1 ∧ s' ≤ s + 2 * Ml M' ab' + 250 * z.1) (fun z => n - z.1) ?_ fu (0, ab0) M c s (by unfold fu; show n - 0 < _; omega) ⟨Nat.zero_le _, t, a, ab, [], fun _ => 0, by rw [show hd ++ foldT (fun i => tLine 0 W) 0 = hd from List.append_nil hd]; exact k, fun l hl => absurd hl (Nat.not_lt_zero _), hb, hab0, by omega, Nat.le_refl _, by omega, by omega⟩
  rintro m ⟨i, x⟩ M1 c1 s1 ⟨hi, t1, a1, ab1, R1, rs, k1, hrs, hb1, hx1, ht1, f1, f2, f3⟩ ih
  have hi : i ≤ n := hi
  have k1 : BL M1 t1 p hs hl h a1 sb ab1 (pLn W rs i) R1 (hd ++ foldT (fun i => tLine (rs i) W) i) c1 := k1
  have hrs : ∀ l, l < i → rs l < 2 ^ W ∧ brn (fun j => (rs l).testBit j) W ≤ 3 * (l + 1) := hrs
  show Rw (gL_law_L94 (m + 1) 38 0 p sb x (nI (n - i))) _ _ _ _
  unfold gL_law_L94
  obtain ⟨p1, p2, p3, p4, p5⟩ := pLn_p W rs i
  refine Rw_cs (d := n - i = 0) ((nle (b := 0) (by omega) (by omega)).trans Nat.le_zero) (fun z => ?_) (fun z => ?_)
  · have : i = n := by omega
    subst this
    exact kk M1 c1 s1 t1 a1 ab1 R1 rs k1 hrs ht1 f1 f2 f3
  · have hb1 : isBr M1 x W (if i = 0 then 0 else rs (i - 1)) := hb1
    have hx1 : sb < x := hx1
    have ht1 : t1 ≤ t + 100 * i := ht1
    have f2 : c1 ≤ c + 40 * i := f2
    have f3 : s1 ≤ s + 2 * Ml M1 ab1 + 250 * i := f3
    have hr0 : (if i = 0 then 0 else rs (i - 1)) < 2 ^ W := by
      by_cases q : i = 0
      · rw [if_pos q]; exact Nat.two_pow_pos _
      · rw [if_neg q]; exact (hrs (i - 1) (by show i - 1 < i; omega)).1
    have hbr0 : brn (fun j => (if i = 0 then 0 else rs (i - 1)).testBit j) W ≤ 3 * i := by
      by_cases q : i = 0
      · rw [if_pos q]
        have : brn (fun j => (0 : Nat).testBit j) W = 0 := by
          have : ∀ w, brn (fun j => (0 : Nat).testBit j) w = 0 := by
            intro w
            induction w with
            | zero => rfl
            | succ w ih =>
              unfold brn at ih ⊢
              rw [cn_s, ih]; unfold bst; simp [bN]
          exact this W
        omega
      · rw [if_neg q]
        have := (hrs (i - 1) (by show i - 1 < i; omega)).2
        omega
    have hl1 : (hd ++ foldT (fun i => tLine (rs i) W) i).length ≤ 10 + 33 * i := by
      rw [List.length_append]
      have := foldT_len (f := fun i => tLine (rs i) W) (m := 33) (n := i) (fun l _ => by rw [tLine_l]; omega)
      omega
    have hsb38 : 39 ≤ sb := by have := k1.2.2.2.2.1.1; have := k1.2.2.2.2.2.1.1; omega
    have hm1 := k1.mn
    rw [Rw_wq]
    refine (lDrawn k1.1.2 hb1 hr0 (by omega) hW.2 (by omega) (by omega) k1.2.2.2.1 (by omega)).mono ?_
    rintro v M2 c2 s2 ⟨ev, g2, n2, e1, e2, ⟨t2, o2, ht2⟩, r, hr, b2, hbr⟩
    have hvsb : sb < v := by have := k1.bb.2.2.1; omega
    rw [← ev] at b2
    have k2 := k1.nx (c1 := c2) g2 o2 (by omega)
    have ml2 : Ml M2 ab1 = Ml M1 ab1 := g2.ml k1.bb.1
    have hR : R1.length = i := by rw [k1.2.1.2.2.2.1.2.1, p2]
    rw [Rw_wb, Rn_gA k2.2.1.1.2.2.2.2, Rw_wq]
    have hm2 := k2.mn
    refine (lAdd k2.2.1.2.2.2.1.1 k2.2.2.2.1.2 (by omega) (by omega) v).mono ?_
    rintro - M3 c3 s3 ⟨-, g3, q1, q2, q3, q4, a3, l3, h3, h3'⟩
    rw [hR] at q1 q2
    have cc : cpC (i + 1) ≤ 1 := by unfold cpC; repeat' split
                                    all_goals omega
    have cs : cpS (i + 1) ≤ 10 := by unfold cpS; repeat' split
                                     all_goals omega
    have k3 := k2.row (x := v) (r := r) (a1 := a3) (c1 := c3) (by omega) (by rw [p1]; exact b2) hvsb (fun hy => by
      obtain ⟨q, hq⟩ := List.mem_iff_getElem?.mp hy
      have := (k1.2.1.2.2.2.1.2.2 q v hq).1
      omega) g3 l3 h3 (h3'.imp id (fun z => by omega)) q3
    have hEn : EB = 1000000500 := EB_v
    have b3 : isBr M3 v W r := b2.gx g3 b2.1 (x2_f (by have := k1.2.2.2.2.2.1.2.2.2; omega) (fun e => by
      by_cases q : a1 = EB
      · have := b2.1; omega
      · have y1 := k2.2.1.2.2.2.1.1.k15 q
        have y2 := b2.2.1
        rw [e, y1] at y2; cases y2))
    have ml3 : Ml M3 ab1 = Ml M1 ab1 := by rw [g3.ml k2.bb.1]; exact ml2
    refine k3.apK (j := 11) (by omega) (by omega) (by omega) (by omega) (fun M4 c4 s4 ab4 k4 g4 y1 y2 y3 => ?_)
    have b4 := k3.br b3 hvsb g4
    rw [Rw_wq]
    refine (lTold b4 hW.2 k4.2.2.2.1 (by omega)).mono ?_
    rintro w M5 c5 s5 ⟨⟨u, ks, hw1, hw2⟩, g5, z1, z2, z3, z4⟩
    have k5 := k4.go (c1 := c5) g5 z1
    have hab4 := k4.bb
    have ml5 : Ml M5 ab4 = Ml M4 ab4 := g5.ml hab4.1
    have e11 : (wK 11).length = 5 := rfl
    refine k5.apS (by omega) ks (by omega) (by omega) (by rw [List.length_append, rowT_l, e11]; omega) (fun M6 c6 s6 ab6 k6 g6 x1 x2 x3 => ?_)
    refine k6.apC (y := 59) (by omega) (by omega) (by rw [List.length_append, List.length_append, rowT_l, e11]; omega) (fun M7 c7 s7 ab7 k7 g7 w1 w2 w3 => ?_)
    have b5 : isBr M5 v W r := b4.gx g5 b4.1 rfl
    have b7 := k6.br (k5.br b5 hvsb g6) hvsb g7
    rw [nI_m1 (by omega) (by omega), show n - i - 1 = n - (i + 1) by omega]
    have ers : ∀ l, l < i → rs l = updN rs i r l := fun l hl => (updN_n (by omega)).symm
    have eP : pLn W (updN rs i r) (i + 1) = pAdd (pLn W rs i) r := by
      show pAdd (pLn W (updN rs i r) i) (updN rs i r i) = _
      rw [updN_s, ← pLn_cg ers]
    have eX : hd ++ foldT (fun j => tLine (updN rs i r j) W) (i + 1) = hd ++ foldT (fun j => tLine (rs j) W) i ++ wK 11 ++ rowT r W ++ [59] := by
      show hd ++ (foldT (fun j => tLine (updN rs i r j) W) i ++ tLine (updN rs i r i) W) = _
      rw [updN_s, ← foldT_cg (f := fun j => tLine (rs j) W) (fun l hl => by rw [ers l hl])]
      unfold tLine
      simp only [List.append_assoc]
    refine ih (i + 1, v) M7 c7 s7 ⟨by show i + 1 ≤ n; omega, t2, a3, ab7, R1 ++ [v], updN rs i r, ?_, fun l hl => ?_, ?_, hvsb, by show _ ≤ t + 100 * (i + 1); omega, by omega, by show _ ≤ c + 40 * (i + 1); omega, by show _ ≤ s + 2 * Ml M7 ab7 + 250 * (i + 1); omega⟩ (by show n - (i + 1) < n - i; omega)
    · show BL M7 t2 p hs hl h a3 sb ab7 (pLn W (updN rs i r) (i + 1)) (R1 ++ [v]) (hd ++ foldT (fun j => tLine (updN rs i r j) W) (i + 1)) c7
      rw [eP, eX]
      exact k7
    · have hl : l < i + 1 := hl
      by_cases q : l = i
      · rw [q, updN_s]; exact ⟨hr, by omega⟩
      · rw [updN_n q]; exact hrs l (by show l < i; omega)
    · show isBr M7 v W (if i + 1 = 0 then 0 else updN rs i r (i + 1 - 1))
      rw [if_neg (by omega), Nat.add_sub_cancel, updN_s]; exact b7
end LP
