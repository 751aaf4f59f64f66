/-! WHAT A DRAWN TEXT TELLS -/
def AtT (x : Tx) (p : Nat) (ys : List Nat) : Prop := p + ys.length ≤ x.2 ∧ ∀ i, i < ys.length → x.1 (p + i) = ys.getD i 0
theorem AtT.app {x : Tx} {p : Nat} {ys zs : List Nat} (h : AtT x p (ys ++ zs)) : AtT x p ys ∧ AtT x (p + ys.length) zs := by
  obtain ⟨h1, h2⟩ := h
  rw [List.length_append] at h1 h2
  refine ⟨⟨by omega, fun i hi => ?_⟩, ⟨by omega, fun i hi => ?_⟩⟩
  · rw [h2 i (by omega), List.getD_eq_getElem?_getD, List.getElem?_append_left hi, ← List.getD_eq_getElem?_getD]
  · have e : p + ys.length + i = p + (ys.length + i) := by omega
    rw [e, h2 (ys.length + i) (by omega), List.getD_eq_getElem?_getD, List.getElem?_append_right (by omega), ← List.getD_eq_getElem?_getD, Nat.add_sub_cancel_left]
theorem tk_at {x : Tx} {p d n k : Nat} (hx : p + d + n < x.2) (hs : ∀ i, i < d → x.1 (p + i) = 32) (ht : ∀ i, i < n → srt (x.1 (p + d + i)) = k ∧ x.1 (p + d + i) ≠ 32 ∧ x.1 (p + d + i) ≠ 10) (hn : 0 < n) (hk : 1 ≤ k ∧ k ≤ 3) (hz : srt (x.1 (p + d + n)) ≠ k) : tkS x p = p + d ∧ tkK x p = k ∧ tkE x p = p + d + n := by
  obtain ⟨t1, t2, t3⟩ := ht 0 hn
  rw [Nat.add_zero] at t1 t2 t3
  have eS : tkS x p = p + d := by
    unfold tkS
    refine fb_un (by omega) (by omega) ?_ (fun j h1 h2 => ?_)
    · unfold nsp; simp [t2, t3]
    · have := hs (j - p) (by omega)
      rw [show p + (j - p) = j by omega] at this
      unfold nsp; simp [this]
  have eK : tkK x p = k := by
    unfold tkK bAt
    rw [eS, if_pos (by omega)]; exact t1
  refine ⟨eS, eK, ?_⟩
  unfold tkE
  rw [eK, eS, if_neg (by omega), if_pos hk.2]
  refine fb_un (by omega) (by omega) ?_ (fun j h1 h2 => ?_)
  · simp [bne, hz]
  · have := (ht (j - (p + d)) (by omega)).1
    rw [show p + d + (j - (p + d)) = j by omega] at this
    simp [this]
theorem tk_semi {x : Tx} {p : Nat} (h : AtT x p [59]) : tkS x p = p ∧ tkK x p = 5 ∧ tkE x p = p + 1 := by
  obtain ⟨h1, h2⟩ := h
  have h1 : p + 1 ≤ x.2 := h1
  have h2 : x.1 p = 59 := h2 0 (Nat.zero_lt_one)
  have eS : tkS x p = p := by
    unfold tkS
    refine fb_at (by omega) ?_
    unfold nsp; simp [h2]
  have eK : tkK x p = 5 := by
    unfold tkK bAt
    rw [eS, if_pos (by omega), h2]; rfl
  refine ⟨eS, eK, ?_⟩
  unfold tkE
  rw [eK, eS]; rfl
theorem pSemi_at {x : Tx} {p : Nat} (h : AtT x p [59]) : pSemi x p = .inr (p + 1) := by
  obtain ⟨e1, e2, e3⟩ := tk_semi h
  unfold pSemi
  rw [if_pos e2, e3]
theorem sr2 : ∀ d, d < 10 → srt (48 + d) = 2 := by decide
theorem dec2_d {v : Nat} (hv : v < 100) : ∀ i, i < (dec2 v).length → ∃ d, d < 10 ∧ (dec2 v).getD i 0 = 48 + d := by
  intro i hi
  unfold dec2 at hi ⊢
  by_cases z : v < 10
  · rw [if_pos z] at hi ⊢
    have : i = 0 := by have : ([48 + v] : List Nat).length = 1 := rfl; omega
    subst this
    exact ⟨v, z, rfl⟩
  · rw [if_neg z] at hi ⊢
    have : i = 0 ∨ i = 1 := by have : ([48 + v / 10, 48 + v % 10] : List Nat).length = 2 := rfl; omega
    rcases this with rfl | rfl
    · exact ⟨v / 10, by omega, rfl⟩
    · exact ⟨v % 10, by omega, rfl⟩
theorem dvN_2 {x : Tx} {s v : Nat} (h : ∀ i, i < (dec2 v).length → x.1 (s + i) = (dec2 v).getD i 0) : dvN x s (dec2 v).length = v := by
  unfold dec2 at h ⊢
  by_cases z : v < 10
  · rw [if_pos z] at h ⊢
    have h0 := h 0 (Nat.zero_lt_one)
    show 10 * 0 + (x.1 (s + 0) - 48) = v
    rw [h0]
    show 10 * 0 + (48 + v - 48) = v
    omega
  · rw [if_neg z] at h ⊢
    have h0 := h 0 (by show 0 < 2; omega)
    have h1 := h 1 (by show 1 < 2; omega)
    show 10 * (10 * 0 + (x.1 (s + 0) - 48)) + (x.1 (s + 1) - 48) = v
    rw [h0, h1]
    show 10 * (10 * 0 + (48 + v / 10 - 48)) + (48 + v % 10 - 48) = v
    omega
theorem pNum_at {x : Tx} {p v lo hi z : Nat} (h : AtT x p ([32] ++ dec2 v ++ [z])) (hz : srt z ≠ 2) (hv : v < 100) (h1 : lo ≤ v) (h2 : v ≤ hi) : pNum x p lo hi = .inr (v, p + 1 + (dec2 v).length) ∧ tkE x p = p + 1 + (dec2 v).length := by
  obtain ⟨ha, hc⟩ := h.app
  obtain ⟨hb, ha⟩ := ha.app
  have hl := dec2_l v
  have hl1 : 1 ≤ (dec2 v).length := by rw [hl]; split <;> omega
  have hz2 : x.1 (p + 1 + (dec2 v).length) = z := by
    have := hc.2 0 (Nat.zero_lt_one)
    rw [List.length_append, Nat.add_zero] at this
    rw [show p + 1 + (dec2 v).length = p + (([32] : List Nat).length + (dec2 v).length) by show _ = p + (1 + _); omega]
    exact this
  have hlen : p + 1 + (dec2 v).length < x.2 := by
    have := hc.1
    rw [List.length_append] at this
    have e1 : ([32] : List Nat).length = 1 := rfl
    have e2 : ([z] : List Nat).length = 1 := rfl
    omega
  have hd : ∀ i, i < (dec2 v).length → x.1 (p + 1 + i) = (dec2 v).getD i 0 := fun i hi => ha.2 i hi
  obtain ⟨e1, e2, e3⟩ := tk_at (x := x) (p := p) (d := 1) (n := (dec2 v).length) (k := 2) hlen (fun i hi => by
    have : i = 0 := by omega
    subst this
    exact hb.2 0 (Nat.zero_lt_one)) (fun i hi => by
    obtain ⟨d, hd1, hd2⟩ := dec2_d hv i hi
    rw [hd i hi, hd2]
    exact ⟨sr2 d hd1, by omega, by omega⟩) (by omega) (by omega) (by rw [hz2]; exact hz)
  refine ⟨?_, e3⟩
  have ev : dcv x p = v := by
    unfold dcv
    rw [e1, e3, show p + 1 + (dec2 v).length - (p + 1) = (dec2 v).length by omega]
    exact dvN_2 hd
  unfold pNum
  rw [if_pos e2, ev, if_pos ⟨h1, h2⟩, e3]
theorem wd_at {x : Tx} {p w : Nat} {L : List Nat} (hw : w < 9) (hL : wds.getD w [] = L) (h : AtT x p (L ++ [32])) (hl : ∀ i, i < L.length → srt (L.getD i 0) = 1 ∧ L.getD i 0 ≠ 32 ∧ L.getD i 0 ≠ 10) (h0 : 0 < L.length) : wd x p = w ∧ tkE x p = p + L.length ∧ tkK x p = 1 := by
  obtain ⟨ha, hc⟩ := h.app
  have hz : x.1 (p + L.length) = 32 := hc.2 0 (Nat.zero_lt_one)
  have hlen : p + L.length < x.2 := by
    have := hc.1
    have e2 : ([32] : List Nat).length = 1 := rfl
    omega
  obtain ⟨e1, e2, e3⟩ := tk_at (x := x) (p := p) (d := 0) (n := L.length) (k := 1) (by omega) (fun i hi => absurd hi (Nat.not_lt_zero _)) (fun i hi => by
    rw [Nat.add_zero, ha.2 i hi]; exact hl i hi) h0 (by omega) (by rw [Nat.add_zero, hz]; decide)
  rw [Nat.add_zero] at e1 e3
  refine ⟨(wd_w hw).mpr ?_, e3, e2⟩
  unfold wdIs
  rw [hL, decide_eq_true e2, e1, e3, show p + L.length - p = L.length by omega]
  rw [decide_eq_true (sl_eq.mpr ⟨rfl, fun j hj => ha.2 j hj⟩)]; rfl
theorem dotsN_r {x : Tx} {s r w : Nat} (h : ∀ i, i < w → x.1 (s + i) = if r.testBit i = true then 35 else 46) : ∀ j, j ≤ w → ∀ i, (dotsN x s j).testBit i = (decide (i < j) && r.testBit i) := by
  intro j
  induction j with
  | zero => intro _ i; show (0 : Nat).testBit i = _; rw [Nat.zero_testBit]; simp
  | succ j ih =>
    intro hj i
    have ih := ih (by omega) i
    have hx := h j (by omega)
    show (if x.1 (s + j) = 35 then dotsN x s j ||| 2 ^ j else dotsN x s j).testBit i = _
    have hlt : i ≠ j → decide (i < j + 1) = decide (i < j) := fun z => by
      by_cases y : i < j
      · simp [y]; omega
      · simp [y]; omega
    by_cases q : r.testBit j = true
    · rw [if_pos (by rw [hx, if_pos q]), Nat.testBit_or, ih, Nat.testBit_two_pow]
      by_cases z : i = j
      · subst z; simp [q]
      · rw [hlt z, decide_eq_false (Ne.symm z)]; simp
    · rw [if_neg (by rw [hx, if_neg q]; decide), ih]
      by_cases z : i = j
      · subst z
        have : r.testBit i = false := by cases e : r.testBit i with | true => exact absurd e q | false => rfl
        simp [this]
      · rw [hlt z]
theorem rowT_at (r : Nat) : ∀ w i, i < w → (rowT r w).getD i 0 = if r.testBit i = true then 35 else 46 := by
  intro w
  induction w with
  | zero => intro i hi; omega
  | succ w ih =>
    intro i hi
    show (rowT r w ++ [_]).getD i 0 = _
    by_cases z : i < w
    · rw [List.getD_eq_getElem?_getD, List.getElem?_append_left (by rw [rowT_l]; exact z), ← List.getD_eq_getElem?_getD, ih i z]
    · have : i = w := by omega
      subst this
      rw [List.getD_eq_getElem?_getD, List.getElem?_append_right (by rw [rowT_l]; exact Nat.le_refl _), rowT_l, Nat.sub_self]; rfl
/-! statements -/
def tLine (r w : Nat) : List Nat := wK 11 ++ rowT r w ++ [59]
def tSet (k v : Nat) : List Nat := wK 12 ++ dec2 k ++ [32] ++ dec2 v ++ [59]
def tLoss (l v : Nat) : List Nat := wK 13 ++ dec2 l ++ [32] ++ dec2 v ++ [59]
theorem pLine_at {x : Tx} {p r : Nat} {P : Pg} (h : AtT x p (tLine r (Pw P))) (hr : r < 2 ^ Pw P) (hw : 0 < Pw P) (hL : PL P < 20) : tkK x p = 1 ∧ pStmt x P p = .inr (pAdd P r, p + (tLine r (Pw P)).length) := by
  have el : (tLine r (Pw P)).length = 6 + Pw P := by unfold tLine; rw [List.length_append, List.length_append, rowT_l]; show 5 + Pw P + 1 = _; omega
  obtain ⟨ha, hc⟩ := AtT.app (ys := wK 11 ++ rowT r (Pw P)) h
  obtain ⟨ha, hb⟩ := ha.app
  have hc : AtT x (p + 5 + Pw P) [59] := by
    rw [List.length_append, rowT_l] at hc
    rw [show p + 5 + Pw P = p + (5 + Pw P) by omega]; exact hc
  have hb : AtT x (p + 5) (rowT r (Pw P)) := hb
  obtain ⟨w1, w2, w3⟩ := wd_at (x := x) (p := p) (w := 0) (L := [108, 105, 110, 101]) (by omega) rfl ha (by decide) (by decide)
  have w2 : tkE x p = p + 4 := w2
  have hx4 : x.1 (p + 4) = 32 := ha.2 4 (by decide)
  have hbit : ∀ i, i < Pw P → x.1 (p + 5 + i) = if r.testBit i = true then 35 else 46 := fun i hi => by
    rw [hb.2 i (by rw [rowT_l]; exact hi), rowT_at r _ i hi]
  have hlen := hc.1
  have e59 : ([59] : List Nat).length = 1 := rfl
  have hx59 : x.1 (p + 5 + Pw P) = 59 := hc.2 0 (Nat.zero_lt_one)
  obtain ⟨e1, e2, e3⟩ := tk_at (x := x) (p := p + 4) (d := 1) (n := Pw P) (k := 3) (by omega) (fun i hi => by
    have : i = 0 := by omega
    subst this; exact hx4) (fun i hi => by
    have e : p + 4 + 1 + i = p + 5 + i := by omega
    rw [e, hbit i hi]
    by_cases q : r.testBit i = true
    · rw [if_pos q]; decide
    · rw [if_neg q]; decide) hw (by omega) (by
    have e : p + 4 + 1 + Pw P = p + 5 + Pw P := by omega
    rw [e, hx59]; decide)
  refine ⟨w3, ?_⟩
  unfold pStmt
  rw [w1, if_neg (by decide), if_neg (by decide), if_pos (by decide), if_pos hL, if_pos rfl, w2]
  unfold pRowT
  have e3' : tkE x (p + 4) = p + 5 + Pw P := by rw [e3]
  have e1' : tkS x (p + 4) = p + 5 := by rw [e1]
  rw [if_pos e2, e3', e1', show p + 5 + Pw P - (p + 5) = Pw P by omega, if_pos rfl, pSemi_at hc]
  have hd : dotsN x (p + 5) (Pw P) = r := by
    apply Nat.eq_of_testBit_eq
    intro i
    rw [dotsN_r hbit (Pw P) (Nat.le_refl _) i]
    by_cases z : i < Pw P
    · simp [z]
    · have : r.testBit i = false := Nat.testBit_lt_two_pow (Nat.lt_of_lt_of_le hr (Nat.pow_le_pow_right (by decide) (by omega)))
      rw [this]; simp
  show Sum.inr (pAdd P (dotsN x (p + 5) (Pw P)), p + 5 + Pw P + 1) = _
  rw [hd, el, show p + 5 + Pw P + 1 = p + (6 + Pw P) by omega]
theorem two_at {x : Tx} {p k v w : Nat} {L : List Nat} (hw : w < 9) (hL : wds.getD w [] = L) (hl : ∀ i, i < L.length → srt (L.getD i 0) = 1 ∧ L.getD i 0 ≠ 32 ∧ L.getD i 0 ≠ 10) (h0 : 0 < L.length) (hk : k < 100) (hv : v < 100) (h : AtT x p ((L ++ [32]) ++ dec2 k ++ [32] ++ dec2 v ++ [59])) : wd x p = w ∧ tkE x p = p + L.length ∧ tkK x p = 1 ∧ (∀ lo hi, lo ≤ k → k ≤ hi → pNum x (p + L.length) lo hi = .inr (k, p + L.length + 1 + (dec2 k).length)) ∧ (∀ lo hi, lo ≤ v → v ≤ hi → pNum x (p + L.length + 1 + (dec2 k).length) lo hi = .inr (v, p + L.length + 1 + (dec2 k).length + 1 + (dec2 v).length)) ∧ pSemi x (p + L.length + 1 + (dec2 k).length + 1 + (dec2 v).length) = .inr (p + ((L ++ [32]) ++ dec2 k ++ [32] ++ dec2 v ++ [59]).length) := by
  have el : ((L ++ [32]) ++ dec2 k ++ [32] ++ dec2 v ++ [59]).length = L.length + 1 + (dec2 k).length + 1 + (dec2 v).length + 1 := by
    rw [List.length_append, List.length_append, List.length_append, List.length_append, List.length_append]; rfl
  have a1 : ((L ++ [32]) ++ dec2 k ++ [32] ++ dec2 v ++ [59]) = (L ++ [32]) ++ (dec2 k ++ [32] ++ dec2 v ++ [59]) := by simp only [List.append_assoc]
  have a2 : ((L ++ [32]) ++ dec2 k ++ [32] ++ dec2 v ++ [59]) = L ++ (([32] ++ dec2 k ++ [32]) ++ (dec2 v ++ [59])) := by simp only [List.append_assoc]
  have a3 : ((L ++ [32]) ++ dec2 k ++ [32] ++ dec2 v ++ [59]) = (L ++ [32] ++ dec2 k) ++ ([32] ++ dec2 v ++ [59]) := by simp only [List.append_assoc]
  have h1 := (AtT.app (a1 ▸ h)).1
  have h2 := (AtT.app (AtT.app (a2 ▸ h)).2).1
  have h3 := (AtT.app (a3 ▸ h)).2
  have h4 := (AtT.app h).2
  have e3 : (L ++ [32] ++ dec2 k).length = L.length + 1 + (dec2 k).length := by rw [List.length_append, List.length_append]; rfl
  have e4 : ((L ++ [32]) ++ dec2 k ++ [32] ++ dec2 v).length = L.length + 1 + (dec2 k).length + 1 + (dec2 v).length := by rw [List.length_append, List.length_append, List.length_append, List.length_append]; rfl
  rw [e3, show p + (L.length + 1 + (dec2 k).length) = p + L.length + 1 + (dec2 k).length by omega] at h3
  rw [e4, show p + (L.length + 1 + (dec2 k).length + 1 + (dec2 v).length) = p + L.length + 1 + (dec2 k).length + 1 + (dec2 v).length by omega] at h4
  obtain ⟨w1, w2, w3⟩ := wd_at hw hL h1 hl h0
  refine ⟨w1, w2, w3, fun lo hi q1 q2 => (pNum_at h2 (by decide) hk q1 q2).1, fun lo hi q1 q2 => (pNum_at h3 (by decide) hv q1 q2).1, ?_⟩
  rw [pSemi_at h4, el, show p + L.length + 1 + (dec2 k).length + 1 + (dec2 v).length + 1 = p + (L.length + 1 + (dec2 k).length + 1 + (dec2 v).length + 1) by omega]
theorem pSet_at {x : Tx} {p k v : Nat} {P : Pg} (h : AtT x p (tSet k v)) (hk : k ≤ 5) (h1 : stLo k ≤ v) (h2 : v ≤ stHi k) : tkK x p = 1 ∧ pStmt x P p = .inr (pSet P k v, p + (tSet k v).length) := by
  have hv := stHi_le k
  obtain ⟨w1, w2, w3, n1, n2, n3⟩ := two_at (w := 3) (L := [115, 101, 116]) (by omega) rfl (by decide) (by decide) (show k < 100 by omega) (show v < 100 by omega) h
  refine ⟨w3, ?_⟩
  unfold pStmt
  rw [w1, if_pos rfl, w2]
  unfold pSetT
  rw [n1 0 5 (by omega) hk]
  show pB (pNum x (p + [115, 101, 116].length + 1 + (dec2 k).length) (stLo k) (stHi k)) _ = _
  rw [n2 _ _ h1 h2]
  show pB (pSemi x (p + [115, 101, 116].length + 1 + (dec2 k).length + 1 + (dec2 v).length)) _ = _
  rw [n3]; rfl
theorem pLoss_at {x : Tx} {p l v : Nat} {P : Pg} (h : AtT x p (tLoss l v)) (hk : l ≤ 19) (h2 : v ≤ 5) : tkK x p = 1 ∧ pStmt x P p = .inr (pLose P l v, p + (tLoss l v).length) := by
  obtain ⟨w1, w2, w3, n1, n2, n3⟩ := two_at (w := 4) (L := [108, 111, 115, 115]) (by omega) rfl (by decide) (by decide) (show l < 100 by omega) (show v < 100 by omega) h
  refine ⟨w3, ?_⟩
  unfold pStmt
  rw [w1, if_neg (by decide), if_pos rfl, w2]
  unfold pLossT
  rw [n1 0 19 (by omega) hk]
  show pB (pNum x (p + [108, 111, 115, 115].length + 1 + (dec2 l).length) 0 5) _ = _
  rw [n2 0 5 (by omega) h2]
  show pB (pSemi x (p + [108, 111, 115, 115].length + 1 + (dec2 l).length + 1 + (dec2 v).length)) _ = _
  rw [n3]; rfl
/-! all of them -/
def foldT (f : Nat → List Nat) : Nat → List Nat
  | 0 => []
  | n + 1 => foldT f n ++ f n
theorem foldT_at {x : Tx} {f : Nat → List Nat} {p : Nat} : ∀ N, AtT x p (foldT f N) → ∀ i, i < N → AtT x (p + (foldT f i).length) (f i) := by
  intro N
  induction N with
  | zero => intro _ i hi; omega
  | succ N ih =>
    intro h i hi
    obtain ⟨h1, h2⟩ := AtT.app h
    by_cases z : i = N
    · subst z; exact h2
    · exact ih h1 i (by omega)
theorem stmtN_fold {x : Tx} {f : Nat → List Nat} {G : Nat → Pg} {N p : Nat} (h : AtT x p (foldT f N)) (st : ∀ i, i < N → ∀ q, AtT x q (f i) → tkK x q = 1 ∧ pStmt x (G i) q = .inr (G (i + 1), q + (f i).length)) {K : Nat} (hK : N ≤ K) : ∀ i, i ≤ N → stmtN x K (G 0) p = stmtN x (K - i) (G i) (p + (foldT f i).length) := by
  intro i
  induction i with
  | zero => intro _; rfl
  | succ i ih =>
    intro hi
    rw [ih (by omega)]
    obtain ⟨e1, e2⟩ := st i (by omega) _ (foldT_at N h i (by omega))
    have ek : K - i = (K - (i + 1)) + 1 := by omega
    rw [ek]
    show (if tkK x (p + (foldT f i).length) = 0 then _ else _) = _
    rw [if_neg (by omega), e2]
    show stmtN x (K - (i + 1)) (G (i + 1)) (p + (foldT f i).length + (f i).length) = stmtN x (K - (i + 1)) (G (i + 1)) (p + (foldT f i ++ f i).length)
    rw [List.length_append, Nat.add_assoc]
theorem stmtN_end {x : Tx} {P : Pg} {p n : Nat} (h : x.2 ≤ p) : stmtN x n P p = .inr P := by
  cases n with
  | zero => rfl
  | succ n =>
    have eS : tkS x p = x.2 := fb_ge_w h
    have eK : tkK x p = 0 := by
      unfold tkK bAt
      rw [eS, if_neg (Nat.lt_irrefl _)]; rfl
    show (if tkK x p = 0 then _ else _) = _
    rw [if_pos eK]
def pLn (w : Nat) (rs : Nat → Nat) : Nat → Pg
  | 0 => pg0 w
  | n + 1 => pAdd (pLn w rs n) (rs n)
def pSt (P : Pg) (vs : Nat → Nat) : Nat → Pg
  | 0 => P
  | k + 1 => pSet (pSt P vs k) k (vs k)
def pLs (P : Pg) (ls : Nat → Nat) : Nat → Pg
  | 0 => P
  | l + 1 => pLose (pLs P ls l) l (ls l)
theorem pLn_p (w : Nat) (rs : Nat → Nat) : ∀ n, Pw (pLn w rs n) = w ∧ PL (pLn w rs n) = n ∧ (∀ l, l < n → Pr (pLn w rs n) l = rs l) ∧ Ps (pLn w rs n) = (fun _ => 0) ∧ Pt (pLn w rs n) = Pt (pg0 w) := by
  intro n
  induction n with
  | zero => exact ⟨rfl, rfl, fun l hl => absurd hl (Nat.not_lt_zero _), rfl, rfl⟩
  | succ n ih =>
    obtain ⟨h1, h2, h3, h4, h5⟩ := ih
    refine ⟨h1, by show PL (pLn w rs n) + 1 = n + 1; rw [h2], fun l hl => ?_, h4, h5⟩
    show updN (Pr (pLn w rs n)) (PL (pLn w rs n)) (rs n) l = rs l
    rw [h2]
    by_cases z : l = n
    · subst z; rw [updN_s]
    · rw [updN_n z]; exact h3 l (by omega)
theorem pSt_p (P : Pg) (vs : Nat → Nat) : ∀ n, Pw (pSt P vs n) = Pw P ∧ PL (pSt P vs n) = PL P ∧ Pr (pSt P vs n) = Pr P ∧ Ps (pSt P vs n) = Ps P ∧ ∀ k, Pt (pSt P vs n) k = if k < n then vs k else Pt P k := by
  intro n
  induction n with
  | zero => exact ⟨rfl, rfl, rfl, rfl, fun k => by rw [if_neg (Nat.not_lt_zero _)]; rfl⟩
  | succ n ih =>
    obtain ⟨h1, h2, h3, h4, h5⟩ := ih
    refine ⟨h1, h2, h3, h4, fun k => ?_⟩
    show updN (Pt (pSt P vs n)) n (vs n) k = _
    by_cases z : k = n
    · subst z; rw [updN_s, if_pos (by omega)]
    · rw [updN_n z, h5 k]
      by_cases y : k < n
      · rw [if_pos y, if_pos (by omega)]
      · rw [if_neg y, if_neg (by omega)]
theorem pLs_p (P : Pg) (ls : Nat → Nat) : ∀ n, Pw (pLs P ls n) = Pw P ∧ PL (pLs P ls n) = PL P ∧ Pr (pLs P ls n) = Pr P ∧ Pt (pLs P ls n) = Pt P ∧ ∀ k, Ps (pLs P ls n) k = if k < n then ls k else Ps P k := by
  intro n
  induction n with
  | zero => exact ⟨rfl, rfl, rfl, rfl, fun k => by rw [if_neg (Nat.not_lt_zero _)]; rfl⟩
  | succ n ih =>
    obtain ⟨h1, h2, h3, h4, h5⟩ := ih
    refine ⟨h1, h2, h3, h4, fun k => ?_⟩
    show updN (Ps (pLs P ls n)) n (ls n) k = _
    by_cases z : k = n
    · subst z; rw [updN_s, if_pos (by omega)]
    · rw [updN_n z, h5 k]
      by_cases y : k < n
      · rw [if_pos y, if_pos (by omega)]
      · rw [if_neg y, if_neg (by omega)]
/-- the drawn text and the drawn page -/
def dTx (w n : Nat) (rs vs ls : Nat → Nat) : List Nat := (wK 9 ++ dec2 w ++ wK 10) ++ foldT (fun i => tLine (rs i) w) n ++ foldT (fun k => tSet k (vs k)) 6 ++ foldT (fun l => tLoss l (ls l)) n
def dPg (w n : Nat) (rs vs ls : Nat → Nat) : Pg := pLs (pSt (pLn w rs n) vs 6) ls n
theorem spText_d {x : Tx} {w n : Nat} {rs vs ls : Nat → Nat} (h : AtT x 0 (dTx w n rs vs ls)) (hx : x.2 = (dTx w n rs vs ls).length) (hw : 8 ≤ w) (hw2 : w ≤ 27) (hn : n ≤ 6) (hr : ∀ i, i < n → rs i < 2 ^ w) (hv : ∀ k, k < 6 → stLo k ≤ vs k ∧ vs k ≤ stHi k) (hl : ∀ i, i < n → ls i ≤ 5) : spText x = .inr (dPg w n rs vs ls) := by
  obtain ⟨h1, h4⟩ := AtT.app h
  obtain ⟨h1, h3⟩ := AtT.app h1
  obtain ⟨h1, h2⟩ := AtT.app h1
  have a1 : (wK 9 ++ dec2 w ++ wK 10) = ([119, 105, 100, 101] ++ [32]) ++ (dec2 w ++ [59]) := by
    show [119, 105, 100, 101, 32] ++ dec2 w ++ [59] = _
    simp only [List.append_assoc]; rfl
  have a2 : (wK 9 ++ dec2 w ++ wK 10) = [119, 105, 100, 101] ++ ([32] ++ dec2 w ++ [59]) := by
    rw [a1]; simp only [List.append_assoc]
  have b1 := (AtT.app (a1 ▸ h1)).1
  have b2 := (AtT.app (a2 ▸ h1)).2
  have b3 := (AtT.app (ys := wK 9 ++ dec2 w) (zs := [59]) h1).2
  obtain ⟨w1, w2, w3⟩ := wd_at (x := x) (p := 0) (w := 5) (L := [119, 105, 100, 101]) (by omega) rfl b1 (by decide) (by decide)
  have w2 : tkE x 0 = 4 := w2
  have b2 : AtT x 4 ([32] ++ dec2 w ++ [59]) := b2
  have b3 : AtT x (4 + 1 + (dec2 w).length) [59] := by
    rw [List.length_append] at b3
    have e5 : (wK 9).length = 5 := rfl
    rw [e5, show 0 + (5 + (dec2 w).length) = 4 + 1 + (dec2 w).length by omega] at b3
    exact b3
  have eh : (wK 9 ++ dec2 w ++ wK 10).length = 4 + 1 + (dec2 w).length + 1 := by
    rw [List.length_append, List.length_append]; show 5 + _ + 1 = _; omega
  unfold spText
  rw [if_pos w1, w2, (pNum_at b2 (by decide) (by omega) hw (show w ≤ 40 by omega)).1]
  show pB (pSemi x (4 + 1 + (dec2 w).length)) (fun p => stmtN x 1000 (pg0 w) p) = _
  rw [pSemi_at b3]
  show stmtN x 1000 (pg0 w) (4 + 1 + (dec2 w).length + 1) = _
  rw [Nat.zero_add, eh] at h2
  have pl := pLn_p w rs
  have c1 := stmtN_fold (x := x) (G := pLn w rs) (N := n) (p := 4 + 1 + (dec2 w).length + 1) h2 (fun i hi q hq => by
    obtain ⟨p1, p2, -⟩ := pl i
    have := pLine_at (x := x) (p := q) (r := rs i) (P := pLn w rs i) (by rw [p1]; exact hq) (by rw [p1]; exact hr i hi) (by omega) (by omega)
    rw [p1] at this
    exact this) (K := 1000) (by omega) n (Nat.le_refl _)
  have c1 : stmtN x 1000 (pg0 w) (4 + 1 + (dec2 w).length + 1) = _ := c1
  rw [c1]
  have e2 : ((wK 9 ++ dec2 w ++ wK 10) ++ foldT (fun i => tLine (rs i) w) n).length = 4 + 1 + (dec2 w).length + 1 + (foldT (fun i => tLine (rs i) w) n).length := by rw [List.length_append, eh]
  rw [Nat.zero_add, e2] at h3
  have c2 := stmtN_fold (x := x) (G := pSt (pLn w rs n) vs) (N := 6) h3 (fun k hk q hq => pSet_at hq (by omega) (hv k hk).1 (hv k hk).2) (K := 1000 - n) (by omega) 6 (Nat.le_refl _)
  have c2 : stmtN x (1000 - n) (pLn w rs n) _ = _ := c2
  rw [c2]
  have e3 : ((wK 9 ++ dec2 w ++ wK 10) ++ foldT (fun i => tLine (rs i) w) n ++ foldT (fun k => tSet k (vs k)) 6).length = 4 + 1 + (dec2 w).length + 1 + (foldT (fun i => tLine (rs i) w) n).length + (foldT (fun k => tSet k (vs k)) 6).length := by rw [List.length_append, e2]
  rw [Nat.zero_add, e3] at h4
  have c3 := stmtN_fold (x := x) (G := pLs (pSt (pLn w rs n) vs 6) ls) (N := n) h4 (fun l hl' q hq => pLoss_at hq (by omega) (hl l hl')) (K := 1000 - n - 6) (by omega) n (Nat.le_refl _)
  have c3 : stmtN x (1000 - n - 6) (pSt (pLn w rs n) vs 6) _ = _ := c3
  rw [c3]
  refine stmtN_end ?_
  rw [hx]
  unfold dTx
  rw [List.length_append, e3]
  exact Nat.le_refl _
