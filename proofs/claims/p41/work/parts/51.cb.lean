/-! THE CLASS: reading a code -/
/-- a Reading: width, row above, place and colour; and the row so far -/
def isR0 (M : Mm) (h w u q : Nat) (c : Bool) : Prop := Mi M h 0 = nI w ∧ Mi M h 1 = pl q ∧ Mi M h 2 = nI (bN c) ∧ Mj M h 6 = lN u ∧ Mj M h 7 = lN (chs w u) ∧ q ≤ w + 1
def isRd (M : Mm) (h w u : Nat) (s : Rst) : Prop := isR0 M h w u s.1 s.2.1 ∧ Mj M h 3 = lN s.2.2 ∧ s.2.2 < 2 ^ (s.1 - 1)
def isLk (M : Mm) (h w u q : Nat) (c : Bool) : Prop := Mi M h 4 = nI (sB w u q c) ∧ Mi M h 5 = nI (sD w u (sB w u q c))
def xH (h a _ : Nat) : Bool := a == h
def xLk (h a b : Nat) : Bool := a == h && (b == 4 || b == 5)
theorem xLk_H (h a b : Nat) (z : xH h a b = false) : xLk h a b = false := by unfold xH at z; unfold xLk; simp [z]
theorem isR0.xf {X : Nat → Nat → Bool} {M M1 : Mm} {h w u q : Nat} {c : Bool} (r : isR0 M h w u q c) (x : XF X M M1) (z : ∀ b, b ≠ 4 → b ≠ 5 → X h b = false) : isR0 M1 h w u q c := by
  obtain ⟨h1, h2, h3, h5, h6, h7⟩ := r
  exact ⟨by rw [x.mi (z 0 (by decide) (by decide))]; exact h1, by rw [x.mi (z 1 (by decide) (by decide))]; exact h2, by rw [x.mi (z 2 (by decide) (by decide))]; exact h3, by rw [x.mj (z 6 (by decide) (by decide))]; exact h5, by rw [x.mj (z 7 (by decide) (by decide))]; exact h6, h7⟩
theorem isRd.xf {X : Nat → Nat → Bool} {M M1 : Mm} {h w u : Nat} {s : Rst} (r : isRd M h w u s) (x : XF X M M1) (z : ∀ b, b ≠ 4 → b ≠ 5 → X h b = false) : isRd M1 h w u s :=
  ⟨r.1.xf x z, by rw [x.mj (z 3 (by decide) (by decide))]; exact r.2.1, r.2.2⟩
theorem xLk_z (h b : Nat) (h4 : b ≠ 4) (h5 : b ≠ 5) : xLk h h b = false := by unfold xLk; simp [h4, h5]
theorem fb_cg {p p' : Nat → Bool} {w i : Nat} (h : ∀ k, i ≤ k → k < w → p k = p' k) : fb p w i = fb p' w i := by
  rcases fb_spec p' w i with q | q
  · rw [q.1]; exact fb_end (fun j h1 h2 => by rw [h j h1 h2]; exact q.2 j h1 h2)
  · exact fb_un q.1 q.2.1 (by rw [h _ q.1 q.2.1]; exact q.2.2.1) (fun j h1 h2 => by rw [h j h1 (by omega)]; exact q.2.2.2 j h1 h2)
theorem pl_0ge {q : Nat} (h : q < 2147483648) : (0 : Int32) ≤ pl q ↔ 1 ≤ q := by rw [nL0, pl_ge h (by omega)]
theorem pl_p {q : Nat} (h : 1 ≤ q) : nI (q - 1) = pl q := by
  obtain ⟨k, rfl⟩ : ∃ k, q = k + 1 := ⟨q - 1, by omega⟩
  rw [pl_s]; rfl
section CRead
variable {M : Mm} {h w u : Nat}
theorem cBegin (h40 : w ≤ 40) (hu : u < 2 ^ w) : Rn (fX4_begin h (lN u) (nI w)) M (fun _ M' => XF (xH h) M M' ∧ isRd M' h w u (0, false, 0)) := by
  have hx : xH h h 0 = true := by unfold xH; simp
  have hX : ∀ b, xH h h b = true := fun b => by unfold xH; simp
  unfold fX4_begin
  rw [Rn_bnd, Rn_pI, Rn_bnd, Rn_pI, Rn_bnd, Rn_pZ]
  refine ⟨by decide, ?_⟩
  rw [Rn_bnd, Rn_pJ, Rn_bnd, Rn_pI, Rn_bnd, Rn_pI, Rn_bnd, Rn_pJ, Rn_bnd, fChs h40 hu, Rn_bnd, Rn_pJ, Rn_rtn]
  refine ⟨(((((((XF.rf.sI (hX _)).sI (hX _)).sI (hX _)).sJ (hX _)).sI (hX _)).sI (hX _)).sJ (hX _)).sJ (hX _), ⟨?_, ?_, ?_, ?_, ?_, Nat.zero_le _⟩, ?_, Nat.two_pow_pos _⟩
  · simp [Mi_sI, Mi_sJ]
  · simp [Mi_sI, Mi_sJ]; exact pl_0
  · simp [Mi_sI, Mi_sJ]; rfl
  · simp [Mj_sI, Mj_sJ]
  · simp [Mj_sI, Mj_sJ]
  · simp [Mj_sI, Mj_sJ]; rfl
theorem cHasEnd {q : Nat} {c : Bool} (h40 : w ≤ 40) (r : isR0 M h w u q c) {Q : Int32 → Mm → Prop} : Rn (fX4_hasEnded h) M Q ↔ Q (nI (bN (decide (q = w + 1)))) M := by
  refine Rn_det ?_
  have h7 := r.2.2.2.2.2
  unfold fX4_hasEnded
  rw [Rn_bnd, Rn_gI, r.2.1, Rn_bnd, Rn_gI, r.1]
  refine Rn_cs (pl_lt (by omega) (by omega)) (fun g => ?_) (fun g => ?_)
  · rw [Rn_grd, Rn_rtn]; refine ⟨by decide, ?_, rfl⟩
    have : ¬ q = w + 1 := by omega
    simp [this]; rfl
  · rw [Rn_grd, Rn_rtn]; refine ⟨by decide, ?_, rfl⟩
    have : q = w + 1 := by omega
    simp [this]; rfl
theorem cLook {q : Nat} {c : Bool} (h40 : w ≤ 40) (hu : u < 2 ^ w) (r : isR0 M h w u q c) : Rn (fX4_look h) M (fun _ M' => XF (xLk h) M M' ∧ isLk M' h w u q c) := by
  have hX4 : xLk h h 4 = true := by unfold xLk; simp
  have hX5 : xLk h h 5 = true := by unfold xLk; simp
  obtain ⟨r1, r2, r3, r5, r6, r7⟩ := id r
  have hc := chs_lt w u
  have p40 : 2 ^ w ≤ 2 ^ 40 := pw_le h40
  have key : ∀ y : Nat, y < 2 ^ 64 → (∀ k, k < w → y.testBit k = (u.testBit k != c)) → Rn (fX4_look_L27 h (lN y) (lN (chs w u)) h) M (fun _ M' => XF (xLk h) M M' ∧ isLk M' h w u q c) := by
    intro y hy hyb
    have hlt : chs w u &&& y < 2 ^ w := Nat.lt_of_le_of_lt Nat.and_le_left hc
    have e1 : fb (fun k => (chs w u &&& y).testBit k) w q = sB w u q c := by
      unfold sB
      refine fb_cg (fun k _ hk => ?_)
      rw [Nat.testBit_and, chs_bit, hyb k hk]
      simp [hk]
      cases u.testBit k <;> cases c <;> simp [bN]
    have b2 := sB_le w u q c
    unfold fX4_look_L27
    rw [Rn_bnd, Rn_gI, r2, Rn_bnd, Rn_gI, r1, Rn_bnd, wb_and (by omega) hy, fFB h40 hlt r7, e1, Rn_bnd, Rn_pI, Rn_bnd, Rn_gJ, Rn_bnd, Rn_gI, Rn_bnd, Rn_gI]
    have e2 : Mj (sI M h 4 (nI (sB w u q c))) h 7 = lN (chs w u) := r6
    have e3 : Mi (sI M h 4 (nI (sB w u q c))) h 4 = nI (sB w u q c) := sI_self
    have e4 : Mi (sI M h 4 (nI (sB w u q c))) h 0 = nI w := by rw [Mi_sI, if_neg (by omega)]; exact r1
    rw [e2, e3, e4, Rn_bnd, ← pl_s (sB w u q c), fFB h40 hc (by omega), pl_s, Rn_bnd, Rn_pI, Rn_rtn]
    have e5 : fb (fun k => (chs w u).testBit k) w (sB w u q c + 1) = sD w u (sB w u q c) := by
      unfold sD
      refine fb_cg (fun k _ hk => ?_)
      rw [chs_bit]; simp [hk]
    rw [e5]
    refine ⟨(XF.rf.sI hX4).sI hX5, ?_, ?_⟩
    · rw [Mi_sI, if_neg (by omega)]; exact sI_self
    · exact sI_self
  have hu64 : u < 2 ^ 64 := by omega
  unfold fX4_look
  rw [Rn_bnd, Rn_gJ, r6, Rn_bnd, Rn_gI, r3]
  refine Rn_cs (bN_0 c) (fun g => ?_) (fun g => ?_)
  · rw [Rn_bnd, Rn_gJ, r5]
    exact key u hu64 (fun k hk => by rw [g]; simp)
  · have g : c = true := by simpa using g
    rw [Rn_bnd, Rn_gJ, r5]
    have : lN u ^^^ (-1) = lN (u ^^^ (2 ^ 64 - 1)) := by
      rw [show (-1 : Int64) = lN (2 ^ 64 - 1) from by decide +kernel, lN_xr hu64 (by decide)]
    rw [this]
    refine key _ (Nat.xor_lt_two_pow hu64 (by decide)) (fun k hk => ?_)
    rw [Nat.testBit_xor, Nat.testBit_two_pow_sub_one, g]
    have : k < 64 := by omega
    simp [this]
theorem fSpan {f t : Nat} (hf : f ≤ t) (ht : t ≤ 40) {M : Mm} {Q : Int64 → Mm → Prop} : Rn (fX7_span (nI f) (nI t)) M Q ↔ Q (lN (2 ^ t - 2 ^ f)) M := by
  unfold fX7_span
  rw [Rn_rtn, show (1 : Int64) = lN 1 from rfl, lsh1 (by omega), lsh1 (by omega), Nat.one_mul, Nat.one_mul, lN_sb (pw_le hf)]
theorem lN_orp {r f t : Nat} (hr : r < 2 ^ f) (hf : f ≤ t) (ht : t ≤ 40) : lN r ||| lN (2 ^ t - 2 ^ f) = lN (pnt r f t true) := by
  have h1 := pw_le hf
  have h2 := pw_le ht
  rw [wb_or (by omega) (by omega)]; rfl
/-- a way on to a place that is allowed or not: of the colour c up to it -/
theorem cGoTo {s : Rst} (h40 : w ≤ 40) (r : isRd M h w u s) {x : Int32} {c2 : Bool} (e : Nat) (he : e < 1000) (hx : ¬ (x ≤ pl s.1 ∨ ¬ x ≤ nI w) → x = nI e ∧ s.1 < e + 1 ∧ e ≤ w) : Rn (fX4_goTo h x (nI (bN c2))) M (fun a M' => XF (xH h) M M' ∧ ((a = nI 0 ∧ (x ≤ pl s.1 ∨ ¬ x ≤ nI w) ∧ M' = M) ∨ (a = nI 1 ∧ ¬ (x ≤ pl s.1 ∨ ¬ x ≤ nI w) ∧ isRd M' h w u (e + 1, c2, pnt s.2.2 (s.1 - 1) e s.2.1)))) := by
  have hX : ∀ b, xH h h b = true := fun b => by unfold xH; simp
  obtain ⟨q, c, res⟩ := s
  obtain ⟨⟨r1, r2, r3, r5, r6, r7⟩, r4, r8⟩ := id r
  have r2 : Mi M h 1 = pl q := r2
  have r3 : Mi M h 2 = nI (bN c) := r3
  have r4 : Mj M h 3 = lN res := r4
  have r7 : q ≤ w + 1 := r7
  have r8 : res < 2 ^ (q - 1) := r8
  unfold fX4_goTo
  rw [Rn_bnd, Rn_gI, r2]
  refine Rn_cs Iff.rfl (fun g => ?_) (fun g => ?_)
  · rw [Rn_grd, Rn_rtn]; exact ⟨by decide, XF.rf, Or.inl ⟨rfl, Or.inl g, rfl⟩⟩
  · rw [Rn_bnd, Rn_gI, r1]
    refine Rn_cs Iff.rfl (fun g2 => ?_) (fun g2 => ?_)
    · have no : ¬ (x ≤ pl q ∨ ¬ x ≤ nI w) := fun z => z.elim g (fun y => y g2)
      obtain ⟨rfl, hq, hew⟩ := hx no
      have hq : q < e + 1 := hq
      rw [Rn_bnd, Rn_gI, r3]
      have fin : ∀ M1 : Mm, XF (xH h) M M1 → Mi M1 h 0 = nI w → Mj M1 h 3 = lN (pnt res (q - 1) e c) → Mj M1 h 6 = lN u → Mj M1 h 7 = lN (chs w u) → Rn (fX4_goTo_L53 h (nI e) (nI (bN c2))) M1 (fun a M' => XF (xH h) M M' ∧ ((a = nI 0 ∧ (nI e ≤ pl q ∨ ¬ nI e ≤ nI w) ∧ M' = M) ∨ (a = nI 1 ∧ ¬ (nI e ≤ pl q ∨ ¬ nI e ≤ nI w) ∧ isRd M' h w u (e + 1, c2, pnt res (q - 1) e c)))) := by
        intro M1 x1 a0 a3 a6 a7
        unfold fX4_goTo_L53
        rw [Rn_bnd, Rn_pI, Rn_bnd, Rn_pZ]
        refine ⟨bN_g c2, ?_⟩
        rw [Rn_grd, Rn_rtn]
        refine ⟨by decide, (x1.sI (hX _)).sI (hX _), Or.inr ⟨rfl, no, ⟨?_, ?_, ?_, a6, a7, ?_⟩, a3, ?_⟩⟩
        · rw [Mi_sI, if_neg (by omega), Mi_sI, if_neg (by omega)]; exact a0
        · rw [Mi_sI, if_neg (by omega), sI_self, pl_s]
        · exact sI_self
        · show e + 1 ≤ w + 1; omega
        · exact pnt_lt (by omega) r8
      refine Rn_cs (bN_0 c) (fun g3 => ?_) (fun g3 => ?_)
      · exact fin M XF.rf r1 (by rw [r4, g3]; rfl) r5 r6
      · have g3 : c = true := by simpa using g3
        have key : Rn (fX4_goTo_L45 h (nI e) (nI (bN c2)) (nI (q - 1)) (lN res) h) M (fun a M' => XF (xH h) M M' ∧ ((a = nI 0 ∧ (nI e ≤ pl q ∨ ¬ nI e ≤ nI w) ∧ M' = M) ∨ (a = nI 1 ∧ ¬ (nI e ≤ pl q ∨ ¬ nI e ≤ nI w) ∧ isRd M' h w u (e + 1, c2, pnt res (q - 1) e c)))) := by
          unfold fX4_goTo_L45
          rw [Rn_bnd, fSpan (by omega) (by omega), Rn_bnd, Rn_pJ, lN_orp r8 (by omega) (by omega)]
          refine fin _ (XF.rf.sJ (hX _)) r1 ?_ ?_ ?_
          · rw [Mj_sJ, if_pos ⟨rfl, rfl⟩, g3]
          · rw [Mj_sJ, if_neg (by omega)]; exact r5
          · rw [Mj_sJ, if_neg (by omega)]; exact r6
        rw [Rn_bnd, Rn_gJ, r4, Rn_bnd, Rn_gI, r2]
        refine Rn_cs (pl_0ge (by omega)) (fun g4 => ?_) (fun g4 => ?_)
        · rw [Rn_bnd, Rn_gI, r2]
          rw [pl_p g4] at key
          exact key
        · rw [show nI (q - 1) = 0 from by rw [show q - 1 = 0 by omega]; rfl] at key; exact key
    · rw [Rn_grd, Rn_rtn]; exact ⟨by decide, XF.rf, Or.inl ⟨rfl, Or.inr g2, rfl⟩⟩
theorem cPass {s : Rst} (h40 : w ≤ 40) (r : isRd M h w u s) (k : isLk M h w u s.1 s.2.1) (hq : s.1 ≠ w + 1) {x y z : Int32} : Rn (fX4_pass h) M (fun a M' => XF (xH h) M M' ∧ a = nI (bN (rStep w u (nI 0, x, y, z) s).isSome) ∧ ∀ s', rStep w u (nI 0, x, y, z) s = some s' → isRd M' h w u s') := by
  have hq7 := r.1.2.2.2.2.2
  have b1 := sB_ge (u := u) (c := s.2.1) (show s.1 ≤ w by omega)
  have b2 := sB_le w u s.1 s.2.1
  have d1 := sD_ge (u := u) b2
  have d2 := sD_le w u (sB w u s.1 s.2.1)
  have e : rStep w u (nI 0, x, y, z) s = some (sD w u (sB w u s.1 s.2.1) + 1, s.2.1, pnt s.2.2 (s.1 - 1) (sD w u (sB w u s.1 s.2.1)) s.2.1) := by
    unfold rStep; rw [if_neg hq, if_pos rfl]
  rw [e]
  unfold fX4_pass
  rw [Rn_bnd, Rn_gI, k.2, Rn_bnd, Rn_gI, r.1.2.2.1, Rn_bnd]
  refine (cGoTo h40 r (sD w u (sB w u s.1 s.2.1)) (by omega) (fun _ => ⟨rfl, by omega, d2⟩)).mono ?_
  rintro a M' ⟨x1, h0 | h1⟩
  · exfalso
    have := h0.2.1
    rw [pl_ge (by omega) (by omega), nle (by omega) (by omega)] at this
    omega
  · obtain ⟨rfl, -, r2⟩ := h1
    rw [Rn_grd, Rn_rtn]
    exact ⟨by decide, x1, rfl, fun s' hs => by cases hs; exact r2⟩
theorem v_add (b x : Nat) : nI b + (nI x - nI 3) = nI (b + x) - nI 3 := by
  rw [Int32.sub_eq_add_neg, ← Int32.add_assoc, nI_add, ← Int32.sub_eq_add_neg]
theorem cVert {s : Rst} (h40 : w ≤ 40) (r : isRd M h w u s) (k : isLk M h w u s.1 s.2.1) (hq : s.1 ≠ w + 1) {v y z : Int32} {x : Nat} (hx : x ≤ 6) (hv : v = nI x - nI 3) : Rn (fX4_goVertical h v) M (fun a M' => XF (xH h) M M' ∧ a = nI (bN (rStep w u (nI 1, v, y, z) s).isSome) ∧ ∀ s', rStep w u (nI 1, v, y, z) s = some s' → isRd M' h w u s') := by
  have hq7 := r.1.2.2.2.2.2
  have b1 := sB_ge (u := u) (c := s.2.1) (show s.1 ≤ w by omega)
  have b2 := sB_le w u s.1 s.2.1
  have e : rStep w u (nI 1, v, y, z) s = if sB w u s.1 s.2.1 + x < s.1 + 3 ∨ w + 3 < sB w u s.1 s.2.1 + x then none else some (sB w u s.1 s.2.1 + x - 3 + 1, !s.2.1, pnt s.2.2 (s.1 - 1) (sB w u s.1 s.2.1 + x - 3) s.2.1) := by
    unfold rStep; rw [if_neg hq, if_neg (by show ¬ nI 1 = nI 0; decide), if_pos rfl]
    show (if sB w u s.1 s.2.1 + ix (v + nI 3) < s.1 + 3 ∨ w + 3 < sB w u s.1 s.2.1 + ix (v + nI 3) then none else _) = _
    rw [hv, vm3 hx]
  have key : Rn (fX4_goVertical_L19 (nI (bN (!s.2.1))) (nI (sB w u s.1 s.2.1) + v) h) M (fun a M' => XF (xH h) M M' ∧ a = nI (bN (rStep w u (nI 1, v, y, z) s).isSome) ∧ ∀ s', rStep w u (nI 1, v, y, z) s = some s' → isRd M' h w u s') := by
    rw [e]
    unfold fX4_goVertical_L19
    rw [Rn_bnd, hv, v_add]
    have c1 := v_le (y := sB w u s.1 s.2.1 + x) (q := s.1) (by omega) (by omega)
    have c2 := v_lw (y := sB w u s.1 s.2.1 + x) (w := w) (by omega) (by omega)
    refine (cGoTo h40 r (c2 := !s.2.1) (sB w u s.1 s.2.1 + x - 3) (by omega) (fun no => ?_)).mono ?_
    · rw [c1, c2] at no
      exact ⟨nsb (by omega), by omega, by omega⟩
    · rintro a M' ⟨x1, h0 | h1⟩
      · obtain ⟨rfl, g, rfl⟩ := h0
        rw [c1, c2] at g
        rw [Rn_grd, Rn_rtn, if_pos (by omega)]
        exact ⟨by decide, x1, rfl, fun s' hs => by cases hs⟩
      · obtain ⟨rfl, g, r2⟩ := h1
        rw [c1, c2] at g
        rw [Rn_grd, Rn_rtn, if_neg (by omega)]
        exact ⟨by decide, x1, rfl, fun s' hs => by cases hs; exact r2⟩
  unfold fX4_goVertical
  rw [Rn_bnd, Rn_gI, k.1, Rn_bnd, Rn_gI, r.1.2.2.1]
  refine Rn_cs (bN_0 _) (fun g => ?_) (fun g => ?_)
  · rw [show nI (bN (!s.2.1)) = 1 from by rw [g]; rfl] at key; exact key
  · rw [show nI (bN (!s.2.1)) = 0 from by rw [show s.2.1 = true by simpa using g]; rfl] at key; exact key
theorem cHori {s : Rst} (h40 : w ≤ 40) (r : isRd M h w u s) (hq : s.1 ≠ w + 1) {a b : Nat} (ha : a ≤ 40) (hb : b ≤ 40) {z : Int32} : Rn (fX4_goHorizontal h (nI a) (nI b)) M (fun v M' => XF (xH h) M M' ∧ v = nI (bN (rStep w u (nI 2, nI a, nI b, z) s).isSome) ∧ ∀ s', rStep w u (nI 2, nI a, nI b, z) s = some s' → isRd M' h w u s') := by
  have hX : ∀ b, xH h h b = true := fun b => by unfold xH; simp
  obtain ⟨q, c, res⟩ := s
  obtain ⟨⟨r1, r2, r3, r5, r6, r7⟩, r4, r8⟩ := id r
  have r2 : Mi M h 1 = pl q := r2
  have r3 : Mi M h 2 = nI (bN c) := r3
  have r4 : Mj M h 3 = lN res := r4
  have r7 : q ≤ w + 1 := r7
  have r8 : res < 2 ^ (q - 1) := r8
  have hq : q ≠ w + 1 := hq
  have e : rStep w u (nI 2, nI a, nI b, z) (q, c, res) = if q - 1 + a + b + 1 ≤ q ∨ w < q - 1 + a + b then none else some (q - 1 + a + b + 1, c, pnt (pnt res (q - 1) (q - 1 + a) c) (q - 1 + a) (q - 1 + a + b) (!c)) := by
    unfold rStep
    rw [if_neg hq, if_neg (by show ¬ nI 2 = nI 0; decide), if_neg (by show ¬ nI 2 = nI 1; decide)]
    show (if q - 1 + ix (nI a) + ix (nI b) + 1 ≤ q ∨ w < q - 1 + ix (nI a) + ix (nI b) then none else some (q - 1 + ix (nI a) + ix (nI b) + 1, c, pnt (pnt res (q - 1) (q - 1 + ix (nI a)) c) (q - 1 + ix (nI a)) (q - 1 + ix (nI a) + ix (nI b)) (!c))) = _
    rw [ix_n (by omega), ix_n (by omega)]
  have key : Rn (fX4_goHorizontal_L15 h (nI a) (nI b) (nI (q - 1))) M (fun v M' => XF (xH h) M M' ∧ v = nI (bN (rStep w u (nI 2, nI a, nI b, z) (q, c, res)).isSome) ∧ ∀ s', rStep w u (nI 2, nI a, nI b, z) (q, c, res) = some s' → isRd M' h w u s') := by
    rw [e]
    unfold fX4_goHorizontal_L15
    rw [Rn_bnd, Rn_rtn, nI_add, Rn_bnd, Rn_rtn, nI_add, Rn_bnd, Rn_gI, r2]
    refine Rn_cs (pl_ge (by omega) (by omega)) (fun g => ?_) (fun g => ?_)
    · rw [Rn_grd, Rn_rtn, if_pos (Or.inl g)]
      exact ⟨by decide, XF.rf, rfl, fun s' hs => by cases hs⟩
    · rw [Rn_bnd, Rn_gI, r1]
      refine Rn_cs (nle (by omega) (by omega)) (fun g2 => ?_) (fun g2 => ?_)
      · rw [if_neg (by omega), Rn_bnd, Rn_gJ, r4, Rn_bnd, Rn_gI, r3]
        have fin : ∀ sp : Nat, lN res ||| lN sp = lN (pnt (pnt res (q - 1) (q - 1 + a) c) (q - 1 + a) (q - 1 + a + b) (!c)) → Rn (fX4_goHorizontal_L75 h (nI (q - 1 + a + b)) (lN sp) (lN res) h) M (fun v M' => XF (xH h) M M' ∧ v = nI (bN (some (q - 1 + a + b + 1, c, pnt (pnt res (q - 1) (q - 1 + a) c) (q - 1 + a) (q - 1 + a + b) (!c))).isSome) ∧ ∀ s', some (q - 1 + a + b + 1, c, pnt (pnt res (q - 1) (q - 1 + a) c) (q - 1 + a) (q - 1 + a + b) (!c)) = some s' → isRd M' h w u s') := by
          intro sp hsp
          unfold fX4_goHorizontal_L75
          rw [Rn_bnd, Rn_pJ, Rn_bnd, Rn_pI, Rn_grd, Rn_rtn]
          refine ⟨by decide, (XF.rf.sJ (hX _)).sI (hX _), rfl, fun s' hs => ?_⟩
          cases hs
          refine ⟨⟨?_, ?_, ?_, ?_, ?_, ?_⟩, ?_, ?_⟩
          · rw [Mi_sI, if_neg (by omega)]; exact r1
          · rw [sI_self, pl_s]
          · rw [Mi_sI, if_neg (by omega)]; exact r3
          · rw [Mj_sI, Mj_sJ, if_neg (by omega)]; exact r5
          · rw [Mj_sI, Mj_sJ, if_neg (by omega)]; exact r6
          · show q - 1 + a + b + 1 ≤ w + 1; omega
          · rw [Mj_sI, Mj_sJ, if_pos ⟨rfl, rfl⟩]; exact hsp
          · exact pnt_lt (by omega) (pnt_lt (by omega) r8)
        refine Rn_cs (bN_0 c) (fun g3 => ?_) (fun g3 => ?_)
        · rw [Rn_bnd, fSpan (by omega) (by omega)]
          refine fin _ ?_
          rw [g3]
          show _ = lN (pnt (pnt res (q - 1) (q - 1 + a) false) (q - 1 + a) (q - 1 + a + b) true)
          have : pnt res (q - 1) (q - 1 + a) false = res := by unfold pnt; rw [if_neg (by decide)]
          rw [this]
          exact lN_orp (Nat.lt_of_lt_of_le r8 (pw_le (by omega))) (by omega) (by omega)
        · rw [Rn_bnd, fSpan (by omega) (by omega)]
          refine fin _ ?_
          rw [show c = true by simpa using g3]
          have : ∀ r f t, pnt r f t (!true) = r := fun r f t => by unfold pnt; rw [if_neg (by decide)]
          rw [this]
          exact lN_orp r8 (by omega) (by omega)
      · rw [Rn_grd, Rn_rtn, if_pos (Or.inr (by omega))]
        exact ⟨by decide, XF.rf, rfl, fun s' hs => by cases hs⟩
  unfold fX4_goHorizontal
  rw [Rn_bnd, Rn_gI, r2]
  refine Rn_cs (pl_0ge (by omega)) (fun g4 => ?_) (fun g4 => ?_)
  · rw [Rn_bnd, Rn_gI, r2]
    rw [pl_p g4] at key
    exact key
  · rw [show nI (q - 1) = 0 from by rw [show q - 1 = 0 by omega]; rfl] at key; exact key
end CRead

