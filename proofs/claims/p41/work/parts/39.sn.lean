/-! SENDING A PAGE: rows had, states, times, bits, steps back; all bits, sendings, steps back, lost, not read -/
abbrev Sn : Type := (Nat → Nat) × (Nat → Nat) × (Nat → Nat) × (Nat → Nat) × (Nat → Nat) × Nat × Nat × Nat × Nat × Nat
def zG (s : Sn) : Nat → Nat := s.1
def zS (s : Sn) : Nat → Nat := s.2.1
def zT (s : Sn) : Nat → Nat := s.2.2.1
def zC (s : Sn) : Nat → Nat := s.2.2.2.1
def zK (s : Sn) : Nat → Nat := s.2.2.2.2.1
def zA (s : Sn) : Nat := s.2.2.2.2.2.1
def zD (s : Sn) : Nat := s.2.2.2.2.2.2.1
def zP (s : Sn) : Nat := s.2.2.2.2.2.2.2.1
def zL (s : Sn) : Nat := s.2.2.2.2.2.2.2.2.1
def zU (s : Sn) : Nat := s.2.2.2.2.2.2.2.2.2
def zO : Sn := (fun _ => 0, fun _ => 0, fun _ => 0, fun _ => 0, fun _ => 0, 0, 0, 0, 0, 0)
def rowAb (s : Sn) (l : Nat) : Nat := if l = 0 then 0 else zG s (l - 1)
/-- a sending's cost is counted -/
def zCost (P : Pg) (l : Nat) : Nat := Pt P 4 + sBt P l
def zPut (P : Pg) (l : Nat) (s : Sn) : Sn := (zG s, zS s, updN (zT s) l (zT s l + 1), updN (zC s) l (zC s l + zCost P l), zK s, zA s + zCost P l, zD s + 1, zP s, zL s, zU s)
/-- what is read of a line that is not lost -/
def zRead (P : Pg) (l : Nat) (s : Sn) : Option Nat := if isMk P l = true then some (Pr P l) else rdC (Pw P) (rowAb s l) (cod (Pw P) (Pr P l) (Pu P l))
def zGot (P : Pg) (l q : Nat) (s : Sn) : Sn := (updN (zG s) l q, updN (zS s) l (if q = Pr P l then 0 else 3), zT s, zC s, zK s, zA s, zD s, zP s, zL s, zU s)
def zMiss (how : Nat) (s : Sn) : Sn := (zG s, zS s, zT s, zC s, zK s, zA s, zD s, zP s, if how = 1 then zL s + 1 else zL s, if how = 2 then zU s + 1 else zU s)
def zStep (P : Pg) (l : Nat) (s : Sn) : Sn := (zG s, zS s, zT s, zC s, updN (zK s) l (zK s l + 1), zA s + Pt P 5, zD s, zP s + 1, zL s, zU s)
def zFill (P : Pg) (l how : Nat) (s : Sn) : Sn := (updN (zG s) l (if Pt P 2 = 1 then 0 else rowAb s l), updN (zS s) l how, zT s, zC s, zK s, zA s, zD s, zP s, zL s, zU s)
def zFail (P : Pg) (l how : Nat) (s : Sn) : Sn × Nat := if zP s < Pt P 3 then (zStep P l (zMiss how s), mkU P l) else (zFill P l how (zMiss how s), l + 1)
def snd1 (P : Pg) (lo : Nat → Nat) (s : Sn) (l : Nat) : Sn × Nat :=
  if zT (zPut P l s) l ≤ lo l then zFail P l 1 (zPut P l s)
  else match zRead P l (zPut P l s) with
    | some q => (zGot P l q (zPut P l s), l + 1)
    | none => zFail P l 2 (zPut P l s)
def sndN (P : Pg) (lo : Nat → Nat) : Nat → Sn → Nat → Sn
  | 0, s, _ => s
  | n + 1, s, l => if l < PL P then sndN P lo n (snd1 P lo s l).1 (snd1 P lo s l).2 else s
def sndA (P : Pg) (lo : Nat → Nat) : Sn := sndN P lo 1000 zO 0
/-- how far it still is -/
def zMu (P : Pg) (s : Sn) (l : Nat) : Nat := (Pt P 3 - zP s) * 21 + (PL P - l)
/-- bounds that hold all along -/
def zOk (P : Pg) (s : Sn) (l : Nat) : Prop := zP s ≤ Pt P 3 ∧ l ≤ PL P ∧ zD s + zMu P s l ≤ 300 ∧ zA s ≤ 1000 * zD s + 99 * zP s ∧ (∀ i, zT s i ≤ zD s) ∧ ∀ i, i < l → zG s i < 2 ^ Pw P
theorem sBt_le {P : Pg} (h : wfP P) (l : Nat) : sBt P l ≤ 779 := by
  have := aBt_le h l
  have := cBt_le h l
  unfold sBt; split <;> omega
theorem rdL_lt {w u : Nat} : ∀ (L : List Md) (s s' : Nat × Bool × Nat), (∀ m, m ∈ L → mdOk m) → w ≤ 40 → s.1 ≤ w + 1 → s.2.2 < 2 ^ (s.1 - 1) → rdL w u L s = some s' → s'.1 ≤ w + 1 ∧ s'.2.2 < 2 ^ (s'.1 - 1) := by
  intro L
  induction L with
  | nil => intro s s' _ _ h1 h2 h; cases h; exact ⟨h1, h2⟩
  | cons m t ih =>
    intro s s' hm h40 h1 h2 h
    unfold rdL at h
    split at h
    · rename_i s1 hs1
      have key : s1.1 ≤ w + 1 ∧ s1.2.2 < 2 ^ (s1.1 - 1) := by
        have b2 := sB_le w u s.1 s.2.1
        unfold rStep at hs1
        split at hs1
        · cases hs1
        · rename_i hne
          have b1 := sB_ge (u := u) (c := s.2.1) (show s.1 ≤ w by omega)
          have d1 := sD_ge (u := u) b2
          have d2 := sD_le w u (sB w u s.1 s.2.1)
          split at hs1
          · cases hs1
            exact ⟨by show sD w u (sB w u s.1 s.2.1) + 1 ≤ w + 1; omega, pnt_lt (by omega) h2⟩
          · split at hs1
            · split at hs1
              · cases hs1
              · cases hs1
                exact ⟨by show sB w u s.1 s.2.1 + ix (m.2.1 + nI 3) - 3 + 1 ≤ w + 1; omega, pnt_lt (by omega) h2⟩
            · split at hs1
              · cases hs1
              · cases hs1
                refine ⟨?_, ?_⟩
                · show s.1 - 1 + ix m.2.1 + ix m.2.2.1 + 1 ≤ w + 1; omega
                · show pnt _ _ _ _ < 2 ^ (s.1 - 1 + ix m.2.1 + ix m.2.2.1 + 1 - 1)
                  exact pnt_lt (by omega) (pnt_lt (by omega) h2)
      exact ih s1 s' (fun m' hm' => hm m' (List.mem_cons_of_mem _ hm')) h40 key.1 key.2 h
    · cases h
theorem rdC_lt {w u q : Nat} {L : List Md} (h40 : w ≤ 40) (hL : ∀ m, m ∈ L → mdOk m) (h : rdC w u L = some q) : q < 2 ^ w := by
  unfold rdC rdE at h
  split at h
  · rename_i s hs
    split at h
    · rename_i he
      cases h
      have := (rdL_lt L _ s hL h40 (Nat.zero_le _) (Nat.two_pow_pos _) hs).2
      rw [he] at this
      exact this
    · cases h
  · cases h
theorem zRead_lt {P : Pg} (h : wfP P) {l : Nat} (hl : l < PL P) {s : Sn} {q : Nat} (hq : zRead P l s = some q) : q < 2 ^ Pw P := by
  unfold zRead at hq
  split at hq
  · cases hq; exact h.2.2.2.1 l hl
  · exact rdC_lt h.2.1 (cod_ok h.2.1) hq
theorem zOk_0 {P : Pg} (h : wfP P) : zOk P zO 0 := by
  have := h.2.2.1
  have := h.2.2.2.2.2.2.2.2.1
  refine ⟨Nat.zero_le _, Nat.zero_le _, ?_, Nat.zero_le _, fun _ => Nat.zero_le _, fun i hi => by omega⟩
  show 0 + ((Pt P 3 - 0) * 21 + (PL P - 0)) ≤ 300
  omega
theorem updN_le {f : Nat → Nat} {k v b : Nat} (h : ∀ i, f i ≤ b) (hv : v ≤ b) (i : Nat) : updN f k v i ≤ b := by
  unfold updN; split
  · exact hv
  · exact h i
theorem zFail_ok {P : Pg} (h : wfP P) {lo : Nat → Nat} {s : Sn} {l how : Nat} (hl : l < PL P) (hs : zOk P s l) : zOk P (zFail P l how (zPut P l s)).1 (zFail P l how (zPut P l s)).2 ∧ zMu P (zFail P l how (zPut P l s)).1 (zFail P l how (zPut P l s)).2 < zMu P s l := by
  have hb := sBt_le h l
  have hh := h.2.2.2.2.2.2.2.2.2.1
  have ha := h.2.2.2.2.2.2.2.2.2.2
  have h20 := h.2.2.1
  have hm := mkU_le P l
  obtain ⟨h1, h2, h3, h4, h5, h6⟩ := hs
  have hz : zP (zPut P l s) = zP s := rfl
  have hc : zCost P l ≤ 878 := by unfold zCost; omega
  unfold zMu at h3
  unfold zFail
  rw [hz]
  by_cases q : zP s < Pt P 3
  · rw [if_pos q]
    have e : (Pt P 3 - zP s) * 21 = (Pt P 3 - (zP s + 1)) * 21 + 21 := by omega
    have mu : zMu P (zStep P l (zMiss how (zPut P l s))) (mkU P l) < zMu P s l := by
      show (Pt P 3 - (zP s + 1)) * 21 + (PL P - mkU P l) < (Pt P 3 - zP s) * 21 + (PL P - l)
      omega
    refine ⟨⟨?_, ?_, ?_, ?_, ?_, ?_⟩, mu⟩
    · show zP s + 1 ≤ _; omega
    · show mkU P l ≤ _; omega
    · show zD s + 1 + _ ≤ 300
      have : zMu P s l = (Pt P 3 - zP s) * 21 + (PL P - l) := rfl
      show zD s + 1 + zMu P (zStep P l (zMiss how (zPut P l s))) (mkU P l) ≤ 300
      omega
    · show zA s + zCost P l + Pt P 5 ≤ 1000 * (zD s + 1) + 99 * (zP s + 1); omega
    · show ∀ i, updN (zT s) l (zT s l + 1) i ≤ zD s + 1
      exact updN_le (fun i => by have := h5 i; omega) (by have := h5 l; omega)
    · intro i hi
      have hi : i < mkU P l := hi
      exact h6 i (by omega)
  · rw [if_neg q]
    have mu : zMu P (zFill P l how (zMiss how (zPut P l s))) (l + 1) < zMu P s l := by
      show (Pt P 3 - zP s) * 21 + (PL P - (l + 1)) < (Pt P 3 - zP s) * 21 + (PL P - l)
      omega
    refine ⟨⟨?_, ?_, ?_, ?_, ?_, ?_⟩, mu⟩
    · exact h1
    · show l + 1 ≤ _; omega
    · have : zMu P s l = (Pt P 3 - zP s) * 21 + (PL P - l) := rfl
      show zD s + 1 + zMu P (zFill P l how (zMiss how (zPut P l s))) (l + 1) ≤ 300
      omega
    · show zA s + zCost P l ≤ 1000 * (zD s + 1) + 99 * zP s; omega
    · show ∀ i, updN (zT s) l (zT s l + 1) i ≤ zD s + 1
      exact updN_le (fun i => by have := h5 i; omega) (by have := h5 l; omega)
    · intro i hi
      have hi : i < l + 1 := hi
      show updN (zG s) l (if Pt P 2 = 1 then 0 else rowAb (zMiss how (zPut P l s)) l) i < 2 ^ Pw P
      by_cases e : i = l
      · subst e; rw [updN_s]
        split
        · exact Nat.two_pow_pos _
        · show (if i = 0 then 0 else zG s (i - 1)) < _
          split
          · exact Nat.two_pow_pos _
          · exact h6 _ (by omega)
      · rw [updN_n e]; exact h6 i (by omega)
theorem snd1_ok {P : Pg} (h : wfP P) {lo : Nat → Nat} {s : Sn} {l : Nat} (hl : l < PL P) (hs : zOk P s l) : zOk P (snd1 P lo s l).1 (snd1 P lo s l).2 ∧ zMu P (snd1 P lo s l).1 (snd1 P lo s l).2 < zMu P s l := by
  unfold snd1
  split
  · exact zFail_ok (lo := lo) h hl hs
  · split
    · rename_i q hq
      have hb := sBt_le h l
      have hh := h.2.2.2.2.2.2.2.2.2.1
      obtain ⟨h1, h2, h3, h4, h5, h6⟩ := hs
      have hc : zCost P l ≤ 878 := by unfold zCost; omega
      have mu : zMu P (zGot P l q (zPut P l s)) (l + 1) < zMu P s l := by
        show (Pt P 3 - zP s) * 21 + (PL P - (l + 1)) < (Pt P 3 - zP s) * 21 + (PL P - l)
        omega
      refine ⟨⟨h1, ?_, ?_, ?_, ?_, ?_⟩, mu⟩
      · show l + 1 ≤ _; omega
      · show zD s + 1 + zMu P (zGot P l q (zPut P l s)) (l + 1) ≤ 300
        omega
      · show zA s + zCost P l ≤ 1000 * (zD s + 1) + 99 * zP s; omega
      · show ∀ i, updN (zT s) l (zT s l + 1) i ≤ zD s + 1
        exact updN_le (fun i => by have := h5 i; omega) (by have := h5 l; omega)
      · intro i hi
        have hi : i < l + 1 := hi
        show updN (zG s) l q i < 2 ^ Pw P
        by_cases e : i = l
        · subst e; rw [updN_s]; exact zRead_lt h hl hq
        · rw [updN_n e]; exact h6 i (by omega)
    · exact zFail_ok (lo := lo) h hl hs
theorem sndN_en {P : Pg} (h : wfP P) (lo : Nat → Nat) : ∀ (n m : Nat) (s : Sn) (l : Nat), zOk P s l → zMu P s l < n → zMu P s l < m → sndN P lo n s l = sndN P lo m s l := by
  intro n
  induction n with
  | zero => intro m s l _ hn; omega
  | succ n ih =>
    intro m s l hs hn hm
    obtain ⟨m, rfl⟩ : ∃ k, m = k + 1 := ⟨m - 1, by omega⟩
    unfold sndN
    by_cases hl : l < PL P
    · rw [if_pos hl, if_pos hl]
      have k := snd1_ok (lo := lo) h hl hs
      exact ih m _ _ k.1 (by omega) (by omega)
    · rw [if_neg hl, if_neg hl]
/-- what is left to send -/
def sndR (P : Pg) (lo : Nat → Nat) (s : Sn) (l : Nat) : Sn := sndN P lo 1000 s l
theorem zMu_le {P : Pg} {s : Sn} {l : Nat} (h : zOk P s l) : zMu P s l ≤ 300 := by have := h.2.2.1; omega
theorem sndR_s {P : Pg} (h : wfP P) (lo : Nat → Nat) {s : Sn} {l : Nat} (hs : zOk P s l) (hl : l < PL P) : sndR P lo s l = sndR P lo (snd1 P lo s l).1 (snd1 P lo s l).2 := by
  have k := snd1_ok (lo := lo) h hl hs
  have m1 := zMu_le hs
  have m2 := zMu_le k.1
  unfold sndR
  rw [sndN_en h lo 1000 1001 s l hs (by omega) (by omega)]
  show (if l < PL P then sndN P lo 1000 (snd1 P lo s l).1 (snd1 P lo s l).2 else s) = _
  rw [if_pos hl]
theorem sndR_e {P : Pg} (lo : Nat → Nat) {s : Sn} {l : Nat} (hl : ¬ l < PL P) : sndR P lo s l = s := by
  unfold sndR
  show (if l < PL P then sndN P lo 999 (snd1 P lo s l).1 (snd1 P lo s l).2 else s) = _
  rw [if_neg hl]
/-! what is told of a sending -/
def zWr (P : Pg) (s : Sn) (l : Nat) : Nat := dif (Pw P) (zG s l) (Pr P l)
def zWs (P : Pg) (s : Sn) : Nat := sm (fun l => zWr P s l) (PL P)
def sentV (P : Pg) (s : Sn) (k : Nat) : Nat := if k = 0 then zA s else if k = 1 then zD s else if k = 2 then zP s else if k = 7 then zWs P s else if k = 8 then zL s else if k = 9 then zU s else sm (fun l => bN (decide (zS s l = k - 3))) (PL P)
def spSent (P : Pg) (x : Int32) : Rs := if isLn 10 x = true then .inr (nI (sentV P (sndA P (Ps P)) (ix x))) else .inl 1
def sentLV (P : Pg) (s : Sn) (l k : Nat) : Nat := if k = 0 then zS s l else if k = 1 then zT s l else if k = 2 then zC s l else if k = 3 then zWr P s l else zK s l
def spSentLine (P : Pg) (x y : Int32) : Rs := if isLn (PL P) x = true then (if isLn 5 y = true then .inr (nI (sentLV P (sndA P (Ps P)) (ix x) (ix y))) else .inl 2) else .inl 1
def spReceived (P : Pg) (x y : Int32) : Rs := if isLn (PL P) x = true ∧ isLn (Pw P) y = true then .inr (nI (bN ((zG (sndA P (Ps P)) (ix x)).testBit (ix y)))) else .inl 1
def loOne (l : Nat) : Nat → Nat := fun i => if i = l then 1 else 0
/-- the page sent with one line lost, and no steps back -/
def sndH (P : Pg) (l : Nat) : Sn := sndA (pSet P 3 0) (loOne l)
def lastW (P : Pg) (s : Sn) : Nat → Int32
  | 0 => -1
  | n + 1 => if 0 < zWr P s n then nI n else lastW P s n
def spHarm (P : Pg) (x y : Int32) : Rs := if isLn (PL P) x = true then (if isLn 3 y = true then .inr (if y = nI 0 then nI (sm (fun l => bN (decide (0 < zWr P (sndH P (ix x)) l))) (PL P)) else if y = nI 1 then nI (zWs P (sndH P (ix x))) else lastW P (sndH P (ix x)) (PL P)) else .inl 2) else .inl 1
/-- the worst line so far: its number + 1 (0: none), and what it harms -/
def wrst (P : Pg) : Nat → Nat × Nat
  | 0 => (0, 0)
  | n + 1 => if (wrst P n).1 = 0 ∨ (wrst P n).2 < zWs P (sndH P n) then (n + 1, zWs P (sndH P n)) else wrst P n
def spWorst (P : Pg) : Int32 := pl (wrst P (PL P)).1
def bEv (P : Pg) : Nat → Nat × Nat × Nat
  | 0 => (0, 0, 0)
  | n + 1 => if (bEv P n).1 = 0 ∨ zWs P (sndA (pSet P 0 (n + 1)) (Ps P)) < (bEv P n).2.1 ∨ (zWs P (sndA (pSet P 0 (n + 1)) (Ps P)) = (bEv P n).2.1 ∧ zA (sndA (pSet P 0 (n + 1)) (Ps P)) < (bEv P n).2.2) then (n + 1, zWs P (sndA (pSet P 0 (n + 1)) (Ps P)), zA (sndA (pSet P 0 (n + 1)) (Ps P))) else bEv P n
def spBest (P : Pg) : Int32 := nI (bEv P 8).1
def nStp (P : Pg) : Nat → Nat → Int32
  | 0, _ => -1
  | n + 1, k => if zWs P (sndA (pSet P 3 k) (Ps P)) = 0 then nI k else nStp P n (k + 1)
def spSteps (P : Pg) : Int32 := nStp P 10 0

