/-! THE CLASS IS ASKED OF ITS SENDING -/
section IS
variable {M : Mm} {p : Nat} {P : Pg} {b : Nat → Nat} {hs hl h a : Nat} {R : List Nat} {c s : Nat} {nU : Hq}
theorem sentQ (P : Pg) {k : Nat} (hk : k < 10) : spSent P (nI k) = .inr (nI (sentV P (sndA P (Ps P)) k)) := by
  unfold spSent
  rw [isLn_n (by omega) hk, if_pos rfl, ix_n (by omega)]
theorem sentLQ (P : Pg) {l k : Nat} (hl : l < PL P) (h7 : PL P ≤ 7) (hk : k < 5) : spSentLine P (nI l) (nI k) = .inr (nI (sentLV P (sndA P (Ps P)) l k)) := by
  unfold spSentLine
  rw [isLn_n (by omega) hl, if_pos rfl, isLn_n (by omega) hk, if_pos rfl, ix_n (by omega), ix_n (by omega)]
theorem recQ (P : Pg) {l k : Nat} (hl : l < PL P) (h7 : PL P ≤ 7) (hw : Pw P ≤ 27) (hk : k < Pw P) : spReceived P (nI l) (nI k) = .inr (nI (bN ((zG (sndA P (Ps P)) l).testBit k))) := by
  unfold spReceived
  rw [if_pos ⟨isLn_n (by omega) hl, isLn_n (by omega) hk⟩, ix_n (by omega), ix_n (by omega)]
end IS
