/-! THE CLASS: words -/
theorem sb_in {i : Nat} (h : i < 11) : sbB (SB + i) = true := by unfold sbB; simp; omega
theorem fLen {i : Nat} (h : i < 11) {M : Mm} {Q : Int32 → Mm → Prop} : Rn (fJ0_length_8abf5 (SB + i)) M Q ↔ Q (nI (sW.getD i []).length) M := by
  refine Rn_det ?_
  unfold fJ0_length_8abf5 fJ0_coder_7d493
  rw [Rn_grd, Rn_grd, Rn_grd, Rn_bnd, if_neg (by decide), Rn_grd, Rn_grd, Rn_rtn, Rn_rtn]
  refine ⟨sb_in h, sb_in h, sb_in h, sb_in h, by decide, ?_, rfl⟩
  unfold stN
  rw [SB_mod (by omega)]
  have : ∀ i, i < 11 → Int32.ofNat (sW.getD i []).length >>> ((0 : Int32) &&& 31) = nI (sW.getD i []).length := by decide
  exact this i h
theorem fChar {i j : Nat} (h : i < 11) (hj : j < (sW.getD i []).length) {M : Mm} {Q : Int32 → Mm → Prop} : Rn (fJ0_charAt_5068e (SB + i) (nI j)) M Q ↔ Q ((sW.getD i []).getD j 0) M := by
  refine Rn_det ?_
  have hl : ∀ i, i < 11 → (sW.getD i []).length < 10 := by decide
  have hl := hl i h
  have key : ∀ i, i < 11 → ∀ j, j < (sW.getD i []).length → i2c ((sW.getD i []).getD j 0 &&& 255) = (sW.getD i []).getD j 0 ∧ nCh ((sW.getD i []).getD j 0) = true := by decide
  obtain ⟨k1, k2⟩ := key i h j hj
  have e1 : stC (SB + i) (nI j) = (sW.getD i []).getD j 0 := by unfold stC; rw [SB_mod (by omega), nI_clamp (by omega)]
  have e2 : stN (SB + i) = nI (sW.getD i []).length := by unfold stN; rw [SB_mod (by omega)]; rfl
  unfold fJ0_charAt_5068e fJ0_isLatin1_aae02 fJ1_charAt_3b067 fJ0_checkIndex_df160 fJ3_checkIndex_8e157
  rw [Rn_grd, Rn_bnd, if_neg (by decide), Rn_grd, if_pos (by decide), Rn_grd, Rn_rtn, if_neg (by decide), Rn_grd, Rn_bnd, Rn_grd, Rn_bnd, Rn_bnd, e2, if_neg (nI_pos (by omega)), if_pos ((nlt (by omega) (by omega)).mpr hj), Rn_rtn, Rn_rtn, Rn_grd, Rn_grd, e1, k1, Rn_rtn, Rn_grd, Rn_rtn]
  refine ⟨sb_in h, sb_in h, by decide, sb_in h, sb_in h, ?_, k2, k2, rfl, rfl⟩
  rw [SB_mod (by omega), vpB_nI (by omega), sb_in h]
  simpa using hj
theorem sl_eq {x : Tx} {s n : Nat} {L : List Nat} : sl x s n = L ↔ n = L.length ∧ ∀ j, j < n → x.1 (s + j) = L.getD j 0 := by
  unfold sl
  constructor
  · rintro rfl
    refine ⟨by simp, fun j hj => ?_⟩
    rw [List.getD_eq_getElem?_getD, List.getElem?_map, List.getElem?_range hj]; rfl
  · rintro ⟨rfl, h⟩
    apply List.ext_getElem
    · simp
    · intro j h1 h2
      have hj : j < L.length := h2
      rw [List.getElem_map, List.getElem_range, h j hj, List.getD_eq_getElem?_getD, List.getElem?_eq_getElem hj]; rfl
theorem map_at (L : List Nat) {j : Nat} (h : j < L.length) : (L.map nI).getD j 0 = nI (L.getD j 0) := by
  rw [List.getD_eq_getElem?_getD, List.getElem?_map, List.getD_eq_getElem?_getD, List.getElem?_eq_getElem h]; rfl
section CWord
variable {M : Mm} {x : Tx}
theorem cIsWord (hM : CO M) (hx : isTx M x) {p : Nat} (hk : isTk M x p) {i w : Nat} (hi : i < 11) (hw : sW.getD i [] = (wds.getD w []).map nI) (hs : ∀ j, j < (wds.getD w []).length → (wds.getD w []).getD j 0 < 256) {Q : Int32 → Mm → Prop} : Rn (fX6_isWord 9 (SB + i)) M Q ↔ Q (nI (bN (wdIs x p w))) M := by
  refine Rn_det ?_
  have h9 := hx.2.1
  have kl : tkK x p ≤ 6 := srt_le _
  have hl : ∀ i, i < 11 → (sW.getD i []).length < 10 := by decide
  have hl := hl i hi
  have len : (sW.getD i []).length = (wds.getD w []).length := by rw [hw, List.length_map]
  unfold fX6_isWord wdIs
  rw [Rn_bnd, Rn_gI, hk.1]
  refine Rn_cs (show nI (tkK x p) = 1 ↔ tkK x p = 1 from neq (b := 1) (by omega) (by omega)) (fun g => ?_) (fun g => ?_)
  · have el := tkE_le hx.2.2.2 p
    have eg := tkE_gt hx.2.2.2 (p := p) (by omega)
    rw [Rn_bnd, Rn_gI, hk.2.2, Rn_bnd, Rn_gI, hk.2.1, nsb (by omega), Rn_grd]
    refine ⟨sb_in hi, ?_⟩
    rw [Rn_bnd, fLen hi]
    refine Rn_cs (neq (by omega) (by omega)) (fun g1 => ?_) (fun g1 => ?_)
    · refine rn_loopv (F := fun n j => fX6_isWord_L28 n 9 (SB + i) (nI j)) (fun j M' => M' = M ∧ j ≤ (sW.getD i []).length ∧ ∀ k, k < j → x.1 (tkS x p + k) = (wds.getD w []).getD k 0) (fun j => (sW.getD i []).length - j) ?_ fu 0 M (by unfold fu; omega) ⟨rfl, Nat.zero_le _, fun k hk => by omega⟩
      rintro n j M1 ⟨rfl, hj, hall⟩ ih
      show Rn (fX6_isWord_L28 (n + 1) 9 (SB + i) (nI j)) M1 _
      unfold fX6_isWord_L28
      rw [Rn_grd]
      refine ⟨sb_in hi, ?_⟩
      rw [Rn_bnd, fLen hi]
      refine Rn_cs (nle (by omega) (by omega)) (fun q => ?_) (fun q => ?_)
      · rw [Rn_grd, Rn_rtn]
        have : sl x (tkS x p) (tkE x p - tkS x p) = wds.getD w [] := sl_eq.mpr ⟨by omega, fun k hk => hall k (by omega)⟩
        refine ⟨by decide, ?_, rfl⟩
        rw [decide_eq_true g, decide_eq_true this]; rfl
      · have hlt : tkS x p + j < x.2 := by omega
        have hb := hx.2.2.2 _ hlt
        have eb : bI (bAt x (tkS x p + j)) = nI (x.1 (tkS x p + j)) := by unfold bI bAt; rw [if_pos hlt, if_neg (by omega)]
        have hj' : j < (wds.getD w []).length := by omega
        have ec : (sW.getD i []).getD j 0 = nI ((wds.getD w []).getD j 0) := by
          rw [hw]; exact map_at _ hj'
        have hs' := hs j hj'
        rw [Rn_bnd, Rn_gI, hk.2.1, Rn_bnd, nI_add, cByteAt hM hx (by omega), eb, Rn_grd]
        refine ⟨sb_in hi, ?_⟩
        rw [Rn_bnd, fChar hi (by omega), ec]
        refine Rn_cs (neq (by omega) (by omega)) (fun q1 => ?_) (fun q1 => ?_)
        · rw [nL1, nI_add]
          refine ih (j + 1) M1 ⟨rfl, by omega, fun k hk => ?_⟩ (by omega)
          by_cases z : k = j
          · rw [z]; exact q1
          · exact hall k (by omega)
        · rw [Rn_grd, Rn_rtn]
          have : ¬ sl x (tkS x p) (tkE x p - tkS x p) = wds.getD w [] := fun z => q1 ((sl_eq.mp z).2 j (by omega))
          refine ⟨by decide, ?_, rfl⟩
          rw [decide_eq_false this, Bool.and_false]; rfl
    · rw [Rn_grd, Rn_rtn]
      have : ¬ sl x (tkS x p) (tkE x p - tkS x p) = wds.getD w [] := fun z => g1 (by have := (sl_eq.mp z).1; omega)
      refine ⟨by decide, ?_, rfl⟩
      rw [decide_eq_false this, Bool.and_false]; rfl
  · rw [Rn_grd, Rn_rtn]
    refine ⟨by decide, ?_, rfl⟩
    rw [decide_eq_false g]; rfl
/-- the words by their constants -/
theorem cWord (hM : CO M) (hx : isTx M x) {p : Nat} (hk : isTk M x p) {i w : Nat} (h : (i, w) ∈ [(0, 5), (1, 3), (2, 4), (3, 0), (4, 1), (5, 2), (6, 6), (7, 7), (8, 8)]) {Q : Int32 → Mm → Prop} : Rn (fX6_isWord 9 (SB + i)) M Q ↔ Q (nI (bN (wdIs x p w))) M := by
  have key : ∀ q ∈ [(0, 5), (1, 3), (2, 4), (3, 0), (4, 1), (5, 2), (6, 6), (7, 7), (8, 8)], q.1 < 11 ∧ sW.getD q.1 [] = (wds.getD q.2 []).map nI ∧ ∀ j, j < (wds.getD q.2 []).length → (wds.getD q.2 []).getD j 0 < 256 := by decide
  obtain ⟨a, b, c⟩ := key (i, w) h
  exact cIsWord hM hx hk a b c
end CWord

