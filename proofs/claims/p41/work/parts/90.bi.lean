/-! BITS OF RUNS AND MODES -/
theorem lBitsOf (x : Int32) {M : Mm} {c s : Nat} {Q : Int32 → Mm → Nat → Nat → Prop} : Rw (gL_bitsOf x) M c s Q ↔ Q (nI (nbI x)) M c s := by
  refine Rw_det ?_
  unfold gL_bitsOf nbI
  by_cases h : (8 : Int32) ≤ x
  · refine Rw_yes h ?_
    rw [Rw_wr, if_pos h]; exact ⟨rfl, rfl, rfl, rfl⟩
  · refine Rw_no h ?_
    rw [Rw_wr, if_neg h]; exact ⟨rfl, rfl, rfl, rfl⟩
theorem nS_tk (L : List Nat) : ∀ (i : Nat) (y : Nat), L[i]? = some y → nS (L.take (i + 1)) = nS (L.take i) + nb y := by
  induction L with
  | nil => intro i y h; simp at h
  | cons a t ih =>
    intro i y h
    cases i with
    | zero =>
      have : a = y := by simpa using h
      subst this
      show nb a + nS (t.take 0) = 0 + nb a
      rw [List.take_zero]; show nb a + 0 = _; omega
    | succ i =>
      have h : t[i]? = some y := by simpa using h
      show nb a + nS (t.take (i + 1)) = nb a + nS (t.take i) + nb y
      rw [ih i y h]; omega
theorem mS_tk (L : List Md) : ∀ (i : Nat) (y : Md), L[i]? = some y → mS (L.take (i + 1)) = mS (L.take i) + mB y := by
  induction L with
  | nil => intro i y h; simp at h
  | cons a t ih =>
    intro i y h
    cases i with
    | zero =>
      have : a = y := by simpa using h
      subst this
      show mB a + mS (t.take 0) = 0 + mB a
      rw [List.take_zero]; show mB a + 0 = _; omega
    | succ i =>
      have h : t[i]? = some y := by simpa using h
      show mB a + mS (t.take (i + 1)) = mB a + mS (t.take i) + mB y
      rw [ih i y h]; omega
theorem gt_some {α : Type} (L : List α) {i : Nat} (h : i < L.length) : ∃ y, L[i]? = some y := ⟨L[i], List.getElem?_eq_getElem h⟩
theorem lBits {M : Mm} {N h : Nat} {L : List Nat} (l : isRl M N h L) (hL : ∀ y, y ∈ L → y < 128) (hlen : L.length ≤ 33) {c s : Nat} (hp : Pl M c) (hc : c ≤ 900000000) : Rw (gL_bits h) M c s (fun v M' c' s' => v = nI (nS L) ∧ Gx xO (Mn M) M M' ∧ Cs M c s M' c' s' 1 4 ∧ Pl M' c') := by
  have hm := hp.1
  obtain ⟨a, l0, h1, h2⟩ := l
  unfold gL_bits
  rw [Rw_wq]
  refine (itNew l0.1 (by omega)).mono ?_
  rintro it M1 c1 s1 ⟨rfl, n1, rfl, rfl, g1, it1⟩
  have p1 : Pl M1 (c + 1) := hp.go g1 (by omega)
  have l1 : isL M1 h a (L.map bx) := l0.gx g1 l0.1 rfl (fun z => ⟨l0.lt z, rfl⟩)
  have hEn : EB = 1000000500 := EB_v
  refine rw_loopv (F := fun n (i : Nat) => gL_bits_L7 n (nI (nS (L.take i))) (Mn M)) (fun i M' c' s' => i ≤ L.length ∧ Gx (x1 (Mn M)) (Mn M1) M1 M' ∧ Mn M' = Mn M1 ∧ isIt M' (Mn M) h i ∧ c' = c + 1 ∧ s' = s + 4) (fun i => L.length - i) ?_ fu 0 M1 (c + 1) (s + 4) (by unfold fu; omega) ⟨Nat.zero_le _, Gx.rf, rfl, it1, rfl, rfl⟩
  rintro n i M2 c2 s2 ⟨hi, g2, n2, it2, rfl, rfl⟩ ih
  have hlt := l0.1
  have l2 : isL M2 h a (L.map bx) := l1.gx g2 (by omega) (x1_f (by omega)) (fun z => ⟨by have := l0.lt z; omega, x1_f (by have := l0.lt z; omega)⟩)
  show Rw (gL_bits_L7 (n + 1) (nI (nS (L.take i))) (Mn M)) _ _ _ _
  unfold gL_bits_L7
  rw [Rw_wq]
  by_cases hf : i < L.length
  · obtain ⟨y, hy⟩ := gt_some L hf
    have hy' := hL y (List.mem_of_getElem? hy)
    rw [itMore it2 l2 (by rw [List.length_map]; exact hf)]
    refine Rw_no (by decide) ?_
    rw [Rw_wq]
    refine itNext it2 l2 (mp_at hy) (by omega) (fun M3 g3 n3 it3 => ?_)
    rw [Rw_wb, bCk hy', Rw_wq, bInt hy', Rw_wq, lBitsOf, Rw_wb, Rn_rtn, nI_add]
    have e : nS (L.take i) + nbI (nI y) = nS (L.take (i + 1)) := (nS_tk L i y hy).symm
    rw [e]
    exact ih (i + 1) M3 _ _ ⟨hf, g2.tr (g3.mono (by omega) (fun _ _ z => z)), by omega, it3, rfl, rfl⟩ (by omega)
  · have : i = L.length := by omega
    rw [itEnd it2 l2 (by rw [List.length_map]; exact this)]
    refine Rw_yes rfl ?_
    rw [Rw_wr, this, List.take_length]
    exact ⟨rfl, g1.tr (g2.mono (by omega) (fun q hq _ => x1_f (by omega))), ⟨by omega, by omega, by omega, by omega⟩, p1.go g2 (by omega)⟩
theorem i0sub (x : Int32) : 0 - x = -x := Int32.zero_sub x
theorem lModeB {M : Mm} {h : Nat} {m : Md} (hm : isMd M h m) {c s : Nat} {Q : Int32 → Mm → Nat → Nat → Prop} : Rw (gX8_bits h) M c s Q ↔ Q (nI (mB m)) M c s := by
  obtain ⟨-, -, m1, m2, m3, m4⟩ := hm
  refine Rw_det ?_
  unfold gX8_bits
  rw [Rw_wb, Rn_gI, m1]
  unfold mB
  by_cases h0 : m.1 = nI 0
  · refine Rw_yes h0 ?_
    rw [Rw_wr, if_pos h0]; exact ⟨rfl, rfl, rfl, rfl⟩
  · refine Rw_no h0 ?_
    rw [if_neg h0, Rw_wb, Rn_gI, m1]
    by_cases h2 : m.1 = nI 2
    · refine Rw_yes h2 ?_
      rw [if_pos h2, Rw_wb, Rn_gI, m2, Rw_wq, lBitsOf, Rw_wb, Rn_gI, m3, Rw_wq, lBitsOf, Rw_wr, show (3 : Int32) = nI 3 from rfl, nI_add, nI_add]
      exact ⟨rfl, rfl, rfl, rfl⟩
    · refine Rw_no h2 ?_
      rw [if_neg h2, Rw_wb, Rn_gI, m2]
      have e : mabs m.2.1 = if 0 ≤ m.2.1 then m.2.1 else -m.2.1 := by unfold mabs; rw [i0sub]
      rw [e]
      generalize (if 0 ≤ m.2.1 then m.2.1 else -m.2.1) = v
      by_cases v0 : v = nI 0
      · rw [if_pos v0]
        refine Rw_yes v0 ?_
        rw [Rw_wr]; exact ⟨rfl, rfl, rfl, rfl⟩
      · rw [if_neg v0]
        refine Rw_no v0 ?_
        by_cases v1 : v = nI 1
        · rw [if_pos v1]
          refine Rw_yes v1 ?_
          rw [Rw_wr]; exact ⟨rfl, rfl, rfl, rfl⟩
        · rw [if_neg v1]
          refine Rw_no v1 ?_
          by_cases v2 : v = nI 2
          · rw [if_pos v2]
            refine Rw_yes v2 ?_
            rw [Rw_wr]; exact ⟨rfl, rfl, rfl, rfl⟩
          · rw [if_neg v2]
            refine Rw_no v2 ?_
            rw [Rw_wr]; exact ⟨rfl, rfl, rfl, rfl⟩
/-- a list of modes, read in its order: what stays while one walks over it -/
theorem isCl.at {M : Mm} {N h : Nat} {L : List Md} (l : isCl M N h L) {i : Nat} {m : Md} (hm : L[i]? = some m) : ∃ a hs x, isL M h a hs ∧ hs.length = L.length ∧ hs[i]? = some x ∧ isMd M x m ∧ N ≤ x := by
  obtain ⟨a, hs, l0, h1, h2, h3, h4⟩ := l
  have hi := (List.getElem?_eq_some_iff.mp hm).1
  obtain ⟨x, hx⟩ := gt_some hs (show i < hs.length by omega)
  obtain ⟨d1, d2⟩ := h4 i x m hx hm
  exact ⟨a, hs, x, l0, h3, hx, d1, d2⟩
theorem isCl.lt {M : Mm} {N h : Nat} {L : List Md} (l : isCl M N h L) : h < Mn M ∧ L.length ≤ 33 ∧ N ≤ h := by
  obtain ⟨a, hs, l0, h1, h2, h3, h4⟩ := l
  exact ⟨l0.1, by rw [← h3]; exact l0.len, h2⟩
theorem lModeBits {M : Mm} {N h : Nat} {L : List Md} (l : isCl M N h L) {c s : Nat} (hp : Pl M c) (hc : c ≤ 900000000) : Rw (gL_modeBits h) M c s (fun v M' c' s' => v = nI (mS L) ∧ Gx xO (Mn M) M M' ∧ Cs M c s M' c' s' 1 4 ∧ Pl M' c') := by
  have hm := hp.1
  obtain ⟨a, hs, l0, h1, h2, h3, h4⟩ := l
  have hlen := l0.len
  have hlt := l0.1
  unfold gL_modeBits
  rw [Rw_wq]
  refine (itNew hlt (by omega)).mono ?_
  rintro it M1 c1 s1 ⟨rfl, n1, rfl, rfl, g1, it1⟩
  have p1 : Pl M1 (c + 1) := hp.go g1 (by omega)
  have l1 : isL M1 h a hs := l0.gx g1 l0.1 rfl (fun z => ⟨l0.lt z, rfl⟩)
  refine rw_loopv (F := fun n (i : Nat) => gL_modeBits_L7 n (nI (mS (L.take i))) (Mn M)) (fun i M' c' s' => i ≤ L.length ∧ Gx (x1 (Mn M)) (Mn M1) M1 M' ∧ Mn M' = Mn M1 ∧ isIt M' (Mn M) h i ∧ c' = c + 1 ∧ s' = s + 4) (fun i => L.length - i) ?_ fu 0 M1 (c + 1) (s + 4) (by unfold fu; omega) ⟨Nat.zero_le _, Gx.rf, rfl, it1, rfl, rfl⟩
  rintro n i M2 c2 s2 ⟨hi, g2, n2, it2, rfl, rfl⟩ ih
  have l2 : isL M2 h a hs := l1.gx g2 (by omega) (x1_f (by omega)) (fun z => ⟨by have := l0.lt z; omega, x1_f (by have := l0.lt z; omega)⟩)
  show Rw (gL_modeBits_L7 (n + 1) (nI (mS (L.take i))) (Mn M)) _ _ _ _
  unfold gL_modeBits_L7
  rw [Rw_wq]
  by_cases hf : i < L.length
  · obtain ⟨y, hy⟩ := gt_some L hf
    obtain ⟨x, hx⟩ := gt_some hs (show i < hs.length by omega)
    obtain ⟨d0, -⟩ := h4 i x y hx hy
    have hxm := d0.1
    have d2 : isMd M2 x y := (d0.gx g1 hxm rfl).gx g2 (by omega) (x1_f (by omega))
    rw [itMore it2 l2 (by omega)]
    refine Rw_no (by decide) ?_
    rw [Rw_wq]
    refine itNext it2 l2 hx (by omega) (fun M3 g3 n3 it3 => ?_)
    have d3 : isMd M3 x y := d2.gx g3 d2.1 (x1_f (by omega))
    rw [Rw_wb, Rn_ckK d3.1 d3.2.1, Rw_wq, lModeB d3, Rw_wb, Rn_rtn, nI_add, ← mS_tk L i y hy]
    exact ih (i + 1) M3 _ _ ⟨hf, g2.tr (g3.mono (by omega) (fun _ _ z => z)), by omega, it3, rfl, rfl⟩ (by omega)
  · have : i = L.length := by omega
    rw [itEnd it2 l2 (by omega)]
    refine Rw_yes rfl ?_
    rw [Rw_wr, this, List.take_length]
    exact ⟨rfl, g1.tr (g2.mono (by omega) (fun q hq _ => x1_f (by omega))), ⟨by omega, by omega, by omega, by omega⟩, p1.go g2 (by omega)⟩
