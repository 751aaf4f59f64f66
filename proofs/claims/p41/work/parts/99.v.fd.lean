/-! A TEXT IS GIVEN TO THE CLASS -/
theorem or8 {N y : Nat} (hN : N < 8388608) (hy : y < 256) : (nI N <<< ((8 : Int32) &&& 31)) ||| nI y = nI (N * 256 + y) := by
  have e8 : ((8 : Int32) &&& 31) = 8 := by decide
  have es : ((8 : Int32).toBitVec.smod 32) = BitVec.ofNat 32 8 := by decide
  have eb : ∀ n, (nI n).toBitVec = BitVec.ofNat 32 n := fun _ => rfl
  rw [e8]
  apply Int32.toBitVec_inj.mp
  rw [Int32.toBitVec_or, Int32.toBitVec_shiftLeft, es, eb, eb, eb]
  apply BitVec.eq_of_toNat_eq
  rw [BitVec.toNat_or, BitVec.shiftLeft_eq', BitVec.toNat_shiftLeft, BitVec.toNat_ofNat, BitVec.toNat_ofNat, BitVec.toNat_ofNat, BitVec.toNat_ofNat, Nat.mod_eq_of_lt (show N < 2 ^ 32 by omega), Nat.mod_eq_of_lt (show y < 2 ^ 32 by omega), Nat.mod_eq_of_lt (show 8 < 2 ^ 32 by omega), Nat.mod_eq_of_lt (show N * 256 + y < 2 ^ 32 by omega)]
  have e1 : N <<< 8 = N * 256 := by rw [Nat.shiftLeft_eq]
  rw [e1, Nat.mod_eq_of_lt (show N * 256 < 2 ^ 32 by omega), ← e1]
  exact (Nat.shiftLeft_add_eq_or_of_lt (show y < 2 ^ 8 by omega) N).symm
theorem lowB_n {N : Nat} (h : N < 4294967296) : lowB (nI N) = N % 256 := by
  unfold lowB
  show (BitVec.ofNat 32 N).toNat % 256 = _
  rw [BitVec.toNat_ofNat, Nat.mod_eq_of_lt (show N < 2 ^ 32 by omega)]
theorem lowB_sh {N k : Nat} (h : N < 4294967296) (hk : k = 8 ∨ k = 16 ∨ k = 24) : lowB (iush (nI N) (nI k)) = N / 2 ^ k % 256 := by
  have hc : ((nI k).toUInt32 &&& Int32.toUInt32 31) = UInt32.ofNat k ∧ (UInt32.ofNat k).toNat % 32 = k := by
    rcases hk with rfl | rfl | rfl <;> decide
  unfold iush
  rw [hc.1]
  show ((nI N).toUInt32 >>> UInt32.ofNat k).toNat % 256 = _
  have h2 : (nI N).toUInt32.toNat = N := by
    show (BitVec.ofNat 32 N).toNat = N
    rw [BitVec.toNat_ofNat, Nat.mod_eq_of_lt (by omega)]
  rw [UInt32.toNat_shiftRight, h2, hc.2, Nat.shiftRight_eq_div_pow]
/-- the signs of a text; spaces behind it -/
def yB (xs : List Nat) (i : Nat) : Nat := if i < xs.length then xs.getD i 0 else 32
def wrd (xs : List Nat) (k : Nat) : Nat → Nat
  | 0 => 0
  | i + 1 => wrd xs k i * 256 + yB xs (k + i)
theorem xTx_K : ∀ a b, 38 ≤ a → xTx a b = false := fun a b h => by unfold xTx; simp; omega
section FD
variable {P : Pg} {U : List Pg} {V : Nat → Option Pg} {B : Nat × Nat} {xs : List Nat} {st v : Nat}
theorem yB_lt {M : Mm} (ks : isSr M st v xs) (i : Nat) : yB xs i < 128 := by
  unfold yB
  split
  · exact (ks.2.2 i (by assumption)).2
  · omega
def FS (M0 M : Mm) (P : Pg) (U : List Pg) (V : Nat → Option Pg) (B : Nat × Nat) (xs : List Nat) (st v : Nat) (f : Nat → Nat) (n : Nat) : Prop := CPg B M P U V ∧ isTx M (f, n) ∧ isSr M st v xs ∧ Gx xK (Mn M0) M0 M ∧ Mn M = Mn M0 ∧ Mr M = Mr M0
theorem FS.ask {M0 M M1 : Mm} {f g : Nat → Nat} {n m : Nat} (k : FS M0 M P U V B xs st v f n) (h1 : 38 ≤ st) (h2 : 38 ≤ v) (x : XF xTx M M1) (t : isTx M1 (g, m)) : FS M0 M1 P U V B xs st v g m := by
  obtain ⟨k1, k2, k3, k4, k5, k6⟩ := k
  have hb := k1.2.2.2.1.b
  have gg : Gx xK (Mn M) M M1 := x.gk xTx_K _
  refine ⟨k1.xf x (fun a b z => by unfold xTx; simp; omega), t, k3.gx gg k3.1.1 (xK_f h1) k3.2.1.1 (xK_f h2), k4.tr (gg.mono (by omega) (fun _ _ z => z)), by rw [x.mn]; exact k5, by rw [x.mr]; exact k6⟩
theorem lFeed {M : Mm} {c s : Nat} {f : Nat → Nat} {n : Nat} (k : FS M M P U V B xs st v f n) (h1 : 38 ≤ st) (h2 : 38 ≤ v) (hl : xs.length ≤ 800) : Rw (gL_feed 0 st) M c s (fun _ M' c' s' => (∃ g, FS M M' P U V B xs st v g xs.length ∧ ∀ i, i < xs.length → g i = xs.getD i 0) ∧ c ≤ c' ∧ c' ≤ c + 3 + xs.length ∧ s' ≤ s + 6 * (3 + xs.length)) := by
  unfold gL_feed
  rw [Rw_wq]
  refine Rw_cx ((cTruncOp k.1.1 k.2.1 (nI 0)).mono ?_)
  rintro r M1 ⟨rfl, x1, t1⟩
  have e1 : spTrunc (f, n) (nI 0) = (.inr (nI 0), (f, 0)) := by
    unfold spTrunc
    rw [isLn_n (by have := k.2.1.2.1; show n + 1 < _; have : n ≤ 900 := this; omega) (Nat.succ_pos _), if_pos rfl]; rfl
  rw [e1] at t1 ⊢
  refine ⟨nI 0, rfl, ?_⟩
  have k1 := k.ask h1 h2 x1 t1
  refine rw_loopv (F := fun n (j : Nat) => gL_feed_L8 n 0 st (nI (4 * j))) (fun j M' c' s' => 4 * j ≤ xs.length + 3 ∧ (∃ g, FS M M' P U V B xs st v g (4 * j) ∧ ∀ i, i < 4 * j → g i = yB xs i) ∧ c' = c + 1 + j ∧ s' = s + 6 + 6 * j) (fun j => xs.length + 4 - 4 * j) ?_ fu 0 M1 (c + 1) (s + 6) (by unfold fu; omega) ⟨by omega, ⟨f, k1, fun i hi => absurd hi (Nat.not_lt_zero _)⟩, rfl, rfl⟩
  rintro m j M2 c2 s2 ⟨hj, ⟨g, k2, hg⟩, rfl, rfl⟩ ih
  show Rw (gL_feed_L8 (m + 1) 0 st (nI (4 * j))) _ _ _ _
  unfold gL_feed_L8
  rw [Rw_wq, lSln k2.2.2.1]
  refine Rw_cs (d := xs.length ≤ 4 * j) (nle (by omega) (by omega)) (fun z => ?_) (fun z => ?_)
  · rw [Rw_wq, lSln k2.2.2.1, Rw_wq]
    refine Rw_cx ((cTruncOp k2.1.1 k2.2.1 (nI xs.length)).mono ?_)
    rintro r M3 ⟨rfl, x3, t3⟩
    have e3 : spTrunc (g, 4 * j) (nI xs.length) = (.inr (nI xs.length), (g, xs.length)) := by
      unfold spTrunc
      rw [isLn_n (by show 4 * j + 1 < _; omega) (show xs.length < 4 * j + 1 by omega), if_pos rfl, ix_n (by omega)]
    rw [e3] at t3 ⊢
    refine ⟨nI xs.length, rfl, ?_⟩
    rw [Rw_wr]
    refine ⟨⟨g, k2.ask h1 h2 x3 t3, fun i hi => ?_⟩, by omega, by omega, by omega⟩
    rw [hg i (by omega)]; unfold yB; rw [if_pos hi]
  · have hw : ∀ i, i ≤ 3 → wrd xs (4 * j) i < 8388608 := by
      have b0 := yB_lt k2.2.2.1 (4 * j + 0)
      have b1 := yB_lt k2.2.2.1 (4 * j + 1)
      have b2 := yB_lt k2.2.2.1 (4 * j + 2)
      intro i hi
      have : i = 0 ∨ i = 1 ∨ i = 2 ∨ i = 3 := by omega
      rcases this with rfl | rfl | rfl | rfl
      · show 0 < 8388608; omega
      · show 0 * 256 + yB xs (4 * j + 0) < _; omega
      · show (0 * 256 + yB xs (4 * j + 0)) * 256 + yB xs (4 * j + 1) < _; omega
      · show ((0 * 256 + yB xs (4 * j + 0)) * 256 + yB xs (4 * j + 1)) * 256 + yB xs (4 * j + 2) < _; omega
    refine rw_loopv (F := fun n (i : Nat) => gL_feed_L22 (gL_feed_L8 m) n 0 st (nI (4 * j)) (nI (wrd xs (4 * j) i)) (nI (4 * j + i))) (fun i M' c' s' => i ≤ 4 ∧ M' = M2 ∧ c' = c + 1 + j ∧ s' = s + 6 + 6 * j) (fun i => 4 - i) ?_ fu 0 M2 _ _ (by unfold fu; omega) ⟨by omega, rfl, rfl, rfl⟩
    rintro q i M3 c3 s3 ⟨hi, rfl, rfl, rfl⟩ ih2
    show Rw (gL_feed_L22 (gL_feed_L8 m) (q + 1) 0 st (nI (4 * j)) (nI (wrd xs (4 * j) i)) (nI (4 * j + i))) _ _ _ _
    unfold gL_feed_L22
    rw [nL4, nI_add]
    refine Rw_cs (d := 4 * j + 4 ≤ 4 * j + i) (nle (by omega) (by omega)) (fun y => ?_) (fun y => ?_)
    · have : i = 4 := by omega
      subst this
      rw [Rw_wq]
      refine Rw_cx ((cAppendOp k2.1.1 k2.2.1 (nI (wrd xs (4 * j) 4))).mono ?_)
      rintro r M4 ⟨rfl, x4, t4⟩
      have e4 : spAppend (g, 4 * j) (nI (wrd xs (4 * j) 4)) = (.inr (nI (4 * j + 4)), addB (addB (addB (addB (g, 4 * j) (iush (nI (wrd xs (4 * j) 4)) 24)) (iush (nI (wrd xs (4 * j) 4)) 16)) (iush (nI (wrd xs (4 * j) 4)) 8)) (nI (wrd xs (4 * j) 4))) := by
        unfold spAppend
        rw [if_pos (by show 4 * j + 4 ≤ 900; omega)]
      rw [e4] at t4 ⊢
      refine ⟨nI (4 * j + 4), rfl, ?_⟩
      have ew : wrd xs (4 * j) 4 = wrd xs (4 * j) 3 * 256 + yB xs (4 * j + 3) := rfl
      have ew3 : wrd xs (4 * j) 3 = wrd xs (4 * j) 2 * 256 + yB xs (4 * j + 2) := rfl
      have ew2 : wrd xs (4 * j) 2 = wrd xs (4 * j) 1 * 256 + yB xs (4 * j + 1) := rfl
      have ew1 : wrd xs (4 * j) 1 = 0 * 256 + yB xs (4 * j) := rfl
      have b0 := yB_lt k2.2.2.1 (4 * j)
      have b1 := yB_lt k2.2.2.1 (4 * j + 1)
      have b2 := yB_lt k2.2.2.1 (4 * j + 2)
      have b3 := yB_lt k2.2.2.1 (4 * j + 3)
      have h3 := hw 3 (by omega)
      have l0 : lowB (iush (nI (wrd xs (4 * j) 4)) 24) = yB xs (4 * j) := by
        rw [show (24 : Int32) = nI 24 from rfl, lowB_sh (by omega) (by omega)]; omega
      have l1 : lowB (iush (nI (wrd xs (4 * j) 4)) 16) = yB xs (4 * j + 1) := by
        rw [show (16 : Int32) = nI 16 from rfl, lowB_sh (by omega) (by omega)]; omega
      have l2 : lowB (iush (nI (wrd xs (4 * j) 4)) 8) = yB xs (4 * j + 2) := by
        rw [show (8 : Int32) = nI 8 from rfl, lowB_sh (by omega) (by omega)]; omega
      have l3 : lowB (nI (wrd xs (4 * j) 4)) = yB xs (4 * j + 3) := by
        rw [lowB_n (by omega)]; omega
      have ej : 4 * j + 4 = 4 * (j + 1) := by omega
      rw [ej]
      refine ih (j + 1) M4 _ _ ⟨by omega, ⟨_, k2.ask h1 h2 x4 (m := 4 * (j + 1)) (g := (addB (addB (addB (addB (g, 4 * j) (iush (nI (wrd xs (4 * j) 4)) 24)) (iush (nI (wrd xs (4 * j) 4)) 16)) (iush (nI (wrd xs (4 * j) 4)) 8)) (nI (wrd xs (4 * j) 4))).1) t4, fun i hi => ?_⟩, by omega, by omega⟩ (by omega)
      show updN (updN (updN (updN g (4 * j) (lowB _)) (4 * j + 1) (lowB _)) (4 * j + 1 + 1) (lowB _)) (4 * j + 1 + 1 + 1) (lowB _) i = _
      rw [l0, l1, l2, l3]
      by_cases q3 : i = 4 * j + 1 + 1 + 1
      · subst q3; rw [updN_s]
      rw [updN_n q3]
      by_cases q2 : i = 4 * j + 1 + 1
      · subst q2; rw [updN_s]
      rw [updN_n q2]
      by_cases q1 : i = 4 * j + 1
      · subst q1; rw [updN_s]
      rw [updN_n q1]
      by_cases q0 : i = 4 * j
      · subst q0; rw [updN_s]
      rw [updN_n q0]
      exact hg i (by omega)
    · have bi := yB_lt k2.2.2.1 (4 * j + i)
      have hwi := hw i (by omega)
      have go : Rw (gL_feed_L55 (gL_feed_L22 (gL_feed_L8 m) q) 0 st (nI (4 * j)) (nI (4 * j + i)) (nI (yB xs (4 * j + i))) (nI (wrd xs (4 * j) i) <<< ((8 : Int32) &&& 31))) M3 (c + 1 + j) (s + 6 + 6 * j) (fun _ M' c' s' => (∃ g, FS M M' P U V B xs st v g xs.length ∧ ∀ i, i < xs.length → g i = xs.getD i 0) ∧ c ≤ c' ∧ c' ≤ c + 3 + xs.length ∧ s' ≤ s + 6 * (3 + xs.length)) := by
        unfold gL_feed_L55
        rw [Rw_wb, Rn_rtn, or8 hwi (by omega), nL1, nI_add]
        exact ih2 (i + 1) M3 _ _ ⟨by omega, rfl, rfl, rfl⟩ (by omega)
      rw [Rw_wq, lSln k2.2.2.1]
      refine Rw_cs (d := xs.length ≤ 4 * j + i) (nle (by omega) (by omega)) (fun w => ?_) (fun w => ?_)
      · have ey : yB xs (4 * j + i) = 32 := by unfold yB; rw [if_neg (by omega)]
        rw [ey] at go
        exact go
      · have ey : yB xs (4 * j + i) = xs.getD (4 * j + i) 0 := by unfold yB; rw [if_pos (by omega)]
        rw [ey] at go
        rw [Rw_wq, lSch k2.2.2.1 (by omega)]
        exact go
end FD
