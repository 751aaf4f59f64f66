/-! ===== lN n to 2^64: shifts, and, or, masks, one bit ===== -/
theorem wb_tb (n : Nat) : (lN n).toBitVec = BitVec.ofNat 64 n := rfl
theorem wb_inj {a b : Int64} (h : a.toBitVec = b.toBitVec) : a = b := Int64.toBitVec_inj.mp h
theorem wb_tn {n : Nat} (h : n < 2 ^ 64) : (lN n).toBitVec.toNat = n := by rw [wb_tb, BitVec.toNat_ofNat, Nat.mod_eq_of_lt h]
theorem wb_c : ∀ k, k < 64 → ((nI k).toInt64 &&& 63) = lN k := by decide +kernel
theorem wb_cu : ∀ k, k < 64 → ((nI k).toInt64.toUInt64 &&& Int64.toUInt64 63) = UInt64.ofNat k := by decide +kernel
theorem wb_sm : ∀ k, k < 64 → (BitVec.ofNat 64 k).smod 64 = BitVec.ofNat 64 k := by decide +kernel
theorem wb_lt2 {a b : Nat} (h : a < b) : 2 ^ a < 2 ^ b := Nat.pow_lt_pow_right (by decide) h
theorem wb_mod (n : Nat) : lN n = lN (n % 2 ^ 64) := wb_inj (by rw [wb_tb, wb_tb]; apply BitVec.eq_of_toNat_eq; rw [BitVec.toNat_ofNat, BitVec.toNat_ofNat, Nat.mod_mod])
theorem wb_shr {n k : Nat} (hn : n < 2 ^ 64) (hk : k < 64) : ((lN n).toUInt64 >>> ((nI k).toInt64.toUInt64 &&& Int64.toUInt64 63)).toInt64 = lN (n / 2 ^ k) := by
  rw [wb_cu k hk]
  apply wb_inj
  apply BitVec.eq_of_toNat_eq
  show ((lN n).toUInt64 >>> UInt64.ofNat k).toNat = (BitVec.ofNat 64 _).toNat
  have h1 : (UInt64.ofNat k).toNat = k := by
    show (BitVec.ofNat 64 k).toNat = k
    rw [BitVec.toNat_ofNat, Nat.mod_eq_of_lt (by omega)]
  have h2 : (lN n).toUInt64.toNat = n := wb_tn hn
  rw [UInt64.toNat_shiftRight, h1, h2, Nat.mod_eq_of_lt hk, Nat.shiftRight_eq_div_pow, BitVec.toNat_ofNat, Nat.mod_eq_of_lt (Nat.lt_of_le_of_lt (Nat.div_le_self _ _) hn)]
theorem wb_shl (n : Nat) {k : Nat} (hk : k < 64) : lN n <<< ((nI k).toInt64 &&& 63) = lN (n * 2 ^ k) := by
  rw [wb_c k hk]
  apply wb_inj
  rw [Int64.toBitVec_shiftLeft, wb_tb, wb_tb, wb_tb, wb_sm k hk]
  apply BitVec.eq_of_toNat_eq
  rw [BitVec.shiftLeft_eq', BitVec.toNat_shiftLeft, BitVec.toNat_ofNat, BitVec.toNat_ofNat, BitVec.toNat_ofNat, Nat.mod_eq_of_lt (show k < 2 ^ 64 by omega), Nat.shiftLeft_eq, Nat.mul_mod, Nat.mod_mod, ← Nat.mul_mod]
theorem wb_and {a b : Nat} (ha : a < 2 ^ 64) (hb : b < 2 ^ 64) : lN a &&& lN b = lN (a &&& b) := by
  apply wb_inj
  rw [Int64.toBitVec_and, wb_tb, wb_tb, wb_tb]
  apply BitVec.eq_of_toNat_eq
  rw [BitVec.toNat_and, BitVec.toNat_ofNat, BitVec.toNat_ofNat, BitVec.toNat_ofNat, Nat.mod_eq_of_lt ha, Nat.mod_eq_of_lt hb, Nat.mod_eq_of_lt (Nat.and_lt_two_pow _ hb)]
theorem wb_or {a b : Nat} (ha : a < 2 ^ 64) (hb : b < 2 ^ 64) : lN a ||| lN b = lN (a ||| b) := by
  apply wb_inj
  rw [Int64.toBitVec_or, wb_tb, wb_tb, wb_tb]
  apply BitVec.eq_of_toNat_eq
  rw [BitVec.toNat_or, BitVec.toNat_ofNat, BitVec.toNat_ofNat, BitVec.toNat_ofNat, Nat.mod_eq_of_lt ha, Nat.mod_eq_of_lt hb, Nat.mod_eq_of_lt (Nat.or_lt_two_pow ha hb)]
theorem wb_mask {n k : Nat} (hn : n < 2 ^ 64) (hk : k < 64) : lN n &&& lN (2 ^ k - 1) = lN (n % 2 ^ k) := by
  rw [wb_and hn (by have := wb_lt2 hk; omega), Nat.and_two_pow_sub_one_eq_mod]
theorem wb_a1 {n : Nat} (hn : n < 2 ^ 64) : lN n &&& 1 = lN (n % 2) := wb_mask (k := 1) hn (by decide)
/-! ROWS OF BITS as Nat: places, counts -/
def fbk (p : Nat → Bool) (w : Nat) : Nat → Nat → Nat
  | 0, _ => w
  | n + 1, i => if i < w then (if p i = true then i else fbk p w n (i + 1)) else w
/-- the first place from i on, below w, with p; w without one -/
def fb (p : Nat → Bool) (w i : Nat) : Nat := fbk p w (w - i) i
theorem fbk_spec (p : Nat → Bool) (w : Nat) : ∀ n i, w ≤ i + n → (fbk p w n i = w ∧ (∀ j, i ≤ j → j < w → p j = false)) ∨ (i ≤ fbk p w n i ∧ fbk p w n i < w ∧ p (fbk p w n i) = true ∧ ∀ j, i ≤ j → j < fbk p w n i → p j = false) := by
  intro n
  induction n with
  | zero => intro i h; exact Or.inl ⟨rfl, fun j h1 h2 => by omega⟩
  | succ n ih =>
    intro i h
    unfold fbk
    by_cases hi : i < w
    · rw [if_pos hi]
      by_cases hp : p i = true
      · rw [if_pos hp]
        exact Or.inr ⟨Nat.le_refl _, hi, hp, fun j h1 h2 => by omega⟩
      · rw [if_neg hp]
        have hp : p i = false := by simpa using hp
        rcases ih (i + 1) (by omega) with ⟨h1, h2⟩ | ⟨h1, h2, h3, h4⟩
        · refine Or.inl ⟨h1, fun j a b => ?_⟩
          rcases Nat.eq_or_lt_of_le a with q | q
          · rw [← q]; exact hp
          · exact h2 j q b
        · refine Or.inr ⟨by omega, h2, h3, fun j a b => ?_⟩
          rcases Nat.eq_or_lt_of_le a with q | q
          · rw [← q]; exact hp
          · exact h4 j q b
    · rw [if_neg hi]
      exact Or.inl ⟨rfl, fun j h1 h2 => by omega⟩
theorem fb_spec (p : Nat → Bool) (w i : Nat) : (fb p w i = w ∧ (∀ j, i ≤ j → j < w → p j = false)) ∨ (i ≤ fb p w i ∧ fb p w i < w ∧ p (fb p w i) = true ∧ ∀ j, i ≤ j → j < fb p w i → p j = false) := fbk_spec p w (w - i) i (by omega)
theorem fb_le (p : Nat → Bool) (w i : Nat) : fb p w i ≤ w := by rcases fb_spec p w i with h | h <;> omega
theorem fb_ge (p : Nat → Bool) {w i : Nat} (h : i ≤ w) : i ≤ fb p w i := by rcases fb_spec p w i with h | h <;> omega
theorem fb_no {p : Nat → Bool} {w i j : Nat} (h1 : i ≤ j) (h2 : j < fb p w i) : p j = false := by
  rcases fb_spec p w i with h | h
  · exact h.2 j h1 (by omega)
  · exact h.2.2.2 j h1 h2
theorem fb_yes {p : Nat → Bool} {w i : Nat} (h : fb p w i < w) : p (fb p w i) = true := by
  rcases fb_spec p w i with q | q
  · omega
  · exact q.2.2.1
theorem fb_at {p : Nat → Bool} {w i : Nat} (h : i < w) (hp : p i = true) : fb p w i = i := by
  rcases fb_spec p w i with q | q
  · rw [q.2 i (Nat.le_refl _) h] at hp; cases hp
  · rcases Nat.eq_or_lt_of_le q.1 with z | z
    · exact z.symm
    · rw [q.2.2.2 i (Nat.le_refl _) z] at hp; cases hp
theorem fb_un {p : Nat → Bool} {w i t : Nat} (h1 : i ≤ t) (h2 : t < w) (h3 : p t = true) (h4 : ∀ j, i ≤ j → j < t → p j = false) : fb p w i = t := by
  rcases fb_spec p w i with q | q
  · rw [q.2 t h1 h2] at h3; cases h3
  · rcases Nat.lt_trichotomy (fb p w i) t with z | z | z
    · rw [h4 _ q.1 z] at q; simp at q
    · exact z
    · rw [q.2.2.2 t h1 z] at h3; cases h3
theorem fb_end {p : Nat → Bool} {w i : Nat} (h4 : ∀ j, i ≤ j → j < w → p j = false) : fb p w i = w := by
  rcases fb_spec p w i with q | q
  · exact q.1
  · rw [h4 _ q.1 q.2.1] at q; simp at q
theorem fb_ge_w {p : Nat → Bool} {w i : Nat} (h : w ≤ i) : fb p w i = w := fb_end (fun j a b => by omega)
theorem fb_next {p : Nat → Bool} {w i : Nat} (h : i < w) (hp : p i = false) : fb p w i = fb p w (i + 1) := by
  rcases fb_spec p w (i + 1) with q | q
  · rw [q.1]; exact fb_end (fun j a b => by
      rcases Nat.eq_or_lt_of_le a with z | z
      · rw [← z]; exact hp
      · exact q.2 j z b)
  · exact fb_un (by omega) q.2.1 q.2.2.1 (fun j a b => by
      rcases Nat.eq_or_lt_of_le a with z | z
      · rw [← z]; exact hp
      · exact q.2.2.2 j z b)
/-- how many of the k lowest bits are set -/
def pcn : Nat → Nat → Nat
  | 0, _ => 0
  | k + 1, n => n % 2 + pcn k (n / 2)
theorem pcn_s (k n : Nat) : pcn (k + 1) n = n % 2 + pcn k (n / 2) := rfl
theorem pcn_le : ∀ k n, pcn k n ≤ k
  | 0, _ => Nat.le_refl _
  | k + 1, n => by
    have := pcn_le k (n / 2)
    rw [pcn_s]; omega
theorem pcn_split (a : Nat) : ∀ k n, pcn (k + a) n = pcn k (n % 2 ^ k) + pcn a (n / 2 ^ k) := by
  intro k
  induction k with
  | zero => intro n; simp [pcn]
  | succ k ih =>
    intro n
    rw [show k + 1 + a = (k + a) + 1 by omega]
    rw [pcn_s, pcn_s]
    rw [ih (n / 2), Nat.div_div_eq_div_mul, ← Nat.pow_succ']
    have e1 : n % 2 ^ (k + 1) % 2 = n % 2 := Nat.mod_mod_of_dvd _ ⟨2 ^ k, by rw [Nat.pow_succ']⟩
    have e2 : n % 2 ^ (k + 1) / 2 = n / 2 % 2 ^ k := by rw [Nat.pow_succ', Nat.mod_mul_right_div_self]
    rw [e1, e2, Nat.succ_eq_add_one]; omega
theorem and_256 (a b c d : Nat) (hb : b < 256) (hd : d < 256) : (256 * a + b) &&& (256 * c + d) = 256 * (a &&& c) + (b &&& d) := by
  apply Nat.eq_of_testBit_eq
  intro i
  have hbd : b &&& d < 2 ^ 8 := Nat.lt_of_le_of_lt Nat.and_le_left hb
  rw [Nat.testBit_and, show (256 : Nat) = 2 ^ 8 from rfl, Nat.testBit_two_pow_mul_add a hb, Nat.testBit_two_pow_mul_add c hd, Nat.testBit_two_pow_mul_add _ hbd]
  split <;> simp [Nat.testBit_and]
def rp1s : Nat → Nat
  | 0 => 0
  | k + 1 => 256 * rp1s k + 1
theorem rp1s_s (k : Nat) : rp1s (k + 1) = 256 * rp1s k + 1 := rfl
def sw1 (k n : Nat) : Nat := n - ((n / 2) &&& (85 * rp1s k))
def sw2 (k n : Nat) : Nat := (sw1 k n &&& (51 * rp1s k)) + ((sw1 k n / 4) &&& (51 * rp1s k))
def sw3 (k n : Nat) : Nat := (sw2 k n + sw2 k n / 16) &&& (15 * rp1s k)
def by1 (b : Nat) : Nat := b - ((b / 2) &&& 85)
def by2 (b : Nat) : Nat := (by1 b &&& 51) + ((by1 b / 4) &&& 51)
theorem by_a : ∀ b, b < 256 → ∀ x, x < 2 → (128 * x + b / 2) &&& 85 = (b / 2) &&& 85 := by decide +kernel
theorem by_b : ∀ b, b < 256 → ∀ x, x < 4 → (64 * x + b / 4) &&& 51 = (b / 4) &&& 51 := by decide +kernel
theorem by_c : ∀ b, b < 256 → by1 b < 256 ∧ by2 b < 69 ∧ by2 b % 16 ≤ 4 := by decide +kernel
theorem by_d : ∀ b, b < 256 → ∀ x, x < 5 → ((by2 b + (16 * x + by2 b / 16)) &&& 15) = pcn 8 b := by decide +kernel
theorem sw1_s (k q b : Nat) (hb : b < 256) : sw1 (k + 1) (256 * q + b) = 256 * sw1 k q + by1 b := by
  unfold sw1 by1
  rw [rp1s_s]
  have e1 : (256 * q + b) / 2 = 256 * (q / 2) + (128 * (q % 2) + b / 2) := by omega
  have e2 : 85 * (256 * rp1s k + 1) = 256 * (85 * rp1s k) + 85 := by omega
  rw [e1, e2, and_256 _ _ _ _ (by omega) (by omega), by_a b hb _ (by omega)]
  have h1 : (q / 2) &&& (85 * rp1s k) ≤ q / 2 := Nat.and_le_left
  have h2 : (b / 2) &&& 85 ≤ b / 2 := Nat.and_le_left
  omega
theorem sw2_s (k q b : Nat) (hb : b < 256) : sw2 (k + 1) (256 * q + b) = 256 * sw2 k q + by2 b := by
  have hc := (by_c b hb).1
  unfold sw2
  rw [sw1_s k q b hb]
  have e1 : (256 * sw1 k q + by1 b) / 4 = 256 * (sw1 k q / 4) + (64 * (sw1 k q % 4) + by1 b / 4) := by omega
  have e2 : 51 * rp1s (k + 1) = 256 * (51 * rp1s k) + 51 := by rw [rp1s_s]; omega
  rw [e1, e2, and_256 _ _ _ _ hc (by omega), and_256 _ _ _ _ (by omega) (by omega), by_b _ hc _ (by omega)]
  unfold by2
  omega
theorem sw2_m : ∀ k n, n < 256 ^ k → sw2 k n % 16 ≤ 4 := by
  intro k n h
  cases k with
  | zero => rw [show n = 0 by simpa using h]; decide
  | succ k =>
    have hc := by_c (n % 256) (by omega)
    rw [show n = 256 * (n / 256) + n % 256 by omega, sw2_s k _ _ (by omega)]
    omega
theorem sw3_s (k q b : Nat) (hb : b < 256) (hq : q < 256 ^ k) : sw3 (k + 1) (256 * q + b) = 256 * sw3 k q + pcn 8 b := by
  have hc := by_c b hb
  have hm := sw2_m k q hq
  unfold sw3
  rw [sw2_s k q b hb]
  have e1 : 256 * sw2 k q + by2 b + (256 * sw2 k q + by2 b) / 16 = 256 * (sw2 k q + sw2 k q / 16) + (by2 b + (16 * (sw2 k q % 16) + by2 b / 16)) := by omega
  have e2 : 15 * rp1s (k + 1) = 256 * (15 * rp1s k) + 15 := by rw [rp1s_s]; omega
  rw [e1, e2, and_256 _ _ _ _ (by omega) (by omega), by_d b hb _ (by omega)]
theorem sw_all (n : Nat) (h : n < 2 ^ 64) : ∃ c0 c1 c2 c3 c4 c5 c6 c7 : Nat, (c0 ≤ 8 ∧ c1 ≤ 8 ∧ c2 ≤ 8 ∧ c3 ≤ 8 ∧ c4 ≤ 8 ∧ c5 ≤ 8 ∧ c6 ≤ 8 ∧ c7 ≤ 8) ∧ pcn 64 n = c0 + (c1 + (c2 + (c3 + (c4 + (c5 + (c6 + c7)))))) ∧ sw3 8 n = 256 * (256 * (256 * (256 * (256 * (256 * (256 * c7 + c6) + c5) + c4) + c3) + c2) + c1) + c0 := by
  have s : ∀ k m, m < 256 ^ (k + 1) → sw3 (k + 1) m = 256 * sw3 k (m / 256) + pcn 8 (m % 256) ∧ pcn (8 + 8 * k) m = pcn 8 (m % 256) + pcn (8 * k) (m / 256) ∧ m / 256 < 256 ^ k := by
    intro k m hm
    have hq : m / 256 < 256 ^ k := by rw [Nat.div_lt_iff_lt_mul (by decide)]; rw [Nat.pow_succ] at hm; exact hm
    refine ⟨?_, ?_, hq⟩
    · have := sw3_s k (m / 256) (m % 256) (by omega) hq
      rw [← this]; congr 1; omega
    · exact pcn_split (8 * k) 8 m
  obtain ⟨a0, b0, h0⟩ := s 7 n h
  obtain ⟨a1, b1, h1⟩ := s 6 _ h0
  obtain ⟨a2, b2, h2⟩ := s 5 _ h1
  obtain ⟨a3, b3, h3⟩ := s 4 _ h2
  obtain ⟨a4, b4, h4⟩ := s 3 _ h3
  obtain ⟨a5, b5, h5⟩ := s 2 _ h4
  obtain ⟨a6, b6, h6⟩ := s 1 _ h5
  obtain ⟨a7, b7, h7⟩ := s 0 _ h6
  refine ⟨pcn 8 ((n) % 256), pcn 8 ((n / 256) % 256), pcn 8 ((n / 256 / 256) % 256), pcn 8 ((n / 256 / 256 / 256) % 256), pcn 8 ((n / 256 / 256 / 256 / 256) % 256), pcn 8 ((n / 256 / 256 / 256 / 256 / 256) % 256), pcn 8 ((n / 256 / 256 / 256 / 256 / 256 / 256) % 256), pcn 8 ((n / 256 / 256 / 256 / 256 / 256 / 256 / 256) % 256), ⟨pcn_le 8 _, pcn_le 8 _, pcn_le 8 _, pcn_le 8 _, pcn_le 8 _, pcn_le 8 _, pcn_le 8 _, pcn_le 8 _⟩, ?_, ?_⟩
  · rw [show (64 : Nat) = 8 + 8 * 7 from rfl, b0, show 8 * 7 = 8 + 8 * 6 from rfl, b1, show 8 * 6 = 8 + 8 * 5 from rfl, b2, show 8 * 5 = 8 + 8 * 4 from rfl, b3, show 8 * 4 = 8 + 8 * 3 from rfl, b4, show 8 * 3 = 8 + 8 * 2 from rfl, b5, show 8 * 2 = 8 + 8 * 1 from rfl, b6, show 8 * 1 = 8 + 8 * 0 from rfl, b7]
    show _ + (_ + (_ + (_ + (_ + (_ + (_ + (_ + 0))))))) = _
    rfl
  · rw [a0, a1, a2, a3, a4, a5, a6, a7]
    have : sw3 0 (n / 256 / 256 / 256 / 256 / 256 / 256 / 256 / 256) = 0 := by unfold sw3 rp1s; simp
    rw [this]; omega
theorem sw_q {x y c : Nat} (h : x = 256 * y + c) (hc : c ≤ 32) : x / 256 = y := by omega
theorem sw_q2 {x y z c d : Nat} (h : x = 256 * y + c) (hc : c ≤ 32) (h2 : y = 256 * z + d) (hd : d ≤ 32) : x / 65536 = z := by
  rw [show (65536 : Nat) = 256 * 256 from rfl, ← Nat.div_div_eq_div_mul, sw_q h hc, sw_q h2 hd]
theorem sw_fin {c0 c1 c2 c3 c4 c5 c6 c7 v3 v4 v5 v6 : Nat} (q0 : c0 ≤ 8) (q1 : c1 ≤ 8) (q2 : c2 ≤ 8) (q3 : c3 ≤ 8) (q4 : c4 ≤ 8) (q5 : c5 ≤ 8) (q6 : c6 ≤ 8) (q7 : c7 ≤ 8)
    (h3 : v3 = 256 * (256 * (256 * (256 * (256 * (256 * (256 * c7 + c6) + c5) + c4) + c3) + c2) + c1) + c0) (hv4 : v3 + v3 / 256 = v4) (hv5 : v4 + v4 / 65536 = v5) (hv6 : v5 + v5 / 4294967296 = v6) : v6 % 2 ^ 32 % 2 ^ 7 = c0 + (c1 + (c2 + (c3 + (c4 + (c5 + (c6 + c7)))))) := by
  obtain ⟨X6, x6⟩ : ∃ X, X = 256 * c7 + c6 := ⟨_, rfl⟩
  rw [← x6] at h3
  obtain ⟨X5, x5⟩ : ∃ X, X = 256 * X6 + c5 := ⟨_, rfl⟩
  rw [← x5] at h3
  obtain ⟨X4, x4⟩ : ∃ X, X = 256 * X5 + c4 := ⟨_, rfl⟩
  rw [← x4] at h3
  obtain ⟨X3, x3⟩ : ∃ X, X = 256 * X4 + c3 := ⟨_, rfl⟩
  rw [← x3] at h3
  obtain ⟨X2, x2⟩ : ∃ X, X = 256 * X3 + c2 := ⟨_, rfl⟩
  rw [← x2] at h3
  obtain ⟨X1, x1⟩ : ∃ X, X = 256 * X2 + c1 := ⟨_, rfl⟩
  rw [← x1] at h3
  rw [sw_q h3 (by omega)] at hv4
  have y0 : v4 = 256 * (X1 + X2) + (c0 + c1) := by omega
  have y1 : X1 + X2 = 256 * (X2 + X3) + (c1 + c2) := by omega
  rw [sw_q2 y0 (by omega) y1 (by omega)] at hv5
  have z0 : v5 = 256 * ((X1 + X2) + (X3 + X4)) + (c0 + c1 + (c2 + c3)) := by omega
  have z1 : (X1 + X2) + (X3 + X4) = 256 * ((X2 + X3) + (X4 + X5)) + (c1 + c2 + (c3 + c4)) := by omega
  have z2 : (X2 + X3) + (X4 + X5) = 256 * ((X3 + X4) + (X5 + X6)) + (c2 + c3 + (c4 + c5)) := by omega
  have z3 : (X3 + X4) + (X5 + X6) = 256 * ((X4 + X5) + (X6 + c7)) + (c3 + c4 + (c5 + c6)) := by omega
  have z4 : (X4 + X5) + (X6 + c7) = 256 * ((X5 + X6) + c7) + (c4 + c5 + (c6 + c7)) := by omega
  have d : v5 / 4294967296 = (X4 + X5) + (X6 + c7) := by
    rw [show (4294967296 : Nat) = 65536 * 65536 from rfl, ← Nat.div_div_eq_div_mul, sw_q2 z0 (by omega) z1 (by omega), sw_q2 z2 (by omega) z3 (by omega)]
  rw [d] at hv6
  clear d z1 z2 z3 y0 y1 hv4 hv5 h3 x1 x2 x3
  generalize (X1 + X2) + (X3 + X4) = P at z0
  generalize (X5 + X6) + c7 = P2 at z4
  have e : v6 = 256 * (P + P2) + (c0 + c1 + (c2 + c3) + (c4 + c5 + (c6 + c7))) := by omega
  rw [Nat.mod_mod_of_dvd _ (show 2 ^ 7 ∣ 2 ^ 32 from ⟨2 ^ 25, by decide⟩), e]
  omega
theorem lN_sb {a b : Nat} (h : b ≤ a) : lN a - lN b = lN (a - b) := lN_sub h
theorem lN_ng {b : Nat} (h : b ≤ 2 ^ 64) : -lN b = lN (2 ^ 64 - b) := by
  have e : lN (2 ^ 64 - b) = lN (2 ^ 64) - lN b := (lN_sub h).symm
  rw [e, show lN (2 ^ 64) = 0 from by decide +kernel, Int64.zero_sub]
theorem lus_1 {n : Nat} (h : n < 2 ^ 64) (k : Nat) (hk : k < 64) : lush (lN n) (nI k) = lN (n / 2 ^ k) := wb_shr h hk
theorem fBit {n : Nat} (h : n < 2 ^ 64) {M : Mm} {Q : Int32 → Mm → Prop} : Rn (fJ13_bitCount_95d88 (lN n)) M Q ↔ Q (nI (pcn 64 n)) M := by
  obtain ⟨c0, c1, c2, c3, c4, c5, c6, c7, ⟨q0, q1, q2, q3, q4, q5, q6, q7⟩, hp, h3⟩ := sw_all n h
  have hr : rp1s 8 = 72340172838076673 := by decide
  unfold sw3 sw2 sw1 at h3
  rw [hr] at h3
  have l1 : (n / 2) &&& 6148914691236517205 ≤ n / 2 := Nat.and_le_left
  generalize hv1 : n - ((n / 2) &&& (85 * 72340172838076673)) = v1 at h3
  have hv1 : n - ((n / 2) &&& 6148914691236517205) = v1 := hv1
  have b1 : v1 < 2 ^ 64 := by omega
  have l2 : v1 &&& 3689348814741910323 ≤ 3689348814741910323 := Nat.and_le_right
  have l3 : (v1 / 4) &&& 3689348814741910323 ≤ 3689348814741910323 := Nat.and_le_right
  generalize hv2 : (v1 &&& (51 * 72340172838076673)) + ((v1 / 4) &&& (51 * 72340172838076673)) = v2 at h3
  have hv2 : (v1 &&& 3689348814741910323) + ((v1 / 4) &&& 3689348814741910323) = v2 := hv2
  have b2 : v2 ≤ 2 * 3689348814741910323 := by omega
  generalize hv3 : (v2 + v2 / 16) &&& (15 * 72340172838076673) = v3 at h3
  have hv3 : (v2 + v2 / 16) &&& 1085102592571150095 = v3 := hv3
  have e1 : lN n - (lush (lN n) 1 &&& 6148914691236517205) = lN v1 := by
    rw [show (1 : Int32) = nI 1 from rfl, lus_1 h 1 (by decide), show (6148914691236517205 : Int64) = lN 6148914691236517205 from rfl, wb_and (by omega) (by decide)]
    rw [show n / 2 ^ 1 = n / 2 from rfl, lN_sb (by omega), hv1]
  have e2 : (lN v1 &&& 3689348814741910323) + (lush (lN v1) 2 &&& 3689348814741910323) = lN v2 := by
    rw [show (2 : Int32) = nI 2 from rfl, lus_1 b1 2 (by decide), show (3689348814741910323 : Int64) = lN 3689348814741910323 from rfl, wb_and b1 (by decide), wb_and (by omega) (by decide), lN_add]
    rw [show v1 / 2 ^ 2 = v1 / 4 from rfl, hv2]
  have e3 : (lN v2 + lush (lN v2) 4) &&& 1085102592571150095 = lN v3 := by
    rw [show (4 : Int32) = nI 4 from rfl, lus_1 (by omega) 4 (by decide), lN_add, show (1085102592571150095 : Int64) = lN 1085102592571150095 from rfl, wb_and (by omega) (by decide)]
    rw [show v2 / 2 ^ 4 = v2 / 16 from rfl, hv3]
  have d3 : v3 < 10 * 256 ^ 7 := by omega
  have e4 : lN v3 + lush (lN v3) 8 = lN (v3 + v3 / 256) := by
    rw [show (8 : Int32) = nI 8 from rfl, lus_1 (by omega) 8 (by decide), lN_add]
  have e5 : lN (v3 + v3 / 256) + lush (lN (v3 + v3 / 256)) 16 = lN ((v3 + v3 / 256) + (v3 + v3 / 256) / 65536) := by
    rw [show (16 : Int32) = nI 16 from rfl, lus_1 (by omega) 16 (by decide), lN_add]
  generalize hv4 : v3 + v3 / 256 = v4 at e4 e5
  generalize hv5 : v4 + v4 / 65536 = v5 at e5
  have e6 : lN v5 + lush (lN v5) 32 = lN (v5 + v5 / 4294967296) := by
    rw [show (32 : Int32) = nI 32 from rfl, lus_1 (by omega) 32 (by decide), lN_add]
  generalize hv6 : v5 + v5 / 4294967296 = v6 at e6
  have e7 : (lN v6).toInt32 &&& 127 = nI (pcn 64 n) := by
    rw [lN_i, pk_and (nI v6) 7 (by decide), hp]
    have : (nI v6).toBitVec.toNat = v6 % 2 ^ 32 := rfl
    rw [this]
    exact congrArg nI (sw_fin q0 q1 q2 q3 q4 q5 q6 q7 h3 hv4 hv5 hv6)
  unfold fJ13_bitCount_95d88
  simp only [Rn_bnd, Rn_rtn]
  rw [e1, e2, e3, e4, e5, e6, e7]
/-! THE LOWEST BIT -/
theorem low_form {b t : Nat} (hb : b.testBit t = true) (hl : ∀ j, j < t → b.testBit j = false) : b = 2 ^ t * (2 * (b / 2 ^ (t + 1)) + 1) := by
  have e0 : b % 2 ^ t = 0 := by
    apply Nat.eq_of_testBit_eq
    intro i
    rw [Nat.testBit_mod_two_pow, Nat.zero_testBit]
    by_cases h : i < t
    · simp [h, hl i h]
    · simp [h]
  have e1 : b / 2 ^ t % 2 = 1 := by
    have := Nat.testBit_div_two_pow (n := t) b 0
    rw [Nat.zero_add, hb, Nat.testBit_zero] at this
    simpa using this
  have e2 : b / 2 ^ (t + 1) = b / 2 ^ t / 2 := by rw [Nat.pow_succ, Nat.div_div_eq_div_mul]
  have e3 := Nat.div_add_mod b (2 ^ t)
  rw [e0, Nat.add_zero] at e3
  rw [e2]
  have e4 : 2 * (b / 2 ^ t / 2) + 1 = b / 2 ^ t := by omega
  rw [e4]; exact e3.symm
theorem low_pred {b t : Nat} (hb : b.testBit t = true) (hl : ∀ j, j < t → b.testBit j = false) (i : Nat) : (b - 1).testBit i = (if i < t then true else if i = t then false else b.testBit i) := by
  have hf := low_form hb hl
  have hp : 0 < 2 ^ t := Nat.two_pow_pos t
  have e1 : b - 1 = 2 ^ t * (2 * (b / 2 ^ (t + 1))) + (2 ^ t - 1) := by
    rw [Nat.mul_add, Nat.mul_one] at hf; omega
  rw [e1, Nat.testBit_two_pow_mul_add _ (by omega)]
  by_cases h : i < t
  · rw [if_pos h, if_pos h, Nat.testBit_two_pow_sub_one]; simp [h]
  · rw [if_neg h, if_neg h]
    by_cases h2 : i = t
    · subst h2; simp
    · rw [if_neg h2]
      obtain ⟨k, rfl⟩ : ∃ k, i = t + 1 + k := ⟨i - (t + 1), by omega⟩
      rw [show t + 1 + k - t = k + 1 by omega, Nat.testBit_succ, show 2 * (b / 2 ^ (t + 1)) / 2 = b / 2 ^ (t + 1) by omega, Nat.testBit_div_two_pow, Nat.add_comm k]
theorem low_and {b t : Nat} (h64 : b < 2 ^ 64) (hb : b.testBit t = true) (hl : ∀ j, j < t → b.testBit j = false) : b &&& (2 ^ 64 - b) = 2 ^ t := by
  have h0 : b ≠ 0 := by intro h; rw [h, Nat.zero_testBit] at hb; cases hb
  apply Nat.eq_of_testBit_eq
  intro i
  have e : 2 ^ 64 - b = 2 ^ 64 - ((b - 1) + 1) := by omega
  rw [Nat.testBit_and, e, Nat.testBit_two_pow_sub_succ (by omega), low_pred hb hl, Nat.testBit_two_pow]
  by_cases h : i < t
  · rw [if_pos h, hl i h]; simp; omega
  · rw [if_neg h]
    by_cases h2 : i = t
    · subst h2
      have : i < 64 := by
        rcases Nat.lt_or_ge i 64 with z | z
        · exact z
        · rw [Nat.testBit_lt_two_pow (Nat.lt_of_lt_of_le h64 (Nat.pow_le_pow_right (by decide) z))] at hb; cases hb
      simp [hb, this]
    · rw [if_neg h2]
      have h3 : ¬ t = i := fun z => h2 z.symm
      simp [h3]; intro a _; exact a
theorem pcn_pred : ∀ t k, t ≤ k → pcn k (2 ^ t - 1) = t := by
  intro t
  induction t with
  | zero =>
    intro k _
    have z : ∀ k, pcn k 0 = 0 := by
      intro k
      induction k with
      | zero => rfl
      | succ k ih => rw [pcn_s, ih]
    exact z k
  | succ t ih =>
    intro k h
    obtain ⟨k, rfl⟩ : ∃ j, k = j + 1 := ⟨k - 1, by omega⟩
    have hp : 0 < 2 ^ t := Nat.two_pow_pos t
    rw [pcn_s, Nat.pow_succ]
    have e : (2 ^ t * 2 - 1) / 2 = 2 ^ t - 1 := by omega
    rw [e, ih k (by omega)]; omega
theorem lowL {b t : Nat} (h64 : b < 2 ^ 64) (hb : b.testBit t = true) (hl : ∀ j, j < t → b.testBit j = false) : (lN b &&& -lN b) - 1 = lN (2 ^ t - 1) := by
  have h0 : b ≠ 0 := by intro h; rw [h, Nat.zero_testBit] at hb; cases hb
  rw [lN_ng (by omega), wb_and h64 (by omega), low_and h64 hb hl, show (1 : Int64) = lN 1 from rfl, lN_sb (Nat.two_pow_pos t)]
theorem bit_lt {r w t : Nat} (h : r < 2 ^ w) (hb : r.testBit t = true) : t < w := by
  rcases Nat.lt_or_ge t w with z | z
  · exact z
  · rw [Nat.testBit_lt_two_pow (Nat.lt_of_lt_of_le h (Nat.pow_le_pow_right (by decide) z))] at hb; cases hb
theorem pw_le {a b : Nat} (h : a ≤ b) : 2 ^ a ≤ 2 ^ b := Nat.pow_le_pow_right (by decide) h
theorem lsh1 {n k : Nat} (hk : k < 64) : lsh (lN n) (nI k) = lN (n * 2 ^ k) := wb_shl n hk
theorem ne_bit {b : Nat} (h : b ≠ 0) : ∃ t, b.testBit t = true ∧ ∀ j, j < t → b.testBit j = false := by
  obtain ⟨k, hk⟩ := Nat.exists_testBit_of_ne_zero h
  obtain ⟨t, h1, h2⟩ := pk_least (fun k => b.testBit k = true) ⟨k, hk⟩
  exact ⟨t, h1, fun j hj => by simpa using h2 j hj⟩
theorem lN_0 {n : Nat} (h : n < 2 ^ 64) : lN n = 0 ↔ n = 0 := by
  constructor
  · intro e
    have : (lN n).toBitVec.toNat = 0 := by rw [e]; rfl
    rwa [wb_tn h] at this
  · rintro rfl; rfl
theorem fFB {r w q : Nat} (hw : w ≤ 40) (hr : r < 2 ^ w) (hq : q ≤ w + 1) {M : Mm} {Q : Int32 → Mm → Prop} : Rn (fX7_firstBehind (lN r) (pl q) (nI w)) M Q ↔ Q (nI (fb (fun k => r.testBit k) w q)) M := by
  have h64 : r < 2 ^ 64 := Nat.lt_of_lt_of_le hr (pw_le (by omega))
  have hpq : 2 ^ q ≤ 2 ^ 41 := pw_le (by omega)
  have e1 : lN r &&& lsh (-1) (pl q + 1) = lN (r / 2 ^ q * 2 ^ q) := by
    rw [show (1 : Int32) = nI 1 from rfl, pl_1, show (-1 : Int64) = lN (2 ^ 64 - 1) from by decide +kernel, lsh1 (by omega), wb_mod ((2 ^ 64 - 1) * 2 ^ q)]
    have : (2 ^ 64 - 1) * 2 ^ q % 2 ^ 64 = 2 ^ 64 - ((2 ^ q - 1) + 1) := by
      have hp : 0 < 2 ^ q := Nat.two_pow_pos q
      rw [Nat.sub_mul, Nat.one_mul, show 2 ^ 64 * 2 ^ q - 2 ^ q = (2 ^ 64 - 2 ^ q) + 2 ^ 64 * (2 ^ q - 1) by rw [Nat.mul_sub, Nat.mul_one]; have : 2 ^ 64 ≤ 2 ^ 64 * 2 ^ q := Nat.le_mul_of_pos_right _ hp; omega, Nat.add_mul_mod_self_left, Nat.mod_eq_of_lt (by omega)]
      omega
    rw [this, wb_and h64 (by omega)]
    refine congrArg lN ?_
    apply Nat.eq_of_testBit_eq
    intro i
    have hp : 0 < 2 ^ q := Nat.two_pow_pos q
    rw [Nat.testBit_and, Nat.testBit_two_pow_sub_succ (by omega), Nat.testBit_two_pow_sub_one, Nat.testBit_mul_two_pow, Nat.testBit_div_two_pow]
    by_cases h : q ≤ i
    · rw [show i - q + q = i by omega]
      by_cases h2 : i < 64
      · have : ¬ i < q := by omega
        simp [h, h2, this]
      · rw [Nat.testBit_lt_two_pow (Nat.lt_of_lt_of_le h64 (pw_le (by omega)))]; simp
    · have : i < q := by omega
      simp [h, this]
  have hb : ∀ i, (r / 2 ^ q * 2 ^ q).testBit i = (decide (q ≤ i) && r.testBit i) := by
    intro i
    rw [Nat.testBit_mul_two_pow, Nat.testBit_div_two_pow]
    by_cases h : q ≤ i
    · rw [show i - q + q = i by omega]
    · simp [h]
  have hlt : r / 2 ^ q * 2 ^ q < 2 ^ 64 := Nat.lt_of_le_of_lt (Nat.div_mul_le_self _ _) h64
  generalize r / 2 ^ q * 2 ^ q = b at e1 hb hlt
  unfold fX7_firstBehind
  simp only [Rn_bnd, Rn_rtn]
  rw [e1, Rn_ite]
  by_cases h0 : b = 0
  · have : lg_cmp (lN b) 0 = 0 := by rw [h0]; decide
    rw [if_pos this, Rn_rtn]
    have : fb (fun k => r.testBit k) w q = w := fb_end (fun j h1 h2 => by
      have := hb j
      rw [h0, Nat.zero_testBit] at this
      simpa [h1] using this.symm)
    rw [this]
  · have : ¬ lg_cmp (lN b) 0 = 0 := by
      intro h
      exact h0 ((lN_0 hlt).mp ((lg_cmp_eq _ _).mp h))
    rw [if_neg this, Rn_bnd]
    obtain ⟨t, ht, hl⟩ := ne_bit h0
    have h9 := hb t
    rw [ht] at h9
    have h9 : q ≤ t ∧ r.testBit t = true := by simpa using h9.symm
    have htw := bit_lt hr h9.2
    rw [lowL hlt ht hl, fBit (by have := pw_le (show t ≤ 40 by omega); have := Nat.two_pow_pos t; omega), pcn_pred t 64 (by omega), Rn_rtn]
    have : fb (fun k => r.testBit k) w q = t := fb_un h9.1 htw h9.2 (fun j h1 h2 => by
      have := hb j
      rw [hl j h2] at this
      simpa [h1] using this.symm)
    rw [this]
theorem fAll {w : Nat} (hw : w ≤ 62) {M : Mm} {Q : Int64 → Mm → Prop} : Rn (fX7_allBlack (nI w)) M Q ↔ Q (lN (2 ^ w - 1)) M := by
  unfold fX7_allBlack
  rw [Rn_rtn, show (1 : Int64) = lN 1 from rfl, lsh1 (by omega), lN_sb (by have := Nat.two_pow_pos w; omega), Nat.one_mul]
theorem lN_xr {a b : Nat} (ha : a < 2 ^ 64) (hb : b < 2 ^ 64) : lN a ^^^ lN b = lN (a ^^^ b) := by
  apply wb_inj
  rw [Int64.toBitVec_xor, wb_tb, wb_tb, wb_tb]
  apply BitVec.eq_of_toNat_eq
  rw [BitVec.toNat_xor, BitVec.toNat_ofNat, BitVec.toNat_ofNat, BitVec.toNat_ofNat, Nat.mod_eq_of_lt ha, Nat.mod_eq_of_lt hb, Nat.mod_eq_of_lt (Nat.xor_lt_two_pow ha hb)]
/-- the changes of a row, as bits -/
def chs (w r : Nat) : Nat := (r ^^^ (r * 2)) % 2 ^ w
/-- is k a change -/
def chg (r k : Nat) : Bool := r.testBit k != (decide (0 < k) && r.testBit (k - 1))
theorem chs_bit (w r k : Nat) : (chs w r).testBit k = (decide (k < w) && chg r k) := by
  unfold chs chg
  rw [Nat.testBit_mod_two_pow, Nat.testBit_xor, show r * 2 = r * 2 ^ 1 from rfl, Nat.testBit_mul_two_pow]
  cases k with
  | zero => simp
  | succ k => simp
theorem chs_lt (w r : Nat) : chs w r < 2 ^ w := Nat.mod_lt _ (Nat.two_pow_pos w)
theorem fChs {w r : Nat} (hw : w ≤ 40) (hr : r < 2 ^ w) {M : Mm} {Q : Int64 → Mm → Prop} : Rn (fX7_changesOf (lN r) (nI w)) M Q ↔ Q (lN (chs w r)) M := by
  have h40 : r < 2 ^ 40 := Nat.lt_of_lt_of_le hr (pw_le hw)
  have hw2 : 2 ^ w ≤ 2 ^ 40 := pw_le hw
  unfold fX7_changesOf
  rw [Rn_bnd, fAll (by omega), Rn_rtn, show (1 : Int32) = nI 1 from rfl, lsh1 (by omega), lN_xr (by omega) (by omega), wb_mask (Nat.xor_lt_two_pow (by omega) (by omega)) (by omega)]
  rfl

