/-! THE DRAWN PAGE AND ITS TEXT: what holds while they are made -/
def CI (M : Mm) : Prop := (CO M ∧ isPgC M 1 (pg0 16) ∧ Mi M 5 0 = nI 0 ∧ (∃ n, n < 10 ∧ Mi M 5 1 = nI n) ∧ ∀ i, i < 12 → owR M i = none) ∧ Mi M 9 0 = nI 0 ∧ 38 ≤ Mn M
theorem CI.gx {M M' : Mm} (k : CI M) {X : Nat → Bool} {n : Nat} (x : Gx X n M M') (hn : 38 ≤ n) (hX : ∀ q, q < 38 → X q = false) : CI M' := by
  obtain ⟨⟨k1, k2, k3, ⟨m, k4, k5⟩, k6⟩, k7, k8⟩ := k
  have kq : KQ M (pg0 16) (0, m, Mr M 6, Mr M 7) := ⟨k1, k2, wf_pg0 (by omega) (by omega), ⟨k3, k5, rfl, rfl⟩, k8⟩
  obtain ⟨q1, q2, q3, ⟨q4, q5, q6, q7⟩, q8⟩ := kq.gx x hn hX
  exact ⟨⟨q1, q2, q4, ⟨m, k4, q5⟩, fun i hi => by rw [owR_mr q6 q7]; exact k6 i hi⟩, by rw [x.mi (by omega) (hX 9 (by omega))]; exact k7, q8⟩
theorem CI.cpg {M : Mm} (k : CI M) {B : Nat × Nat} (h1 : 38 ≤ B.1) (h2 : B.1 ≤ Mn M) (h3 : Mn M + 48 ≤ B.2) (h4 : Mn M + 48 ≤ 900000000) : CPg B M (pg0 16) [] (fun _ => none) := by
  obtain ⟨⟨k1, k2, k3, ⟨m, k4, k5⟩, k6⟩, k7, k8⟩ := k
  refine ⟨k1, k2, wf_pg0 (by omega) (by omega), ⟨cn (fun i => (owR M i).isSome) 12, h2, h1, by omega, rfl, fun i p hi hp => ?_, fun i j p q hi _ hp _ _ => ?_⟩, ⟨m, k4, k5, k3, Nat.zero_le _, fun i Q hQ => ?_⟩, fun j hj => k6 (10 + j) (by omega)⟩
  · rw [k6 i hi] at hp; cases hp
  · rw [k6 i hi] at hp; cases hp
  · simp at hQ
/-- another loss -/
theorem QP.setL {M : Mm} {p : Nat} {P : Pg} {hs hl h a : Nat} {R : List Nat} (L : QP M p P (Ps P) hs hl h a R) {k v : Nat} (z1 : hs ≠ hl) (z2 : hl ≠ h) (z3 : a = EB ∨ hl ≠ a) (z4 : ∀ y, y ∈ R → hl ≠ y) : QP (sI M hl k (nI v)) p (pLose P k v) (Ps (pLose P k v)) hs hl h a R := by
  obtain ⟨⟨a1, a2, a3, a4, a5⟩, ⟨b1, b2, b3⟩, ⟨c1, c2, c3⟩, ⟨d1, d2, d3⟩, e1, e2, e3, e4, e5⟩ := L
  have hn : ∀ q, q ≠ hl → Mi (sI M hl k (nI v)) q = Mi M q := fun q hq => up2_ne hq
  refine ⟨⟨a1, by rw [hn p (Ne.symm e2)]; exact a2, a3, a4, a5⟩, ⟨b1, b2, fun j hj => by rw [hn hs z1]; exact b3 j hj⟩, ⟨c1, c2, fun j hj => ?_⟩, ⟨?_, d2, fun l y hy => ?_⟩, e1, e2, e3, e4, e5⟩
  · show Mi (sI M hl k (nI v)) hl j = nI (updN (Ps P) k v j)
    rw [Mi_sI]
    unfold updN
    by_cases q : j = k
    · rw [if_pos ⟨rfl, q⟩, if_pos q]
    · rw [if_neg (fun z => q z.2), if_neg q]; exact c3 j hj
  · obtain ⟨l1, l2, l3, l4, l5⟩ := d1
    exact ⟨l1, l2, by rw [hn h (Ne.symm z2)]; exact l3, l4, l5⟩
  · obtain ⟨r1, r2, r3, r4⟩ := d3 l y hy
    exact ⟨r1, r2, r3, fun j hj => by rw [hn y (Ne.symm (z4 y (List.mem_of_getElem? hy)))]; exact r4 j hj⟩
def BL (M : Mm) (t p hs hl h a sb ab : Nat) (P : Pg) (R xs : List Nat) (c : Nat) : Prop :=
  (CI M ∧ isTo M t) ∧ QP M p P (Ps P) hs hl h a R ∧ isSb M sb ab xs ∧ Pl M c ∧ (39 ≤ p ∧ 39 ≤ hs ∧ 39 ≤ hl ∧ 39 ≤ h) ∧ (p < sb ∧ hs < sb ∧ hl < sb ∧ h < sb) ∧ (hs ≠ hl ∧ hs ≠ h ∧ hl ≠ h ∧ R.Nodup) ∧ (a = EB ∨ sb < a) ∧ ∀ y, y ∈ R → sb < y
section BLD
variable {M : Mm} {t p hs hl h a sb ab : Nat} {P : Pg} {R xs : List Nat} {c : Nat}
theorem BL.qt (k : BL M t p hs hl h a sb ab P R xs c) : QT p hs hl h a R := by
  obtain ⟨-, -, -, -, ⟨h1, h2, h3, h4⟩, ⟨h5, h6, h7, h8⟩, -, h9, h10⟩ := k
  exact ⟨h1, h2, h3, h4, h9.imp id (fun z => by omega), fun y hy => by have := h10 y hy; omega⟩
theorem isL.k15 {M : Mm} {h a : Nat} {xs : List Nat} (l : isL M h a xs) (z : a ≠ EB) : Mk M a = 15 := by
  obtain ⟨-, -, -, -, ⟨w, -⟩ | ⟨-, -, w, -⟩⟩ := l
  · exact absurd w z
  · exact w
/-- all old things stay but the text's -/
theorem BL.txt (k : BL M t p hs hl h a sb ab P R xs c) {M1 : Mm} {c1 ab1 : Nat} {xs1 : List Nat} (g : Gx (x2 sb ab) (Mn M) M M1) (k1 : isSb M1 sb ab1 xs1) (hc : Mn M1 + c ≤ Mn M + c1) : BL M1 t p hs hl h a sb ab1 P R xs1 c1 := by
  obtain ⟨⟨b1, b2⟩, b3, b4, b5, ⟨h1, h2, h3, h4⟩, ⟨h5, h6, h7, h8⟩, n, h9, h10⟩ := k
  have hsb := b4.2.1.1
  have hab := b4.2.1.2
  have hEn : EB = 1000000500 := EB_v
  refine ⟨⟨b1.gx g b1.2.2 (fun q hq => x2_f (by omega) (by omega)), b2.gx g b2.1 (x2_f (by omega) (by omega))⟩, b3.gn g (x2_f (by omega) (by omega)) (x2_f (by omega) (by omega)) (x2_f (by omega) (by omega)) (x2_f (by omega) (by omega)) (fun z => x2_f (by omega) (fun e => ?_)) (fun y hy => x2_f (by have := h10 y hy; omega) (fun e => ?_)), k1, b5.go g hc, ⟨h1, h2, h3, h4⟩, ⟨h5, h6, h7, h8⟩, n, h9, h10⟩
  · have := b3.2.2.2.1.1.k15 z
    rw [e, hab.2] at this; cases this
  · obtain ⟨i, hi⟩ := List.mem_iff_getElem?.mp hy
    have := (b3.2.2.2.1.2.2 i y hi).2.1
    rw [e, hab.2] at this; cases this
theorem BL.go (k : BL M t p hs hl h a sb ab P R xs c) {M1 : Mm} {c1 : Nat} (g : Gx xO (Mn M) M M1) (hc : Mn M1 + c ≤ Mn M + c1) : BL M1 t p hs hl h a sb ab P R xs c1 := by
  have b4 := k.2.2.1
  exact k.txt (g.mono (Nat.le_refl _) (fun _ _ _ => rfl)) (b4.gx g b4.1.1 rfl b4.2.1.2.1 rfl) hc
theorem BL.nx (k : BL M t p hs hl h a sb ab P R xs c) {M1 : Mm} {t1 c1 : Nat} (g : Gx (x1 38) (Mn M) M M1) (o : isTo M1 t1) (hc : Mn M1 + c ≤ Mn M + c1) : BL M1 t1 p hs hl h a sb ab P R xs c1 := by
  obtain ⟨⟨b1, b2⟩, b3, b4, b5, ⟨h1, h2, h3, h4⟩, ⟨h5, h6, h7, h8⟩, n, h9, h10⟩ := k
  have hsb := b4.2.1.1
  exact ⟨⟨b1.gx g b1.2.2 (fun q hq => x1_f (by omega)), o⟩, b3.gn g (x1_f (by omega)) (x1_f (by omega)) (x1_f (by omega)) (x1_f (by omega)) (fun z => x1_f (by omega)) (fun y hy => x1_f (by have := h10 y hy; omega)), b4.gx g b4.1.1 (x1_f (by omega)) b4.2.1.2.1 (x1_f (by omega)), b5.go g hc, ⟨h1, h2, h3, h4⟩, ⟨h5, h6, h7, h8⟩, n, h9, h10⟩
/-- one more row in the list -/
theorem BL.row (k : BL M t p hs hl h a sb ab P R xs c) (hM : c ≤ 900000000) {x r : Nat} (hx : isBr M x (Pw P) r) (hx1 : sb < x) (hxR : x ∉ R) {M1 : Mm} {a1 c1 : Nat} (g : Gx (x2 h a) (Mn M) M M1) (l1 : isL M1 h a1 (R ++ [x])) (ha : a1 ≠ EB) (ha2 : (a1 = a ∧ a ≠ EB) ∨ Mn M ≤ a1) (hc : Mn M1 + c ≤ Mn M + c1) : BL M1 t p hs hl h a1 sb ab (pAdd P r) (R ++ [x]) xs c1 := by
  obtain ⟨⟨b1, b2⟩, b3, b4, b5, ⟨h1, h2, h3, h4⟩, ⟨h5, h6, h7, h8⟩, n, h9, h10⟩ := k
  have hsb := b4.2.1.1
  have hab := b4.2.1.2
  have hEn : EB = 1000000500 := EB_v
  obtain ⟨⟨a1', a2, a3, a4, a5⟩, ⟨s1, s2, s3⟩, ⟨t1, t2, t3⟩, ⟨d1, d2, d3⟩, e1, e2, e3, e4, e5⟩ := b3
  have hm := g.mn
  have hm5 := b5.1
  have old : ∀ q, q < sb → q ≠ h → x2 h a q = false := fun q hq hn => x2_f hn (by omega)
  have nod : (R ++ [x]).Nodup := by
    refine List.nodup_append.mpr ⟨n.2.2.2, List.nodup_cons.mpr ⟨List.not_mem_nil, List.nodup_nil⟩, fun u hu w hw e => ?_⟩
    have hw : w = x := by simpa using hw
    rw [e, hw] at hu
    exact hxR hu
  have rowX : ∀ y w r', isBr M y w r' → sb < y → x2 h a y = false := fun y w r' hy hy1 => x2_f (by omega) (fun e => by
    by_cases z : a = EB
    · have := hy.1; omega
    · have := d1.k15 z
      have hk := hy.2.1
      rw [e, this] at hk; cases hk)
  refine ⟨⟨b1.gx g b1.2.2 (fun q hq => old q (by omega) (by omega)), b2.gx g b2.1 (old 38 (by omega) (by omega))⟩, ⟨⟨by omega, by rw [g.mi a1' (old p h5 (Ne.symm e3))]; exact a2, by rw [g.mr a1' (old p h5 (Ne.symm e3))]; exact a3, by rw [g.mr a1' (old p h5 (Ne.symm e3))]; exact a4, by rw [g.mr a1' (old p h5 (Ne.symm e3))]; exact a5⟩, ⟨by omega, by rw [g.ml s1]; exact s2, fun k hk => by rw [g.mi s1 (old hs h6 n.2.1)]; exact s3 k hk⟩, ⟨by omega, by rw [g.ml t1]; exact t2, fun k hk => by rw [g.mi t1 (old hl h7 n.2.2.1)]; exact t3 k hk⟩, ⟨l1, by rw [List.length_append, d2]; rfl, fun l y hy => ?_⟩, e1, e2, e3, by omega, fun y hy => ?_⟩, b4.gx g b4.1.1 (x2_f (by omega) (by omega)) hab.1 (x2_f (by omega) (fun e => ?_)), b5.go g hc, ⟨h1, h2, h3, h4⟩, ⟨h5, h6, h7, h8⟩, ⟨n.1, n.2.1, n.2.2.1, nod⟩, Or.inr (by omega), fun y hy => ?_⟩
  · by_cases q : l < R.length
    · rw [List.getElem?_append_left q] at hy
      have b := d3 l y hy
      have hy1 := h10 y (List.mem_of_getElem? hy)
      have : Pr (pAdd P r) l = Pr P l := updN_n (by omega)
      rw [this]
      exact b.gx g b.1 (rowX y _ _ b hy1)
    · have hi' : l < (R ++ [x]).length := (List.getElem?_eq_some_iff.mp hy).1
      rw [List.length_append] at hi'
      have e1 : ([x] : List Nat).length = 1 := rfl
      have : l = R.length := by omega
      subst this
      rw [List.getElem?_append_right (Nat.le_refl _), Nat.sub_self] at hy
      have hy : some x = some y := hy
      cases hy
      have : Pr (pAdd P r) R.length = r := by
        rw [d2]; exact updN_s _ _ _
      rw [this]
      exact hx.gx g hx.1 (rowX x _ _ hx hx1)
  · rcases List.mem_append.mp hy with w | w
    · have := h10 y w; omega
    · have : y = x := by simpa using w
      omega
  · by_cases z : a = EB
    · omega
    · have := d1.k15 z
      rw [← e, hab.2] at this; cases this
  · rcases List.mem_append.mp hy with w | w
    · exact h10 y w
    · have : y = x := by simpa using w
      omega
/-- a setting, a loss -/
theorem BL.stI (k : BL M t p hs hl h a sb ab P R xs c) {j v : Nat} : BL (sI M hs j (nI v)) t p hs hl h a sb ab (pSet P j v) R xs c := by
  obtain ⟨⟨b1, b2⟩, b3, b4, b5, ⟨h1, h2, h3, h4⟩, ⟨h5, h6, h7, h8⟩, n, h9, h10⟩ := k
  have g : Gx (x1 hs) (Mn M) M (sI M hs j (nI v)) := Gx.rf.sI (fun _ => by simp [x1])
  have hsb := b4.2.1.1
  exact ⟨⟨b1.gx g b1.2.2 (fun q hq => x1_f (by omega)), b2.gx g b2.1 (x1_f (by omega))⟩, b3.setT n.1 n.2.1 (h9.imp id (fun z => by omega)) (fun y hy => by have := h10 y hy; omega), b4.gx g b4.1.1 (x1_f (by omega)) b4.2.1.2.1 (x1_f (by omega)), b5, ⟨h1, h2, h3, h4⟩, ⟨h5, h6, h7, h8⟩, n, h9, h10⟩
theorem BL.lsI (k : BL M t p hs hl h a sb ab P R xs c) {j v : Nat} : BL (sI M hl j (nI v)) t p hs hl h a sb ab (pLose P j v) R xs c := by
  obtain ⟨⟨b1, b2⟩, b3, b4, b5, ⟨h1, h2, h3, h4⟩, ⟨h5, h6, h7, h8⟩, n, h9, h10⟩ := k
  have g : Gx (x1 hl) (Mn M) M (sI M hl j (nI v)) := Gx.rf.sI (fun _ => by simp [x1])
  have hsb := b4.2.1.1
  exact ⟨⟨b1.gx g b1.2.2 (fun q hq => x1_f (by omega)), b2.gx g b2.1 (x1_f (by omega))⟩, b3.setL n.1 n.2.2.1 (h9.imp id (fun z => by omega)) (fun y hy => by have := h10 y hy; omega), b4.gx g b4.1.1 (x1_f (by omega)) b4.2.1.2.1 (x1_f (by omega)), b5, ⟨h1, h2, h3, h4⟩, ⟨h5, h6, h7, h8⟩, n, h9, h10⟩
end BLD
