/-! A SENDING: a step back, a row put in place -/
theorem fit13 (b : Bool) : fitK 13 (nI (bN b)) = true := by cases b <;> decide
theorem lClone {M : Mm} {h w r : Nat} (b : isBr M h w r) (hn : Mn M < 1000000000) {c s : Nat} : Rw (nC 13 h) M c s (fun h' M' c' s' => h' = Mn M ∧ Gx xO (Mn M) M M' ∧ Mn M' = Mn M + 1 ∧ isBr M' (Mn M) w r ∧ c' = c + 1 ∧ s' = s + w) := by
  obtain ⟨b1, b2, b3, b4⟩ := b
  have e : nC 13 h M = some (Mn M, cpy M 13 h, 1, Ml M h) := by
    unfold nC
    rw [if_pos]
    rw [Bool.and_eq_true]
    refine ⟨decide_eq_true (show Mn M < SB from hn), List.all_eq_true.mpr (fun i hi => ?_)⟩
    rw [List.mem_range, b3] at hi
    rw [b4 i hi]; exact fit13 _
  refine ⟨_, _, _, _, e, rfl, ?_, rfl, ⟨?_, ?_, ?_, fun k hk => ?_⟩, rfl, by rw [b3]⟩
  · have g := Gx.rf (X := xO) (n := Mn M) (M := M) |>.nw (Nat.le_refl _) hn (kd := 13) (ln := Ml M h)
    refine ⟨g.1, g.2.1, g.2.2.1, fun q hq hz => ⟨?_, (g.2.2.2 q hq hz).2.1, (g.2.2.2 q hq hz).2.2⟩⟩
    funext b
    show (if q = M.1.1 then _ else _) = _
    rw [if_neg (by have : Mn M = M.1.1 := rfl; omega)]; rfl
  · show Mn M < Mn M + 1; omega
  · show Mk (nw M 13 (Ml M h)) (Mn M) = 13; rw [Mk_nw, if_pos rfl]
  · show Ml (nw M 13 (Ml M h)) (Mn M) = w; rw [Ml_nw, if_pos rfl, b3]
  · show (if Mn M = M.1.1 then Mi M h k else _) = _
    exact (if_pos (show Mn M = M.1.1 from rfl)).trans (b4 k hk)
theorem nI_m1 {l : Nat} (h : 1 ≤ l) (h2 : l < 1000) : nI l + (-1) = nI (l - 1) := by
  have : ∀ l, 1 ≤ l → l < 1000 → nI l + (-1) = nI (l - 1) := by
    intro l h1 h2
    rw [← Int32.sub_eq_add_neg]
    exact nsb (b := 1) h1
  exact this l h h2
theorem nI_m1p (l : Nat) : nI l + (-1) + 1 = nI l := by
  rw [← Int32.sub_eq_add_neg]; exact Int32.sub_add_cancel _ _
section SD
variable {M : Mm} {p : Nat} {P : Pg} {lo b : Nat → Nat} {hs hl h a : Nat} {R : List Nat} {c s : Nat} {k96 : Nat → Int32 → Int32 → Mm → Option (Unit × Mm × Nat × Nat)} {Q : Unit → Mm → Nat → Nat → Prop}
theorem sm_le243 (b : Nat → Nat) (e n : Nat) : sm (uMk b e) n ≤ 243 * n := sm_le (fun i => uMk_m b e i) n
/-- back to the latest mark -/
theorem lWalk (L : QP M p P lo hs hl h a R) (hP : okP P b) {l : Nat} (hl' : l < PL P) (hp : Pl M c) (hc : c ≤ 867000000) (k : ∀ M' c' s', Gx xO (Mn M) M M' → Pl M' c' → Mn M' + c ≤ Mn M + c' → c ≤ c' → c' ≤ c + sm (uMk b (Pt P 0)) (l + 1) → s' ≤ s + sm (vMk b (Pt P 0)) (l + 1) → Rw (k96 p (nI (PL P)) (nI (mkU P l))) M' c' s' Q) : Rw (gX9_send_L351 k96 fu p (nI (PL P)) (nI l)) M c s Q := by
  have h7 := hP.2.2.1
  refine rw_loopv (F := fun n (j : Nat) => gX9_send_L351 k96 n p (nI (PL P)) (nI j)) (fun j M' c' s' => j ≤ l ∧ mkU P j = mkU P l ∧ Gx xO (Mn M) M M' ∧ Pl M' c' ∧ Mn M' + c ≤ Mn M + c' ∧ c ≤ c' ∧ c' + sm (uMk b (Pt P 0)) (j + 1) ≤ c + sm (uMk b (Pt P 0)) (l + 1) ∧ s' + sm (vMk b (Pt P 0)) (j + 1) ≤ s + sm (vMk b (Pt P 0)) (l + 1)) (fun j => j) ?_ fu l M c s (by unfold fu; omega) ⟨Nat.le_refl _, rfl, Gx.rf, hp, Nat.le_refl _, Nat.le_refl _, Nat.le_refl _, Nat.le_refl _⟩
  rintro n j M1 c1 s1 ⟨hj, hmk, g1, p1, f1, f2, f3, f4⟩ ih
  have sl := sm_le243 b (Pt P 0) (l + 1)
  show Rw (gX9_send_L351 k96 (n + 1) p (nI (PL P)) (nI j)) _ _ _ _
  unfold gX9_send_L351
  rw [Rw_wq]
  refine (lIsMark (L.go g1) hP (show j < PL P by omega) p1 (by omega)).mono ?_
  rintro v M2 c2 s2 ⟨rfl, g2, ⟨e1, e2, e3, e4⟩, p2⟩
  have g12 := g1.tr (g2.mono g1.mn (fun _ _ z => z))
  rw [sm_s] at f3 f4
  refine Rw_cs (d := isMk P j = false) (bN_t _) (fun z => ?_) (fun z => ?_)
  · have hj0 : j ≠ 0 := fun e => by
      have : isMk P 0 = true := by unfold isMk; simp
      rw [e, this] at z; cases z
    rw [nI_m1 (by omega) (by omega)]
    obtain ⟨i, rfl⟩ : ∃ i, j = i + 1 := ⟨j - 1, by omega⟩
    rw [Nat.add_sub_cancel]
    refine ih i M2 c2 s2 ⟨by omega, ?_, g12, p2, by omega, by omega, by omega, by omega⟩ (by omega)
    rw [← hmk]
    show mkU P i = if isMk P (i + 1) = true then i + 1 else mkU P i
    rw [if_neg (by rw [z]; decide)]
  · have z : isMk P j = true := by cases q : isMk P j with
      | true => rfl
      | false => exact absurd q z
    have e : mkU P l = j := by
      rw [← hmk]
      cases j with
      | zero => rfl
      | succ i =>
        show (if isMk P (i + 1) = true then i + 1 else mkU P i) = i + 1
        rw [if_pos z]
    unfold gX9_send_L430
    rw [nI_m1p]
    have := k M2 c2 s2 g12 p2 (by omega) (by omega) (by omega) (by omega)
    rw [e] at this
    exact this
theorem lI_x {M : Mm} {x n l : Nat} {f : Nat → Nat} (hx : Ml M x = n) (hl : l < n) (hn : n ≤ 20) (hf : Mi M x l = nI (f l)) {Q : Int32 → Mm → Prop} : Rn (lI x (nI l)) M Q ↔ Q (nI (f l)) M := by
  rw [rn_lI (by omega), hx, hf]
  exact ⟨fun z => z.2, fun z => ⟨hl, z⟩⟩
theorem aI_x {M : Mm} {x n l : Nat} {v : Int32} (hx : Ml M x = n) (hl : l < n) (hn : n ≤ 20) {Q : Unit → Mm → Prop} : Rn (aI x (nI l) v) M Q ↔ Q () (sI M x l v) := by
  rw [rn_aI (by omega), hx]
  exact ⟨fun z => z.2, fun z => ⟨hl, z⟩⟩
/-- a number is written beside the states: what a write to a row of numbers leaves -/
theorem QS.x5 {N ag x : Nat} {G : List Nat} {S : Sn} (q : QS M N p P S ag x G) {l v : Nat} : QS (sI M x l (nI v)) N p P (zG S, updN (zS S) l v, zT S, zC S, zK S, zA S, zD S, zP S, zL S, zU S) ag x G := by
  obtain ⟨-, -, -, d, e, f1, f2, -⟩ := id q
  refine q.up rfl rfl (fun y hy hy2 => up2_ne (by omega)) (fun j hj => ?_) ?_ rfl
  · obtain ⟨d1, d2, d3, d4⟩ := d j hj
    refine ⟨?_, by rw [Mi_sI, if_neg (by omega)]; exact d2, by rw [Mi_sI, if_neg (by omega)]; exact d3, by rw [Mi_sI, if_neg (by omega)]; exact d4⟩
    show Mi (sI M x l (nI v)) x j = nI (updN (zS S) l v j)
    rw [Mi_sI]
    by_cases e : j = l
    · rw [if_pos ⟨rfl, e⟩, e, updN_s]
    · rw [if_neg (fun z => e z.2), updN_n e]; exact d1
  · rw [up2_ne (show p ≠ x by omega) (f := M.2.1) (k := l) (v := nI v) |> fun z => (show Mi (sI M x l (nI v)) p = Mi M p from z)]
    exact e
theorem QS.x6 {N ag x : Nat} {G : List Nat} {S : Sn} (q : QS M N p P S ag x G) {l v d9 : Nat} : QS (sI M (x + 1) l (nI v)) N p P (zG S, zS S, updN (zT S) l v, zC S, zK S, zA S, d9, zP S, zL S, zU S) ag x G := by
  obtain ⟨-, -, -, d, e, f1, f2, -⟩ := id q
  refine q.up rfl rfl (fun y hy hy2 => up2_ne (by omega)) (fun j hj => ?_) ?_ rfl
  · obtain ⟨d1, d2, d3, d4⟩ := d j hj
    refine ⟨by rw [Mi_sI, if_neg (by omega)]; exact d1, ?_, by rw [Mi_sI, if_neg (by omega)]; exact d3, by rw [Mi_sI, if_neg (by omega)]; exact d4⟩
    show Mi (sI M (x + 1) l (nI v)) (x + 1) j = nI (updN (zT S) l v j)
    rw [Mi_sI]
    by_cases e : j = l
    · rw [if_pos ⟨rfl, e⟩, e, updN_s]
    · rw [if_neg (fun z => e z.2), updN_n e]; exact d2
  · have z : Mi (sI M (x + 1) l (nI v)) p = Mi M p := up2_ne (by omega)
    rw [z]
    exact e
theorem QS.x7 {N ag x : Nat} {G : List Nat} {S : Sn} (q : QS M N p P S ag x G) {l v : Nat} : QS (sI M (x + 2) l (nI v)) N p P (zG S, zS S, zT S, updN (zC S) l v, zK S, zA S, zD S, zP S, zL S, zU S) ag x G := by
  obtain ⟨-, -, -, d, e, f1, f2, -⟩ := id q
  refine q.up rfl rfl (fun y hy hy2 => up2_ne (by omega)) (fun j hj => ?_) ?_ rfl
  · obtain ⟨d1, d2, d3, d4⟩ := d j hj
    refine ⟨by rw [Mi_sI, if_neg (by omega)]; exact d1, by rw [Mi_sI, if_neg (by omega)]; exact d2, ?_, by rw [Mi_sI, if_neg (by omega)]; exact d4⟩
    show Mi (sI M (x + 2) l (nI v)) (x + 2) j = nI (updN (zC S) l v j)
    rw [Mi_sI]
    by_cases e : j = l
    · rw [if_pos ⟨rfl, e⟩, e, updN_s]
    · rw [if_neg (fun z => e z.2), updN_n e]; exact d3
  · have z : Mi (sI M (x + 2) l (nI v)) p = Mi M p := up2_ne (by omega)
    rw [z]
    exact e
theorem QS.x8 {N ag x : Nat} {G : List Nat} {S : Sn} (q : QS M N p P S ag x G) {l v : Nat} : QS (sI M (x + 3) l (nI v)) N p P (zG S, zS S, zT S, zC S, updN (zK S) l v, zA S, zD S, zP S, zL S, zU S) ag x G := by
  obtain ⟨-, -, -, d, e, f1, f2, -⟩ := id q
  refine q.up rfl rfl (fun y hy hy2 => up2_ne (by omega)) (fun j hj => ?_) ?_ rfl
  · obtain ⟨d1, d2, d3, d4⟩ := d j hj
    refine ⟨by rw [Mi_sI, if_neg (by omega)]; exact d1, by rw [Mi_sI, if_neg (by omega)]; exact d2, by rw [Mi_sI, if_neg (by omega)]; exact d3, ?_⟩
    show Mi (sI M (x + 3) l (nI v)) (x + 3) j = nI (updN (zK S) l v j)
    rw [Mi_sI]
    by_cases e : j = l
    · rw [if_pos ⟨rfl, e⟩, e, updN_s]
    · rw [if_neg (fun z => e z.2), updN_n e]; exact d4
  · have z : Mi (sI M (x + 3) l (nI v)) p = Mi M p := up2_ne (by omega)
    rw [z]
    exact e
/-- a count of the page itself -/
theorem QS.pk {N ag x : Nat} {G : List Nat} {S : Sn} (q : QS M N p P S ag x G) {k v : Nat} (S' : Sn) (hS : zG S' = zG S ∧ zS S' = zS S ∧ zT S' = zT S ∧ zC S' = zC S ∧ zK S' = zK S) (h9 : zA S' = if k = 9 then v else zA S) (h10 : zP S' = if k = 10 then v else zP S) (h11 : zL S' = if k = 11 then v else zL S) (h12 : zU S' = if k = 12 then v else zU S) : QS (sI M p k (nI v)) N p P S' ag x G := by
  obtain ⟨-, -, -, d, ⟨e1, e2, e3, e4⟩, f1, f2, -⟩ := id q
  refine q.up rfl rfl (fun y hy hy2 => up2_ne hy) (fun j hj => ?_) ⟨?_, ?_, ?_, ?_⟩ hS.1
  · rw [hS.2.1, hS.2.2.1, hS.2.2.2.1, hS.2.2.2.2]
    have z : ∀ y, y ≠ p → Mi (sI M p k (nI v)) y = Mi M y := fun y hy => up2_ne hy
    rw [z x (by omega), z (x + 1) (by omega), z (x + 2) (by omega), z (x + 3) (by omega)]
    exact d j hj
  · rw [h9, Mi_sI]
    by_cases w : k = 9
    · rw [if_pos ⟨rfl, w.symm⟩, if_pos w]
    · rw [if_neg (fun z => w z.2.symm), if_neg w]; exact e1
  · rw [h10, Mi_sI]
    by_cases w : k = 10
    · rw [if_pos ⟨rfl, w.symm⟩, if_pos w]
    · rw [if_neg (fun z => w z.2.symm), if_neg w]; exact e2
  · rw [h11, Mi_sI]
    by_cases w : k = 11
    · rw [if_pos ⟨rfl, w.symm⟩, if_pos w]
    · rw [if_neg (fun z => w z.2.symm), if_neg w]; exact e3
  · rw [h12, Mi_sI]
    by_cases w : k = 12
    · rw [if_pos ⟨rfl, w.symm⟩, if_pos w]
    · rw [if_neg (fun z => w z.2.symm), if_neg w]; exact e4
end SD
