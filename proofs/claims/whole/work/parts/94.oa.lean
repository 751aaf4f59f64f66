/-! THE CONSTRUCTORS, run from an empty pool: the class at 0 to 37, the reference at 38 to 60 -/
def pre8 (x0 : Nat) : Mm → Option (Unit × Mm) :=
  bnd (nwA 11 828) fun h1 =>
  bnd (pA x0 1 h1) fun _ =>
  bnd (nwA 11 828) fun h2 =>
  bnd (pA x0 2 h2) fun _ =>
  bnd (nwA 11 8280) fun h3 =>
  bnd (pA x0 3 h3) fun _ =>
  bnd (nwA 11 1656) fun h4 =>
  bnd (pA x0 5 h4) fun _ =>
  bnd (nwA 13 2) fun h5 =>
  bnd (pA x0 6 h5) fun _ =>
  bnd (nwA 11 40) fun h6 =>
  bnd (pA x0 7 h6) fun _ =>
  bnd (nwA 11 40) fun h7 =>
  bnd (pA x0 8 h7) fun _ =>
  bnd (nwA 11 48) fun h8 =>
  bnd (pA x0 10 h8) fun _ =>
  bnd (nwA 11 48) fun h9 =>
  bnd (pA x0 11 h9) fun _ =>
  bnd (nwA 11 48) fun h10 =>
  bnd (pA x0 12 h10) fun _ =>
  bnd (nwA 11 48) fun h11 =>
  bnd (pA x0 13 h11) fun _ =>
  bnd (nwA 11 40) fun h12 =>
  bnd (pA x0 15 h12) fun _ =>
  bnd (nwA 11 44) fun h13 =>
  bnd (pA x0 18 h13) fun _ =>
  bnd (nwA 11 800) fun h14 =>
  bnd (pA x0 20 h14) fun _ =>
  bnd (nwA 11 20) fun h15 =>
  bnd (pA x0 21 h15) fun _ =>
  bnd (nwA 11 20) fun h16 =>
  bnd (pA x0 22 h16) fun _ =>
  bnd (nwA 11 20) fun h17 =>
  bnd (pA x0 23 h17) fun _ =>
  bnd (nwA 11 20) fun h18 =>
  bnd (pA x0 24 h18) fun _ =>
  bnd (nwA 11 20) fun h19 =>
  bnd (pA x0 25 h19) fun _ =>
  bnd (nwA 10 900) fun h20 =>
  bnd (pA x0 31 h20) fun _ =>
  bnd (pI x0 38 (-1)) fun _ =>
  bnd (nwA 10 37) fun h21 =>
  bnd (aB h21 0 108) fun _ =>
  bnd (aB h21 1 105) fun _ =>
  bnd (aB h21 2 110) fun _ =>
  bnd (aB h21 3 101) fun _ =>
  bnd (aB h21 4 32) fun _ =>
  bnd (aB h21 5 97) fun _ =>
  bnd (aB h21 6 108) fun _ =>
  bnd (aB h21 7 111) fun _ =>
  bnd (aB h21 8 110) fun _ =>
  bnd (aB h21 9 101) fun _ =>
  bnd (aB h21 10 32) fun _ =>
  bnd (aB h21 11 97) fun _ =>
  bnd (aB h21 12 98) fun _ =>
  bnd (aB h21 13 111) fun _ =>
  bnd (aB h21 14 118) fun _ =>
  bnd (aB h21 15 101) fun _ =>
  bnd (aB h21 16 32) fun _ =>
  bnd (aB h21 17 115) fun _ =>
  bnd (aB h21 18 101) fun _ =>
  bnd (aB h21 19 116) fun _ =>
  bnd (aB h21 20 32) fun _ =>
  bnd (aB h21 21 108) fun _ =>
  bnd (aB h21 22 111) fun _ =>
  bnd (aB h21 23 115) fun _ =>
  bnd (aB h21 24 115) fun _ =>
  bnd (aB h21 25 32) fun _ =>
  bnd (aB h21 26 119) fun _ =>
  bnd (aB h21 27 105) fun _ =>
  bnd (aB h21 28 100) fun _ =>
  bnd (aB h21 29 101) fun _ =>
  bnd (aB h21 30 32) fun _ =>
  bnd (aB h21 31 112) fun _ =>
  bnd (aB h21 32 32) fun _ =>
  bnd (aB h21 33 118) fun _ =>
  bnd (aB h21 34 32) fun _ =>
  bnd (aB h21 35 104) fun _ =>
  bnd (aB h21 36 32) fun _ =>
  bnd (pA x0 39 h21) fun _ =>
  bnd (nwA 10 600) fun h22 =>
  bnd (pA x0 40 h22) fun _ =>
  rtn ()
def E0 : Mm := ((0, fun _ => 0, fun _ => 0), fun _ _ => 0, fun _ _ => 0, fun _ _ => none)
theorem bnd_as {α β γ : Type} {m : Mm → Option (α × Mm)} {k : α → Mm → Option (β × Mm)} {k' : β → Mm → Option (γ × Mm)} : bnd (bnd m k) k' = bnd m (fun a => bnd (k a) k') := by
  funext M
  unfold bnd
  cases m M <;> rfl
theorem bnd_rt {α β : Type} {a : α} {k : α → Mm → Option (β × Mm)} : bnd (rtn a) k = k a := rfl
theorem init8 (x0 : Nat) : fX8_init x0 = bnd (pre8 x0) fun _ => bnd (fX8_begins x0 16) fun _ => bnd (gA x0 2) fun v23 => bnd (gA x0 1) fun v24 => bnd (fX8_copies v23 0 v24 0) fun _ => rtn () := by
  unfold pre8 fX8_init
  simp only [bnd_as, bnd_rt]
def begP : Mm → Option (Unit × Mm) := bnd (nwO 7) fun x => bnd (fX7_init x) fun _ => bnd (nwO 8) fun m => pre8 m
/-- what the constructors leave, cell by cell -/
def begB (M : Mm) : Bool :=
  (Mn M == 61) && coR.all (fun q => Mr M q.1 q.2.1 == some q.2.2) && coL.all (fun q => Ml M q.1 == q.2) &&
  (Mi M 1 0 == 16) && (Mi M 1 1 == 0) && (List.range 20).all (fun l => Mi M 3 l == 0) && (List.range 6).all (fun k => Mi M 4 k == nI ([4, 0, 0, 0, 8, 16].getD k 0)) &&
  (Mi M 5 0 == 0) && (Mi M 5 1 == 0) && (List.range 12).all (fun i => owR M i == none) &&
  (Mi M 9 0 == 0) && (Mi M 8 0 == 0) && (Mi M 8 1 == -1) && (Mi M 0 7 == 0) &&
  (List.range 42).all (fun k => Mr M 38 k == moR k) && (List.range 22).all (fun k => Ml M (39 + k) == moL (39 + k)) &&
  (Mi M 38 4 == 0) && (Mi M 38 32 == 0) && (Mi M 38 37 == 0) && (Mi M 38 38 == -1) && (Mi M 38 41 == 0) &&
  (List.range 37).all (fun i => Mi M 59 i == nI (wB.getD i 0)) && (Mi M 43 0 == 0) && (Mi M 43 1 == 0)
def begC : Bool := match begP E0 with
  | some (_, M) => begB M
  | none => false
theorem begC_t : begC = true := by decide +kernel
