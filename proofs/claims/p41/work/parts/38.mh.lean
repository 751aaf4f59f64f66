/-! THE REFERENCE: undo, save, restore -/
def spUndo (P : Pg) (U : List Pg) : Int32 × (Pg × List Pg) := match U[U.length - 1]? with
  | some Q => (nI (U.length - 1), (Q, U.take (U.length - 1)))
  | none => (-1, (P, U))
section MBack
variable {M : Mm} {P : Pg} {U : List Pg}
end MBack

