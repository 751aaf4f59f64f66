/-! THE CLASS writes -/
def isOut (M : Mm) (O : List Nat) : Prop := Mi M 0 7 = nI O.length ∧ O.length ≤ 300 ∧ ∀ i, i < O.length → Mi M 37 i = nI (O.getD i 0)
section CWr
variable {M : Mm} {O : List Nat}
end CWr

