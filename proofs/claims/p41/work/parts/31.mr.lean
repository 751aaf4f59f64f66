section MRead
variable {M : Mm} {P : Pg} {α : Type} {Q : α → Mm → Prop}
end MRead
section MReadB
variable {M : Mm} {P : Pg} {Q : Int32 → Mm → Prop}
end MReadB
theorem sI_self {M : Mm} {a b : Nat} {v : Int32} : Mi (sI M a b v) a b = v := by rw [Mi_sI, if_pos ⟨rfl, rfl⟩]
section MReadC
variable {M : Mm} {P : Pg}
end MReadC

