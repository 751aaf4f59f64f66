section CWu
variable {M : Mm} {P : Pg} {O : List Nat}
theorem isOut.xf {X : Nat → Nat → Bool} {M1 : Mm} (o : isOut M O) (x : XF X M M1) (z : X 0 7 = false) (z2 : ∀ i, X 37 i = false) : isOut M1 O := ⟨by rw [x.mi z]; exact o.1, o.2.1, fun i hi => by rw [x.mi (z2 i)]; exact o.2.2 i hi⟩
end CWu

