theorem ne_m1 {n : Nat} (h : n < 2147483648) : ¬ nI n = -1 := by
  intro e
  have := congrArg Int32.toInt e
  rw [nI_tI h, show (-1 : Int32).toInt = -1 from by decide] at this
  omega
