theorem ix13d (i c : Nat) : 13 * nI i + nI c = nI (i * 13 + c) := by rw [ix13c, Nat.mul_comm]
