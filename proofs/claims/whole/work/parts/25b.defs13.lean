theorem ix4n (i : Nat) (j : Nat) : 4 * nI i + nI j = nI (i * 4 + j) := by
  show nI 4 * nI i + nI j = _
  rw [pk_mul, nI_add, Nat.mul_comm]
theorem ix4_0 (i : Nat) : 4 * nI i + 0 = nI (i * 4 + 0) := ix4n i 0
theorem ix4_1 (i : Nat) : 4 * nI i + 1 = nI (i * 4 + 1) := ix4n i 1
theorem ix4_2 (i : Nat) : 4 * nI i + 2 = nI (i * 4 + 2) := ix4n i 2
theorem ix4_3 (i : Nat) : 4 * nI i + 3 = nI (i * 4 + 3) := ix4n i 3
