/-! ===== the arithmetic, as both programs do it ===== -/
/-- division rounded down -/
def fdiv (x y : Int64) : Int64 := if (x ^^^ y) < 0 ∧ ¬ (x / y) * y = x then x / y - 1 else x / y
def fdivI (x y : Int32) : Int32 := if (x ^^^ y) < 0 ∧ ¬ (x / y) * y = x then x / y - 1 else x / y
theorem fdiv_a {x y : Int64} (h : 0 ≤ (x ^^^ y).toInt) : x / y = fdiv x y := by
  unfold fdiv
  rw [if_neg]
  intro q
  have := Int64.lt_iff_toInt_lt.mp q.1
  have h0 : (0 : Int64).toInt = 0 := by decide
  omega
theorem fdiv_b {x y : Int64} (h : (x / y) * y = x) : x / y = fdiv x y := by
  unfold fdiv
  rw [if_neg]
  intro q
  exact q.2 h
theorem fdiv_c {x y : Int64} (h : (x ^^^ y).toInt < 0) (h2 : ¬ (x / y) * y = x) : x / y - 1 = fdiv x y := by
  unfold fdiv
  rw [if_pos]
  exact ⟨Int64.lt_iff_toInt_lt.mpr (by rw [show (0 : Int64).toInt = 0 by decide]; exact h), h2⟩
theorem fdivI_a {x y : Int32} (h : 0 ≤ (x ^^^ y).toInt) : x / y = fdivI x y := by
  unfold fdivI
  rw [if_neg]
  intro q
  have := Int32.lt_iff_toInt_lt.mp q.1
  have h0 : (0 : Int32).toInt = 0 := by decide
  omega
theorem fdivI_b {x y : Int32} (h : (x / y) * y = x) : x / y = fdivI x y := by
  unfold fdivI
  rw [if_neg]
  intro q
  exact q.2 h
theorem fdivI_c {x y : Int32} (h : (x ^^^ y).toInt < 0) (h2 : ¬ (x / y) * y = x) : x / y - 1 = fdivI x y := by
  unfold fdivI
  rw [if_pos]
  exact ⟨Int32.lt_iff_toInt_lt.mpr (by rw [show (0 : Int32).toInt = 0 by decide]; exact h), h2⟩
def zlim (v m : Int64) : Int64 := zmax (-m) (zmin m v)
def sq3 (x y z : Int64) : Int64 := x * x + y * y + z * z
def crs (a b : Nat → Int64) : Nat → Int64 := fun j => match j with
  | 0 => a 1 * b 2 - a 2 * b 1
  | 1 => a 2 * b 0 - a 0 * b 2
  | _ => a 0 * b 1 - a 1 * b 0
theorem isq_ex : ∀ n : Nat, ∃ r : Nat, r * r ≤ n ∧ n < (r + 1) * (r + 1)
  | 0 => ⟨0, by decide⟩
  | n + 1 => by
    obtain ⟨r, h1, h2⟩ := isq_ex n
    by_cases h : n + 1 < (r + 1) * (r + 1)
    · exact ⟨r, by omega, h⟩
    · refine ⟨r + 1, by omega, ?_⟩
      have : (r + 1 + 1) * (r + 1 + 1) = (r + 1) * (r + 1) + 2 * (r + 1) + 1 := by
        simp only [Nat.mul_add, Nat.add_mul]; omega
      omega
noncomputable def isqN (n : Nat) : Nat := (isq_ex n).choose
theorem isqN_spec (n : Nat) : isqN n * isqN n ≤ n ∧ n < (isqN n + 1) * (isqN n + 1) := (isq_ex n).choose_spec
theorem isqN_eq {n r : Nat} (h1 : r * r ≤ n) (h2 : n < (r + 1) * (r + 1)) : r = isqN n := by
  obtain ⟨g1, g2⟩ := isqN_spec n
  rcases Nat.lt_trichotomy r (isqN n) with h | h | h
  · have : (r + 1) * (r + 1) ≤ isqN n * isqN n := Nat.mul_le_mul h h
    omega
  · exact h
  · have : (isqN n + 1) * (isqN n + 1) ≤ r * r := Nat.mul_le_mul h h
    omega
noncomputable def isq (a : Int64) : Int64 := Int64.ofNat (isqN a.toInt.toNat)
/-! the square root bit by bit -/
def rt_inv (a : Int) (j r : Nat) : Prop := j ≤ 31 ∧ r * r ≤ a.toNat ∧ a.toNat < (r + 2 ^ j) * (r + 2 ^ j) ∧ r + 2 ^ j ≤ 2147483648
theorem rt_0 {a : Int} (h : a < 2 ^ 62) : rt_inv a 31 0 := by
  refine ⟨by decide, Nat.zero_le _, ?_, by decide⟩
  have : (0 + 2 ^ 31) * (0 + 2 ^ 31) = 4611686018427387904 := by decide
  omega
theorem rt_j {j : Nat} (h : j ≤ 31) : (nI j - 1).toInt = (j : Int) - 1 := by
  rcases j with _ | b
  · decide
  · rw [nI_pred, nI_toInt (by omega)]; omega
theorem rt_i {j : Nat} (h : 1 ≤ j) : (nI j - 1) + (-1) = nI (j - 1) - 1 := by
  obtain ⟨b, rfl⟩ : ∃ b, j = b + 1 := ⟨j - 1, by omega⟩
  rw [nI_pred]
  show nI b + (-1) = nI b - 1
  rw [Int32.sub_eq_add_neg]
theorem rt_p : ∀ b, b < 31 → shl 1 (nI b) = lN (2 ^ b) := by decide +kernel
theorem rt_t {j r : Nat} (h : 1 ≤ j) (h2 : j ≤ 31) : lN r + shl 1 (nI j - 1) = lN (r + 2 ^ (j - 1)) := by
  obtain ⟨b, rfl⟩ : ∃ b, j = b + 1 := ⟨j - 1, by omega⟩
  rw [nI_pred, rt_p b (by omega), lN_add]
  rfl
theorem rt_b {a : Int} {j r : Nat} (h : rt_inv a j r) (hj : 1 ≤ j) : 2 ^ j = 2 ^ (j - 1) + 2 ^ (j - 1) ∧ 1 ≤ 2 ^ (j - 1) ∧ (lN (r + 2 ^ (j - 1)) * lN (r + 2 ^ (j - 1))).toInt = ((r + 2 ^ (j - 1)) * (r + 2 ^ (j - 1)) : Nat) := by
  obtain ⟨b, rfl⟩ : ∃ b, j = b + 1 := ⟨j - 1, by omega⟩
  have h1 : 2 ^ (b + 1) = 2 ^ b + 2 ^ b := by rw [Nat.pow_succ]; omega
  have h2 : 1 ≤ 2 ^ b := Nat.one_le_two_pow
  refine ⟨h1, h2, ?_⟩
  have h4 := h.2.2.2
  rw [h1] at h4
  have h5 : r + 2 ^ b ≤ 2147483647 := by omega
  have h6 : (r + 2 ^ b) * (r + 2 ^ b) ≤ 2147483647 * 2147483647 := Nat.mul_le_mul h5 h5
  show (lN (r + 2 ^ b) * lN (r + 2 ^ b)).toInt = _
  rw [lN_mul, pk_lT (by omega)]
  rfl
theorem rt_up {a : Int} {j r : Nat} (h : rt_inv a j r) (hj : 1 ≤ j) (hc : (lN (r + 2 ^ (j - 1)) * lN (r + 2 ^ (j - 1))).toInt ≤ a) : rt_inv a (j - 1) (r + 2 ^ (j - 1)) := by
  obtain ⟨h1, h2, h3⟩ := rt_b h hj
  obtain ⟨g1, g2, g3, g4⟩ := h
  rw [h3] at hc
  rw [h1] at g3 g4
  refine ⟨by omega, by omega, ?_, by omega⟩
  rw [Nat.add_assoc r]
  exact g3
theorem rt_lo {a : Int} {j r : Nat} (h : rt_inv a j r) (hj : 1 ≤ j) (hc : a < (lN (r + 2 ^ (j - 1)) * lN (r + 2 ^ (j - 1))).toInt) : rt_inv a (j - 1) r := by
  obtain ⟨h1, h2, h3⟩ := rt_b h hj
  obtain ⟨g1, g2, g3, g4⟩ := h
  rw [h3] at hc
  rw [h1] at g4
  have h0 : 1 ≤ (r + 2 ^ (j - 1)) * (r + 2 ^ (j - 1)) := Nat.mul_le_mul (show 1 ≤ r + 2 ^ (j - 1) by omega) (show 1 ≤ r + 2 ^ (j - 1) by omega)
  exact ⟨by omega, g2, by omega, by omega⟩
theorem rt_end {a : Int64} {j r : Nat} (h : rt_inv a.toInt j r) (hj : j = 0) : lN r = isq a := by
  subst hj
  obtain ⟨-, g2, g3, -⟩ := h
  exact congrArg Int64.ofNat (isqN_eq g2 g3)
/-! ===== attitudes ===== -/
def ONE : Int64 := 268435456
def qone : Nat → Int64 := fun j => match j with
  | 0 => 268435456
  | _ => 0
def qmul (u v : Nat → Int64) : Nat → Int64 := fun j => match j with
  | 0 => sar (u 0 * v 0 - u 1 * v 1 - u 2 * v 2 - u 3 * v 3) 28
  | 1 => sar (u 0 * v 1 + u 1 * v 0 + u 2 * v 3 - u 3 * v 2) 28
  | 2 => sar (u 0 * v 2 - u 1 * v 3 + u 2 * v 0 + u 3 * v 1) 28
  | _ => sar (u 0 * v 3 + u 1 * v 2 - u 2 * v 1 + u 3 * v 0) 28
def mrow0 (u : Nat → Int64) : Nat → Int64 := fun j => match j with
  | 0 => 268435456 - 2 * sar (u 2 * u 2 + u 3 * u 3) 28
  | 1 => 2 * sar (u 1 * u 2 - u 0 * u 3) 28
  | _ => 2 * sar (u 1 * u 3 + u 0 * u 2) 28
def mrow1 (u : Nat → Int64) : Nat → Int64 := fun j => match j with
  | 0 => 2 * sar (u 1 * u 2 + u 0 * u 3) 28
  | 1 => 268435456 - 2 * sar (u 1 * u 1 + u 3 * u 3) 28
  | _ => 2 * sar (u 2 * u 3 - u 0 * u 1) 28
def mrow2 (u : Nat → Int64) : Nat → Int64 := fun j => match j with
  | 0 => 2 * sar (u 1 * u 3 - u 0 * u 2) 28
  | 1 => 2 * sar (u 2 * u 3 + u 0 * u 1) 28
  | _ => 268435456 - 2 * sar (u 1 * u 1 + u 2 * u 2) 28
def bodyr (m0 m1 m2 : Nat → Int64) (x y z : Int64) : Nat → Int64 := fun j => sar (m0 j * x + m1 j * y + m2 j * z) 28
def bodyq (u : Nat → Int64) (x y z : Int64) : Nat → Int64 := bodyr (mrow0 u) (mrow1 u) (mrow2 u) x y z
def navr (r : Nat → Int64) (x y z : Int64) : Int64 := sar (r 0 * x + r 1 * y + r 2 * z) 28
def qstep (c s x y z : Int64) : Nat → Int64 := fun j => match j with
  | 0 => c
  | 1 => sar (x * s) 28
  | 2 => sar (y * s) 28
  | _ => sar (z * s) 28
def qss (u : Nat → Int64) : Int64 := u 0 * u 0 + u 1 * u 1 + u 2 * u 2 + u 3 * u 3
def qnorm (u : Nat → Int64) : Nat → Int64 := fun j => sar (u j * (268435456 + sar (268435456 - sar (qss u) 28) 1)) 28
def qby (u : Nat → Int64) (c s x y z : Int64) : Nat → Int64 := qnorm (qmul u (qstep c s x y z))
def tn (x y z : Int64) : Int64 := sar (sar x 1 * sar x 1 + sar y 1 * sar y 1 + sar z 1 * sar z 1) 28
def qturn (u : Nat → Int64) (x y z : Int64) : Nat → Int64 := qby u (268435456 - sar (tn x y z) 1) (268435456 - fdiv (tn x y z) 6) (sar x 1) (sar y 1) (sar z 1)
def qturnP (u : Nat → Int64) (x y z : Int64) : Nat → Int64 := qby u 268435456 268435456 (sar x 1) (sar y 1) (sar z 1)
def qconj (u : Nat → Int64) : Nat → Int64 := fun j => match j with
  | 0 => u 0
  | 1 => -(u 1)
  | 2 => -(u 2)
  | _ => -(u 3)
def qdiff (u v : Nat → Int64) : Nat → Int64 := qmul (qconj u) v
def qang2 (u v : Nat → Int64) : Int64 := sq3 (qdiff u v 1) (qdiff u v 2) (qdiff u v 3)
noncomputable def qang (u v : Nat → Int64) : Int64 := 2 * isq (qang2 u v)
def gr3 (r0 r1 r2 : Nat) : Nat → Option Nat := fun i => match i with
  | 0 => some r0
  | 1 => some r1
  | _ => some r2
theorem qss_0 (u : Nat → Int64) : 0 + u 0 * u 0 + u 1 * u 1 + u 2 * u 2 + u 3 * u 3 = qss u := by unfold qss; rw [Int64.zero_add]
