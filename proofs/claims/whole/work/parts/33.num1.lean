/-! ===== numbers: no overflow where a square root is drawn ===== -/
theorem mulb {x y a b : Int} (hx : -a ≤ x ∧ x ≤ a) (hy : -b ≤ y ∧ y ≤ b) : -(a * b) ≤ x * y ∧ x * y ≤ a * b := by
  have h1 := Int.mul_nonneg (show 0 ≤ a - x by omega) (show 0 ≤ b + y by omega)
  have h2 := Int.mul_nonneg (show 0 ≤ a + x by omega) (show 0 ≤ b - y by omega)
  have h3 := Int.mul_nonneg (show 0 ≤ a - x by omega) (show 0 ≤ b - y by omega)
  have h4 := Int.mul_nonneg (show 0 ≤ a + x by omega) (show 0 ≤ b + y by omega)
  simp only [Int.sub_mul, Int.add_mul, Int.mul_add, Int.mul_sub] at h1 h2 h3 h4
  omega
theorem sqn (x : Int) : 0 ≤ x * x := by
  rcases Int.le_total 0 x with q | q
  · exact Int.mul_nonneg q q
  · exact Int.mul_nonneg_of_nonpos_of_nonpos q q
theorem zbd_le {x : Int64} {a b : Int} (h : zbd x a) (hab : a ≤ b) : zbd x b := by unfold zbd at *; omega
theorem zadd {x y : Int64} {a b : Int} (hx : zbd x a) (hy : zbd y b) (h : a + b < 9223372036854775808) : (x + y).toInt = x.toInt + y.toInt ∧ zbd (x + y) (a + b) := by
  unfold zbd at *
  have e : (x + y).toInt = x.toInt + y.toInt := by rw [Int64.toInt_add, Int.bmod_eq_of_le (by omega) (by omega)]
  rw [e]
  exact ⟨rfl, by omega, by omega⟩
theorem zsub {x y : Int64} {a b : Int} (hx : zbd x a) (hy : zbd y b) (h : a + b < 9223372036854775808) : (x - y).toInt = x.toInt - y.toInt ∧ zbd (x - y) (a + b) := by
  unfold zbd at *
  have e : (x - y).toInt = x.toInt - y.toInt := by rw [Int64.toInt_sub, Int.bmod_eq_of_le (by omega) (by omega)]
  rw [e]
  exact ⟨rfl, by omega, by omega⟩
theorem zmul {x y : Int64} {a b : Int} (hx : zbd x a) (hy : zbd y b) (h : a * b < 9223372036854775808) : (x * y).toInt = x.toInt * y.toInt ∧ zbd (x * y) (a * b) := by
  have hm := mulb hx hy
  have e : (x * y).toInt = x.toInt * y.toInt := by rw [Int64.toInt_mul, Int.bmod_eq_of_le (by omega) (by omega)]
  unfold zbd
  rw [e]
  exact ⟨rfl, hm⟩
theorem sar_n {x : Int64} {n : Int32} {N : Nat} (h : ((n.toInt64 &&& 63).toBitVec.smod 64).toNat = N) : (sar x n).toInt = x.toInt / 2 ^ N := by
  unfold sar
  show (x >>> (n.toInt64 &&& 63)).toBitVec.toInt = _
  rw [Int64.toBitVec_shiftRight]
  unfold BitVec.sshiftRight'
  rw [BitVec.toInt_sshiftRight, h, Int.shiftRight_eq_div_pow]
  rfl
theorem sar28 (x : Int64) : (sar x 28).toInt = x.toInt / 268435456 := sar_n (N := 28) (by decide)
theorem sar1 (x : Int64) : (sar x 1).toInt = x.toInt / 2 := sar_n (N := 1) (by decide)
theorem sar4 (x : Int64) : (sar x 4).toInt = x.toInt / 16 := sar_n (N := 4) (by decide)
theorem zsar28 {x : Int64} {a : Int} (h : zbd x a) : zbd (sar x 28) (a / 268435456 + 1) := by
  unfold zbd at *
  rw [sar28]
  omega
theorem zsar1 {x : Int64} {a : Int} (h : zbd x a) : zbd (sar x 1) (a / 2 + 1) := by
  unfold zbd at *
  rw [sar1]
  omega
/-- the four squares of a product -/
theorem euler (a b c d x y z w : Int) : (a * x - b * y - c * z - d * w) * (a * x - b * y - c * z - d * w) + (a * y + b * x + c * w - d * z) * (a * y + b * x + c * w - d * z) + (a * z - b * w + c * x + d * y) * (a * z - b * w + c * x + d * y) + (a * w + b * z - c * y + d * x) * (a * w + b * z - c * y + d * x) = (a * a + b * b + c * c + d * d) * (x * x + y * y + z * z + w * w) := by
  grind
theorem sqsub (x e : Int) : (x - e) * (x - e) = x * x - 2 * (x * e) + e * e := by grind
/-- a floor's square -/
theorem fl_sq {R M : Int} (hM : -M ≤ R ∧ R ≤ M) : 72057594037927936 * ((R / 268435456) * (R / 268435456)) ≤ R * R + 536870912 * M + 72057594037927936 := by
  have h1 := Int.emod_nonneg R (show (268435456 : Int) ≠ 0 by decide)
  have h2 := Int.emod_lt_of_pos R (show (0 : Int) < 268435456 by decide)
  have h3 := Int.emod_add_mul_ediv R 268435456
  have e : 268435456 * (R / 268435456) = R - R % 268435456 := by omega
  have e2 : 72057594037927936 * ((R / 268435456) * (R / 268435456)) = (268435456 * (R / 268435456)) * (268435456 * (R / 268435456)) := by grind
  rw [e2, e, sqsub]
  have k1 := mulb hM (show -268435456 ≤ R % 268435456 ∧ R % 268435456 ≤ 268435456 by omega)
  have k2 := mulb (show -268435456 ≤ R % 268435456 ∧ R % 268435456 ≤ 268435456 by omega) (show -268435456 ≤ R % 268435456 ∧ R % 268435456 ≤ 268435456 by omega)
  omega
theorem cubic (T m : Int) : 4 * (T * T * T) - m * ((3 * T - m) * (3 * T - m)) = (m - T) * (m - T) * (4 * T - m) := by grind
theorem mle {a b c d : Int} (h1 : a ≤ b) (h2 : c ≤ d) (h3 : 0 ≤ c) (h4 : 0 ≤ b) : a * c ≤ b * d := Int.mul_le_mul h1 h2 h3 h4
/-- the norm's correction never passes one -/
theorem norm_b {S f : Int} (h0 : 0 ≤ S) (h1 : S < 288230376151711744) (hf : f = 268435456 + (268435456 - S / 268435456) / 2) : S * (f * f) ≤ 5192296858534827628530496329220096 + 3 * 19342813113834066795298816 ∧ -268435456 ≤ f ∧ f ≤ 402653184 := by
  have hm0 : 0 ≤ S / 268435456 := by omega
  have hm1 : S / 268435456 ≤ 1073741823 := by omega
  have hS : S ≤ 268435456 * (S / 268435456) + 268435456 := by omega
  generalize S / 268435456 = m at *
  have hf1 : 2 * f ≤ 805306368 - m := by omega
  have hf2 : 805306368 - m - 1 ≤ 2 * f := by omega
  refine ⟨?_, by omega, by omega⟩
  have hq : S * (f * f) * 4 = S * ((2 * f) * (2 * f)) := by grind
  rcases Int.le_total 0 f with q | q
  · have k1 : (2 * f) * (2 * f) ≤ (805306368 - m) * (805306368 - m) := mle hf1 hf1 (by omega) (by omega)
    have k2 : S * ((2 * f) * (2 * f)) ≤ (268435456 * m + 268435456) * ((805306368 - m) * (805306368 - m)) := mle hS k1 (sqn _) (by omega)
    have k3 := cubic 268435456 m
    have k4 : 0 ≤ (m - 268435456) * (m - 268435456) * (4 * 268435456 - m) := Int.mul_nonneg (sqn _) (by omega)
    have k5 : (268435456 * m + 268435456) * ((805306368 - m) * (805306368 - m)) = 268435456 * (m * ((3 * 268435456 - m) * (3 * 268435456 - m))) + 268435456 * ((805306368 - m) * (805306368 - m)) := by grind
    have k6 : (805306368 - m) * (805306368 - m) ≤ 805306368 * 805306368 := mle (by omega) (by omega) (by omega) (by omega)
    omega
  · have hm : 805306367 ≤ m := by omega
    have k1 : (2 * f) * (2 * f) ≤ (3 * 268435456 - (m + 1)) * (3 * 268435456 - (m + 1)) := by
      have : (-(2 * f)) * (-(2 * f)) ≤ ((m + 1) - 3 * 268435456) * ((m + 1) - 3 * 268435456) := mle (by omega) (by omega) (by omega) (by omega)
      have e1 : (-(2 * f)) * (-(2 * f)) = (2 * f) * (2 * f) := by grind
      have e2 : ((m + 1) - 3 * 268435456) * ((m + 1) - 3 * 268435456) = (3 * 268435456 - (m + 1)) * (3 * 268435456 - (m + 1)) := by grind
      omega
    have k2 : S * ((2 * f) * (2 * f)) ≤ (268435456 * (m + 1)) * ((3 * 268435456 - (m + 1)) * (3 * 268435456 - (m + 1))) := mle (by omega) k1 (sqn _) (by omega)
    have k3 := cubic 268435456 (m + 1)
    have k4 : 0 ≤ ((m + 1) - 268435456) * ((m + 1) - 268435456) * (4 * 268435456 - (m + 1)) := Int.mul_nonneg (sqn _) (by omega)
    have k5 : (268435456 * (m + 1)) * ((3 * 268435456 - (m + 1)) * (3 * 268435456 - (m + 1))) = 268435456 * ((m + 1) * ((3 * 268435456 - (m + 1)) * (3 * 268435456 - (m + 1)))) := by grind
    omega
