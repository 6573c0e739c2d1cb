/-! ===== the reference's own arithmetic ===== -/
theorem xor_neg (x y : Int64) : (x ^^^ y).toInt < 0 ↔ ¬ (x.toInt < 0 ↔ y.toInt < 0) := by
  have key : ∀ z : Int64, z.toInt < 0 ↔ z.toBitVec.msb = true := fun z => by
    rw [show z.toInt = z.toBitVec.toInt from rfl, BitVec.msb_eq_toInt]
    simp
  rw [key, key, key, Int64.toBitVec_xor, BitVec.msb_xor]
  cases x.toBitVec.msb <;> cases y.toBitVec.msb <;> simp
theorem ff_pp {x y : Int64} (hx : 0 ≤ x.toInt) (hy : 0 ≤ y.toInt) : x / y = fdiv x y := fdiv_a (by
  have := mt (xor_neg x y).mp (by omega)
  omega)
theorem ff_nn {x y : Int64} (hx : x.toInt < 0) (hy : y.toInt < 0) : x / y = fdiv x y := fdiv_a (by
  have := mt (xor_neg x y).mp (by omega)
  omega)
theorem ff_pn {x y : Int64} (h : ¬ (x / y) * y = x) (hx : 0 ≤ x.toInt) (hy : y.toInt < 0) : x / y - 1 = fdiv x y := fdiv_c ((xor_neg x y).mpr (by omega)) h
theorem ff_np {x y : Int64} (h : ¬ (x / y) * y = x) (hx : x.toInt < 0) (hy : 0 ≤ y.toInt) : x / y - 1 = fdiv x y := fdiv_c ((xor_neg x y).mpr (by omega)) h
def mr_inv (a : Int) (lo hi : Nat) : Prop := lo ≤ hi ∧ hi ≤ 3037000499 ∧ lo * lo ≤ a.toNat ∧ a.toNat < (hi + 1) * (hi + 1)
theorem mr_0 {a : Int64} : mr_inv a.toInt 0 3037000499 := by
  have h := Int64.toInt_lt a
  refine ⟨by decide, Nat.le_refl _, Nat.zero_le _, ?_⟩
  have : (3037000499 + 1) * (3037000499 + 1) = 9223372037000250000 := by decide
  omega
theorem mr_c {lo hi : Nat} (h1 : lo ≤ 3037000499) (h2 : hi ≤ 3037000499) (h : (lN lo).toInt < (lN hi).toInt) : lo < hi := by
  rw [pk_lT (by omega), pk_lT (by omega)] at h
  omega
theorem mr_d {lo hi : Nat} (h1 : lo ≤ 3037000499) (h2 : hi ≤ 3037000499) (h : (lN hi).toInt ≤ (lN lo).toInt) : hi ≤ lo := by
  rw [pk_lT (by omega), pk_lT (by omega)] at h
  omega
theorem mr_m {lo hi : Nat} (h1 : lo ≤ 3037000499) (h2 : hi ≤ 3037000499) : (lN lo + lN hi + 1) / 2 = lN ((lo + hi + 1) / 2) := by
  rw [lN_add, lN_1]
  exact pk_lDiv (b := 2) (by omega) (by decide) (by decide)
theorem mr_s {n : Nat} (h : 1 ≤ n) : lN n - 1 = lN (n - 1) := lN_sub (b := 1) h
theorem mr_q {n : Nat} (h : n ≤ 3037000499) : (lN n * lN n).toInt = (n * n : Nat) := by
  have h6 : n * n ≤ 3037000499 * 3037000499 := Nat.mul_le_mul h h
  rw [lN_mul, pk_lT (by omega)]
theorem mr_up {a : Int} {lo hi : Nat} (h : mr_inv a lo hi) (hl : lo < hi) (hc : (lN ((lo + hi + 1) / 2) * lN ((lo + hi + 1) / 2)).toInt ≤ a) : mr_inv a ((lo + hi + 1) / 2) hi := by
  obtain ⟨g1, g2, g3, g4⟩ := h
  rw [mr_q (by omega)] at hc
  exact ⟨by omega, g2, by omega, g4⟩
theorem mr_dn {a : Int} {lo hi : Nat} (h : mr_inv a lo hi) (hl : lo < hi) (hc : a < (lN ((lo + hi + 1) / 2) * lN ((lo + hi + 1) / 2)).toInt) : mr_inv a lo ((lo + hi + 1) / 2 - 1) := by
  obtain ⟨g1, g2, g3, g4⟩ := h
  rw [mr_q (by omega)] at hc
  have h0 : 1 ≤ (lo + hi + 1) / 2 := by omega
  have h1 : 1 ≤ (lo + hi + 1) / 2 * ((lo + hi + 1) / 2) := Nat.mul_le_mul h0 h0
  refine ⟨by omega, by omega, g3, ?_⟩
  rw [show (lo + hi + 1) / 2 - 1 + 1 = (lo + hi + 1) / 2 by omega]
  omega
theorem mr_end {a : Int64} {lo hi : Nat} (h : mr_inv a.toInt lo hi) (hj : hi ≤ lo) : lN lo = isq a := by
  obtain ⟨g1, g2, g3, g4⟩ := h
  obtain rfl : hi = lo := Nat.le_antisymm hj g1
  exact congrArg Int64.ofNat (isqN_eq g3 g4)
theorem neg_le {lm : Int64} (h0 : 0 ≤ lm.toInt) : (-lm).toInt = -lm.toInt := by
  rw [Int64.toInt_neg]
  have := Int64.toInt_lt lm
  rw [Int.bmod_eq_of_le (by omega) (by omega)]
theorem lim_a {v lm : Int64} (h0 : 0 ≤ lm.toInt) (h : lm.toInt < v.toInt) : lm = zlim v lm := by
  have e1 : zmin lm v = lm := if_neg (fun q => by have := Int64.lt_iff_toInt_lt.mp q; omega)
  have e2 : zmax (-lm) lm = lm := if_neg (fun q => by have := Int64.lt_iff_toInt_lt.mp q; rw [neg_le h0] at this; omega)
  unfold zlim
  rw [e1, e2]
theorem lim_b {v lm : Int64} (h0 : 0 ≤ lm.toInt) (h : v.toInt < (-lm).toInt) : -lm = zlim v lm := by
  have e := neg_le h0
  have e1 : zmin lm v = v := if_pos (Int64.lt_iff_toInt_lt.mpr (by omega))
  have e2 : zmax (-lm) v = -lm := if_pos (Int64.lt_iff_toInt_lt.mpr h)
  unfold zlim
  rw [e1, e2]
theorem lim_c {v lm : Int64} (h1 : v.toInt ≤ lm.toInt) (h2 : (-lm).toInt ≤ v.toInt) : v = zlim v lm := by
  have e1 : zmin lm v = v := by
    unfold zmin
    by_cases h : v < lm
    · exact if_pos h
    · rw [if_neg h]
      have := mt Int64.lt_iff_toInt_lt.mpr h
      exact Int64.toInt_inj.mp (by omega)
  have e2 : zmax (-lm) v = v := if_neg (fun q => by have := Int64.lt_iff_toInt_lt.mp q; omega)
  unfold zlim
  rw [e1, e2]
def v9 (a0 a1 a2 a3 a4 a5 a6 a7 a8 : Int64) : Nat → Int64 := fun j => match j with
  | 0 => a0
  | 1 => a1
  | 2 => a2
  | 3 => a3
  | 4 => a4
  | 5 => a5
  | 6 => a6
  | 7 => a7
  | _ => a8
theorem v9_0 (a0 a1 a2 a3 a4 a5 a6 a7 a8 : Int64) : v9 a0 a1 a2 a3 a4 a5 a6 a7 a8 0 = a0 := rfl
theorem v9_1 (a0 a1 a2 a3 a4 a5 a6 a7 a8 : Int64) : v9 a0 a1 a2 a3 a4 a5 a6 a7 a8 1 = a1 := rfl
theorem v9_2 (a0 a1 a2 a3 a4 a5 a6 a7 a8 : Int64) : v9 a0 a1 a2 a3 a4 a5 a6 a7 a8 2 = a2 := rfl
theorem v9_3 (a0 a1 a2 a3 a4 a5 a6 a7 a8 : Int64) : v9 a0 a1 a2 a3 a4 a5 a6 a7 a8 3 = a3 := rfl
theorem v9_4 (a0 a1 a2 a3 a4 a5 a6 a7 a8 : Int64) : v9 a0 a1 a2 a3 a4 a5 a6 a7 a8 4 = a4 := rfl
theorem v9_5 (a0 a1 a2 a3 a4 a5 a6 a7 a8 : Int64) : v9 a0 a1 a2 a3 a4 a5 a6 a7 a8 5 = a5 := rfl
theorem v9_6 (a0 a1 a2 a3 a4 a5 a6 a7 a8 : Int64) : v9 a0 a1 a2 a3 a4 a5 a6 a7 a8 6 = a6 := rfl
theorem v9_7 (a0 a1 a2 a3 a4 a5 a6 a7 a8 : Int64) : v9 a0 a1 a2 a3 a4 a5 a6 a7 a8 7 = a7 := rfl
theorem v9_8 (a0 a1 a2 a3 a4 a5 a6 a7 a8 : Int64) : v9 a0 a1 a2 a3 a4 a5 a6 a7 a8 8 = a8 := rfl
def mat9 (u : Nat → Int64) : Nat → Int64 := v9 (mrow0 u 0) (mrow0 u 1) (mrow0 u 2) (mrow1 u 0) (mrow1 u 1) (mrow1 u 2) (mrow2 u 0) (mrow2 u 1) (mrow2 u 2)
theorem mat9_0 (u : Nat → Int64) : mat9 u 0 = mrow0 u 0 := v9_0 _ _ _ _ _ _ _ _ _
theorem mat9_1 (u : Nat → Int64) : mat9 u 1 = mrow0 u 1 := v9_1 _ _ _ _ _ _ _ _ _
theorem mat9_2 (u : Nat → Int64) : mat9 u 2 = mrow0 u 2 := v9_2 _ _ _ _ _ _ _ _ _
theorem mat9_3 (u : Nat → Int64) : mat9 u 3 = mrow1 u 0 := v9_3 _ _ _ _ _ _ _ _ _
theorem mat9_4 (u : Nat → Int64) : mat9 u 4 = mrow1 u 1 := v9_4 _ _ _ _ _ _ _ _ _
theorem mat9_5 (u : Nat → Int64) : mat9 u 5 = mrow1 u 2 := v9_5 _ _ _ _ _ _ _ _ _
theorem mat9_6 (u : Nat → Int64) : mat9 u 6 = mrow2 u 0 := v9_6 _ _ _ _ _ _ _ _ _
theorem mat9_7 (u : Nat → Int64) : mat9 u 7 = mrow2 u 1 := v9_7 _ _ _ _ _ _ _ _ _
theorem mat9_8 (u : Nat → Int64) : mat9 u 8 = mrow2 u 2 := v9_8 _ _ _ _ _ _ _ _ _
theorem lb0 (u : Nat → Int64) (x y z : Int64) : sar (mat9 u 0 * x + mat9 u 3 * y + mat9 u 6 * z) 28 = bodyq u x y z 0 := by
  rw [mat9_0, mat9_3, mat9_6]
  rfl
theorem lb1 (u : Nat → Int64) (x y z : Int64) : sar (mat9 u 1 * x + mat9 u 4 * y + mat9 u 7 * z) 28 = bodyq u x y z 1 := by
  rw [mat9_1, mat9_4, mat9_7]
  rfl
theorem lb2 (u : Nat → Int64) (x y z : Int64) : sar (mat9 u 2 * x + mat9 u 5 * y + mat9 u 8 * z) 28 = bodyq u x y z 2 := by
  rw [mat9_2, mat9_5, mat9_8]
  rfl
