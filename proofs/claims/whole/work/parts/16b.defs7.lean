/-! ===== the outer class ===== -/
def bitc1 (x : Int32) : Int32 := x - (iushr x 1 &&& 1431655765)
def bitc2 (x : Int32) : Int32 := (x &&& 858993459) + (iushr x 2 &&& 858993459)
def bitc3 (x : Int32) : Int32 := (x + iushr x 4) &&& 252645135
def bitc4 (x : Int32) : Int32 := x + iushr x 8
def bitc5 (x : Int32) : Int32 := x + iushr x 16
def bitc (x : Int32) : Int32 := bitc5 (bitc4 (bitc3 (bitc2 (bitc1 x)))) &&& 63
def popN : Nat → Nat → Nat
  | 0, _ => 0
  | n + 1, m => m % 2 + popN n (m / 2)
theorem bitc_all : ∀ a, a < 64 → ∀ b, b < 128 → bitc (nI (a * 128 + b)) = nI (popN 13 (a * 128 + b)) := by decide +kernel
theorem mskN_lt (f : Nat → Bool) : ∀ n, mskN f n < 2 ^ n
  | 0 => (by show 0 < 1; decide)
  | n + 1 => by
    have := mskN_lt f n
    unfold mskN
    rw [Nat.pow_succ]
    split <;> omega
theorem popN_top : ∀ n m, m < 2 ^ n → ∀ b, b < 2 → popN (n + 1) (m + b * 2 ^ n) = popN n m + b
  | 0, m, h, b, hb => by
    have : m = 0 := by simpa using h
    subst this
    simp [popN]
    omega
  | n + 1, m, h, b, hb => by
    have e : (m + b * 2 ^ (n + 1)) % 2 = m % 2 := by rw [Nat.pow_succ, ← Nat.mul_assoc]; omega
    have e2 : (m + b * 2 ^ (n + 1)) / 2 = m / 2 + b * 2 ^ n := by rw [Nat.pow_succ, ← Nat.mul_assoc]; omega
    have h2 : m / 2 < 2 ^ n := by rw [Nat.pow_succ] at h; omega
    have ih := popN_top n (m / 2) h2 b hb
    show (m + b * 2 ^ (n + 1)) % 2 + popN (n + 1) ((m + b * 2 ^ (n + 1)) / 2) = m % 2 + popN n (m / 2) + b
    rw [e, e2, ih]
    omega
theorem popN_msk (f : Nat → Bool) : ∀ n, popN n (mskN f n) = cntB f n
  | 0 => rfl
  | n + 1 => by
    have h := mskN_lt f n
    unfold mskN cntB
    cases hf : f n
    · have := popN_top n _ h 0 (by decide)
      simp at this ⊢
      rw [this, popN_msk f n]
    · have := popN_top n _ h 1 (by decide)
      simp at this ⊢
      rw [this, popN_msk f n]
theorem bitc_msk (f : Nat → Bool) : bitc (msk f) = nI (cntB f 13) := by
  have h := mskN_lt f 13
  have h2 := bitc_all (mskN f 13 / 128) (by omega) (mskN f 13 % 128) (by omega)
  rw [show mskN f 13 / 128 * 128 + mskN f 13 % 128 = mskN f 13 by omega] at h2
  unfold msk
  rw [h2, popN_msk]
theorem mskN_bit (f : Nat → Bool) : ∀ n i, (mskN f n).testBit i = (decide (i < n) && f i)
  | 0, i => by simp [mskN]
  | n + 1, i => by
    have h := mskN_lt f n
    have ih := mskN_bit f n
    unfold mskN
    cases hf : f n
    · simp only [Bool.false_eq_true, if_false, Nat.add_zero]
      rw [ih i]
      by_cases q : i = n
      · subst q; simp [hf]
      · by_cases q2 : i < n
        · simp [q2, Nat.lt_succ_of_lt q2]
        · simp [q2, show ¬ i < n + 1 by omega]
    · simp only [if_true]
      rw [show mskN f n + 2 ^ n = 2 ^ n * 1 + mskN f n by omega, Nat.two_pow_add_eq_or_of_lt h, Nat.testBit_or, ih i, Nat.mul_one, Nat.testBit_two_pow]
      by_cases q : i = n
      · subst q; simp [hf]
      · by_cases q2 : i < n
        · simp [q2, Nat.lt_succ_of_lt q2, show ¬ n = i by omega]
        · simp [q2, show ¬ i < n + 1 by omega, show ¬ n = i by omega]
theorem shl_pow : ∀ c, c < 13 → (1 : Int32) <<< (nI c &&& 31) = nI (2 ^ c) := by decide +kernel
theorem msk_or (f : Nat → Bool) {c : Nat} (hc : c < 13) : msk f ||| ((1 : Int32) <<< (nI c &&& 31)) = msk (va_up f c true) := by
  rw [shl_pow c hc]
  unfold msk
  have e : ∀ a b : Nat, nI a ||| nI b = nI (a ||| b) := fun a b => by
    apply Int32.toBitVec_inj.mp
    simp [nI, Int32.toBitVec_ofNat', BitVec.ofNat_or]
  rw [e]
  congr 1
  apply Nat.eq_of_testBit_eq
  intro i
  rw [Nat.testBit_or, mskN_bit, mskN_bit, Nat.testBit_two_pow]
  unfold va_up
  by_cases q : i = c
  · subst q; simp [hc]
  · simp [q, show ¬ c = i by omega]
