/-! ===== the shelf by steps ===== -/
theorem lay4_upd (f q : Nat → Int64) (i j : Nat) : vp_updL (vp_updL (vp_updL (vp_updL f (i * 4 + 0) (q 0)) (i * 4 + 1) (q 1)) (i * 4 + 2) (q 2)) (i * 4 + 3) (q 3) j = lay4 f q i j := by
  unfold lay4 vp_updL
  by_cases h : i * 4 ≤ j ∧ j < i * 4 + 4
  · rw [if_pos h]
    have h4 : j = i * 4 + 0 ∨ j = i * 4 + 1 ∨ j = i * 4 + 2 ∨ j = i * 4 + 3 := by omega
    rcases h4 with h4 | h4 | h4 | h4
    · rw [if_neg (by omega), if_neg (by omega), if_neg (by omega), if_pos h4, show j - i * 4 = 0 by omega]
    · rw [if_neg (by omega), if_neg (by omega), if_pos h4, show j - i * 4 = 1 by omega]
    · rw [if_neg (by omega), if_pos h4, show j - i * 4 = 2 by omega]
    · rw [if_pos h4, show j - i * 4 = 3 by omega]
  · rw [if_neg h, if_neg (by omega), if_neg (by omega), if_neg (by omega), if_neg (by omega)]
/-- the places from i up to c have moved down by d -/
def dk {α : Type} (f : Nat → α) (d i c : Nat) : Nat → α := fun j => if i ≤ j ∧ j < c then f (j + d) else f j
theorem dk_0 {α : Type} (f : Nat → α) (d i j : Nat) : f j = dk f d i i j := (if_neg (by omega)).symm
theorem dk_at {α : Type} (f : Nat → α) {d i c : Nat} (hd : 1 ≤ d) : dk f d i c (c + d) = f (c + d) := if_neg (by omega)
theorem dk_s {α : Type} (f : Nat → α) {d i c : Nat} (hd : 1 ≤ d) (hi : i ≤ c) (j : Nat) : (if j = c then dk f d i c (c + d) else dk f d i c j) = dk f d i (c + 1) j := by
  rw [dk_at f hd]
  by_cases h : j = c
  · rw [if_pos h]
    unfold dk
    rw [if_pos (by omega), h]
  · rw [if_neg h]
    show (if i ≤ j ∧ j < c then f (j + d) else f j) = (if i ≤ j ∧ j < c + 1 then f (j + d) else f j)
    by_cases h2 : i ≤ j ∧ j < c
    · rw [if_pos h2, if_pos (by omega)]
    · rw [if_neg h2, if_neg (by omega)]
theorem dk_sI (f : Nat → Int32) {d i c : Nat} (hd : 1 ≤ d) (hi : i ≤ c) (j : Nat) : upd (dk f d i c) c (dk f d i c (c + d)) j = dk f d i (c + 1) j := dk_s f hd hi j
theorem dk_sL (f : Nat → Int64) {d i c : Nat} (hd : 1 ≤ d) (hi : i ≤ c) (j : Nat) : vp_updL (dk f d i c) c (dk f d i c (c + d)) j = dk f d i (c + 1) j := dk_s f hd hi j
theorem dk_del4 (f : Nat → Int64) (i n j : Nat) : dk f 4 (4 * i) (4 * (n - 1)) j = del4 f i n j := by
  unfold dk del4
  rw [Nat.mul_comm 4 i, Nat.mul_comm 4 (n - 1)]
/-! ===== division by a positive number, rounded down ===== -/
theorem ed_cases (a b : Int) (hb : 0 < b) : a / b = (if a < 0 ∧ ¬ a.tdiv b * b = a then a.tdiv b - 1 else a.tdiv b) := by
  have h1 := Int.tdiv_mul_add_tmod a b
  have h2 := Int.tmod_lt_of_pos a hb
  have h3 := Int.emod_add_mul_ediv a b
  by_cases ha : 0 ≤ a
  · rw [if_neg (by omega), Int.tdiv_eq_ediv_of_nonneg ha]
  · have h4 : a.tmod b ≤ 0 := by
      have := Int.tmod_nonneg b (show 0 ≤ -a by omega)
      rw [Int.neg_tmod] at this
      omega
    have h5 : -b < a.tmod b := by
      have := Int.tmod_lt_of_pos (-a) hb
      rw [Int.neg_tmod] at this
      omega
    generalize a.tdiv b = t at *
    generalize a.tmod b = r at *
    by_cases hr : r = 0
    · have e : t * b = a := by omega
      rw [if_neg (fun q => q.2 e), ← e]
      exact Int.mul_ediv_cancel _ (by omega)
    · rw [if_pos ⟨by omega, by omega⟩]
      have e : a = (b + r) + (t - 1) * b := by rw [Int.sub_mul]; omega
      rw [e, Int.add_mul_ediv_right _ _ (by omega), Int.ediv_eq_zero_of_lt (by omega) (by omega)]
      omega
theorem td_le {a b : Int} (hb : 0 < b) {B : Int} (hB : 0 ≤ B) (h : -B ≤ a ∧ a ≤ B) : -B ≤ a.tdiv b ∧ a.tdiv b ≤ B := by
  have h1 : (a.tdiv b).natAbs ≤ a.natAbs := by rw [Int.natAbs_tdiv]; exact Nat.div_le_self _ _
  omega
theorem fdiv_ed {x y : Int64} (hy : 0 < y.toInt) : (fdiv x y).toInt = x.toInt / y.toInt := by
  have g1 := Int64.le_toInt x
  have g2 := Int64.toInt_lt x
  have h1 : (x / y).toInt = x.toInt.tdiv y.toInt := Int64.toInt_div_of_ne_right x y (fun q => by
    rw [q] at hy
    exact absurd hy (by decide))
  have hd : (x / y * y).toInt = x.toInt.tdiv y.toInt * y.toInt := by
    rw [Int64.toInt_mul, h1]
    have k1 := Int.tdiv_mul_add_tmod x.toInt y.toInt
    have k2 : (x.toInt.tmod y.toInt).natAbs ≤ x.toInt.natAbs := by rw [Int.natAbs_tmod]; exact Nat.mod_le _ _
    have k3 : (x.toInt.tdiv y.toInt * y.toInt).natAbs ≤ x.toInt.natAbs := by
      rw [Int.natAbs_mul, Int.natAbs_tdiv]
      exact Nat.div_mul_le_self _ _
    rw [Int.bmod_eq_of_le (by omega) (by omega)]
  have hq : (x / y * y = x) ↔ x.toInt.tdiv y.toInt * y.toInt = x.toInt := by rw [← hd, Int64.toInt_inj]
  have hx : (x ^^^ y) < 0 ↔ x.toInt < 0 := by
    rw [Int64.lt_iff_toInt_lt, show (0 : Int64).toInt = 0 by decide, xor_neg]
    omega
  rw [ed_cases _ _ hy]
  unfold fdiv
  by_cases h : (x ^^^ y) < 0 ∧ ¬ (x / y) * y = x
  · rw [if_pos h, if_pos ⟨hx.mp h.1, fun q => h.2 (hq.mpr q)⟩, Int64.toInt_sub, h1, show (1 : Int64).toInt = 1 by decide]
    have k3 : (x.toInt.tdiv y.toInt).natAbs ≤ x.toInt.natAbs := by rw [Int.natAbs_tdiv]; exact Nat.div_le_self _ _
    have k4 : x.toInt.tdiv y.toInt * y.toInt ≠ x.toInt := fun q => h.2 (hq.mpr q)
    have k5 : ¬ x.toInt.tdiv y.toInt = x.toInt ∨ ¬ y.toInt = 1 := by
      by_cases e : y.toInt = 1
      · left; intro q; exact k4 (by rw [q, e]; omega)
      · right; exact e
    rcases k5 with k5 | k5
    · rw [Int.bmod_eq_of_le (by omega) (by omega)]
    · have k6 : (x.toInt.tdiv y.toInt).natAbs ≤ x.toInt.natAbs / 2 := by
        rw [Int.natAbs_tdiv]
        exact Nat.div_le_div_left (by omega) (by decide)
      rw [Int.bmod_eq_of_le (by omega) (by omega)]
  · rw [if_neg h, h1, if_neg (fun q => h ⟨hx.mpr q.1, fun e => q.2 (hq.mp e)⟩)]
theorem xorI_neg (x y : Int32) : (x ^^^ y).toInt < 0 ↔ ¬ (x.toInt < 0 ↔ y.toInt < 0) := by
  have key : ∀ z : Int32, z.toInt < 0 ↔ z.toBitVec.msb = true := fun z => by
    rw [show z.toInt = z.toBitVec.toInt from rfl, BitVec.msb_eq_toInt]
    simp
  rw [key, key, key, Int32.toBitVec_xor, BitVec.msb_xor]
  cases x.toBitVec.msb <;> cases y.toBitVec.msb <;> simp
theorem fdivI_ed10 (x : Int32) : (fdivI x 10).toInt = x.toInt / 10 := by
  have g1 := Int32.le_toInt x
  have g2 := Int32.toInt_lt x
  have e10 : (10 : Int32).toInt = 10 := by decide
  have h1 : (x / 10).toInt = x.toInt.tdiv 10 := by rw [← e10]; exact Int32.toInt_div_of_ne_right x 10 (by decide)
  have k3 : (x.toInt.tdiv 10).natAbs ≤ x.toInt.natAbs / 10 := by rw [Int.natAbs_tdiv]; exact Nat.le_refl _
  have hd : (x / 10 * 10).toInt = x.toInt.tdiv 10 * 10 := by
    rw [Int32.toInt_mul, h1, e10]
    rw [Int.bmod_eq_of_le (by omega) (by omega)]
  have hq : (x / 10 * 10 = x) ↔ x.toInt.tdiv 10 * 10 = x.toInt := by rw [← hd, Int32.toInt_inj]
  have hx : (x ^^^ 10) < 0 ↔ x.toInt < 0 := by
    rw [Int32.lt_iff_toInt_lt, show (0 : Int32).toInt = 0 by decide, xorI_neg, e10]
    omega
  rw [ed_cases _ _ (by decide)]
  unfold fdivI
  by_cases h : (x ^^^ 10) < 0 ∧ ¬ (x / 10) * 10 = x
  · rw [if_pos h, if_pos ⟨hx.mp h.1, fun q => h.2 (hq.mpr q)⟩, Int32.toInt_sub, h1, show (1 : Int32).toInt = 1 by decide]
    rw [Int.bmod_eq_of_le (by omega) (by omega)]
  · rw [if_neg h, h1, if_neg (fun q => h ⟨hx.mpr q.1, fun e => q.2 (hq.mp e)⟩)]
theorem fdiv10_I (x : Int32) : (fdiv x.toInt64 10) = (fdivI x 10).toInt64 := by
  apply Int64.toInt_inj.mp
  rw [fdiv_ed (by decide), Int32.toInt_toInt64, Int32.toInt_toInt64, fdivI_ed10, show (10 : Int64).toInt = 10 by decide]
theorem binL {tp : Int32} (h : zin (fdivI tp 10) (-4) 8 = true) : (fdiv tp.toInt64 10).toInt32 - (-4) = nI (cb (fdivI tp 10)) := by
  rw [fdiv10_I, Int32.toInt32_toInt64]
  exact cb_nI h
theorem rd10 {sl tp : Int32} (hs : -1000 ≤ sl.toInt ∧ sl.toInt ≤ 1000) (ht : -40 ≤ tp.toInt ∧ tp.toInt ≤ 85) : fdiv (sl.toInt64 * (tp - 25).toInt64) 10 = (fdivI (sl * (tp - 25)) 10).toInt64 := by
  have e25 : (25 : Int32).toInt = 25 := by decide
  have e1 : (tp - 25).toInt = tp.toInt - 25 := by rw [Int32.toInt_sub, e25, Int.bmod_eq_of_le (by omega) (by omega)]
  have b1 : (sl.toInt * (tp.toInt - 25)).natAbs ≤ 1000 * 65 := by
    rw [Int.natAbs_mul]
    exact Nat.mul_le_mul (by omega) (by omega)
  have e : sl.toInt64 * (tp - 25).toInt64 = (sl * (tp - 25)).toInt64 := by
    apply Int64.toInt_inj.mp
    rw [Int64.toInt_mul, Int32.toInt_toInt64, Int32.toInt_toInt64, Int32.toInt_toInt64, Int32.toInt_mul, e1, Int.bmod_eq_of_le (by omega) (by omega), Int.bmod_eq_of_le (by omega) (by omega)]
  rw [e, fdiv10_I]
theorem ix13e (i : Nat) {b : Int32} (h : zin b (-4) 8 = true) : 13 * nI i + b - (-4) = nI (i * 13 + cb b) := by rw [ix13 i b h, Nat.mul_comm]
/-! ===== the reference's table while it learns: its values lie where the marks say ===== -/
def absM (fq fv : Nat → Int32) (g : Nat → Int64) (c i : Nat) : Nat → Int32 := fun j => if j % 13 = c ∧ j / 13 < i then absV fv g c i j else fq j
theorem absM_0 (fq fv : Nat → Int32) (g : Nat → Int64) (c j : Nat) : fq j = absM fq fv g c 0 j := (if_neg (by omega)).symm
theorem absM_s {fq fv : Nat → Int32} {g : Nat → Int64} {c i : Nat} (hc : c < 13) (j : Nat) : upd (absM fq fv g c i) (i * 13 + c) ((zlim ((absV fv g c i (i * 13 + c)).toInt64 + zfill g 0 i i) 1000000).toInt32) j = absM fq fv g c (i + 1) j := by
  have e := absV_s (f := fv) (g := g) (c := c) (i := i) hc j
  unfold upd at e ⊢
  unfold absM
  by_cases h : j = i * 13 + c
  · rw [if_pos h] at e ⊢
    rw [if_pos ((clr_iff hc).mpr (Or.inr h)), e]
  · rw [if_neg h] at e ⊢
    by_cases h2 : j % 13 = c ∧ j / 13 < i
    · rw [if_pos h2, if_pos ((clr_iff hc).mpr (Or.inl h2)), e]
    · rw [if_neg h2, if_neg (fun q => ((clr_iff hc).mp q).elim h2 h)]
theorem absM_hq {fq fv : Nat → Int32} {kn : Nat → Bool} (hq : ∀ j, kn j = true → fq j = fv j) (g : Nat → Int64) (c i : Nat) : ∀ j, absK kn c i j = true → absM fq fv g c i j = absV fv g c i j := by
  intro j h
  unfold absM
  by_cases h2 : j % 13 = c ∧ j / 13 < i
  · rw [if_pos h2]
  · rw [if_neg h2]
    unfold absK at h
    rw [decide_eq_false h2, Bool.or_false] at h
    rw [hq j h]
    unfold absV
    rw [if_neg h2]
theorem absK_hz {fv : Nat → Int32} {kn : Nat → Bool} (hz : ∀ j, kn j = false → fv j = 0) (g : Nat → Int64) (c i : Nat) : ∀ j, absK kn c i j = false → absV fv g c i j = 0 := by
  intro j h
  unfold absK at h
  by_cases h2 : j % 13 = c ∧ j / 13 < i
  · rw [decide_eq_true h2, Bool.or_true] at h
    exact absurd h (by decide)
  · rw [decide_eq_false h2, Bool.or_false] at h
    unfold absV
    rw [if_neg h2]
    exact hz j h
theorem clr_hq {fq fv : Nat → Int32} {kn : Nat → Bool} (hq : ∀ j, kn j = true → fq j = fv j) (c i : Nat) : ∀ j, clrK kn c i j = true → fq j = clrV fv c i j := by
  intro j h
  unfold clrK at h
  unfold clrV
  by_cases h2 : j % 13 = c ∧ j / 13 < i
  · rw [decide_eq_true h2, Bool.not_true, Bool.and_false] at h
    exact absurd h (by decide)
  · rw [decide_eq_false h2, Bool.not_false, Bool.and_true] at h
    rw [if_neg h2]
    exact hq j h
theorem upd_hq {fq fv : Nat → Int32} {kn : Nat → Bool} (hq : ∀ j, kn j = true → fq j = fv j) (i : Nat) (v : Int32) : ∀ j, va_up kn i true j = true → upd fq i v j = upd fv i v j := by
  intro j h
  unfold upd va_up at *
  by_cases h2 : j = i
  · rw [if_pos h2, if_pos h2]
  · rw [if_neg h2] at h
    rw [if_neg h2, if_neg h2]
    exact hq j h
theorem upd_hz {fv : Nat → Int32} {kn : Nat → Bool} (hz : ∀ j, kn j = false → fv j = 0) (i : Nat) (v : Int32) : ∀ j, va_up kn i true j = false → upd fv i v j = 0 := by
  intro j h
  unfold upd va_up at *
  by_cases h2 : j = i
  · rw [if_pos h2] at h
    exact absurd h (by decide)
  · rw [if_neg h2] at h
    rw [if_neg h2]
    exact hz j h
