/-! ===== the arithmetic, as both programs do it ===== -/
/-- division rounded down -/
def fdiv (x y : Int64) : Int64 := if (x ^^^ y) < 0 ∧ ¬ (x / y) * y = x then x / y - 1 else x / y
def fdivI (x y : Int32) : Int32 := if (x ^^^ y) < 0 ∧ ¬ (x / y) * y = x then x / y - 1 else x / y
theorem fdiv_a {x y : Int64} (h : 0 ≤ (x ^^^ y).toInt) : x / y = fdiv x y := by
  unfold fdiv
  rw [if_neg]
  intro q
  have := Int64.lt_iff_toInt_lt.mp q.1
  have h0 : (0 : Int64).toInt = 0 := by decide
  omega
theorem fdiv_b {x y : Int64} (h : (x / y) * y = x) : x / y = fdiv x y := by
  unfold fdiv
  rw [if_neg]
  intro q
  exact q.2 h
theorem fdiv_c {x y : Int64} (h : (x ^^^ y).toInt < 0) (h2 : ¬ (x / y) * y = x) : x / y - 1 = fdiv x y := by
  unfold fdiv
  rw [if_pos]
  exact ⟨Int64.lt_iff_toInt_lt.mpr (by rw [show (0 : Int64).toInt = 0 by decide]; exact h), h2⟩
theorem fdivI_a {x y : Int32} (h : 0 ≤ (x ^^^ y).toInt) : x / y = fdivI x y := by
  unfold fdivI
  rw [if_neg]
  intro q
  have := Int32.lt_iff_toInt_lt.mp q.1
  have h0 : (0 : Int32).toInt = 0 := by decide
  omega
theorem fdivI_b {x y : Int32} (h : (x / y) * y = x) : x / y = fdivI x y := by
  unfold fdivI
  rw [if_neg]
  intro q
  exact q.2 h
theorem fdivI_c {x y : Int32} (h : (x ^^^ y).toInt < 0) (h2 : ¬ (x / y) * y = x) : x / y - 1 = fdivI x y := by
  unfold fdivI
  rw [if_pos]
  exact ⟨Int32.lt_iff_toInt_lt.mpr (by rw [show (0 : Int32).toInt = 0 by decide]; exact h), h2⟩
def zlim (v m : Int64) : Int64 := zmax (-m) (zmin m v)
def sq3 (x y z : Int64) : Int64 := x * x + y * y + z * z
def crs (a b : Nat → Int64) : Nat → Int64 := fun j => match j with
  | 0 => a 1 * b 2 - a 2 * b 1
  | 1 => a 2 * b 0 - a 0 * b 2
  | _ => a 0 * b 1 - a 1 * b 0
theorem isq_ex : ∀ n : Nat, ∃ r : Nat, r * r ≤ n ∧ n < (r + 1) * (r + 1)
  | 0 => ⟨0, by decide⟩
  | n + 1 => by
    obtain ⟨r, h1, h2⟩ := isq_ex n
    by_cases h : n + 1 < (r + 1) * (r + 1)
    · exact ⟨r, by omega, h⟩
    · refine ⟨r + 1, by omega, ?_⟩
      have : (r + 1 + 1) * (r + 1 + 1) = (r + 1) * (r + 1) + 2 * (r + 1) + 1 := by
        simp only [Nat.mul_add, Nat.add_mul]; omega
      omega
noncomputable def isqN (n : Nat) : Nat := (isq_ex n).choose
theorem isqN_spec (n : Nat) : isqN n * isqN n ≤ n ∧ n < (isqN n + 1) * (isqN n + 1) := (isq_ex n).choose_spec
theorem isqN_eq {n r : Nat} (h1 : r * r ≤ n) (h2 : n < (r + 1) * (r + 1)) : r = isqN n := by
  obtain ⟨g1, g2⟩ := isqN_spec n
  rcases Nat.lt_trichotomy r (isqN n) with h | h | h
  · have : (r + 1) * (r + 1) ≤ isqN n * isqN n := Nat.mul_le_mul h h
    omega
  · exact h
  · have : (isqN n + 1) * (isqN n + 1) ≤ r * r := Nat.mul_le_mul h h
    omega
noncomputable def isq (a : Int64) : Int64 := Int64.ofNat (isqN a.toInt.toNat)
/-! the square root bit by bit -/
def rt_inv (a : Int) (j r : Nat) : Prop := j ≤ 31 ∧ r * r ≤ a.toNat ∧ a.toNat < (r + 2 ^ j) * (r + 2 ^ j) ∧ r + 2 ^ j ≤ 2147483648
theorem rt_0 {a : Int} (h : a < 2 ^ 62) : rt_inv a 31 0 := by
  refine ⟨by decide, Nat.zero_le _, ?_, by decide⟩
  have : (0 + 2 ^ 31) * (0 + 2 ^ 31) = 4611686018427387904 := by decide
  omega
theorem rt_j {j : Nat} (h : j ≤ 31) : (nI j - 1).toInt = (j : Int) - 1 := by
  rcases j with _ | b
  · decide
  · rw [nI_pred, nI_toInt (by omega)]; omega
theorem rt_i {j : Nat} (h : 1 ≤ j) : (nI j - 1) + (-1) = nI (j - 1) - 1 := by
  obtain ⟨b, rfl⟩ : ∃ b, j = b + 1 := ⟨j - 1, by omega⟩
  rw [nI_pred]
  show nI b + (-1) = nI b - 1
  rw [Int32.sub_eq_add_neg]
theorem rt_p : ∀ b, b < 31 → shl 1 (nI b) = lN (2 ^ b) := by decide +kernel
theorem rt_t {j r : Nat} (h : 1 ≤ j) (h2 : j ≤ 31) : lN r + shl 1 (nI j - 1) = lN (r + 2 ^ (j - 1)) := by
  obtain ⟨b, rfl⟩ : ∃ b, j = b + 1 := ⟨j - 1, by omega⟩
  rw [nI_pred, rt_p b (by omega), lN_add]
  rfl
theorem rt_b {a : Int} {j r : Nat} (h : rt_inv a j r) (hj : 1 ≤ j) : 2 ^ j = 2 ^ (j - 1) + 2 ^ (j - 1) ∧ 1 ≤ 2 ^ (j - 1) ∧ (lN (r + 2 ^ (j - 1)) * lN (r + 2 ^ (j - 1))).toInt = ((r + 2 ^ (j - 1)) * (r + 2 ^ (j - 1)) : Nat) := by
  obtain ⟨b, rfl⟩ : ∃ b, j = b + 1 := ⟨j - 1, by omega⟩
  have h1 : 2 ^ (b + 1) = 2 ^ b + 2 ^ b := by rw [Nat.pow_succ]; omega
  have h2 : 1 ≤ 2 ^ b := Nat.one_le_two_pow
  refine ⟨h1, h2, ?_⟩
  have h4 := h.2.2.2
  rw [h1] at h4
  have h5 : r + 2 ^ b ≤ 2147483647 := by omega
  have h6 : (r + 2 ^ b) * (r + 2 ^ b) ≤ 2147483647 * 2147483647 := Nat.mul_le_mul h5 h5
  show (lN (r + 2 ^ b) * lN (r + 2 ^ b)).toInt = _
  rw [lN_mul, pk_lT (by omega)]
  rfl
theorem rt_up {a : Int} {j r : Nat} (h : rt_inv a j r) (hj : 1 ≤ j) (hc : (lN (r + 2 ^ (j - 1)) * lN (r + 2 ^ (j - 1))).toInt ≤ a) : rt_inv a (j - 1) (r + 2 ^ (j - 1)) := by
  obtain ⟨h1, h2, h3⟩ := rt_b h hj
  obtain ⟨g1, g2, g3, g4⟩ := h
  rw [h3] at hc
  rw [h1] at g3 g4
  refine ⟨by omega, by omega, ?_, by omega⟩
  rw [Nat.add_assoc r]
  exact g3
theorem rt_lo {a : Int} {j r : Nat} (h : rt_inv a j r) (hj : 1 ≤ j) (hc : a < (lN (r + 2 ^ (j - 1)) * lN (r + 2 ^ (j - 1))).toInt) : rt_inv a (j - 1) r := by
  obtain ⟨h1, h2, h3⟩ := rt_b h hj
  obtain ⟨g1, g2, g3, g4⟩ := h
  rw [h3] at hc
  rw [h1] at g4
  have h0 : 1 ≤ (r + 2 ^ (j - 1)) * (r + 2 ^ (j - 1)) := Nat.mul_le_mul (show 1 ≤ r + 2 ^ (j - 1) by omega) (show 1 ≤ r + 2 ^ (j - 1) by omega)
  exact ⟨by omega, g2, by omega, by omega⟩
theorem rt_end {a : Int64} {j r : Nat} (h : rt_inv a.toInt j r) (hj : j = 0) : lN r = isq a := by
  subst hj
  obtain ⟨-, g2, g3, -⟩ := h
  exact congrArg Int64.ofNat (isqN_eq g2 g3)
/-! ===== attitudes ===== -/
def ONE : Int64 := 268435456
def qone : Nat → Int64 := fun j => match j with
  | 0 => 268435456
  | _ => 0
def qmul (u v : Nat → Int64) : Nat → Int64 := fun j => match j with
  | 0 => sar (u 0 * v 0 - u 1 * v 1 - u 2 * v 2 - u 3 * v 3) 28
  | 1 => sar (u 0 * v 1 + u 1 * v 0 + u 2 * v 3 - u 3 * v 2) 28
  | 2 => sar (u 0 * v 2 - u 1 * v 3 + u 2 * v 0 + u 3 * v 1) 28
  | _ => sar (u 0 * v 3 + u 1 * v 2 - u 2 * v 1 + u 3 * v 0) 28
def mrow0 (u : Nat → Int64) : Nat → Int64 := fun j => match j with
  | 0 => 268435456 - 2 * sar (u 2 * u 2 + u 3 * u 3) 28
  | 1 => 2 * sar (u 1 * u 2 - u 0 * u 3) 28
  | _ => 2 * sar (u 1 * u 3 + u 0 * u 2) 28
def mrow1 (u : Nat → Int64) : Nat → Int64 := fun j => match j with
  | 0 => 2 * sar (u 1 * u 2 + u 0 * u 3) 28
  | 1 => 268435456 - 2 * sar (u 1 * u 1 + u 3 * u 3) 28
  | _ => 2 * sar (u 2 * u 3 - u 0 * u 1) 28
def mrow2 (u : Nat → Int64) : Nat → Int64 := fun j => match j with
  | 0 => 2 * sar (u 1 * u 3 - u 0 * u 2) 28
  | 1 => 2 * sar (u 2 * u 3 + u 0 * u 1) 28
  | _ => 268435456 - 2 * sar (u 1 * u 1 + u 2 * u 2) 28
def bodyr (m0 m1 m2 : Nat → Int64) (x y z : Int64) : Nat → Int64 := fun j => sar (m0 j * x + m1 j * y + m2 j * z) 28
def bodyq (u : Nat → Int64) (x y z : Int64) : Nat → Int64 := bodyr (mrow0 u) (mrow1 u) (mrow2 u) x y z
def navr (r : Nat → Int64) (x y z : Int64) : Int64 := sar (r 0 * x + r 1 * y + r 2 * z) 28
def qstep (c s x y z : Int64) : Nat → Int64 := fun j => match j with
  | 0 => c
  | 1 => sar (x * s) 28
  | 2 => sar (y * s) 28
  | _ => sar (z * s) 28
def qss (u : Nat → Int64) : Int64 := u 0 * u 0 + u 1 * u 1 + u 2 * u 2 + u 3 * u 3
def qnorm (u : Nat → Int64) : Nat → Int64 := fun j => sar (u j * (268435456 + sar (268435456 - sar (qss u) 28) 1)) 28
def qby (u : Nat → Int64) (c s x y z : Int64) : Nat → Int64 := qnorm (qmul u (qstep c s x y z))
def tn (x y z : Int64) : Int64 := sar (sar x 1 * sar x 1 + sar y 1 * sar y 1 + sar z 1 * sar z 1) 28
def qturn (u : Nat → Int64) (x y z : Int64) : Nat → Int64 := qby u (268435456 - sar (tn x y z) 1) (268435456 - fdiv (tn x y z) 6) (sar x 1) (sar y 1) (sar z 1)
def qturnP (u : Nat → Int64) (x y z : Int64) : Nat → Int64 := qby u 268435456 268435456 (sar x 1) (sar y 1) (sar z 1)
def qconj (u : Nat → Int64) : Nat → Int64 := fun j => match j with
  | 0 => u 0
  | 1 => -(u 1)
  | 2 => -(u 2)
  | _ => -(u 3)
def qdiff (u v : Nat → Int64) : Nat → Int64 := qmul (qconj u) v
def qang2 (u v : Nat → Int64) : Int64 := sq3 (qdiff u v 1) (qdiff u v 2) (qdiff u v 3)
noncomputable def qang (u v : Nat → Int64) : Int64 := 2 * isq (qang2 u v)
def gr3 (r0 r1 r2 : Nat) : Nat → Option Nat := fun i => match i with
  | 0 => some r0
  | 1 => some r1
  | _ => some r2
theorem qss_0 (u : Nat → Int64) : 0 + u 0 * u 0 + u 1 * u 1 + u 2 * u 2 + u 3 * u 3 = qss u := by unfold qss; rw [Int64.zero_add]
/-! ===== script, calibration, table ===== -/
def v3 (x y z : Int64) : Nat → Int64 := fun j => match j with
  | 0 => x
  | 1 => y
  | _ => z
def sumI (f : Nat → Int32) : Nat → Int32
  | 0 => 0
  | n + 1 => sumI f n + f n
def shf {α : Type} (f : Nat → α) (n : Nat) : Nat → α := fun j => if j < n - 1 then f (j + 1) else f j
theorem shf_cpy {α : Type} (f : Nat → α) (n j : Nat) : va_cpy f f 1 0 (n - 1) j = shf f n j := by
  unfold va_cpy shf
  by_cases h : j < n - 1
  · simp [h, Nat.add_comm]
  · simp [h]
theorem znI_sub1 {n : Nat} (h : 1 ≤ n) : nI n - 1 = nI (n - 1) := pk_sub h
def run0 (x : Int32) : Bool := decide (0 < x.toInt)
theorem run0_t {x : Int32} (h : 0 < x.toInt) : run0 x = true := decide_eq_true h
theorem run0_f {x : Int32} (h : ¬ 0 < x.toInt) : run0 x = false := decide_eq_false h
theorem run0_T {x : Int32} (h : run0 x = true) : 0 < x.toInt := of_decide_eq_true h
theorem run0_F {x : Int32} (h : run0 x = false) : ¬ 0 < x.toInt := of_decide_eq_false h
def caddf (b : Bool) (f : Nat → Int64) (i : Nat) (v : Int64) : Nat → Int64 := bif b then vp_updL f i (f i + v) else f
theorem ne0_long {x : Int32} (h : 0 < x.toInt) : ¬ x.toInt64 = 0 := by
  intro q
  have h1 : x.toInt64.toInt = x.toInt := Int32.toInt_toInt64 ..
  rw [q] at h1
  have h0 : (0 : Int64).toInt = 0 := by decide
  omega
def cb (b : Int32) : Nat := (b.toInt + 4).toNat
theorem cb_lt {b : Int32} (h : zin b (-4) 8 = true) : cb b < 13 := by
  have := zin_T h
  unfold cb
  omega
theorem cb_nI {b : Int32} (h : zin b (-4) 8 = true) : b - (-4) = nI (cb b) := by
  have h1 := zin_T h
  apply Int32.toInt_inj.mp
  have h2 : (nI (cb b)).toInt = (cb b : Int) := nI_toInt (by have := cb_lt h; omega)
  have h3 : (-4 : Int32).toInt = -4 := by decide
  rw [h2, Int32.toInt_sub, h3, Int.bmod_eq_of_le (by omega) (by omega)]
  unfold cb
  omega
def cntB (f : Nat → Bool) : Nat → Nat
  | 0 => 0
  | n + 1 => cntB f n + (if f n then 1 else 0)
theorem cntB_le (f : Nat → Bool) : ∀ n, cntB f n ≤ n
  | 0 => Nat.le_refl _
  | n + 1 => by
    have := cntB_le f n
    unfold cntB
    split <;> omega
theorem cntB_cong {f g : Nat → Bool} : ∀ {n : Nat}, (∀ j, j < n → f j = g j) → cntB f n = cntB g n
  | 0, _ => rfl
  | n + 1, h => by
    unfold cntB
    rw [cntB_cong (fun j hj => h j (by omega)), h n (by omega)]
theorem cntB_upd (f : Nat → Bool) (b : Bool) {i : Nat} : ∀ {n : Nat}, i < n → cntB (va_up f i b) n + (if f i then 1 else 0) = cntB f n + (if b then 1 else 0)
  | 0, h => absurd h (Nat.not_lt_zero i)
  | n + 1, h => by
    unfold cntB
    rcases Nat.lt_or_ge i n with q | q
    · have := cntB_upd f b q
      rw [va_up_ne f b (show n ≠ i by omega)]
      omega
    · obtain rfl : i = n := by omega
      have e : cntB (va_up f i b) i = cntB f i := cntB_cong (fun j hj => va_up_ne f b (show j ≠ i by omega))
      rw [e, va_up_self]
      omega
def zk (f : Nat → Bool) : Nat → Int32 := fun j => zb (f j)
theorem zk_upd (f : Nat → Bool) (i j : Nat) (b : Bool) : upd (zk f) i (zb b) j = zk (va_up f i b) j := by
  unfold upd zk va_up
  by_cases h : j = i <;> simp [h]
theorem zk_same {f : Nat → Bool} {i : Nat} (b : Bool) (h : f i = b) (j : Nat) : zk f j = zk (va_up f i b) j := by
  unfold zk va_up
  by_cases q : j = i
  · rw [if_pos q, q, h]
  · rw [if_neg q]
/-! ===== the table's bins, the shelf ===== -/
theorem pl_nI (i c : Nat) : nI i * 13 + nI c = nI (i * 13 + c) := by
  show nI i * nI 13 + nI c = _
  rw [pk_mul, nI_add]
theorem nI_nm1 {n : Nat} (h : n < 2 ^ 31) : ¬ nI n = -1 := by
  intro q
  have h1 := nI_toInt h
  rw [q] at h1
  have : (-1 : Int32).toInt = -1 := by decide
  omega
theorem cnt_new {f : Nat → Bool} {i : Nat} (hi : i < 39) (h : f i = false) : cntB (va_up f i true) 39 = cntB f 39 + 1 := by
  have := cntB_upd f true hi
  rw [h] at this
  simpa using this
theorem cnt_old {f : Nat → Bool} {i : Nat} (hi : i < 39) (h : f i = true) : cntB (va_up f i true) 39 = cntB f 39 := by
  have := cntB_upd f true hi
  rw [h] at this
  simpa using this
theorem cnt_del {f : Nat → Bool} {i : Nat} (hi : i < 39) (h : f i = true) : cntB (va_up f i false) 39 = cntB f 39 - 1 ∧ 1 ≤ cntB f 39 := by
  have := cntB_upd f false hi
  rw [h] at this
  simp at this
  omega
def clrK (f : Nat → Bool) (c i : Nat) : Nat → Bool := fun j => f j && !decide (j % 13 = c ∧ j / 13 < i)
def clrV (f : Nat → Int32) (c i : Nat) : Nat → Int32 := fun j => if j % 13 = c ∧ j / 13 < i then 0 else f j
theorem clr_iff {c i j : Nat} (hc : c < 13) : (j % 13 = c ∧ j / 13 < i + 1) ↔ (j % 13 = c ∧ j / 13 < i) ∨ j = i * 13 + c := by omega
theorem clrK_at {f : Nat → Bool} {c i : Nat} (hc : c < 13) : clrK f c i (i * 13 + c) = f (i * 13 + c) := by
  unfold clrK
  have : ¬ ((i * 13 + c) % 13 = c ∧ (i * 13 + c) / 13 < i) := by omega
  rw [decide_eq_false this]
  simp
theorem clrK_up {f : Nat → Bool} {c i : Nat} (hc : c < 13) (j : Nat) : va_up (clrK f c i) (i * 13 + c) false j = clrK f c (i + 1) j := by
  unfold clrK va_up
  by_cases h : j = i * 13 + c
  · rw [if_pos h]
    have : j % 13 = c ∧ j / 13 < i + 1 := (clr_iff hc).mpr (Or.inr h)
    simp [this]
  · rw [if_neg h]
    by_cases h2 : j % 13 = c ∧ j / 13 < i
    · have h3 : j % 13 = c ∧ j / 13 < i + 1 := by omega
      simp [h2, h3]
    · have h3 : ¬ (j % 13 = c ∧ j / 13 < i + 1) := fun q => ((clr_iff hc).mp q).elim h2 h
      simp [h2, h3]
theorem clrK_no {f : Nat → Bool} {c i : Nat} (hc : c < 13) (hf : clrK f c i (i * 13 + c) = false) (j : Nat) : clrK f c i j = clrK f c (i + 1) j := by
  rw [← clrK_up hc j]
  unfold va_up
  by_cases h : j = i * 13 + c
  · rw [if_pos h, h, hf]
  · rw [if_neg h]
theorem clrV_up {f : Nat → Int32} {c i : Nat} (hc : c < 13) (j : Nat) : upd (clrV f c i) (i * 13 + c) 0 j = clrV f c (i + 1) j := by
  unfold clrV upd
  by_cases h : j = i * 13 + c
  · rw [if_pos h, if_pos ((clr_iff hc).mpr (Or.inr h))]
  · rw [if_neg h]
    show (if j % 13 = c ∧ j / 13 < i then 0 else f j) = _
    by_cases h2 : j % 13 = c ∧ j / 13 < i
    · rw [if_pos h2, if_pos (by omega)]
    · rw [if_neg h2, if_neg (fun q => ((clr_iff hc).mp q).elim h2 h)]
theorem clrV_no {f : Nat → Int32} {g : Nat → Bool} {c i : Nat} (hz : ∀ j, g j = false → f j = 0) (hc : c < 13) (hf : clrK g c i (i * 13 + c) = false) (j : Nat) : clrV f c i j = clrV f c (i + 1) j := by
  rw [← clrV_up hc j]
  unfold upd
  by_cases h : j = i * 13 + c
  · rw [if_pos h, h]
    rw [clrK_at hc] at hf
    unfold clrV
    have : ¬ ((i * 13 + c) % 13 = c ∧ (i * 13 + c) / 13 < i) := by omega
    rw [if_neg this, hz _ hf]
  · rw [if_neg h]
theorem clr_hz {f : Nat → Int32} {g : Nat → Bool} (hz : ∀ j, g j = false → f j = 0) (c i : Nat) : ∀ j, clrK g c i j = false → clrV f c i j = 0 := by
  intro j hj
  unfold clrK at hj
  unfold clrV
  by_cases h : j % 13 = c ∧ j / 13 < i
  · rw [if_pos h]
  · rw [if_neg h]
    simp [h] at hj
    exact hz j hj
theorem zk_cong {f g : Nat → Bool} {j : Nat} (h : f j = g j) : zk f j = zk g j := by unfold zk; rw [h]
theorem clrK_0 (f : Nat → Bool) (c j : Nat) : f j = clrK f c 0 j := by unfold clrK; simp
theorem clrV_0 (f : Nat → Int32) (c j : Nat) : f j = clrV f c 0 j := by unfold clrV; simp
theorem cnt_clr0 (f : Nat → Bool) (c : Nat) : nI (cntB f 39) = nI (cntB (clrK f c 0) 39) := by rw [cntB_cong (fun j _ => clrK_0 f c j)]
theorem cnt_clr_up {f : Nat → Bool} {c i : Nat} (hc : c < 13) (hi : i < 3) (h : clrK f c i (i * 13 + c) = true) : nI (cntB (clrK f c i) 39 - 1) = nI (cntB (clrK f c (i + 1)) 39) := by
  rw [← (cnt_del (show i * 13 + c < 39 by omega) h).1]
  rw [cntB_cong (fun j _ => clrK_up hc j)]
theorem cnt_clr_no {f : Nat → Bool} {c i : Nat} (hc : c < 13) (h : clrK f c i (i * 13 + c) = false) : nI (cntB (clrK f c i) 39) = nI (cntB (clrK f c (i + 1)) 39) := by
  rw [cntB_cong (fun j _ => clrK_no hc h j)]
def clrA (f : Nat → Bool) (c : Nat) : Nat → Bool := fun j => f j && !decide (j % 13 < c)
def clrAV (f : Nat → Int32) (c : Nat) : Nat → Int32 := fun j => if j % 13 < c then 0 else f j
theorem clrA_0 (f : Nat → Bool) (j : Nat) : f j = clrA f 0 j := by unfold clrA; simp
theorem clrAV_0 (f : Nat → Int32) (j : Nat) : f j = clrAV f 0 j := by unfold clrAV; simp
theorem clrA_s {f : Nat → Bool} {c j : Nat} (hj : j < 39) : clrK (clrA f c) c 3 j = clrA f (c + 1) j := by
  unfold clrK clrA
  by_cases h : j % 13 < c
  · have h2 : j % 13 < c + 1 := by omega
    simp [h, h2]
  · by_cases h3 : j % 13 = c
    · have h4 : j / 13 < 3 := by omega
      simp [h3, h4]
    · have h2 : ¬ j % 13 < c + 1 := by omega
      simp [h3, h2, h]
theorem clrAV_s {f : Nat → Int32} {c j : Nat} (hj : j < 39) : clrV (clrAV f c) c 3 j = clrAV f (c + 1) j := by
  unfold clrV clrAV
  by_cases h : j % 13 < c
  · rw [if_pos h, if_pos (show j % 13 < c + 1 by omega)]
    split <;> rfl
  · by_cases h3 : j % 13 = c
    · rw [if_pos ⟨h3, by omega⟩, if_pos (show j % 13 < c + 1 by omega)]
    · rw [if_neg (fun q => h3 q.1), if_neg h, if_neg (show ¬ j % 13 < c + 1 by omega)]
theorem clrA_hz {f : Nat → Int32} {g : Nat → Bool} (hz : ∀ j, g j = false → f j = 0) (c : Nat) : ∀ j, clrA g c j = false → clrAV f c j = 0 := by
  intro j hj
  unfold clrA at hj
  unfold clrAV
  by_cases h : j % 13 < c
  · rw [if_pos h]
  · rw [if_neg h]
    simp [h] at hj
    exact hz j hj
theorem cnt_clrA0 (f : Nat → Bool) : nI (cntB f 39) = nI (cntB (clrA f 0) 39) := by rw [cntB_cong (fun j _ => clrA_0 f j)]
theorem cnt_clrAs (f : Nat → Bool) (c : Nat) : nI (cntB (clrK (clrA f c) c 3) 39) = nI (cntB (clrA f (c + 1)) 39) := by rw [cntB_cong (fun j hj => clrA_s hj)]
theorem clrA_13 (f : Nat → Bool) (j : Nat) : zk (clrA f 13) j = zk (fun _ => false) j := by
  unfold zk clrA
  have : j % 13 < 13 := by omega
  simp [this]
theorem clrAV_13 (f : Nat → Int32) (j : Nat) : clrAV f 13 j = 0 := if_pos (by omega)
theorem cntB_0 : ∀ n, cntB (fun _ => false) n = 0
  | 0 => rfl
  | n + 1 => by unfold cntB; rw [cntB_0 n]; rfl
theorem cnt_clrA13 (f : Nat → Bool) : nI (cntB (clrA f 13) 39) = 0 := by
  rw [cntB_cong (g := fun _ => false) (fun j _ => by unfold clrA; have : j % 13 < 13 := by omega
                                                     simp [this]), cntB_0]
  rfl
theorem bin_c {c : Nat} (hc : c < 13) : zin (-4 + nI c) (-4) 8 = true ∧ cb (-4 + nI c) = c := by
  have h2 : (nI c).toInt = (c : Int) := nI_toInt (by omega)
  have h3 : (-4 : Int32).toInt = -4 := by decide
  have h4 : (-4 + nI c).toInt = (c : Int) - 4 := by
    rw [Int32.toInt_add, h2, h3, Int.bmod_eq_of_le (by omega) (by omega)]
    omega
  refine ⟨zin_t (by omega), ?_⟩
  unfold cb
  omega
def pick (f : Nat → Int64) (i : Nat) : Nat → Int64 := fun j => f (i * 4 + j)
def del {α : Type} (f : Nat → α) (i n : Nat) : Nat → α := fun j => if i ≤ j ∧ j < n - 1 then f (j + 1) else f j
def del4 (f : Nat → Int64) (i n : Nat) : Nat → Int64 := fun j => if i * 4 ≤ j ∧ j < (n - 1) * 4 then f (j + 4) else f j
theorem del_cpy {α : Type} (f : Nat → α) {i n : Nat} (h : i < n) (j : Nat) : va_cpy f f (i + 1) i (n - i - 1) j = del f i n j := by
  unfold va_cpy del
  by_cases q : i ≤ j ∧ j < n - 1
  · rw [if_pos q, if_pos (by omega)]
    congr 1
    omega
  · rw [if_neg q, if_neg (by omega)]
theorem del4_cpy (f : Nat → Int64) {i n : Nat} (h : i < n) (j : Nat) : va_cpy f f ((i + 1) * 4) (i * 4) ((n - i - 1) * 4) j = del4 f i n j := by
  unfold va_cpy del4
  by_cases q : i * 4 ≤ j ∧ j < (n - 1) * 4
  · rw [if_pos q, if_pos (by omega)]
    congr 1
    omega
  · rw [if_neg q, if_neg (by omega)]
def lay4 (f q : Nat → Int64) (i : Nat) : Nat → Int64 := fun j => if i * 4 ≤ j ∧ j < i * 4 + 4 then q (j - i * 4) else f j
theorem lay4_cpy (f q : Nat → Int64) (i j : Nat) : va_cpy q f 0 (i * 4) 4 j = lay4 f q i j := by
  unfold va_cpy lay4
  simp
theorem pick_cpy (f g : Nat → Int64) (i : Nat) {j : Nat} (hj : j < 4) : va_cpy f g (i * 4) 0 4 j = pick f i j := by
  unfold va_cpy pick
  rw [if_pos (by omega)]
  rfl
/-! ===== sensors, estimator ===== -/
def absV (f : Nat → Int32) (g : Nat → Int64) (c i : Nat) : Nat → Int32 := fun j => if j % 13 = c ∧ j / 13 < i then (zlim ((f j).toInt64 + g (j / 13)) 1000000).toInt32 else f j
def absK (f : Nat → Bool) (c i : Nat) : Nat → Bool := fun j => f j || decide (j % 13 = c ∧ j / 13 < i)
theorem absV_0 (f : Nat → Int32) (g : Nat → Int64) (c j : Nat) : f j = absV f g c 0 j := by unfold absV; simp
theorem absK_0 (f : Nat → Bool) (c j : Nat) : f j = absK f c 0 j := by unfold absK; simp
theorem absV_s {f : Nat → Int32} {g : Nat → Int64} {c i : Nat} (hc : c < 13) (j : Nat) : upd (absV f g c i) (i * 13 + c) ((zlim ((absV f g c i (i * 13 + c)).toInt64 + zfill g 0 i i) 1000000).toInt32) j = absV f g c (i + 1) j := by
  have h0 : ¬ ((i * 13 + c) % 13 = c ∧ (i * 13 + c) / 13 < i) := by omega
  have e1 : absV f g c i (i * 13 + c) = f (i * 13 + c) := if_neg h0
  have e2 : zfill g 0 i i = g i := if_neg (Nat.lt_irrefl i)
  rw [e1, e2]
  unfold upd
  by_cases h : j = i * 13 + c
  · rw [if_pos h]
    unfold absV
    rw [if_pos ((clr_iff hc).mpr (Or.inr h)), h, show (i * 13 + c) / 13 = i by omega]
  · rw [if_neg h]
    show (if j % 13 = c ∧ j / 13 < i then (zlim ((f j).toInt64 + g (j / 13)) 1000000).toInt32 else f j) = (if j % 13 = c ∧ j / 13 < i + 1 then (zlim ((f j).toInt64 + g (j / 13)) 1000000).toInt32 else f j)
    by_cases h2 : j % 13 = c ∧ j / 13 < i
    · rw [if_pos h2, if_pos (by omega)]
    · rw [if_neg h2, if_neg (fun q => ((clr_iff hc).mp q).elim h2 h)]
theorem absK_s {f : Nat → Bool} {c i : Nat} (hc : c < 13) (j : Nat) : va_up (absK f c i) (i * 13 + c) true j = absK f c (i + 1) j := by
  unfold va_up
  by_cases h : j = i * 13 + c
  · rw [if_pos h]
    unfold absK
    rw [decide_eq_true ((clr_iff hc).mpr (Or.inr h))]
    simp
  · rw [if_neg h]
    unfold absK
    by_cases h2 : j % 13 = c ∧ j / 13 < i
    · rw [decide_eq_true h2, decide_eq_true (show j % 13 = c ∧ j / 13 < i + 1 by omega)]
    · rw [decide_eq_false h2, decide_eq_false (fun q => ((clr_iff hc).mp q).elim h2 h)]
theorem cnt_abs0 (f : Nat → Bool) (c : Nat) : nI (cntB f 39) = nI (cntB (absK f c 0) 39) := by rw [cntB_cong (fun j _ => absK_0 f c j)]
theorem cnt_abss {f : Nat → Bool} {c i : Nat} (hc : c < 13) : nI (cntB (va_up (absK f c i) (i * 13 + c) true) 39) = nI (cntB (absK f c (i + 1)) 39) := by rw [cntB_cong (fun j _ => absK_s hc j)]
def nxs (sd am : Int32) : Int32 := if 0 < am.toInt then sd * 1103515245 + 12345 else sd
def drw (sd am : Int32) : Int32 := if 0 < am.toInt then iushr (nxs sd am) 16 - iushr (nxs sd am) 16 / (2 * am + 1) * (2 * am + 1) - am else 0
theorem nxs_t {sd am : Int32} (h : 0 < am.toInt) : sd * 1103515245 + 12345 = nxs sd am := (if_pos h).symm
theorem nxs_f {sd am : Int32} (h : am.toInt ≤ 0) : sd = nxs sd am := (if_neg (by omega)).symm
theorem drw_t {sd am : Int32} (h : 0 < am.toInt) : iushr (sd * 1103515245 + 12345) 16 - iushr (sd * 1103515245 + 12345) 16 / (2 * am + 1) * (2 * am + 1) - am = drw sd am := by
  unfold drw
  rw [if_pos h, ← nxs_t h]
theorem drw_f {sd am : Int32} (h : am.toInt ≤ 0) : 0 = drw sd am := (if_neg (by omega)).symm
theorem dn_ne {am : Int32} (h : 0 < am.toInt) (h2 : am.toInt ≤ 10000) : ¬ 2 * am + 1 = 0 := by
  intro q
  have h3 : (2 * am + 1).toInt = 2 * am.toInt + 1 := by
    have e2 : (2 : Int32).toInt = 2 := by decide
    have e1 : (1 : Int32).toInt = 1 := by decide
    rw [Int32.toInt_add, Int32.toInt_mul, e1, e2, Int.bmod_eq_of_le (n := 2 * am.toInt) (by omega) (by omega), Int.bmod_eq_of_le (by omega) (by omega)]
  rw [q] at h3
  have h0 : (0 : Int32).toInt = 0 := by decide
  omega
def rdg (g : Int64) (sc bi sl tm d : Int32) : Int64 := g + fdiv (g * sc.toInt64) 1000000 + bi.toInt64 + (fdivI (sl * (tm - 25)) 10).toInt64 + d.toInt64
def gyrv (r w : Nat → Int64) (fC fB fL fN : Nat → Int32) (tp sd : Int32) : Nat → Int64 := fun j => match j with
  | 0 => rdg (r 0 + w 0) (fC 0) (fB 0) (fL 0) tp (drw sd (fN 0))
  | 1 => rdg (r 1 + w 1) (fC 1) (fB 1) (fL 1) tp (drw (nxs sd (fN 0)) (fN 1))
  | _ => rdg (r 2 + w 2) (fC 2) (fB 2) (fL 2) tp (drw (nxs (nxs sd (fN 0)) (fN 1)) (fN 2))
def nx3 (fN : Nat → Int32) (sd : Int32) : Int32 := nxs (nxs (nxs sd (fN 0)) (fN 1)) (fN 2)
def frc (w : Nat → Int64) (fA : Nat → Int32) : Nat → Int64 := fun j => w j + (fA j).toInt64
def cmpv (fG : Nat → Int64) (fV : Nat → Int32) (c : Nat) : Nat → Int64 := fun j => fG j - (fV (j * 13 + c)).toInt64
def add3 (b : Bool) (f v : Nat → Int64) : Nat → Int64 := fun j => bif b then f j + v j else f j
def sub3 (f g : Nat → Int64) : Nat → Int64 := fun j => f j - g j
def conv12 (x : Int64) : Int64 := fdiv (sar x 28) 12
def prp (mt : Int32) (u v lt : Nat → Int64) : Nat → Int64 := if mt = 0 then qturnP u (v 0) (v 1) (v 2) else if mt = 1 then qturn u (v 0) (v 1) (v 2) else qturn u (v 0 + conv12 (crs lt v 0)) (v 1 + conv12 (crs lt v 1)) (v 2 + conv12 (crs lt v 2))
def upb (u : Nat → Int64) : Nat → Int64 := bodyq u 0 0 (-268435456)
def lev (lv : Int32) (u fa : Nat → Int64) : Nat → Int64 := if 0 < lv.toInt then qturn u (sar (crs fa (upb u) 0) (28 + lv)) (sar (crs fa (upb u) 1) (28 + lv)) (sar (crs fa (upb u) 2) (28 + lv)) else u
def slow1 (x : Int64) : Bool := zinL x (-262144 : Int64).toInt (262144 : Int64).toInt
def slow (f : Nat → Int64) : Bool := slow1 (f 0) && (slow1 (f 1) && slow1 (f 2))
def esq (fn : Nat → Int64) : Int64 := fn 0 * fn 0 + fn 2 * fn 2
def pos0 (x : Int64) : Bool := decide (0 < x.toInt)
def sks (hd : Int32) (fn fc : Nat → Int64) : Bool := run0 hd && (pos0 (esq fn) && slow fc)
def htn (x q : Int64) (hd : Int32) : Int64 := zlim (sar (shl (fdiv (shl x 20) q) 8) hd) 16777216
def ffl (f c : Nat → Int64) : Nat → Int64 := fun j => f j + sar (c j - f j) 4
def hdg (u ff fn : Nat → Int64) (hd : Int32) : Nat → Int64 := qturn u (htn (crs ff (bodyq u (fn 0) (fn 1) (fn 2)) 0) (esq fn) hd) (htn (crs ff (bodyq u (fn 0) (fn 1) (fn 2)) 1) (esq fn) hd) (htn (crs ff (bodyq u (fn 0) (fn 1) (fn 2)) 2) (esq fn) hd)
def chf (hd nx : Int32) (f : Nat → Int64) : Nat → Int64 := bif (decide (hd = 0) && run0 nx) then (fun _ => 0) else f
def mnb (f w : Nat → Int64) (tk : Int32) : Nat → Int64 := fun j => fdiv (f j) tk.toInt64 - w j
def tkN (n : Nat) (fT : Nat → Int32) : Nat := if n = 0 then n else if fT 0 - 1 = 0 then n - 1 else n
def tkT (n : Nat) (fT : Nat → Int32) : Nat → Int32 := if n = 0 then fT else if fT 0 - 1 = 0 then shf (upd fT 0 (fT 0 - 1)) n else upd fT 0 (fT 0 - 1)
def tkX (n : Nat) (fT f : Nat → Int32) : Nat → Int32 := if n = 0 then f else if fT 0 - 1 = 0 then shf f n else f
def tkR (n : Nat) (fX fY fZ : Nat → Int32) : Nat → Int64 := if n = 0 then v3 0 0 0 else v3 (fX 0).toInt64 (fY 0).toInt64 (fZ 0).toInt64
theorem ne0_pos {x : Int64} (h : 0 < x.toInt) : ¬ x = 0 := by
  intro q
  rw [q] at h
  have h0 : (0 : Int64).toInt = 0 := by decide
  omega
theorem pos0_t {x : Int64} (h : 0 < x.toInt) : pos0 x = true := decide_eq_true h
theorem pos0_f {x : Int64} (h : ¬ 0 < x.toInt) : pos0 x = false := decide_eq_false h
theorem pos0_T {x : Int64} (h : pos0 x = true) : 0 < x.toInt := of_decide_eq_true h
theorem andT {x y : Bool} (h : (x && y) = true) : x = true ∧ y = true := by cases x <;> cases y <;> simp_all
/-! ===== the state of both programs, a tick ===== -/
theorem zLi (x : Int32) (a b : Int64) {A B : Int} (ha : a.toInt = A) (hb : b.toInt = B) : zinL x.toInt64 (Int64.toInt a) (Int64.toInt b) = zin x A B := by rw [ha, hb]; exact zinL_i x A B
theorem zIi (x : Int32) (a b : Int32) {A B : Int} (ha : a.toInt = A) (hb : b.toInt = B) : zin x (Int32.toInt a) (Int32.toInt b) = zin x A B := by rw [ha, hb]
/-- rows of longs (0 truth, 1 estimate, 2 gyros, 3 accelerometers, 4 biases, 5 sums, 6 filtered, 7 latest turn, 8 earth rate, 9 the greatest error, 10 stored parts); rows of ints (0 to 3 the gyros' errors, 4 the accelerometers' biases, 5 to 8 the script, 9 the table's values, 10 the stored numbers, 11 temperature, seed, time, method, levelling, heading, ticks left, ticks of the calibration); lengths (0 of the script, 1 of the shelf); marks (0 the table's places, 1 the bins) -/
abbrev zS : Type := (Nat → Nat → Int64) × (Nat → Nat → Int32) × (Nat → Nat) × (Nat → Nat → Bool)
def fwE (md lv hd : Int32) (u c lt fa fn : Nat → Int64) (fF : Nat → Int64) : Nat → Int64 :=
  bif sks hd fn c then hdg (lev lv (prp md u (sub3 c (bodyq u (fn 0) (fn 1) (fn 2))) lt) fa) (ffl fF c) fn hd else lev lv (prp md u (sub3 c (bodyq u (fn 0) (fn 1) (fn 2))) lt) fa
def mskN (f : Nat → Bool) : Nat → Nat
  | 0 => 0
  | n + 1 => mskN f n + (if f n then 2 ^ n else 0)
def msk (f : Nat → Bool) : Int32 := nI (mskN f 13)
def uBin (u : zS) : Nat := cb (fdivI (u.2.1 11 0) 10)
def uR (u : zS) : Nat → Int64 := tkR (u.2.2.1 0) (u.2.1 6) (u.2.1 7) (u.2.1 8)
def uG (u : zS) : Nat → Int64 := gyrv (uR u) (bodyq (u.1 0) (u.1 8 0) (u.1 8 1) (u.1 8 2)) (u.2.1 1) (u.2.1 0) (u.2.1 3) (u.2.1 2) (u.2.1 11 0) (u.2.1 11 1)
def uT (u : zS) : Nat → Int64 := qturn (u.1 0) (uR u 0) (uR u 1) (uR u 2)
def uA (u : zS) : Nat → Int64 := frc (upb (uT u)) (u.2.1 4)
def uK (u : zS) : Nat → Int64 := cmpv (uG u) (u.2.1 9) (uBin u)
def uC (u : zS) : Nat → Int64 := sub3 (uK u) (u.1 4)
def uE (u : zS) : Nat → Int64 := fwE (u.2.1 11 3) (u.2.1 11 4) (u.2.1 11 5) (u.1 1) (uC u) (u.1 7) (uA u) (u.1 8) (u.1 6)
def uF (u : zS) : Nat → Int64 := bif sks (u.2.1 11 5) (u.1 8) (uC u) then ffl (u.1 6) (uC u) else u.1 6
def uV (u : zS) : Nat → Int64 := sub3 (uC u) (bodyq (u.1 1) (u.1 8 0) (u.1 8 1) (u.1 8 2))
def uS (u : zS) : Nat → Int64 := add3 (run0 (u.2.1 11 6)) (u.1 5) (uK u)
def uB (u : zS) : Nat → Int64 := bif run0 (u.2.1 11 6) && decide (u.2.1 11 6 - 1 = 0) then mnb (uS u) (bodyq (uE u) (u.1 8 0) (u.1 8 1) (u.1 8 2)) (u.2.1 11 7) else u.1 4
def uLf (u : zS) : Int32 := bif run0 (u.2.1 11 6) then u.2.1 11 6 - 1 else u.2.1 11 6
noncomputable def tickF (u : zS) : zS :=
  (fun i => match i with
    | 0 => uT u
    | 1 => uE u
    | 2 => uG u
    | 3 => uA u
    | 4 => uB u
    | 5 => uS u
    | 6 => uF u
    | 7 => uV u
    | 9 => fun _ => zmax (u.1 9 0) (qang (uT u) (uE u))
    | i => u.1 i,
   fun i => match i with
    | 5 => tkT (u.2.2.1 0) (u.2.1 5)
    | 6 => tkX (u.2.2.1 0) (u.2.1 5) (u.2.1 6)
    | 7 => tkX (u.2.2.1 0) (u.2.1 5) (u.2.1 7)
    | 8 => tkX (u.2.2.1 0) (u.2.1 5) (u.2.1 8)
    | 11 => fun j => match j with
      | 1 => nx3 (u.2.1 2) (u.2.1 11 1)
      | 2 => u.2.1 11 2 + 1
      | 6 => uLf u
      | j => u.2.1 11 j
    | i => u.2.1 i,
   fun i => match i with
    | 0 => tkN (u.2.2.1 0) (u.2.1 5)
    | i => u.2.2.1 i,
   fun i => match i with
    | 1 => va_up (u.2.2.2 1) (uBin u) true
    | i => u.2.2.2 i)
def tickOK (u : zS) : Prop := (∀ i, i < 3 → (u.2.1 2 i).toInt ≤ 10000) ∧ zin (fdivI (u.2.1 11 0) 10) (-4) 8 = true ∧ (run0 (u.2.1 11 6) = true → 0 < (u.2.1 11 7).toInt) ∧ u.2.2.1 0 ≤ 20 ∧ (qang2 (uT u) (uE u)).toInt < 2 ^ 62
noncomputable def iterT : Nat → zS → zS
  | 0, u => u
  | n + 1, u => tickF (iterT n u)
