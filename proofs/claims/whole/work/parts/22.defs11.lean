/-! ===== the reference's rows ===== -/
def mix (fx fy fz : Nat → Int32) : Nat → Int32 := fun j => if j % 3 = 0 then fx (j / 3) else if j % 3 = 1 then fy (j / 3) else fz (j / 3)
theorem mix_0 (fx fy fz : Nat → Int32) (n : Nat) : mix fx fy fz (3 * n) = fx n := by
  unfold mix
  rw [if_pos (by omega), show 3 * n / 3 = n by omega]
theorem mix_1 (fx fy fz : Nat → Int32) (n : Nat) : mix fx fy fz (3 * n + 1) = fy n := by
  unfold mix
  rw [if_neg (by omega), if_pos (by omega), show (3 * n + 1) / 3 = n by omega]
theorem mix_2 (fx fy fz : Nat → Int32) (n : Nat) : mix fx fy fz (3 * n + 2) = fz n := by
  unfold mix
  rw [if_neg (by omega), if_neg (by omega), show (3 * n + 2) / 3 = n by omega]
theorem mix_cases {P : Nat → Prop} (h0 : ∀ i, P (3 * i)) (h1 : ∀ i, P (3 * i + 1)) (h2 : ∀ i, P (3 * i + 2)) (j : Nat) : P j := by
  have h : j = 3 * (j / 3) ∨ j = 3 * (j / 3) + 1 ∨ j = 3 * (j / 3) + 2 := by omega
  rcases h with h | h | h
  · rw [h]; exact h0 _
  · rw [h]; exact h1 _
  · rw [h]; exact h2 _
theorem mix_upd (fx fy fz : Nat → Int32) (n : Nat) (x y z : Int32) (j : Nat) : upd (upd (upd (mix fx fy fz) (3 * n) x) (3 * n + 1) y) (3 * n + 2) z j = mix (upd fx n x) (upd fy n y) (upd fz n z) j := by
  refine mix_cases (P := fun j => upd (upd (upd (mix fx fy fz) (3 * n) x) (3 * n + 1) y) (3 * n + 2) z j = mix (upd fx n x) (upd fy n y) (upd fz n z) j) (fun i => ?_) (fun i => ?_) (fun i => ?_) j
  · rw [mix_0]
    unfold upd
    rw [if_neg (by omega), if_neg (by omega)]
    by_cases h : i = n
    · rw [if_pos (by omega), if_pos h]
    · rw [if_neg (by omega), if_neg h]; exact mix_0 ..
  · rw [mix_1]
    unfold upd
    rw [if_neg (by omega)]
    by_cases h : i = n
    · rw [if_pos (by omega), if_pos h]
    · rw [if_neg (by omega), if_neg (by omega), if_neg h]; exact mix_1 ..
  · rw [mix_2]
    unfold upd
    by_cases h : i = n
    · rw [if_pos (by omega), if_pos h]
    · rw [if_neg (by omega), if_neg (by omega), if_neg (by omega), if_neg h]; exact mix_2 ..
/-- the first i places have moved down by d -/
def shk {α : Type} (f : Nat → α) (d i : Nat) : Nat → α := fun j => if j < i then f (j + d) else f j
theorem shk_0 {α : Type} (f : Nat → α) (d j : Nat) : f j = shk f d 0 j := (if_neg (Nat.not_lt_zero j)).symm
theorem shk_sI (f : Nat → Int32) {d i : Nat} (hd : 1 ≤ d) (j : Nat) : upd (shk f d i) i (shk f d i (i + d)) j = shk f d (i + 1) j := by
  have e : shk f d i (i + d) = f (i + d) := if_neg (by omega)
  rw [e]
  unfold upd
  by_cases h : j = i
  · rw [if_pos h]
    unfold shk
    rw [if_pos (by omega), h]
  · rw [if_neg h]
    show (if j < i then f (j + d) else f j) = (if j < i + 1 then f (j + d) else f j)
    by_cases h2 : j < i
    · rw [if_pos h2, if_pos (by omega)]
    · rw [if_neg h2, if_neg (by omega)]
theorem shk_shf {α : Type} (f : Nat → α) (n j : Nat) : shk f 1 (n - 1) j = shf f n j := rfl
theorem shk_mix (fx fy fz : Nat → Int32) (n j : Nat) : shk (mix fx fy fz) 3 (3 * (n - 1)) j = mix (shf fx n) (shf fy n) (shf fz n) j := by
  refine mix_cases (P := fun j => shk (mix fx fy fz) 3 (3 * (n - 1)) j = mix (shf fx n) (shf fy n) (shf fz n) j) (fun i => ?_) (fun i => ?_) (fun i => ?_) j
  · rw [mix_0]
    unfold shk shf
    by_cases h : i < n - 1
    · rw [if_pos (by omega), if_pos h]; exact mix_0 fx fy fz (i + 1)
    · rw [if_neg (by omega), if_neg h]; exact mix_0 ..
  · rw [mix_1]
    unfold shk shf
    by_cases h : i < n - 1
    · rw [if_pos (by omega), if_pos h, show 3 * i + 1 + 3 = 3 * (i + 1) + 1 by omega]; exact mix_1 fx fy fz (i + 1)
    · rw [if_neg (by omega), if_neg h]; exact mix_1 ..
  · rw [mix_2]
    unfold shk shf
    by_cases h : i < n - 1
    · rw [if_pos (by omega), if_pos h, show 3 * i + 2 + 3 = 3 * (i + 1) + 2 by omega]; exact mix_2 fx fy fz (i + 1)
    · rw [if_neg (by omega), if_neg h]; exact mix_2 ..
/-- what the reference's table answers, where its marks and the state's agree -/
theorem cmp_at {fq fv : Nat → Int32} {kn : Nat → Bool} (hq : ∀ j, kn j = true → fq j = fv j) {i : Nat} (h : kn i = true) : fq i = fv i := hq i h
theorem ix13 (i : Nat) (b : Int32) (h : zin b (-4) 8 = true) : 13 * nI i + b - (-4) = nI (13 * i + cb b) := by
  have e := cb_nI h
  have e2 : 13 * nI i + b - (-4) = 13 * nI i + (b - (-4)) := by rw [Int32.sub_eq_add_neg, Int32.sub_eq_add_neg, Int32.add_assoc]
  rw [e2, e]
  show nI 13 * nI i + nI (cb b) = _
  rw [pk_mul, nI_add]
theorem ix13c (i c : Nat) : 13 * nI i + nI c = nI (13 * i + c) := by
  show nI 13 * nI i + nI c = _
  rw [pk_mul, nI_add]
theorem zinN {a : Int32} {n : Nat} (h : n ≤ 2000) : zinL a.toInt64 (Int64.toInt 0) (Int64.toInt (nI n - 1).toInt64) = zin a 0 ((n : Int) - 1) := by
  refine zLi a 0 _ (by decide) ?_
  rw [Int32.toInt_toInt64]
  rcases n with _ | k
  · decide
  · rw [nI_pred, nI_toInt (by omega)]; omega
theorem cnt_s0 (f : Nat → Bool) (j : Nat) (h : f j = true) : nI (cntB f j) + 1 = nI (cntB f (j + 1)) := by
  have e : cntB f (j + 1) = cntB f j + 1 := by
    show cntB f j + (if f j then 1 else 0) = _
    rw [h]
    rfl
  rw [nI_1, e]
theorem cnt_s1 (f : Nat → Bool) (j : Nat) (h : f j = false) : nI (cntB f j) + 0 = nI (cntB f (j + 1)) := by
  have e : cntB f (j + 1) = cntB f j := by
    show cntB f j + (if f j then 1 else 0) = _
    rw [h]
    rfl
  rw [e, Int32.add_zero]
theorem absK_alt (kn : Nat → Bool) (c i j : Nat) : absK kn c i j = absK kn c i j := rfl
