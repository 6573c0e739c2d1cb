/-! ===== the reference's tick ===== -/
theorem pos_of_ne {am : Int32} (h : 0 ≤ am.toInt) (h2 : ¬ am = 0) : 0 < am.toInt := by
  have : am.toInt ≠ 0 := fun q => h2 (Int32.toInt_inj.mp (by rw [q]; decide))
  omega
theorem drw_z {sd am : Int32} (h : am = 0) : (0 : Int64) = (drw sd am).toInt64 := by
  subst h
  unfold drw
  rw [if_neg (by decide)]
  rfl
theorem nxs_z {sd am : Int32} (h : am = 0) : sd = nxs sd am := nxs_f (by rw [h]; decide)
theorem cz9 (x : Int64) : x + fdiv (sar 0 28) 12 = x := by
  rw [show fdiv (sar 0 28) 12 = 0 by decide]
  exact Int64.add_zero x
theorem cadd_f {b : Bool} (h : b = false) (f : Nat → Int64) (i : Nat) (v : Int64) (j : Nat) : f j = caddf b f i v j := by rw [h]; rfl
theorem cadd_t {b : Bool} (h : b = true) (f : Nat → Int64) (i : Nat) (v : Int64) (j : Nat) : vp_updL f i (f i + v) j = caddf b f i v j := by rw [h]; rfl
theorem add3_c (b : Bool) (f v : Nat → Int64) (j : Nat) (hj : j < 3) : caddf b (caddf b (caddf b f 0 (v 0)) 1 (v 1)) 2 (v 2) j = add3 b f v j := by
  revert j
  refine zall3 ?_ ?_ ?_ <;> cases b <;> rfl
theorem sq_b {x : Int64} (h : -65536 ≤ x.toInt ∧ x.toInt ≤ 65536) : (x * x).toInt = x.toInt * x.toInt ∧ 0 ≤ x.toInt * x.toInt ∧ x.toInt * x.toInt ≤ 4294967296 := by
  have h1 : (x.toInt * x.toInt).natAbs ≤ 65536 * 65536 := by
    rw [Int.natAbs_mul]
    exact Nat.mul_le_mul (by omega) (by omega)
  have h2 : 0 ≤ x.toInt * x.toInt := by
    rcases Int.le_total 0 x.toInt with q | q
    · exact Int.mul_nonneg q q
    · exact Int.mul_nonneg_of_nonpos_of_nonpos q q
  refine ⟨?_, h2, by omega⟩
  rw [Int64.toInt_mul, Int.bmod_eq_of_le (by omega) (by omega)]
theorem sq_z {x : Int64} : x.toInt * x.toInt = 0 ↔ x = 0 := by
  constructor
  · intro h
    rcases Int.mul_eq_zero.mp h with q | q <;> exact Int64.toInt_inj.mp (by rw [q]; decide)
  · intro h
    rw [h]
    decide
theorem esq_T {fn : Nat → Int64} (h0 : -65536 ≤ (fn 0).toInt ∧ (fn 0).toInt ≤ 65536) (h2 : -65536 ≤ (fn 2).toInt ∧ (fn 2).toInt ≤ 65536) (h : ¬ fn 0 = 0 ∨ ¬ fn 2 = 0) : pos0 (esq fn) = true := by
  obtain ⟨e1, g1, g2⟩ := sq_b h0
  obtain ⟨e3, g3, g4⟩ := sq_b h2
  refine pos0_t ?_
  unfold esq
  rw [Int64.toInt_add, e1, e3, Int.bmod_eq_of_le (by omega) (by omega)]
  rcases h with h | h
  · have : (fn 0).toInt * (fn 0).toInt ≠ 0 := fun q => h (sq_z.mp q)
    omega
  · have : (fn 2).toInt * (fn 2).toInt ≠ 0 := fun q => h (sq_z.mp q)
    omega
theorem esq_F {fn : Nat → Int64} (h0 : fn 0 = 0) (h2 : fn 2 = 0) : pos0 (esq fn) = false := by
  unfold esq
  rw [h0, h2]
  decide
theorem slow_f0 {f : Nat → Int64} (h : slow1 (f 0) = false) : slow f = false := by unfold slow; rw [h]; rfl
theorem slow_f1 {f : Nat → Int64} (h0 : slow1 (f 0) = true) (h : slow1 (f 1) = false) : slow f = false := by unfold slow; rw [h0, h]; rfl
theorem slow_f2 {f : Nat → Int64} (h0 : slow1 (f 0) = true) (h1 : slow1 (f 1) = true) (h : slow1 (f 2) = false) : slow f = false := by unfold slow; rw [h0, h1, h]; rfl
theorem slow_t {f : Nat → Int64} (h0 : slow1 (f 0) = true) (h1 : slow1 (f 1) = true) (h2 : slow1 (f 2) = true) : slow f = true := by unfold slow; rw [h0, h1, h2]; rfl
theorem z13d {lf : Int32} (h : 0 < lf.toInt) : (lf - 1).toInt = lf.toInt - 1 := by
  have := Int32.toInt_lt lf
  rw [Int32.toInt_sub, show (1 : Int32).toInt = 1 by decide, Int.bmod_eq_of_le (by omega) (by omega)]
theorem z13n {lf : Int32} (h : 0 < lf.toInt) (h2 : ¬ lf - 1 = 0) : 0 < (lf - 1).toInt := pos_of_ne (by rw [z13d h]; omega) h2
theorem upd3_v3 (f : Nat → Int64) (a b c : Int64) : ∀ j, j < 3 → vp_updL (vp_updL (vp_updL f 0 a) 1 b) 2 c j = v3 a b c j := zall3 rfl rfl rfl
theorem v3_0 (a b c : Int64) : v3 a b c 0 = a := rfl
theorem v3_1 (a b c : Int64) : v3 a b c 1 = b := rfl
theorem v3_2 (a b c : Int64) : v3 a b c 2 = c := rfl
theorem hdg_v3 (u ff fn : Nat → Int64) (hd : Int32) (j : Nat) : qturn u (v3 (htn (crs ff (bodyq u (fn 0) (fn 1) (fn 2)) 0) (esq fn) hd) (htn (crs ff (bodyq u (fn 0) (fn 1) (fn 2)) 1) (esq fn) hd) (htn (crs ff (bodyq u (fn 0) (fn 1) (fn 2)) 2) (esq fn) hd) 0) (v3 (htn (crs ff (bodyq u (fn 0) (fn 1) (fn 2)) 0) (esq fn) hd) (htn (crs ff (bodyq u (fn 0) (fn 1) (fn 2)) 1) (esq fn) hd) (htn (crs ff (bodyq u (fn 0) (fn 1) (fn 2)) 2) (esq fn) hd) 1) (v3 (htn (crs ff (bodyq u (fn 0) (fn 1) (fn 2)) 0) (esq fn) hd) (htn (crs ff (bodyq u (fn 0) (fn 1) (fn 2)) 1) (esq fn) hd) (htn (crs ff (bodyq u (fn 0) (fn 1) (fn 2)) 2) (esq fn) hd) 2) j = hdg u ff fn hd j := by
  rw [v3_0, v3_1, v3_2]
  rfl
