/-! ===== the numbers of a tick ===== -/
theorem two_xy (x y : Int) : -(x * x + y * y) ≤ 2 * (x * y) ∧ 2 * (x * y) ≤ x * x + y * y := by
  have h1 := sqn (x - y)
  have h2 := sqn (x + y)
  have e1 : (x - y) * (x - y) = x * x - 2 * (x * y) + y * y := by grind
  have e2 : (x + y) * (x + y) = x * x + 2 * (x * y) + y * y := by grind
  omega
theorem b2_ : zbd (2 : Int64) 2 := ⟨by decide, by decide⟩
theorem bT_ : zbd (268435456 : Int64) 268435456 := ⟨by decide, by decide⟩
theorem md_fin {S : Int} (h0 : 0 ≤ S) (h : S ≤ 72057602627862528) : (-268435488 ≤ S / 268435456 ∧ S / 268435456 ≤ 268435488) ∧ (-268435520 ≤ 268435456 - 2 * (S / 268435456) ∧ 268435456 - 2 * (S / 268435456) ≤ 268435520) := by omega
theorem mrw_d {x y : Int64} (hx : zbd x 268435472) (hy : zbd y 268435472) (h : x.toInt * x.toInt + y.toInt * y.toInt ≤ 72057602627862528) : zbd (268435456 - 2 * sar (x * x + y * y) 28) 268435520 := by
  have m1 := zmul hx hx (by decide)
  have m2 := zmul hy hy (by decide)
  have a1 := zadd m1.2 m2.2 (by decide)
  obtain ⟨f1, f2⟩ := md_fin (Int.add_nonneg (sqn x.toInt) (sqn y.toInt)) h
  have e : (sar (x * x + y * y) 28).toInt = (x.toInt * x.toInt + y.toInt * y.toInt) / 268435456 := by rw [sar28, a1.1, m1.1, m2.1]
  have bq : zbd (sar (x * x + y * y) 28) 268435488 := by unfold zbd; rw [e]; exact f1
  have m3 := zmul b2_ bq (by decide)
  have d := zsub bT_ m3.2 (by decide)
  unfold zbd
  rw [d.1, m3.1, e, show (2 : Int64).toInt = 2 by decide, show (268435456 : Int64).toInt = 268435456 by decide]
  exact f2
theorem mrw_o {w : Int64} (h : -72057602627862528 ≤ 2 * w.toInt ∧ 2 * w.toInt ≤ 72057602627862528) : zbd (2 * sar w 28) 268435520 := by
  have bq : zbd (sar w 28) 134217745 := by unfold zbd; rw [sar28]; omega
  have m3 := zmul b2_ bq (by decide)
  exact zbd_le m3.2 (by decide)
theorem x2_b {p q r s : Int} (h : p * p + q * q + (r * r + s * s) ≤ 72057602627862528) : (-72057602627862528 ≤ 2 * (p * q - r * s) ∧ 2 * (p * q - r * s) ≤ 72057602627862528) ∧ (-72057602627862528 ≤ 2 * (p * q + r * s) ∧ 2 * (p * q + r * s) ≤ 72057602627862528) := by
  have h1 := two_xy p q
  have h2 := two_xy r s
  generalize p * q = a at *
  generalize r * s = b at *
  generalize p * p + q * q = c at *
  generalize r * r + s * s = d at *
  omega
theorem mrw_x {p q r s : Int64} (hp : zbd p 268435472) (hq : zbd q 268435472) (hr : zbd r 268435472) (hs : zbd s 268435472) (h : p.toInt * p.toInt + q.toInt * q.toInt + (r.toInt * r.toInt + s.toInt * s.toInt) ≤ 72057602627862528) : zbd (2 * sar (p * q - r * s) 28) 268435520 ∧ zbd (2 * sar (p * q + r * s) 28) 268435520 := by
  obtain ⟨f1, f2⟩ := x2_b h
  have m1 := zmul hp hq (by decide)
  have m2 := zmul hr hs (by decide)
  have s1 := zsub m1.2 m2.2 (by decide)
  have a1 := zadd m1.2 m2.2 (by decide)
  exact ⟨mrw_o (by rw [s1.1, m1.1, m2.1]; exact f1), mrw_o (by rw [a1.1, m1.1, m2.1]; exact f2)⟩
theorem pm4 {A B C D K : Int} (hA : 0 ≤ A) (hB : 0 ≤ B) (hC : 0 ≤ C) (hD : 0 ≤ D) (h : A + B + C + D ≤ K) : B + C + (A + D) ≤ K ∧ B + D + (A + C) ≤ K ∧ C + D + (A + B) ≤ K ∧ C + D ≤ K ∧ B + D ≤ K ∧ B + C ≤ K := by omega
theorem row_b {u : Nat → Int64} (hu : nb u) : (∀ j, zbd (mrow0 u j) 268435520) ∧ (∀ j, zbd (mrow1 u j) 268435520) ∧ (∀ j, zbd (mrow2 u j) 268435520) := by
  obtain ⟨b0, b1, b2, b3⟩ := nb_b hu
  obtain ⟨k1, k2, k3, k4, k5, k6⟩ := pm4 (sqn (u 0).toInt) (sqn (u 1).toInt) (sqn (u 2).toInt) (sqn (u 3).toInt) hu
  have x1 := mrw_x b1 b2 b0 b3 k1
  have x2 := mrw_x b1 b3 b0 b2 k2
  have x3 := mrw_x b2 b3 b0 b1 k3
  refine ⟨fun j => ?_, fun j => ?_, fun j => ?_⟩
  · match j with
    | 0 => exact mrw_d b2 b3 k4
    | 1 => exact x1.1
    | j + 2 => exact x2.2
  · match j with
    | 0 => exact x1.2
    | 1 => exact mrw_d b1 b3 k5
    | j + 2 => exact x3.1
  · match j with
    | 0 => exact x2.1
    | 1 => exact x3.2
    | j + 2 => exact mrw_d b1 b2 k6
theorem body_b {u : Nat → Int64} {x y z : Int64} (hu : nb u) (hx : zbd x 65536) (hy : zbd y 65536) (hz : zbd z 65536) (j : Nat) : zbd (bodyq u x y z j) 200000 := by
  obtain ⟨r0, r1, r2⟩ := row_b hu
  have m0 := zmul (r0 j) hx (by decide)
  have m1 := zmul (r1 j) hy (by decide)
  have m2 := zmul (r2 j) hz (by decide)
  have a1 := zadd m0.2 m1.2 (by decide)
  have a2 := zadd a1.2 m2.2 (by decide)
  exact zbd_le (zsar28 a2.2) (by decide)
theorem up_b {u : Nat → Int64} (hu : nb u) (j : Nat) : zbd (upb u j) 268435530 := by
  obtain ⟨r0, r1, r2⟩ := row_b hu
  have z0 : zbd (0 : Int64) 0 := ⟨by decide, by decide⟩
  have zT : zbd (-268435456 : Int64) 268435456 := ⟨by decide, by decide⟩
  have m0 := zmul (r0 j) z0 (by decide)
  have m1 := zmul (r1 j) z0 (by decide)
  have m2 := zmul (r2 j) zT (by decide)
  have a1 := zadd m0.2 m1.2 (by decide)
  have a2 := zadd a1.2 m2.2 (by decide)
  exact zbd_le (zsar28 a2.2) (by decide)
theorem crs_b {f g : Nat → Int64} {a b : Int} (hf : zbd (f 0) a ∧ zbd (f 1) a ∧ zbd (f 2) a) (hg : zbd (g 0) b ∧ zbd (g 1) b ∧ zbd (g 2) b) (h0 : 0 ≤ a * b) (h : 2 * (a * b) < 9223372036854775808) : zbd (crs f g 0) (2 * (a * b)) ∧ zbd (crs f g 1) (2 * (a * b)) ∧ zbd (crs f g 2) (2 * (a * b)) := by
  have hl : a * b < 9223372036854775808 := by omega
  exact ⟨zbd_le (zsub (zmul hf.2.1 hg.2.2 hl).2 (zmul hf.2.2 hg.2.1 hl).2 (by omega)).2 (by omega), zbd_le (zsub (zmul hf.2.2 hg.1 hl).2 (zmul hf.1 hg.2.2 hl).2 (by omega)).2 (by omega), zbd_le (zsub (zmul hf.1 hg.2.1 hl).2 (zmul hf.2.1 hg.1 hl).2 (by omega)).2 (by omega)⟩
theorem zneg {x : Int64} {a : Int} (h : zbd x a) (ha : a < 9223372036854775808) : zbd (-x) a := by
  unfold zbd at *
  rw [Int64.toInt_neg, Int.bmod_eq_of_le (by omega) (by omega)]
  omega
theorem kd_fin {R : Int} (q : -(4 * (268435472 * 268435472)) ≤ R ∧ R ≤ 4 * (268435472 * 268435472)) : -1073741954 ≤ R / 268435456 ∧ R / 268435456 ≤ 1073741954 := by omega
theorem ang_b {u v : Nat → Int64} (hu : nb u) (hv : nb v) : (qang2 u v).toInt < 2 ^ 62 := by
  obtain ⟨b0, b1, b2, b3⟩ := nb_b hu
  have h := qm_R (u := qconj u) (v := v) (a := 268435472) (b := 268435472) ⟨b0, zneg b1 (by decide), zneg b2 (by decide), zneg b3 (by decide)⟩ (nb_b hv) (by decide) (by decide)
  have key : ∀ j, j < 4 → zbd (qdiff u v j) 1073741954 := fun j hj => by
    obtain ⟨e, q⟩ := h j hj
    show zbd (qmul (qconj u) v j) 1073741954
    unfold zbd
    rw [e]
    exact kd_fin q
  have m1 := zmul (key 1 (by decide)) (key 1 (by decide)) (by decide)
  have m2 := zmul (key 2 (by decide)) (key 2 (by decide)) (by decide)
  have m3 := zmul (key 3 (by decide)) (key 3 (by decide)) (by decide)
  have a1 := zadd m1.2 m2.2 (by decide)
  have a2 := zadd a1.2 m3.2 (by decide)
  exact Int.lt_of_le_of_lt a2.2.2 (by decide)
theorem tilt_b {u v : Nat → Int64} (hu : nb u) (hv : nb v) : (sq3 (sar (crs (upb u) (upb v) 0) 28) (sar (crs (upb u) (upb v) 1) 28) (sar (crs (upb u) (upb v) 2) 28)).toInt < 2 ^ 62 := by
  obtain ⟨c0, c1, c2⟩ := crs_b (f := upb u) (g := upb v) ⟨up_b hu 0, up_b hu 1, up_b hu 2⟩ ⟨up_b hv 0, up_b hv 1, up_b hv 2⟩ (by decide) (by decide)
  have s0 := zsar28 c0
  have s1 := zsar28 c1
  have s2 := zsar28 c2
  have m1 := zmul s0 s0 (by decide)
  have m2 := zmul s1 s1 (by decide)
  have m3 := zmul s2 s2 (by decide)
  have a1 := zadd m1.2 m2.2 (by decide)
  have a2 := zadd a1.2 m3.2 (by decide)
  exact Int.lt_of_le_of_lt a2.2.2 (by decide)
theorem lim_bd {v m : Int64} (h : 0 ≤ m.toInt) : zbd (zlim v m) m.toInt := by
  have hn := neg_le h
  have h1 : (zmin m v).toInt ≤ m.toInt := by
    unfold zmin
    by_cases q : v < m
    · rw [if_pos q]; have := Int64.lt_iff_toInt_lt.mp q; omega
    · rw [if_neg q]; exact Int.le_refl _
  unfold zbd zlim zmax
  by_cases q : zmin m v < -m
  · rw [if_pos q, hn]; omega
  · rw [if_neg q]
    have := mt Int64.lt_iff_toInt_lt.mpr q
    omega
theorem ediv_big {x a d : Int} (ha : 0 ≤ a) (hd : 268435456 ≤ d) (h : -a ≤ x ∧ x ≤ a) : -(a / 268435456 + 1) ≤ x / d ∧ x / d ≤ a / 268435456 + 1 := by
  have h1 := Int.emod_add_mul_ediv x d
  have h2 := Int.emod_nonneg x (show d ≠ 0 by omega)
  have h3 := Int.emod_lt_of_pos x (show 0 < d by omega)
  generalize x / d = y at *
  refine ⟨Int.not_lt.mp (fun q => ?_), Int.not_lt.mp (fun q => ?_)⟩
  · have k : 268435456 * (-(y + 1)) ≤ d * (-(y + 1)) := mle hd (Int.le_refl _) (by omega) (by omega)
    have e : d * (-(y + 1)) = -(d * y) - d := by grind
    omega
  · have k : 268435456 * y ≤ d * y := mle hd (Int.le_refl _) (by omega) (by omega)
    omega
theorem sarL {x : Int64} {lv : Int32} (hl : 0 ≤ lv.toInt ∧ lv.toInt ≤ 20) {a : Int} (ha : 0 ≤ a) (h : zbd x a) : zbd (sar x (28 + lv)) (a / 268435456 + 1) := by
  obtain ⟨i, hi, e⟩ := nI_of (x := lv) (fun q => by have := Int32.lt_iff_toInt_lt.mp q; rw [show (0 : Int32).toInt = 0 by decide] at this; omega)
  subst e
  rw [nI_toInt hi] at hl
  have k1 : ∀ i, i < 21 → (((28 + nI i : Int32).toInt64 &&& 63).toBitVec.smod 64).toNat = 28 + i := by decide
  have k2 : ∀ i, i < 21 → (268435456 : Int) ≤ 2 ^ (28 + i) := by decide
  unfold zbd
  rw [sar_n (k1 i (by omega))]
  exact ediv_big ha (k2 i (by omega)) h
