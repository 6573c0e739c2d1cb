/-! ===== the attitude's norm stays bounded ===== -/
theorem sq_root {x : Int} (h : x * x ≤ 72057602627862528) : -268435472 ≤ x ∧ x ≤ 268435472 := by
  refine ⟨Int.not_lt.mp (fun q => ?_), Int.not_lt.mp (fun q => ?_)⟩
  · have h1 : (268435473 : Int) * 268435473 ≤ (-x) * (-x) := mle (by omega) (by omega) (by decide) (by omega)
    rw [Int.neg_mul_neg] at h1
    omega
  · have h1 : (268435473 : Int) * 268435473 ≤ x * x := mle (by omega) (by omega) (by decide) (by omega)
    omega
theorem nb_b {u : Nat → Int64} (h : nb u) : zbd (u 0) 268435472 ∧ zbd (u 1) 268435472 ∧ zbd (u 2) 268435472 ∧ zbd (u 3) 268435472 := by
  unfold nb at h
  have h0 := sqn (u 0).toInt
  have h1 := sqn (u 1).toInt
  have h2 := sqn (u 2).toInt
  have h3 := sqn (u 3).toInt
  exact ⟨sq_root (by omega), sq_root (by omega), sq_root (by omega), sq_root (by omega)⟩
theorem s4a {p q r t : Int64} {P : Int} (hp : zbd p P) (hq : zbd q P) (hr : zbd r P) (ht : zbd t P) (h0 : 0 ≤ P) (h : 4 * P < 9223372036854775808) : (p - q - r - t).toInt = p.toInt - q.toInt - r.toInt - t.toInt ∧ zbd (p - q - r - t) (4 * P) := by
  obtain ⟨e1, b1⟩ := zsub hp hq (by omega)
  obtain ⟨e2, b2⟩ := zsub b1 hr (by omega)
  obtain ⟨e3, b3⟩ := zsub b2 ht (by omega)
  exact ⟨by rw [e3, e2, e1], zbd_le b3 (by omega)⟩
theorem s4b {p q r t : Int64} {P : Int} (hp : zbd p P) (hq : zbd q P) (hr : zbd r P) (ht : zbd t P) (h0 : 0 ≤ P) (h : 4 * P < 9223372036854775808) : (p + q + r - t).toInt = p.toInt + q.toInt + r.toInt - t.toInt ∧ zbd (p + q + r - t) (4 * P) := by
  obtain ⟨e1, b1⟩ := zadd hp hq (by omega)
  obtain ⟨e2, b2⟩ := zadd b1 hr (by omega)
  obtain ⟨e3, b3⟩ := zsub b2 ht (by omega)
  exact ⟨by rw [e3, e2, e1], zbd_le b3 (by omega)⟩
theorem s4c {p q r t : Int64} {P : Int} (hp : zbd p P) (hq : zbd q P) (hr : zbd r P) (ht : zbd t P) (h0 : 0 ≤ P) (h : 4 * P < 9223372036854775808) : (p - q + r + t).toInt = p.toInt - q.toInt + r.toInt + t.toInt ∧ zbd (p - q + r + t) (4 * P) := by
  obtain ⟨e1, b1⟩ := zsub hp hq (by omega)
  obtain ⟨e2, b2⟩ := zadd b1 hr (by omega)
  obtain ⟨e3, b3⟩ := zadd b2 ht (by omega)
  exact ⟨by rw [e3, e2, e1], zbd_le b3 (by omega)⟩
theorem s4d {p q r t : Int64} {P : Int} (hp : zbd p P) (hq : zbd q P) (hr : zbd r P) (ht : zbd t P) (h0 : 0 ≤ P) (h : 4 * P < 9223372036854775808) : (p + q - r + t).toInt = p.toInt + q.toInt - r.toInt + t.toInt ∧ zbd (p + q - r + t) (4 * P) := by
  obtain ⟨e1, b1⟩ := zadd hp hq (by omega)
  obtain ⟨e2, b2⟩ := zsub b1 hr (by omega)
  obtain ⟨e3, b3⟩ := zadd b2 ht (by omega)
  exact ⟨by rw [e3, e2, e1], zbd_le b3 (by omega)⟩
def qR (u v : Nat → Int64) : Nat → Int := fun j => match j with
  | 0 => (u 0).toInt * (v 0).toInt - (u 1).toInt * (v 1).toInt - (u 2).toInt * (v 2).toInt - (u 3).toInt * (v 3).toInt
  | 1 => (u 0).toInt * (v 1).toInt + (u 1).toInt * (v 0).toInt + (u 2).toInt * (v 3).toInt - (u 3).toInt * (v 2).toInt
  | 2 => (u 0).toInt * (v 2).toInt - (u 1).toInt * (v 3).toInt + (u 2).toInt * (v 0).toInt + (u 3).toInt * (v 1).toInt
  | _ => (u 0).toInt * (v 3).toInt + (u 1).toInt * (v 2).toInt - (u 2).toInt * (v 1).toInt + (u 3).toInt * (v 0).toInt
theorem qm_R {u v : Nat → Int64} {a b : Int} (hu : zbd (u 0) a ∧ zbd (u 1) a ∧ zbd (u 2) a ∧ zbd (u 3) a) (hv : zbd (v 0) b ∧ zbd (v 1) b ∧ zbd (v 2) b ∧ zbd (v 3) b) (h0 : 0 ≤ a * b) (h : 4 * (a * b) < 9223372036854775808) : ∀ j, j < 4 → (qmul u v j).toInt = qR u v j / 268435456 ∧ (-(4 * (a * b)) ≤ qR u v j ∧ qR u v j ≤ 4 * (a * b)) := by
  obtain ⟨u0, u1, u2, u3⟩ := hu
  obtain ⟨v0, v1, v2, v3⟩ := hv
  have hl : a * b < 9223372036854775808 := by omega
  have m00 := zmul u0 v0 hl
  have m01 := zmul u0 v1 hl
  have m02 := zmul u0 v2 hl
  have m03 := zmul u0 v3 hl
  have m10 := zmul u1 v0 hl
  have m11 := zmul u1 v1 hl
  have m12 := zmul u1 v2 hl
  have m13 := zmul u1 v3 hl
  have m20 := zmul u2 v0 hl
  have m21 := zmul u2 v1 hl
  have m22 := zmul u2 v2 hl
  have m23 := zmul u2 v3 hl
  have m30 := zmul u3 v0 hl
  have m31 := zmul u3 v1 hl
  have m32 := zmul u3 v2 hl
  have m33 := zmul u3 v3 hl
  refine zall4 ?_ ?_ ?_ ?_
  · obtain ⟨e, q⟩ := s4a m00.2 m11.2 m22.2 m33.2 h0 h
    have e2 : (u 0 * v 0 - u 1 * v 1 - u 2 * v 2 - u 3 * v 3).toInt = qR u v 0 := by rw [e, m00.1, m11.1, m22.1, m33.1]; rfl
    exact ⟨by rw [← e2]; exact sar28 _, by rw [← e2]; exact q⟩
  · obtain ⟨e, q⟩ := s4b m01.2 m10.2 m23.2 m32.2 h0 h
    have e2 : (u 0 * v 1 + u 1 * v 0 + u 2 * v 3 - u 3 * v 2).toInt = qR u v 1 := by rw [e, m01.1, m10.1, m23.1, m32.1]; rfl
    exact ⟨by rw [← e2]; exact sar28 _, by rw [← e2]; exact q⟩
  · obtain ⟨e, q⟩ := s4c m02.2 m13.2 m20.2 m31.2 h0 h
    have e2 : (u 0 * v 2 - u 1 * v 3 + u 2 * v 0 + u 3 * v 1).toInt = qR u v 2 := by rw [e, m02.1, m13.1, m20.1, m31.1]; rfl
    exact ⟨by rw [← e2]; exact sar28 _, by rw [← e2]; exact q⟩
  · obtain ⟨e, q⟩ := s4d m03.2 m12.2 m21.2 m30.2 h0 h
    have e2 : (u 0 * v 3 + u 1 * v 2 - u 2 * v 1 + u 3 * v 0).toInt = qR u v 3 := by rw [e, m03.1, m12.1, m21.1, m30.1]; rfl
    exact ⟨by rw [← e2]; exact sar28 _, by rw [← e2]; exact q⟩
def sq4 (r : Nat → Int64) : Int := (r 0).toInt * (r 0).toInt + (r 1).toInt * (r 1).toInt + (r 2).toInt * (r 2).toInt + (r 3).toInt * (r 3).toInt
theorem qm_fin {R0 R1 R2 R3 P : Int} (b0 : -(4 * (268435472 * 536870912)) ≤ R0 ∧ R0 ≤ 4 * (268435472 * 536870912)) (b1 : -(4 * (268435472 * 536870912)) ≤ R1 ∧ R1 ≤ 4 * (268435472 * 536870912)) (b2 : -(4 * (268435472 * 536870912)) ≤ R2 ∧ R2 ≤ 4 * (268435472 * 536870912)) (b3 : -(4 * (268435472 * 536870912)) ≤ R3 ∧ R3 ≤ 4 * (268435472 * 536870912)) (e : R0 * R0 + R1 * R1 + R2 * R2 + R3 * R3 = P) (hP : P ≤ 72057602627862528 * 234187180623265792) : R0 / 268435456 * (R0 / 268435456) + R1 / 268435456 * (R1 / 268435456) + R2 / 268435456 * (R2 / 268435456) + R3 / 268435456 * (R3 / 268435456) < 288230376151711744 := by
  have f0 := fl_sq b0
  have f1 := fl_sq b1
  have f2 := fl_sq b2
  have f3 := fl_sq b3
  clear b0 b1 b2 b3
  generalize R0 / 268435456 * (R0 / 268435456) = s0 at *
  generalize R1 / 268435456 * (R1 / 268435456) = s1 at *
  generalize R2 / 268435456 * (R2 / 268435456) = s2 at *
  generalize R3 / 268435456 * (R3 / 268435456) = s3 at *
  generalize R0 * R0 = p0 at *
  generalize R1 * R1 = p1 at *
  generalize R2 * R2 = p2 at *
  generalize R3 * R3 = p3 at *
  omega
theorem sq4_0 (r : Nat → Int64) : 0 ≤ sq4 r := by
  have h0 := sqn (r 0).toInt
  have h1 := sqn (r 1).toInt
  have h2 := sqn (r 2).toInt
  have h3 := sqn (r 3).toInt
  unfold sq4
  exact Int.add_nonneg (Int.add_nonneg (Int.add_nonneg h0 h1) h2) h3
theorem qm_sq {u v : Nat → Int64} (hu : nb u) (hv : zbd (v 0) 536870912 ∧ zbd (v 1) 536870912 ∧ zbd (v 2) 536870912 ∧ zbd (v 3) 536870912) (hV : sq4 v ≤ 234187180623265792) : sq4 (qmul u v) < 288230376151711744 := by
  have h := qm_R (nb_b hu) hv (by decide) (by decide)
  obtain ⟨e0, b0⟩ := h 0 (by decide)
  obtain ⟨e1, b1⟩ := h 1 (by decide)
  obtain ⟨e2, b2⟩ := h 2 (by decide)
  obtain ⟨e3, b3⟩ := h 3 (by decide)
  have eu : qR u v 0 * qR u v 0 + qR u v 1 * qR u v 1 + qR u v 2 * qR u v 2 + qR u v 3 * qR u v 3 = sq4 u * sq4 v := euler (u 0).toInt (u 1).toInt (u 2).toInt (u 3).toInt (v 0).toInt (v 1).toInt (v 2).toInt (v 3).toInt
  have hm : sq4 u * sq4 v ≤ 72057602627862528 * 234187180623265792 := mle hu hV (sq4_0 v) (by decide)
  unfold sq4
  rw [e0, e1, e2, e3]
  exact qm_fin b0 b1 b2 b3 eu hm
theorem sq_root2 {x : Int} (h : x * x < 288230376151711744) : -536870912 ≤ x ∧ x ≤ 536870912 := by
  refine ⟨Int.not_lt.mp (fun q => ?_), Int.not_lt.mp (fun q => ?_)⟩
  · have h1 : (536870912 : Int) * 536870912 ≤ (-x) * (-x) := mle (by omega) (by omega) (by decide) (by omega)
    rw [Int.neg_mul_neg] at h1
    omega
  · have h1 : (536870912 : Int) * 536870912 ≤ x * x := mle (by omega) (by omega) (by decide) (by omega)
    omega
theorem sc4 (a b c d f : Int) : (a * f) * (a * f) + (b * f) * (b * f) + (c * f) * (c * f) + (d * f) * (d * f) = (a * a + b * b + c * c + d * d) * (f * f) := by grind
theorem nn_fin {a b c d f S : Int} (hS0 : 0 ≤ S) (hS : S < 288230376151711744) (hf : f = 268435456 + (268435456 - S / 268435456) / 2) (hs : a * a + b * b + c * c + d * d = S) (ba : -536870912 ≤ a ∧ a ≤ 536870912) (bb : -536870912 ≤ b ∧ b ≤ 536870912) (bc : -536870912 ≤ c ∧ c ≤ 536870912) (bd : -536870912 ≤ d ∧ d ≤ 536870912) : a * f / 268435456 * (a * f / 268435456) + b * f / 268435456 * (b * f / 268435456) + c * f / 268435456 * (c * f / 268435456) + d * f / 268435456 * (d * f / 268435456) ≤ 72057602627862528 := by
  obtain ⟨n1, n2, n3⟩ := norm_b hS0 hS hf
  have bf : -402653184 ≤ f ∧ f ≤ 402653184 := ⟨Int.le_trans (by decide) n2, n3⟩
  have h4 := sc4 a b c d f
  rw [hs] at h4
  have f0 := fl_sq (mulb ba bf)
  have f1 := fl_sq (mulb bb bf)
  have f2 := fl_sq (mulb bc bf)
  have f3 := fl_sq (mulb bd bf)
  clear hf hs ba bb bc bd bf n2 n3 hS hS0
  generalize a * f / 268435456 * (a * f / 268435456) = s0 at *
  generalize b * f / 268435456 * (b * f / 268435456) = s1 at *
  generalize c * f / 268435456 * (c * f / 268435456) = s2 at *
  generalize d * f / 268435456 * (d * f / 268435456) = s3 at *
  generalize a * f * (a * f) = p0 at *
  generalize b * f * (b * f) = p1 at *
  generalize c * f * (c * f) = p2 at *
  generalize d * f * (d * f) = p3 at *
  generalize S * (f * f) = p4 at *
  omega
theorem sq_part {a b c d : Int} (h : a * a + b * b + c * c + d * d < 288230376151711744) : (-536870912 ≤ a ∧ a ≤ 536870912) ∧ (-536870912 ≤ b ∧ b ≤ 536870912) ∧ (-536870912 ≤ c ∧ c ≤ 536870912) ∧ (-536870912 ≤ d ∧ d ≤ 536870912) := by
  have q0 := sqn a
  have q1 := sqn b
  have q2 := sqn c
  have q3 := sqn d
  refine ⟨sq_root2 ?_, sq_root2 ?_, sq_root2 ?_, sq_root2 ?_⟩ <;> omega
theorem nb_qnorm {r : Nat → Int64} (hS : sq4 r < 288230376151711744) : nb (qnorm r) := by
  have hS0 : 0 ≤ sq4 r := sq4_0 r
  obtain ⟨b0, b1, b2, b3⟩ := sq_part (a := (r 0).toInt) (b := (r 1).toInt) (c := (r 2).toInt) (d := (r 3).toInt) hS
  have m0 := zmul (x := r 0) (y := r 0) b0 b0 (by decide)
  have m1 := zmul (x := r 1) (y := r 1) b1 b1 (by decide)
  have m2 := zmul (x := r 2) (y := r 2) b2 b2 (by decide)
  have m3 := zmul (x := r 3) (y := r 3) b3 b3 (by decide)
  have a1 := zadd m0.2 m1.2 (by decide)
  have a2 := zadd a1.2 m2.2 (by decide)
  have a3 := zadd a2.2 m3.2 (by decide)
  have eS : (qss r).toInt = sq4 r := by
    show (r 0 * r 0 + r 1 * r 1 + r 2 * r 2 + r 3 * r 3).toInt = _
    rw [a3.1, a2.1, a1.1, m0.1, m1.1, m2.1, m3.1]
    rfl
  clear m0 m1 m2 m3 a1 a2 a3
  have em : (sar (qss r) 28).toInt = sq4 r / 268435456 := by rw [sar28, eS]
  have bm : zbd (sar (qss r) 28) 1073741824 := by
    unfold zbd
    rw [em]
    clear em eS b0 b1 b2 b3
    generalize sq4 r = S at *
    omega
  have d1 := zsub (x := (268435456 : Int64)) ⟨by decide, by decide⟩ bm (a := 268435456) (by decide)
  have bs : zbd (sar (268435456 - sar (qss r) 28) 1) 671088641 := zbd_le (zsar1 d1.2) (by decide)
  have d2 := zadd (x := (268435456 : Int64)) ⟨by decide, by decide⟩ bs (a := 268435456) (by decide)
  have eT : (268435456 : Int64).toInt = 268435456 := by decide
  obtain ⟨f, hf⟩ : ∃ f : Int64, f = 268435456 + sar (268435456 - sar (qss r) 28) 1 := ⟨_, rfl⟩
  have ef : f.toInt = 268435456 + (268435456 - sq4 r / 268435456) / 2 := by rw [hf, d2.1, sar1, d1.1, em, eT]
  obtain ⟨-, n2, n3⟩ := norm_b hS0 hS ef
  have bf : zbd f 402653184 := ⟨Int.le_trans (by decide) n2, n3⟩
  have key : ∀ x : Int64, zbd x 536870912 → (sar (x * f) 28).toInt = x.toInt * f.toInt / 268435456 := fun x hx => by rw [sar28, (zmul hx bf (by decide)).1]
  show nb (fun j => sar (r j * (268435456 + sar (268435456 - sar (qss r) 28) 1)) 28)
  rw [← hf]
  show (sar (r 0 * f) 28).toInt * (sar (r 0 * f) 28).toInt + (sar (r 1 * f) 28).toInt * (sar (r 1 * f) 28).toInt + (sar (r 2 * f) 28).toInt * (sar (r 2 * f) 28).toInt + (sar (r 3 * f) 28).toInt * (sar (r 3 * f) 28).toInt ≤ 72057602627862528
  rw [key (r 0) b0, key (r 1) b1, key (r 2) b2, key (r 3) b3]
  exact nn_fin hS0 hS ef rfl b0 b1 b2 b3
theorem sc3 (a b c f : Int) : (a * f) * (a * f) + (b * f) * (b * f) + (c * f) * (c * f) = (a * a + b * b + c * c) * (f * f) := by grind
theorem st_fin {c x y z s : Int} (hc : -268435456 ≤ c ∧ c ≤ 268435456) (bx : -300000000 ≤ x ∧ x ≤ 300000000) (by_ : -300000000 ≤ y ∧ y ≤ 300000000) (bz : -300000000 ≤ z ∧ z ≤ 300000000) (bs : -268435456 ≤ s ∧ s ≤ 268435456) (hN : (x * x + y * y + z * z) * (s * s) ≤ 10903823402923138019914042291362201) : c * c + x * s / 268435456 * (x * s / 268435456) + y * s / 268435456 * (y * s / 268435456) + z * s / 268435456 * (z * s / 268435456) ≤ 234187180623265792 := by
  have f1 := fl_sq (mulb bx bs)
  have f2 := fl_sq (mulb by_ bs)
  have f3 := fl_sq (mulb bz bs)
  have h3 := sc3 x y z s
  have hc2 := mulb hc hc
  clear hc bx by_ bz bs
  generalize x * s / 268435456 * (x * s / 268435456) = s1 at *
  generalize y * s / 268435456 * (y * s / 268435456) = s2 at *
  generalize z * s / 268435456 * (z * s / 268435456) = s3 at *
  generalize x * s * (x * s) = p1 at *
  generalize y * s * (y * s) = p2 at *
  generalize z * s * (z * s) = p3 at *
  generalize (x * x + y * y + z * z) * (s * s) = p4 at *
  generalize c * c = p5 at *
  omega
theorem st_b {c s x y z : Int64} (hc : zbd c 268435456) (hs : 0 ≤ s.toInt ∧ s.toInt ≤ 268435456) (hx : zbd x 300000000) (hy : zbd y 300000000) (hz : zbd z 300000000) (hN : (x.toInt * x.toInt + y.toInt * y.toInt + z.toInt * z.toInt) * (s.toInt * s.toInt) ≤ 10903823402923138019914042291362201) : (zbd (qstep c s x y z 0) 536870912 ∧ zbd (qstep c s x y z 1) 536870912 ∧ zbd (qstep c s x y z 2) 536870912 ∧ zbd (qstep c s x y z 3) 536870912) ∧ sq4 (qstep c s x y z) ≤ 234187180623265792 := by
  have bs : zbd s 268435456 := ⟨Int.le_trans (by decide) hs.1, hs.2⟩
  have key : ∀ x : Int64, zbd x 300000000 → (sar (x * s) 28).toInt = x.toInt * s.toInt / 268435456 ∧ zbd (sar (x * s) 28) 536870912 := fun x hx => by
    have h := zmul hx bs (by decide)
    exact ⟨by rw [sar28, h.1], zbd_le (zsar28 h.2) (by decide)⟩
  obtain ⟨e1, g1⟩ := key x hx
  obtain ⟨e2, g2⟩ := key y hy
  obtain ⟨e3, g3⟩ := key z hz
  refine ⟨⟨zbd_le hc (by decide), g1, g2, g3⟩, ?_⟩
  show c.toInt * c.toInt + (sar (x * s) 28).toInt * (sar (x * s) 28).toInt + (sar (y * s) 28).toInt * (sar (y * s) 28).toInt + (sar (z * s) 28).toInt * (sar (z * s) 28).toInt ≤ _
  rw [e1, e2, e3]
  exact st_fin hc hx hy hz bs hN
theorem nb_qby {u : Nat → Int64} {c s x y z : Int64} (hu : nb u) (hc : zbd c 268435456) (hs : 0 ≤ s.toInt ∧ s.toInt ≤ 268435456) (hx : zbd x 300000000) (hy : zbd y 300000000) (hz : zbd z 300000000) (hN : (x.toInt * x.toInt + y.toInt * y.toInt + z.toInt * z.toInt) * (s.toInt * s.toInt) ≤ 10903823402923138019914042291362201) : nb (qby u c s x y z) := by
  obtain ⟨h1, h2⟩ := st_b hc hs hx hy hz hN
  exact nb_qnorm (qm_sq hu h1 h2)
theorem qt_fin {N : Int} (h0 : 0 ≤ N) (h1 : N ≤ 232686750000000000) : (-268435456 ≤ 268435456 - N / 268435456 / 2 ∧ 268435456 - N / 268435456 / 2 ≤ 268435456) ∧ (0 ≤ 268435456 - N / 268435456 / 6 ∧ 268435456 - N / 268435456 / 6 ≤ 268435456) ∧ N * ((268435456 - N / 268435456 / 6) * (268435456 - N / 268435456 / 6)) ≤ 10903823402923138019914042291362201 := by
  have a2 : N ≤ 268435456 * (N / 268435456) + 268435456 := by omega
  have a3 : 0 ≤ N / 268435456 := by omega
  have a4 : N / 268435456 ≤ 866825692 := by omega
  generalize N / 268435456 = n at *
  have s1 : 6 * (n / 6) ≤ n := by omega
  have s2 : n ≤ 6 * (n / 6) + 5 := by omega
  refine ⟨by omega, ?_⟩
  generalize n / 6 = k at *
  refine ⟨by omega, ?_⟩
  by_cases hc : n ≤ 536870912
  · have k1 : (268435456 - k) * (268435456 - k) ≤ 268435456 * 268435456 := mle (by omega) (by omega) (by omega) (by decide)
    have k2 : N * ((268435456 - k) * (268435456 - k)) ≤ (536870913 * 268435456) * (268435456 * 268435456) := mle (by omega) k1 (sqn _) (by decide)
    exact Int.le_trans k2 (by decide)
  · have k1 : (268435456 - k) * (268435456 - k) ≤ 178956971 * 178956971 := mle (by omega) (by omega) (by omega) (by decide)
    have k2 : N * ((268435456 - k) * (268435456 - k)) ≤ 232686750000000000 * (178956971 * 178956971) := mle h1 k1 (sqn _) (by decide)
    exact Int.le_trans k2 (by decide)
theorem f6_b {x : Int64} (h : zbd x 866825692) : (fdiv x 6).toInt = x.toInt / 6 ∧ zbd (fdiv x 6) 144470949 := by
  have e : (fdiv x 6).toInt = x.toInt / 6 := fdiv_ed (by decide)
  refine ⟨e, ?_⟩
  unfold zbd at *
  rw [e]
  omega
theorem hf_b {x : Int64} (h : zbd x 557000000) : zbd (sar x 1) 278500000 := by
  unfold zbd at *
  rw [sar1]
  omega
theorem sq3_b {a b c B : Int} (ha : -B ≤ a ∧ a ≤ B) (hb : -B ≤ b ∧ b ≤ B) (hc : -B ≤ c ∧ c ≤ B) : 0 ≤ a * a + b * b + c * c ∧ a * a + b * b + c * c ≤ B * B + B * B + B * B := by
  have q0 := sqn a
  have q1 := sqn b
  have q2 := sqn c
  have p0 := (mulb ha ha).2
  have p1 := (mulb hb hb).2
  have p2 := (mulb hc hc).2
  exact ⟨Int.add_nonneg (Int.add_nonneg q0 q1) q2, Int.add_le_add (Int.add_le_add p0 p1) p2⟩
theorem nb_qturn {u : Nat → Int64} {x y z : Int64} (hu : nb u) (hx : zbd x 557000000) (hy : zbd y 557000000) (hz : zbd z 557000000) : nb (qturn u x y z) := by
  have ax := hf_b hx
  have ay := hf_b hy
  have az := hf_b hz
  have mx := zmul ax ax (by decide)
  have my := zmul ay ay (by decide)
  have mz := zmul az az (by decide)
  have a1 := zadd mx.2 my.2 (by decide)
  have a2 := zadd a1.2 mz.2 (by decide)
  obtain ⟨hN0, hN1⟩ := sq3_b ax ay az
  have en : (tn x y z).toInt = ((sar x 1).toInt * (sar x 1).toInt + (sar y 1).toInt * (sar y 1).toInt + (sar z 1).toInt * (sar z 1).toInt) / 268435456 := by
    show (sar (sar x 1 * sar x 1 + sar y 1 * sar y 1 + sar z 1 * sar z 1) 28).toInt = _
    rw [sar28, a2.1, a1.1, mx.1, my.1, mz.1]
  clear mx my mz a1 a2
  have eT : (268435456 : Int64).toInt = 268435456 := by decide
  have bT : zbd (268435456 : Int64) 268435456 := ⟨by decide, by decide⟩
  have hN2 : (sar x 1).toInt * (sar x 1).toInt + (sar y 1).toInt * (sar y 1).toInt + (sar z 1).toInt * (sar z 1).toInt ≤ 232686750000000000 := Int.le_trans hN1 (by decide)
  obtain ⟨q1, q2, q3⟩ := qt_fin hN0 hN2
  have bn : zbd (tn x y z) 866825692 := by
    unfold zbd
    rw [en]
    clear q1 q2 q3 en hN1
    generalize (sar x 1).toInt * (sar x 1).toInt + (sar y 1).toInt * (sar y 1).toInt + (sar z 1).toInt * (sar z 1).toInt = N at *
    omega
  have bc : zbd (sar (tn x y z) 1) 433412847 := zbd_le (zsar1 bn) (by decide)
  obtain ⟨e6, b6⟩ := f6_b bn
  have dc := zsub bT bc (by decide)
  have ds := zsub bT b6 (by decide)
  have ec : (268435456 - sar (tn x y z) 1).toInt = 268435456 - ((sar x 1).toInt * (sar x 1).toInt + (sar y 1).toInt * (sar y 1).toInt + (sar z 1).toInt * (sar z 1).toInt) / 268435456 / 2 := by rw [dc.1, sar1, en, eT]
  have es : (268435456 - fdiv (tn x y z) 6).toInt = 268435456 - ((sar x 1).toInt * (sar x 1).toInt + (sar y 1).toInt * (sar y 1).toInt + (sar z 1).toInt * (sar z 1).toInt) / 268435456 / 6 := by rw [ds.1, e6, en, eT]
  refine nb_qby hu ?_ ?_ (zbd_le ax (by decide)) (zbd_le ay (by decide)) (zbd_le az (by decide)) ?_
  · unfold zbd
    rw [ec]
    exact q1
  · rw [es]
    exact q2
  · rw [es]
    exact q3
theorem hfP_b {x : Int64} (h : zbd x 100000000) : zbd (sar x 1) 50000000 := by
  unfold zbd at *
  rw [sar1]
  omega
theorem nb_qturnP {u : Nat → Int64} {x y z : Int64} (hu : nb u) (hx : zbd x 100000000) (hy : zbd y 100000000) (hz : zbd z 100000000) : nb (qturnP u x y z) := by
  have ax := hfP_b hx
  have ay := hfP_b hy
  have az := hfP_b hz
  obtain ⟨hN0, hN1⟩ := sq3_b ax ay az
  refine nb_qby hu ⟨by decide, by decide⟩ ⟨by decide, by decide⟩ (zbd_le ax (by decide)) (zbd_le ay (by decide)) (zbd_le az (by decide)) ?_
  rw [show (268435456 : Int64).toInt = 268435456 by decide]
  exact Int.le_trans (mle hN1 (Int.le_refl _) (by decide) (by decide)) (by decide)
