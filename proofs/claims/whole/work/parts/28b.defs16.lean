/-! ===== the reference's tick over the state ===== -/
theorem nI_z {n : Nat} (h : n < 2 ^ 31) (q : nI n = 0) : n = 0 := by
  rcases Nat.eq_zero_or_pos n with h0 | h0
  · exact h0
  · exact absurd q (nI_ne0 h0 h)
theorem tkT_0 {n : Nat} {f : Nat → Int32} (h : n = 0) : tkT n f = f := if_pos h
theorem tkX_0 {n : Nat} {fT f : Nat → Int32} (h : n = 0) : tkX n fT f = f := if_pos h
theorem tkN_0 {n : Nat} {f : Nat → Int32} (h : n = 0) : tkN n f = n := if_pos h
theorem tkR_0 {n : Nat} {fX fY fZ : Nat → Int32} (h : n = 0) : tkR n fX fY fZ = v3 0 0 0 := if_pos h
theorem tkR_p {n : Nat} {fX fY fZ : Nat → Int32} (h : ¬ n = 0) : tkR n fX fY fZ = v3 (fX 0).toInt64 (fY 0).toInt64 (fZ 0).toInt64 := if_neg h
theorem tkT_p {n : Nat} {f : Nat → Int32} (h : ¬ n = 0) (h1 : ¬ f 0 - 1 = 0) : tkT n f = upd f 0 (f 0 - 1) := (if_neg h).trans (if_neg h1)
theorem tkX_p {n : Nat} {fT f : Nat → Int32} (h : ¬ n = 0) (h1 : ¬ fT 0 - 1 = 0) : tkX n fT f = f := (if_neg h).trans (if_neg h1)
theorem tkN_p {n : Nat} {f : Nat → Int32} (h : ¬ n = 0) (h1 : ¬ f 0 - 1 = 0) : tkN n f = n := (if_neg h).trans (if_neg h1)
theorem tkT_r {n : Nat} {f : Nat → Int32} (h : ¬ n = 0) (h1 : f 0 - 1 = 0) : tkT n f = shf (upd f 0 (f 0 - 1)) n := (if_neg h).trans (if_pos h1)
theorem tkX_r {n : Nat} {fT f : Nat → Int32} (h : ¬ n = 0) (h1 : fT 0 - 1 = 0) : tkX n fT f = shf f n := (if_neg h).trans (if_pos h1)
theorem tkN_r {n : Nat} {f : Nat → Int32} (h : ¬ n = 0) (h1 : f 0 - 1 = 0) : tkN n f = n - 1 := (if_neg h).trans (if_pos h1)
theorem uR_0 {u : zS} (f : Nat → Int64) (h : u.2.2.1 0 = 0) : ∀ j, j < 3 → vp_updL (vp_updL (vp_updL f 0 0) 1 0) 2 0 j = uR u j := by
  unfold uR
  rw [tkR_0 h]
  exact upd3_v3 f 0 0 0
theorem uR_p {u : zS} (f : Nat → Int64) (h : ¬ u.2.2.1 0 = 0) : ∀ j, j < 3 → vp_updL (vp_updL (vp_updL f 0 (mix (u.2.1 6) (u.2.1 7) (u.2.1 8) 0).toInt64) 1 (mix (u.2.1 6) (u.2.1 7) (u.2.1 8) 1).toInt64) 2 (mix (u.2.1 6) (u.2.1 7) (u.2.1 8) 2).toInt64 j = uR u j := by
  unfold uR
  rw [tkR_p h, show mix (u.2.1 6) (u.2.1 7) (u.2.1 8) 0 = u.2.1 6 0 from mix_0 _ _ _ 0, show mix (u.2.1 6) (u.2.1 7) (u.2.1 8) 1 = u.2.1 7 0 from mix_1 _ _ _ 0, show mix (u.2.1 6) (u.2.1 7) (u.2.1 8) 2 = u.2.1 8 0 from mix_2 _ _ _ 0]
  exact upd3_v3 f _ _ _
theorem lev_0 {lv : Int32} (u fa : Nat → Int64) (h : ¬ 0 < lv.toInt) : lev lv u fa = u := if_neg h
theorem lev_1 {lv : Int32} (u fa : Nat → Int64) (h : 0 < lv.toInt) : lev lv u fa = qturn u (sar (crs fa (upb u) 0) (28 + lv)) (sar (crs fa (upb u) 1) (28 + lv)) (sar (crs fa (upb u) 2) (28 + lv)) := if_pos h
def uP (u : zS) : Nat → Int64 := prp (u.2.1 11 3) (u.1 1) (uV u) (u.1 7)
def uL (u : zS) : Nat → Int64 := lev (u.2.1 11 4) (uP u) (uA u)
theorem sks_f {hd : Int32} (fn fc : Nat → Int64) (h : ¬ 0 < hd.toInt) : sks hd fn fc = false := by unfold sks; rw [run0_f h]; rfl
theorem sks_t {hd : Int32} (fn fc : Nat → Int64) (h : 0 < hd.toInt) : sks hd fn fc = (pos0 (esq fn) && slow fc) := by unfold sks; rw [run0_t h]; rfl
theorem uE_f {u : zS} (h : ¬ 0 < (u.2.1 11 5).toInt) : uL u = uE u := by
  show _ = (bif sks (u.2.1 11 5) (u.1 8) (uC u) then _ else _)
  rw [sks_f _ _ h]
  rfl
theorem uE_t {u : zS} (h : 0 < (u.2.1 11 5).toInt) : (bif (pos0 (esq (u.1 8)) && slow (uC u)) then hdg (uL u) (ffl (u.1 6) (uC u)) (u.1 8) (u.2.1 11 5) else uL u) = uE u := by
  show _ = (bif sks (u.2.1 11 5) (u.1 8) (uC u) then hdg (uL u) (ffl (u.1 6) (uC u)) (u.1 8) (u.2.1 11 5) else uL u)
  rw [sks_t _ _ h]
theorem uF_f {u : zS} (h : ¬ 0 < (u.2.1 11 5).toInt) : u.1 6 = uF u := by
  unfold uF
  rw [sks_f _ _ h]
  rfl
theorem uF_t {u : zS} (h : 0 < (u.2.1 11 5).toInt) : (bif (pos0 (esq (u.1 8)) && slow (uC u)) then ffl (u.1 6) (uC u) else u.1 6) = uF u := by
  unfold uF
  rw [sks_t _ _ h]
theorem uB_f {u : zS} (h : ¬ 0 < (u.2.1 11 6).toInt) : u.1 4 = uB u := by
  unfold uB
  rw [run0_f h]
  rfl
theorem uB_t {u : zS} {fY : Nat → Int64} (h : 0 < (u.2.1 11 6).toInt) (hy : fY = u.1 5) : (bif decide (u.2.1 11 6 - 1 = 0) then mnb (add3 (run0 (u.2.1 11 6)) fY (uK u)) (bodyq (uE u) (u.1 8 0) (u.1 8 1) (u.1 8 2)) (u.2.1 11 7) else u.1 4) = uB u := by
  subst hy
  unfold uB uS
  rw [run0_t h]
  rfl
theorem uLf_f {u : zS} (h : ¬ 0 < (u.2.1 11 6).toInt) : u.2.1 11 6 = uLf u := by
  unfold uLf
  rw [run0_f h]
  rfl
theorem uLf_t {u : zS} (h : 0 < (u.2.1 11 6).toInt) : u.2.1 11 6 - 1 = uLf u := by
  unfold uLf
  rw [run0_t h]
  rfl
theorem zmax_e {g e : Int64} (h : g.toInt < e.toInt) : e = zmax g e := (if_neg (fun q => by have := Int64.lt_iff_toInt_lt.mp q; omega)).symm
theorem zmax_g {g e : Int64} (h : e.toInt ≤ g.toInt) : g = zmax g e := by
  unfold zmax
  by_cases q : e < g
  · exact (if_pos q).symm
  · rw [if_neg q]
    have := mt Int64.lt_iff_toInt_lt.mpr q
    exact Int64.toInt_inj.mp (by omega)
/-- what a tick of the reference asks of the state -/
def refOK (u : zS) : Prop := (∀ i, i < 3 → 0 ≤ (u.2.1 2 i).toInt ∧ (u.2.1 2 i).toInt ≤ 10000) ∧ (∀ i, i < 3 → -1000 ≤ (u.2.1 3 i).toInt ∧ (u.2.1 3 i).toInt ≤ 1000) ∧ (-40 ≤ (u.2.1 11 0).toInt ∧ (u.2.1 11 0).toInt ≤ 85) ∧ zin (fdivI (u.2.1 11 0) 10) (-4) 8 = true ∧ (u.2.1 11 3 = 0 ∨ u.2.1 11 3 = 1 ∨ u.2.1 11 3 = 2) ∧ (run0 (u.2.1 11 6) = true → 0 < (u.2.1 11 7).toInt) ∧ u.2.2.1 0 ≤ 20 ∧ u.1 8 1 = 0 ∧ (-65536 ≤ (u.1 8 0).toInt ∧ (u.1 8 0).toInt ≤ 65536) ∧ (-65536 ≤ (u.1 8 2).toInt ∧ (u.1 8 2).toInt ≤ 65536) ∧ ∀ j, u.2.2.2 0 j = false → u.2.1 9 j = 0
