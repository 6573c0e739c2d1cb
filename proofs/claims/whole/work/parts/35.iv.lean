/-! ===== what stays true ===== -/
theorem iv_n {u : zS} (h : Inv u) : u.2.2.1 0 ≤ 20 ∧ u.2.2.1 1 ≤ 30 := h.1
theorem iv_hz {u : zS} (h : Inv u) : ∀ j, u.2.2.2 0 j = false → u.2.1 9 j = 0 := h.2.2.2.2.2.2.2.2.2.1
theorem iv_bin {u : zS} (h : Inv u) : zin (fdivI (u.2.1 11 0) 10) (-4) 8 = true := by
  have h1 := h.2.2.2.2.1
  refine zin_t ?_
  rw [fdivI_ed10]
  omega
theorem zinb {x : Int32} {n : Int} {a : Int} (h : zin x a n = true) (ha : a = -n) : zbi x n := by
  have := zin_T h
  unfold zbi
  omega
theorem all_upd {P : Int32 → Prop} {f : Nat → Int32} (h : ∀ i, P (f i)) (i : Nat) {v : Int32} (hv : P v) : ∀ j, P (upd f i v j) := by
  intro j
  unfold upd
  by_cases q : j = i
  · rw [if_pos q]; exact hv
  · rw [if_neg q]; exact h j
theorem all_shf {P : Int32 → Prop} {f : Nat → Int32} (h : ∀ i, P (f i)) (n : Nat) : ∀ j, P (shf f n j) := by
  intro j
  unfold shf
  split
  · exact h _
  · exact h _
theorem iv_gyro {u : zS} (h : Inv u) (i : Nat) {b c n l : Int32} (h1 : zin b (-100000) 100000 = true) (h2 : zin c (-10000) 10000 = true) (h3 : zin n 0 10000 = true) (h4 : zin l (-1000) 1000 = true) : Inv (sI (sI (sI (sI u 0 (upd (u.2.1 0) i b)) 1 (upd (u.2.1 1) i c)) 2 (upd (u.2.1 2) i n)) 3 (upd (u.2.1 3) i l)) :=
  ⟨h.1, ⟨all_upd (P := fun x => zbi x 100000) h.2.1.1 i (zinb h1 (by decide)), all_upd (P := fun x => zbi x 10000) h.2.1.2.1 i (zinb h2 (by decide)), all_upd (P := fun x => 0 ≤ x.toInt ∧ x.toInt ≤ 10000) h.2.1.2.2.1 i (zin_T h3), all_upd (P := fun x => zbi x 1000) h.2.1.2.2.2.1 i (zinb h4 (by decide)), h.2.1.2.2.2.2⟩, h.2.2⟩
theorem iv_acc {u : zS} (h : Inv u) (i : Nat) {b : Int32} (h1 : zin b (-10000000) 10000000 = true) : Inv (sI u 4 (upd (u.2.1 4) i b)) :=
  ⟨h.1, ⟨h.2.1.1, h.2.1.2.1, h.2.1.2.2.1, h.2.1.2.2.2.1, all_upd (P := fun x => zbi x 10000000) h.2.1.2.2.2.2 i (zinb h1 (by decide))⟩, h.2.2⟩
theorem i64 {x : Int32} {n : Int} {a : Int} (h : zin x a n = true) (ha : a = -n) : zbd x.toInt64 n := by
  have := zin_T h
  unfold zbd
  rw [Int32.toInt_toInt64]
  omega
theorem iv_earth {u : zS} (h : Inv u) {a b : Int32} (h0 : zin a (-65536) 65536 = true) (h1 : zin b (-65536) 65536 = true) : Inv (sJ u 8 (vp_updL (vp_updL (u.1 8) 0 a.toInt64) 2 b.toInt64)) := by
  obtain ⟨g1, g2, g3, g4, g5, g6, g7, g8, g9, g10⟩ := h
  exact ⟨g1, g2, g3, g4, g5, g6, g7, g8, ⟨g9.1, i64 h0 (by decide), i64 h1 (by decide)⟩, g10⟩
theorem iv_temp {u : zS} (h : Inv u) {a : Int32} (h0 : zin a (-40) 85 = true) : Inv (sP u 0 a) := by
  obtain ⟨g1, g2, g3, g4, g5, g6⟩ := h
  exact ⟨g1, g2, g3, g4, zin_T h0, g6⟩
theorem iv_seed {u : zS} (h : Inv u) (a : Int32) : Inv (sP u 1 a) := h
theorem iv_seg {u : zS} (h : Inv u) {a x y z : Int32} (hn : u.2.2.1 0 < 20) (h1 : (zin x (-4000000) 4000000 && (zin y (-4000000) 4000000 && zin z (-4000000) 4000000)) = true) : Inv (sN (sI (sI (sI (sI u 5 (upd (u.2.1 5) (u.2.2.1 0) a)) 6 (upd (u.2.1 6) (u.2.2.1 0) x)) 7 (upd (u.2.1 7) (u.2.2.1 0) y)) 8 (upd (u.2.1 8) (u.2.2.1 0) z)) 0 (u.2.2.1 0 + 1)) := by
  obtain ⟨hx, hyz⟩ := andT h1
  obtain ⟨hy, hz⟩ := andT hyz
  obtain ⟨g1, g2, g3, g4⟩ := h
  exact ⟨⟨hn, g1.2⟩, g2, ⟨all_upd (P := fun x => zbi x 4000000) g3.1 _ (zinb hx (by decide)), all_upd (P := fun x => zbi x 4000000) g3.2.1 _ (zinb hy (by decide)), all_upd (P := fun x => zbi x 4000000) g3.2.2 _ (zinb hz (by decide))⟩, g4⟩
theorem iv_clear {u : zS} (h : Inv u) : Inv (sN u 0 0) := by
  obtain ⟨g1, g2⟩ := h
  exact ⟨⟨Nat.zero_le _, g1.2⟩, g2⟩
theorem iv_meth {u : zS} (h : Inv u) {a : Int32} (h0 : zin a 0 2 = true) : Inv (sP u 3 a) := by
  obtain ⟨g1, g2, g3, g4, g5, g6, g7⟩ := h
  refine ⟨g1, g2, g3, g4, g5, ?_, g7⟩
  obtain ⟨i, hi, e⟩ := ax_nI h0
  show a = 0 ∨ a = 1 ∨ a = 2
  rcases (show i = 0 ∨ i = 1 ∨ i = 2 by omega) with q | q | q <;> subst q
  · exact Or.inl e
  · exact Or.inr (Or.inl e)
  · exact Or.inr (Or.inr e)
theorem iv_lev {u : zS} (h : Inv u) {a : Int32} (h0 : zin a 0 20 = true) : Inv (sP u 4 a) := by
  obtain ⟨g1, g2, g3, g4, g5, g6, g7, g8⟩ := h
  exact ⟨g1, g2, g3, g4, g5, g6, zin_T h0, g8⟩
theorem iv_head {u : zS} (h : Inv u) (a : Int32) {f : Nat → Int64} : Inv (sP (sJ u 6 f) 5 a) := h
theorem iv_cal {u : zS} (h : Inv u) {a : Int32} (h0 : zin a 1 1000 = true) : Inv (sP (sP (sJ u 5 (v3 0 0 0)) 6 a) 7 a) := by
  obtain ⟨g1, g2, g3, g4, g5, g6, g7, g8, g9⟩ := h
  refine ⟨g1, g2, g3, g4, g5, g6, g7, ?_, g9⟩
  intro _
  have hz := zin_T h0
  show 0 < a.toInt ∧ a.toInt ≤ a.toInt ∧ a.toInt ≤ 1000 ∧ ∀ j, j < 3 → zbd (v3 0 0 0 j) ((a.toInt - a.toInt) * 6000000)
  refine ⟨by omega, Int.le_refl _, by omega, ?_⟩
  rw [Int.sub_self]
  exact zall3 ⟨by decide, by decide⟩ ⟨by decide, by decide⟩ ⟨by decide, by decide⟩
theorem iv_comp {u : zS} (h : Inv u) (i : Nat) {v : Int32} (h2 : zin v (-1000000) 1000000 = true) : Inv (sM (sI u 9 (upd (u.2.1 9) i v)) 0 (va_up (u.2.2.2 0) i true)) := by
  obtain ⟨g1, g2, g3, g4, g5, g6, g7, g8, g9, g10, g11⟩ := h
  exact ⟨g1, g2, g3, all_upd (P := fun x => zbi x 1000000) g4 _ (zinb h2 (by decide)), g5, g6, g7, g8, g9, upd_hz g10 i v, g11⟩
theorem iv_forgetBin {u : zS} (h : Inv u) (c : Nat) : Inv (sM (sI u 9 (clrV (u.2.1 9) c 3)) 0 (clrK (u.2.2.2 0) c 3)) := by
  obtain ⟨g1, g2, g3, g4, g5, g6, g7, g8, g9, g10, g11⟩ := h
  refine ⟨g1, g2, g3, ?_, g5, g6, g7, g8, g9, clr_hz g10 c 3, g11⟩
  intro j
  show zbi (clrV (u.2.1 9) c 3 j) 1000000
  unfold clrV
  split
  · unfold zbi; decide
  · exact g4 j
theorem pick_lay {f q : Nat → Int64} (i : Nat) : ∀ j, j < 4 → pick (lay4 f q i) i j = q j := by
  intro j hj
  unfold pick lay4
  rw [if_pos (by omega), show i * 4 + j - i * 4 = j by omega]
theorem pick_layo {f q : Nat → Int64} {i i2 : Nat} (h : i2 ≠ i) : ∀ j, j < 4 → pick (lay4 f q i) i2 j = pick f i2 j := by
  intro j hj
  unfold pick lay4
  rw [if_neg (by omega)]
theorem nb_c {f g : Nat → Int64} (h : ∀ j, j < 4 → f j = g j) (hg : nb g) : nb f := by
  unfold nb at hg ⊢
  rw [h 0 (by decide), h 1 (by decide), h 2 (by decide), h 3 (by decide)]
  exact hg
theorem nb_lay {f q : Nat → Int64} {n : Nat} (hf : ∀ i, i < n → nb (pick f i)) (hq : nb q) (k : Nat) : ∀ i, i < n ∨ i = k → nb (pick (lay4 f q k) i) := by
  intro i hi
  by_cases e : i = k
  · subst e
    exact nb_c (pick_lay i) hq
  · exact nb_c (pick_layo e) (hf i (by omega))
theorem iv_store_old {u : zS} (h : Inv u) {i : Nat} (hi : i < u.2.2.1 1) : Inv (sJ u 10 (lay4 (u.1 10) (u.1 1) i)) := by
  obtain ⟨g1, g2, g3, g4, g5, g6, g7, g8, g9, g10, g11, g12, g13, g14⟩ := h
  exact ⟨g1, g2, g3, g4, g5, g6, g7, g8, g9, g10, g11, g12, g13, fun j hj => nb_lay g14 g13.2 i j (Or.inl hj)⟩
theorem iv_store_new {u : zS} (h : Inv u) (hn : u.2.2.1 1 < 30) (a : Int32) : Inv (sN (sI (sJ u 10 (lay4 (u.1 10) (u.1 1) (u.2.2.1 1))) 10 (upd (u.2.1 10) (u.2.2.1 1) a)) 1 (u.2.2.1 1 + 1)) := by
  obtain ⟨g1, g2, g3, g4, g5, g6, g7, g8, g9, g10, g11, g12, g13, g14⟩ := h
  exact ⟨⟨g1.1, hn⟩, g2, g3, g4, g5, g6, g7, g8, g9, g10, g11, g12, g13, fun j hj => nb_lay g14 g13.2 _ j (by have hj : j < u.2.2.1 1 + 1 := hj; omega)⟩
theorem iv_recall {u : zS} (h : Inv u) {i : Nat} (hi : i < u.2.2.1 1) : Inv (sJ u 1 (pick (u.1 10) i)) := by
  obtain ⟨g1, g2, g3, g4, g5, g6, g7, g8, g9, g10, g11, g12, g13, g14⟩ := h
  exact ⟨g1, g2, g3, g4, g5, g6, g7, g8, g9, g10, g11, g12, ⟨g13.1, g14 i hi⟩, g14⟩
theorem iv_forget {u : zS} (h : Inv u) {i : Nat} (hi : i < u.2.2.1 1) : Inv (sN (sI (sJ u 10 (del4 (u.1 10) i (u.2.2.1 1))) 10 (del (u.2.1 10) i (u.2.2.1 1))) 1 (u.2.2.1 1 - 1)) := by
  obtain ⟨g1, g2, g3, g4, g5, g6, g7, g8, g9, g10, g11, g12, g13, g14⟩ := h
  refine ⟨⟨g1.1, by have := g1.2; show u.2.2.1 1 - 1 ≤ 30; omega⟩, g2, g3, g4, g5, g6, g7, g8, g9, g10, g11, g12, g13, fun j hj => ?_⟩
  have hj : j < u.2.2.1 1 - 1 := hj
  show nb (pick (del4 (u.1 10) i (u.2.2.1 1)) j)
  by_cases q : j < i
  · refine nb_c (g := pick (u.1 10) j) (fun r hr => ?_) (g14 j (by omega))
    unfold pick del4
    rw [if_neg (by omega)]
  · refine nb_c (g := pick (u.1 10) (j + 1)) (fun r hr => ?_) (g14 (j + 1) (by omega))
    unfold pick del4
    rw [if_pos (by omega), show j * 4 + r + 4 = (j + 1) * 4 + r by omega]
