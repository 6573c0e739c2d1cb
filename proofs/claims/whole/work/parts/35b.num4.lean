/-! ===== a tick keeps it ===== -/
theorem zi64 {x : Int32} {n : Int} (h : zbi x n) : zbd x.toInt64 n := by
  unfold zbi at h
  unfold zbd
  rw [Int32.toInt_toInt64]
  exact h
theorem zbi_le {x : Int32} {a b : Int} (h : zbi x a) (hab : a ≤ b) : zbi x b := by unfold zbi at *; omega
theorem ush_b (x : Int32) : 0 ≤ (iushr x 16).toInt ∧ (iushr x 16).toInt ≤ 65535 := by
  have e : x = nI x.toBitVec.toNat := by
    apply Int32.toBitVec_inj.mp
    simp [nI, Int32.toBitVec_ofNat', BitVec.ofNat_toNat]
  have hlt : x.toBitVec.toNat < 2 ^ 32 := x.toBitVec.isLt
  have h : iushr x 16 = nI (x.toBitVec.toNat / 2 ^ 16) := by
    unfold iushr
    rw [e]
    rw [pk_ushrN hlt 16 16 (by decide), ← e]
  rw [h, nI_toInt (by omega)]
  omega
theorem mod_b {y n : Int32} (hy : 0 ≤ y.toInt ∧ y.toInt ≤ 65535) (hn : 1 ≤ n.toInt ∧ n.toInt ≤ 20001) : (y - y / n * n).toInt = y.toInt % n.toInt := by
  have h1 : (y / n).toInt = y.toInt.tdiv n.toInt := Int32.toInt_div_of_ne_right y n (fun q => by
    rw [q] at hn
    exact absurd hn.1 (by decide))
  have h2 : y.toInt.tdiv n.toInt = y.toInt / n.toInt := Int.tdiv_eq_ediv_of_nonneg hy.1
  have h3 := Int.emod_add_mul_ediv y.toInt n.toInt
  have h4 := Int.emod_nonneg y.toInt (show n.toInt ≠ 0 by omega)
  have h5 : 0 ≤ y.toInt / n.toInt := Int.ediv_nonneg hy.1 (by omega)
  have h6 : n.toInt * (y.toInt / n.toInt) ≤ y.toInt := by omega
  have h7 : 0 ≤ n.toInt * (y.toInt / n.toInt) := Int.mul_nonneg (by omega) h5
  have e1 : (y / n * n).toInt = n.toInt * (y.toInt / n.toInt) := by
    rw [Int32.toInt_mul, h1, h2, Int.mul_comm (y.toInt / n.toInt), Int.bmod_eq_of_le (by omega) (by omega)]
  rw [Int32.toInt_sub, e1, Int.bmod_eq_of_le (by omega) (by omega)]
  omega
theorem drw_b {sd am : Int32} (h : 0 ≤ am.toInt ∧ am.toInt ≤ 10000) : zbi (drw sd am) 10000 := by
  unfold drw
  by_cases q : 0 < am.toInt
  · rw [if_pos q]
    have e2 : (2 : Int32).toInt = 2 := by decide
    have e1 : (1 : Int32).toInt = 1 := by decide
    have en : (2 * am + 1).toInt = 2 * am.toInt + 1 := by
      rw [Int32.toInt_add, Int32.toInt_mul, e1, e2, Int.bmod_eq_of_le (n := 2 * am.toInt) (by omega) (by omega), Int.bmod_eq_of_le (by omega) (by omega)]
    have hm := mod_b (ush_b (nxs sd am)) (n := 2 * am + 1) (by rw [en]; omega)
    have h4 := Int.emod_nonneg (iushr (nxs sd am) 16).toInt (show (2 * am + 1).toInt ≠ 0 by rw [en]; omega)
    have h5 := Int.emod_lt_of_pos (iushr (nxs sd am) 16).toInt (show 0 < (2 * am + 1).toInt by rw [en]; omega)
    rw [← hm] at h4 h5
    rw [en] at h5
    unfold zbi
    generalize iushr (nxs sd am) 16 - iushr (nxs sd am) 16 / (2 * am + 1) * (2 * am + 1) = z at *
    rw [Int32.toInt_sub, Int.bmod_eq_of_le (by omega) (by omega)]
    omega
  · rw [if_neg q]
    unfold zbi
    rw [show (0 : Int32).toInt = 0 by decide]
    omega
theorem fdm_b {x : Int64} (h : zbd x 42000000000) : zbd (fdiv x 1000000) 42001 := by
  have e : (fdiv x 1000000).toInt = x.toInt / 1000000 := fdiv_ed (by decide)
  unfold zbd at *
  rw [e]
  omega
theorem sl_b {sl tp : Int32} (hs : zbi sl 1000) (ht : -40 ≤ tp.toInt ∧ tp.toInt ≤ 85) : zbi (fdivI (sl * (tp - 25)) 10) 6501 := by
  have e25 : (25 : Int32).toInt = 25 := by decide
  have e1 : (tp - 25).toInt = tp.toInt - 25 := by rw [Int32.toInt_sub, e25, Int.bmod_eq_of_le (by omega) (by omega)]
  have b := mulb hs (show -65 ≤ tp.toInt - 25 ∧ tp.toInt - 25 ≤ 65 by omega)
  have e2 : (sl * (tp - 25)).toInt = sl.toInt * (tp.toInt - 25) := by rw [Int32.toInt_mul, e1, Int.bmod_eq_of_le (by omega) (by omega)]
  unfold zbi
  rw [fdivI_ed10, e2]
  omega
theorem rdg_b {g : Int64} {sc bi sl tm d : Int32} (hg : zbd g 4200000) (hsc : zbi sc 10000) (hbi : zbi bi 100000) (hsl : zbi sl 1000) (htm : -40 ≤ tm.toInt ∧ tm.toInt ≤ 85) (hd : zbi d 10000) : zbd (rdg g sc bi sl tm d) 4400000 := by
  have m := zmul hg (zi64 hsc) (by decide)
  have f := fdm_b m.2
  have a1 := zadd hg f (by decide)
  have a2 := zadd a1.2 (zi64 hbi) (by decide)
  have a3 := zadd a2.2 (zi64 (sl_b hsl htm)) (by decide)
  have a4 := zadd a3.2 (zi64 hd) (by decide)
  exact zbd_le a4.2 (by decide)
theorem v3_b {x y z : Int64} {n : Int} (hx : zbd x n) (hy : zbd y n) (hz : zbd z n) (j : Nat) : zbd (v3 x y z j) n := match j with
  | 0 => hx
  | 1 => hy
  | _ + 2 => hz
theorem zbd_0 {n : Int} (h : 0 ≤ n) : zbd 0 n := by
  unfold zbd
  rw [show (0 : Int64).toInt = 0 by decide]
  omega
theorem zbi_0 {n : Int} (h : 0 ≤ n) : zbi 0 n := by
  unfold zbi
  rw [show (0 : Int32).toInt = 0 by decide]
  omega
theorem uR_b {u : zS} (h : Inv u) (j : Nat) : zbd (uR u j) 4000000 := by
  obtain ⟨g1, g2, ⟨rx, ry, rz⟩, g4⟩ := h
  unfold uR tkR
  by_cases q : u.2.2.1 0 = 0
  · rw [if_pos q]
    exact v3_b (zbd_0 (by decide)) (zbd_0 (by decide)) (zbd_0 (by decide)) j
  · rw [if_neg q]
    exact v3_b (zi64 (rx 0)) (zi64 (ry 0)) (zi64 (rz 0)) j
theorem ea_b {u : zS} (h : Inv u) {q : Nat → Int64} (hq : nb q) (j : Nat) : zbd (bodyq q (u.1 8 0) (u.1 8 1) (u.1 8 2) j) 200000 := by
  obtain ⟨g1, g2, g3, g4, g5, g6, g7, g8, ⟨e1, e0, e2⟩, g10⟩ := h
  exact body_b hq e0 (by rw [e1]; exact zbd_0 (by decide)) e2 j
theorem uG_b {u : zS} (h : Inv u) (j : Nat) : zbd (uG u j) 4400000 := by
  have hr := uR_b h
  have hw := ea_b h h.2.2.2.2.2.2.2.2.2.2.2.2.1.1
  have hg : ∀ j, zbd (uR u j + bodyq (u.1 0) (u.1 8 0) (u.1 8 1) (u.1 8 2) j) 4200000 := fun j => zbd_le (zadd (hr j) (hw j) (by decide)).2 (by decide)
  obtain ⟨g1, ⟨gb, gs, gn, gl, ac⟩, g3, g4, tp, g6⟩ := h
  match j with
  | 0 => exact rdg_b (hg 0) (gs 0) (gb 0) (gl 0) tp (drw_b (gn 0))
  | 1 => exact rdg_b (hg 1) (gs 1) (gb 1) (gl 1) tp (drw_b (gn 1))
  | j + 2 => exact rdg_b (hg 2) (gs 2) (gb 2) (gl 2) tp (drw_b (gn 2))
theorem uK_b {u : zS} (h : Inv u) (j : Nat) : zbd (uK u j) 5400000 := (zsub (uG_b h j) (zi64 (h.2.2.2.1 _)) (by decide)).2
theorem uC_b {u : zS} (h : Inv u) {j : Nat} (hj : j < 3) : zbd (uC u j) 12400000 := (zsub (uK_b h j) (h.2.2.2.2.2.2.2.2.2.2.1 j hj) (by decide)).2
theorem uV_b {u : zS} (h : Inv u) {j : Nat} (hj : j < 3) : zbd (uV u j) 12600000 := (zsub (uC_b h hj) (ea_b h h.2.2.2.2.2.2.2.2.2.2.2.2.1.2 j) (by decide)).2
theorem uT_nb {u : zS} (h : Inv u) : nb (uT u) := nb_qturn h.2.2.2.2.2.2.2.2.2.2.2.2.1.1 (zbd_le (uR_b h 0) (by decide)) (zbd_le (uR_b h 1) (by decide)) (zbd_le (uR_b h 2) (by decide))
theorem uA_b {u : zS} (h : Inv u) (j : Nat) : zbd (uA u j) 278435530 := (zadd (up_b (uT_nb h) j) (zi64 (h.2.1.2.2.2.2 j)) (by decide)).2
theorem cv_b {x : Int64} (h : zbd x 504000000000000) : zbd (conv12 x) 160000 := by
  have hs := zsar28 h
  have e : (fdiv (sar x 28) 12).toInt = (sar x 28).toInt / 12 := fdiv_ed (by decide)
  unfold conv12
  unfold zbd at *
  rw [e]
  omega
theorem uP_nb {u : zS} (h : Inv u) : nb (uP u) := by
  have es := h.2.2.2.2.2.2.2.2.2.2.2.2.1.2
  have lt := h.2.2.2.2.2.2.2.2.2.2.2.1
  have v0 := uV_b h (j := 0) (by decide)
  have v1 := uV_b h (j := 1) (by decide)
  have v2 := uV_b h (j := 2) (by decide)
  obtain ⟨c0, c1, c2⟩ := crs_b (f := u.1 7) (g := uV u) ⟨lt 0 (by decide), lt 1 (by decide), lt 2 (by decide)⟩ ⟨v0, v1, v2⟩ (by decide) (by decide)
  unfold uP prp
  by_cases q0 : u.2.1 11 3 = 0
  · rw [if_pos q0]
    exact nb_qturnP es (zbd_le v0 (by decide)) (zbd_le v1 (by decide)) (zbd_le v2 (by decide))
  · rw [if_neg q0]
    by_cases q1 : u.2.1 11 3 = 1
    · rw [if_pos q1]
      exact nb_qturn es (zbd_le v0 (by decide)) (zbd_le v1 (by decide)) (zbd_le v2 (by decide))
    · rw [if_neg q1]
      exact nb_qturn es (zbd_le (zadd v0 (cv_b (zbd_le c0 (by decide))) (by decide)).2 (by decide)) (zbd_le (zadd v1 (cv_b (zbd_le c1 (by decide))) (by decide)).2 (by decide)) (zbd_le (zadd v2 (cv_b (zbd_le c2 (by decide))) (by decide)).2 (by decide))
theorem uL_nb {u : zS} (h : Inv u) : nb (uL u) := by
  have hp := uP_nb h
  have hlv := h.2.2.2.2.2.2.1
  unfold uL lev
  by_cases q : 0 < (u.2.1 11 4).toInt
  · rw [if_pos q]
    obtain ⟨c0, c1, c2⟩ := crs_b (f := uA u) (g := upb (uP u)) ⟨uA_b h 0, uA_b h 1, uA_b h 2⟩ ⟨up_b hp 0, up_b hp 1, up_b hp 2⟩ (by decide) (by decide)
    exact nb_qturn hp (zbd_le (sarL hlv (by decide) c0) (by decide)) (zbd_le (sarL hlv (by decide) c1) (by decide)) (zbd_le (sarL hlv (by decide) c2) (by decide))
  · rw [if_neg q]
    exact hp
theorem htn_b (x q : Int64) (hd : Int32) : zbd (htn x q hd) 557000000 := by
  have h := lim_bd (v := sar (shl (fdiv (shl x 20) q) 8) hd) (m := 16777216) (by decide)
  exact zbd_le h (by decide)
theorem uE_nb {u : zS} (h : Inv u) : nb (uE u) := by
  have hl := uL_nb h
  show nb (bif sks (u.2.1 11 5) (u.1 8) (uC u) then hdg (uL u) (ffl (u.1 6) (uC u)) (u.1 8) (u.2.1 11 5) else uL u)
  cases sks (u.2.1 11 5) (u.1 8) (uC u)
  · exact hl
  · exact nb_qturn hl (htn_b _ _ _) (htn_b _ _ _) (htn_b _ _ _)
theorem md_b {S t : Int} (ht : 0 < t) (h : -(t * 6000000) ≤ S ∧ S ≤ t * 6000000) : -6000000 ≤ S / t ∧ S / t ≤ 6000000 := by
  refine ⟨(Int.le_ediv_iff_mul_le ht).mpr ?_, ?_⟩
  · have e : -6000000 * t = -(t * 6000000) := by grind
    omega
  · have h1 : S / t ≤ (6000000 * t) / t := Int.ediv_le_ediv ht (by omega)
    rw [Int.mul_ediv_cancel _ (by omega)] at h1
    exact h1
theorem uB_b {u : zS} (h : Inv u) {j : Nat} (hj : j < 3) : zbd (uB u j) 7000000 := by
  have hb := h.2.2.2.2.2.2.2.2.2.2.1
  have hc := h.2.2.2.2.2.2.2.1
  have hk := uK_b h j
  have he := ea_b h (uE_nb h) j
  unfold uB uS
  cases hr : run0 (u.2.1 11 6)
  · exact hb j hj
  · by_cases q : u.2.1 11 6 - 1 = 0
    · rw [decide_eq_true q]
      obtain ⟨c1, c2, c3, c4⟩ := hc hr
      have hl1 : (u.2.1 11 6).toInt = 1 := by
        have h0 := run0_T hr
        have := z13d h0
        rw [q, show (0 : Int32).toInt = 0 by decide] at this
        omega
      have c5 := c4 j hj
      rw [hl1] at c5
      show zbd (fdiv (u.1 5 j + uK u j) (u.2.1 11 7).toInt64 - bodyq (uE u) (u.1 8 0) (u.1 8 1) (u.1 8 2) j) 7000000
      have a := zadd c5 hk (by omega)
      have ef : (fdiv (u.1 5 j + uK u j) (u.2.1 11 7).toInt64).toInt = (u.1 5 j + uK u j).toInt / (u.2.1 11 7).toInt := by
        rw [fdiv_ed (by rw [Int32.toInt_toInt64]; exact c1), Int32.toInt_toInt64]
      have bf : zbd (fdiv (u.1 5 j + uK u j) (u.2.1 11 7).toInt64) 6000000 := by
        unfold zbd
        rw [ef]
        have a2 := a.2
        unfold zbd at a2
        exact md_b c1 (by omega)
      exact zbd_le (zsub bf he (by decide)).2 (by decide)
    · rw [decide_eq_false q]
      exact hb j hj
theorem shf_b {f : Nat → Int32} {n : Int} (h : ∀ i, zbi (f i) n) (k : Nat) : ∀ i, zbi (shf f k i) n := by
  intro i
  unfold shf
  split
  · exact h _
  · exact h _
theorem tkX_b {f fT : Nat → Int32} {n : Int} (h : ∀ i, zbi (f i) n) (k : Nat) : ∀ i, zbi (tkX k fT f i) n := by
  intro i
  unfold tkX
  by_cases q : k = 0
  · rw [if_pos q]; exact h i
  · rw [if_neg q]
    by_cases q2 : fT 0 - 1 = 0
    · rw [if_pos q2]; exact shf_b h k i
    · rw [if_neg q2]; exact h i
theorem tkN_b {n : Nat} {fT : Nat → Int32} (h : n ≤ 20) : tkN n fT ≤ 20 := by
  unfold tkN
  by_cases q : n = 0
  · rw [if_pos q]; exact h
  · rw [if_neg q]
    by_cases q2 : fT 0 - 1 = 0
    · rw [if_pos q2]; omega
    · rw [if_neg q2]; exact h
theorem cal_fin {a k S K : Int} (h : -((k - a) * 6000000) ≤ S ∧ S ≤ (k - a) * 6000000) (hK : -5400000 ≤ K ∧ K ≤ 5400000) : -((k - (a - 1)) * 6000000) ≤ S + K ∧ S + K ≤ (k - (a - 1)) * 6000000 := by omega
theorem iv_tick {u : zS} (h : Inv u) : Inv (tickF u) := by
  have h0 := h
  obtain ⟨⟨n0, n1⟩, g2, ⟨rx, ry, rz⟩, g4, g5, g6, g7, g8, g9, g10, g11, g12, g13, g14⟩ := h
  refine ⟨⟨tkN_b n0, n1⟩, g2, ⟨tkX_b rx _, tkX_b ry _, tkX_b rz _⟩, g4, g5, g6, g7, ?_, g9, g10, fun j hj => uB_b h0 hj, fun j hj => zbd_le (uV_b h0 hj) (by decide), ⟨uT_nb h0, uE_nb h0⟩, g14⟩
  intro hr
  have hr1 : run0 (uLf u) = true := hr
  show 0 < (u.2.1 11 7).toInt ∧ (uLf u).toInt ≤ (u.2.1 11 7).toInt ∧ (u.2.1 11 7).toInt ≤ 1000 ∧ ∀ j, j < 3 → zbd (uS u j) (((u.2.1 11 7).toInt - (uLf u).toInt) * 6000000)
  cases hl : run0 (u.2.1 11 6)
  · have e : uLf u = u.2.1 11 6 := by unfold uLf; rw [hl]; rfl
    rw [e, hl] at hr1
    exact absurd hr1 (by decide)
  · obtain ⟨c1, c2, c3, c4⟩ := g8 hl
    have e : (uLf u).toInt = (u.2.1 11 6).toInt - 1 := by
      unfold uLf
      rw [hl]
      exact z13d (run0_T hl)
    refine ⟨c1, by omega, c3, fun j hj => ?_⟩
    have c5 := c4 j hj
    have hk := uK_b h0 j
    have es : uS u j = u.1 5 j + uK u j := by unfold uS; rw [hl]; rfl
    rw [es, e]
    have hlp := run0_T hl
    have a := zadd c5 hk (by omega)
    unfold zbd
    rw [a.1]
    exact cal_fin c5 hk
theorem iv_iter {u : zS} (h : Inv u) : ∀ n, Inv (iterT n u)
  | 0 => h
  | n + 1 => iv_tick (iv_iter h n)
theorem iv_tickOK {u : zS} (h : Inv u) : tickOK u :=
  ⟨fun i _ => (h.2.1.2.2.1 i).2, iv_bin h, fun hr => (h.2.2.2.2.2.2.2.1 hr).1, h.1.1, ang_b (uT_nb h) (uE_nb h)⟩
theorem iv_refOK {u : zS} (h : Inv u) : refOK u :=
  ⟨fun i _ => h.2.1.2.2.1 i, fun i _ => h.2.1.2.2.2.1 i, h.2.2.2.2.1, iv_bin h, h.2.2.2.2.2.1, fun hr => (h.2.2.2.2.2.2.2.1 hr).1, h.1.1, h.2.2.2.2.2.2.2.2.1.1, h.2.2.2.2.2.2.2.2.1.2.1, h.2.2.2.2.2.2.2.2.1.2.2, h.2.2.2.2.2.2.2.2.2.1⟩
theorem iv_turn0 {u : zS} (h : Inv u) {x y z : Int32} (h1 : (zin x (-4000000) 4000000 && (zin y (-4000000) 4000000 && zin z (-4000000) 4000000)) = true) : Inv (sJ u 0 (qturn (u.1 0) x.toInt64 y.toInt64 z.toInt64)) := by
  obtain ⟨hx, hyz⟩ := andT h1
  obtain ⟨hy, hz⟩ := andT hyz
  obtain ⟨g1, g2, g3, g4, g5, g6, g7, g8, g9, g10, g11, g12, g13, g14⟩ := h
  exact ⟨g1, g2, g3, g4, g5, g6, g7, g8, g9, g10, g11, g12, ⟨nb_qturn g13.1 (zbd_le (i64 hx (by decide)) (by decide)) (zbd_le (i64 hy (by decide)) (by decide)) (zbd_le (i64 hz (by decide)) (by decide)), g13.2⟩, g14⟩
theorem iv_turn1 {u : zS} (h : Inv u) {x y z : Int32} (h1 : (zin x (-4000000) 4000000 && (zin y (-4000000) 4000000 && zin z (-4000000) 4000000)) = true) : Inv (sJ u 1 (qturn (u.1 1) x.toInt64 y.toInt64 z.toInt64)) := by
  obtain ⟨hx, hyz⟩ := andT h1
  obtain ⟨hy, hz⟩ := andT hyz
  obtain ⟨g1, g2, g3, g4, g5, g6, g7, g8, g9, g10, g11, g12, g13, g14⟩ := h
  exact ⟨g1, g2, g3, g4, g5, g6, g7, g8, g9, g10, g11, g12, ⟨g13.1, nb_qturn g13.2 (zbd_le (i64 hx (by decide)) (by decide)) (zbd_le (i64 hy (by decide)) (by decide)) (zbd_le (i64 hz (by decide)) (by decide))⟩, g14⟩
theorem l2i_b {x : Int64} {n : Int} (h : zbd x n) (hn : n < 2147483648) : zbi x.toInt32 n := by
  unfold zbd at h
  unfold zbi
  rw [Int64.toInt_toInt32, Int.bmod_eq_of_le (by omega) (by omega)]
  exact h
theorem iv_learn {u : zS} (h : Inv u) (hr : run0 (u.2.1 11 6) = false) {c : Nat} : Inv (sM (sJ (sI u 9 (absV (u.2.1 9) (u.1 4) c 3)) 4 (fun _ => 0)) 0 (absK (u.2.2.2 0) c 3)) := by
  obtain ⟨g1, g2, g3, g4, g5, g6, g7, g8, g9, g10, g11, g12, g13, g14⟩ := h
  refine ⟨g1, g2, g3, fun j => ?_, g5, g6, g7, g8, g9, absK_hz g10 (u.1 4) c 3, fun _ _ => zbd_0 (by decide), g12, g13, g14⟩
  show zbi (absV (u.2.1 9) (u.1 4) c 3 j) 1000000
  unfold absV
  split
  · exact l2i_b (zbd_le (lim_bd (m := 1000000) (by decide)) (by decide)) (by decide)
  · exact g4 j
theorem iv_ang {u : zS} (h : Inv u) : (qang2 (u.1 0) (u.1 1)).toInt < 2 ^ 62 := ang_b h.2.2.2.2.2.2.2.2.2.2.2.2.1.1 h.2.2.2.2.2.2.2.2.2.2.2.2.1.2
theorem iv_tilt {u : zS} (h : Inv u) : (sq3 (sar (crs (upb (u.1 0)) (upb (u.1 1)) 0) 28) (sar (crs (upb (u.1 0)) (upb (u.1 1)) 1) 28) (sar (crs (upb (u.1 0)) (upb (u.1 1)) 2) 28)).toInt < 2 ^ 62 := tilt_b h.2.2.2.2.2.2.2.2.2.2.2.2.1.1 h.2.2.2.2.2.2.2.2.2.2.2.2.1.2
theorem iv_angTo {u : zS} (h : Inv u) {i : Nat} (hi : i < u.2.2.1 1) : (qang2 (pick (u.1 10) i) (u.1 1)).toInt < 2 ^ 62 := ang_b (h.2.2.2.2.2.2.2.2.2.2.2.2.2 i hi) h.2.2.2.2.2.2.2.2.2.2.2.2.1.2
theorem nb_one : nb qone := by unfold nb; decide
theorem iv_reset {u : zS} (h : Inv u) : Inv (resetF u) := by
  obtain ⟨g1, g2, g3, g4⟩ := h
  exact ⟨⟨Nat.zero_le _, Nat.zero_le _⟩, ⟨fun _ => zbi_0 (by decide), fun _ => zbi_0 (by decide), fun _ => (show 0 ≤ (0 : Int32).toInt ∧ (0 : Int32).toInt ≤ 10000 by decide), fun _ => zbi_0 (by decide), fun _ => zbi_0 (by decide)⟩, g3, fun _ => zbi_0 (by decide), ⟨(show -40 ≤ (25 : Int32).toInt by decide), (show (25 : Int32).toInt ≤ 85 by decide)⟩, Or.inr (Or.inl rfl), ⟨(show 0 ≤ (0 : Int32).toInt by decide), (show (0 : Int32).toInt ≤ 20 by decide)⟩, fun h => absurd (show run0 0 = true from h) (by decide), ⟨rfl, zbd_0 (by decide), zbd_0 (by decide)⟩, fun _ _ => rfl, fun _ _ => zbd_0 (by decide), fun _ _ => zbd_0 (by decide), ⟨nb_one, nb_one⟩, fun i hi => absurd hi (Nat.not_lt_zero i)⟩
