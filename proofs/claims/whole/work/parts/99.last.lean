set_option maxHeartbeats 4000000 in
set_option maxRecDepth 100000 in
theorem c_X3_absorb (l : Launch) (D : va_G) (k : Nat → ClassId) (sz : Nat) (h a0 a1 hg : Nat) (fV : Nat → Int32) (fg : Nat → Int64) (kn : Nat → Bool) (b : Int32) (hb3 : zin b (-4) 8 = true) : Met l yX3_absorb wsX3_absorb ({ frames := 3, cells := 0, slots := 0, locals := 65 } : Room) (va_Pc [.ref h, .ref hg, .int b] (zPre D k [(h, .inr (3, [.ref a0, .ref a1, .int (nI (cntB kn 39))])), (a0, zaI k 39 fV), (a1, zaZ k 39 (zk kn)), (hg, zaJ k 3 fg)] sz zX0)) (zQv D [(h, .inr (3, [.ref a0, .ref a1, .int (nI (cntB kn 39))])), (a0, zaI k 39 fV), (a1, zaZ k 39 (zk kn)), (hg, zaJ k 3 fg)] sz (fun w : va_W => w = [(h, .inr (3, [.ref a0, .ref a1, .int (nI (cntB (absK kn (cb b) 3) 39))])), (a0, zaI k 39 (absV fV fg (cb b) 3)), (a1, zaZ k 39 (zk (absK kn (cb b) 3))), (hg, zaJ k 3 (fun _ => 0))])) 0 0 (va_A [(h, .inr (3, [.ref a0, .ref a1, .int (nI (cntB kn 39))])), (a0, zaI k 39 fV), (a1, zaZ k 39 (zk kn)), (hg, zaJ k 3 fg)] sz) := by
  refine Met.ofW (cc := cX3_absorb) (maxL := 4) (ret := none) (by decide) rfl ?_
  intro p e s m args below meth c s₁ B hml hv
  obtain ⟨rfl, hsz, hP, hK, hD0, hE⟩ := hv
  have hx := B.exec
  have hb := B.bytes
  have hr := B.returns
  have hts := atoms_spec (ws := wsX3_absorb) B.pre
  have hown : s.vm.findClass RX3 = some m.cls := findClass_of_methodNamed B.named
  have hlocks := B.notSynchronized
  subst hsz
  have hD := hD0.self (sz := s.heap.size)
  delta zQv zB
  generalize hAe : va_A [(h, .inr (3, [.ref a0, .ref a1, .int (nI (cntB kn 39))])), (a0, zaI k 39 fV), (a1, zaZ k 39 (zk kn)), (hg, zaJ k 3 fg)] s.heap.size = A at hD hE ⊢
  have hA : ∀ q : Nat, s.heap.size ≤ q → A q := fun q h => by rw [← hAe]; exact Or.inr h
  have hS : va_S A s.heap s.heap [] := va_S.rf
  have hl := lv_entry [.ref h, .ref hg, .int b] (n := 4) (Nat.le_of_ble_eq_true rfl)
  rw [lg_entry_eq]
  generalize (lg_sl [.ref h, .ref hg, .int b] ++ List.replicate (4 - (lg_sl [.ref h, .ref hg, .int b]).length) Slot.unset).toArray = ls at hl ⊢
  have hl : lv_has ls 4 [(0, .ref h), (1, .ref hg), (2, .int b)] := hl
  have hl43 : (Cond.constantLong RX3 43 (1000000)).before #[Value.ref h, Value.ref hg, Value.int b] s = true := zw hts 1 rfl
  have hcb := cb_lt hb3
  refine lv_iconst (v := 0) hx hb dX3_absorb_0 (by decide) ?_
  refine lv_istore_n (lv' := [(3, .int 0), (0, .ref h), (1, .ref hg), (2, .int b)]) hx hb dX3_absorb_1 rfl hl (by decide) rfl (fun ls hl => ?_)
  have hl : lv_has ls 4 [(3, .int (nI 0)), (0, .ref h), (1, .ref hg), (2, .int b)] := hl
  have hP := z_congZ hP 2 rfl (g := zk (absK kn (cb b) 0)) (fun j _ => zk_cong (absK_0 kn (cb b) j)) (ws' := [(h, .inr (3, [.ref a0, .ref a1, .int (nI (cntB kn 39))])), (a0, zaI k 39 fV), (a1, zaZ k 39 (zk (absK kn (cb b) 0))), (hg, zaJ k 3 fg)]) rfl
  have hD := z_congDZ hD 2 rfl (g := zk (absK kn (cb b) 0)) (ws' := [(h, .inr (3, [.ref a0, .ref a1, .int (nI (cntB kn 39))])), (a0, zaI k 39 fV), (a1, zaZ k 39 (zk (absK kn (cb b) 0))), (hg, zaJ k 3 fg)]) rfl
  have hP := z_congI hP 1 rfl (g := absV fV fg (cb b) 0) (fun j _ => absV_0 fV fg (cb b) j) (ws' := [(h, .inr (3, [.ref a0, .ref a1, .int (nI (cntB kn 39))])), (a0, zaI k 39 (absV fV fg (cb b) 0)), (a1, zaZ k 39 (zk (absK kn (cb b) 0))), (hg, zaJ k 3 fg)]) rfl
  have hD := z_congDI hD 1 rfl (g := absV fV fg (cb b) 0) (ws' := [(h, .inr (3, [.ref a0, .ref a1, .int (nI (cntB kn 39))])), (a0, zaI k 39 (absV fV fg (cb b) 0)), (a1, zaZ k 39 (zk (absK kn (cb b) 0))), (hg, zaJ k 3 fg)]) rfl
  have hP := z_congO hP 0 rfl (fs2 := [.ref a0, .ref a1, .int (nI (cntB (absK kn (cb b) 0) 39))]) (by rw [cnt_abs0 kn (cb b)]) (ws' := [(h, .inr (3, [.ref a0, .ref a1, .int (nI (cntB (absK kn (cb b) 0) 39))])), (a0, zaI k 39 (absV fV fg (cb b) 0)), (a1, zaZ k 39 (zk (absK kn (cb b) 0))), (hg, zaJ k 3 fg)]) rfl
  have hD := z_congDO hD 0 rfl (fs2 := [.ref a0, .ref a1, .int (nI (cntB (absK kn (cb b) 0) 39))]) (ws' := [(h, .inr (3, [.ref a0, .ref a1, .int (nI (cntB (absK kn (cb b) 0) 39))])), (a0, zaI k 39 (absV fV fg (cb b) 0)), (a1, zaZ k 39 (zk (absK kn (cb b) 0))), (hg, zaJ k 3 fg)]) rfl
  have hP := z_congJ hP 3 rfl (g := zfill fg 0 0) (fun j _ => zfill_0 fg 0 j) (ws' := [(h, .inr (3, [.ref a0, .ref a1, .int (nI (cntB (absK kn (cb b) 0) 39))])), (a0, zaI k 39 (absV fV fg (cb b) 0)), (a1, zaZ k 39 (zk (absK kn (cb b) 0))), (hg, zaJ k 3 (zfill fg 0 0))]) rfl
  have hD := z_congDJ hD 3 rfl (g := zfill fg 0 0) (ws' := [(h, .inr (3, [.ref a0, .ref a1, .int (nI (cntB (absK kn (cb b) 0) 39))])), (a0, zaI k 39 (absV fV fg (cb b) 0)), (a1, zaZ k 39 (zk (absK kn (cb b) 0))), (hg, zaJ k 3 (zfill fg 0 0))]) rfl
  refine z_loop (St := Nat) (fun st9 => st9 ≤ 3) (fun st9 => [(h, .inr (3, [.ref a0, .ref a1, .int (nI (cntB (absK kn (cb b) st9) 39))])), (a0, zaI k 39 (absV fV fg (cb b) st9)), (a1, zaZ k 39 (zk (absK kn (cb b) st9))), (hg, zaJ k 3 (zfill fg 0 st9))]) (fun st9 => [(0, .ref h), (1, .ref hg), (2, .int b), (3, .int (nI st9))]) (fun st9 => 3 - st9) 0 (Nat.zero_le 3) hP hD hS (lv_sub hl [1, 2, 3, 0] rfl) ?_
  intro i hj_2 H locs ls hP hD hS hl ih_2
  have hj_2 : i ≤ 3 := hj_2
  have hP : va_P D vwCl [(h, .inr (3, [.ref a0, .ref a1, .int (nI (cntB (absK kn (cb b) i) 39))])), (a0, zaI k 39 (absV fV fg (cb b) i)), (a1, zaZ k 39 (zk (absK kn (cb b) i))), (hg, zaJ k 3 (zfill fg 0 i))] H := hP
  have hD : va_D A [(h, .inr (3, [.ref a0, .ref a1, .int (nI (cntB (absK kn (cb b) i) 39))])), (a0, zaI k 39 (absV fV fg (cb b) i)), (a1, zaZ k 39 (zk (absK kn (cb b) i))), (hg, zaJ k 3 (zfill fg 0 i))] := hD
  have hl : lv_has ls 4 [(0, .ref h), (1, .ref hg), (2, .int b), (3, .int (nI i))] := hl
  refine lv_iload_n hx hb dX3_absorb_2 rfl (lv_at hl 3 rfl) ?_
  refine lv_iconst (v := 3) hx hb dX3_absorb_3 (by decide) ?_
  refine lv_icmp_ge (tgt := 41) hx hb dX3_absorb_4 (by decide) (fun c_1 => ?_) (fun c_1 => ?_)
  · skip
    have c_1 : 3 ≤ ((i : Nat) : Int) := zle c_1 (by decide) (nI_toInt (by omega))
    have hP := z_congO hP 0 rfl (fs2 := [.ref a0, .ref a1, .int (nI (cntB (absK kn (cb b) 3) 39))]) (by rw [show i = 3 by omega]) (ws' := [(h, .inr (3, [.ref a0, .ref a1, .int (nI (cntB (absK kn (cb b) 3) 39))])), (a0, zaI k 39 (absV fV fg (cb b) i)), (a1, zaZ k 39 (zk (absK kn (cb b) i))), (hg, zaJ k 3 (zfill fg 0 i))]) rfl
    have hD := z_congDO hD 0 rfl (fs2 := [.ref a0, .ref a1, .int (nI (cntB (absK kn (cb b) 3) 39))]) (ws' := [(h, .inr (3, [.ref a0, .ref a1, .int (nI (cntB (absK kn (cb b) 3) 39))])), (a0, zaI k 39 (absV fV fg (cb b) i)), (a1, zaZ k 39 (zk (absK kn (cb b) i))), (hg, zaJ k 3 (zfill fg 0 i))]) rfl
    have hP := z_congI hP 1 rfl (g := absV fV fg (cb b) 3) (by intro j9 hj9; rw [show i = 3 by omega]) (ws' := [(h, .inr (3, [.ref a0, .ref a1, .int (nI (cntB (absK kn (cb b) 3) 39))])), (a0, zaI k 39 (absV fV fg (cb b) 3)), (a1, zaZ k 39 (zk (absK kn (cb b) i))), (hg, zaJ k 3 (zfill fg 0 i))]) rfl
    have hD := z_congDI hD 1 rfl (g := absV fV fg (cb b) 3) (ws' := [(h, .inr (3, [.ref a0, .ref a1, .int (nI (cntB (absK kn (cb b) 3) 39))])), (a0, zaI k 39 (absV fV fg (cb b) 3)), (a1, zaZ k 39 (zk (absK kn (cb b) i))), (hg, zaJ k 3 (zfill fg 0 i))]) rfl
    have hP := z_congZ hP 2 rfl (g := zk (absK kn (cb b) 3)) (by intro j9 hj9; rw [show i = 3 by omega]) (ws' := [(h, .inr (3, [.ref a0, .ref a1, .int (nI (cntB (absK kn (cb b) 3) 39))])), (a0, zaI k 39 (absV fV fg (cb b) 3)), (a1, zaZ k 39 (zk (absK kn (cb b) 3))), (hg, zaJ k 3 (zfill fg 0 i))]) rfl
    have hD := z_congDZ hD 2 rfl (g := zk (absK kn (cb b) 3)) (ws' := [(h, .inr (3, [.ref a0, .ref a1, .int (nI (cntB (absK kn (cb b) 3) 39))])), (a0, zaI k 39 (absV fV fg (cb b) 3)), (a1, zaZ k 39 (zk (absK kn (cb b) 3))), (hg, zaJ k 3 (zfill fg 0 i))]) rfl
    have hP := z_congJ hP 3 rfl (g := fun _ => 0) (by intro j9 hj9; rw [show i = 3 by omega]; exact zfill_n fg 0 hj9) (ws' := [(h, .inr (3, [.ref a0, .ref a1, .int (nI (cntB (absK kn (cb b) 3) 39))])), (a0, zaI k 39 (absV fV fg (cb b) 3)), (a1, zaZ k 39 (zk (absK kn (cb b) 3))), (hg, zaJ k 3 (fun _ => 0))]) rfl
    have hD := z_congDJ hD 3 rfl (g := fun _ => 0) (ws' := [(h, .inr (3, [.ref a0, .ref a1, .int (nI (cntB (absK kn (cb b) 3) 39))])), (a0, zaI k 39 (absV fV fg (cb b) 3)), (a1, zaZ k 39 (zk (absK kn (cb b) 3))), (hg, zaJ k 3 (fun _ => 0))]) rfl
    have hP9 := hP.sub (ws' := [(h, .inr (3, [.ref a0, .ref a1, .int (nI (cntB (absK kn (cb b) 3) 39))])), (a0, zaI k 39 (absV fV fg (cb b) 3)), (a1, zaZ k 39 (zk (absK kn (cb b) 3))), (hg, zaJ k 3 (fun _ => 0))]) [0, 1, 2, 3] rfl
    have hD9 := hD.sub (ws' := [(h, .inr (3, [.ref a0, .ref a1, .int (nI (cntB (absK kn (cb b) 3) 39))])), (a0, zaI k 39 (absV fV fg (cb b) 3)), (a1, zaZ k 39 (zk (absK kn (cb b) 3))), (hg, zaJ k 3 (fun _ => 0))]) [0, 1, 2, 3] (by decide) rfl
    exact W.vret hx hb hr (fun t9 ht9 hW9 => ⟨⟨[(h, .inr (3, [.ref a0, .ref a1, .int (nI (cntB (absK kn (cb b) 3) 39))])), (a0, zaI k 39 (absV fV fg (cb b) 3)), (a1, zaZ k 39 (zk (absK kn (cb b) 3))), (hg, zaJ k 3 (fun _ => 0))], rfl, rfl, by rw [ht9]; exact hP9, hD9⟩, hS.F ht9⟩) hS.2.2 dX3_absorb_41
  · skip
    have c_1 : ((i : Nat) : Int) < 3 := znle c_1 (by decide) (nI_toInt (by omega))
    refine lv_aload_n hx hb dX3_absorb_7 rfl (lv_at hl 0 rfl) ?_
    refine lv_iload_n hx hb dX3_absorb_8 rfl (lv_at hl 3 rfl) ?_
    refine lv_iload_n hx hb dX3_absorb_9 rfl (lv_at hl 2 rfl) ?_
    refine lv_aload_n hx hb dX3_absorb_10 rfl (lv_at hl 0 rfl) ?_
    refine lv_iload_n hx hb dX3_absorb_11 rfl (lv_at hl 3 rfl) ?_
    refine lv_iload_n hx hb dX3_absorb_12 rfl (lv_at hl 2 rfl) ?_
    refine z_calli0 (wc := [(h, .inr (3, [.ref a0, .ref a1, .int (nI (cntB (absK kn (cb b) i) 39))])), (a0, zaI k 39 (absV fV fg (cb b) i)), (a1, zaZ k 39 (zk (absK kn (cb b) i)))]) (wr := [(hg, zaJ k 3 (zfill fg 0 i))]) (va_runV (As := [.int (nI i), .int b]) (rest := [.int b, .int (nI i), .ref h]) ⟨hx, hb, hml, hown, hts⟩ (c_X3_value_ok l D k H.size h a0 a1 (absV fV fg (cb b) i) (absK kn (cb b) i) i b (by omega) hb3) (cwV 2 hts gX3_absorb_X3_value rfl rfl rfl (by decide +kernel) ⟨Nat.le_of_ble_eq_true rfl, Nat.le_of_ble_eq_true rfl⟩) (z_preV (wc := [(h, .inr (3, [.ref a0, .ref a1, .int (nI (cntB (absK kn (cb b) i) 39))])), (a0, zaI k 39 (absV fV fg (cb b) i)), (a1, zaZ k 39 (zk (absK kn (cb b) i)))]) 0 3 hP hD hK [0, 1, 2] rfl rfl rfl rfl zb0 zp0) rfl rfl hl.1 rfl (lv_room (Nat.le_of_ble_eq_true rfl)) dX3_absorb_13 ⟨Nat.zero_le _, Nat.zero_le _⟩) hP hD hS hA [0, 1, 2] [3] rfl rfl rfl (by decide) (fun w H locs hF hP hD hS => ?_)
    subst hF
    have hP : va_P D vwCl [(hg, zaJ k 3 (zfill fg 0 i)), (h, .inr (3, [.ref a0, .ref a1, .int (nI (cntB (absK kn (cb b) i) 39))])), (a0, zaI k 39 (absV fV fg (cb b) i)), (a1, zaZ k 39 (zk (absK kn (cb b) i)))] H := hP
    have hD : va_D A [(hg, zaJ k 3 (zfill fg 0 i)), (h, .inr (3, [.ref a0, .ref a1, .int (nI (cntB (absK kn (cb b) i) 39))])), (a0, zaI k 39 (absV fV fg (cb b) i)), (a1, zaZ k 39 (zk (absK kn (cb b) i)))] := hD
    refine lv_i2l (v := ((absV fV fg (cb b) i) (i * 13 + cb b)).toInt64) hx hb dX3_absorb_16 rfl ?_
    refine lv_aload_n hx hb dX3_absorb_17 rfl (lv_at hl 1 rfl) ?_
    refine lv_iload_n hx hb dX3_absorb_18 rfl (lv_at hl 3 rfl) ?_
    refine z_lald hx hb hK hP 0 rfl i (zxn (by omega)) (by omega) (v := (zfill fg 0 i) i) rfl dX3_absorb_19 ?_
    refine lv_ladd hx hb dX3_absorb_20 ?_
    refine lv_ldc2 hx hb hown hl43 dX3_absorb_21 ?_
    refine z_calll0 (wc := []) (wr := [(hg, zaJ k 3 (zfill fg 0 i)), (h, .inr (3, [.ref a0, .ref a1, .int (nI (cntB (absK kn (cb b) i) 39))])), (a0, zaI k 39 (absV fV fg (cb b) i)), (a1, zaZ k 39 (zk (absK kn (cb b) i)))]) (va_runS (As := [.long ((((absV fV fg (cb b) i) (i * 13 + cb b)).toInt64) + ((zfill fg 0 i) i)), .long 1000000]) (rest := [.int b, .int (nI i), .ref h]) ⟨hx, hb, hml, hown, hts⟩ (c_X5_limited l D k H.size ((((absV fV fg (cb b) i) (i * 13 + cb b)).toInt64) + ((zfill fg 0 i) i)) 1000000) (va_cwS 2 hts gX3_absorb_X5_limited rfl rfl rfl (by decide +kernel) ⟨Nat.le_of_ble_eq_true rfl, Nat.le_of_ble_eq_true rfl⟩) (z_preS (wc := []) hP hD hK [] rfl rfl zb0 zp0) rfl rfl hl.1 rfl (lv_room (Nat.le_of_ble_eq_true rfl)) dX3_absorb_24 ⟨Nat.zero_le _, Nat.zero_le _⟩) hP hD hS hA [] [0, 1, 2, 3] rfl rfl rfl (by decide) (fun w H locs hF hP hD hS => ?_)
    subst hF
    have hP : va_P D vwCl [(hg, zaJ k 3 (zfill fg 0 i)), (h, .inr (3, [.ref a0, .ref a1, .int (nI (cntB (absK kn (cb b) i) 39))])), (a0, zaI k 39 (absV fV fg (cb b) i)), (a1, zaZ k 39 (zk (absK kn (cb b) i)))] H := hP
    have hD : va_D A [(hg, zaJ k 3 (zfill fg 0 i)), (h, .inr (3, [.ref a0, .ref a1, .int (nI (cntB (absK kn (cb b) i) 39))])), (a0, zaI k 39 (absV fV fg (cb b) i)), (a1, zaZ k 39 (zk (absK kn (cb b) i)))] := hD
    refine lv_l2i (v := (zlim ((((absV fV fg (cb b) i) (i * 13 + cb b)).toInt64) + ((zfill fg 0 i) i)) 1000000).toInt32) hx hb dX3_absorb_27 rfl ?_
    refine z_callv0 (wc := [(h, .inr (3, [.ref a0, .ref a1, .int (nI (cntB (absK kn (cb b) i) 39))])), (a0, zaI k 39 (absV fV fg (cb b) i)), (a1, zaZ k 39 (zk (absK kn (cb b) i)))]) (wr := [(hg, zaJ k 3 (zfill fg 0 i))]) (va_runV (As := [.int (nI i), .int b, .int ((zlim ((((absV fV fg (cb b) i) (i * 13 + cb b)).toInt64) + ((zfill fg 0 i) i)) 1000000).toInt32)]) (rest := []) ⟨hx, hb, hml, hown, hts⟩ (c_X3_put l D k H.size h a0 a1 (absV fV fg (cb b) i) (absK kn (cb b) i) i b ((zlim ((((absV fV fg (cb b) i) (i * 13 + cb b)).toInt64) + ((zfill fg 0 i) i)) 1000000).toInt32) (by omega) hb3) (cwV 3 hts gX3_absorb_X3_put rfl rfl rfl (by decide +kernel) ⟨Nat.le_of_ble_eq_true rfl, Nat.le_of_ble_eq_true rfl⟩) (z_preV (wc := [(h, .inr (3, [.ref a0, .ref a1, .int (nI (cntB (absK kn (cb b) i) 39))])), (a0, zaI k 39 (absV fV fg (cb b) i)), (a1, zaZ k 39 (zk (absK kn (cb b) i)))]) 1 3 hP hD hK [1, 2, 3] rfl rfl rfl rfl zb0 zp0) rfl rfl hl.1 rfl (lv_room (Nat.le_of_ble_eq_true rfl)) dX3_absorb_28 ⟨Nat.zero_le _, Nat.zero_le _⟩) hP hD hS hA [1, 2, 3] [0] rfl rfl rfl (by decide) (fun w H locs hF hP hD hS => ?_)
    subst hF
    have hP : va_P D vwCl [(hg, zaJ k 3 (zfill fg 0 i)), (h, .inr (3, [.ref a0, .ref a1, .int (nI (cntB (va_up (absK kn (cb b) i) (i * 13 + cb b) true) 39))])), (a0, zaI k 39 (upd (absV fV fg (cb b) i) (i * 13 + cb b) ((zlim ((((absV fV fg (cb b) i) (i * 13 + cb b)).toInt64) + ((zfill fg 0 i) i)) 1000000).toInt32))), (a1, zaZ k 39 (zk (va_up (absK kn (cb b) i) (i * 13 + cb b) true)))] H := hP
    have hD : va_D A [(hg, zaJ k 3 (zfill fg 0 i)), (h, .inr (3, [.ref a0, .ref a1, .int (nI (cntB (va_up (absK kn (cb b) i) (i * 13 + cb b) true) 39))])), (a0, zaI k 39 (upd (absV fV fg (cb b) i) (i * 13 + cb b) ((zlim ((((absV fV fg (cb b) i) (i * 13 + cb b)).toInt64) + ((zfill fg 0 i) i)) 1000000).toInt32))), (a1, zaZ k 39 (zk (va_up (absK kn (cb b) i) (i * 13 + cb b) true)))] := hD
    refine lv_aload_n hx hb dX3_absorb_31 rfl (lv_at hl 1 rfl) ?_
    refine lv_iload_n hx hb dX3_absorb_32 rfl (lv_at hl 3 rfl) ?_
    refine lv_lconst (v := 0) hx hb dX3_absorb_33 (by decide) ?_
    refine z_last hx hb hK hP hD hS 0 rfl i (zxn (by omega)) (by omega) (ws' := [(hg, zaJ k 3 (vp_updL (zfill fg 0 i) i 0)), (h, .inr (3, [.ref a0, .ref a1, .int (nI (cntB (va_up (absK kn (cb b) i) (i * 13 + cb b) true) 39))])), (a0, zaI k 39 (upd (absV fV fg (cb b) i) (i * 13 + cb b) ((zlim ((((absV fV fg (cb b) i) (i * 13 + cb b)).toInt64) + ((zfill fg 0 i) i)) 1000000).toInt32))), (a1, zaZ k 39 (zk (va_up (absK kn (cb b) i) (i * 13 + cb b) true)))]) rfl dX3_absorb_34 (fun H locs hP hD hS => ?_)
    refine lv_iinc (v := nI (i + 1)) (lv' := [(3, .int (nI (i + 1))), (0, .ref h), (1, .ref hg), (2, .int b)]) hx hb dX3_absorb_35 hl (k := 3) rfl (nI_1 _) (by decide) rfl (fun ls hl => ?_)
    refine lv_goto (tgt := 2) hx hb dX3_absorb_38 (by decide) ?_
    have hP := z_congZ hP 3 rfl (g := zk (absK kn (cb b) (i + 1))) (fun j _ => zk_cong (absK_s hcb j)) (ws' := [(hg, zaJ k 3 (vp_updL (zfill fg 0 i) i 0)), (h, .inr (3, [.ref a0, .ref a1, .int (nI (cntB (va_up (absK kn (cb b) i) (i * 13 + cb b) true) 39))])), (a0, zaI k 39 (upd (absV fV fg (cb b) i) (i * 13 + cb b) ((zlim ((((absV fV fg (cb b) i) (i * 13 + cb b)).toInt64) + ((zfill fg 0 i) i)) 1000000).toInt32))), (a1, zaZ k 39 (zk (absK kn (cb b) (i + 1))))]) rfl
    have hD := z_congDZ hD 3 rfl (g := zk (absK kn (cb b) (i + 1))) (ws' := [(hg, zaJ k 3 (vp_updL (zfill fg 0 i) i 0)), (h, .inr (3, [.ref a0, .ref a1, .int (nI (cntB (va_up (absK kn (cb b) i) (i * 13 + cb b) true) 39))])), (a0, zaI k 39 (upd (absV fV fg (cb b) i) (i * 13 + cb b) ((zlim ((((absV fV fg (cb b) i) (i * 13 + cb b)).toInt64) + ((zfill fg 0 i) i)) 1000000).toInt32))), (a1, zaZ k 39 (zk (absK kn (cb b) (i + 1))))]) rfl
    have hP := z_congI hP 2 rfl (g := absV fV fg (cb b) (i + 1)) (fun j _ => absV_s hcb j) (ws' := [(hg, zaJ k 3 (vp_updL (zfill fg 0 i) i 0)), (h, .inr (3, [.ref a0, .ref a1, .int (nI (cntB (va_up (absK kn (cb b) i) (i * 13 + cb b) true) 39))])), (a0, zaI k 39 (absV fV fg (cb b) (i + 1))), (a1, zaZ k 39 (zk (absK kn (cb b) (i + 1))))]) rfl
    have hD := z_congDI hD 2 rfl (g := absV fV fg (cb b) (i + 1)) (ws' := [(hg, zaJ k 3 (vp_updL (zfill fg 0 i) i 0)), (h, .inr (3, [.ref a0, .ref a1, .int (nI (cntB (va_up (absK kn (cb b) i) (i * 13 + cb b) true) 39))])), (a0, zaI k 39 (absV fV fg (cb b) (i + 1))), (a1, zaZ k 39 (zk (absK kn (cb b) (i + 1))))]) rfl
    have hP := z_congO hP 1 rfl (fs2 := [.ref a0, .ref a1, .int (nI (cntB (absK kn (cb b) (i + 1)) 39))]) (by rw [cnt_abss hcb]) (ws' := [(hg, zaJ k 3 (vp_updL (zfill fg 0 i) i 0)), (h, .inr (3, [.ref a0, .ref a1, .int (nI (cntB (absK kn (cb b) (i + 1)) 39))])), (a0, zaI k 39 (absV fV fg (cb b) (i + 1))), (a1, zaZ k 39 (zk (absK kn (cb b) (i + 1))))]) rfl
    have hD := z_congDO hD 1 rfl (fs2 := [.ref a0, .ref a1, .int (nI (cntB (absK kn (cb b) (i + 1)) 39))]) (ws' := [(hg, zaJ k 3 (vp_updL (zfill fg 0 i) i 0)), (h, .inr (3, [.ref a0, .ref a1, .int (nI (cntB (absK kn (cb b) (i + 1)) 39))])), (a0, zaI k 39 (absV fV fg (cb b) (i + 1))), (a1, zaZ k 39 (zk (absK kn (cb b) (i + 1))))]) rfl
    have hP := z_congJ hP 0 rfl (g := zfill fg 0 (i + 1)) (fun j _ => zfill_sJ fg 0 i j) (ws' := [(hg, zaJ k 3 (zfill fg 0 (i + 1))), (h, .inr (3, [.ref a0, .ref a1, .int (nI (cntB (absK kn (cb b) (i + 1)) 39))])), (a0, zaI k 39 (absV fV fg (cb b) (i + 1))), (a1, zaZ k 39 (zk (absK kn (cb b) (i + 1))))]) rfl
    have hD := z_congDJ hD 0 rfl (g := zfill fg 0 (i + 1)) (ws' := [(hg, zaJ k 3 (zfill fg 0 (i + 1))), (h, .inr (3, [.ref a0, .ref a1, .int (nI (cntB (absK kn (cb b) (i + 1)) 39))])), (a0, zaI k 39 (absV fV fg (cb b) (i + 1))), (a1, zaZ k 39 (zk (absK kn (cb b) (i + 1))))]) rfl
    have hP := hP.sub (ws' := [(h, .inr (3, [.ref a0, .ref a1, .int (nI (cntB (absK kn (cb b) (i + 1)) 39))])), (a0, zaI k 39 (absV fV fg (cb b) (i + 1))), (a1, zaZ k 39 (zk (absK kn (cb b) (i + 1)))), (hg, zaJ k 3 (zfill fg 0 (i + 1)))]) [1, 2, 3, 0] rfl
    have hD := hD.sub (ws' := [(h, .inr (3, [.ref a0, .ref a1, .int (nI (cntB (absK kn (cb b) (i + 1)) 39))])), (a0, zaI k 39 (absV fV fg (cb b) (i + 1))), (a1, zaZ k 39 (zk (absK kn (cb b) (i + 1)))), (hg, zaJ k 3 (zfill fg 0 (i + 1)))]) [1, 2, 3, 0] (by decide) rfl
    exact ih_2 (i + 1) (by omega) (by omega) _ _ _ hP hD hS (lv_sub hl [1, 2, 3, 0] rfl)
set_option maxHeartbeats 4000000 in
set_option maxRecDepth 100000 in
theorem c_X7_setGyroErrors (l : Launch) (D : va_G) (k : Nat → ClassId) (sz : Nat) (h a0 a1 a2 a3 a4 a5 a6 a7 : Nat) (fB fC fN fL : Nat → Int32)  (tp sd : Int32) (i : Nat) (b2 c2 n2 l2 : Int32) (hi : i < 3) : Met l yX7_setGyroErrors wsX7_setGyroErrors ({ frames := 1, cells := 0, slots := 0, locals := 20 } : Room) (va_Pc [.ref h, .int (nI i), .int b2, .int c2, .int n2, .int l2] (zPre D k [(h, .inr (6, [.ref a0, .ref a1, .ref a2, .ref a3, .ref a4, .ref a5, .ref a6, .ref a7, .int tp, .int sd])), (a0, zaI k 3 fB), (a1, zaI k 3 fC), (a2, zaI k 3 fN), (a3, zaI k 3 fL)] sz zX0)) (zQv D [(h, .inr (6, [.ref a0, .ref a1, .ref a2, .ref a3, .ref a4, .ref a5, .ref a6, .ref a7, .int tp, .int sd])), (a0, zaI k 3 fB), (a1, zaI k 3 fC), (a2, zaI k 3 fN), (a3, zaI k 3 fL)] sz (fun w : va_W => w = [(h, .inr (6, [.ref a0, .ref a1, .ref a2, .ref a3, .ref a4, .ref a5, .ref a6, .ref a7, .int tp, .int sd])), (a0, zaI k 3 (upd fB i b2)), (a1, zaI k 3 (upd fC i c2)), (a2, zaI k 3 (upd fN i n2)), (a3, zaI k 3 (upd fL i l2))])) 0 0 (va_A [(h, .inr (6, [.ref a0, .ref a1, .ref a2, .ref a3, .ref a4, .ref a5, .ref a6, .ref a7, .int tp, .int sd])), (a0, zaI k 3 fB), (a1, zaI k 3 fC), (a2, zaI k 3 fN), (a3, zaI k 3 fL)] sz) := by
  refine Met.ofW (cc := cX7_setGyroErrors) (maxL := 6) (ret := none) (by decide) rfl ?_
  intro p e s m args below meth c s₁ B hml hv
  obtain ⟨rfl, hsz, hP, hK, hD0, hE⟩ := hv
  have hx := B.exec
  have hb := B.bytes
  have hr := B.returns
  have hts := atoms_spec (ws := wsX7_setGyroErrors) B.pre
  have hown : s.vm.findClass RX7 = some m.cls := findClass_of_methodNamed B.named
  have hlocks := B.notSynchronized
  subst hsz
  have hD := hD0.self (sz := s.heap.size)
  delta zQv zB
  generalize hAe : va_A [(h, .inr (6, [.ref a0, .ref a1, .ref a2, .ref a3, .ref a4, .ref a5, .ref a6, .ref a7, .int tp, .int sd])), (a0, zaI k 3 fB), (a1, zaI k 3 fC), (a2, zaI k 3 fN), (a3, zaI k 3 fL)] s.heap.size = A at hD hE ⊢
  have hA : ∀ q : Nat, s.heap.size ≤ q → A q := fun q h => by rw [← hAe]; exact Or.inr h
  have hS : va_S A s.heap s.heap [] := va_S.rf
  have hl := lv_entry [.ref h, .int (nI i), .int b2, .int c2, .int n2, .int l2] (n := 6) (Nat.le_of_ble_eq_true rfl)
  rw [lg_entry_eq]
  generalize (lg_sl [.ref h, .int (nI i), .int b2, .int c2, .int n2, .int l2] ++ List.replicate (6 - (lg_sl [.ref h, .int (nI i), .int b2, .int c2, .int n2, .int l2]).length) Slot.unset).toArray = ls at hl ⊢
  have hl : lv_has ls 6 [(0, .ref h), (1, .int (nI i)), (2, .int b2), (3, .int c2), (4, .int n2), (5, .int l2)] := hl
  have hl9 : (Cond.fieldLink RX7 9 "InertialReference$Sensors" "bias" "[I").before #[Value.ref h, Value.int (nI i), Value.int b2, Value.int c2, Value.int n2, Value.int l2] s = true := zw hts 1 rfl
  have hinX7 : ∀ w ∈ u_ws RX7 TX7 10, w ∈ wsX7_setGyroErrors := fun w h => List.mem_cons_of_mem _ (List.mem_append_right _ h)
  have hl15 : (Cond.fieldLink RX7 15 "InertialReference$Sensors" "scale" "[I").before #[Value.ref h, Value.int (nI i), Value.int b2, Value.int c2, Value.int n2, Value.int l2] s = true := zw hts 2 rfl
  have hl18 : (Cond.fieldLink RX7 18 "InertialReference$Sensors" "noise" "[I").before #[Value.ref h, Value.int (nI i), Value.int b2, Value.int c2, Value.int n2, Value.int l2] s = true := zw hts 3 rfl
  have hl21 : (Cond.fieldLink RX7 21 "InertialReference$Sensors" "slope" "[I").before #[Value.ref h, Value.int (nI i), Value.int b2, Value.int c2, Value.int n2, Value.int l2] s = true := zw hts 4 rfl
  refine lv_iload_n hx hb dX7_setGyroErrors_0 rfl (lv_at hl 1 rfl) ?_
  refine z_calli0 (wc := []) (wr := [(h, .inr (6, [.ref a0, .ref a1, .ref a2, .ref a3, .ref a4, .ref a5, .ref a6, .ref a7, .int tp, .int sd])), (a0, zaI k 3 fB), (a1, zaI k 3 fC), (a2, zaI k 3 fN), (a3, zaI k 3 fL)]) (va_runS (As := [.int (nI i)]) (rest := []) ⟨hx, hb, hml, hown, hts⟩ (c_X5_isAxis l D k s.heap.size (nI i)) (va_cwS 1 hts gX7_setGyroErrors_X5_isAxis rfl rfl rfl (by decide +kernel) ⟨Nat.le_of_ble_eq_true rfl, Nat.le_of_ble_eq_true rfl⟩) (z_preS (wc := []) hP hD hK [] rfl rfl zb0 zp0) rfl rfl hl.1 rfl (lv_room (Nat.le_of_ble_eq_true rfl)) dX7_setGyroErrors_1 ⟨Nat.zero_le _, Nat.zero_le _⟩) hP hD hS hA [] [0, 1, 2, 3, 4] rfl rfl rfl (by decide) (fun w H locs hF hP hD hS => ?_)
  subst hF
  have hP : va_P D vwCl [(h, .inr (6, [.ref a0, .ref a1, .ref a2, .ref a3, .ref a4, .ref a5, .ref a6, .ref a7, .int tp, .int sd])), (a0, zaI k 3 fB), (a1, zaI k 3 fC), (a2, zaI k 3 fN), (a3, zaI k 3 fL)] H := hP
  have hD : va_D A [(h, .inr (6, [.ref a0, .ref a1, .ref a2, .ref a3, .ref a4, .ref a5, .ref a6, .ref a7, .int tp, .int sd])), (a0, zaI k 3 fB), (a1, zaI k 3 fC), (a2, zaI k 3 fN), (a3, zaI k 3 fL)] := hD
  refine lv_if_ne (tgt := 8) hx hb dX7_setGyroErrors_4 (by decide) (fun c => ?_) (fun c => absurd c (by rw [zin_t (by rw [nI_toInt (by omega)]; omega)]; decide))
  refine lv_aload_n hx hb dX7_setGyroErrors_8 rfl (lv_at hl 0 rfl) ?_
  refine va_get (D := D) (ci := 6) (v := .ref a0) (C := RX7) (T := TX7) (N := 10) hx hb hts hinX7 hown hK hP 0 rfl rfl 0 (Nat.le_of_ble_eq_true rfl) hl9 (fun _ h9 => h9) rfl dX7_setGyroErrors_9 ?_
  refine lv_iload_n hx hb dX7_setGyroErrors_12 rfl (lv_at hl 1 rfl) ?_
  refine lv_iload_n hx hb dX7_setGyroErrors_13 rfl (lv_at hl 2 rfl) ?_
  refine z_iast hx hb hK hP hD hS 1 rfl i (zxn (by omega)) (by omega) (ws' := [(h, .inr (6, [.ref a0, .ref a1, .ref a2, .ref a3, .ref a4, .ref a5, .ref a6, .ref a7, .int tp, .int sd])), (a0, zaI k 3 (upd fB i b2)), (a1, zaI k 3 fC), (a2, zaI k 3 fN), (a3, zaI k 3 fL)]) rfl dX7_setGyroErrors_14 (fun H locs hP hD hS => ?_)
  refine lv_aload_n hx hb dX7_setGyroErrors_15 rfl (lv_at hl 0 rfl) ?_
  refine va_get (D := D) (ci := 6) (v := .ref a1) (C := RX7) (T := TX7) (N := 10) hx hb hts hinX7 hown hK hP 0 rfl rfl 1 (Nat.le_of_ble_eq_true rfl) hl15 (fun _ h9 => h9) rfl dX7_setGyroErrors_16 ?_
  refine lv_iload_n hx hb dX7_setGyroErrors_19 rfl (lv_at hl 1 rfl) ?_
  refine lv_iload_n hx hb dX7_setGyroErrors_20 rfl (lv_at hl 3 rfl) ?_
  refine z_iast hx hb hK hP hD hS 2 rfl i (zxn (by omega)) (by omega) (ws' := [(h, .inr (6, [.ref a0, .ref a1, .ref a2, .ref a3, .ref a4, .ref a5, .ref a6, .ref a7, .int tp, .int sd])), (a0, zaI k 3 (upd fB i b2)), (a1, zaI k 3 (upd fC i c2)), (a2, zaI k 3 fN), (a3, zaI k 3 fL)]) rfl dX7_setGyroErrors_21 (fun H locs hP hD hS => ?_)
  refine lv_aload_n hx hb dX7_setGyroErrors_22 rfl (lv_at hl 0 rfl) ?_
  refine va_get (D := D) (ci := 6) (v := .ref a2) (C := RX7) (T := TX7) (N := 10) hx hb hts hinX7 hown hK hP 0 rfl rfl 2 (Nat.le_of_ble_eq_true rfl) hl18 (fun _ h9 => h9) rfl dX7_setGyroErrors_23 ?_
  refine lv_iload_n hx hb dX7_setGyroErrors_26 rfl (lv_at hl 1 rfl) ?_
  refine lv_iload hx hb dX7_setGyroErrors_27 (lv_at hl 4 rfl) ?_
  refine z_iast hx hb hK hP hD hS 3 rfl i (zxn (by omega)) (by omega) (ws' := [(h, .inr (6, [.ref a0, .ref a1, .ref a2, .ref a3, .ref a4, .ref a5, .ref a6, .ref a7, .int tp, .int sd])), (a0, zaI k 3 (upd fB i b2)), (a1, zaI k 3 (upd fC i c2)), (a2, zaI k 3 (upd fN i n2)), (a3, zaI k 3 fL)]) rfl dX7_setGyroErrors_29 (fun H locs hP hD hS => ?_)
  refine lv_aload_n hx hb dX7_setGyroErrors_30 rfl (lv_at hl 0 rfl) ?_
  refine va_get (D := D) (ci := 6) (v := .ref a3) (C := RX7) (T := TX7) (N := 10) hx hb hts hinX7 hown hK hP 0 rfl rfl 3 (Nat.le_of_ble_eq_true rfl) hl21 (fun _ h9 => h9) rfl dX7_setGyroErrors_31 ?_
  refine lv_iload_n hx hb dX7_setGyroErrors_34 rfl (lv_at hl 1 rfl) ?_
  refine lv_iload hx hb dX7_setGyroErrors_35 (lv_at hl 5 rfl) ?_
  refine z_iast hx hb hK hP hD hS 4 rfl i (zxn (by omega)) (by omega) (ws' := [(h, .inr (6, [.ref a0, .ref a1, .ref a2, .ref a3, .ref a4, .ref a5, .ref a6, .ref a7, .int tp, .int sd])), (a0, zaI k 3 (upd fB i b2)), (a1, zaI k 3 (upd fC i c2)), (a2, zaI k 3 (upd fN i n2)), (a3, zaI k 3 (upd fL i l2))]) rfl dX7_setGyroErrors_37 (fun H locs hP hD hS => ?_)
  have hP9 := hP.sub (ws' := [(h, .inr (6, [.ref a0, .ref a1, .ref a2, .ref a3, .ref a4, .ref a5, .ref a6, .ref a7, .int tp, .int sd])), (a0, zaI k 3 (upd fB i b2)), (a1, zaI k 3 (upd fC i c2)), (a2, zaI k 3 (upd fN i n2)), (a3, zaI k 3 (upd fL i l2))]) [0, 1, 2, 3, 4] rfl
  have hD9 := hD.sub (ws' := [(h, .inr (6, [.ref a0, .ref a1, .ref a2, .ref a3, .ref a4, .ref a5, .ref a6, .ref a7, .int tp, .int sd])), (a0, zaI k 3 (upd fB i b2)), (a1, zaI k 3 (upd fC i c2)), (a2, zaI k 3 (upd fN i n2)), (a3, zaI k 3 (upd fL i l2))]) [0, 1, 2, 3, 4] (by decide) rfl
  exact W.vret hx hb hr (fun t9 ht9 hW9 => ⟨⟨[(h, .inr (6, [.ref a0, .ref a1, .ref a2, .ref a3, .ref a4, .ref a5, .ref a6, .ref a7, .int tp, .int sd])), (a0, zaI k 3 (upd fB i b2)), (a1, zaI k 3 (upd fC i c2)), (a2, zaI k 3 (upd fN i n2)), (a3, zaI k 3 (upd fL i l2))], rfl, rfl, by rw [ht9]; exact hP9, hD9⟩, hS.F ht9⟩) hS.2.2 dX7_setGyroErrors_38
set_option maxHeartbeats 4000000 in
set_option maxRecDepth 100000 in
theorem c_X7_setAccelerometerBias (l : Launch) (D : va_G) (k : Nat → ClassId) (sz : Nat) (h a0 a1 a2 a3 a4 a5 a6 a7 : Nat) (fA : Nat → Int32)  (tp sd : Int32) (i : Nat) (b2 : Int32) (hi : i < 3) : Met l yX7_setAccelerometerBias wsX7_setAccelerometerBias ({ frames := 1, cells := 0, slots := 0, locals := 20 } : Room) (va_Pc [.ref h, .int (nI i), .int b2] (zPre D k [(h, .inr (6, [.ref a0, .ref a1, .ref a2, .ref a3, .ref a4, .ref a5, .ref a6, .ref a7, .int tp, .int sd])), (a4, zaI k 3 fA)] sz zX0)) (zQv D [(h, .inr (6, [.ref a0, .ref a1, .ref a2, .ref a3, .ref a4, .ref a5, .ref a6, .ref a7, .int tp, .int sd])), (a4, zaI k 3 fA)] sz (fun w : va_W => w = [(h, .inr (6, [.ref a0, .ref a1, .ref a2, .ref a3, .ref a4, .ref a5, .ref a6, .ref a7, .int tp, .int sd])), (a4, zaI k 3 (upd fA i b2))])) 0 0 (va_A [(h, .inr (6, [.ref a0, .ref a1, .ref a2, .ref a3, .ref a4, .ref a5, .ref a6, .ref a7, .int tp, .int sd])), (a4, zaI k 3 fA)] sz) := by
  refine Met.ofW (cc := cX7_setAccelerometerBias) (maxL := 3) (ret := none) (by decide) rfl ?_
  intro p e s m args below meth c s₁ B hml hv
  obtain ⟨rfl, hsz, hP, hK, hD0, hE⟩ := hv
  have hx := B.exec
  have hb := B.bytes
  have hr := B.returns
  have hts := atoms_spec (ws := wsX7_setAccelerometerBias) B.pre
  have hown : s.vm.findClass RX7 = some m.cls := findClass_of_methodNamed B.named
  have hlocks := B.notSynchronized
  subst hsz
  have hD := hD0.self (sz := s.heap.size)
  delta zQv zB
  generalize hAe : va_A [(h, .inr (6, [.ref a0, .ref a1, .ref a2, .ref a3, .ref a4, .ref a5, .ref a6, .ref a7, .int tp, .int sd])), (a4, zaI k 3 fA)] s.heap.size = A at hD hE ⊢
  have hA : ∀ q : Nat, s.heap.size ≤ q → A q := fun q h => by rw [← hAe]; exact Or.inr h
  have hS : va_S A s.heap s.heap [] := va_S.rf
  have hl := lv_entry [.ref h, .int (nI i), .int b2] (n := 3) (Nat.le_of_ble_eq_true rfl)
  rw [lg_entry_eq]
  generalize (lg_sl [.ref h, .int (nI i), .int b2] ++ List.replicate (3 - (lg_sl [.ref h, .int (nI i), .int b2]).length) Slot.unset).toArray = ls at hl ⊢
  have hl : lv_has ls 3 [(0, .ref h), (1, .int (nI i)), (2, .int b2)] := hl
  have hl24 : (Cond.fieldLink RX7 24 "InertialReference$Sensors" "accelerometerBias" "[I").before #[Value.ref h, Value.int (nI i), Value.int b2] s = true := zw hts 1 rfl
  have hinX7 : ∀ w ∈ u_ws RX7 TX7 10, w ∈ wsX7_setAccelerometerBias := fun w h => List.mem_cons_of_mem _ (List.mem_append_right _ h)
  refine lv_iload_n hx hb dX7_setAccelerometerBias_0 rfl (lv_at hl 1 rfl) ?_
  refine z_calli0 (wc := []) (wr := [(h, .inr (6, [.ref a0, .ref a1, .ref a2, .ref a3, .ref a4, .ref a5, .ref a6, .ref a7, .int tp, .int sd])), (a4, zaI k 3 fA)]) (va_runS (As := [.int (nI i)]) (rest := []) ⟨hx, hb, hml, hown, hts⟩ (c_X5_isAxis l D k s.heap.size (nI i)) (va_cwS 1 hts gX7_setAccelerometerBias_X5_isAxis rfl rfl rfl (by decide +kernel) ⟨Nat.le_of_ble_eq_true rfl, Nat.le_of_ble_eq_true rfl⟩) (z_preS (wc := []) hP hD hK [] rfl rfl zb0 zp0) rfl rfl hl.1 rfl (lv_room (Nat.le_of_ble_eq_true rfl)) dX7_setAccelerometerBias_1 ⟨Nat.zero_le _, Nat.zero_le _⟩) hP hD hS hA [] [0, 1] rfl rfl rfl (by decide) (fun w H locs hF hP hD hS => ?_)
  subst hF
  have hP : va_P D vwCl [(h, .inr (6, [.ref a0, .ref a1, .ref a2, .ref a3, .ref a4, .ref a5, .ref a6, .ref a7, .int tp, .int sd])), (a4, zaI k 3 fA)] H := hP
  have hD : va_D A [(h, .inr (6, [.ref a0, .ref a1, .ref a2, .ref a3, .ref a4, .ref a5, .ref a6, .ref a7, .int tp, .int sd])), (a4, zaI k 3 fA)] := hD
  refine lv_if_eq (tgt := 14) hx hb dX7_setAccelerometerBias_4 (by decide) (fun c => absurd c (by rw [zin_t (by rw [nI_toInt (by omega)]; omega)]; decide)) (fun c => ?_)
  refine lv_aload_n hx hb dX7_setAccelerometerBias_7 rfl (lv_at hl 0 rfl) ?_
  refine va_get (D := D) (ci := 6) (v := .ref a4) (C := RX7) (T := TX7) (N := 10) hx hb hts hinX7 hown hK hP 0 rfl rfl 4 (Nat.le_of_ble_eq_true rfl) hl24 (fun _ h9 => h9) rfl dX7_setAccelerometerBias_8 ?_
  refine lv_iload_n hx hb dX7_setAccelerometerBias_11 rfl (lv_at hl 1 rfl) ?_
  refine lv_iload_n hx hb dX7_setAccelerometerBias_12 rfl (lv_at hl 2 rfl) ?_
  refine z_iast hx hb hK hP hD hS 1 rfl i (zxn (by omega)) (by omega) (ws' := [(h, .inr (6, [.ref a0, .ref a1, .ref a2, .ref a3, .ref a4, .ref a5, .ref a6, .ref a7, .int tp, .int sd])), (a4, zaI k 3 (upd fA i b2))]) rfl dX7_setAccelerometerBias_13 (fun H locs hP hD hS => ?_)
  have hP9 := hP.sub (ws' := [(h, .inr (6, [.ref a0, .ref a1, .ref a2, .ref a3, .ref a4, .ref a5, .ref a6, .ref a7, .int tp, .int sd])), (a4, zaI k 3 (upd fA i b2))]) [0, 1] rfl
  have hD9 := hD.sub (ws' := [(h, .inr (6, [.ref a0, .ref a1, .ref a2, .ref a3, .ref a4, .ref a5, .ref a6, .ref a7, .int tp, .int sd])), (a4, zaI k 3 (upd fA i b2))]) [0, 1] (by decide) rfl
  exact W.vret hx hb hr (fun t9 ht9 hW9 => ⟨⟨[(h, .inr (6, [.ref a0, .ref a1, .ref a2, .ref a3, .ref a4, .ref a5, .ref a6, .ref a7, .int tp, .int sd])), (a4, zaI k 3 (upd fA i b2))], rfl, rfl, by rw [ht9]; exact hP9, hD9⟩, hS.F ht9⟩) hS.2.2 dX7_setAccelerometerBias_14
set_option maxHeartbeats 4000000 in
set_option maxRecDepth 100000 in
theorem c_X7_changeTemperature (l : Launch) (D : va_G) (k : Nat → ClassId) (sz : Nat) (h a0 a1 a2 a3 a4 a5 a6 a7 : Nat)  (tp sd : Int32) (q : Int32) : Met l yX7_changeTemperature wsX7_changeTemperature ({ frames := 0, cells := 0, slots := 0, locals := 0 } : Room) (va_Pc [.ref h, .int q] (zPre D k [(h, .inr (6, [.ref a0, .ref a1, .ref a2, .ref a3, .ref a4, .ref a5, .ref a6, .ref a7, .int tp, .int sd]))] sz zX0)) (zQi D [(h, .inr (6, [.ref a0, .ref a1, .ref a2, .ref a3, .ref a4, .ref a5, .ref a6, .ref a7, .int tp, .int sd]))] sz tp (fun w : va_W => w = [(h, .inr (6, [.ref a0, .ref a1, .ref a2, .ref a3, .ref a4, .ref a5, .ref a6, .ref a7, .int q, .int sd]))])) 0 0 (va_A [(h, .inr (6, [.ref a0, .ref a1, .ref a2, .ref a3, .ref a4, .ref a5, .ref a6, .ref a7, .int tp, .int sd]))] sz) := by
  refine Met.ofW (cc := cX7_changeTemperature) (maxL := 3) (ret := (some .int)) (by decide) rfl ?_
  intro p e s m args below meth c s₁ B hml hv
  obtain ⟨rfl, hsz, hP, hK, hD0, hE⟩ := hv
  have hx := B.exec
  have hb := B.bytes
  have hr := B.returns
  have hts := atoms_spec (ws := wsX7_changeTemperature) B.pre
  have hown : s.vm.findClass RX7 = some m.cls := findClass_of_methodNamed B.named
  have hlocks := B.notSynchronized
  subst hsz
  have hD := hD0.self (sz := s.heap.size)
  delta zQi zB
  generalize hAe : va_A [(h, .inr (6, [.ref a0, .ref a1, .ref a2, .ref a3, .ref a4, .ref a5, .ref a6, .ref a7, .int tp, .int sd]))] s.heap.size = A at hD hE ⊢
  have hA : ∀ q : Nat, s.heap.size ≤ q → A q := fun q h => by rw [← hAe]; exact Or.inr h
  have hS : va_S A s.heap s.heap [] := va_S.rf
  have hl := lv_entry [.ref h, .int q] (n := 3) (Nat.le_of_ble_eq_true rfl)
  rw [lg_entry_eq]
  generalize (lg_sl [.ref h, .int q] ++ List.replicate (3 - (lg_sl [.ref h, .int q]).length) Slot.unset).toArray = ls at hl ⊢
  have hl : lv_has ls 3 [(0, .ref h), (1, .int q)] := hl
  have hl37 : (Cond.fieldLink RX7 37 "InertialReference$Sensors" "temperature" "I").before #[Value.ref h, Value.int q] s = true := zw hts 1 rfl
  have hinX7 : ∀ w ∈ u_ws RX7 TX7 10, w ∈ wsX7_changeTemperature := fun w h => List.mem_cons_of_mem _ (List.mem_append_right _ h)
  refine lv_aload_n hx hb dX7_changeTemperature_0 rfl (lv_at hl 0 rfl) ?_
  refine va_get (D := D) (ci := 6) (v := .int tp) (C := RX7) (T := TX7) (N := 10) hx hb hts hinX7 hown hK hP 0 rfl rfl 8 (Nat.le_of_ble_eq_true rfl) hl37 (fun _ h9 => h9) rfl dX7_changeTemperature_1 ?_
  refine lv_istore_n (lv' := [(2, .int tp), (0, .ref h), (1, .int q)]) hx hb dX7_changeTemperature_4 rfl hl (by decide) rfl (fun ls hl => ?_)
  refine lv_aload_n hx hb dX7_changeTemperature_5 rfl (lv_at hl 1 rfl) ?_
  refine lv_iload_n hx hb dX7_changeTemperature_6 rfl (lv_at hl 2 rfl) ?_
  refine va_put (D := D) (ci := 6) (v := .int q) (ty := .int) (C := RX7) (T := TX7) (N := 10) hx hb hts hinX7 tyX7 tyX7_ok nmX7 hown hK hP hD hS 0 rfl rfl 8 (Nat.le_of_ble_eq_true rfl) hl37 (fun _ h9 => h9) rfl  (by decide +kernel) rfl rfl (Nat.le_of_ble_eq_true rfl) dX7_changeTemperature_7 (fun H locs hP hD hS => ?_)
  have hP : va_P D vwCl [(h, .inr (6, [.ref a0, .ref a1, .ref a2, .ref a3, .ref a4, .ref a5, .ref a6, .ref a7, .int q, .int sd]))] H := hP
  have hD : va_D A [(h, .inr (6, [.ref a0, .ref a1, .ref a2, .ref a3, .ref a4, .ref a5, .ref a6, .ref a7, .int q, .int sd]))] := hD
  refine lv_iload_n hx hb dX7_changeTemperature_10 rfl (lv_at hl 0 rfl) ?_
  have hP9 := hP.sub (ws' := [(h, .inr (6, [.ref a0, .ref a1, .ref a2, .ref a3, .ref a4, .ref a5, .ref a6, .ref a7, .int q, .int sd]))]) [0] rfl
  have hD9 := hD.sub (ws' := [(h, .inr (6, [.ref a0, .ref a1, .ref a2, .ref a3, .ref a4, .ref a5, .ref a6, .ref a7, .int q, .int sd]))]) [0] (by decide) rfl
  exact W.iret (v := tp) hx hb hr (fun t9 ht9 hW9 => ⟨⟨tp, [(h, .inr (6, [.ref a0, .ref a1, .ref a2, .ref a3, .ref a4, .ref a5, .ref a6, .ref a7, .int q, .int sd]))], rfl, ⟨rfl, rfl⟩, by rw [ht9]; exact hP9, hD9⟩, hS.F ht9⟩) hS.2.2 dX7_changeTemperature_11
set_option maxHeartbeats 4000000 in
set_option maxRecDepth 100000 in
theorem c_X7_changeSeed (l : Launch) (D : va_G) (k : Nat → ClassId) (sz : Nat) (h a0 a1 a2 a3 a4 a5 a6 a7 : Nat)  (tp sd : Int32) (q : Int32) : Met l yX7_changeSeed wsX7_changeSeed ({ frames := 0, cells := 0, slots := 0, locals := 0 } : Room) (va_Pc [.ref h, .int q] (zPre D k [(h, .inr (6, [.ref a0, .ref a1, .ref a2, .ref a3, .ref a4, .ref a5, .ref a6, .ref a7, .int tp, .int sd]))] sz zX0)) (zQi D [(h, .inr (6, [.ref a0, .ref a1, .ref a2, .ref a3, .ref a4, .ref a5, .ref a6, .ref a7, .int tp, .int sd]))] sz sd (fun w : va_W => w = [(h, .inr (6, [.ref a0, .ref a1, .ref a2, .ref a3, .ref a4, .ref a5, .ref a6, .ref a7, .int tp, .int q]))])) 0 0 (va_A [(h, .inr (6, [.ref a0, .ref a1, .ref a2, .ref a3, .ref a4, .ref a5, .ref a6, .ref a7, .int tp, .int sd]))] sz) := by
  refine Met.ofW (cc := cX7_changeSeed) (maxL := 3) (ret := (some .int)) (by decide) rfl ?_
  intro p e s m args below meth c s₁ B hml hv
  obtain ⟨rfl, hsz, hP, hK, hD0, hE⟩ := hv
  have hx := B.exec
  have hb := B.bytes
  have hr := B.returns
  have hts := atoms_spec (ws := wsX7_changeSeed) B.pre
  have hown : s.vm.findClass RX7 = some m.cls := findClass_of_methodNamed B.named
  have hlocks := B.notSynchronized
  subst hsz
  have hD := hD0.self (sz := s.heap.size)
  delta zQi zB
  generalize hAe : va_A [(h, .inr (6, [.ref a0, .ref a1, .ref a2, .ref a3, .ref a4, .ref a5, .ref a6, .ref a7, .int tp, .int sd]))] s.heap.size = A at hD hE ⊢
  have hA : ∀ q : Nat, s.heap.size ≤ q → A q := fun q h => by rw [← hAe]; exact Or.inr h
  have hS : va_S A s.heap s.heap [] := va_S.rf
  have hl := lv_entry [.ref h, .int q] (n := 3) (Nat.le_of_ble_eq_true rfl)
  rw [lg_entry_eq]
  generalize (lg_sl [.ref h, .int q] ++ List.replicate (3 - (lg_sl [.ref h, .int q]).length) Slot.unset).toArray = ls at hl ⊢
  have hl : lv_has ls 3 [(0, .ref h), (1, .int q)] := hl
  have hl50 : (Cond.fieldLink RX7 50 "InertialReference$Sensors" "seed" "I").before #[Value.ref h, Value.int q] s = true := zw hts 1 rfl
  have hinX7 : ∀ w ∈ u_ws RX7 TX7 10, w ∈ wsX7_changeSeed := fun w h => List.mem_cons_of_mem _ (List.mem_append_right _ h)
  refine lv_aload_n hx hb dX7_changeSeed_0 rfl (lv_at hl 0 rfl) ?_
  refine va_get (D := D) (ci := 6) (v := .int sd) (C := RX7) (T := TX7) (N := 10) hx hb hts hinX7 hown hK hP 0 rfl rfl 9 (Nat.le_of_ble_eq_true rfl) hl50 (fun _ h9 => h9) rfl dX7_changeSeed_1 ?_
  refine lv_istore_n (lv' := [(2, .int sd), (0, .ref h), (1, .int q)]) hx hb dX7_changeSeed_4 rfl hl (by decide) rfl (fun ls hl => ?_)
  refine lv_aload_n hx hb dX7_changeSeed_5 rfl (lv_at hl 1 rfl) ?_
  refine lv_iload_n hx hb dX7_changeSeed_6 rfl (lv_at hl 2 rfl) ?_
  refine va_put (D := D) (ci := 6) (v := .int q) (ty := .int) (C := RX7) (T := TX7) (N := 10) hx hb hts hinX7 tyX7 tyX7_ok nmX7 hown hK hP hD hS 0 rfl rfl 9 (Nat.le_of_ble_eq_true rfl) hl50 (fun _ h9 => h9) rfl  (by decide +kernel) rfl rfl (Nat.le_of_ble_eq_true rfl) dX7_changeSeed_7 (fun H locs hP hD hS => ?_)
  have hP : va_P D vwCl [(h, .inr (6, [.ref a0, .ref a1, .ref a2, .ref a3, .ref a4, .ref a5, .ref a6, .ref a7, .int tp, .int q]))] H := hP
  have hD : va_D A [(h, .inr (6, [.ref a0, .ref a1, .ref a2, .ref a3, .ref a4, .ref a5, .ref a6, .ref a7, .int tp, .int q]))] := hD
  refine lv_iload_n hx hb dX7_changeSeed_10 rfl (lv_at hl 0 rfl) ?_
  have hP9 := hP.sub (ws' := [(h, .inr (6, [.ref a0, .ref a1, .ref a2, .ref a3, .ref a4, .ref a5, .ref a6, .ref a7, .int tp, .int q]))]) [0] rfl
  have hD9 := hD.sub (ws' := [(h, .inr (6, [.ref a0, .ref a1, .ref a2, .ref a3, .ref a4, .ref a5, .ref a6, .ref a7, .int tp, .int q]))]) [0] (by decide) rfl
  exact W.iret (v := sd) hx hb hr (fun t9 ht9 hW9 => ⟨⟨sd, [(h, .inr (6, [.ref a0, .ref a1, .ref a2, .ref a3, .ref a4, .ref a5, .ref a6, .ref a7, .int tp, .int q]))], rfl, ⟨rfl, rfl⟩, by rw [ht9]; exact hP9, hD9⟩, hS.F ht9⟩) hS.2.2 dX7_changeSeed_11
set_option maxHeartbeats 4000000 in
set_option maxRecDepth 100000 in
theorem c_X7_bin (l : Launch) (D : va_G) (k : Nat → ClassId) (sz : Nat) (h a0 a1 a2 a3 a4 a5 a6 a7 : Nat)  (tp sd : Int32) : Met l yX7_bin wsX7_bin ({ frames := 1, cells := 0, slots := 0, locals := 22 } : Room) (va_Pc [.ref h] (zPre D k [(h, .inr (6, [.ref a0, .ref a1, .ref a2, .ref a3, .ref a4, .ref a5, .ref a6, .ref a7, .int tp, .int sd]))] sz zX0)) (zQi D [(h, .inr (6, [.ref a0, .ref a1, .ref a2, .ref a3, .ref a4, .ref a5, .ref a6, .ref a7, .int tp, .int sd]))] sz (fdivI tp 10) (fun w : va_W => w = [(h, .inr (6, [.ref a0, .ref a1, .ref a2, .ref a3, .ref a4, .ref a5, .ref a6, .ref a7, .int tp, .int sd]))])) 0 0 (va_A [(h, .inr (6, [.ref a0, .ref a1, .ref a2, .ref a3, .ref a4, .ref a5, .ref a6, .ref a7, .int tp, .int sd]))] sz) := by
  refine Met.ofW (cc := cX7_bin) (maxL := 1) (ret := (some .int)) (by decide) rfl ?_
  intro p e s m args below meth c s₁ B hml hv
  obtain ⟨rfl, hsz, hP, hK, hD0, hE⟩ := hv
  have hx := B.exec
  have hb := B.bytes
  have hr := B.returns
  have hts := atoms_spec (ws := wsX7_bin) B.pre
  have hown : s.vm.findClass RX7 = some m.cls := findClass_of_methodNamed B.named
  have hlocks := B.notSynchronized
  subst hsz
  have hD := hD0.self (sz := s.heap.size)
  delta zQi zB
  generalize hAe : va_A [(h, .inr (6, [.ref a0, .ref a1, .ref a2, .ref a3, .ref a4, .ref a5, .ref a6, .ref a7, .int tp, .int sd]))] s.heap.size = A at hD hE ⊢
  have hA : ∀ q : Nat, s.heap.size ≤ q → A q := fun q h => by rw [← hAe]; exact Or.inr h
  have hS : va_S A s.heap s.heap [] := va_S.rf
  have hl := lv_entry [.ref h] (n := 1) (Nat.le_of_ble_eq_true rfl)
  rw [lg_entry_eq]
  generalize (lg_sl [.ref h] ++ List.replicate (1 - (lg_sl [.ref h]).length) Slot.unset).toArray = ls at hl ⊢
  have hl : lv_has ls 1 [(0, .ref h)] := hl
  have hl37 : (Cond.fieldLink RX7 37 "InertialReference$Sensors" "temperature" "I").before #[Value.ref h] s = true := zw hts 1 rfl
  have hinX7 : ∀ w ∈ u_ws RX7 TX7 10, w ∈ wsX7_bin := fun w h => List.mem_cons_of_mem _ (List.mem_append_right _ h)
  refine lv_aload_n hx hb dX7_bin_0 rfl (lv_at hl 0 rfl) ?_
  refine va_get (D := D) (ci := 6) (v := .int tp) (C := RX7) (T := TX7) (N := 10) hx hb hts hinX7 hown hK hP 0 rfl rfl 8 (Nat.le_of_ble_eq_true rfl) hl37 (fun _ h9 => h9) rfl dX7_bin_1 ?_
  refine lv_bipush (v := 10) hx hb dX7_bin_4 (by decide) ?_
  refine z_calli0 (wc := []) (wr := [(h, .inr (6, [.ref a0, .ref a1, .ref a2, .ref a3, .ref a4, .ref a5, .ref a6, .ref a7, .int tp, .int sd]))]) (va_runS (As := [.int tp, .int 10]) (rest := []) ⟨hx, hb, hml, hown, hts⟩ (c_J9_floorDiv_7cf53 l D k s.heap.size tp 10 (by decide)) (va_cwS 2 hts gX7_bin_J9_floorDiv_7cf53 rfl rfl rfl (by decide +kernel) ⟨Nat.le_of_ble_eq_true rfl, Nat.le_of_ble_eq_true rfl⟩) (z_preS (wc := []) hP hD hK [] rfl rfl zb0 zp0) rfl rfl hl.1 rfl (lv_room (Nat.le_of_ble_eq_true rfl)) dX7_bin_6 ⟨Nat.zero_le _, Nat.zero_le _⟩) hP hD hS hA [] [0] rfl rfl rfl (by decide) (fun w H locs hF hP hD hS => ?_)
  subst hF
  have hP : va_P D vwCl [(h, .inr (6, [.ref a0, .ref a1, .ref a2, .ref a3, .ref a4, .ref a5, .ref a6, .ref a7, .int tp, .int sd]))] H := hP
  have hD : va_D A [(h, .inr (6, [.ref a0, .ref a1, .ref a2, .ref a3, .ref a4, .ref a5, .ref a6, .ref a7, .int tp, .int sd]))] := hD
  have hP9 := hP.sub (ws' := [(h, .inr (6, [.ref a0, .ref a1, .ref a2, .ref a3, .ref a4, .ref a5, .ref a6, .ref a7, .int tp, .int sd]))]) [0] rfl
  have hD9 := hD.sub (ws' := [(h, .inr (6, [.ref a0, .ref a1, .ref a2, .ref a3, .ref a4, .ref a5, .ref a6, .ref a7, .int tp, .int sd]))]) [0] (by decide) rfl
  exact W.iret (v := fdivI tp 10) hx hb hr (fun t9 ht9 hW9 => ⟨⟨(fdivI tp 10), [(h, .inr (6, [.ref a0, .ref a1, .ref a2, .ref a3, .ref a4, .ref a5, .ref a6, .ref a7, .int tp, .int sd]))], rfl, ⟨rfl, rfl⟩, by rw [ht9]; exact hP9, hD9⟩, hS.F ht9⟩) hS.2.2 dX7_bin_9
set_option maxHeartbeats 4000000 in
set_option maxRecDepth 100000 in
theorem c_X7_drawNoise (l : Launch) (D : va_G) (k : Nat → ClassId) (sz : Nat) (h a0 a1 a2 a3 a4 a5 a6 a7 : Nat)  (tp sd : Int32) (am : Int32) (ham : am.toInt ≤ 10000) : Met l yX7_drawNoise wsX7_drawNoise ({ frames := 0, cells := 0, slots := 0, locals := 0 } : Room) (va_Pc [.ref h, .int am] (zPre D k [(h, .inr (6, [.ref a0, .ref a1, .ref a2, .ref a3, .ref a4, .ref a5, .ref a6, .ref a7, .int tp, .int sd]))] sz zX0)) (zQi D [(h, .inr (6, [.ref a0, .ref a1, .ref a2, .ref a3, .ref a4, .ref a5, .ref a6, .ref a7, .int tp, .int sd]))] sz (drw sd am) (fun w : va_W => w = [(h, .inr (6, [.ref a0, .ref a1, .ref a2, .ref a3, .ref a4, .ref a5, .ref a6, .ref a7, .int tp, .int (nxs sd am)]))])) 0 0 (va_A [(h, .inr (6, [.ref a0, .ref a1, .ref a2, .ref a3, .ref a4, .ref a5, .ref a6, .ref a7, .int tp, .int sd]))] sz) := by
  refine Met.ofW (cc := cX7_drawNoise) (maxL := 2) (ret := (some .int)) (by decide) rfl ?_
  intro p e s m args below meth c s₁ B hml hv
  obtain ⟨rfl, hsz, hP, hK, hD0, hE⟩ := hv
  have hx := B.exec
  have hb := B.bytes
  have hr := B.returns
  have hts := atoms_spec (ws := wsX7_drawNoise) B.pre
  have hown : s.vm.findClass RX7 = some m.cls := findClass_of_methodNamed B.named
  have hlocks := B.notSynchronized
  subst hsz
  have hD := hD0.self (sz := s.heap.size)
  delta zQi zB
  generalize hAe : va_A [(h, .inr (6, [.ref a0, .ref a1, .ref a2, .ref a3, .ref a4, .ref a5, .ref a6, .ref a7, .int tp, .int sd]))] s.heap.size = A at hD hE ⊢
  have hA : ∀ q : Nat, s.heap.size ≤ q → A q := fun q h => by rw [← hAe]; exact Or.inr h
  have hS : va_S A s.heap s.heap [] := va_S.rf
  have hl := lv_entry [.ref h, .int am] (n := 2) (Nat.le_of_ble_eq_true rfl)
  rw [lg_entry_eq]
  generalize (lg_sl [.ref h, .int am] ++ List.replicate (2 - (lg_sl [.ref h, .int am]).length) Slot.unset).toArray = ls at hl ⊢
  have hl : lv_has ls 2 [(0, .ref h), (1, .int am)] := hl
  have hl50 : (Cond.fieldLink RX7 50 "InertialReference$Sensors" "seed" "I").before #[Value.ref h, Value.int am] s = true := zw hts 1 rfl
  have hinX7 : ∀ w ∈ u_ws RX7 TX7 10, w ∈ wsX7_drawNoise := fun w h => List.mem_cons_of_mem _ (List.mem_append_right _ h)
  have hl80 : (Cond.constant RX7 80 (1103515245)).before #[Value.ref h, Value.int am] s = true := zw hts 2 rfl
  refine lv_iload_n hx hb dX7_drawNoise_0 rfl (lv_at hl 1 rfl) ?_
  refine lv_if_gt (tgt := 6) hx hb dX7_drawNoise_1 (by decide) (fun c_1 => ?_) (fun c_1 => ?_)
  · skip
    have c_1 : 0 < am.toInt := zlt c_1 (by decide) rfl
    refine lv_aload_n hx hb dX7_drawNoise_6 rfl (lv_at hl 0 rfl) ?_
    refine lv_aload_n hx hb dX7_drawNoise_7 rfl (lv_at hl 0 rfl) ?_
    refine va_get (D := D) (ci := 6) (v := .int sd) (C := RX7) (T := TX7) (N := 10) hx hb hts hinX7 hown hK hP 0 rfl rfl 9 (Nat.le_of_ble_eq_true rfl) hl50 (fun _ h9 => h9) rfl dX7_drawNoise_8 ?_
    refine lv_ldc hx hb hown hl80 dX7_drawNoise_11 ?_
    refine lv_imul hx hb dX7_drawNoise_13 ?_
    refine lv_sipush (v := 12345) hx hb dX7_drawNoise_14 (by decide) ?_
    refine lv_iadd hx hb dX7_drawNoise_17 ?_
    refine va_put (D := D) (ci := 6) (v := .int ((sd * 1103515245) + 12345)) (ty := .int) (C := RX7) (T := TX7) (N := 10) hx hb hts hinX7 tyX7 tyX7_ok nmX7 hown hK hP hD hS 0 rfl rfl 9 (Nat.le_of_ble_eq_true rfl) hl50 (fun _ h9 => h9) rfl  (by decide +kernel) rfl rfl (Nat.le_of_ble_eq_true rfl) dX7_drawNoise_18 (fun H locs hP hD hS => ?_)
    have hP : va_P D vwCl [(h, .inr (6, [.ref a0, .ref a1, .ref a2, .ref a3, .ref a4, .ref a5, .ref a6, .ref a7, .int tp, .int ((sd * 1103515245) + 12345)]))] H := hP
    have hD : va_D A [(h, .inr (6, [.ref a0, .ref a1, .ref a2, .ref a3, .ref a4, .ref a5, .ref a6, .ref a7, .int tp, .int ((sd * 1103515245) + 12345)]))] := hD
    refine lv_aload_n hx hb dX7_drawNoise_21 rfl (lv_at hl 0 rfl) ?_
    refine va_get (D := D) (ci := 6) (v := .int ((sd * 1103515245) + 12345)) (C := RX7) (T := TX7) (N := 10) hx hb hts hinX7 hown hK hP 0 rfl rfl 9 (Nat.le_of_ble_eq_true rfl) hl50 (fun _ h9 => h9) rfl dX7_drawNoise_22 ?_
    refine lv_bipush (v := 16) hx hb dX7_drawNoise_25 (by decide) ?_
    refine lv_iushr (v := iushr ((sd * 1103515245) + 12345) 16) hx hb dX7_drawNoise_27 rfl ?_
    refine lv_iconst (v := 2) hx hb dX7_drawNoise_28 (by decide) ?_
    refine lv_iload_n hx hb dX7_drawNoise_29 rfl (lv_at hl 1 rfl) ?_
    refine lv_imul hx hb dX7_drawNoise_30 ?_
    refine lv_iconst (v := 1) hx hb dX7_drawNoise_31 (by decide) ?_
    refine lv_iadd hx hb dX7_drawNoise_32 ?_
    refine lv_irem hx hb dX7_drawNoise_33 (dn_ne c_1 ham) ?_
    refine lv_iload_n hx hb dX7_drawNoise_34 rfl (lv_at hl 1 rfl) ?_
    refine lv_isub hx hb dX7_drawNoise_35 ?_
    have hP := z_congO hP 0 rfl (fs2 := [.ref a0, .ref a1, .ref a2, .ref a3, .ref a4, .ref a5, .ref a6, .ref a7, .int tp, .int (nxs sd am)]) (by (rw [nxs_t c_1])) (ws' := [(h, .inr (6, [.ref a0, .ref a1, .ref a2, .ref a3, .ref a4, .ref a5, .ref a6, .ref a7, .int tp, .int (nxs sd am)]))]) rfl
    have hD := z_congDO hD 0 rfl (fs2 := [.ref a0, .ref a1, .ref a2, .ref a3, .ref a4, .ref a5, .ref a6, .ref a7, .int tp, .int (nxs sd am)]) (ws' := [(h, .inr (6, [.ref a0, .ref a1, .ref a2, .ref a3, .ref a4, .ref a5, .ref a6, .ref a7, .int tp, .int (nxs sd am)]))]) rfl
    have hP9 := hP.sub (ws' := [(h, .inr (6, [.ref a0, .ref a1, .ref a2, .ref a3, .ref a4, .ref a5, .ref a6, .ref a7, .int tp, .int (nxs sd am)]))]) [0] rfl
    have hD9 := hD.sub (ws' := [(h, .inr (6, [.ref a0, .ref a1, .ref a2, .ref a3, .ref a4, .ref a5, .ref a6, .ref a7, .int tp, .int (nxs sd am)]))]) [0] (by decide) rfl
    exact W.iret (v := ((iushr ((sd * 1103515245) + 12345) 16) - (iushr ((sd * 1103515245) + 12345) 16) / ((2 * am) + 1) * ((2 * am) + 1)) - am) hx hb hr (fun t9 ht9 hW9 => ⟨⟨(((iushr ((sd * 1103515245) + 12345) 16) - (iushr ((sd * 1103515245) + 12345) 16) / ((2 * am) + 1) * ((2 * am) + 1)) - am), [(h, .inr (6, [.ref a0, .ref a1, .ref a2, .ref a3, .ref a4, .ref a5, .ref a6, .ref a7, .int tp, .int (nxs sd am)]))], rfl, ⟨by (exact drw_t c_1), rfl⟩, by rw [ht9]; exact hP9, hD9⟩, hS.F ht9⟩) hS.2.2 dX7_drawNoise_36
  · skip
    have c_1 : am.toInt ≤ 0 := znlt c_1 (by decide) rfl
    refine lv_iconst (v := 0) hx hb dX7_drawNoise_4 (by decide) ?_
    have hP := z_congO hP 0 rfl (fs2 := [.ref a0, .ref a1, .ref a2, .ref a3, .ref a4, .ref a5, .ref a6, .ref a7, .int tp, .int (nxs sd am)]) (by (rw [← nxs_f c_1])) (ws' := [(h, .inr (6, [.ref a0, .ref a1, .ref a2, .ref a3, .ref a4, .ref a5, .ref a6, .ref a7, .int tp, .int (nxs sd am)]))]) rfl
    have hD := z_congDO hD 0 rfl (fs2 := [.ref a0, .ref a1, .ref a2, .ref a3, .ref a4, .ref a5, .ref a6, .ref a7, .int tp, .int (nxs sd am)]) (ws' := [(h, .inr (6, [.ref a0, .ref a1, .ref a2, .ref a3, .ref a4, .ref a5, .ref a6, .ref a7, .int tp, .int (nxs sd am)]))]) rfl
    have hP9 := hP.sub (ws' := [(h, .inr (6, [.ref a0, .ref a1, .ref a2, .ref a3, .ref a4, .ref a5, .ref a6, .ref a7, .int tp, .int (nxs sd am)]))]) [0] rfl
    have hD9 := hD.sub (ws' := [(h, .inr (6, [.ref a0, .ref a1, .ref a2, .ref a3, .ref a4, .ref a5, .ref a6, .ref a7, .int tp, .int (nxs sd am)]))]) [0] (by decide) rfl
    exact W.iret (v := 0) hx hb hr (fun t9 ht9 hW9 => ⟨⟨0, [(h, .inr (6, [.ref a0, .ref a1, .ref a2, .ref a3, .ref a4, .ref a5, .ref a6, .ref a7, .int tp, .int (nxs sd am)]))], rfl, ⟨by (exact drw_f c_1), rfl⟩, by rw [ht9]; exact hP9, hD9⟩, hS.F ht9⟩) hS.2.2 dX7_drawNoise_5
set_option maxHeartbeats 4000000 in
set_option maxRecDepth 100000 in
theorem c_X7_senseRates (l : Launch) (D : va_G) (k : Nat → ClassId) (sz : Nat) (h a0 a1 a2 a3 a4 a5 a6 a7 : Nat) (hr2 nav g gp gs gi gr gm r0 r1 r2 : Nat) (fB fC fN fL : Nat → Int32) (fG fW fr fn fM0 fM1 fM2 : Nat → Int64)  (tp sd : Int32) (hno : ∀ i, i < 3 → (fN i).toInt ≤ 10000) : Met l yX7_senseRates wsX7_senseRates ({ frames := 3, cells := 0, slots := 0, locals := 70 } : Room) (va_Pc [.ref h, .ref hr2, .ref nav, .ref g] (zPre D k [(h, .inr (6, [.ref a0, .ref a1, .ref a2, .ref a3, .ref a4, .ref a5, .ref a6, .ref a7, .int tp, .int sd])), (a0, zaI k 3 fB), (a1, zaI k 3 fC), (a2, zaI k 3 fN), (a3, zaI k 3 fL), (a5, zaJ k 3 fG), (a7, zaJ k 3 fW), (hr2, zaJ k 3 fr), (g, .inr (0, [.ref gp, .ref gs, .ref gi, .ref gr, .ref gm])), (gm, zaG k 3 (gr3 r0 r1 r2)), (r0, zaJ k 3 fM0), (r1, zaJ k 3 fM1), (r2, zaJ k 3 fM2)] sz (zTb nav 3 fn (va_A [(h, .inr (6, [.ref a0, .ref a1, .ref a2, .ref a3, .ref a4, .ref a5, .ref a6, .ref a7, .int tp, .int sd])), (a0, zaI k 3 fB), (a1, zaI k 3 fC), (a2, zaI k 3 fN), (a3, zaI k 3 fL), (a5, zaJ k 3 fG), (a7, zaJ k 3 fW), (hr2, zaJ k 3 fr), (g, .inr (0, [.ref gp, .ref gs, .ref gi, .ref gr, .ref gm])), (gm, zaG k 3 (gr3 r0 r1 r2)), (r0, zaJ k 3 fM0), (r1, zaJ k 3 fM1), (r2, zaJ k 3 fM2)] sz)))) (zQv D [(h, .inr (6, [.ref a0, .ref a1, .ref a2, .ref a3, .ref a4, .ref a5, .ref a6, .ref a7, .int tp, .int sd])), (a0, zaI k 3 fB), (a1, zaI k 3 fC), (a2, zaI k 3 fN), (a3, zaI k 3 fL), (a5, zaJ k 3 fG), (a7, zaJ k 3 fW), (hr2, zaJ k 3 fr), (g, .inr (0, [.ref gp, .ref gs, .ref gi, .ref gr, .ref gm])), (gm, zaG k 3 (gr3 r0 r1 r2)), (r0, zaJ k 3 fM0), (r1, zaJ k 3 fM1), (r2, zaJ k 3 fM2)] sz (fun w : va_W => ∃ (fW2 : Nat → Int64), w = [(h, .inr (6, [.ref a0, .ref a1, .ref a2, .ref a3, .ref a4, .ref a5, .ref a6, .ref a7, .int tp, .int (nx3 fN sd)])), (a0, zaI k 3 fB), (a1, zaI k 3 fC), (a2, zaI k 3 fN), (a3, zaI k 3 fL), (a5, zaJ k 3 (gyrv fr (bodyr fM0 fM1 fM2 (fn 0) (fn 1) (fn 2)) fC fB fL fN tp sd)), (a7, zaJ k 3 fW2), (hr2, zaJ k 3 fr), (g, .inr (0, [.ref gp, .ref gs, .ref gi, .ref gr, .ref gm])), (gm, zaG k 3 (gr3 r0 r1 r2)), (r0, zaJ k 3 fM0), (r1, zaJ k 3 fM1), (r2, zaJ k 3 fM2)])) 0 0 (va_A [(h, .inr (6, [.ref a0, .ref a1, .ref a2, .ref a3, .ref a4, .ref a5, .ref a6, .ref a7, .int tp, .int sd])), (a0, zaI k 3 fB), (a1, zaI k 3 fC), (a2, zaI k 3 fN), (a3, zaI k 3 fL), (a5, zaJ k 3 fG), (a7, zaJ k 3 fW), (hr2, zaJ k 3 fr), (g, .inr (0, [.ref gp, .ref gs, .ref gi, .ref gr, .ref gm])), (gm, zaG k 3 (gr3 r0 r1 r2)), (r0, zaJ k 3 fM0), (r1, zaJ k 3 fM1), (r2, zaJ k 3 fM2)] sz) := by
  refine Met.ofW (cc := cX7_senseRates) (maxL := 7) (ret := none) (by decide) rfl ?_
  intro p e s m args below meth c s₁ B hml hv
  obtain ⟨rfl, hsz, hP, hK, hD0, hE⟩ := hv
  have hx := B.exec
  have hb := B.bytes
  have hr := B.returns
  have hts := atoms_spec (ws := wsX7_senseRates) B.pre
  have hown : s.vm.findClass RX7 = some m.cls := findClass_of_methodNamed B.named
  have hlocks := B.notSynchronized
  subst hsz
  have hD := hD0.self (sz := s.heap.size)
  delta zQv zB
  generalize hAe : va_A [(h, .inr (6, [.ref a0, .ref a1, .ref a2, .ref a3, .ref a4, .ref a5, .ref a6, .ref a7, .int tp, .int sd])), (a0, zaI k 3 fB), (a1, zaI k 3 fC), (a2, zaI k 3 fN), (a3, zaI k 3 fL), (a5, zaJ k 3 fG), (a7, zaJ k 3 fW), (hr2, zaJ k 3 fr), (g, .inr (0, [.ref gp, .ref gs, .ref gi, .ref gr, .ref gm])), (gm, zaG k 3 (gr3 r0 r1 r2)), (r0, zaJ k 3 fM0), (r1, zaJ k 3 fM1), (r2, zaJ k 3 fM2)] s.heap.size = A at hD hE ⊢
  have hA : ∀ q : Nat, s.heap.size ≤ q → A q := fun q h => by rw [← hAe]; exact Or.inr h
  have hS : va_S A s.heap s.heap [] := va_S.rf
  have hl := lv_entry [.ref h, .ref hr2, .ref nav, .ref g] (n := 7) (Nat.le_of_ble_eq_true rfl)
  rw [lg_entry_eq]
  generalize (lg_sl [.ref h, .ref hr2, .ref nav, .ref g] ++ List.replicate (7 - (lg_sl [.ref h, .ref hr2, .ref nav, .ref g]).length) Slot.unset).toArray = ls at hl ⊢
  have hl : lv_has ls 7 [(0, .ref h), (1, .ref hr2), (2, .ref nav), (3, .ref g)] := hl
  have hl34 : (Cond.fieldLink RX7 34 "InertialReference$Sensors" "inBody" "[J").before #[Value.ref h, Value.ref hr2, Value.ref nav, Value.ref g] s = true := zw hts 1 rfl
  have hinX7 : ∀ w ∈ u_ws RX7 TX7 10, w ∈ wsX7_senseRates := fun w h => List.mem_cons_of_mem _ (List.mem_append_left _ (List.mem_append_right _ h))
  have hl27 : (Cond.fieldLink RX7 27 "InertialReference$Sensors" "gyroReadings" "[J").before #[Value.ref h, Value.ref hr2, Value.ref nav, Value.ref g] s = true := zw hts 2 rfl
  have hl15 : (Cond.fieldLink RX7 15 "InertialReference$Sensors" "scale" "[I").before #[Value.ref h, Value.ref hr2, Value.ref nav, Value.ref g] s = true := zw hts 3 rfl
  have hl71 : (Cond.constantLong RX7 71 (1000000)).before #[Value.ref h, Value.ref hr2, Value.ref nav, Value.ref g] s = true := zw hts 4 rfl
  have hl9 : (Cond.fieldLink RX7 9 "InertialReference$Sensors" "bias" "[I").before #[Value.ref h, Value.ref hr2, Value.ref nav, Value.ref g] s = true := zw hts 5 rfl
  have hl21 : (Cond.fieldLink RX7 21 "InertialReference$Sensors" "slope" "[I").before #[Value.ref h, Value.ref hr2, Value.ref nav, Value.ref g] s = true := zw hts 6 rfl
  have hl37 : (Cond.fieldLink RX7 37 "InertialReference$Sensors" "temperature" "I").before #[Value.ref h, Value.ref hr2, Value.ref nav, Value.ref g] s = true := zw hts 7 rfl
  have hl18 : (Cond.fieldLink RX7 18 "InertialReference$Sensors" "noise" "[I").before #[Value.ref h, Value.ref hr2, Value.ref nav, Value.ref g] s = true := zw hts 8 rfl
  refine lv_aload_n hx hb dX7_senseRates_0 rfl (lv_at hl 3 rfl) ?_
  refine lv_aload_n hx hb dX7_senseRates_1 rfl (lv_at hl 2 rfl) ?_
  refine lv_aload_n hx hb dX7_senseRates_2 rfl (lv_at hl 0 rfl) ?_
  refine va_get (D := D) (ci := 6) (v := .ref a7) (C := RX7) (T := TX7) (N := 10) hx hb hts hinX7 hown hK hP 0 rfl rfl 7 (Nat.le_of_ble_eq_true rfl) hl34 (fun _ h9 => h9) rfl dX7_senseRates_3 ?_
  refine z_callv0 (wc := [(g, .inr (0, [.ref gp, .ref gs, .ref gi, .ref gr, .ref gm])), (gm, zaG k 3 (gr3 r0 r1 r2)), (r0, zaJ k 3 fM0), (r1, zaJ k 3 fM1), (r2, zaJ k 3 fM2), (a7, zaJ k 3 fW)]) (wr := [(h, .inr (6, [.ref a0, .ref a1, .ref a2, .ref a3, .ref a4, .ref a5, .ref a6, .ref a7, .int tp, .int sd])), (a0, zaI k 3 fB), (a1, zaI k 3 fC), (a2, zaI k 3 fN), (a3, zaI k 3 fL), (a5, zaJ k 3 fG), (hr2, zaJ k 3 fr)]) (va_runV (As := [.ref nav, .ref a7]) (rest := []) ⟨hx, hb, hml, hown, hts⟩ (c_X0_turnIntoBody l D k s.heap.size g gp gs gi gr gm r0 r1 r2 nav a7 fM0 fM1 fM2 fn fW) (cwV 2 hts gX7_senseRates_X0_turnIntoBody rfl rfl rfl (by decide +kernel) ⟨Nat.le_of_ble_eq_true rfl, Nat.le_of_ble_eq_true rfl⟩) (z_preV (wc := [(g, .inr (0, [.ref gp, .ref gs, .ref gi, .ref gr, .ref gm])), (gm, zaG k 3 (gr3 r0 r1 r2)), (r0, zaJ k 3 fM0), (r1, zaJ k 3 fM1), (r2, zaJ k 3 fM2), (a7, zaJ k 3 fW)]) 8 0 hP hD hK [8, 9, 10, 11, 12, 6] rfl rfl rfl rfl zTbb (zTp hE hS (va_free hD hS hA [8, 9, 10, 11, 12, 6] (wc := [(g, .inr (0, [.ref gp, .ref gs, .ref gi, .ref gr, .ref gm])), (gm, zaG k 3 (gr3 r0 r1 r2)), (r0, zaJ k 3 fM0), (r1, zaJ k 3 fM1), (r2, zaJ k 3 fM2), (a7, zaJ k 3 fW)]) rfl))) rfl rfl hl.1 rfl (lv_room (Nat.le_of_ble_eq_true rfl)) dX7_senseRates_6 ⟨Nat.zero_le _, Nat.zero_le _⟩) hP hD hS hA [8, 9, 10, 11, 12, 6] [0, 1, 2, 3, 4, 5, 7] rfl rfl rfl (by decide) (fun w H locs hF hP hD hS => ?_)
  subst hF
  have hP : va_P D vwCl [(h, .inr (6, [.ref a0, .ref a1, .ref a2, .ref a3, .ref a4, .ref a5, .ref a6, .ref a7, .int tp, .int sd])), (a0, zaI k 3 fB), (a1, zaI k 3 fC), (a2, zaI k 3 fN), (a3, zaI k 3 fL), (a5, zaJ k 3 fG), (hr2, zaJ k 3 fr), (g, .inr (0, [.ref gp, .ref gs, .ref gi, .ref gr, .ref gm])), (gm, zaG k 3 (gr3 r0 r1 r2)), (r0, zaJ k 3 fM0), (r1, zaJ k 3 fM1), (r2, zaJ k 3 fM2), (a7, zaJ k 3 (bodyr fM0 fM1 fM2 (fn 0) (fn 1) (fn 2)))] H := hP
  have hD : va_D A [(h, .inr (6, [.ref a0, .ref a1, .ref a2, .ref a3, .ref a4, .ref a5, .ref a6, .ref a7, .int tp, .int sd])), (a0, zaI k 3 fB), (a1, zaI k 3 fC), (a2, zaI k 3 fN), (a3, zaI k 3 fL), (a5, zaJ k 3 fG), (hr2, zaJ k 3 fr), (g, .inr (0, [.ref gp, .ref gs, .ref gi, .ref gr, .ref gm])), (gm, zaG k 3 (gr3 r0 r1 r2)), (r0, zaJ k 3 fM0), (r1, zaJ k 3 fM1), (r2, zaJ k 3 fM2), (a7, zaJ k 3 (bodyr fM0 fM1 fM2 (fn 0) (fn 1) (fn 2)))] := hD
  refine lv_iconst (v := 0) hx hb dX7_senseRates_9 (by decide) ?_
  refine lv_istore (lv' := [(4, .int 0), (0, .ref h), (1, .ref hr2), (2, .ref nav), (3, .ref g)]) hx hb dX7_senseRates_10 hl (by decide) rfl (fun ls hl => ?_)
  refine lv_iload hx hb dX7_senseRates_12 (lv_at hl 0 rfl) ?_
  refine lv_iconst (v := 3) hx hb dX7_senseRates_14 (by decide) ?_
  refine lv_icmp_ge (tgt := 109) hx hb dX7_senseRates_15 (by decide) (fun c => absurd c (by decide)) (fun _ => ?_)
  refine lv_aload_n hx hb dX7_senseRates_18 rfl (lv_at hl 2 rfl) ?_
  refine lv_iload hx hb dX7_senseRates_19 (lv_at hl 0 rfl) ?_
  refine z_lald hx hb hK hP 6 rfl 0 zx0 (by decide) (v := fr 0) rfl dX7_senseRates_21 ?_
  refine lv_aload_n hx hb dX7_senseRates_22 rfl (lv_at hl 1 rfl) ?_
  refine va_get (D := D) (ci := 6) (v := .ref a7) (C := RX7) (T := TX7) (N := 10) hx hb hts hinX7 hown hK hP 0 rfl rfl 7 (Nat.le_of_ble_eq_true rfl) hl34 (fun _ h9 => h9) rfl dX7_senseRates_23 ?_
  refine lv_iload hx hb dX7_senseRates_26 (lv_at hl 0 rfl) ?_
  refine z_lald hx hb hK hP 12 rfl 0 zx0 (by decide) (v := (bodyr fM0 fM1 fM2 (fn 0) (fn 1) (fn 2)) 0) rfl dX7_senseRates_28 ?_
  refine lv_ladd hx hb dX7_senseRates_29 ?_
  refine lv_lstore (lv' := [(5, .long ((fr 0) + ((bodyr fM0 fM1 fM2 (fn 0) (fn 1) (fn 2)) 0))), (4, .int 0), (0, .ref h), (1, .ref hr2), (2, .ref nav), (3, .ref g)]) hx hb dX7_senseRates_30 hl (by decide) rfl (fun ls hl => ?_)
  refine lv_aload_n hx hb dX7_senseRates_32 rfl (lv_at hl 2 rfl) ?_
  refine va_get (D := D) (ci := 6) (v := .ref a5) (C := RX7) (T := TX7) (N := 10) hx hb hts hinX7 hown hK hP 0 rfl rfl 5 (Nat.le_of_ble_eq_true rfl) hl27 (fun _ h9 => h9) rfl dX7_senseRates_33 ?_
  refine lv_iload hx hb dX7_senseRates_36 (lv_at hl 1 rfl) ?_
  refine lv_lload hx hb dX7_senseRates_38 (lv_at hl 0 rfl) ?_
  refine lv_lload hx hb dX7_senseRates_40 (lv_at hl 0 rfl) ?_
  refine lv_aload_n hx hb dX7_senseRates_42 rfl (lv_at hl 2 rfl) ?_
  refine va_get (D := D) (ci := 6) (v := .ref a1) (C := RX7) (T := TX7) (N := 10) hx hb hts hinX7 hown hK hP 0 rfl rfl 1 (Nat.le_of_ble_eq_true rfl) hl15 (fun _ h9 => h9) rfl dX7_senseRates_43 ?_
  refine lv_iload hx hb dX7_senseRates_46 (lv_at hl 1 rfl) ?_
  refine z_iald hx hb hK hP 2 rfl 0 zx0 (by decide) (v := fC 0) rfl dX7_senseRates_48 ?_
  refine lv_i2l (v := (fC 0).toInt64) hx hb dX7_senseRates_49 rfl ?_
  refine lv_lmul hx hb dX7_senseRates_50 ?_
  refine lv_ldc2 hx hb hown hl71 dX7_senseRates_51 ?_
  refine z_calll0 (wc := []) (wr := [(h, .inr (6, [.ref a0, .ref a1, .ref a2, .ref a3, .ref a4, .ref a5, .ref a6, .ref a7, .int tp, .int sd])), (a0, zaI k 3 fB), (a1, zaI k 3 fC), (a2, zaI k 3 fN), (a3, zaI k 3 fL), (a5, zaJ k 3 fG), (hr2, zaJ k 3 fr), (g, .inr (0, [.ref gp, .ref gs, .ref gi, .ref gr, .ref gm])), (gm, zaG k 3 (gr3 r0 r1 r2)), (r0, zaJ k 3 fM0), (r1, zaJ k 3 fM1), (r2, zaJ k 3 fM2), (a7, zaJ k 3 (bodyr fM0 fM1 fM2 (fn 0) (fn 1) (fn 2)))]) (va_runS (As := [.long (((fr 0) + ((bodyr fM0 fM1 fM2 (fn 0) (fn 1) (fn 2)) 0)) * ((fC 0).toInt64)), .long 1000000]) (rest := [.long ((fr 0) + ((bodyr fM0 fM1 fM2 (fn 0) (fn 1) (fn 2)) 0)), .int 0, .ref a5]) ⟨hx, hb, hml, hown, hts⟩ (c_J9_floorDiv_f86c9 l D k H.size (((fr 0) + ((bodyr fM0 fM1 fM2 (fn 0) (fn 1) (fn 2)) 0)) * ((fC 0).toInt64)) 1000000 (by decide)) (va_cwS 2 hts gX7_senseRates_J9_floorDiv_f86c9 rfl rfl rfl (by decide +kernel) ⟨Nat.le_of_ble_eq_true rfl, Nat.le_of_ble_eq_true rfl⟩) (z_preS (wc := []) hP hD hK [] rfl rfl zb0 zp0) rfl rfl hl.1 rfl (lv_room (Nat.le_of_ble_eq_true rfl)) dX7_senseRates_54 ⟨Nat.zero_le _, Nat.zero_le _⟩) hP hD hS hA [] [0, 1, 2, 3, 4, 5, 6, 7, 8, 9, 10, 11, 12] rfl rfl rfl (by decide) (fun w H locs hF hP hD hS => ?_)
  subst hF
  have hP : va_P D vwCl [(h, .inr (6, [.ref a0, .ref a1, .ref a2, .ref a3, .ref a4, .ref a5, .ref a6, .ref a7, .int tp, .int sd])), (a0, zaI k 3 fB), (a1, zaI k 3 fC), (a2, zaI k 3 fN), (a3, zaI k 3 fL), (a5, zaJ k 3 fG), (hr2, zaJ k 3 fr), (g, .inr (0, [.ref gp, .ref gs, .ref gi, .ref gr, .ref gm])), (gm, zaG k 3 (gr3 r0 r1 r2)), (r0, zaJ k 3 fM0), (r1, zaJ k 3 fM1), (r2, zaJ k 3 fM2), (a7, zaJ k 3 (bodyr fM0 fM1 fM2 (fn 0) (fn 1) (fn 2)))] H := hP
  have hD : va_D A [(h, .inr (6, [.ref a0, .ref a1, .ref a2, .ref a3, .ref a4, .ref a5, .ref a6, .ref a7, .int tp, .int sd])), (a0, zaI k 3 fB), (a1, zaI k 3 fC), (a2, zaI k 3 fN), (a3, zaI k 3 fL), (a5, zaJ k 3 fG), (hr2, zaJ k 3 fr), (g, .inr (0, [.ref gp, .ref gs, .ref gi, .ref gr, .ref gm])), (gm, zaG k 3 (gr3 r0 r1 r2)), (r0, zaJ k 3 fM0), (r1, zaJ k 3 fM1), (r2, zaJ k 3 fM2), (a7, zaJ k 3 (bodyr fM0 fM1 fM2 (fn 0) (fn 1) (fn 2)))] := hD
  refine lv_ladd hx hb dX7_senseRates_57 ?_
  refine lv_aload_n hx hb dX7_senseRates_58 rfl (lv_at hl 2 rfl) ?_
  refine va_get (D := D) (ci := 6) (v := .ref a0) (C := RX7) (T := TX7) (N := 10) hx hb hts hinX7 hown hK hP 0 rfl rfl 0 (Nat.le_of_ble_eq_true rfl) hl9 (fun _ h9 => h9) rfl dX7_senseRates_59 ?_
  refine lv_iload hx hb dX7_senseRates_62 (lv_at hl 1 rfl) ?_
  refine z_iald hx hb hK hP 1 rfl 0 zx0 (by decide) (v := fB 0) rfl dX7_senseRates_64 ?_
  refine lv_i2l (v := (fB 0).toInt64) hx hb dX7_senseRates_65 rfl ?_
  refine lv_ladd hx hb dX7_senseRates_66 ?_
  refine lv_aload_n hx hb dX7_senseRates_67 rfl (lv_at hl 2 rfl) ?_
  refine va_get (D := D) (ci := 6) (v := .ref a3) (C := RX7) (T := TX7) (N := 10) hx hb hts hinX7 hown hK hP 0 rfl rfl 3 (Nat.le_of_ble_eq_true rfl) hl21 (fun _ h9 => h9) rfl dX7_senseRates_68 ?_
  refine lv_iload hx hb dX7_senseRates_71 (lv_at hl 1 rfl) ?_
  refine z_iald hx hb hK hP 4 rfl 0 zx0 (by decide) (v := fL 0) rfl dX7_senseRates_73 ?_
  refine lv_aload_n hx hb dX7_senseRates_74 rfl (lv_at hl 2 rfl) ?_
  refine va_get (D := D) (ci := 6) (v := .int tp) (C := RX7) (T := TX7) (N := 10) hx hb hts hinX7 hown hK hP 0 rfl rfl 8 (Nat.le_of_ble_eq_true rfl) hl37 (fun _ h9 => h9) rfl dX7_senseRates_75 ?_
  refine lv_bipush (v := 25) hx hb dX7_senseRates_78 (by decide) ?_
  refine lv_isub hx hb dX7_senseRates_80 ?_
  refine lv_imul hx hb dX7_senseRates_81 ?_
  refine lv_bipush (v := 10) hx hb dX7_senseRates_82 (by decide) ?_
  refine z_calli0 (wc := []) (wr := [(h, .inr (6, [.ref a0, .ref a1, .ref a2, .ref a3, .ref a4, .ref a5, .ref a6, .ref a7, .int tp, .int sd])), (a0, zaI k 3 fB), (a1, zaI k 3 fC), (a2, zaI k 3 fN), (a3, zaI k 3 fL), (a5, zaJ k 3 fG), (hr2, zaJ k 3 fr), (g, .inr (0, [.ref gp, .ref gs, .ref gi, .ref gr, .ref gm])), (gm, zaG k 3 (gr3 r0 r1 r2)), (r0, zaJ k 3 fM0), (r1, zaJ k 3 fM1), (r2, zaJ k 3 fM2), (a7, zaJ k 3 (bodyr fM0 fM1 fM2 (fn 0) (fn 1) (fn 2)))]) (va_runS (As := [.int ((fL 0) * (tp - 25)), .int 10]) (rest := [.long ((((fr 0) + ((bodyr fM0 fM1 fM2 (fn 0) (fn 1) (fn 2)) 0)) + (fdiv (((fr 0) + ((bodyr fM0 fM1 fM2 (fn 0) (fn 1) (fn 2)) 0)) * ((fC 0).toInt64)) 1000000)) + ((fB 0).toInt64)), .int 0, .ref a5]) ⟨hx, hb, hml, hown, hts⟩ (c_J9_floorDiv_7cf53 l D k H.size ((fL 0) * (tp - 25)) 10 (by decide)) (va_cwS 2 hts gX7_senseRates_J9_floorDiv_7cf53 rfl rfl rfl (by decide +kernel) ⟨Nat.le_of_ble_eq_true rfl, Nat.le_of_ble_eq_true rfl⟩) (z_preS (wc := []) hP hD hK [] rfl rfl zb0 zp0) rfl rfl hl.1 rfl (lv_room (Nat.le_of_ble_eq_true rfl)) dX7_senseRates_84 ⟨Nat.zero_le _, Nat.zero_le _⟩) hP hD hS hA [] [0, 1, 2, 3, 4, 5, 6, 7, 8, 9, 10, 11, 12] rfl rfl rfl (by decide) (fun w H locs hF hP hD hS => ?_)
  subst hF
  have hP : va_P D vwCl [(h, .inr (6, [.ref a0, .ref a1, .ref a2, .ref a3, .ref a4, .ref a5, .ref a6, .ref a7, .int tp, .int sd])), (a0, zaI k 3 fB), (a1, zaI k 3 fC), (a2, zaI k 3 fN), (a3, zaI k 3 fL), (a5, zaJ k 3 fG), (hr2, zaJ k 3 fr), (g, .inr (0, [.ref gp, .ref gs, .ref gi, .ref gr, .ref gm])), (gm, zaG k 3 (gr3 r0 r1 r2)), (r0, zaJ k 3 fM0), (r1, zaJ k 3 fM1), (r2, zaJ k 3 fM2), (a7, zaJ k 3 (bodyr fM0 fM1 fM2 (fn 0) (fn 1) (fn 2)))] H := hP
  have hD : va_D A [(h, .inr (6, [.ref a0, .ref a1, .ref a2, .ref a3, .ref a4, .ref a5, .ref a6, .ref a7, .int tp, .int sd])), (a0, zaI k 3 fB), (a1, zaI k 3 fC), (a2, zaI k 3 fN), (a3, zaI k 3 fL), (a5, zaJ k 3 fG), (hr2, zaJ k 3 fr), (g, .inr (0, [.ref gp, .ref gs, .ref gi, .ref gr, .ref gm])), (gm, zaG k 3 (gr3 r0 r1 r2)), (r0, zaJ k 3 fM0), (r1, zaJ k 3 fM1), (r2, zaJ k 3 fM2), (a7, zaJ k 3 (bodyr fM0 fM1 fM2 (fn 0) (fn 1) (fn 2)))] := hD
  refine lv_i2l (v := (fdivI ((fL 0) * (tp - 25)) 10).toInt64) hx hb dX7_senseRates_87 rfl ?_
  refine lv_ladd hx hb dX7_senseRates_88 ?_
  refine lv_aload_n hx hb dX7_senseRates_89 rfl (lv_at hl 2 rfl) ?_
  refine lv_aload_n hx hb dX7_senseRates_90 rfl (lv_at hl 2 rfl) ?_
  refine va_get (D := D) (ci := 6) (v := .ref a2) (C := RX7) (T := TX7) (N := 10) hx hb hts hinX7 hown hK hP 0 rfl rfl 2 (Nat.le_of_ble_eq_true rfl) hl18 (fun _ h9 => h9) rfl dX7_senseRates_91 ?_
  refine lv_iload hx hb dX7_senseRates_94 (lv_at hl 1 rfl) ?_
  refine z_iald hx hb hK hP 3 rfl 0 zx0 (by decide) (v := fN 0) rfl dX7_senseRates_96 ?_
  refine z_calli0 (wc := [(h, .inr (6, [.ref a0, .ref a1, .ref a2, .ref a3, .ref a4, .ref a5, .ref a6, .ref a7, .int tp, .int sd]))]) (wr := [(a0, zaI k 3 fB), (a1, zaI k 3 fC), (a2, zaI k 3 fN), (a3, zaI k 3 fL), (a5, zaJ k 3 fG), (hr2, zaJ k 3 fr), (g, .inr (0, [.ref gp, .ref gs, .ref gi, .ref gr, .ref gm])), (gm, zaG k 3 (gr3 r0 r1 r2)), (r0, zaJ k 3 fM0), (r1, zaJ k 3 fM1), (r2, zaJ k 3 fM2), (a7, zaJ k 3 (bodyr fM0 fM1 fM2 (fn 0) (fn 1) (fn 2)))]) (va_runV (As := [.int (fN 0)]) (rest := [.long (((((fr 0) + ((bodyr fM0 fM1 fM2 (fn 0) (fn 1) (fn 2)) 0)) + (fdiv (((fr 0) + ((bodyr fM0 fM1 fM2 (fn 0) (fn 1) (fn 2)) 0)) * ((fC 0).toInt64)) 1000000)) + ((fB 0).toInt64)) + ((fdivI ((fL 0) * (tp - 25)) 10).toInt64)), .int 0, .ref a5]) ⟨hx, hb, hml, hown, hts⟩ (c_X7_drawNoise l D k H.size h a0 a1 a2 a3 a4 a5 a6 a7 tp sd (fN 0) (hno 0 (by decide))) (cwV 1 hts gX7_senseRates_X7_drawNoise rfl rfl rfl (by decide +kernel) ⟨Nat.le_of_ble_eq_true rfl, Nat.le_of_ble_eq_true rfl⟩) (z_preV (wc := [(h, .inr (6, [.ref a0, .ref a1, .ref a2, .ref a3, .ref a4, .ref a5, .ref a6, .ref a7, .int tp, .int sd]))]) 0 6 hP hD hK [0] rfl rfl rfl rfl zb0 zp0) rfl rfl hl.1 rfl (lv_room (Nat.le_of_ble_eq_true rfl)) dX7_senseRates_97 ⟨Nat.zero_le _, Nat.zero_le _⟩) hP hD hS hA [0] [1, 2, 3, 4, 5, 6, 7, 8, 9, 10, 11, 12] rfl rfl rfl (by decide) (fun w H locs hF hP hD hS => ?_)
  subst hF
  have hP : va_P D vwCl [(a0, zaI k 3 fB), (a1, zaI k 3 fC), (a2, zaI k 3 fN), (a3, zaI k 3 fL), (a5, zaJ k 3 fG), (hr2, zaJ k 3 fr), (g, .inr (0, [.ref gp, .ref gs, .ref gi, .ref gr, .ref gm])), (gm, zaG k 3 (gr3 r0 r1 r2)), (r0, zaJ k 3 fM0), (r1, zaJ k 3 fM1), (r2, zaJ k 3 fM2), (a7, zaJ k 3 (bodyr fM0 fM1 fM2 (fn 0) (fn 1) (fn 2))), (h, .inr (6, [.ref a0, .ref a1, .ref a2, .ref a3, .ref a4, .ref a5, .ref a6, .ref a7, .int tp, .int (nxs sd (fN 0))]))] H := hP
  have hD : va_D A [(a0, zaI k 3 fB), (a1, zaI k 3 fC), (a2, zaI k 3 fN), (a3, zaI k 3 fL), (a5, zaJ k 3 fG), (hr2, zaJ k 3 fr), (g, .inr (0, [.ref gp, .ref gs, .ref gi, .ref gr, .ref gm])), (gm, zaG k 3 (gr3 r0 r1 r2)), (r0, zaJ k 3 fM0), (r1, zaJ k 3 fM1), (r2, zaJ k 3 fM2), (a7, zaJ k 3 (bodyr fM0 fM1 fM2 (fn 0) (fn 1) (fn 2))), (h, .inr (6, [.ref a0, .ref a1, .ref a2, .ref a3, .ref a4, .ref a5, .ref a6, .ref a7, .int tp, .int (nxs sd (fN 0))]))] := hD
  refine lv_i2l (v := (drw sd (fN 0)).toInt64) hx hb dX7_senseRates_100 rfl ?_
  refine lv_ladd hx hb dX7_senseRates_101 ?_
  refine lv_topl (fun x_1 ex_1 => ?_)
  refine z_last hx hb hK hP hD hS 4 rfl 0 zx0 (by decide) (ws' := [(a0, zaI k 3 fB), (a1, zaI k 3 fC), (a2, zaI k 3 fN), (a3, zaI k 3 fL), (a5, zaJ k 3 (vp_updL fG 0 x_1)), (hr2, zaJ k 3 fr), (g, .inr (0, [.ref gp, .ref gs, .ref gi, .ref gr, .ref gm])), (gm, zaG k 3 (gr3 r0 r1 r2)), (r0, zaJ k 3 fM0), (r1, zaJ k 3 fM1), (r2, zaJ k 3 fM2), (a7, zaJ k 3 (bodyr fM0 fM1 fM2 (fn 0) (fn 1) (fn 2))), (h, .inr (6, [.ref a0, .ref a1, .ref a2, .ref a3, .ref a4, .ref a5, .ref a6, .ref a7, .int tp, .int (nxs sd (fN 0))]))]) rfl dX7_senseRates_102 (fun H locs hP hD hS => ?_)
  refine lv_iinc (v := 1) (lv' := [(4, .int 1), (5, .long ((fr 0) + ((bodyr fM0 fM1 fM2 (fn 0) (fn 1) (fn 2)) 0))), (0, .ref h), (1, .ref hr2), (2, .ref nav), (3, .ref g)]) hx hb dX7_senseRates_103 hl (k := 1) rfl (by decide) (by decide) rfl (fun ls hl => ?_)
  refine lv_goto (tgt := 12) hx hb dX7_senseRates_106 (by decide) ?_
  refine lv_iload hx hb dX7_senseRates_12 (lv_at hl 0 rfl) ?_
  refine lv_iconst (v := 3) hx hb dX7_senseRates_14 (by decide) ?_
  refine lv_icmp_ge (tgt := 109) hx hb dX7_senseRates_15 (by decide) (fun c => absurd c (by decide)) (fun _ => ?_)
  refine lv_aload_n hx hb dX7_senseRates_18 rfl (lv_at hl 3 rfl) ?_
  refine lv_iload hx hb dX7_senseRates_19 (lv_at hl 0 rfl) ?_
  refine z_lald hx hb hK hP 5 rfl 1 zx1 (by decide) (v := fr 1) rfl dX7_senseRates_21 ?_
  refine lv_aload_n hx hb dX7_senseRates_22 rfl (lv_at hl 2 rfl) ?_
  refine va_get (D := D) (ci := 6) (v := .ref a7) (C := RX7) (T := TX7) (N := 10) hx hb hts hinX7 hown hK hP 12 rfl rfl 7 (Nat.le_of_ble_eq_true rfl) hl34 (fun _ h9 => h9) rfl dX7_senseRates_23 ?_
  refine lv_iload hx hb dX7_senseRates_26 (lv_at hl 0 rfl) ?_
  refine z_lald hx hb hK hP 11 rfl 1 zx1 (by decide) (v := (bodyr fM0 fM1 fM2 (fn 0) (fn 1) (fn 2)) 1) rfl dX7_senseRates_28 ?_
  refine lv_ladd hx hb dX7_senseRates_29 ?_
  refine lv_lstore (lv' := [(5, .long ((fr 1) + ((bodyr fM0 fM1 fM2 (fn 0) (fn 1) (fn 2)) 1))), (4, .int 1), (0, .ref h), (1, .ref hr2), (2, .ref nav), (3, .ref g)]) hx hb dX7_senseRates_30 hl (by decide) rfl (fun ls hl => ?_)
  refine lv_aload_n hx hb dX7_senseRates_32 rfl (lv_at hl 2 rfl) ?_
  refine va_get (D := D) (ci := 6) (v := .ref a5) (C := RX7) (T := TX7) (N := 10) hx hb hts hinX7 hown hK hP 12 rfl rfl 5 (Nat.le_of_ble_eq_true rfl) hl27 (fun _ h9 => h9) rfl dX7_senseRates_33 ?_
  refine lv_iload hx hb dX7_senseRates_36 (lv_at hl 1 rfl) ?_
  refine lv_lload hx hb dX7_senseRates_38 (lv_at hl 0 rfl) ?_
  refine lv_lload hx hb dX7_senseRates_40 (lv_at hl 0 rfl) ?_
  refine lv_aload_n hx hb dX7_senseRates_42 rfl (lv_at hl 2 rfl) ?_
  refine va_get (D := D) (ci := 6) (v := .ref a1) (C := RX7) (T := TX7) (N := 10) hx hb hts hinX7 hown hK hP 12 rfl rfl 1 (Nat.le_of_ble_eq_true rfl) hl15 (fun _ h9 => h9) rfl dX7_senseRates_43 ?_
  refine lv_iload hx hb dX7_senseRates_46 (lv_at hl 1 rfl) ?_
  refine z_iald hx hb hK hP 1 rfl 1 zx1 (by decide) (v := fC 1) rfl dX7_senseRates_48 ?_
  refine lv_i2l (v := (fC 1).toInt64) hx hb dX7_senseRates_49 rfl ?_
  refine lv_lmul hx hb dX7_senseRates_50 ?_
  refine lv_ldc2 hx hb hown hl71 dX7_senseRates_51 ?_
  refine z_calll0 (wc := []) (wr := [(a0, zaI k 3 fB), (a1, zaI k 3 fC), (a2, zaI k 3 fN), (a3, zaI k 3 fL), (a5, zaJ k 3 (vp_updL fG 0 x_1)), (hr2, zaJ k 3 fr), (g, .inr (0, [.ref gp, .ref gs, .ref gi, .ref gr, .ref gm])), (gm, zaG k 3 (gr3 r0 r1 r2)), (r0, zaJ k 3 fM0), (r1, zaJ k 3 fM1), (r2, zaJ k 3 fM2), (a7, zaJ k 3 (bodyr fM0 fM1 fM2 (fn 0) (fn 1) (fn 2))), (h, .inr (6, [.ref a0, .ref a1, .ref a2, .ref a3, .ref a4, .ref a5, .ref a6, .ref a7, .int tp, .int (nxs sd (fN 0))]))]) (va_runS (As := [.long (((fr 1) + ((bodyr fM0 fM1 fM2 (fn 0) (fn 1) (fn 2)) 1)) * ((fC 1).toInt64)), .long 1000000]) (rest := [.long ((fr 1) + ((bodyr fM0 fM1 fM2 (fn 0) (fn 1) (fn 2)) 1)), .int 1, .ref a5]) ⟨hx, hb, hml, hown, hts⟩ (c_J9_floorDiv_f86c9 l D k H.size (((fr 1) + ((bodyr fM0 fM1 fM2 (fn 0) (fn 1) (fn 2)) 1)) * ((fC 1).toInt64)) 1000000 (by decide)) (va_cwS 2 hts gX7_senseRates_J9_floorDiv_f86c9 rfl rfl rfl (by decide +kernel) ⟨Nat.le_of_ble_eq_true rfl, Nat.le_of_ble_eq_true rfl⟩) (z_preS (wc := []) hP hD hK [] rfl rfl zb0 zp0) rfl rfl hl.1 rfl (lv_room (Nat.le_of_ble_eq_true rfl)) dX7_senseRates_54 ⟨Nat.zero_le _, Nat.zero_le _⟩) hP hD hS hA [] [0, 1, 2, 3, 4, 5, 6, 7, 8, 9, 10, 11, 12] rfl rfl rfl (by decide) (fun w H locs hF hP hD hS => ?_)
  subst hF
  have hP : va_P D vwCl [(a0, zaI k 3 fB), (a1, zaI k 3 fC), (a2, zaI k 3 fN), (a3, zaI k 3 fL), (a5, zaJ k 3 (vp_updL fG 0 x_1)), (hr2, zaJ k 3 fr), (g, .inr (0, [.ref gp, .ref gs, .ref gi, .ref gr, .ref gm])), (gm, zaG k 3 (gr3 r0 r1 r2)), (r0, zaJ k 3 fM0), (r1, zaJ k 3 fM1), (r2, zaJ k 3 fM2), (a7, zaJ k 3 (bodyr fM0 fM1 fM2 (fn 0) (fn 1) (fn 2))), (h, .inr (6, [.ref a0, .ref a1, .ref a2, .ref a3, .ref a4, .ref a5, .ref a6, .ref a7, .int tp, .int (nxs sd (fN 0))]))] H := hP
  have hD : va_D A [(a0, zaI k 3 fB), (a1, zaI k 3 fC), (a2, zaI k 3 fN), (a3, zaI k 3 fL), (a5, zaJ k 3 (vp_updL fG 0 x_1)), (hr2, zaJ k 3 fr), (g, .inr (0, [.ref gp, .ref gs, .ref gi, .ref gr, .ref gm])), (gm, zaG k 3 (gr3 r0 r1 r2)), (r0, zaJ k 3 fM0), (r1, zaJ k 3 fM1), (r2, zaJ k 3 fM2), (a7, zaJ k 3 (bodyr fM0 fM1 fM2 (fn 0) (fn 1) (fn 2))), (h, .inr (6, [.ref a0, .ref a1, .ref a2, .ref a3, .ref a4, .ref a5, .ref a6, .ref a7, .int tp, .int (nxs sd (fN 0))]))] := hD
  refine lv_ladd hx hb dX7_senseRates_57 ?_
  refine lv_aload_n hx hb dX7_senseRates_58 rfl (lv_at hl 2 rfl) ?_
  refine va_get (D := D) (ci := 6) (v := .ref a0) (C := RX7) (T := TX7) (N := 10) hx hb hts hinX7 hown hK hP 12 rfl rfl 0 (Nat.le_of_ble_eq_true rfl) hl9 (fun _ h9 => h9) rfl dX7_senseRates_59 ?_
  refine lv_iload hx hb dX7_senseRates_62 (lv_at hl 1 rfl) ?_
  refine z_iald hx hb hK hP 0 rfl 1 zx1 (by decide) (v := fB 1) rfl dX7_senseRates_64 ?_
  refine lv_i2l (v := (fB 1).toInt64) hx hb dX7_senseRates_65 rfl ?_
  refine lv_ladd hx hb dX7_senseRates_66 ?_
  refine lv_aload_n hx hb dX7_senseRates_67 rfl (lv_at hl 2 rfl) ?_
  refine va_get (D := D) (ci := 6) (v := .ref a3) (C := RX7) (T := TX7) (N := 10) hx hb hts hinX7 hown hK hP 12 rfl rfl 3 (Nat.le_of_ble_eq_true rfl) hl21 (fun _ h9 => h9) rfl dX7_senseRates_68 ?_
  refine lv_iload hx hb dX7_senseRates_71 (lv_at hl 1 rfl) ?_
  refine z_iald hx hb hK hP 3 rfl 1 zx1 (by decide) (v := fL 1) rfl dX7_senseRates_73 ?_
  refine lv_aload_n hx hb dX7_senseRates_74 rfl (lv_at hl 2 rfl) ?_
  refine va_get (D := D) (ci := 6) (v := .int tp) (C := RX7) (T := TX7) (N := 10) hx hb hts hinX7 hown hK hP 12 rfl rfl 8 (Nat.le_of_ble_eq_true rfl) hl37 (fun _ h9 => h9) rfl dX7_senseRates_75 ?_
  refine lv_bipush (v := 25) hx hb dX7_senseRates_78 (by decide) ?_
  refine lv_isub hx hb dX7_senseRates_80 ?_
  refine lv_imul hx hb dX7_senseRates_81 ?_
  refine lv_bipush (v := 10) hx hb dX7_senseRates_82 (by decide) ?_
  refine z_calli0 (wc := []) (wr := [(a0, zaI k 3 fB), (a1, zaI k 3 fC), (a2, zaI k 3 fN), (a3, zaI k 3 fL), (a5, zaJ k 3 (vp_updL fG 0 x_1)), (hr2, zaJ k 3 fr), (g, .inr (0, [.ref gp, .ref gs, .ref gi, .ref gr, .ref gm])), (gm, zaG k 3 (gr3 r0 r1 r2)), (r0, zaJ k 3 fM0), (r1, zaJ k 3 fM1), (r2, zaJ k 3 fM2), (a7, zaJ k 3 (bodyr fM0 fM1 fM2 (fn 0) (fn 1) (fn 2))), (h, .inr (6, [.ref a0, .ref a1, .ref a2, .ref a3, .ref a4, .ref a5, .ref a6, .ref a7, .int tp, .int (nxs sd (fN 0))]))]) (va_runS (As := [.int ((fL 1) * (tp - 25)), .int 10]) (rest := [.long ((((fr 1) + ((bodyr fM0 fM1 fM2 (fn 0) (fn 1) (fn 2)) 1)) + (fdiv (((fr 1) + ((bodyr fM0 fM1 fM2 (fn 0) (fn 1) (fn 2)) 1)) * ((fC 1).toInt64)) 1000000)) + ((fB 1).toInt64)), .int 1, .ref a5]) ⟨hx, hb, hml, hown, hts⟩ (c_J9_floorDiv_7cf53 l D k H.size ((fL 1) * (tp - 25)) 10 (by decide)) (va_cwS 2 hts gX7_senseRates_J9_floorDiv_7cf53 rfl rfl rfl (by decide +kernel) ⟨Nat.le_of_ble_eq_true rfl, Nat.le_of_ble_eq_true rfl⟩) (z_preS (wc := []) hP hD hK [] rfl rfl zb0 zp0) rfl rfl hl.1 rfl (lv_room (Nat.le_of_ble_eq_true rfl)) dX7_senseRates_84 ⟨Nat.zero_le _, Nat.zero_le _⟩) hP hD hS hA [] [0, 1, 2, 3, 4, 5, 6, 7, 8, 9, 10, 11, 12] rfl rfl rfl (by decide) (fun w H locs hF hP hD hS => ?_)
  subst hF
  have hP : va_P D vwCl [(a0, zaI k 3 fB), (a1, zaI k 3 fC), (a2, zaI k 3 fN), (a3, zaI k 3 fL), (a5, zaJ k 3 (vp_updL fG 0 x_1)), (hr2, zaJ k 3 fr), (g, .inr (0, [.ref gp, .ref gs, .ref gi, .ref gr, .ref gm])), (gm, zaG k 3 (gr3 r0 r1 r2)), (r0, zaJ k 3 fM0), (r1, zaJ k 3 fM1), (r2, zaJ k 3 fM2), (a7, zaJ k 3 (bodyr fM0 fM1 fM2 (fn 0) (fn 1) (fn 2))), (h, .inr (6, [.ref a0, .ref a1, .ref a2, .ref a3, .ref a4, .ref a5, .ref a6, .ref a7, .int tp, .int (nxs sd (fN 0))]))] H := hP
  have hD : va_D A [(a0, zaI k 3 fB), (a1, zaI k 3 fC), (a2, zaI k 3 fN), (a3, zaI k 3 fL), (a5, zaJ k 3 (vp_updL fG 0 x_1)), (hr2, zaJ k 3 fr), (g, .inr (0, [.ref gp, .ref gs, .ref gi, .ref gr, .ref gm])), (gm, zaG k 3 (gr3 r0 r1 r2)), (r0, zaJ k 3 fM0), (r1, zaJ k 3 fM1), (r2, zaJ k 3 fM2), (a7, zaJ k 3 (bodyr fM0 fM1 fM2 (fn 0) (fn 1) (fn 2))), (h, .inr (6, [.ref a0, .ref a1, .ref a2, .ref a3, .ref a4, .ref a5, .ref a6, .ref a7, .int tp, .int (nxs sd (fN 0))]))] := hD
  refine lv_i2l (v := (fdivI ((fL 1) * (tp - 25)) 10).toInt64) hx hb dX7_senseRates_87 rfl ?_
  refine lv_ladd hx hb dX7_senseRates_88 ?_
  refine lv_aload_n hx hb dX7_senseRates_89 rfl (lv_at hl 2 rfl) ?_
  refine lv_aload_n hx hb dX7_senseRates_90 rfl (lv_at hl 2 rfl) ?_
  refine va_get (D := D) (ci := 6) (v := .ref a2) (C := RX7) (T := TX7) (N := 10) hx hb hts hinX7 hown hK hP 12 rfl rfl 2 (Nat.le_of_ble_eq_true rfl) hl18 (fun _ h9 => h9) rfl dX7_senseRates_91 ?_
  refine lv_iload hx hb dX7_senseRates_94 (lv_at hl 1 rfl) ?_
  refine z_iald hx hb hK hP 2 rfl 1 zx1 (by decide) (v := fN 1) rfl dX7_senseRates_96 ?_
  refine z_calli0 (wc := [(h, .inr (6, [.ref a0, .ref a1, .ref a2, .ref a3, .ref a4, .ref a5, .ref a6, .ref a7, .int tp, .int (nxs sd (fN 0))]))]) (wr := [(a0, zaI k 3 fB), (a1, zaI k 3 fC), (a2, zaI k 3 fN), (a3, zaI k 3 fL), (a5, zaJ k 3 (vp_updL fG 0 x_1)), (hr2, zaJ k 3 fr), (g, .inr (0, [.ref gp, .ref gs, .ref gi, .ref gr, .ref gm])), (gm, zaG k 3 (gr3 r0 r1 r2)), (r0, zaJ k 3 fM0), (r1, zaJ k 3 fM1), (r2, zaJ k 3 fM2), (a7, zaJ k 3 (bodyr fM0 fM1 fM2 (fn 0) (fn 1) (fn 2)))]) (va_runV (As := [.int (fN 1)]) (rest := [.long (((((fr 1) + ((bodyr fM0 fM1 fM2 (fn 0) (fn 1) (fn 2)) 1)) + (fdiv (((fr 1) + ((bodyr fM0 fM1 fM2 (fn 0) (fn 1) (fn 2)) 1)) * ((fC 1).toInt64)) 1000000)) + ((fB 1).toInt64)) + ((fdivI ((fL 1) * (tp - 25)) 10).toInt64)), .int 1, .ref a5]) ⟨hx, hb, hml, hown, hts⟩ (c_X7_drawNoise l D k H.size h a0 a1 a2 a3 a4 a5 a6 a7 tp (nxs sd (fN 0)) (fN 1) (hno 1 (by decide))) (cwV 1 hts gX7_senseRates_X7_drawNoise rfl rfl rfl (by decide +kernel) ⟨Nat.le_of_ble_eq_true rfl, Nat.le_of_ble_eq_true rfl⟩) (z_preV (wc := [(h, .inr (6, [.ref a0, .ref a1, .ref a2, .ref a3, .ref a4, .ref a5, .ref a6, .ref a7, .int tp, .int (nxs sd (fN 0))]))]) 12 6 hP hD hK [12] rfl rfl rfl rfl zb0 zp0) rfl rfl hl.1 rfl (lv_room (Nat.le_of_ble_eq_true rfl)) dX7_senseRates_97 ⟨Nat.zero_le _, Nat.zero_le _⟩) hP hD hS hA [12] [0, 1, 2, 3, 4, 5, 6, 7, 8, 9, 10, 11] rfl rfl rfl (by decide) (fun w H locs hF hP hD hS => ?_)
  subst hF
  have hP : va_P D vwCl [(a0, zaI k 3 fB), (a1, zaI k 3 fC), (a2, zaI k 3 fN), (a3, zaI k 3 fL), (a5, zaJ k 3 (vp_updL fG 0 x_1)), (hr2, zaJ k 3 fr), (g, .inr (0, [.ref gp, .ref gs, .ref gi, .ref gr, .ref gm])), (gm, zaG k 3 (gr3 r0 r1 r2)), (r0, zaJ k 3 fM0), (r1, zaJ k 3 fM1), (r2, zaJ k 3 fM2), (a7, zaJ k 3 (bodyr fM0 fM1 fM2 (fn 0) (fn 1) (fn 2))), (h, .inr (6, [.ref a0, .ref a1, .ref a2, .ref a3, .ref a4, .ref a5, .ref a6, .ref a7, .int tp, .int (nxs (nxs sd (fN 0)) (fN 1))]))] H := hP
  have hD : va_D A [(a0, zaI k 3 fB), (a1, zaI k 3 fC), (a2, zaI k 3 fN), (a3, zaI k 3 fL), (a5, zaJ k 3 (vp_updL fG 0 x_1)), (hr2, zaJ k 3 fr), (g, .inr (0, [.ref gp, .ref gs, .ref gi, .ref gr, .ref gm])), (gm, zaG k 3 (gr3 r0 r1 r2)), (r0, zaJ k 3 fM0), (r1, zaJ k 3 fM1), (r2, zaJ k 3 fM2), (a7, zaJ k 3 (bodyr fM0 fM1 fM2 (fn 0) (fn 1) (fn 2))), (h, .inr (6, [.ref a0, .ref a1, .ref a2, .ref a3, .ref a4, .ref a5, .ref a6, .ref a7, .int tp, .int (nxs (nxs sd (fN 0)) (fN 1))]))] := hD
  refine lv_i2l (v := (drw (nxs sd (fN 0)) (fN 1)).toInt64) hx hb dX7_senseRates_100 rfl ?_
  refine lv_ladd hx hb dX7_senseRates_101 ?_
  refine lv_topl (fun x_2 ex_2 => ?_)
  refine z_last hx hb hK hP hD hS 4 rfl 1 zx1 (by decide) (ws' := [(a0, zaI k 3 fB), (a1, zaI k 3 fC), (a2, zaI k 3 fN), (a3, zaI k 3 fL), (a5, zaJ k 3 (vp_updL (vp_updL fG 0 x_1) 1 x_2)), (hr2, zaJ k 3 fr), (g, .inr (0, [.ref gp, .ref gs, .ref gi, .ref gr, .ref gm])), (gm, zaG k 3 (gr3 r0 r1 r2)), (r0, zaJ k 3 fM0), (r1, zaJ k 3 fM1), (r2, zaJ k 3 fM2), (a7, zaJ k 3 (bodyr fM0 fM1 fM2 (fn 0) (fn 1) (fn 2))), (h, .inr (6, [.ref a0, .ref a1, .ref a2, .ref a3, .ref a4, .ref a5, .ref a6, .ref a7, .int tp, .int (nxs (nxs sd (fN 0)) (fN 1))]))]) rfl dX7_senseRates_102 (fun H locs hP hD hS => ?_)
  refine lv_iinc (v := 2) (lv' := [(4, .int 2), (5, .long ((fr 1) + ((bodyr fM0 fM1 fM2 (fn 0) (fn 1) (fn 2)) 1))), (0, .ref h), (1, .ref hr2), (2, .ref nav), (3, .ref g)]) hx hb dX7_senseRates_103 hl (k := 1) rfl (by decide) (by decide) rfl (fun ls hl => ?_)
  refine lv_goto (tgt := 12) hx hb dX7_senseRates_106 (by decide) ?_
  refine lv_iload hx hb dX7_senseRates_12 (lv_at hl 0 rfl) ?_
  refine lv_iconst (v := 3) hx hb dX7_senseRates_14 (by decide) ?_
  refine lv_icmp_ge (tgt := 109) hx hb dX7_senseRates_15 (by decide) (fun c => absurd c (by decide)) (fun _ => ?_)
  refine lv_aload_n hx hb dX7_senseRates_18 rfl (lv_at hl 3 rfl) ?_
  refine lv_iload hx hb dX7_senseRates_19 (lv_at hl 0 rfl) ?_
  refine z_lald hx hb hK hP 5 rfl 2 zx2 (by decide) (v := fr 2) rfl dX7_senseRates_21 ?_
  refine lv_aload_n hx hb dX7_senseRates_22 rfl (lv_at hl 2 rfl) ?_
  refine va_get (D := D) (ci := 6) (v := .ref a7) (C := RX7) (T := TX7) (N := 10) hx hb hts hinX7 hown hK hP 12 rfl rfl 7 (Nat.le_of_ble_eq_true rfl) hl34 (fun _ h9 => h9) rfl dX7_senseRates_23 ?_
  refine lv_iload hx hb dX7_senseRates_26 (lv_at hl 0 rfl) ?_
  refine z_lald hx hb hK hP 11 rfl 2 zx2 (by decide) (v := (bodyr fM0 fM1 fM2 (fn 0) (fn 1) (fn 2)) 2) rfl dX7_senseRates_28 ?_
  refine lv_ladd hx hb dX7_senseRates_29 ?_
  refine lv_lstore (lv' := [(5, .long ((fr 2) + ((bodyr fM0 fM1 fM2 (fn 0) (fn 1) (fn 2)) 2))), (4, .int 2), (0, .ref h), (1, .ref hr2), (2, .ref nav), (3, .ref g)]) hx hb dX7_senseRates_30 hl (by decide) rfl (fun ls hl => ?_)
  refine lv_aload_n hx hb dX7_senseRates_32 rfl (lv_at hl 2 rfl) ?_
  refine va_get (D := D) (ci := 6) (v := .ref a5) (C := RX7) (T := TX7) (N := 10) hx hb hts hinX7 hown hK hP 12 rfl rfl 5 (Nat.le_of_ble_eq_true rfl) hl27 (fun _ h9 => h9) rfl dX7_senseRates_33 ?_
  refine lv_iload hx hb dX7_senseRates_36 (lv_at hl 1 rfl) ?_
  refine lv_lload hx hb dX7_senseRates_38 (lv_at hl 0 rfl) ?_
  refine lv_lload hx hb dX7_senseRates_40 (lv_at hl 0 rfl) ?_
  refine lv_aload_n hx hb dX7_senseRates_42 rfl (lv_at hl 2 rfl) ?_
  refine va_get (D := D) (ci := 6) (v := .ref a1) (C := RX7) (T := TX7) (N := 10) hx hb hts hinX7 hown hK hP 12 rfl rfl 1 (Nat.le_of_ble_eq_true rfl) hl15 (fun _ h9 => h9) rfl dX7_senseRates_43 ?_
  refine lv_iload hx hb dX7_senseRates_46 (lv_at hl 1 rfl) ?_
  refine z_iald hx hb hK hP 1 rfl 2 zx2 (by decide) (v := fC 2) rfl dX7_senseRates_48 ?_
  refine lv_i2l (v := (fC 2).toInt64) hx hb dX7_senseRates_49 rfl ?_
  refine lv_lmul hx hb dX7_senseRates_50 ?_
  refine lv_ldc2 hx hb hown hl71 dX7_senseRates_51 ?_
  refine z_calll0 (wc := []) (wr := [(a0, zaI k 3 fB), (a1, zaI k 3 fC), (a2, zaI k 3 fN), (a3, zaI k 3 fL), (a5, zaJ k 3 (vp_updL (vp_updL fG 0 x_1) 1 x_2)), (hr2, zaJ k 3 fr), (g, .inr (0, [.ref gp, .ref gs, .ref gi, .ref gr, .ref gm])), (gm, zaG k 3 (gr3 r0 r1 r2)), (r0, zaJ k 3 fM0), (r1, zaJ k 3 fM1), (r2, zaJ k 3 fM2), (a7, zaJ k 3 (bodyr fM0 fM1 fM2 (fn 0) (fn 1) (fn 2))), (h, .inr (6, [.ref a0, .ref a1, .ref a2, .ref a3, .ref a4, .ref a5, .ref a6, .ref a7, .int tp, .int (nxs (nxs sd (fN 0)) (fN 1))]))]) (va_runS (As := [.long (((fr 2) + ((bodyr fM0 fM1 fM2 (fn 0) (fn 1) (fn 2)) 2)) * ((fC 2).toInt64)), .long 1000000]) (rest := [.long ((fr 2) + ((bodyr fM0 fM1 fM2 (fn 0) (fn 1) (fn 2)) 2)), .int 2, .ref a5]) ⟨hx, hb, hml, hown, hts⟩ (c_J9_floorDiv_f86c9 l D k H.size (((fr 2) + ((bodyr fM0 fM1 fM2 (fn 0) (fn 1) (fn 2)) 2)) * ((fC 2).toInt64)) 1000000 (by decide)) (va_cwS 2 hts gX7_senseRates_J9_floorDiv_f86c9 rfl rfl rfl (by decide +kernel) ⟨Nat.le_of_ble_eq_true rfl, Nat.le_of_ble_eq_true rfl⟩) (z_preS (wc := []) hP hD hK [] rfl rfl zb0 zp0) rfl rfl hl.1 rfl (lv_room (Nat.le_of_ble_eq_true rfl)) dX7_senseRates_54 ⟨Nat.zero_le _, Nat.zero_le _⟩) hP hD hS hA [] [0, 1, 2, 3, 4, 5, 6, 7, 8, 9, 10, 11, 12] rfl rfl rfl (by decide) (fun w H locs hF hP hD hS => ?_)
  subst hF
  have hP : va_P D vwCl [(a0, zaI k 3 fB), (a1, zaI k 3 fC), (a2, zaI k 3 fN), (a3, zaI k 3 fL), (a5, zaJ k 3 (vp_updL (vp_updL fG 0 x_1) 1 x_2)), (hr2, zaJ k 3 fr), (g, .inr (0, [.ref gp, .ref gs, .ref gi, .ref gr, .ref gm])), (gm, zaG k 3 (gr3 r0 r1 r2)), (r0, zaJ k 3 fM0), (r1, zaJ k 3 fM1), (r2, zaJ k 3 fM2), (a7, zaJ k 3 (bodyr fM0 fM1 fM2 (fn 0) (fn 1) (fn 2))), (h, .inr (6, [.ref a0, .ref a1, .ref a2, .ref a3, .ref a4, .ref a5, .ref a6, .ref a7, .int tp, .int (nxs (nxs sd (fN 0)) (fN 1))]))] H := hP
  have hD : va_D A [(a0, zaI k 3 fB), (a1, zaI k 3 fC), (a2, zaI k 3 fN), (a3, zaI k 3 fL), (a5, zaJ k 3 (vp_updL (vp_updL fG 0 x_1) 1 x_2)), (hr2, zaJ k 3 fr), (g, .inr (0, [.ref gp, .ref gs, .ref gi, .ref gr, .ref gm])), (gm, zaG k 3 (gr3 r0 r1 r2)), (r0, zaJ k 3 fM0), (r1, zaJ k 3 fM1), (r2, zaJ k 3 fM2), (a7, zaJ k 3 (bodyr fM0 fM1 fM2 (fn 0) (fn 1) (fn 2))), (h, .inr (6, [.ref a0, .ref a1, .ref a2, .ref a3, .ref a4, .ref a5, .ref a6, .ref a7, .int tp, .int (nxs (nxs sd (fN 0)) (fN 1))]))] := hD
  refine lv_ladd hx hb dX7_senseRates_57 ?_
  refine lv_aload_n hx hb dX7_senseRates_58 rfl (lv_at hl 2 rfl) ?_
  refine va_get (D := D) (ci := 6) (v := .ref a0) (C := RX7) (T := TX7) (N := 10) hx hb hts hinX7 hown hK hP 12 rfl rfl 0 (Nat.le_of_ble_eq_true rfl) hl9 (fun _ h9 => h9) rfl dX7_senseRates_59 ?_
  refine lv_iload hx hb dX7_senseRates_62 (lv_at hl 1 rfl) ?_
  refine z_iald hx hb hK hP 0 rfl 2 zx2 (by decide) (v := fB 2) rfl dX7_senseRates_64 ?_
  refine lv_i2l (v := (fB 2).toInt64) hx hb dX7_senseRates_65 rfl ?_
  refine lv_ladd hx hb dX7_senseRates_66 ?_
  refine lv_aload_n hx hb dX7_senseRates_67 rfl (lv_at hl 2 rfl) ?_
  refine va_get (D := D) (ci := 6) (v := .ref a3) (C := RX7) (T := TX7) (N := 10) hx hb hts hinX7 hown hK hP 12 rfl rfl 3 (Nat.le_of_ble_eq_true rfl) hl21 (fun _ h9 => h9) rfl dX7_senseRates_68 ?_
  refine lv_iload hx hb dX7_senseRates_71 (lv_at hl 1 rfl) ?_
  refine z_iald hx hb hK hP 3 rfl 2 zx2 (by decide) (v := fL 2) rfl dX7_senseRates_73 ?_
  refine lv_aload_n hx hb dX7_senseRates_74 rfl (lv_at hl 2 rfl) ?_
  refine va_get (D := D) (ci := 6) (v := .int tp) (C := RX7) (T := TX7) (N := 10) hx hb hts hinX7 hown hK hP 12 rfl rfl 8 (Nat.le_of_ble_eq_true rfl) hl37 (fun _ h9 => h9) rfl dX7_senseRates_75 ?_
  refine lv_bipush (v := 25) hx hb dX7_senseRates_78 (by decide) ?_
  refine lv_isub hx hb dX7_senseRates_80 ?_
  refine lv_imul hx hb dX7_senseRates_81 ?_
  refine lv_bipush (v := 10) hx hb dX7_senseRates_82 (by decide) ?_
  refine z_calli0 (wc := []) (wr := [(a0, zaI k 3 fB), (a1, zaI k 3 fC), (a2, zaI k 3 fN), (a3, zaI k 3 fL), (a5, zaJ k 3 (vp_updL (vp_updL fG 0 x_1) 1 x_2)), (hr2, zaJ k 3 fr), (g, .inr (0, [.ref gp, .ref gs, .ref gi, .ref gr, .ref gm])), (gm, zaG k 3 (gr3 r0 r1 r2)), (r0, zaJ k 3 fM0), (r1, zaJ k 3 fM1), (r2, zaJ k 3 fM2), (a7, zaJ k 3 (bodyr fM0 fM1 fM2 (fn 0) (fn 1) (fn 2))), (h, .inr (6, [.ref a0, .ref a1, .ref a2, .ref a3, .ref a4, .ref a5, .ref a6, .ref a7, .int tp, .int (nxs (nxs sd (fN 0)) (fN 1))]))]) (va_runS (As := [.int ((fL 2) * (tp - 25)), .int 10]) (rest := [.long ((((fr 2) + ((bodyr fM0 fM1 fM2 (fn 0) (fn 1) (fn 2)) 2)) + (fdiv (((fr 2) + ((bodyr fM0 fM1 fM2 (fn 0) (fn 1) (fn 2)) 2)) * ((fC 2).toInt64)) 1000000)) + ((fB 2).toInt64)), .int 2, .ref a5]) ⟨hx, hb, hml, hown, hts⟩ (c_J9_floorDiv_7cf53 l D k H.size ((fL 2) * (tp - 25)) 10 (by decide)) (va_cwS 2 hts gX7_senseRates_J9_floorDiv_7cf53 rfl rfl rfl (by decide +kernel) ⟨Nat.le_of_ble_eq_true rfl, Nat.le_of_ble_eq_true rfl⟩) (z_preS (wc := []) hP hD hK [] rfl rfl zb0 zp0) rfl rfl hl.1 rfl (lv_room (Nat.le_of_ble_eq_true rfl)) dX7_senseRates_84 ⟨Nat.zero_le _, Nat.zero_le _⟩) hP hD hS hA [] [0, 1, 2, 3, 4, 5, 6, 7, 8, 9, 10, 11, 12] rfl rfl rfl (by decide) (fun w H locs hF hP hD hS => ?_)
  subst hF
  have hP : va_P D vwCl [(a0, zaI k 3 fB), (a1, zaI k 3 fC), (a2, zaI k 3 fN), (a3, zaI k 3 fL), (a5, zaJ k 3 (vp_updL (vp_updL fG 0 x_1) 1 x_2)), (hr2, zaJ k 3 fr), (g, .inr (0, [.ref gp, .ref gs, .ref gi, .ref gr, .ref gm])), (gm, zaG k 3 (gr3 r0 r1 r2)), (r0, zaJ k 3 fM0), (r1, zaJ k 3 fM1), (r2, zaJ k 3 fM2), (a7, zaJ k 3 (bodyr fM0 fM1 fM2 (fn 0) (fn 1) (fn 2))), (h, .inr (6, [.ref a0, .ref a1, .ref a2, .ref a3, .ref a4, .ref a5, .ref a6, .ref a7, .int tp, .int (nxs (nxs sd (fN 0)) (fN 1))]))] H := hP
  have hD : va_D A [(a0, zaI k 3 fB), (a1, zaI k 3 fC), (a2, zaI k 3 fN), (a3, zaI k 3 fL), (a5, zaJ k 3 (vp_updL (vp_updL fG 0 x_1) 1 x_2)), (hr2, zaJ k 3 fr), (g, .inr (0, [.ref gp, .ref gs, .ref gi, .ref gr, .ref gm])), (gm, zaG k 3 (gr3 r0 r1 r2)), (r0, zaJ k 3 fM0), (r1, zaJ k 3 fM1), (r2, zaJ k 3 fM2), (a7, zaJ k 3 (bodyr fM0 fM1 fM2 (fn 0) (fn 1) (fn 2))), (h, .inr (6, [.ref a0, .ref a1, .ref a2, .ref a3, .ref a4, .ref a5, .ref a6, .ref a7, .int tp, .int (nxs (nxs sd (fN 0)) (fN 1))]))] := hD
  refine lv_i2l (v := (fdivI ((fL 2) * (tp - 25)) 10).toInt64) hx hb dX7_senseRates_87 rfl ?_
  refine lv_ladd hx hb dX7_senseRates_88 ?_
  refine lv_aload_n hx hb dX7_senseRates_89 rfl (lv_at hl 2 rfl) ?_
  refine lv_aload_n hx hb dX7_senseRates_90 rfl (lv_at hl 2 rfl) ?_
  refine va_get (D := D) (ci := 6) (v := .ref a2) (C := RX7) (T := TX7) (N := 10) hx hb hts hinX7 hown hK hP 12 rfl rfl 2 (Nat.le_of_ble_eq_true rfl) hl18 (fun _ h9 => h9) rfl dX7_senseRates_91 ?_
  refine lv_iload hx hb dX7_senseRates_94 (lv_at hl 1 rfl) ?_
  refine z_iald hx hb hK hP 2 rfl 2 zx2 (by decide) (v := fN 2) rfl dX7_senseRates_96 ?_
  refine z_calli0 (wc := [(h, .inr (6, [.ref a0, .ref a1, .ref a2, .ref a3, .ref a4, .ref a5, .ref a6, .ref a7, .int tp, .int (nxs (nxs sd (fN 0)) (fN 1))]))]) (wr := [(a0, zaI k 3 fB), (a1, zaI k 3 fC), (a2, zaI k 3 fN), (a3, zaI k 3 fL), (a5, zaJ k 3 (vp_updL (vp_updL fG 0 x_1) 1 x_2)), (hr2, zaJ k 3 fr), (g, .inr (0, [.ref gp, .ref gs, .ref gi, .ref gr, .ref gm])), (gm, zaG k 3 (gr3 r0 r1 r2)), (r0, zaJ k 3 fM0), (r1, zaJ k 3 fM1), (r2, zaJ k 3 fM2), (a7, zaJ k 3 (bodyr fM0 fM1 fM2 (fn 0) (fn 1) (fn 2)))]) (va_runV (As := [.int (fN 2)]) (rest := [.long (((((fr 2) + ((bodyr fM0 fM1 fM2 (fn 0) (fn 1) (fn 2)) 2)) + (fdiv (((fr 2) + ((bodyr fM0 fM1 fM2 (fn 0) (fn 1) (fn 2)) 2)) * ((fC 2).toInt64)) 1000000)) + ((fB 2).toInt64)) + ((fdivI ((fL 2) * (tp - 25)) 10).toInt64)), .int 2, .ref a5]) ⟨hx, hb, hml, hown, hts⟩ (c_X7_drawNoise l D k H.size h a0 a1 a2 a3 a4 a5 a6 a7 tp (nxs (nxs sd (fN 0)) (fN 1)) (fN 2) (hno 2 (by decide))) (cwV 1 hts gX7_senseRates_X7_drawNoise rfl rfl rfl (by decide +kernel) ⟨Nat.le_of_ble_eq_true rfl, Nat.le_of_ble_eq_true rfl⟩) (z_preV (wc := [(h, .inr (6, [.ref a0, .ref a1, .ref a2, .ref a3, .ref a4, .ref a5, .ref a6, .ref a7, .int tp, .int (nxs (nxs sd (fN 0)) (fN 1))]))]) 12 6 hP hD hK [12] rfl rfl rfl rfl zb0 zp0) rfl rfl hl.1 rfl (lv_room (Nat.le_of_ble_eq_true rfl)) dX7_senseRates_97 ⟨Nat.zero_le _, Nat.zero_le _⟩) hP hD hS hA [12] [0, 1, 2, 3, 4, 5, 6, 7, 8, 9, 10, 11] rfl rfl rfl (by decide) (fun w H locs hF hP hD hS => ?_)
  subst hF
  have hP : va_P D vwCl [(a0, zaI k 3 fB), (a1, zaI k 3 fC), (a2, zaI k 3 fN), (a3, zaI k 3 fL), (a5, zaJ k 3 (vp_updL (vp_updL fG 0 x_1) 1 x_2)), (hr2, zaJ k 3 fr), (g, .inr (0, [.ref gp, .ref gs, .ref gi, .ref gr, .ref gm])), (gm, zaG k 3 (gr3 r0 r1 r2)), (r0, zaJ k 3 fM0), (r1, zaJ k 3 fM1), (r2, zaJ k 3 fM2), (a7, zaJ k 3 (bodyr fM0 fM1 fM2 (fn 0) (fn 1) (fn 2))), (h, .inr (6, [.ref a0, .ref a1, .ref a2, .ref a3, .ref a4, .ref a5, .ref a6, .ref a7, .int tp, .int (nxs (nxs (nxs sd (fN 0)) (fN 1)) (fN 2))]))] H := hP
  have hD : va_D A [(a0, zaI k 3 fB), (a1, zaI k 3 fC), (a2, zaI k 3 fN), (a3, zaI k 3 fL), (a5, zaJ k 3 (vp_updL (vp_updL fG 0 x_1) 1 x_2)), (hr2, zaJ k 3 fr), (g, .inr (0, [.ref gp, .ref gs, .ref gi, .ref gr, .ref gm])), (gm, zaG k 3 (gr3 r0 r1 r2)), (r0, zaJ k 3 fM0), (r1, zaJ k 3 fM1), (r2, zaJ k 3 fM2), (a7, zaJ k 3 (bodyr fM0 fM1 fM2 (fn 0) (fn 1) (fn 2))), (h, .inr (6, [.ref a0, .ref a1, .ref a2, .ref a3, .ref a4, .ref a5, .ref a6, .ref a7, .int tp, .int (nxs (nxs (nxs sd (fN 0)) (fN 1)) (fN 2))]))] := hD
  refine lv_i2l (v := (drw (nxs (nxs sd (fN 0)) (fN 1)) (fN 2)).toInt64) hx hb dX7_senseRates_100 rfl ?_
  refine lv_ladd hx hb dX7_senseRates_101 ?_
  refine lv_topl (fun x_3 ex_3 => ?_)
  refine z_last hx hb hK hP hD hS 4 rfl 2 zx2 (by decide) (ws' := [(a0, zaI k 3 fB), (a1, zaI k 3 fC), (a2, zaI k 3 fN), (a3, zaI k 3 fL), (a5, zaJ k 3 (vp_updL (vp_updL (vp_updL fG 0 x_1) 1 x_2) 2 x_3)), (hr2, zaJ k 3 fr), (g, .inr (0, [.ref gp, .ref gs, .ref gi, .ref gr, .ref gm])), (gm, zaG k 3 (gr3 r0 r1 r2)), (r0, zaJ k 3 fM0), (r1, zaJ k 3 fM1), (r2, zaJ k 3 fM2), (a7, zaJ k 3 (bodyr fM0 fM1 fM2 (fn 0) (fn 1) (fn 2))), (h, .inr (6, [.ref a0, .ref a1, .ref a2, .ref a3, .ref a4, .ref a5, .ref a6, .ref a7, .int tp, .int (nxs (nxs (nxs sd (fN 0)) (fN 1)) (fN 2))]))]) rfl dX7_senseRates_102 (fun H locs hP hD hS => ?_)
  refine lv_iinc (v := 3) (lv' := [(4, .int 3), (5, .long ((fr 2) + ((bodyr fM0 fM1 fM2 (fn 0) (fn 1) (fn 2)) 2))), (0, .ref h), (1, .ref hr2), (2, .ref nav), (3, .ref g)]) hx hb dX7_senseRates_103 hl (k := 1) rfl (by decide) (by decide) rfl (fun ls hl => ?_)
  refine lv_goto (tgt := 12) hx hb dX7_senseRates_106 (by decide) ?_
  refine lv_iload hx hb dX7_senseRates_12 (lv_at hl 0 rfl) ?_
  refine lv_iconst (v := 3) hx hb dX7_senseRates_14 (by decide) ?_
  refine lv_icmp_ge (tgt := 109) hx hb dX7_senseRates_15 (by decide) (fun _ => ?_) (fun c => absurd (by decide) c)
  have hP := z_congO hP 12 rfl (fs2 := [.ref a0, .ref a1, .ref a2, .ref a3, .ref a4, .ref a5, .ref a6, .ref a7, .int tp, .int (nx3 fN sd)]) (by (first | (simp only [ex_1, ex_2, ex_3]; done) | (simp only [ex_1, ex_2, ex_3]; rfl) | rfl)) (ws' := [(a0, zaI k 3 fB), (a1, zaI k 3 fC), (a2, zaI k 3 fN), (a3, zaI k 3 fL), (a5, zaJ k 3 (vp_updL (vp_updL (vp_updL fG 0 x_1) 1 x_2) 2 x_3)), (hr2, zaJ k 3 fr), (g, .inr (0, [.ref gp, .ref gs, .ref gi, .ref gr, .ref gm])), (gm, zaG k 3 (gr3 r0 r1 r2)), (r0, zaJ k 3 fM0), (r1, zaJ k 3 fM1), (r2, zaJ k 3 fM2), (a7, zaJ k 3 (bodyr fM0 fM1 fM2 (fn 0) (fn 1) (fn 2))), (h, .inr (6, [.ref a0, .ref a1, .ref a2, .ref a3, .ref a4, .ref a5, .ref a6, .ref a7, .int tp, .int (nx3 fN sd)]))]) rfl
  have hD := z_congDO hD 12 rfl (fs2 := [.ref a0, .ref a1, .ref a2, .ref a3, .ref a4, .ref a5, .ref a6, .ref a7, .int tp, .int (nx3 fN sd)]) (ws' := [(a0, zaI k 3 fB), (a1, zaI k 3 fC), (a2, zaI k 3 fN), (a3, zaI k 3 fL), (a5, zaJ k 3 (vp_updL (vp_updL (vp_updL fG 0 x_1) 1 x_2) 2 x_3)), (hr2, zaJ k 3 fr), (g, .inr (0, [.ref gp, .ref gs, .ref gi, .ref gr, .ref gm])), (gm, zaG k 3 (gr3 r0 r1 r2)), (r0, zaJ k 3 fM0), (r1, zaJ k 3 fM1), (r2, zaJ k 3 fM2), (a7, zaJ k 3 (bodyr fM0 fM1 fM2 (fn 0) (fn 1) (fn 2))), (h, .inr (6, [.ref a0, .ref a1, .ref a2, .ref a3, .ref a4, .ref a5, .ref a6, .ref a7, .int tp, .int (nx3 fN sd)]))]) rfl
  have hP := z_congJ hP 4 rfl (g := gyrv fr (bodyr fM0 fM1 fM2 (fn 0) (fn 1) (fn 2)) fC fB fL fN tp sd) (zall3 (by (first | (simp only [ex_1, ex_2, ex_3]; done) | (simp only [ex_1, ex_2, ex_3]; rfl) | rfl)) (by (first | (simp only [ex_1, ex_2, ex_3]; done) | (simp only [ex_1, ex_2, ex_3]; rfl) | rfl)) (by (first | (simp only [ex_1, ex_2, ex_3]; done) | (simp only [ex_1, ex_2, ex_3]; rfl) | rfl))) (ws' := [(a0, zaI k 3 fB), (a1, zaI k 3 fC), (a2, zaI k 3 fN), (a3, zaI k 3 fL), (a5, zaJ k 3 (gyrv fr (bodyr fM0 fM1 fM2 (fn 0) (fn 1) (fn 2)) fC fB fL fN tp sd)), (hr2, zaJ k 3 fr), (g, .inr (0, [.ref gp, .ref gs, .ref gi, .ref gr, .ref gm])), (gm, zaG k 3 (gr3 r0 r1 r2)), (r0, zaJ k 3 fM0), (r1, zaJ k 3 fM1), (r2, zaJ k 3 fM2), (a7, zaJ k 3 (bodyr fM0 fM1 fM2 (fn 0) (fn 1) (fn 2))), (h, .inr (6, [.ref a0, .ref a1, .ref a2, .ref a3, .ref a4, .ref a5, .ref a6, .ref a7, .int tp, .int (nx3 fN sd)]))]) rfl
  have hD := z_congDJ hD 4 rfl (g := gyrv fr (bodyr fM0 fM1 fM2 (fn 0) (fn 1) (fn 2)) fC fB fL fN tp sd) (ws' := [(a0, zaI k 3 fB), (a1, zaI k 3 fC), (a2, zaI k 3 fN), (a3, zaI k 3 fL), (a5, zaJ k 3 (gyrv fr (bodyr fM0 fM1 fM2 (fn 0) (fn 1) (fn 2)) fC fB fL fN tp sd)), (hr2, zaJ k 3 fr), (g, .inr (0, [.ref gp, .ref gs, .ref gi, .ref gr, .ref gm])), (gm, zaG k 3 (gr3 r0 r1 r2)), (r0, zaJ k 3 fM0), (r1, zaJ k 3 fM1), (r2, zaJ k 3 fM2), (a7, zaJ k 3 (bodyr fM0 fM1 fM2 (fn 0) (fn 1) (fn 2))), (h, .inr (6, [.ref a0, .ref a1, .ref a2, .ref a3, .ref a4, .ref a5, .ref a6, .ref a7, .int tp, .int (nx3 fN sd)]))]) rfl
  have hP9 := hP.sub (ws' := [(h, .inr (6, [.ref a0, .ref a1, .ref a2, .ref a3, .ref a4, .ref a5, .ref a6, .ref a7, .int tp, .int (nx3 fN sd)])), (a0, zaI k 3 fB), (a1, zaI k 3 fC), (a2, zaI k 3 fN), (a3, zaI k 3 fL), (a5, zaJ k 3 (gyrv fr (bodyr fM0 fM1 fM2 (fn 0) (fn 1) (fn 2)) fC fB fL fN tp sd)), (a7, zaJ k 3 (bodyr fM0 fM1 fM2 (fn 0) (fn 1) (fn 2))), (hr2, zaJ k 3 fr), (g, .inr (0, [.ref gp, .ref gs, .ref gi, .ref gr, .ref gm])), (gm, zaG k 3 (gr3 r0 r1 r2)), (r0, zaJ k 3 fM0), (r1, zaJ k 3 fM1), (r2, zaJ k 3 fM2)]) [12, 0, 1, 2, 3, 4, 11, 5, 6, 7, 8, 9, 10] rfl
  have hD9 := hD.sub (ws' := [(h, .inr (6, [.ref a0, .ref a1, .ref a2, .ref a3, .ref a4, .ref a5, .ref a6, .ref a7, .int tp, .int (nx3 fN sd)])), (a0, zaI k 3 fB), (a1, zaI k 3 fC), (a2, zaI k 3 fN), (a3, zaI k 3 fL), (a5, zaJ k 3 (gyrv fr (bodyr fM0 fM1 fM2 (fn 0) (fn 1) (fn 2)) fC fB fL fN tp sd)), (a7, zaJ k 3 (bodyr fM0 fM1 fM2 (fn 0) (fn 1) (fn 2))), (hr2, zaJ k 3 fr), (g, .inr (0, [.ref gp, .ref gs, .ref gi, .ref gr, .ref gm])), (gm, zaG k 3 (gr3 r0 r1 r2)), (r0, zaJ k 3 fM0), (r1, zaJ k 3 fM1), (r2, zaJ k 3 fM2)]) [12, 0, 1, 2, 3, 4, 11, 5, 6, 7, 8, 9, 10] (by decide) rfl
  exact W.vret hx hb hr (fun t9 ht9 hW9 => ⟨⟨[(h, .inr (6, [.ref a0, .ref a1, .ref a2, .ref a3, .ref a4, .ref a5, .ref a6, .ref a7, .int tp, .int (nx3 fN sd)])), (a0, zaI k 3 fB), (a1, zaI k 3 fC), (a2, zaI k 3 fN), (a3, zaI k 3 fL), (a5, zaJ k 3 (gyrv fr (bodyr fM0 fM1 fM2 (fn 0) (fn 1) (fn 2)) fC fB fL fN tp sd)), (a7, zaJ k 3 (bodyr fM0 fM1 fM2 (fn 0) (fn 1) (fn 2))), (hr2, zaJ k 3 fr), (g, .inr (0, [.ref gp, .ref gs, .ref gi, .ref gr, .ref gm])), (gm, zaG k 3 (gr3 r0 r1 r2)), (r0, zaJ k 3 fM0), (r1, zaJ k 3 fM1), (r2, zaJ k 3 fM2)], rfl, ⟨(bodyr fM0 fM1 fM2 (fn 0) (fn 1) (fn 2)), rfl⟩, by rw [ht9]; exact hP9, hD9⟩, hS.F ht9⟩) hS.2.2 dX7_senseRates_109
set_option maxHeartbeats 4000000 in
set_option maxRecDepth 100000 in
theorem c_X7_senseGravity (l : Launch) (D : va_G) (k : Nat → ClassId) (sz : Nat) (h a0 a1 a2 a3 a4 a5 a6 a7 : Nat) (up g gp gs gi gr gm r0 r1 r2 : Nat) (fA : Nat → Int32) (fR fW fM0 fM1 fM2 : Nat → Int64)  (tp sd : Int32) : Met l yX7_senseGravity wsX7_senseGravity ({ frames := 3, cells := 0, slots := 0, locals := 70 } : Room) (va_Pc [.ref h, .ref g] (zPre D k [(h, .inr (6, [.ref a0, .ref a1, .ref a2, .ref a3, .ref a4, .ref a5, .ref a6, .ref a7, .int tp, .int sd])), (a4, zaI k 3 fA), (a6, zaJ k 3 fR), (a7, zaJ k 3 fW), (g, .inr (0, [.ref gp, .ref gs, .ref gi, .ref gr, .ref gm])), (gm, zaG k 3 (gr3 r0 r1 r2)), (r0, zaJ k 3 fM0), (r1, zaJ k 3 fM1), (r2, zaJ k 3 fM2)] sz (zE0 up (va_A [(h, .inr (6, [.ref a0, .ref a1, .ref a2, .ref a3, .ref a4, .ref a5, .ref a6, .ref a7, .int tp, .int sd])), (a4, zaI k 3 fA), (a6, zaJ k 3 fR), (a7, zaJ k 3 fW), (g, .inr (0, [.ref gp, .ref gs, .ref gi, .ref gr, .ref gm])), (gm, zaG k 3 (gr3 r0 r1 r2)), (r0, zaJ k 3 fM0), (r1, zaJ k 3 fM1), (r2, zaJ k 3 fM2)] sz)))) (zQv D [(h, .inr (6, [.ref a0, .ref a1, .ref a2, .ref a3, .ref a4, .ref a5, .ref a6, .ref a7, .int tp, .int sd])), (a4, zaI k 3 fA), (a6, zaJ k 3 fR), (a7, zaJ k 3 fW), (g, .inr (0, [.ref gp, .ref gs, .ref gi, .ref gr, .ref gm])), (gm, zaG k 3 (gr3 r0 r1 r2)), (r0, zaJ k 3 fM0), (r1, zaJ k 3 fM1), (r2, zaJ k 3 fM2)] sz (fun w : va_W => ∃ (fW2 : Nat → Int64), w = [(h, .inr (6, [.ref a0, .ref a1, .ref a2, .ref a3, .ref a4, .ref a5, .ref a6, .ref a7, .int tp, .int sd])), (a4, zaI k 3 fA), (a6, zaJ k 3 (frc (bodyr fM0 fM1 fM2 0 0 (-268435456)) fA)), (a7, zaJ k 3 fW2), (g, .inr (0, [.ref gp, .ref gs, .ref gi, .ref gr, .ref gm])), (gm, zaG k 3 (gr3 r0 r1 r2)), (r0, zaJ k 3 fM0), (r1, zaJ k 3 fM1), (r2, zaJ k 3 fM2)])) 0 0 (va_A [(h, .inr (6, [.ref a0, .ref a1, .ref a2, .ref a3, .ref a4, .ref a5, .ref a6, .ref a7, .int tp, .int sd])), (a4, zaI k 3 fA), (a6, zaJ k 3 fR), (a7, zaJ k 3 fW), (g, .inr (0, [.ref gp, .ref gs, .ref gi, .ref gr, .ref gm])), (gm, zaG k 3 (gr3 r0 r1 r2)), (r0, zaJ k 3 fM0), (r1, zaJ k 3 fM1), (r2, zaJ k 3 fM2)] sz) := by
  refine Met.ofW (cc := cX7_senseGravity) (maxL := 3) (ret := none) (by decide) rfl ?_
  intro p e s m args below meth c s₁ B hml hv
  obtain ⟨rfl, hsz, hP, hK, hD0, hE⟩ := hv
  have hx := B.exec
  have hb := B.bytes
  have hr := B.returns
  have hts := atoms_spec (ws := wsX7_senseGravity) B.pre
  have hown : s.vm.findClass RX7 = some m.cls := findClass_of_methodNamed B.named
  have hlocks := B.notSynchronized
  subst hsz
  have hD := hD0.self (sz := s.heap.size)
  delta zQv zB
  generalize hAe : va_A [(h, .inr (6, [.ref a0, .ref a1, .ref a2, .ref a3, .ref a4, .ref a5, .ref a6, .ref a7, .int tp, .int sd])), (a4, zaI k 3 fA), (a6, zaJ k 3 fR), (a7, zaJ k 3 fW), (g, .inr (0, [.ref gp, .ref gs, .ref gi, .ref gr, .ref gm])), (gm, zaG k 3 (gr3 r0 r1 r2)), (r0, zaJ k 3 fM0), (r1, zaJ k 3 fM1), (r2, zaJ k 3 fM2)] s.heap.size = A at hD hE ⊢
  have hA : ∀ q : Nat, s.heap.size ≤ q → A q := fun q h => by rw [← hAe]; exact Or.inr h
  have hS : va_S A s.heap s.heap [] := va_S.rf
  have hl := lv_entry [.ref h, .ref g] (n := 3) (Nat.le_of_ble_eq_true rfl)
  rw [lg_entry_eq]
  generalize (lg_sl [.ref h, .ref g] ++ List.replicate (3 - (lg_sl [.ref h, .ref g]).length) Slot.unset).toArray = ls at hl ⊢
  have hl : lv_has ls 3 [(0, .ref h), (1, .ref g)] := hl
  have hl81 : (Cond.fieldLinkNest RX7 81 "InertialReference" "UPWARD" "[J" "InertialReference").before #[Value.ref h, Value.ref g] s = true := va_Nw.use rfl (zn_RX7_81 hE.1)
  have hl34 : (Cond.fieldLink RX7 34 "InertialReference$Sensors" "inBody" "[J").before #[Value.ref h, Value.ref g] s = true := zw hts 1 rfl
  have hinX7 : ∀ w ∈ u_ws RX7 TX7 10, w ∈ wsX7_senseGravity := fun w h => List.mem_cons_of_mem _ (List.mem_append_left _ (List.mem_append_right _ h))
  have hl31 : (Cond.fieldLink RX7 31 "InertialReference$Sensors" "accelerometerReadings" "[J").before #[Value.ref h, Value.ref g] s = true := zw hts 2 rfl
  have hl24 : (Cond.fieldLink RX7 24 "InertialReference$Sensors" "accelerometerBias" "[I").before #[Value.ref h, Value.ref g] s = true := zw hts 3 rfl
  refine lv_aload_n hx hb dX7_senseGravity_0 rfl (lv_at hl 1 rfl) ?_
  refine va_getsN hx hb hE.2.1 hS hown hl81 (fun _ h9 => h9) dX7_senseGravity_1 ?_
  refine lv_aload_n hx hb dX7_senseGravity_4 rfl (lv_at hl 0 rfl) ?_
  refine va_get (D := D) (ci := 6) (v := .ref a7) (C := RX7) (T := TX7) (N := 10) hx hb hts hinX7 hown hK hP 0 rfl rfl 7 (Nat.le_of_ble_eq_true rfl) hl34 (fun _ h9 => h9) rfl dX7_senseGravity_5 ?_
  refine z_callv0 (wc := [(g, .inr (0, [.ref gp, .ref gs, .ref gi, .ref gr, .ref gm])), (gm, zaG k 3 (gr3 r0 r1 r2)), (r0, zaJ k 3 fM0), (r1, zaJ k 3 fM1), (r2, zaJ k 3 fM2), (a7, zaJ k 3 fW)]) (wr := [(h, .inr (6, [.ref a0, .ref a1, .ref a2, .ref a3, .ref a4, .ref a5, .ref a6, .ref a7, .int tp, .int sd])), (a4, zaI k 3 fA), (a6, zaJ k 3 fR)]) (va_runV (As := [.ref up, .ref a7]) (rest := []) ⟨hx, hb, hml, hown, hts⟩ (c_X0_turnIntoBody l D k s.heap.size g gp gs gi gr gm r0 r1 r2 up a7 fM0 fM1 fM2 zUp fW) (cwV 2 hts gX7_senseGravity_X0_turnIntoBody rfl rfl rfl (by decide +kernel) ⟨Nat.le_of_ble_eq_true rfl, Nat.le_of_ble_eq_true rfl⟩) (z_preV (wc := [(g, .inr (0, [.ref gp, .ref gs, .ref gi, .ref gr, .ref gm])), (gm, zaG k 3 (gr3 r0 r1 r2)), (r0, zaJ k 3 fM0), (r1, zaJ k 3 fM1), (r2, zaJ k 3 fM2), (a7, zaJ k 3 fW)]) 4 0 hP hD hK [4, 5, 6, 7, 8, 3] rfl rfl rfl rfl zTbb (zTp (hE).2.2 hS (va_free hD hS hA [4, 5, 6, 7, 8, 3] (wc := [(g, .inr (0, [.ref gp, .ref gs, .ref gi, .ref gr, .ref gm])), (gm, zaG k 3 (gr3 r0 r1 r2)), (r0, zaJ k 3 fM0), (r1, zaJ k 3 fM1), (r2, zaJ k 3 fM2), (a7, zaJ k 3 fW)]) rfl))) rfl rfl hl.1 rfl (lv_room (Nat.le_of_ble_eq_true rfl)) dX7_senseGravity_8 ⟨Nat.zero_le _, Nat.zero_le _⟩) hP hD hS hA [4, 5, 6, 7, 8, 3] [0, 1, 2] rfl rfl rfl (by decide) (fun w H locs hF hP hD hS => ?_)
  subst hF
  have hP : va_P D vwCl [(h, .inr (6, [.ref a0, .ref a1, .ref a2, .ref a3, .ref a4, .ref a5, .ref a6, .ref a7, .int tp, .int sd])), (a4, zaI k 3 fA), (a6, zaJ k 3 fR), (g, .inr (0, [.ref gp, .ref gs, .ref gi, .ref gr, .ref gm])), (gm, zaG k 3 (gr3 r0 r1 r2)), (r0, zaJ k 3 fM0), (r1, zaJ k 3 fM1), (r2, zaJ k 3 fM2), (a7, zaJ k 3 (bodyr fM0 fM1 fM2 (zUp 0) (zUp 1) (zUp 2)))] H := hP
  have hD : va_D A [(h, .inr (6, [.ref a0, .ref a1, .ref a2, .ref a3, .ref a4, .ref a5, .ref a6, .ref a7, .int tp, .int sd])), (a4, zaI k 3 fA), (a6, zaJ k 3 fR), (g, .inr (0, [.ref gp, .ref gs, .ref gi, .ref gr, .ref gm])), (gm, zaG k 3 (gr3 r0 r1 r2)), (r0, zaJ k 3 fM0), (r1, zaJ k 3 fM1), (r2, zaJ k 3 fM2), (a7, zaJ k 3 (bodyr fM0 fM1 fM2 (zUp 0) (zUp 1) (zUp 2)))] := hD
  refine lv_iconst (v := 0) hx hb dX7_senseGravity_11 (by decide) ?_
  refine lv_istore_n (lv' := [(2, .int 0), (0, .ref h), (1, .ref g)]) hx hb dX7_senseGravity_12 rfl hl (by decide) rfl (fun ls hl => ?_)
  refine lv_iload_n hx hb dX7_senseGravity_13 rfl (lv_at hl 0 rfl) ?_
  refine lv_iconst (v := 3) hx hb dX7_senseGravity_14 (by decide) ?_
  refine lv_icmp_ge (tgt := 44) hx hb dX7_senseGravity_15 (by decide) (fun c => absurd c (by decide)) (fun _ => ?_)
  refine lv_aload_n hx hb dX7_senseGravity_18 rfl (lv_at hl 1 rfl) ?_
  refine va_get (D := D) (ci := 6) (v := .ref a6) (C := RX7) (T := TX7) (N := 10) hx hb hts hinX7 hown hK hP 0 rfl rfl 6 (Nat.le_of_ble_eq_true rfl) hl31 (fun _ h9 => h9) rfl dX7_senseGravity_19 ?_
  refine lv_iload_n hx hb dX7_senseGravity_22 rfl (lv_at hl 0 rfl) ?_
  refine lv_aload_n hx hb dX7_senseGravity_23 rfl (lv_at hl 1 rfl) ?_
  refine va_get (D := D) (ci := 6) (v := .ref a7) (C := RX7) (T := TX7) (N := 10) hx hb hts hinX7 hown hK hP 0 rfl rfl 7 (Nat.le_of_ble_eq_true rfl) hl34 (fun _ h9 => h9) rfl dX7_senseGravity_24 ?_
  refine lv_iload_n hx hb dX7_senseGravity_27 rfl (lv_at hl 0 rfl) ?_
  refine z_lald hx hb hK hP 8 rfl 0 zx0 (by decide) (v := (bodyr fM0 fM1 fM2 (zUp 0) (zUp 1) (zUp 2)) 0) rfl dX7_senseGravity_28 ?_
  refine lv_aload_n hx hb dX7_senseGravity_29 rfl (lv_at hl 1 rfl) ?_
  refine va_get (D := D) (ci := 6) (v := .ref a4) (C := RX7) (T := TX7) (N := 10) hx hb hts hinX7 hown hK hP 0 rfl rfl 4 (Nat.le_of_ble_eq_true rfl) hl24 (fun _ h9 => h9) rfl dX7_senseGravity_30 ?_
  refine lv_iload_n hx hb dX7_senseGravity_33 rfl (lv_at hl 0 rfl) ?_
  refine z_iald hx hb hK hP 1 rfl 0 zx0 (by decide) (v := fA 0) rfl dX7_senseGravity_34 ?_
  refine lv_i2l (v := (fA 0).toInt64) hx hb dX7_senseGravity_35 rfl ?_
  refine lv_ladd hx hb dX7_senseGravity_36 ?_
  refine z_last hx hb hK hP hD hS 2 rfl 0 zx0 (by decide) (ws' := [(h, .inr (6, [.ref a0, .ref a1, .ref a2, .ref a3, .ref a4, .ref a5, .ref a6, .ref a7, .int tp, .int sd])), (a4, zaI k 3 fA), (a6, zaJ k 3 (vp_updL fR 0 (((bodyr fM0 fM1 fM2 (zUp 0) (zUp 1) (zUp 2)) 0) + ((fA 0).toInt64)))), (g, .inr (0, [.ref gp, .ref gs, .ref gi, .ref gr, .ref gm])), (gm, zaG k 3 (gr3 r0 r1 r2)), (r0, zaJ k 3 fM0), (r1, zaJ k 3 fM1), (r2, zaJ k 3 fM2), (a7, zaJ k 3 (bodyr fM0 fM1 fM2 (zUp 0) (zUp 1) (zUp 2)))]) rfl dX7_senseGravity_37 (fun H locs hP hD hS => ?_)
  refine lv_iinc (v := 1) (lv' := [(2, .int 1), (0, .ref h), (1, .ref g)]) hx hb dX7_senseGravity_38 hl (k := 0) rfl (by decide) (by decide) rfl (fun ls hl => ?_)
  refine lv_goto (tgt := 13) hx hb dX7_senseGravity_41 (by decide) ?_
  refine lv_iload_n hx hb dX7_senseGravity_13 rfl (lv_at hl 0 rfl) ?_
  refine lv_iconst (v := 3) hx hb dX7_senseGravity_14 (by decide) ?_
  refine lv_icmp_ge (tgt := 44) hx hb dX7_senseGravity_15 (by decide) (fun c => absurd c (by decide)) (fun _ => ?_)
  refine lv_aload_n hx hb dX7_senseGravity_18 rfl (lv_at hl 1 rfl) ?_
  refine va_get (D := D) (ci := 6) (v := .ref a6) (C := RX7) (T := TX7) (N := 10) hx hb hts hinX7 hown hK hP 0 rfl rfl 6 (Nat.le_of_ble_eq_true rfl) hl31 (fun _ h9 => h9) rfl dX7_senseGravity_19 ?_
  refine lv_iload_n hx hb dX7_senseGravity_22 rfl (lv_at hl 0 rfl) ?_
  refine lv_aload_n hx hb dX7_senseGravity_23 rfl (lv_at hl 1 rfl) ?_
  refine va_get (D := D) (ci := 6) (v := .ref a7) (C := RX7) (T := TX7) (N := 10) hx hb hts hinX7 hown hK hP 0 rfl rfl 7 (Nat.le_of_ble_eq_true rfl) hl34 (fun _ h9 => h9) rfl dX7_senseGravity_24 ?_
  refine lv_iload_n hx hb dX7_senseGravity_27 rfl (lv_at hl 0 rfl) ?_
  refine z_lald hx hb hK hP 8 rfl 1 zx1 (by decide) (v := (bodyr fM0 fM1 fM2 (zUp 0) (zUp 1) (zUp 2)) 1) rfl dX7_senseGravity_28 ?_
  refine lv_aload_n hx hb dX7_senseGravity_29 rfl (lv_at hl 1 rfl) ?_
  refine va_get (D := D) (ci := 6) (v := .ref a4) (C := RX7) (T := TX7) (N := 10) hx hb hts hinX7 hown hK hP 0 rfl rfl 4 (Nat.le_of_ble_eq_true rfl) hl24 (fun _ h9 => h9) rfl dX7_senseGravity_30 ?_
  refine lv_iload_n hx hb dX7_senseGravity_33 rfl (lv_at hl 0 rfl) ?_
  refine z_iald hx hb hK hP 1 rfl 1 zx1 (by decide) (v := fA 1) rfl dX7_senseGravity_34 ?_
  refine lv_i2l (v := (fA 1).toInt64) hx hb dX7_senseGravity_35 rfl ?_
  refine lv_ladd hx hb dX7_senseGravity_36 ?_
  refine z_last hx hb hK hP hD hS 2 rfl 1 zx1 (by decide) (ws' := [(h, .inr (6, [.ref a0, .ref a1, .ref a2, .ref a3, .ref a4, .ref a5, .ref a6, .ref a7, .int tp, .int sd])), (a4, zaI k 3 fA), (a6, zaJ k 3 (vp_updL (vp_updL fR 0 (((bodyr fM0 fM1 fM2 (zUp 0) (zUp 1) (zUp 2)) 0) + ((fA 0).toInt64))) 1 (((bodyr fM0 fM1 fM2 (zUp 0) (zUp 1) (zUp 2)) 1) + ((fA 1).toInt64)))), (g, .inr (0, [.ref gp, .ref gs, .ref gi, .ref gr, .ref gm])), (gm, zaG k 3 (gr3 r0 r1 r2)), (r0, zaJ k 3 fM0), (r1, zaJ k 3 fM1), (r2, zaJ k 3 fM2), (a7, zaJ k 3 (bodyr fM0 fM1 fM2 (zUp 0) (zUp 1) (zUp 2)))]) rfl dX7_senseGravity_37 (fun H locs hP hD hS => ?_)
  refine lv_iinc (v := 2) (lv' := [(2, .int 2), (0, .ref h), (1, .ref g)]) hx hb dX7_senseGravity_38 hl (k := 0) rfl (by decide) (by decide) rfl (fun ls hl => ?_)
  refine lv_goto (tgt := 13) hx hb dX7_senseGravity_41 (by decide) ?_
  refine lv_iload_n hx hb dX7_senseGravity_13 rfl (lv_at hl 0 rfl) ?_
  refine lv_iconst (v := 3) hx hb dX7_senseGravity_14 (by decide) ?_
  refine lv_icmp_ge (tgt := 44) hx hb dX7_senseGravity_15 (by decide) (fun c => absurd c (by decide)) (fun _ => ?_)
  refine lv_aload_n hx hb dX7_senseGravity_18 rfl (lv_at hl 1 rfl) ?_
  refine va_get (D := D) (ci := 6) (v := .ref a6) (C := RX7) (T := TX7) (N := 10) hx hb hts hinX7 hown hK hP 0 rfl rfl 6 (Nat.le_of_ble_eq_true rfl) hl31 (fun _ h9 => h9) rfl dX7_senseGravity_19 ?_
  refine lv_iload_n hx hb dX7_senseGravity_22 rfl (lv_at hl 0 rfl) ?_
  refine lv_aload_n hx hb dX7_senseGravity_23 rfl (lv_at hl 1 rfl) ?_
  refine va_get (D := D) (ci := 6) (v := .ref a7) (C := RX7) (T := TX7) (N := 10) hx hb hts hinX7 hown hK hP 0 rfl rfl 7 (Nat.le_of_ble_eq_true rfl) hl34 (fun _ h9 => h9) rfl dX7_senseGravity_24 ?_
  refine lv_iload_n hx hb dX7_senseGravity_27 rfl (lv_at hl 0 rfl) ?_
  refine z_lald hx hb hK hP 8 rfl 2 zx2 (by decide) (v := (bodyr fM0 fM1 fM2 (zUp 0) (zUp 1) (zUp 2)) 2) rfl dX7_senseGravity_28 ?_
  refine lv_aload_n hx hb dX7_senseGravity_29 rfl (lv_at hl 1 rfl) ?_
  refine va_get (D := D) (ci := 6) (v := .ref a4) (C := RX7) (T := TX7) (N := 10) hx hb hts hinX7 hown hK hP 0 rfl rfl 4 (Nat.le_of_ble_eq_true rfl) hl24 (fun _ h9 => h9) rfl dX7_senseGravity_30 ?_
  refine lv_iload_n hx hb dX7_senseGravity_33 rfl (lv_at hl 0 rfl) ?_
  refine z_iald hx hb hK hP 1 rfl 2 zx2 (by decide) (v := fA 2) rfl dX7_senseGravity_34 ?_
  refine lv_i2l (v := (fA 2).toInt64) hx hb dX7_senseGravity_35 rfl ?_
  refine lv_ladd hx hb dX7_senseGravity_36 ?_
  refine z_last hx hb hK hP hD hS 2 rfl 2 zx2 (by decide) (ws' := [(h, .inr (6, [.ref a0, .ref a1, .ref a2, .ref a3, .ref a4, .ref a5, .ref a6, .ref a7, .int tp, .int sd])), (a4, zaI k 3 fA), (a6, zaJ k 3 (vp_updL (vp_updL (vp_updL fR 0 (((bodyr fM0 fM1 fM2 (zUp 0) (zUp 1) (zUp 2)) 0) + ((fA 0).toInt64))) 1 (((bodyr fM0 fM1 fM2 (zUp 0) (zUp 1) (zUp 2)) 1) + ((fA 1).toInt64))) 2 (((bodyr fM0 fM1 fM2 (zUp 0) (zUp 1) (zUp 2)) 2) + ((fA 2).toInt64)))), (g, .inr (0, [.ref gp, .ref gs, .ref gi, .ref gr, .ref gm])), (gm, zaG k 3 (gr3 r0 r1 r2)), (r0, zaJ k 3 fM0), (r1, zaJ k 3 fM1), (r2, zaJ k 3 fM2), (a7, zaJ k 3 (bodyr fM0 fM1 fM2 (zUp 0) (zUp 1) (zUp 2)))]) rfl dX7_senseGravity_37 (fun H locs hP hD hS => ?_)
  refine lv_iinc (v := 3) (lv' := [(2, .int 3), (0, .ref h), (1, .ref g)]) hx hb dX7_senseGravity_38 hl (k := 0) rfl (by decide) (by decide) rfl (fun ls hl => ?_)
  refine lv_goto (tgt := 13) hx hb dX7_senseGravity_41 (by decide) ?_
  refine lv_iload_n hx hb dX7_senseGravity_13 rfl (lv_at hl 0 rfl) ?_
  refine lv_iconst (v := 3) hx hb dX7_senseGravity_14 (by decide) ?_
  refine lv_icmp_ge (tgt := 44) hx hb dX7_senseGravity_15 (by decide) (fun _ => ?_) (fun c => absurd (by decide) c)
  have hP := z_congJ hP 2 rfl (g := frc (bodyr fM0 fM1 fM2 0 0 (-268435456)) fA) (zall3 (by rfl) (by rfl) (by rfl)) (ws' := [(h, .inr (6, [.ref a0, .ref a1, .ref a2, .ref a3, .ref a4, .ref a5, .ref a6, .ref a7, .int tp, .int sd])), (a4, zaI k 3 fA), (a6, zaJ k 3 (frc (bodyr fM0 fM1 fM2 0 0 (-268435456)) fA)), (g, .inr (0, [.ref gp, .ref gs, .ref gi, .ref gr, .ref gm])), (gm, zaG k 3 (gr3 r0 r1 r2)), (r0, zaJ k 3 fM0), (r1, zaJ k 3 fM1), (r2, zaJ k 3 fM2), (a7, zaJ k 3 (bodyr fM0 fM1 fM2 (zUp 0) (zUp 1) (zUp 2)))]) rfl
  have hD := z_congDJ hD 2 rfl (g := frc (bodyr fM0 fM1 fM2 0 0 (-268435456)) fA) (ws' := [(h, .inr (6, [.ref a0, .ref a1, .ref a2, .ref a3, .ref a4, .ref a5, .ref a6, .ref a7, .int tp, .int sd])), (a4, zaI k 3 fA), (a6, zaJ k 3 (frc (bodyr fM0 fM1 fM2 0 0 (-268435456)) fA)), (g, .inr (0, [.ref gp, .ref gs, .ref gi, .ref gr, .ref gm])), (gm, zaG k 3 (gr3 r0 r1 r2)), (r0, zaJ k 3 fM0), (r1, zaJ k 3 fM1), (r2, zaJ k 3 fM2), (a7, zaJ k 3 (bodyr fM0 fM1 fM2 (zUp 0) (zUp 1) (zUp 2)))]) rfl
  have hP9 := hP.sub (ws' := [(h, .inr (6, [.ref a0, .ref a1, .ref a2, .ref a3, .ref a4, .ref a5, .ref a6, .ref a7, .int tp, .int sd])), (a4, zaI k 3 fA), (a6, zaJ k 3 (frc (bodyr fM0 fM1 fM2 0 0 (-268435456)) fA)), (a7, zaJ k 3 (bodyr fM0 fM1 fM2 (zUp 0) (zUp 1) (zUp 2))), (g, .inr (0, [.ref gp, .ref gs, .ref gi, .ref gr, .ref gm])), (gm, zaG k 3 (gr3 r0 r1 r2)), (r0, zaJ k 3 fM0), (r1, zaJ k 3 fM1), (r2, zaJ k 3 fM2)]) [0, 1, 2, 8, 3, 4, 5, 6, 7] rfl
  have hD9 := hD.sub (ws' := [(h, .inr (6, [.ref a0, .ref a1, .ref a2, .ref a3, .ref a4, .ref a5, .ref a6, .ref a7, .int tp, .int sd])), (a4, zaI k 3 fA), (a6, zaJ k 3 (frc (bodyr fM0 fM1 fM2 0 0 (-268435456)) fA)), (a7, zaJ k 3 (bodyr fM0 fM1 fM2 (zUp 0) (zUp 1) (zUp 2))), (g, .inr (0, [.ref gp, .ref gs, .ref gi, .ref gr, .ref gm])), (gm, zaG k 3 (gr3 r0 r1 r2)), (r0, zaJ k 3 fM0), (r1, zaJ k 3 fM1), (r2, zaJ k 3 fM2)]) [0, 1, 2, 8, 3, 4, 5, 6, 7] (by decide) rfl
  exact W.vret hx hb hr (fun t9 ht9 hW9 => ⟨⟨[(h, .inr (6, [.ref a0, .ref a1, .ref a2, .ref a3, .ref a4, .ref a5, .ref a6, .ref a7, .int tp, .int sd])), (a4, zaI k 3 fA), (a6, zaJ k 3 (frc (bodyr fM0 fM1 fM2 0 0 (-268435456)) fA)), (a7, zaJ k 3 (bodyr fM0 fM1 fM2 (zUp 0) (zUp 1) (zUp 2))), (g, .inr (0, [.ref gp, .ref gs, .ref gi, .ref gr, .ref gm])), (gm, zaG k 3 (gr3 r0 r1 r2)), (r0, zaJ k 3 fM0), (r1, zaJ k 3 fM1), (r2, zaJ k 3 fM2)], rfl, ⟨(bodyr fM0 fM1 fM2 (zUp 0) (zUp 1) (zUp 2)), rfl⟩, by rw [ht9]; exact hP9, hD9⟩, hS.F ht9⟩) hS.2.2 dX7_senseGravity_44
set_option maxHeartbeats 4000000 in
set_option maxRecDepth 100000 in
theorem c_X7_restore (l : Launch) (D : va_G) (k : Nat → ClassId) (sz : Nat) (h a0 a1 a2 a3 a4 a5 a6 a7 : Nat) (fB fC fN fL fA : Nat → Int32) (fG fR : Nat → Int64)  (tp sd : Int32) : Met l yX7_restore wsX7_restore ({ frames := 1, cells := 0, slots := 0, locals := 24 } : Room) (va_Pc [.ref h] (zPre D k [(h, .inr (6, [.ref a0, .ref a1, .ref a2, .ref a3, .ref a4, .ref a5, .ref a6, .ref a7, .int tp, .int sd])), (a0, zaI k 3 fB), (a1, zaI k 3 fC), (a2, zaI k 3 fN), (a3, zaI k 3 fL), (a4, zaI k 3 fA), (a5, zaJ k 3 fG), (a6, zaJ k 3 fR)] sz zX0)) (zQv D [(h, .inr (6, [.ref a0, .ref a1, .ref a2, .ref a3, .ref a4, .ref a5, .ref a6, .ref a7, .int tp, .int sd])), (a0, zaI k 3 fB), (a1, zaI k 3 fC), (a2, zaI k 3 fN), (a3, zaI k 3 fL), (a4, zaI k 3 fA), (a5, zaJ k 3 fG), (a6, zaJ k 3 fR)] sz (fun w : va_W => w = [(h, .inr (6, [.ref a0, .ref a1, .ref a2, .ref a3, .ref a4, .ref a5, .ref a6, .ref a7, .int 25, .int 0])), (a0, zaI k 3 (fun _ => 0)), (a1, zaI k 3 (fun _ => 0)), (a2, zaI k 3 (fun _ => 0)), (a3, zaI k 3 (fun _ => 0)), (a4, zaI k 3 (fun _ => 0)), (a5, zaJ k 3 (fun _ => 0)), (a6, zaJ k 3 (fun _ => 0))])) 0 0 (va_A [(h, .inr (6, [.ref a0, .ref a1, .ref a2, .ref a3, .ref a4, .ref a5, .ref a6, .ref a7, .int tp, .int sd])), (a0, zaI k 3 fB), (a1, zaI k 3 fC), (a2, zaI k 3 fN), (a3, zaI k 3 fL), (a4, zaI k 3 fA), (a5, zaJ k 3 fG), (a6, zaJ k 3 fR)] sz) := by
  refine Met.ofW (cc := cX7_restore) (maxL := 1) (ret := none) (by decide) rfl ?_
  intro p e s m args below meth c s₁ B hml hv
  obtain ⟨rfl, hsz, hP, hK, hD0, hE⟩ := hv
  have hx := B.exec
  have hb := B.bytes
  have hr := B.returns
  have hts := atoms_spec (ws := wsX7_restore) B.pre
  have hown : s.vm.findClass RX7 = some m.cls := findClass_of_methodNamed B.named
  have hlocks := B.notSynchronized
  subst hsz
  have hD := hD0.self (sz := s.heap.size)
  delta zQv zB
  generalize hAe : va_A [(h, .inr (6, [.ref a0, .ref a1, .ref a2, .ref a3, .ref a4, .ref a5, .ref a6, .ref a7, .int tp, .int sd])), (a0, zaI k 3 fB), (a1, zaI k 3 fC), (a2, zaI k 3 fN), (a3, zaI k 3 fL), (a4, zaI k 3 fA), (a5, zaJ k 3 fG), (a6, zaJ k 3 fR)] s.heap.size = A at hD hE ⊢
  have hA : ∀ q : Nat, s.heap.size ≤ q → A q := fun q h => by rw [← hAe]; exact Or.inr h
  have hS : va_S A s.heap s.heap [] := va_S.rf
  have hl := lv_entry [.ref h] (n := 1) (Nat.le_of_ble_eq_true rfl)
  rw [lg_entry_eq]
  generalize (lg_sl [.ref h] ++ List.replicate (1 - (lg_sl [.ref h]).length) Slot.unset).toArray = ls at hl ⊢
  have hl : lv_has ls 1 [(0, .ref h)] := hl
  have hl9 : (Cond.fieldLink RX7 9 "InertialReference$Sensors" "bias" "[I").before #[Value.ref h] s = true := zw hts 1 rfl
  have hinX7 : ∀ w ∈ u_ws RX7 TX7 10, w ∈ wsX7_restore := fun w h => List.mem_cons_of_mem _ (List.mem_append_right _ h)
  have hl15 : (Cond.fieldLink RX7 15 "InertialReference$Sensors" "scale" "[I").before #[Value.ref h] s = true := zw hts 2 rfl
  have hl18 : (Cond.fieldLink RX7 18 "InertialReference$Sensors" "noise" "[I").before #[Value.ref h] s = true := zw hts 3 rfl
  have hl21 : (Cond.fieldLink RX7 21 "InertialReference$Sensors" "slope" "[I").before #[Value.ref h] s = true := zw hts 4 rfl
  have hl24 : (Cond.fieldLink RX7 24 "InertialReference$Sensors" "accelerometerBias" "[I").before #[Value.ref h] s = true := zw hts 5 rfl
  have hl27 : (Cond.fieldLink RX7 27 "InertialReference$Sensors" "gyroReadings" "[J").before #[Value.ref h] s = true := zw hts 6 rfl
  have hl31 : (Cond.fieldLink RX7 31 "InertialReference$Sensors" "accelerometerReadings" "[J").before #[Value.ref h] s = true := zw hts 7 rfl
  have hl37 : (Cond.fieldLink RX7 37 "InertialReference$Sensors" "temperature" "I").before #[Value.ref h] s = true := zw hts 8 rfl
  have hl50 : (Cond.fieldLink RX7 50 "InertialReference$Sensors" "seed" "I").before #[Value.ref h] s = true := zw hts 9 rfl
  refine lv_aload_n hx hb dX7_restore_0 rfl (lv_at hl 0 rfl) ?_
  refine va_get (D := D) (ci := 6) (v := .ref a0) (C := RX7) (T := TX7) (N := 10) hx hb hts hinX7 hown hK hP 0 rfl rfl 0 (Nat.le_of_ble_eq_true rfl) hl9 (fun _ h9 => h9) rfl dX7_restore_1 ?_
  refine lv_iconst (v := 0) hx hb dX7_restore_4 (by decide) ?_
  refine z_callv0 (wc := [(a0, zaI k 3 fB)]) (wr := [(h, .inr (6, [.ref a0, .ref a1, .ref a2, .ref a3, .ref a4, .ref a5, .ref a6, .ref a7, .int tp, .int sd])), (a1, zaI k 3 fC), (a2, zaI k 3 fN), (a3, zaI k 3 fL), (a4, zaI k 3 fA), (a5, zaJ k 3 fG), (a6, zaJ k 3 fR)]) (va_runS (As := [.ref a0, .int 0]) (rest := []) ⟨hx, hb, hml, hown, hts⟩ (c_J7_fill_53178 l D k s.heap.size a0 3 fB 0 (by decide)) (va_cwS 2 hts gX7_restore_J7_fill_53178 rfl rfl rfl (by decide +kernel) ⟨Nat.le_of_ble_eq_true rfl, Nat.le_of_ble_eq_true rfl⟩) (z_preS (wc := [(a0, zaI k 3 fB)]) hP hD hK [1] rfl rfl zb0 zp0) rfl rfl hl.1 rfl (lv_room (Nat.le_of_ble_eq_true rfl)) dX7_restore_5 ⟨Nat.zero_le _, Nat.zero_le _⟩) hP hD hS hA [1] [0, 2, 3, 4, 5, 6, 7] rfl rfl rfl (by decide) (fun w H locs hF hP hD hS => ?_)
  subst hF
  have hP : va_P D vwCl [(h, .inr (6, [.ref a0, .ref a1, .ref a2, .ref a3, .ref a4, .ref a5, .ref a6, .ref a7, .int tp, .int sd])), (a1, zaI k 3 fC), (a2, zaI k 3 fN), (a3, zaI k 3 fL), (a4, zaI k 3 fA), (a5, zaJ k 3 fG), (a6, zaJ k 3 fR), (a0, zaI k 3 (zfill fB 0 3))] H := hP
  have hD : va_D A [(h, .inr (6, [.ref a0, .ref a1, .ref a2, .ref a3, .ref a4, .ref a5, .ref a6, .ref a7, .int tp, .int sd])), (a1, zaI k 3 fC), (a2, zaI k 3 fN), (a3, zaI k 3 fL), (a4, zaI k 3 fA), (a5, zaJ k 3 fG), (a6, zaJ k 3 fR), (a0, zaI k 3 (zfill fB 0 3))] := hD
  refine lv_aload_n hx hb dX7_restore_8 rfl (lv_at hl 0 rfl) ?_
  refine va_get (D := D) (ci := 6) (v := .ref a1) (C := RX7) (T := TX7) (N := 10) hx hb hts hinX7 hown hK hP 0 rfl rfl 1 (Nat.le_of_ble_eq_true rfl) hl15 (fun _ h9 => h9) rfl dX7_restore_9 ?_
  refine lv_iconst (v := 0) hx hb dX7_restore_12 (by decide) ?_
  refine z_callv0 (wc := [(a1, zaI k 3 fC)]) (wr := [(h, .inr (6, [.ref a0, .ref a1, .ref a2, .ref a3, .ref a4, .ref a5, .ref a6, .ref a7, .int tp, .int sd])), (a2, zaI k 3 fN), (a3, zaI k 3 fL), (a4, zaI k 3 fA), (a5, zaJ k 3 fG), (a6, zaJ k 3 fR), (a0, zaI k 3 (zfill fB 0 3))]) (va_runS (As := [.ref a1, .int 0]) (rest := []) ⟨hx, hb, hml, hown, hts⟩ (c_J7_fill_53178 l D k H.size a1 3 fC 0 (by decide)) (va_cwS 2 hts gX7_restore_J7_fill_53178 rfl rfl rfl (by decide +kernel) ⟨Nat.le_of_ble_eq_true rfl, Nat.le_of_ble_eq_true rfl⟩) (z_preS (wc := [(a1, zaI k 3 fC)]) hP hD hK [1] rfl rfl zb0 zp0) rfl rfl hl.1 rfl (lv_room (Nat.le_of_ble_eq_true rfl)) dX7_restore_13 ⟨Nat.zero_le _, Nat.zero_le _⟩) hP hD hS hA [1] [0, 2, 3, 4, 5, 6, 7] rfl rfl rfl (by decide) (fun w H locs hF hP hD hS => ?_)
  subst hF
  have hP : va_P D vwCl [(h, .inr (6, [.ref a0, .ref a1, .ref a2, .ref a3, .ref a4, .ref a5, .ref a6, .ref a7, .int tp, .int sd])), (a2, zaI k 3 fN), (a3, zaI k 3 fL), (a4, zaI k 3 fA), (a5, zaJ k 3 fG), (a6, zaJ k 3 fR), (a0, zaI k 3 (zfill fB 0 3)), (a1, zaI k 3 (zfill fC 0 3))] H := hP
  have hD : va_D A [(h, .inr (6, [.ref a0, .ref a1, .ref a2, .ref a3, .ref a4, .ref a5, .ref a6, .ref a7, .int tp, .int sd])), (a2, zaI k 3 fN), (a3, zaI k 3 fL), (a4, zaI k 3 fA), (a5, zaJ k 3 fG), (a6, zaJ k 3 fR), (a0, zaI k 3 (zfill fB 0 3)), (a1, zaI k 3 (zfill fC 0 3))] := hD
  refine lv_aload_n hx hb dX7_restore_16 rfl (lv_at hl 0 rfl) ?_
  refine va_get (D := D) (ci := 6) (v := .ref a2) (C := RX7) (T := TX7) (N := 10) hx hb hts hinX7 hown hK hP 0 rfl rfl 2 (Nat.le_of_ble_eq_true rfl) hl18 (fun _ h9 => h9) rfl dX7_restore_17 ?_
  refine lv_iconst (v := 0) hx hb dX7_restore_20 (by decide) ?_
  refine z_callv0 (wc := [(a2, zaI k 3 fN)]) (wr := [(h, .inr (6, [.ref a0, .ref a1, .ref a2, .ref a3, .ref a4, .ref a5, .ref a6, .ref a7, .int tp, .int sd])), (a3, zaI k 3 fL), (a4, zaI k 3 fA), (a5, zaJ k 3 fG), (a6, zaJ k 3 fR), (a0, zaI k 3 (zfill fB 0 3)), (a1, zaI k 3 (zfill fC 0 3))]) (va_runS (As := [.ref a2, .int 0]) (rest := []) ⟨hx, hb, hml, hown, hts⟩ (c_J7_fill_53178 l D k H.size a2 3 fN 0 (by decide)) (va_cwS 2 hts gX7_restore_J7_fill_53178 rfl rfl rfl (by decide +kernel) ⟨Nat.le_of_ble_eq_true rfl, Nat.le_of_ble_eq_true rfl⟩) (z_preS (wc := [(a2, zaI k 3 fN)]) hP hD hK [1] rfl rfl zb0 zp0) rfl rfl hl.1 rfl (lv_room (Nat.le_of_ble_eq_true rfl)) dX7_restore_21 ⟨Nat.zero_le _, Nat.zero_le _⟩) hP hD hS hA [1] [0, 2, 3, 4, 5, 6, 7] rfl rfl rfl (by decide) (fun w H locs hF hP hD hS => ?_)
  subst hF
  have hP : va_P D vwCl [(h, .inr (6, [.ref a0, .ref a1, .ref a2, .ref a3, .ref a4, .ref a5, .ref a6, .ref a7, .int tp, .int sd])), (a3, zaI k 3 fL), (a4, zaI k 3 fA), (a5, zaJ k 3 fG), (a6, zaJ k 3 fR), (a0, zaI k 3 (zfill fB 0 3)), (a1, zaI k 3 (zfill fC 0 3)), (a2, zaI k 3 (zfill fN 0 3))] H := hP
  have hD : va_D A [(h, .inr (6, [.ref a0, .ref a1, .ref a2, .ref a3, .ref a4, .ref a5, .ref a6, .ref a7, .int tp, .int sd])), (a3, zaI k 3 fL), (a4, zaI k 3 fA), (a5, zaJ k 3 fG), (a6, zaJ k 3 fR), (a0, zaI k 3 (zfill fB 0 3)), (a1, zaI k 3 (zfill fC 0 3)), (a2, zaI k 3 (zfill fN 0 3))] := hD
  refine lv_aload_n hx hb dX7_restore_24 rfl (lv_at hl 0 rfl) ?_
  refine va_get (D := D) (ci := 6) (v := .ref a3) (C := RX7) (T := TX7) (N := 10) hx hb hts hinX7 hown hK hP 0 rfl rfl 3 (Nat.le_of_ble_eq_true rfl) hl21 (fun _ h9 => h9) rfl dX7_restore_25 ?_
  refine lv_iconst (v := 0) hx hb dX7_restore_28 (by decide) ?_
  refine z_callv0 (wc := [(a3, zaI k 3 fL)]) (wr := [(h, .inr (6, [.ref a0, .ref a1, .ref a2, .ref a3, .ref a4, .ref a5, .ref a6, .ref a7, .int tp, .int sd])), (a4, zaI k 3 fA), (a5, zaJ k 3 fG), (a6, zaJ k 3 fR), (a0, zaI k 3 (zfill fB 0 3)), (a1, zaI k 3 (zfill fC 0 3)), (a2, zaI k 3 (zfill fN 0 3))]) (va_runS (As := [.ref a3, .int 0]) (rest := []) ⟨hx, hb, hml, hown, hts⟩ (c_J7_fill_53178 l D k H.size a3 3 fL 0 (by decide)) (va_cwS 2 hts gX7_restore_J7_fill_53178 rfl rfl rfl (by decide +kernel) ⟨Nat.le_of_ble_eq_true rfl, Nat.le_of_ble_eq_true rfl⟩) (z_preS (wc := [(a3, zaI k 3 fL)]) hP hD hK [1] rfl rfl zb0 zp0) rfl rfl hl.1 rfl (lv_room (Nat.le_of_ble_eq_true rfl)) dX7_restore_29 ⟨Nat.zero_le _, Nat.zero_le _⟩) hP hD hS hA [1] [0, 2, 3, 4, 5, 6, 7] rfl rfl rfl (by decide) (fun w H locs hF hP hD hS => ?_)
  subst hF
  have hP : va_P D vwCl [(h, .inr (6, [.ref a0, .ref a1, .ref a2, .ref a3, .ref a4, .ref a5, .ref a6, .ref a7, .int tp, .int sd])), (a4, zaI k 3 fA), (a5, zaJ k 3 fG), (a6, zaJ k 3 fR), (a0, zaI k 3 (zfill fB 0 3)), (a1, zaI k 3 (zfill fC 0 3)), (a2, zaI k 3 (zfill fN 0 3)), (a3, zaI k 3 (zfill fL 0 3))] H := hP
  have hD : va_D A [(h, .inr (6, [.ref a0, .ref a1, .ref a2, .ref a3, .ref a4, .ref a5, .ref a6, .ref a7, .int tp, .int sd])), (a4, zaI k 3 fA), (a5, zaJ k 3 fG), (a6, zaJ k 3 fR), (a0, zaI k 3 (zfill fB 0 3)), (a1, zaI k 3 (zfill fC 0 3)), (a2, zaI k 3 (zfill fN 0 3)), (a3, zaI k 3 (zfill fL 0 3))] := hD
  refine lv_aload_n hx hb dX7_restore_32 rfl (lv_at hl 0 rfl) ?_
  refine va_get (D := D) (ci := 6) (v := .ref a4) (C := RX7) (T := TX7) (N := 10) hx hb hts hinX7 hown hK hP 0 rfl rfl 4 (Nat.le_of_ble_eq_true rfl) hl24 (fun _ h9 => h9) rfl dX7_restore_33 ?_
  refine lv_iconst (v := 0) hx hb dX7_restore_36 (by decide) ?_
  refine z_callv0 (wc := [(a4, zaI k 3 fA)]) (wr := [(h, .inr (6, [.ref a0, .ref a1, .ref a2, .ref a3, .ref a4, .ref a5, .ref a6, .ref a7, .int tp, .int sd])), (a5, zaJ k 3 fG), (a6, zaJ k 3 fR), (a0, zaI k 3 (zfill fB 0 3)), (a1, zaI k 3 (zfill fC 0 3)), (a2, zaI k 3 (zfill fN 0 3)), (a3, zaI k 3 (zfill fL 0 3))]) (va_runS (As := [.ref a4, .int 0]) (rest := []) ⟨hx, hb, hml, hown, hts⟩ (c_J7_fill_53178 l D k H.size a4 3 fA 0 (by decide)) (va_cwS 2 hts gX7_restore_J7_fill_53178 rfl rfl rfl (by decide +kernel) ⟨Nat.le_of_ble_eq_true rfl, Nat.le_of_ble_eq_true rfl⟩) (z_preS (wc := [(a4, zaI k 3 fA)]) hP hD hK [1] rfl rfl zb0 zp0) rfl rfl hl.1 rfl (lv_room (Nat.le_of_ble_eq_true rfl)) dX7_restore_37 ⟨Nat.zero_le _, Nat.zero_le _⟩) hP hD hS hA [1] [0, 2, 3, 4, 5, 6, 7] rfl rfl rfl (by decide) (fun w H locs hF hP hD hS => ?_)
  subst hF
  have hP : va_P D vwCl [(h, .inr (6, [.ref a0, .ref a1, .ref a2, .ref a3, .ref a4, .ref a5, .ref a6, .ref a7, .int tp, .int sd])), (a5, zaJ k 3 fG), (a6, zaJ k 3 fR), (a0, zaI k 3 (zfill fB 0 3)), (a1, zaI k 3 (zfill fC 0 3)), (a2, zaI k 3 (zfill fN 0 3)), (a3, zaI k 3 (zfill fL 0 3)), (a4, zaI k 3 (zfill fA 0 3))] H := hP
  have hD : va_D A [(h, .inr (6, [.ref a0, .ref a1, .ref a2, .ref a3, .ref a4, .ref a5, .ref a6, .ref a7, .int tp, .int sd])), (a5, zaJ k 3 fG), (a6, zaJ k 3 fR), (a0, zaI k 3 (zfill fB 0 3)), (a1, zaI k 3 (zfill fC 0 3)), (a2, zaI k 3 (zfill fN 0 3)), (a3, zaI k 3 (zfill fL 0 3)), (a4, zaI k 3 (zfill fA 0 3))] := hD
  refine lv_aload_n hx hb dX7_restore_40 rfl (lv_at hl 0 rfl) ?_
  refine va_get (D := D) (ci := 6) (v := .ref a5) (C := RX7) (T := TX7) (N := 10) hx hb hts hinX7 hown hK hP 0 rfl rfl 5 (Nat.le_of_ble_eq_true rfl) hl27 (fun _ h9 => h9) rfl dX7_restore_41 ?_
  refine lv_lconst (v := 0) hx hb dX7_restore_44 (by decide) ?_
  refine z_callv0 (wc := [(a5, zaJ k 3 fG)]) (wr := [(h, .inr (6, [.ref a0, .ref a1, .ref a2, .ref a3, .ref a4, .ref a5, .ref a6, .ref a7, .int tp, .int sd])), (a6, zaJ k 3 fR), (a0, zaI k 3 (zfill fB 0 3)), (a1, zaI k 3 (zfill fC 0 3)), (a2, zaI k 3 (zfill fN 0 3)), (a3, zaI k 3 (zfill fL 0 3)), (a4, zaI k 3 (zfill fA 0 3))]) (va_runS (As := [.ref a5, .long 0]) (rest := []) ⟨hx, hb, hml, hown, hts⟩ (c_J7_fill_d0a16 l D k H.size a5 3 fG 0 (by decide)) (va_cwS 2 hts gX7_restore_J7_fill_d0a16 rfl rfl rfl (by decide +kernel) ⟨Nat.le_of_ble_eq_true rfl, Nat.le_of_ble_eq_true rfl⟩) (z_preS (wc := [(a5, zaJ k 3 fG)]) hP hD hK [1] rfl rfl zb0 zp0) rfl rfl hl.1 rfl (lv_room (Nat.le_of_ble_eq_true rfl)) dX7_restore_45 ⟨Nat.zero_le _, Nat.zero_le _⟩) hP hD hS hA [1] [0, 2, 3, 4, 5, 6, 7] rfl rfl rfl (by decide) (fun w H locs hF hP hD hS => ?_)
  subst hF
  have hP : va_P D vwCl [(h, .inr (6, [.ref a0, .ref a1, .ref a2, .ref a3, .ref a4, .ref a5, .ref a6, .ref a7, .int tp, .int sd])), (a6, zaJ k 3 fR), (a0, zaI k 3 (zfill fB 0 3)), (a1, zaI k 3 (zfill fC 0 3)), (a2, zaI k 3 (zfill fN 0 3)), (a3, zaI k 3 (zfill fL 0 3)), (a4, zaI k 3 (zfill fA 0 3)), (a5, zaJ k 3 (zfill fG 0 3))] H := hP
  have hD : va_D A [(h, .inr (6, [.ref a0, .ref a1, .ref a2, .ref a3, .ref a4, .ref a5, .ref a6, .ref a7, .int tp, .int sd])), (a6, zaJ k 3 fR), (a0, zaI k 3 (zfill fB 0 3)), (a1, zaI k 3 (zfill fC 0 3)), (a2, zaI k 3 (zfill fN 0 3)), (a3, zaI k 3 (zfill fL 0 3)), (a4, zaI k 3 (zfill fA 0 3)), (a5, zaJ k 3 (zfill fG 0 3))] := hD
  refine lv_aload_n hx hb dX7_restore_48 rfl (lv_at hl 0 rfl) ?_
  refine va_get (D := D) (ci := 6) (v := .ref a6) (C := RX7) (T := TX7) (N := 10) hx hb hts hinX7 hown hK hP 0 rfl rfl 6 (Nat.le_of_ble_eq_true rfl) hl31 (fun _ h9 => h9) rfl dX7_restore_49 ?_
  refine lv_lconst (v := 0) hx hb dX7_restore_52 (by decide) ?_
  refine z_callv0 (wc := [(a6, zaJ k 3 fR)]) (wr := [(h, .inr (6, [.ref a0, .ref a1, .ref a2, .ref a3, .ref a4, .ref a5, .ref a6, .ref a7, .int tp, .int sd])), (a0, zaI k 3 (zfill fB 0 3)), (a1, zaI k 3 (zfill fC 0 3)), (a2, zaI k 3 (zfill fN 0 3)), (a3, zaI k 3 (zfill fL 0 3)), (a4, zaI k 3 (zfill fA 0 3)), (a5, zaJ k 3 (zfill fG 0 3))]) (va_runS (As := [.ref a6, .long 0]) (rest := []) ⟨hx, hb, hml, hown, hts⟩ (c_J7_fill_d0a16 l D k H.size a6 3 fR 0 (by decide)) (va_cwS 2 hts gX7_restore_J7_fill_d0a16 rfl rfl rfl (by decide +kernel) ⟨Nat.le_of_ble_eq_true rfl, Nat.le_of_ble_eq_true rfl⟩) (z_preS (wc := [(a6, zaJ k 3 fR)]) hP hD hK [1] rfl rfl zb0 zp0) rfl rfl hl.1 rfl (lv_room (Nat.le_of_ble_eq_true rfl)) dX7_restore_53 ⟨Nat.zero_le _, Nat.zero_le _⟩) hP hD hS hA [1] [0, 2, 3, 4, 5, 6, 7] rfl rfl rfl (by decide) (fun w H locs hF hP hD hS => ?_)
  subst hF
  have hP : va_P D vwCl [(h, .inr (6, [.ref a0, .ref a1, .ref a2, .ref a3, .ref a4, .ref a5, .ref a6, .ref a7, .int tp, .int sd])), (a0, zaI k 3 (zfill fB 0 3)), (a1, zaI k 3 (zfill fC 0 3)), (a2, zaI k 3 (zfill fN 0 3)), (a3, zaI k 3 (zfill fL 0 3)), (a4, zaI k 3 (zfill fA 0 3)), (a5, zaJ k 3 (zfill fG 0 3)), (a6, zaJ k 3 (zfill fR 0 3))] H := hP
  have hD : va_D A [(h, .inr (6, [.ref a0, .ref a1, .ref a2, .ref a3, .ref a4, .ref a5, .ref a6, .ref a7, .int tp, .int sd])), (a0, zaI k 3 (zfill fB 0 3)), (a1, zaI k 3 (zfill fC 0 3)), (a2, zaI k 3 (zfill fN 0 3)), (a3, zaI k 3 (zfill fL 0 3)), (a4, zaI k 3 (zfill fA 0 3)), (a5, zaJ k 3 (zfill fG 0 3)), (a6, zaJ k 3 (zfill fR 0 3))] := hD
  refine lv_aload_n hx hb dX7_restore_56 rfl (lv_at hl 0 rfl) ?_
  refine lv_bipush (v := 25) hx hb dX7_restore_57 (by decide) ?_
  refine va_put (D := D) (ci := 6) (v := .int 25) (ty := .int) (C := RX7) (T := TX7) (N := 10) hx hb hts hinX7 tyX7 tyX7_ok nmX7 hown hK hP hD hS 0 rfl rfl 8 (Nat.le_of_ble_eq_true rfl) hl37 (fun _ h9 => h9) rfl  (by decide +kernel) rfl rfl (Nat.le_of_ble_eq_true rfl) dX7_restore_59 (fun H locs hP hD hS => ?_)
  have hP : va_P D vwCl [(h, .inr (6, [.ref a0, .ref a1, .ref a2, .ref a3, .ref a4, .ref a5, .ref a6, .ref a7, .int 25, .int sd])), (a0, zaI k 3 (zfill fB 0 3)), (a1, zaI k 3 (zfill fC 0 3)), (a2, zaI k 3 (zfill fN 0 3)), (a3, zaI k 3 (zfill fL 0 3)), (a4, zaI k 3 (zfill fA 0 3)), (a5, zaJ k 3 (zfill fG 0 3)), (a6, zaJ k 3 (zfill fR 0 3))] H := hP
  have hD : va_D A [(h, .inr (6, [.ref a0, .ref a1, .ref a2, .ref a3, .ref a4, .ref a5, .ref a6, .ref a7, .int 25, .int sd])), (a0, zaI k 3 (zfill fB 0 3)), (a1, zaI k 3 (zfill fC 0 3)), (a2, zaI k 3 (zfill fN 0 3)), (a3, zaI k 3 (zfill fL 0 3)), (a4, zaI k 3 (zfill fA 0 3)), (a5, zaJ k 3 (zfill fG 0 3)), (a6, zaJ k 3 (zfill fR 0 3))] := hD
  refine lv_aload_n hx hb dX7_restore_62 rfl (lv_at hl 0 rfl) ?_
  refine lv_iconst (v := 0) hx hb dX7_restore_63 (by decide) ?_
  refine va_put (D := D) (ci := 6) (v := .int 0) (ty := .int) (C := RX7) (T := TX7) (N := 10) hx hb hts hinX7 tyX7 tyX7_ok nmX7 hown hK hP hD hS 0 rfl rfl 9 (Nat.le_of_ble_eq_true rfl) hl50 (fun _ h9 => h9) rfl  (by decide +kernel) rfl rfl (Nat.le_of_ble_eq_true rfl) dX7_restore_64 (fun H locs hP hD hS => ?_)
  have hP : va_P D vwCl [(h, .inr (6, [.ref a0, .ref a1, .ref a2, .ref a3, .ref a4, .ref a5, .ref a6, .ref a7, .int 25, .int 0])), (a0, zaI k 3 (zfill fB 0 3)), (a1, zaI k 3 (zfill fC 0 3)), (a2, zaI k 3 (zfill fN 0 3)), (a3, zaI k 3 (zfill fL 0 3)), (a4, zaI k 3 (zfill fA 0 3)), (a5, zaJ k 3 (zfill fG 0 3)), (a6, zaJ k 3 (zfill fR 0 3))] H := hP
  have hD : va_D A [(h, .inr (6, [.ref a0, .ref a1, .ref a2, .ref a3, .ref a4, .ref a5, .ref a6, .ref a7, .int 25, .int 0])), (a0, zaI k 3 (zfill fB 0 3)), (a1, zaI k 3 (zfill fC 0 3)), (a2, zaI k 3 (zfill fN 0 3)), (a3, zaI k 3 (zfill fL 0 3)), (a4, zaI k 3 (zfill fA 0 3)), (a5, zaJ k 3 (zfill fG 0 3)), (a6, zaJ k 3 (zfill fR 0 3))] := hD
  have hP := z_congI hP 1 rfl (g := fun _ => 0) (by (intro j9 hj9; exact zfill_n _ 0 hj9)) (ws' := [(h, .inr (6, [.ref a0, .ref a1, .ref a2, .ref a3, .ref a4, .ref a5, .ref a6, .ref a7, .int 25, .int 0])), (a0, zaI k 3 (fun _ => 0)), (a1, zaI k 3 (zfill fC 0 3)), (a2, zaI k 3 (zfill fN 0 3)), (a3, zaI k 3 (zfill fL 0 3)), (a4, zaI k 3 (zfill fA 0 3)), (a5, zaJ k 3 (zfill fG 0 3)), (a6, zaJ k 3 (zfill fR 0 3))]) rfl
  have hD := z_congDI hD 1 rfl (g := fun _ => 0) (ws' := [(h, .inr (6, [.ref a0, .ref a1, .ref a2, .ref a3, .ref a4, .ref a5, .ref a6, .ref a7, .int 25, .int 0])), (a0, zaI k 3 (fun _ => 0)), (a1, zaI k 3 (zfill fC 0 3)), (a2, zaI k 3 (zfill fN 0 3)), (a3, zaI k 3 (zfill fL 0 3)), (a4, zaI k 3 (zfill fA 0 3)), (a5, zaJ k 3 (zfill fG 0 3)), (a6, zaJ k 3 (zfill fR 0 3))]) rfl
  have hP := z_congI hP 2 rfl (g := fun _ => 0) (by (intro j9 hj9; exact zfill_n _ 0 hj9)) (ws' := [(h, .inr (6, [.ref a0, .ref a1, .ref a2, .ref a3, .ref a4, .ref a5, .ref a6, .ref a7, .int 25, .int 0])), (a0, zaI k 3 (fun _ => 0)), (a1, zaI k 3 (fun _ => 0)), (a2, zaI k 3 (zfill fN 0 3)), (a3, zaI k 3 (zfill fL 0 3)), (a4, zaI k 3 (zfill fA 0 3)), (a5, zaJ k 3 (zfill fG 0 3)), (a6, zaJ k 3 (zfill fR 0 3))]) rfl
  have hD := z_congDI hD 2 rfl (g := fun _ => 0) (ws' := [(h, .inr (6, [.ref a0, .ref a1, .ref a2, .ref a3, .ref a4, .ref a5, .ref a6, .ref a7, .int 25, .int 0])), (a0, zaI k 3 (fun _ => 0)), (a1, zaI k 3 (fun _ => 0)), (a2, zaI k 3 (zfill fN 0 3)), (a3, zaI k 3 (zfill fL 0 3)), (a4, zaI k 3 (zfill fA 0 3)), (a5, zaJ k 3 (zfill fG 0 3)), (a6, zaJ k 3 (zfill fR 0 3))]) rfl
  have hP := z_congI hP 3 rfl (g := fun _ => 0) (by (intro j9 hj9; exact zfill_n _ 0 hj9)) (ws' := [(h, .inr (6, [.ref a0, .ref a1, .ref a2, .ref a3, .ref a4, .ref a5, .ref a6, .ref a7, .int 25, .int 0])), (a0, zaI k 3 (fun _ => 0)), (a1, zaI k 3 (fun _ => 0)), (a2, zaI k 3 (fun _ => 0)), (a3, zaI k 3 (zfill fL 0 3)), (a4, zaI k 3 (zfill fA 0 3)), (a5, zaJ k 3 (zfill fG 0 3)), (a6, zaJ k 3 (zfill fR 0 3))]) rfl
  have hD := z_congDI hD 3 rfl (g := fun _ => 0) (ws' := [(h, .inr (6, [.ref a0, .ref a1, .ref a2, .ref a3, .ref a4, .ref a5, .ref a6, .ref a7, .int 25, .int 0])), (a0, zaI k 3 (fun _ => 0)), (a1, zaI k 3 (fun _ => 0)), (a2, zaI k 3 (fun _ => 0)), (a3, zaI k 3 (zfill fL 0 3)), (a4, zaI k 3 (zfill fA 0 3)), (a5, zaJ k 3 (zfill fG 0 3)), (a6, zaJ k 3 (zfill fR 0 3))]) rfl
  have hP := z_congI hP 4 rfl (g := fun _ => 0) (by (intro j9 hj9; exact zfill_n _ 0 hj9)) (ws' := [(h, .inr (6, [.ref a0, .ref a1, .ref a2, .ref a3, .ref a4, .ref a5, .ref a6, .ref a7, .int 25, .int 0])), (a0, zaI k 3 (fun _ => 0)), (a1, zaI k 3 (fun _ => 0)), (a2, zaI k 3 (fun _ => 0)), (a3, zaI k 3 (fun _ => 0)), (a4, zaI k 3 (zfill fA 0 3)), (a5, zaJ k 3 (zfill fG 0 3)), (a6, zaJ k 3 (zfill fR 0 3))]) rfl
  have hD := z_congDI hD 4 rfl (g := fun _ => 0) (ws' := [(h, .inr (6, [.ref a0, .ref a1, .ref a2, .ref a3, .ref a4, .ref a5, .ref a6, .ref a7, .int 25, .int 0])), (a0, zaI k 3 (fun _ => 0)), (a1, zaI k 3 (fun _ => 0)), (a2, zaI k 3 (fun _ => 0)), (a3, zaI k 3 (fun _ => 0)), (a4, zaI k 3 (zfill fA 0 3)), (a5, zaJ k 3 (zfill fG 0 3)), (a6, zaJ k 3 (zfill fR 0 3))]) rfl
  have hP := z_congI hP 5 rfl (g := fun _ => 0) (by (intro j9 hj9; exact zfill_n _ 0 hj9)) (ws' := [(h, .inr (6, [.ref a0, .ref a1, .ref a2, .ref a3, .ref a4, .ref a5, .ref a6, .ref a7, .int 25, .int 0])), (a0, zaI k 3 (fun _ => 0)), (a1, zaI k 3 (fun _ => 0)), (a2, zaI k 3 (fun _ => 0)), (a3, zaI k 3 (fun _ => 0)), (a4, zaI k 3 (fun _ => 0)), (a5, zaJ k 3 (zfill fG 0 3)), (a6, zaJ k 3 (zfill fR 0 3))]) rfl
  have hD := z_congDI hD 5 rfl (g := fun _ => 0) (ws' := [(h, .inr (6, [.ref a0, .ref a1, .ref a2, .ref a3, .ref a4, .ref a5, .ref a6, .ref a7, .int 25, .int 0])), (a0, zaI k 3 (fun _ => 0)), (a1, zaI k 3 (fun _ => 0)), (a2, zaI k 3 (fun _ => 0)), (a3, zaI k 3 (fun _ => 0)), (a4, zaI k 3 (fun _ => 0)), (a5, zaJ k 3 (zfill fG 0 3)), (a6, zaJ k 3 (zfill fR 0 3))]) rfl
  have hP := z_congJ hP 6 rfl (g := fun _ => 0) (by (intro j9 hj9; exact zfill_n _ 0 hj9)) (ws' := [(h, .inr (6, [.ref a0, .ref a1, .ref a2, .ref a3, .ref a4, .ref a5, .ref a6, .ref a7, .int 25, .int 0])), (a0, zaI k 3 (fun _ => 0)), (a1, zaI k 3 (fun _ => 0)), (a2, zaI k 3 (fun _ => 0)), (a3, zaI k 3 (fun _ => 0)), (a4, zaI k 3 (fun _ => 0)), (a5, zaJ k 3 (fun _ => 0)), (a6, zaJ k 3 (zfill fR 0 3))]) rfl
  have hD := z_congDJ hD 6 rfl (g := fun _ => 0) (ws' := [(h, .inr (6, [.ref a0, .ref a1, .ref a2, .ref a3, .ref a4, .ref a5, .ref a6, .ref a7, .int 25, .int 0])), (a0, zaI k 3 (fun _ => 0)), (a1, zaI k 3 (fun _ => 0)), (a2, zaI k 3 (fun _ => 0)), (a3, zaI k 3 (fun _ => 0)), (a4, zaI k 3 (fun _ => 0)), (a5, zaJ k 3 (fun _ => 0)), (a6, zaJ k 3 (zfill fR 0 3))]) rfl
  have hP := z_congJ hP 7 rfl (g := fun _ => 0) (by (intro j9 hj9; exact zfill_n _ 0 hj9)) (ws' := [(h, .inr (6, [.ref a0, .ref a1, .ref a2, .ref a3, .ref a4, .ref a5, .ref a6, .ref a7, .int 25, .int 0])), (a0, zaI k 3 (fun _ => 0)), (a1, zaI k 3 (fun _ => 0)), (a2, zaI k 3 (fun _ => 0)), (a3, zaI k 3 (fun _ => 0)), (a4, zaI k 3 (fun _ => 0)), (a5, zaJ k 3 (fun _ => 0)), (a6, zaJ k 3 (fun _ => 0))]) rfl
  have hD := z_congDJ hD 7 rfl (g := fun _ => 0) (ws' := [(h, .inr (6, [.ref a0, .ref a1, .ref a2, .ref a3, .ref a4, .ref a5, .ref a6, .ref a7, .int 25, .int 0])), (a0, zaI k 3 (fun _ => 0)), (a1, zaI k 3 (fun _ => 0)), (a2, zaI k 3 (fun _ => 0)), (a3, zaI k 3 (fun _ => 0)), (a4, zaI k 3 (fun _ => 0)), (a5, zaJ k 3 (fun _ => 0)), (a6, zaJ k 3 (fun _ => 0))]) rfl
  have hP9 := hP.sub (ws' := [(h, .inr (6, [.ref a0, .ref a1, .ref a2, .ref a3, .ref a4, .ref a5, .ref a6, .ref a7, .int 25, .int 0])), (a0, zaI k 3 (fun _ => 0)), (a1, zaI k 3 (fun _ => 0)), (a2, zaI k 3 (fun _ => 0)), (a3, zaI k 3 (fun _ => 0)), (a4, zaI k 3 (fun _ => 0)), (a5, zaJ k 3 (fun _ => 0)), (a6, zaJ k 3 (fun _ => 0))]) [0, 1, 2, 3, 4, 5, 6, 7] rfl
  have hD9 := hD.sub (ws' := [(h, .inr (6, [.ref a0, .ref a1, .ref a2, .ref a3, .ref a4, .ref a5, .ref a6, .ref a7, .int 25, .int 0])), (a0, zaI k 3 (fun _ => 0)), (a1, zaI k 3 (fun _ => 0)), (a2, zaI k 3 (fun _ => 0)), (a3, zaI k 3 (fun _ => 0)), (a4, zaI k 3 (fun _ => 0)), (a5, zaJ k 3 (fun _ => 0)), (a6, zaJ k 3 (fun _ => 0))]) [0, 1, 2, 3, 4, 5, 6, 7] (by decide) rfl
  exact W.vret hx hb hr (fun t9 ht9 hW9 => ⟨⟨[(h, .inr (6, [.ref a0, .ref a1, .ref a2, .ref a3, .ref a4, .ref a5, .ref a6, .ref a7, .int 25, .int 0])), (a0, zaI k 3 (fun _ => 0)), (a1, zaI k 3 (fun _ => 0)), (a2, zaI k 3 (fun _ => 0)), (a3, zaI k 3 (fun _ => 0)), (a4, zaI k 3 (fun _ => 0)), (a5, zaJ k 3 (fun _ => 0)), (a6, zaJ k 3 (fun _ => 0))], rfl, rfl, by rw [ht9]; exact hP9, hD9⟩, hS.F ht9⟩) hS.2.2 dX7_restore_67
